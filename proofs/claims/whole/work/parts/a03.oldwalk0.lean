/-! Walks over Work and strings, written by wip/whole/gen_more.py -/
theorem d_Bx_gather_0 : decode prog_3_method_3_code 0 = .ok (.aload_n 0, 1) := by decide +kernel
theorem d_Bx_gather_1 : decode prog_3_method_3_code 1 = .ok (.iload_n 2, 1) := by decide +kernel
theorem d_Bx_gather_2 : decode prog_3_method_3_code 2 = .ok (.invokevirtual 52, 3) := by decide +kernel
theorem d_Bx_gather_5 : decode prog_3_method_3_code 5 = .ok (.aload_n 0, 1) := by decide +kernel
theorem d_Bx_gather_6 : decode prog_3_method_3_code 6 = .ok (.invokevirtual 56, 3) := by decide +kernel
theorem d_Bx_gather_9 : decode prog_3_method_3_code 9 = .ok (.istore_n 3, 1) := by decide +kernel
theorem d_Bx_gather_10 : decode prog_3_method_3_code 10 = .ok (.iload_n 3, 1) := by decide +kernel
theorem d_Bx_gather_11 : decode prog_3_method_3_code 11 = .ok (.ifCond .lt 22, 3) := by decide +kernel
theorem d_Bx_gather_33 : decode prog_3_method_3_code 33 = .ok (.aload_n 1, 1) := by decide +kernel
theorem d_Bx_gather_34 : decode prog_3_method_3_code 34 = .ok (.getstatic 64, 3) := by decide +kernel
theorem d_Bx_gather_37 : decode prog_3_method_3_code 37 = .ok (.if_acmp .ne 7, 3) := by decide +kernel
theorem d_Bx_gather_44 : decode prog_3_method_3_code 44 = .ok (.lconst 0, 1) := by decide +kernel
theorem d_Bx_gather_45 : decode prog_3_method_3_code 45 = .ok (.lstore 4, 2) := by decide +kernel
theorem d_Bx_gather_47 : decode prog_3_method_3_code 47 = .ok (.iconst 0, 1) := by decide +kernel
theorem d_Bx_gather_48 : decode prog_3_method_3_code 48 = .ok (.istore 6, 2) := by decide +kernel
theorem d_Bx_gather_50 : decode prog_3_method_3_code 50 = .ok (.aload_n 0, 1) := by decide +kernel
theorem d_Bx_gather_51 : decode prog_3_method_3_code 51 = .ok (.getfield 46, 3) := by decide +kernel
theorem d_Bx_gather_54 : decode prog_3_method_3_code 54 = .ok (.istore 7, 2) := by decide +kernel
theorem d_Bx_gather_40 : decode prog_3_method_3_code 40 = .ok (.lconst 1, 1) := by decide +kernel
theorem d_Bx_gather_41 : decode prog_3_method_3_code 41 = .ok (.goto 4, 3) := by decide +kernel
theorem d_Bx_gather_14 : decode prog_3_method_3_code 14 = .ok (.aload_n 0, 1) := by decide +kernel
theorem d_Bx_gather_15 : decode prog_3_method_3_code 15 = .ok (.getfield 9, 3) := by decide +kernel
theorem d_Bx_gather_18 : decode prog_3_method_3_code 18 = .ok (.iload_n 2, 1) := by decide +kernel
theorem d_Bx_gather_19 : decode prog_3_method_3_code 19 = .ok (.iconst 4, 1) := by decide +kernel
theorem d_Bx_gather_20 : decode prog_3_method_3_code 20 = .ok (.aload_n 0, 1) := by decide +kernel
theorem d_Bx_gather_21 : decode prog_3_method_3_code 21 = .ok (.getfield 19, 3) := by decide +kernel
theorem d_Bx_gather_24 : decode prog_3_method_3_code 24 = .ok (.getfield 22, 3) := by decide +kernel
theorem d_Bx_gather_27 : decode prog_3_method_3_code 27 = .ok (.iload_n 3, 1) := by decide +kernel
theorem d_Bx_gather_28 : decode prog_3_method_3_code 28 = .ok (.laload, 1) := by decide +kernel
theorem d_Bx_gather_29 : decode prog_3_method_3_code 29 = .ok (.invokevirtual 60, 3) := by decide +kernel
theorem d_Bx_gather_32 : decode prog_3_method_3_code 32 = .ok (.return_, 1) := by decide +kernel
theorem d_Bx_gather_56 : decode prog_3_method_3_code 56 = .ok (.iload 7, 2) := by decide +kernel
theorem d_Bx_gather_58 : decode prog_3_method_3_code 58 = .ok (.aload_n 0, 1) := by decide +kernel
theorem d_Bx_gather_59 : decode prog_3_method_3_code 59 = .ok (.getfield 49, 3) := by decide +kernel
theorem d_Bx_gather_62 : decode prog_3_method_3_code 62 = .ok (.if_icmp .gt 127, 3) := by decide +kernel
theorem d_Bx_gather_189 : decode prog_3_method_3_code 189 = .ok (.aload_n 1, 1) := by decide +kernel
theorem d_Bx_gather_190 : decode prog_3_method_3_code 190 = .ok (.getstatic 86, 3) := by decide +kernel
theorem d_Bx_gather_193 : decode prog_3_method_3_code 193 = .ok (.if_acmp .ne 15, 3) := by decide +kernel
theorem d_Bx_gather_208 : decode prog_3_method_3_code 208 = .ok (.aload_n 0, 1) := by decide +kernel
theorem d_Bx_gather_209 : decode prog_3_method_3_code 209 = .ok (.getfield 9, 3) := by decide +kernel
theorem d_Bx_gather_212 : decode prog_3_method_3_code 212 = .ok (.iload_n 2, 1) := by decide +kernel
theorem d_Bx_gather_213 : decode prog_3_method_3_code 213 = .ok (.iconst 1, 1) := by decide +kernel
theorem d_Bx_gather_214 : decode prog_3_method_3_code 214 = .ok (.lload 4, 2) := by decide +kernel
theorem d_Bx_gather_216 : decode prog_3_method_3_code 216 = .ok (.invokevirtual 60, 3) := by decide +kernel
theorem d_Bx_gather_219 : decode prog_3_method_3_code 219 = .ok (.return_, 1) := by decide +kernel
theorem d_Bx_gather_196 : decode prog_3_method_3_code 196 = .ok (.aload_n 0, 1) := by decide +kernel
theorem d_Bx_gather_197 : decode prog_3_method_3_code 197 = .ok (.iload_n 2, 1) := by decide +kernel
theorem d_Bx_gather_198 : decode prog_3_method_3_code 198 = .ok (.lload 4, 2) := by decide +kernel
theorem d_Bx_gather_200 : decode prog_3_method_3_code 200 = .ok (.iload 6, 2) := by decide +kernel
theorem d_Bx_gather_202 : decode prog_3_method_3_code 202 = .ok (.invokevirtual 89, 3) := by decide +kernel
theorem d_Bx_gather_205 : decode prog_3_method_3_code 205 = .ok (.goto 14, 3) := by decide +kernel
theorem d_Bx_gather_65 : decode prog_3_method_3_code 65 = .ok (.aload_n 0, 1) := by decide +kernel
theorem d_Bx_gather_66 : decode prog_3_method_3_code 66 = .ok (.getfield 36, 3) := by decide +kernel
theorem d_Bx_gather_69 : decode prog_3_method_3_code 69 = .ok (.istore 8, 2) := by decide +kernel
theorem d_Bx_gather_71 : decode prog_3_method_3_code 71 = .ok (.iload 8, 2) := by decide +kernel
theorem d_Bx_gather_73 : decode prog_3_method_3_code 73 = .ok (.aload_n 0, 1) := by decide +kernel
theorem d_Bx_gather_74 : decode prog_3_method_3_code 74 = .ok (.getfield 43, 3) := by decide +kernel
theorem d_Bx_gather_77 : decode prog_3_method_3_code 77 = .ok (.if_icmp .gt 106, 3) := by decide +kernel
theorem d_Bx_gather_183 : decode prog_3_method_3_code 183 = .ok (.iinc 7 1, 3) := by decide +kernel
theorem d_Bx_gather_186 : decode prog_3_method_3_code 186 = .ok (.goto (-130), 3) := by decide +kernel
theorem d_Bx_gather_80 : decode prog_3_method_3_code 80 = .ok (.aload_n 0, 1) := by decide +kernel
theorem d_Bx_gather_81 : decode prog_3_method_3_code 81 = .ok (.getfield 15, 3) := by decide +kernel
theorem d_Bx_gather_84 : decode prog_3_method_3_code 84 = .ok (.iload 8, 2) := by decide +kernel
theorem d_Bx_gather_86 : decode prog_3_method_3_code 86 = .ok (.iload 7, 2) := by decide +kernel
theorem d_Bx_gather_88 : decode prog_3_method_3_code 88 = .ok (.invokestatic 70, 3) := by decide +kernel
theorem d_Bx_gather_91 : decode prog_3_method_3_code 91 = .ok (.iaload, 1) := by decide +kernel
theorem d_Bx_gather_92 : decode prog_3_method_3_code 92 = .ok (.istore 9, 2) := by decide +kernel
theorem d_Bx_gather_94 : decode prog_3_method_3_code 94 = .ok (.aload_n 0, 1) := by decide +kernel
theorem d_Bx_gather_95 : decode prog_3_method_3_code 95 = .ok (.getfield 19, 3) := by decide +kernel
theorem d_Bx_gather_98 : decode prog_3_method_3_code 98 = .ok (.getfield 73, 3) := by decide +kernel
theorem d_Bx_gather_101 : decode prog_3_method_3_code 101 = .ok (.iload 9, 2) := by decide +kernel
theorem d_Bx_gather_103 : decode prog_3_method_3_code 103 = .ok (.iaload, 1) := by decide +kernel
theorem d_Bx_gather_104 : decode prog_3_method_3_code 104 = .ok (.iconst 1, 1) := by decide +kernel
theorem d_Bx_gather_105 : decode prog_3_method_3_code 105 = .ok (.if_icmp .eq 6, 3) := by decide +kernel
theorem d_Bx_gather_111 : decode prog_3_method_3_code 111 = .ok (.aload_n 0, 1) := by decide +kernel
theorem d_Bx_gather_112 : decode prog_3_method_3_code 112 = .ok (.getfield 19, 3) := by decide +kernel
theorem d_Bx_gather_115 : decode prog_3_method_3_code 115 = .ok (.getfield 22, 3) := by decide +kernel
theorem d_Bx_gather_118 : decode prog_3_method_3_code 118 = .ok (.iload 9, 2) := by decide +kernel
theorem d_Bx_gather_120 : decode prog_3_method_3_code 120 = .ok (.laload, 1) := by decide +kernel
theorem d_Bx_gather_121 : decode prog_3_method_3_code 121 = .ok (.lstore 10, 2) := by decide +kernel
theorem d_Bx_gather_123 : decode prog_3_method_3_code 123 = .ok (.aload_n 1, 1) := by decide +kernel
theorem d_Bx_gather_124 : decode prog_3_method_3_code 124 = .ok (.lload 4, 2) := by decide +kernel
theorem d_Bx_gather_126 : decode prog_3_method_3_code 126 = .ok (.lload 10, 2) := by decide +kernel
theorem d_Bx_gather_128 : decode prog_3_method_3_code 128 = .ok (.invokestatic 76, 3) := by decide +kernel
theorem d_Bx_gather_131 : decode prog_3_method_3_code 131 = .ok (.ifCond .ne 16, 3) := by decide +kernel
theorem d_Bx_gather_147 : decode prog_3_method_3_code 147 = .ok (.iload 6, 2) := by decide +kernel
theorem d_Bx_gather_149 : decode prog_3_method_3_code 149 = .ok (.ifCond .ne 15, 3) := by decide +kernel
theorem d_Bx_gather_164 : decode prog_3_method_3_code 164 = .ok (.aload_n 1, 1) := by decide +kernel
theorem d_Bx_gather_165 : decode prog_3_method_3_code 165 = .ok (.lload 4, 2) := by decide +kernel
theorem d_Bx_gather_167 : decode prog_3_method_3_code 167 = .ok (.lload 10, 2) := by decide +kernel
theorem d_Bx_gather_169 : decode prog_3_method_3_code 169 = .ok (.invokestatic 82, 3) := by decide +kernel
theorem d_Bx_gather_172 : decode prog_3_method_3_code 172 = .ok (.lstore 4, 2) := by decide +kernel
theorem d_Bx_gather_174 : decode prog_3_method_3_code 174 = .ok (.iinc 6 1, 3) := by decide +kernel
theorem d_Bx_gather_177 : decode prog_3_method_3_code 177 = .ok (.iinc 8 1, 3) := by decide +kernel
theorem d_Bx_gather_180 : decode prog_3_method_3_code 180 = .ok (.goto (-109), 3) := by decide +kernel
theorem d_Bx_gather_152 : decode prog_3_method_3_code 152 = .ok (.aload_n 1, 1) := by decide +kernel
theorem d_Bx_gather_153 : decode prog_3_method_3_code 153 = .ok (.getstatic 64, 3) := by decide +kernel
theorem d_Bx_gather_156 : decode prog_3_method_3_code 156 = .ok (.if_acmp .eq 8, 3) := by decide +kernel
theorem d_Bx_gather_159 : decode prog_3_method_3_code 159 = .ok (.lload 10, 2) := by decide +kernel
theorem d_Bx_gather_161 : decode prog_3_method_3_code 161 = .ok (.goto 11, 3) := by decide +kernel
theorem d_Bx_gather_134 : decode prog_3_method_3_code 134 = .ok (.aload_n 0, 1) := by decide +kernel
theorem d_Bx_gather_135 : decode prog_3_method_3_code 135 = .ok (.getfield 9, 3) := by decide +kernel
theorem d_Bx_gather_138 : decode prog_3_method_3_code 138 = .ok (.iload_n 2, 1) := by decide +kernel
theorem d_Bx_gather_139 : decode prog_3_method_3_code 139 = .ok (.iconst 4, 1) := by decide +kernel
theorem d_Bx_gather_140 : decode prog_3_method_3_code 140 = .ok (.ldc2_w 80, 3) := by decide +kernel
theorem d_Bx_gather_143 : decode prog_3_method_3_code 143 = .ok (.invokevirtual 60, 3) := by decide +kernel
theorem d_Bx_gather_146 : decode prog_3_method_3_code 146 = .ok (.return_, 1) := by decide +kernel
theorem d_Bx_gather_108 : decode prog_3_method_3_code 108 = .ok (.goto 69, 3) := by decide +kernel
set_option maxHeartbeats 4000000 in
theorem w_Bx_gather_0 {l : Launch} {G : gG} {d : Nat} {X : gX} {M : gM} {k : gM → Prop} {c : Nat} (hX : glX X c) {Q : gQ} (hO : gOld G Q) {w1 : Nat} (hw1 : w1 < 52) {x2 : Int} (hx2 : g32 x2) {v0 : Nat} (hv0 : X.2.2 (c + 1167) 2 = v0 ∧ gvX X v0 401) (T : cV l G y_Bx_open (gRm d) true [gR G (c + 1167), gI x2] X M (fun M1 => (cI l G y_Bx_firstError (gRm d) false [gR G (c + 1167)] X M1 (fun v3 M2 => ((v3 < 0 → ((¬ w1 = 15 → (g32 (M2 (c + 1167) 5) → (wp l G y_Bx_gather (gRm (d + 1)) true (kkV X k) true 56 [.val (gR G (c + 1167)), .val (.ref (Q.1 w1)), .val (gI x2), .unset, .val (gL 0), .unset, .val (gI 0), .val (gI (M2 (c + 1167) 5)), .unset, .unset, .unset, .unset] [] X M2 0 0))) ∧ (w1 = 15 → (g32 (M2 (c + 1167) 5) → (wp l G y_Bx_gather (gRm (d + 1)) true (kkV X k) true 56 [.val (gR G (c + 1167)), .val (.ref (Q.1 w1)), .val (gI x2), .unset, .val (gL 1), .unset, .val (gI 0), .val (gI (M2 (c + 1167) 5)), .unset, .unset, .unset, .unset] [] X M2 0 0))))) ∧ (¬ v3 < 0 → (((0 : Int) ≤ v3 ∧ v3 < 401) ∧ (g64 (M2 (v0 + 2) (Int.toNat v3)) → (cV l G y_Vl_set (gRm d) true [gR G (c + 1058), gI x2, gI 4, gL (M2 (v0 + 2) (Int.toNat v3))] X M2 (fun M9 => (k M9))))))))))) : wp l G y_Bx_gather (gRm (d + 1)) true (kkV X k) false 0 [.val (gR G (c + 1167)), .val (.ref (Q.1 w1)), .val (gI x2), .unset, .unset, .unset, .unset, .unset, .unset, .unset, .unset, .unset] [] X M 0 0 := by
  refine wp_aload_n d_Bx_gather_0 rfl rfl (g_nz (gl_1 hX 1167)) ?_
  refine wp_iload_n d_Bx_gather_1 rfl rfl ?_
  refine xcV_V (md' := true) (As := [gI x2]) (st := []) d_Bx_gather_2 ca_Bx_open ml_Bx_52 im_Bx_open se_Bx_open gc_Bx (gl_1 hX 1167) (gl_2 hX (a := 1167) (by decide)) (gl_s hX 39 rfl) rfl (by decide) (by decide) rfl (fun _ => rfl) (fun _ => rfl) T (fun M1 T => ?_)
  refine wp_aload_n d_Bx_gather_5 rfl rfl (g_nz (gl_1 hX 1167)) ?_
  refine xcV_I (md' := true) (As := []) (st := []) d_Bx_gather_6 ca_Bx_firstError ml_Bx_56 im_Bx_firstError se_Bx_firstError gc_Bx (gl_1 hX 1167) (gl_2 hX (a := 1167) (by decide)) (gl_s hX 39 rfl) rfl (by decide) (by decide) rfl (fun _ => rfl) (fun _ => rfl) T (fun v3 M2 h4 T => ?_)
  refine wp_istore_n (L' := [.val (gR G (c + 1167)), .val (.ref (Q.1 w1)), .val (gI x2), .val (gI v3), .unset, .unset, .unset, .unset, .unset, .unset, .unset, .unset]) d_Bx_gather_9 rfl (by decide) rfl ?_
  refine wp_iload_n d_Bx_gather_10 rfl rfl ?_
  refine xz_lt (tgt := 33) d_Bx_gather_11 (by decide) (w32_id h4) (fun h10 => ?_) (fun h10 => ?_)
  · have T := T.1 h10
    refine wp_aloadO_n d_Bx_gather_33 rfl rfl ?_
    refine wp_gets d_Bx_gather_34 fs_Bx_64 (fun U hU => ((hO U hU).1 15 (by decide)).1) ?_
    refine xo_ne (tgt := 44) hO d_Bx_gather_37 (by decide) hw1 (by decide) (fun h7 => ?_) (fun h7 => ?_)
    · have T := T.1 h7
      refine wp_lconst0 d_Bx_gather_44 ?_
      refine wp_lstore (L' := [.val (gR G (c + 1167)), .val (.ref (Q.1 w1)), .val (gI x2), .val (gI v3), .val (gL 0), .unset, .unset, .unset, .unset, .unset, .unset, .unset]) d_Bx_gather_45 (by decide) rfl ?_
      refine wp_iconst d_Bx_gather_47 ?_
      refine wp_istore (L' := [.val (gR G (c + 1167)), .val (.ref (Q.1 w1)), .val (gI x2), .val (gI v3), .val (gL 0), .unset, .val (gI 0), .unset, .unset, .unset, .unset, .unset]) d_Bx_gather_48 (by decide) rfl ?_
      refine wp_aload_n d_Bx_gather_50 rfl rfl (g_nz (gl_1 hX 1167)) ?_
      refine xgetI d_Bx_gather_51 gc_Bx f_Bx_46.1 f_Bx_46.2.1 f_Bx_46.2.2.1 (gl_1 hX 1167) (gl_2 hX (a := 1167) (by decide)) (gl_s hX 39 rfl) f_Bx_46.2.2.2.2.1 (fun h5 => ?_)
      have T := T h5
      refine wp_istore (L' := [.val (gR G (c + 1167)), .val (.ref (Q.1 w1)), .val (gI x2), .val (gI v3), .val (gL 0), .unset, .val (gI 0), .val (gI (M2 (c + 1167) 5)), .unset, .unset, .unset, .unset]) d_Bx_gather_54 (by decide) rfl ?_
      exact wp_md (wpt T (And.intro rfl (And.intro rfl (And.intro rfl (And.intro rfl (And.intro rfl (And.intro rfl True.intro)))))))
    · have T := T.2 h7
      refine wp_lconst1 d_Bx_gather_40 ?_
      refine wp_goto (tgt := 45) d_Bx_gather_41 (by decide) ?_
      refine wp_lstore (L' := [.val (gR G (c + 1167)), .val (.ref (Q.1 w1)), .val (gI x2), .val (gI v3), .val (gL 1), .unset, .unset, .unset, .unset, .unset, .unset, .unset]) d_Bx_gather_45 (by decide) rfl ?_
      refine wp_iconst d_Bx_gather_47 ?_
      refine wp_istore (L' := [.val (gR G (c + 1167)), .val (.ref (Q.1 w1)), .val (gI x2), .val (gI v3), .val (gL 1), .unset, .val (gI 0), .unset, .unset, .unset, .unset, .unset]) d_Bx_gather_48 (by decide) rfl ?_
      refine wp_aload_n d_Bx_gather_50 rfl rfl (g_nz (gl_1 hX 1167)) ?_
      refine xgetI d_Bx_gather_51 gc_Bx f_Bx_46.1 f_Bx_46.2.1 f_Bx_46.2.2.1 (gl_1 hX 1167) (gl_2 hX (a := 1167) (by decide)) (gl_s hX 39 rfl) f_Bx_46.2.2.2.2.1 (fun h6 => ?_)
      have T := T h6
      refine wp_istore (L' := [.val (gR G (c + 1167)), .val (.ref (Q.1 w1)), .val (gI x2), .val (gI v3), .val (gL 1), .unset, .val (gI 0), .val (gI (M2 (c + 1167) 5)), .unset, .unset, .unset, .unset]) d_Bx_gather_54 (by decide) rfl ?_
      exact wp_md (wpt T (And.intro rfl (And.intro rfl (And.intro rfl (And.intro rfl (And.intro rfl (And.intro rfl True.intro)))))))
  · have T := T.2 h10
    refine wp_aload_n d_Bx_gather_14 rfl rfl (g_nz (gl_1 hX 1167)) ?_
    refine xgetR d_Bx_gather_15 gc_Bx f_Bx_9.1 f_Bx_9.2.1 f_Bx_9.2.2.1 (gl_1 hX 1167) (gl_2 hX (a := 1167) (by decide)) (gl_s hX 39 rfl) f_Bx_9.2.2.2.2.1 (gl_f hX 46 rfl) ?_
    refine wp_iload_n d_Bx_gather_18 rfl rfl ?_
    refine wp_iconst d_Bx_gather_19 ?_
    refine wp_aload_n d_Bx_gather_20 rfl rfl (g_nz (gl_1 hX 1167)) ?_
    refine xgetR d_Bx_gather_21 gc_Bx f_Bx_19.1 f_Bx_19.2.1 f_Bx_19.2.2.1 (gl_1 hX 1167) (gl_2 hX (a := 1167) (by decide)) (gl_s hX 39 rfl) f_Bx_19.2.2.2.2.1 hv0.1 ?_
    refine xgetR d_Bx_gather_24 gc_Vl f_Bx_22.1 f_Bx_22.2.1 f_Bx_22.2.2.1 hv0.2.1 (gv_2 hv0.2) hv0.2.2.2.1 f_Bx_22.2.2.2.2.1 (gv_r2 hv0.2).1 ?_
    refine wp_iload_n d_Bx_gather_27 rfl rfl ?_
    refine wp_laload d_Bx_gather_28 (gv_r2 hv0.2).2.2.1 (gv_r2 hv0.2).2.2.2 (gv_r2 hv0.2).2.1 (g32_n T.1 (gv_n hv0.2)) T.1.1 T.1.2 (fun h8 => ?_)
    have T := T.2 h8
    refine xcV_V (md' := true) (As := [gI x2, gI 4, gL (M2 (v0 + 2) (Int.toNat v3))]) (st := []) d_Bx_gather_29 ca_Vl_set ml_Bx_60 im_Vl_set se_Vl_set gc_Vl (gl_stk hX).1 (gv_2 (gl_stk hX)) (gl_stk hX).2.2.1 rfl (by decide) (by decide) rfl (fun _ => rfl) (fun _ => rfl) T (fun M9 T => ?_)
    exact wp_return d_Bx_gather_32 rfl (fun _ => rfl) (Nat.zero_le _) (Nat.zero_le _) (kV_mk T)
set_option maxHeartbeats 4000000 in
theorem w_Bx_gather_56 {l : Launch} {G : gG} {d : Nat} {X : gX} {M : gM} {k : gM → Prop} {c : Nat} (hX : glX X c) {Q : gQ} (hO : gOld G Q) {x2 : Int} (hx2 : g32 x2) {x4 : Int} (hx4 : g64 x4) {x6 : Int} (hx6 : g32 x6) {x7 : Int} (hx7 : g32 x7) {v0 : Nat} (hv0 : X.2.2 (c + 1167) 2 = v0 ∧ gvX X v0 401) {w1 : Nat} (hw1 : w1 < 52) (T : g32 (M (c + 1167) 6) → ((M (c + 1167) 6 < x7 → ((¬ w1 = 18 → (cV l G y_Vl_set (gRm d) true [gR G (c + 1058), gI x2, gI 1, gL x4] X M (fun M12 => (k M12)))) ∧ (w1 = 18 → (cV l G y_Bx_average (gRm d) true [gR G (c + 1167), gI x2, gL x4, gI x6] X M (fun M13 => (k M13)))))) ∧ (¬ M (c + 1167) 6 < x7 → (g32 (M (c + 1167) 3) → (wp l G y_Bx_gather (gRm (d + 1)) true (kkV X k) true 71 [.val (gR G (c + 1167)), .val (.ref (Q.1 w1)), .val (gI x2), .unset, .val (gL x4), .unset, .val (gI x6), .val (gI x7), .val (gI (M (c + 1167) 3)), .unset, .unset, .unset] [] X M 0 0))))) : wp l G y_Bx_gather (gRm (d + 1)) true (kkV X k) true 56 [.val (gR G (c + 1167)), .val (.ref (Q.1 w1)), .val (gI x2), .unset, .val (gL x4), .unset, .val (gI x6), .val (gI x7), .unset, .unset, .unset, .unset] [] X M 0 0 := by
  refine wp_iload d_Bx_gather_56 rfl ?_
  refine wp_aload_n d_Bx_gather_58 rfl rfl (g_nz (gl_1 hX 1167)) ?_
  refine xgetI d_Bx_gather_59 gc_Bx f_Bx_49.1 f_Bx_49.2.1 f_Bx_49.2.2.1 (gl_1 hX 1167) (gl_2 hX (a := 1167) (by decide)) (gl_s hX 39 rfl) f_Bx_49.2.2.2.2.1 (fun h11 => ?_)
  have T := T h11
  refine xi_gt (tgt := 189) d_Bx_gather_62 (by decide) (w32_id hx7) (w32_id h11) (fun h16 => ?_) (fun h16 => ?_)
  · have T := T.1 h16
    refine wp_aloadO_n d_Bx_gather_189 rfl rfl ?_
    refine wp_gets d_Bx_gather_190 fs_Bx_86 (fun U hU => ((hO U hU).1 18 (by decide)).1) ?_
    refine xo_ne (tgt := 208) hO d_Bx_gather_193 (by decide) hw1 (by decide) (fun h14 => ?_) (fun h14 => ?_)
    · have T := T.1 h14
      refine wp_aload_n d_Bx_gather_208 rfl rfl (g_nz (gl_1 hX 1167)) ?_
      refine xgetR d_Bx_gather_209 gc_Bx f_Bx_9.1 f_Bx_9.2.1 f_Bx_9.2.2.1 (gl_1 hX 1167) (gl_2 hX (a := 1167) (by decide)) (gl_s hX 39 rfl) f_Bx_9.2.2.2.2.1 (gl_f hX 46 rfl) ?_
      refine wp_iload_n d_Bx_gather_212 rfl rfl ?_
      refine wp_iconst d_Bx_gather_213 ?_
      refine wp_lload d_Bx_gather_214 rfl ?_
      refine xcV_V (md' := true) (As := [gI x2, gI 1, gL x4]) (st := []) d_Bx_gather_216 ca_Vl_set ml_Bx_60 im_Vl_set se_Vl_set gc_Vl (gl_stk hX).1 (gv_2 (gl_stk hX)) (gl_stk hX).2.2.1 rfl (by decide) (by decide) rfl (fun _ => rfl) (fun _ => rfl) T (fun M12 T => ?_)
      exact wp_return d_Bx_gather_219 rfl (fun _ => rfl) (Nat.zero_le _) (Nat.zero_le _) (kV_mk T)
    · have T := T.2 h14
      refine wp_aload_n d_Bx_gather_196 rfl rfl (g_nz (gl_1 hX 1167)) ?_
      refine wp_iload_n d_Bx_gather_197 rfl rfl ?_
      refine wp_lload d_Bx_gather_198 rfl ?_
      refine wp_iload d_Bx_gather_200 rfl ?_
      refine xcV_V (md' := true) (As := [gI x2, gL x4, gI x6]) (st := []) d_Bx_gather_202 ca_Bx_average ml_Bx_89 im_Bx_average se_Bx_average gc_Bx (gl_1 hX 1167) (gl_2 hX (a := 1167) (by decide)) (gl_s hX 39 rfl) rfl (by decide) (by decide) rfl (fun _ => rfl) (fun _ => rfl) T (fun M13 T => ?_)
      refine wp_goto (tgt := 219) d_Bx_gather_205 (by decide) ?_
      exact wp_return d_Bx_gather_219 rfl (fun _ => rfl) (Nat.zero_le _) (Nat.zero_le _) (kV_mk T)
  · have T := T.2 h16
    refine wp_aload_n d_Bx_gather_65 rfl rfl (g_nz (gl_1 hX 1167)) ?_
    refine xgetI d_Bx_gather_66 gc_Bx f_Bx_36.1 f_Bx_36.2.1 f_Bx_36.2.2.1 (gl_1 hX 1167) (gl_2 hX (a := 1167) (by decide)) (gl_s hX 39 rfl) f_Bx_36.2.2.2.2.1 (fun h15 => ?_)
    have T := T h15
    refine wp_istore (L' := [.val (gR G (c + 1167)), .val (.ref (Q.1 w1)), .val (gI x2), .unset, .val (gL x4), .unset, .val (gI x6), .val (gI x7), .val (gI (M (c + 1167) 3)), .unset, .unset, .unset]) d_Bx_gather_69 (by decide) rfl ?_
    exact wp_md (wpt T (And.intro rfl (And.intro rfl (And.intro rfl (And.intro rfl (And.intro rfl (And.intro rfl (And.intro rfl True.intro))))))))
set_option maxHeartbeats 4000000 in
theorem w_Bx_gather_71 {l : Launch} {G : gG} {d : Nat} {X : gX} {M : gM} {k : gM → Prop} {c : Nat} (hX : glX X c) {Q : gQ} (hO : gOld G Q) {x2 : Int} (hx2 : g32 x2) {x4 : Int} (hx4 : g64 x4) {x6 : Int} (hx6 : g32 x6) {x7 : Int} (hx7 : g32 x7) {x8 : Int} (hx8 : g32 x8) {v0 : Nat} (hv0 : X.2.2 (c + 1167) 2 = v0 ∧ gvX X v0 401) {w1 : Nat} (hw1 : w1 < 52) (T : g32 (M (c + 1167) 4) → ((M (c + 1167) 4 < x8 → (wp l G y_Bx_gather (gRm (d + 1)) true (kkV X k) true 56 [.val (gR G (c + 1167)), .val (.ref (Q.1 w1)), .val (gI x2), .unset, .val (gL x4), .unset, .val (gI x6), .val (gI (w32 (x7 + 1))), .unset, .unset, .unset, .unset] [] X M 0 0)) ∧ (¬ M (c + 1167) 4 < x8 → (cI l G y_GL_place (gRm d) false [gI x8, gI x7] X M (fun v19 M18 => (((0 : Int) ≤ v19 ∧ v19 < 5200) ∧ (g32 (M18 (c + 235) (Int.toNat v19)) → (((0 : Int) ≤ M18 (c + 235) (Int.toNat v19) ∧ M18 (c + 235) (Int.toNat v19) < 401) ∧ (g32 (M18 (v0 + 1) (Int.toNat (M18 (c + 235) (Int.toNat v19)))) → ((M18 (v0 + 1) (Int.toNat (M18 (c + 235) (Int.toNat v19))) = 1 → (((0 : Int) ≤ M18 (c + 235) (Int.toNat v19) ∧ M18 (c + 235) (Int.toNat v19) < 401) ∧ (g64 (M18 (v0 + 2) (Int.toNat (M18 (c + 235) (Int.toNat v19)))) → (cZ l G y_Bx_fits (gRm d) false [.ref (Q.1 w1), gL x4, gL (M18 (v0 + 2) (Int.toNat (M18 (c + 235) (Int.toNat v19))))] X M18 (fun v25 M24 => ((¬ v25 = 0 → ((¬ x6 = 0 → (cL l G y_Bx_gathered (gRm d) false [.ref (Q.1 w1), gL x4, gL (M18 (v0 + 2) (Int.toNat (M18 (c + 235) (Int.toNat v19))))] X M24 (fun v28 M27 => (wp l G y_Bx_gather (gRm (d + 1)) true (kkV X k) true 71 [.val (gR G (c + 1167)), .val (.ref (Q.1 w1)), .val (gI x2), .unset, .val (gL v28), .unset, .val (gI (w32 (x6 + 1))), .val (gI x7), .val (gI (w32 (x8 + 1))), .unset, .unset, .unset] [] X M27 0 0)))) ∧ (x6 = 0 → ((w1 = 15 → (cL l G y_Bx_gathered (gRm d) false [.ref (Q.1 w1), gL x4, gL (M18 (v0 + 2) (Int.toNat (M18 (c + 235) (Int.toNat v19))))] X M24 (fun v31 M30 => (wp l G y_Bx_gather (gRm (d + 1)) true (kkV X k) true 71 [.val (gR G (c + 1167)), .val (.ref (Q.1 w1)), .val (gI x2), .unset, .val (gL v31), .unset, .val (gI (w32 (x6 + 1))), .val (gI x7), .val (gI (w32 (x8 + 1))), .unset, .unset, .unset] [] X M30 0 0)))) ∧ (¬ w1 = 15 → (wp l G y_Bx_gather (gRm (d + 1)) true (kkV X k) true 71 [.val (gR G (c + 1167)), .val (.ref (Q.1 w1)), .val (gI x2), .unset, .val (gL (M18 (v0 + 2) (Int.toNat (M18 (c + 235) (Int.toNat v19))))), .unset, .val (gI (w32 (x6 + 1))), .val (gI x7), .val (gI (w32 (x8 + 1))), .unset, .unset, .unset] [] X M24 0 0)))))) ∧ (v25 = 0 → (cV l G y_Vl_set (gRm d) true [gR G (c + 1058), gI x2, gI 4, gL 6] X M24 (fun M35 => (k M35)))))))))) ∧ (¬ M18 (v0 + 1) (Int.toNat (M18 (c + 235) (Int.toNat v19))) = 1 → (wp l G y_Bx_gather (gRm (d + 1)) true (kkV X k) true 71 [.val (gR G (c + 1167)), .val (.ref (Q.1 w1)), .val (gI x2), .unset, .val (gL x4), .unset, .val (gI x6), .val (gI x7), .val (gI (w32 (x8 + 1))), .unset, .unset, .unset] [] X M18 0 0)))))))))))) : wp l G y_Bx_gather (gRm (d + 1)) true (kkV X k) true 71 [.val (gR G (c + 1167)), .val (.ref (Q.1 w1)), .val (gI x2), .unset, .val (gL x4), .unset, .val (gI x6), .val (gI x7), .val (gI x8), .unset, .unset, .unset] [] X M 0 0 := by
  refine wp_iload d_Bx_gather_71 rfl ?_
  refine wp_aload_n d_Bx_gather_73 rfl rfl (g_nz (gl_1 hX 1167)) ?_
  refine xgetI d_Bx_gather_74 gc_Bx f_Bx_43.1 f_Bx_43.2.1 f_Bx_43.2.2.1 (gl_1 hX 1167) (gl_2 hX (a := 1167) (by decide)) (gl_s hX 39 rfl) f_Bx_43.2.2.2.2.1 (fun h17 => ?_)
  have T := T h17
  refine xi_gt (tgt := 183) d_Bx_gather_77 (by decide) (w32_id hx8) (w32_id h17) (fun h38 => ?_) (fun h38 => ?_)
  · have T := T.1 h38
    refine wp_iinc (L' := [.val (gR G (c + 1167)), .val (.ref (Q.1 w1)), .val (gI x2), .unset, .val (gL x4), .unset, .val (gI x6), .val (gI (x7 + 1)), .val (gI x8), .unset, .unset, .unset]) d_Bx_gather_183 rfl (by decide) rfl ?_
    refine wp_goto (tgt := 56) d_Bx_gather_186 (by decide) ?_
    exact wp_md (wpt T (And.intro rfl (And.intro rfl (And.intro rfl (And.intro rfl (And.intro rfl (And.intro (gI_w _) True.intro)))))))
  · have T := T.2 h38
    refine wp_aload_n d_Bx_gather_80 rfl rfl (g_nz (gl_1 hX 1167)) ?_
    refine xgetR d_Bx_gather_81 gc_Bx f_Bx_15.1 f_Bx_15.2.1 f_Bx_15.2.2.1 (gl_1 hX 1167) (gl_2 hX (a := 1167) (by decide)) (gl_s hX 39 rfl) f_Bx_15.2.2.2.2.1 (gl_f hX 47 rfl) ?_
    refine wp_iload d_Bx_gather_84 rfl ?_
    refine wp_iload d_Bx_gather_86 rfl ?_
    refine xcN_I (md' := true) (As := [gI x8, gI x7]) (st := [gR G (c + 235)]) d_Bx_gather_88 ca_GL_place ml_Bx_70 sm_GL_place rfl (by decide) (by simp only [List.map, gR_cat, gI_cat, gL_cat, List.sum_cons, List.sum_nil]; decide) rfl (fun _ => rfl) (fun _ => rfl) T (fun v19 M18 h20 T => ?_)
    refine wp_iaload d_Bx_gather_91 (gl_1 hX 235) (gl_2 hX (a := 235) (by decide)) (gl_s hX 25 rfl) (g32_n T.1 (by decide)) T.1.1 T.1.2 (fun h21 => ?_)
    have T := T.2 h21
    refine wp_istore (L' := [.val (gR G (c + 1167)), .val (.ref (Q.1 w1)), .val (gI x2), .unset, .val (gL x4), .unset, .val (gI x6), .val (gI x7), .val (gI x8), .val (gI (M18 (c + 235) (Int.toNat v19))), .unset, .unset]) d_Bx_gather_92 (by decide) rfl ?_
    refine wp_aload_n d_Bx_gather_94 rfl rfl (g_nz (gl_1 hX 1167)) ?_
    refine xgetR d_Bx_gather_95 gc_Bx f_Bx_19.1 f_Bx_19.2.1 f_Bx_19.2.2.1 (gl_1 hX 1167) (gl_2 hX (a := 1167) (by decide)) (gl_s hX 39 rfl) f_Bx_19.2.2.2.2.1 hv0.1 ?_
    refine xgetR d_Bx_gather_98 gc_Vl f_Bx_73.1 f_Bx_73.2.1 f_Bx_73.2.2.1 hv0.2.1 (gv_2 hv0.2) hv0.2.2.2.1 f_Bx_73.2.2.2.2.1 (gv_r1 hv0.2).1 ?_
    refine wp_iload d_Bx_gather_101 rfl ?_
    refine wp_iaload d_Bx_gather_103 (gv_r1 hv0.2).2.2.1 (gv_r1 hv0.2).2.2.2 (gv_r1 hv0.2).2.1 (g32_n T.1 (gv_n hv0.2)) T.1.1 T.1.2 (fun h22 => ?_)
    have T := T.2 h22
    refine wp_iconst d_Bx_gather_104 ?_
    refine xi_eq (tgt := 111) d_Bx_gather_105 (by decide) (w32_id h22) (w32_id (g32_c (x := 1) rfl)) (fun h37 => ?_) (fun h37 => ?_)
    · have T := T.1 h37
      refine wp_aload_n d_Bx_gather_111 rfl rfl (g_nz (gl_1 hX 1167)) ?_
      refine xgetR d_Bx_gather_112 gc_Bx f_Bx_19.1 f_Bx_19.2.1 f_Bx_19.2.2.1 (gl_1 hX 1167) (gl_2 hX (a := 1167) (by decide)) (gl_s hX 39 rfl) f_Bx_19.2.2.2.2.1 hv0.1 ?_
      refine xgetR d_Bx_gather_115 gc_Vl f_Bx_22.1 f_Bx_22.2.1 f_Bx_22.2.2.1 hv0.2.1 (gv_2 hv0.2) hv0.2.2.2.1 f_Bx_22.2.2.2.2.1 (gv_r2 hv0.2).1 ?_
      refine wp_iload d_Bx_gather_118 rfl ?_
      refine wp_laload d_Bx_gather_120 (gv_r2 hv0.2).2.2.1 (gv_r2 hv0.2).2.2.2 (gv_r2 hv0.2).2.1 (g32_n T.1 (gv_n hv0.2)) T.1.1 T.1.2 (fun h23 => ?_)
      have T := T.2 h23
      refine wp_lstore (L' := [.val (gR G (c + 1167)), .val (.ref (Q.1 w1)), .val (gI x2), .unset, .val (gL x4), .unset, .val (gI x6), .val (gI x7), .val (gI x8), .val (gI (M18 (c + 235) (Int.toNat v19))), .val (gL (M18 (v0 + 2) (Int.toNat (M18 (c + 235) (Int.toNat v19))))), .unset]) d_Bx_gather_121 (by decide) rfl ?_
      refine wp_aloadO_n d_Bx_gather_123 rfl rfl ?_
      refine wp_lload d_Bx_gather_124 rfl ?_
      refine wp_lload d_Bx_gather_126 rfl ?_
      refine xcS_Z (md' := true) (As := [.ref (Q.1 w1), gL x4, gL (M18 (v0 + 2) (Int.toNat (M18 (c + 235) (Int.toNat v19))))]) (st := []) d_Bx_gather_128 ca_Bx_fits ml_Bx_76 sm_Bx_fits rfl (by decide) (by decide) rfl (fun _ => rfl) (fun _ => rfl) T (fun v25 M24 h26 T => ?_)
      refine xz_ne (tgt := 147) d_Bx_gather_131 (by decide) (w32_id (g32_z h26)) (fun h36 => ?_) (fun h36 => ?_)
      · have T := T.1 h36
        refine wp_iload d_Bx_gather_147 rfl ?_
        refine xz_ne (tgt := 164) d_Bx_gather_149 (by decide) (w32_id hx6) (fun h34 => ?_) (fun h34 => ?_)
        · have T := T.1 h34
          refine wp_aloadO_n d_Bx_gather_164 rfl rfl ?_
          refine wp_lload d_Bx_gather_165 rfl ?_
          refine wp_lload d_Bx_gather_167 rfl ?_
          refine xcS_L (md' := true) (As := [.ref (Q.1 w1), gL x4, gL (M18 (v0 + 2) (Int.toNat (M18 (c + 235) (Int.toNat v19))))]) (st := []) d_Bx_gather_169 ca_Bx_gathered ml_Bx_82 sm_Bx_gathered rfl (by decide) (by decide) rfl (fun _ => rfl) (fun _ => rfl) T (fun v28 M27 h29 T => ?_)
          refine wp_lstore (L' := [.val (gR G (c + 1167)), .val (.ref (Q.1 w1)), .val (gI x2), .unset, .val (gL v28), .unset, .val (gI x6), .val (gI x7), .val (gI x8), .val (gI (M18 (c + 235) (Int.toNat v19))), .val (gL (M18 (v0 + 2) (Int.toNat (M18 (c + 235) (Int.toNat v19))))), .unset]) d_Bx_gather_172 (by decide) rfl ?_
          refine wp_iinc (L' := [.val (gR G (c + 1167)), .val (.ref (Q.1 w1)), .val (gI x2), .unset, .val (gL v28), .unset, .val (gI (x6 + 1)), .val (gI x7), .val (gI x8), .val (gI (M18 (c + 235) (Int.toNat v19))), .val (gL (M18 (v0 + 2) (Int.toNat (M18 (c + 235) (Int.toNat v19))))), .unset]) d_Bx_gather_174 rfl (by decide) rfl ?_
          refine wp_iinc (L' := [.val (gR G (c + 1167)), .val (.ref (Q.1 w1)), .val (gI x2), .unset, .val (gL v28), .unset, .val (gI (x6 + 1)), .val (gI x7), .val (gI (x8 + 1)), .val (gI (M18 (c + 235) (Int.toNat v19))), .val (gL (M18 (v0 + 2) (Int.toNat (M18 (c + 235) (Int.toNat v19))))), .unset]) d_Bx_gather_177 rfl (by decide) rfl ?_
          refine wp_goto (tgt := 71) d_Bx_gather_180 (by decide) ?_
          exact wp_md (wpt T (And.intro rfl (And.intro rfl (And.intro rfl (And.intro rfl (And.intro (gI_w _) (And.intro rfl (And.intro (gI_w _) True.intro))))))))
        · have T := T.2 h34
          refine wp_aloadO_n d_Bx_gather_152 rfl rfl ?_
          refine wp_gets d_Bx_gather_153 fs_Bx_64 (fun U hU => ((hO U hU).1 15 (by decide)).1) ?_
          refine xo_eq (tgt := 164) hO d_Bx_gather_156 (by decide) hw1 (by decide) (fun h33 => ?_) (fun h33 => ?_)
          · have T := T.1 h33
            refine wp_aloadO_n d_Bx_gather_164 rfl rfl ?_
            refine wp_lload d_Bx_gather_165 rfl ?_
            refine wp_lload d_Bx_gather_167 rfl ?_
            refine xcS_L (md' := true) (As := [.ref (Q.1 w1), gL x4, gL (M18 (v0 + 2) (Int.toNat (M18 (c + 235) (Int.toNat v19))))]) (st := []) d_Bx_gather_169 ca_Bx_gathered ml_Bx_82 sm_Bx_gathered rfl (by decide) (by decide) rfl (fun _ => rfl) (fun _ => rfl) T (fun v31 M30 h32 T => ?_)
            refine wp_lstore (L' := [.val (gR G (c + 1167)), .val (.ref (Q.1 w1)), .val (gI x2), .unset, .val (gL v31), .unset, .val (gI x6), .val (gI x7), .val (gI x8), .val (gI (M18 (c + 235) (Int.toNat v19))), .val (gL (M18 (v0 + 2) (Int.toNat (M18 (c + 235) (Int.toNat v19))))), .unset]) d_Bx_gather_172 (by decide) rfl ?_
            refine wp_iinc (L' := [.val (gR G (c + 1167)), .val (.ref (Q.1 w1)), .val (gI x2), .unset, .val (gL v31), .unset, .val (gI (x6 + 1)), .val (gI x7), .val (gI x8), .val (gI (M18 (c + 235) (Int.toNat v19))), .val (gL (M18 (v0 + 2) (Int.toNat (M18 (c + 235) (Int.toNat v19))))), .unset]) d_Bx_gather_174 rfl (by decide) rfl ?_
            refine wp_iinc (L' := [.val (gR G (c + 1167)), .val (.ref (Q.1 w1)), .val (gI x2), .unset, .val (gL v31), .unset, .val (gI (x6 + 1)), .val (gI x7), .val (gI (x8 + 1)), .val (gI (M18 (c + 235) (Int.toNat v19))), .val (gL (M18 (v0 + 2) (Int.toNat (M18 (c + 235) (Int.toNat v19))))), .unset]) d_Bx_gather_177 rfl (by decide) rfl ?_
            refine wp_goto (tgt := 71) d_Bx_gather_180 (by decide) ?_
            exact wp_md (wpt T (And.intro rfl (And.intro rfl (And.intro rfl (And.intro rfl (And.intro (gI_w _) (And.intro rfl (And.intro (gI_w _) True.intro))))))))
          · have T := T.2 h33
            refine wp_lload d_Bx_gather_159 rfl ?_
            refine wp_goto (tgt := 172) d_Bx_gather_161 (by decide) ?_
            refine wp_lstore (L' := [.val (gR G (c + 1167)), .val (.ref (Q.1 w1)), .val (gI x2), .unset, .val (gL (M18 (v0 + 2) (Int.toNat (M18 (c + 235) (Int.toNat v19))))), .unset, .val (gI x6), .val (gI x7), .val (gI x8), .val (gI (M18 (c + 235) (Int.toNat v19))), .val (gL (M18 (v0 + 2) (Int.toNat (M18 (c + 235) (Int.toNat v19))))), .unset]) d_Bx_gather_172 (by decide) rfl ?_
            refine wp_iinc (L' := [.val (gR G (c + 1167)), .val (.ref (Q.1 w1)), .val (gI x2), .unset, .val (gL (M18 (v0 + 2) (Int.toNat (M18 (c + 235) (Int.toNat v19))))), .unset, .val (gI (x6 + 1)), .val (gI x7), .val (gI x8), .val (gI (M18 (c + 235) (Int.toNat v19))), .val (gL (M18 (v0 + 2) (Int.toNat (M18 (c + 235) (Int.toNat v19))))), .unset]) d_Bx_gather_174 rfl (by decide) rfl ?_
            refine wp_iinc (L' := [.val (gR G (c + 1167)), .val (.ref (Q.1 w1)), .val (gI x2), .unset, .val (gL (M18 (v0 + 2) (Int.toNat (M18 (c + 235) (Int.toNat v19))))), .unset, .val (gI (x6 + 1)), .val (gI x7), .val (gI (x8 + 1)), .val (gI (M18 (c + 235) (Int.toNat v19))), .val (gL (M18 (v0 + 2) (Int.toNat (M18 (c + 235) (Int.toNat v19))))), .unset]) d_Bx_gather_177 rfl (by decide) rfl ?_
            refine wp_goto (tgt := 71) d_Bx_gather_180 (by decide) ?_
            exact wp_md (wpt T (And.intro rfl (And.intro rfl (And.intro rfl (And.intro rfl (And.intro (gI_w _) (And.intro rfl (And.intro (gI_w _) True.intro))))))))
      · have T := T.2 h36
        refine wp_aload_n d_Bx_gather_134 rfl rfl (g_nz (gl_1 hX 1167)) ?_
        refine xgetR d_Bx_gather_135 gc_Bx f_Bx_9.1 f_Bx_9.2.1 f_Bx_9.2.2.1 (gl_1 hX 1167) (gl_2 hX (a := 1167) (by decide)) (gl_s hX 39 rfl) f_Bx_9.2.2.2.2.1 (gl_f hX 46 rfl) ?_
        refine wp_iload_n d_Bx_gather_138 rfl rfl ?_
        refine wp_iconst d_Bx_gather_139 ?_
        refine wp_ldc2 (n := 6) d_Bx_gather_140 c_Bx_80 rfl ?_
        refine xcV_V (md' := true) (As := [gI x2, gI 4, gL 6]) (st := []) d_Bx_gather_143 ca_Vl_set ml_Bx_60 im_Vl_set se_Vl_set gc_Vl (gl_stk hX).1 (gv_2 (gl_stk hX)) (gl_stk hX).2.2.1 rfl (by decide) (by decide) rfl (fun _ => rfl) (fun _ => rfl) T (fun M35 T => ?_)
        exact wp_return d_Bx_gather_146 rfl (fun _ => rfl) (Nat.zero_le _) (Nat.zero_le _) (kV_mk T)
    · have T := T.2 h37
      refine wp_goto (tgt := 177) d_Bx_gather_108 (by decide) ?_
      refine wp_iinc (L' := [.val (gR G (c + 1167)), .val (.ref (Q.1 w1)), .val (gI x2), .unset, .val (gL x4), .unset, .val (gI x6), .val (gI x7), .val (gI (x8 + 1)), .val (gI (M18 (c + 235) (Int.toNat v19))), .unset, .unset]) d_Bx_gather_177 rfl (by decide) rfl ?_
      refine wp_goto (tgt := 71) d_Bx_gather_180 (by decide) ?_
      exact wp_md (wpt T (And.intro rfl (And.intro rfl (And.intro rfl (And.intro rfl (And.intro rfl (And.intro rfl (And.intro (gI_w _) True.intro))))))))
theorem e_Bx_gather {l : Launch} {G : gG} {d : Nat} {X : gX} {M : gM} {k : gM → Prop} {Q : gQ} {c : Nat} {x2 : Int} {w1 : Nat} (T : wp l G y_Bx_gather (gRm (d + 1)) true (kkV X k) false 0 [.val (gR G (c + 1167)), .val (.ref (Q.1 w1)), .val (gI x2), .unset, .unset, .unset, .unset, .unset, .unset, .unset, .unset, .unset] [] X M 0 0) : cV l G y_Bx_gather (gRm (d + 1)) true [gR G (c + 1167), .ref (Q.1 w1), gI x2] X M k := cen_V (plainFor_of_name rfl) (by simp only [lg_sl_R, lg_sl_I, lg_sl_L, lg_sl_O, lg_sl_N, List.length_cons, List.length_nil]; decide) (by unfold gEn; simp only [lg_sl_R, lg_sl_I, lg_sl_L, lg_sl_O, lg_sl_N]; exact wpt T (And.intro rfl (And.intro rfl (And.intro rfl True.intro))))
theorem d_Bx_fits_0 : decode prog_3_method_5_code 0 = .ok (.getstatic 93, 3) := by decide +kernel
theorem d_Bx_fits_3 : decode prog_3_method_5_code 3 = .ok (.aload_n 0, 1) := by decide +kernel
theorem d_Bx_fits_4 : decode prog_3_method_5_code 4 = .ok (.invokevirtual 98, 3) := by decide +kernel
theorem d_Bx_fits_7 : decode prog_3_method_5_code 7 = .ok (.iaload, 1) := by decide +kernel
theorem d_Bx_fits_8 : decode prog_3_method_5_code 8 = .ok (.tableswitch 40 31 33 #[28, 28, 34], 28) := by decide +kernel
theorem d_Bx_fits_36 : decode prog_3_method_5_code 36 = .ok (.lload_n 1, 1) := by decide +kernel
theorem d_Bx_fits_37 : decode prog_3_method_5_code 37 = .ok (.lload_n 3, 1) := by decide +kernel
theorem d_Bx_fits_38 : decode prog_3_method_5_code 38 = .ok (.invokestatic 101, 3) := by decide +kernel
theorem d_Bx_fits_41 : decode prog_3_method_5_code 41 = .ok (.ireturn, 1) := by decide +kernel
theorem d_Bx_fits_42 : decode prog_3_method_5_code 42 = .ok (.lload_n 1, 1) := by decide +kernel
theorem d_Bx_fits_43 : decode prog_3_method_5_code 43 = .ok (.lload_n 3, 1) := by decide +kernel
theorem d_Bx_fits_44 : decode prog_3_method_5_code 44 = .ok (.invokestatic 105, 3) := by decide +kernel
theorem d_Bx_fits_47 : decode prog_3_method_5_code 47 = .ok (.ireturn, 1) := by decide +kernel
theorem d_Bx_fits_48 : decode prog_3_method_5_code 48 = .ok (.iconst 1, 1) := by decide +kernel
theorem d_Bx_fits_49 : decode prog_3_method_5_code 49 = .ok (.ireturn, 1) := by decide +kernel
set_option maxHeartbeats 4000000 in
theorem w_Bx_fits_0 {l : Launch} {G : gG} {d : Nat} {X : gX} {M : gM} {k : Int → gM → Prop}  {Q : gQ} (hO : gOld G Q) {w0 : Nat} (hw0 : w0 < 52) {x1 : Int} (hx1 : g64 x1) {x3 : Int} (hx3 : g64 x3)  (T : (gSw w0 = 31 → (cZ l G y_Vl_plusFits (gRm d) false [gL x1, gL x3] X M (fun v2 M1 => (k v2 M1)))) ∧ (gSw w0 = 32 → (cZ l G y_Vl_plusFits (gRm d) false [gL x1, gL x3] X M (fun v5 M4 => (k v5 M4)))) ∧ (gSw w0 = 33 → (cZ l G y_Vl_timesFits (gRm d) false [gL x1, gL x3] X M (fun v8 M7 => (k v8 M7)))) ∧ ((¬ gSw w0 = 31 ∧ ¬ gSw w0 = 32 ∧ ¬ gSw w0 = 33) → (k 1 M))) : wp l G y_Bx_fits (gRm (d + 1)) false (kkZ X k) false 0 [.val (.ref (Q.1 w0)), .val (gL x1), .unset, .val (gL x3), .unset] [] X M 0 0 := by
  refine wp_gets d_Bx_fits_0 fs_Bx_93 (fun U hU => (hO U hU).2.2.2.2.1.1) ?_
  refine wp_aloadO_n d_Bx_fits_3 rfl rfl ?_
  refine xo_ord hO hw0 d_Bx_fits_4 (gWs_ord ml_Bx_98) (by simp only [List.map, gR_cat, gI_cat, gL_cat, g_rcat, List.sum_cons, List.sum_nil]; decide) ?_
  refine xo_sw hO d_Bx_fits_7 hw0 ?_
  obtain ⟨T0, T1, T2, T3⟩ := T
  by_cases hc0 : gSw w0 = 31
  · refine xtabIn (tgt := 36) d_Bx_fits_8 (w32_id (gS32 hw0)) 31 hc0 rfl rfl (by decide) ?_
    have T := T0 hc0
    refine wp_lload_n d_Bx_fits_36 rfl rfl ?_
    refine wp_lload_n d_Bx_fits_37 rfl rfl ?_
    refine xcS_Z (md' := false) (As := [gL x1, gL x3]) (st := []) d_Bx_fits_38 ca_Vl_plusFits ml_Bx_101 sm_Vl_plusFits rfl (by decide) (by decide) rfl id id T (fun v2 M1 h3 T => ?_)
    exact wp_zreturn d_Bx_fits_41 rfl (g_narz h3) id (Nat.zero_le _) (Nat.zero_le _) (kZ_mk h3 T)
  by_cases hc1 : gSw w0 = 32
  · refine xtabIn (tgt := 36) d_Bx_fits_8 (w32_id (gS32 hw0)) 32 hc1 rfl rfl (by decide) ?_
    have T := T1 hc1
    refine wp_lload_n d_Bx_fits_36 rfl rfl ?_
    refine wp_lload_n d_Bx_fits_37 rfl rfl ?_
    refine xcS_Z (md' := false) (As := [gL x1, gL x3]) (st := []) d_Bx_fits_38 ca_Vl_plusFits ml_Bx_101 sm_Vl_plusFits rfl (by decide) (by decide) rfl id id T (fun v5 M4 h6 T => ?_)
    exact wp_zreturn d_Bx_fits_41 rfl (g_narz h6) id (Nat.zero_le _) (Nat.zero_le _) (kZ_mk h6 T)
  by_cases hc2 : gSw w0 = 33
  · refine xtabIn (tgt := 42) d_Bx_fits_8 (w32_id (gS32 hw0)) 33 hc2 rfl rfl (by decide) ?_
    have T := T2 hc2
    refine wp_lload_n d_Bx_fits_42 rfl rfl ?_
    refine wp_lload_n d_Bx_fits_43 rfl rfl ?_
    refine xcS_Z (md' := false) (As := [gL x1, gL x3]) (st := []) d_Bx_fits_44 ca_Vl_timesFits ml_Bx_105 sm_Vl_timesFits rfl (by decide) (by decide) rfl id id T (fun v8 M7 h9 T => ?_)
    exact wp_zreturn d_Bx_fits_47 rfl (g_narz h9) id (Nat.zero_le _) (Nat.zero_le _) (kZ_mk h9 T)
  refine xtabOut (tgt := 48) d_Bx_fits_8 (w32_id (gS32 hw0)) (by omega) (by decide) ?_
  have T := T3 ⟨hc0, hc1, hc2⟩
  refine wp_iconst d_Bx_fits_48 ?_
  exact wp_zreturn d_Bx_fits_49 rfl (g_narz (⟨by decide, by decide⟩ : (0 : Int) ≤ 1 ∧ (1 : Int) ≤ 1)) id (Nat.zero_le _) (Nat.zero_le _) (kZ_mk (⟨by decide, by decide⟩ : (0 : Int) ≤ 1 ∧ (1 : Int) ≤ 1) T)
theorem e_Bx_fits {l : Launch} {G : gG} {d : Nat} {X : gX} {M : gM} {k : Int → gM → Prop} {Q : gQ}  {x1 : Int} {x3 : Int} {w0 : Nat} (T : wp l G y_Bx_fits (gRm (d + 1)) false (kkZ X k) false 0 [.val (.ref (Q.1 w0)), .val (gL x1), .unset, .val (gL x3), .unset] [] X M 0 0) : cZ l G y_Bx_fits (gRm (d + 1)) false [.ref (Q.1 w0), gL x1, gL x3] X M k := cen_Z (plainFor_of_name rfl) (by simp only [lg_sl_R, lg_sl_I, lg_sl_L, lg_sl_O, lg_sl_N, List.length_cons, List.length_nil]; decide) (by unfold gEn; simp only [lg_sl_R, lg_sl_I, lg_sl_L, lg_sl_O, lg_sl_N]; exact wpt T (And.intro rfl (And.intro rfl (And.intro rfl True.intro))))
theorem d_Bx_gathered_0 : decode prog_3_method_6_code 0 = .ok (.getstatic 93, 3) := by decide +kernel
theorem d_Bx_gathered_3 : decode prog_3_method_6_code 3 = .ok (.aload_n 0, 1) := by decide +kernel
theorem d_Bx_gathered_4 : decode prog_3_method_6_code 4 = .ok (.invokevirtual 98, 3) := by decide +kernel
theorem d_Bx_gathered_7 : decode prog_3_method_6_code 7 = .ok (.iaload, 1) := by decide +kernel
theorem d_Bx_gathered_8 : decode prog_3_method_6_code 8 = .ok (.tableswitch 44 33 35 #[28, 32, 38], 28) := by decide +kernel
theorem d_Bx_gathered_36 : decode prog_3_method_6_code 36 = .ok (.lload_n 1, 1) := by decide +kernel
theorem d_Bx_gathered_37 : decode prog_3_method_6_code 37 = .ok (.lload_n 3, 1) := by decide +kernel
theorem d_Bx_gathered_38 : decode prog_3_method_6_code 38 = .ok (.lmul, 1) := by decide +kernel
theorem d_Bx_gathered_39 : decode prog_3_method_6_code 39 = .ok (.lreturn, 1) := by decide +kernel
theorem d_Bx_gathered_40 : decode prog_3_method_6_code 40 = .ok (.lload_n 1, 1) := by decide +kernel
theorem d_Bx_gathered_41 : decode prog_3_method_6_code 41 = .ok (.lload_n 3, 1) := by decide +kernel
theorem d_Bx_gathered_42 : decode prog_3_method_6_code 42 = .ok (.invokestatic 108, 3) := by decide +kernel
theorem d_Bx_gathered_45 : decode prog_3_method_6_code 45 = .ok (.lreturn, 1) := by decide +kernel
theorem d_Bx_gathered_46 : decode prog_3_method_6_code 46 = .ok (.lload_n 1, 1) := by decide +kernel
theorem d_Bx_gathered_47 : decode prog_3_method_6_code 47 = .ok (.lload_n 3, 1) := by decide +kernel
theorem d_Bx_gathered_48 : decode prog_3_method_6_code 48 = .ok (.invokestatic 111, 3) := by decide +kernel
theorem d_Bx_gathered_51 : decode prog_3_method_6_code 51 = .ok (.lreturn, 1) := by decide +kernel
theorem d_Bx_gathered_52 : decode prog_3_method_6_code 52 = .ok (.lload_n 1, 1) := by decide +kernel
theorem d_Bx_gathered_53 : decode prog_3_method_6_code 53 = .ok (.lload_n 3, 1) := by decide +kernel
theorem d_Bx_gathered_54 : decode prog_3_method_6_code 54 = .ok (.ladd, 1) := by decide +kernel
theorem d_Bx_gathered_55 : decode prog_3_method_6_code 55 = .ok (.lreturn, 1) := by decide +kernel
set_option maxHeartbeats 4000000 in
theorem w_Bx_gathered_0 {l : Launch} {G : gG} {d : Nat} {X : gX} {M : gM} {k : Int → gM → Prop}  {Q : gQ} (hO : gOld G Q) {w0 : Nat} (hw0 : w0 < 52) {x1 : Int} (hx1 : g64 x1) {x3 : Int} (hx3 : g64 x3)  (T : (gSw w0 = 33 → (k (w64 (x1 * x3)) M)) ∧ (gSw w0 = 34 → (cL l G y_jMath_min_2 (gRm d) false [gL x1, gL x3] X M (fun v2 M1 => (k v2 M1)))) ∧ (gSw w0 = 35 → (cL l G y_jMath_max_2 (gRm d) false [gL x1, gL x3] X M (fun v5 M4 => (k v5 M4)))) ∧ ((¬ gSw w0 = 33 ∧ ¬ gSw w0 = 34 ∧ ¬ gSw w0 = 35) → (k (w64 (x1 + x3)) M))) : wp l G y_Bx_gathered (gRm (d + 1)) false (kkL X k) false 0 [.val (.ref (Q.1 w0)), .val (gL x1), .unset, .val (gL x3), .unset] [] X M 0 0 := by
  refine wp_gets d_Bx_gathered_0 fs_Bx_93 (fun U hU => (hO U hU).2.2.2.2.1.1) ?_
  refine wp_aloadO_n d_Bx_gathered_3 rfl rfl ?_
  refine xo_ord hO hw0 d_Bx_gathered_4 (gWs_ord ml_Bx_98) (by simp only [List.map, gR_cat, gI_cat, gL_cat, g_rcat, List.sum_cons, List.sum_nil]; decide) ?_
  refine xo_sw hO d_Bx_gathered_7 hw0 ?_
  obtain ⟨T0, T1, T2, T3⟩ := T
  by_cases hc0 : gSw w0 = 33
  · refine xtabIn (tgt := 36) d_Bx_gathered_8 (w32_id (gS32 hw0)) 33 hc0 rfl rfl (by decide) ?_
    have T := T0 hc0
    refine wp_lload_n d_Bx_gathered_36 rfl rfl ?_
    refine wp_lload_n d_Bx_gathered_37 rfl rfl ?_
    refine wp_lmul d_Bx_gathered_38 ?_
    exact wp_st (st' := [gL (w64 (x1 * x3))]) (by rw [gL_w]) (wp_lreturn d_Bx_gathered_39 rfl id (Nat.zero_le _) (Nat.zero_le _) (kL_mk (w64_ok _) T))
  by_cases hc1 : gSw w0 = 34
  · refine xtabIn (tgt := 40) d_Bx_gathered_8 (w32_id (gS32 hw0)) 34 hc1 rfl rfl (by decide) ?_
    have T := T1 hc1
    refine wp_lload_n d_Bx_gathered_40 rfl rfl ?_
    refine wp_lload_n d_Bx_gathered_41 rfl rfl ?_
    refine xcS_L (md' := false) (As := [gL x1, gL x3]) (st := []) d_Bx_gathered_42 ca_jMath_min_2 ml_Bx_108 sm_jMath_min_2 rfl (by decide) (by decide) rfl id id T (fun v2 M1 h3 T => ?_)
    exact wp_lreturn d_Bx_gathered_45 rfl id (Nat.zero_le _) (Nat.zero_le _) (kL_mk h3 T)
  by_cases hc2 : gSw w0 = 35
  · refine xtabIn (tgt := 46) d_Bx_gathered_8 (w32_id (gS32 hw0)) 35 hc2 rfl rfl (by decide) ?_
    have T := T2 hc2
    refine wp_lload_n d_Bx_gathered_46 rfl rfl ?_
    refine wp_lload_n d_Bx_gathered_47 rfl rfl ?_
    refine xcS_L (md' := false) (As := [gL x1, gL x3]) (st := []) d_Bx_gathered_48 ca_jMath_max_2 ml_Bx_111 sm_jMath_max_2 rfl (by decide) (by decide) rfl id id T (fun v5 M4 h6 T => ?_)
    exact wp_lreturn d_Bx_gathered_51 rfl id (Nat.zero_le _) (Nat.zero_le _) (kL_mk h6 T)
  refine xtabOut (tgt := 52) d_Bx_gathered_8 (w32_id (gS32 hw0)) (by omega) (by decide) ?_
  have T := T3 ⟨hc0, hc1, hc2⟩
  refine wp_lload_n d_Bx_gathered_52 rfl rfl ?_
  refine wp_lload_n d_Bx_gathered_53 rfl rfl ?_
  refine wp_ladd d_Bx_gathered_54 ?_
  exact wp_st (st' := [gL (w64 (x1 + x3))]) (by rw [gL_w]) (wp_lreturn d_Bx_gathered_55 rfl id (Nat.zero_le _) (Nat.zero_le _) (kL_mk (w64_ok _) T))
theorem e_Bx_gathered {l : Launch} {G : gG} {d : Nat} {X : gX} {M : gM} {k : Int → gM → Prop} {Q : gQ}  {x1 : Int} {x3 : Int} {w0 : Nat} (T : wp l G y_Bx_gathered (gRm (d + 1)) false (kkL X k) false 0 [.val (.ref (Q.1 w0)), .val (gL x1), .unset, .val (gL x3), .unset] [] X M 0 0) : cL l G y_Bx_gathered (gRm (d + 1)) false [.ref (Q.1 w0), gL x1, gL x3] X M k := cen_L (plainFor_of_name rfl) (by simp only [lg_sl_R, lg_sl_I, lg_sl_L, lg_sl_O, lg_sl_N, List.length_cons, List.length_nil]; decide) (by unfold gEn; simp only [lg_sl_R, lg_sl_I, lg_sl_L, lg_sl_O, lg_sl_N]; exact wpt T (And.intro rfl (And.intro rfl (And.intro rfl True.intro))))
theorem d_Bx_measure_0 : decode prog_3_method_8_code 0 = .ok (.aload_n 0, 1) := by decide +kernel
theorem d_Bx_measure_1 : decode prog_3_method_8_code 1 = .ok (.iload_n 2, 1) := by decide +kernel
theorem d_Bx_measure_2 : decode prog_3_method_8_code 2 = .ok (.invokevirtual 52, 3) := by decide +kernel
theorem d_Bx_measure_5 : decode prog_3_method_8_code 5 = .ok (.aload_n 0, 1) := by decide +kernel
theorem d_Bx_measure_6 : decode prog_3_method_8_code 6 = .ok (.getfield 9, 3) := by decide +kernel
theorem d_Bx_measure_9 : decode prog_3_method_8_code 9 = .ok (.iload_n 2, 1) := by decide +kernel
theorem d_Bx_measure_10 : decode prog_3_method_8_code 10 = .ok (.iconst 1, 1) := by decide +kernel
theorem d_Bx_measure_11 : decode prog_3_method_8_code 11 = .ok (.aload_n 0, 1) := by decide +kernel
theorem d_Bx_measure_12 : decode prog_3_method_8_code 12 = .ok (.aload_n 1, 1) := by decide +kernel
theorem d_Bx_measure_13 : decode prog_3_method_8_code 13 = .ok (.invokevirtual 115, 3) := by decide +kernel
theorem d_Bx_measure_16 : decode prog_3_method_8_code 16 = .ok (.i2l, 1) := by decide +kernel
theorem d_Bx_measure_17 : decode prog_3_method_8_code 17 = .ok (.invokevirtual 60, 3) := by decide +kernel
theorem d_Bx_measure_20 : decode prog_3_method_8_code 20 = .ok (.return_, 1) := by decide +kernel
set_option maxHeartbeats 4000000 in
theorem w_Bx_measure_0 {l : Launch} {G : gG} {d : Nat} {X : gX} {M : gM} {k : gM → Prop} {c : Nat} (hX : glX X c) {Q : gQ} (hO : gOld G Q) {w1 : Nat} (hw1 : w1 < 52) {x2 : Int} (hx2 : g32 x2)  (T : cV l G y_Bx_open (gRm d) true [gR G (c + 1167), gI x2] X M (fun M1 => (cI l G y_Bx_measured (gRm d) false [gR G (c + 1167), .ref (Q.1 w1)] X M1 (fun v3 M2 => (cV l G y_Vl_set (gRm d) true [gR G (c + 1058), gI x2, gI 1, gL v3] X M2 (fun M5 => (k M5))))))) : wp l G y_Bx_measure (gRm (d + 1)) true (kkV X k) false 0 [.val (gR G (c + 1167)), .val (.ref (Q.1 w1)), .val (gI x2)] [] X M 0 0 := by
  refine wp_aload_n d_Bx_measure_0 rfl rfl (g_nz (gl_1 hX 1167)) ?_
  refine wp_iload_n d_Bx_measure_1 rfl rfl ?_
  refine xcV_V (md' := true) (As := [gI x2]) (st := []) d_Bx_measure_2 ca_Bx_open ml_Bx_52 im_Bx_open se_Bx_open gc_Bx (gl_1 hX 1167) (gl_2 hX (a := 1167) (by decide)) (gl_s hX 39 rfl) rfl (by decide) (by decide) rfl (fun _ => rfl) (fun _ => rfl) T (fun M1 T => ?_)
  refine wp_aload_n d_Bx_measure_5 rfl rfl (g_nz (gl_1 hX 1167)) ?_
  refine xgetR d_Bx_measure_6 gc_Bx f_Bx_9.1 f_Bx_9.2.1 f_Bx_9.2.2.1 (gl_1 hX 1167) (gl_2 hX (a := 1167) (by decide)) (gl_s hX 39 rfl) f_Bx_9.2.2.2.2.1 (gl_f hX 46 rfl) ?_
  refine wp_iload_n d_Bx_measure_9 rfl rfl ?_
  refine wp_iconst d_Bx_measure_10 ?_
  refine wp_aload_n d_Bx_measure_11 rfl rfl (g_nz (gl_1 hX 1167)) ?_
  refine wp_aloadO_n d_Bx_measure_12 rfl rfl ?_
  refine xcV_I (md' := true) (As := [.ref (Q.1 w1)]) (st := [gI 1, gI x2, gR G (c + 1058)]) d_Bx_measure_13 ca_Bx_measured ml_Bx_115 im_Bx_measured se_Bx_measured gc_Bx (gl_1 hX 1167) (gl_2 hX (a := 1167) (by decide)) (gl_s hX 39 rfl) rfl (by decide) (by simp only [List.map, gR_cat, gI_cat, gL_cat, List.sum_cons, List.sum_nil]; decide) rfl (fun _ => rfl) (fun _ => rfl) T (fun v3 M2 h4 T => ?_)
  refine xi2l d_Bx_measure_16 (w32_id h4) ?_
  refine xcV_V (md' := true) (As := [gI x2, gI 1, gL v3]) (st := []) d_Bx_measure_17 ca_Vl_set ml_Bx_60 im_Vl_set se_Vl_set gc_Vl (gl_stk hX).1 (gv_2 (gl_stk hX)) (gl_stk hX).2.2.1 rfl (by decide) (by decide) rfl (fun _ => rfl) (fun _ => rfl) T (fun M5 T => ?_)
  exact wp_return d_Bx_measure_20 rfl (fun _ => rfl) (Nat.zero_le _) (Nat.zero_le _) (kV_mk T)
theorem e_Bx_measure {l : Launch} {G : gG} {d : Nat} {X : gX} {M : gM} {k : gM → Prop} {Q : gQ} {c : Nat} {x2 : Int} {w1 : Nat} (T : wp l G y_Bx_measure (gRm (d + 1)) true (kkV X k) false 0 [.val (gR G (c + 1167)), .val (.ref (Q.1 w1)), .val (gI x2)] [] X M 0 0) : cV l G y_Bx_measure (gRm (d + 1)) true [gR G (c + 1167), .ref (Q.1 w1), gI x2] X M k := cen_V (plainFor_of_name rfl) (by simp only [lg_sl_R, lg_sl_I, lg_sl_L, lg_sl_O, lg_sl_N, List.length_cons, List.length_nil]; decide) (by unfold gEn; simp only [lg_sl_R, lg_sl_I, lg_sl_L, lg_sl_O, lg_sl_N]; exact wpt T (And.intro rfl (And.intro rfl (And.intro rfl True.intro))))
theorem d_Bx_measured_0 : decode prog_3_method_9_code 0 = .ok (.getstatic 93, 3) := by decide +kernel
theorem d_Bx_measured_3 : decode prog_3_method_9_code 3 = .ok (.aload_n 1, 1) := by decide +kernel
theorem d_Bx_measured_4 : decode prog_3_method_9_code 4 = .ok (.invokevirtual 98, 3) := by decide +kernel
theorem d_Bx_measured_7 : decode prog_3_method_9_code 7 = .ok (.iaload, 1) := by decide +kernel
theorem d_Bx_measured_8 : decode prog_3_method_9_code 8 = .ok (.tableswitch 80 36 40 #[36, 43, 50, 62, 74], 36) := by decide +kernel
theorem d_Bx_measured_44 : decode prog_3_method_9_code 44 = .ok (.aload_n 0, 1) := by decide +kernel
theorem d_Bx_measured_45 : decode prog_3_method_9_code 45 = .ok (.getfield 46, 3) := by decide +kernel
theorem d_Bx_measured_48 : decode prog_3_method_9_code 48 = .ok (.iconst 1, 1) := by decide +kernel
theorem d_Bx_measured_49 : decode prog_3_method_9_code 49 = .ok (.iadd, 1) := by decide +kernel
theorem d_Bx_measured_50 : decode prog_3_method_9_code 50 = .ok (.ireturn, 1) := by decide +kernel
theorem d_Bx_measured_51 : decode prog_3_method_9_code 51 = .ok (.aload_n 0, 1) := by decide +kernel
theorem d_Bx_measured_52 : decode prog_3_method_9_code 52 = .ok (.getfield 36, 3) := by decide +kernel
theorem d_Bx_measured_55 : decode prog_3_method_9_code 55 = .ok (.iconst 1, 1) := by decide +kernel
theorem d_Bx_measured_56 : decode prog_3_method_9_code 56 = .ok (.iadd, 1) := by decide +kernel
theorem d_Bx_measured_57 : decode prog_3_method_9_code 57 = .ok (.ireturn, 1) := by decide +kernel
theorem d_Bx_measured_58 : decode prog_3_method_9_code 58 = .ok (.aload_n 0, 1) := by decide +kernel
theorem d_Bx_measured_59 : decode prog_3_method_9_code 59 = .ok (.getfield 49, 3) := by decide +kernel
theorem d_Bx_measured_62 : decode prog_3_method_9_code 62 = .ok (.aload_n 0, 1) := by decide +kernel
theorem d_Bx_measured_63 : decode prog_3_method_9_code 63 = .ok (.getfield 46, 3) := by decide +kernel
theorem d_Bx_measured_66 : decode prog_3_method_9_code 66 = .ok (.isub, 1) := by decide +kernel
theorem d_Bx_measured_67 : decode prog_3_method_9_code 67 = .ok (.iconst 1, 1) := by decide +kernel
theorem d_Bx_measured_68 : decode prog_3_method_9_code 68 = .ok (.iadd, 1) := by decide +kernel
theorem d_Bx_measured_69 : decode prog_3_method_9_code 69 = .ok (.ireturn, 1) := by decide +kernel
theorem d_Bx_measured_70 : decode prog_3_method_9_code 70 = .ok (.aload_n 0, 1) := by decide +kernel
theorem d_Bx_measured_71 : decode prog_3_method_9_code 71 = .ok (.getfield 43, 3) := by decide +kernel
theorem d_Bx_measured_74 : decode prog_3_method_9_code 74 = .ok (.aload_n 0, 1) := by decide +kernel
theorem d_Bx_measured_75 : decode prog_3_method_9_code 75 = .ok (.getfield 36, 3) := by decide +kernel
theorem d_Bx_measured_78 : decode prog_3_method_9_code 78 = .ok (.isub, 1) := by decide +kernel
theorem d_Bx_measured_79 : decode prog_3_method_9_code 79 = .ok (.iconst 1, 1) := by decide +kernel
theorem d_Bx_measured_80 : decode prog_3_method_9_code 80 = .ok (.iadd, 1) := by decide +kernel
theorem d_Bx_measured_81 : decode prog_3_method_9_code 81 = .ok (.ireturn, 1) := by decide +kernel
theorem d_Bx_measured_82 : decode prog_3_method_9_code 82 = .ok (.aload_n 0, 1) := by decide +kernel
theorem d_Bx_measured_83 : decode prog_3_method_9_code 83 = .ok (.iconst 1, 1) := by decide +kernel
theorem d_Bx_measured_84 : decode prog_3_method_9_code 84 = .ok (.invokevirtual 119, 3) := by decide +kernel
theorem d_Bx_measured_87 : decode prog_3_method_9_code 87 = .ok (.ireturn, 1) := by decide +kernel
theorem d_Bx_measured_88 : decode prog_3_method_9_code 88 = .ok (.aload_n 0, 1) := by decide +kernel
theorem d_Bx_measured_89 : decode prog_3_method_9_code 89 = .ok (.getfield 49, 3) := by decide +kernel
theorem d_Bx_measured_92 : decode prog_3_method_9_code 92 = .ok (.aload_n 0, 1) := by decide +kernel
theorem d_Bx_measured_93 : decode prog_3_method_9_code 93 = .ok (.getfield 46, 3) := by decide +kernel
theorem d_Bx_measured_96 : decode prog_3_method_9_code 96 = .ok (.isub, 1) := by decide +kernel
theorem d_Bx_measured_97 : decode prog_3_method_9_code 97 = .ok (.iconst 1, 1) := by decide +kernel
theorem d_Bx_measured_98 : decode prog_3_method_9_code 98 = .ok (.iadd, 1) := by decide +kernel
theorem d_Bx_measured_99 : decode prog_3_method_9_code 99 = .ok (.aload_n 0, 1) := by decide +kernel
theorem d_Bx_measured_100 : decode prog_3_method_9_code 100 = .ok (.getfield 43, 3) := by decide +kernel
theorem d_Bx_measured_103 : decode prog_3_method_9_code 103 = .ok (.aload_n 0, 1) := by decide +kernel
theorem d_Bx_measured_104 : decode prog_3_method_9_code 104 = .ok (.getfield 36, 3) := by decide +kernel
theorem d_Bx_measured_107 : decode prog_3_method_9_code 107 = .ok (.isub, 1) := by decide +kernel
theorem d_Bx_measured_108 : decode prog_3_method_9_code 108 = .ok (.iconst 1, 1) := by decide +kernel
theorem d_Bx_measured_109 : decode prog_3_method_9_code 109 = .ok (.iadd, 1) := by decide +kernel
theorem d_Bx_measured_110 : decode prog_3_method_9_code 110 = .ok (.imul, 1) := by decide +kernel
theorem d_Bx_measured_111 : decode prog_3_method_9_code 111 = .ok (.aload_n 0, 1) := by decide +kernel
theorem d_Bx_measured_112 : decode prog_3_method_9_code 112 = .ok (.iconst 0, 1) := by decide +kernel
theorem d_Bx_measured_113 : decode prog_3_method_9_code 113 = .ok (.invokevirtual 119, 3) := by decide +kernel
theorem d_Bx_measured_116 : decode prog_3_method_9_code 116 = .ok (.isub, 1) := by decide +kernel
theorem d_Bx_measured_117 : decode prog_3_method_9_code 117 = .ok (.ireturn, 1) := by decide +kernel
set_option maxHeartbeats 4000000 in
theorem w_Bx_measured_0 {l : Launch} {G : gG} {d : Nat} {X : gX} {M : gM} {k : Int → gM → Prop} {c : Nat} (hX : glX X c) {Q : gQ} (hO : gOld G Q) {w1 : Nat} (hw1 : w1 < 52)  (T : (gSw w1 = 36 → (g32 (M (c + 1167) 5) → (k (w32 ((M (c + 1167) 5) + 1)) M))) ∧ (gSw w1 = 37 → (g32 (M (c + 1167) 3) → (k (w32 ((M (c + 1167) 3) + 1)) M))) ∧ (gSw w1 = 38 → (g32 (M (c + 1167) 6) → (g32 (M (c + 1167) 5) → (k (w32 (((M (c + 1167) 6) - (M (c + 1167) 5)) + 1)) M)))) ∧ (gSw w1 = 39 → (g32 (M (c + 1167) 4) → (g32 (M (c + 1167) 3) → (k (w32 (((M (c + 1167) 4) - (M (c + 1167) 3)) + 1)) M)))) ∧ (gSw w1 = 40 → (cI l G y_Bx_ofKind (gRm d) false [gR G (c + 1167), gI 1] X M (fun v8 M7 => (k v8 M7)))) ∧ ((¬ gSw w1 = 36 ∧ ¬ gSw w1 = 37 ∧ ¬ gSw w1 = 38 ∧ ¬ gSw w1 = 39 ∧ ¬ gSw w1 = 40) → (g32 (M (c + 1167) 6) → (g32 (M (c + 1167) 5) → (g32 (M (c + 1167) 4) → (g32 (M (c + 1167) 3) → (cI l G y_Bx_ofKind (gRm d) false [gR G (c + 1167), gI 0] X M (fun v15 M14 => (k (w32 (((((M (c + 1167) 6) - (M (c + 1167) 5)) + 1) * (((M (c + 1167) 4) - (M (c + 1167) 3)) + 1)) - v15)) M14))))))))) : wp l G y_Bx_measured (gRm (d + 1)) false (kkI X k) false 0 [.val (gR G (c + 1167)), .val (.ref (Q.1 w1))] [] X M 0 0 := by
  refine wp_gets d_Bx_measured_0 fs_Bx_93 (fun U hU => (hO U hU).2.2.2.2.1.1) ?_
  refine wp_aloadO_n d_Bx_measured_3 rfl rfl ?_
  refine xo_ord hO hw1 d_Bx_measured_4 (gWs_ord ml_Bx_98) (by simp only [List.map, gR_cat, gI_cat, gL_cat, g_rcat, List.sum_cons, List.sum_nil]; decide) ?_
  refine xo_sw hO d_Bx_measured_7 hw1 ?_
  obtain ⟨T0, T1, T2, T3, T4, T5⟩ := T
  by_cases hc0 : gSw w1 = 36
  · refine xtabIn (tgt := 44) d_Bx_measured_8 (w32_id (gS32 hw1)) 36 hc0 rfl rfl (by decide) ?_
    have T := T0 hc0
    refine wp_aload_n d_Bx_measured_44 rfl rfl (g_nz (gl_1 hX 1167)) ?_
    refine xgetI d_Bx_measured_45 gc_Bx f_Bx_46.1 f_Bx_46.2.1 f_Bx_46.2.2.1 (gl_1 hX 1167) (gl_2 hX (a := 1167) (by decide)) (gl_s hX 39 rfl) f_Bx_46.2.2.2.2.1 (fun h1 => ?_)
    have T := T h1
    refine wp_iconst d_Bx_measured_48 ?_
    refine wp_iadd d_Bx_measured_49 ?_
    exact wp_st (st' := [gI (w32 ((M (c + 1167) 5) + 1))]) (by rw [gI_w]) (wp_ireturn d_Bx_measured_50 rfl id (Nat.zero_le _) (Nat.zero_le _) (kI_mk (w32_ok _) T))
  by_cases hc1 : gSw w1 = 37
  · refine xtabIn (tgt := 51) d_Bx_measured_8 (w32_id (gS32 hw1)) 37 hc1 rfl rfl (by decide) ?_
    have T := T1 hc1
    refine wp_aload_n d_Bx_measured_51 rfl rfl (g_nz (gl_1 hX 1167)) ?_
    refine xgetI d_Bx_measured_52 gc_Bx f_Bx_36.1 f_Bx_36.2.1 f_Bx_36.2.2.1 (gl_1 hX 1167) (gl_2 hX (a := 1167) (by decide)) (gl_s hX 39 rfl) f_Bx_36.2.2.2.2.1 (fun h2 => ?_)
    have T := T h2
    refine wp_iconst d_Bx_measured_55 ?_
    refine wp_iadd d_Bx_measured_56 ?_
    exact wp_st (st' := [gI (w32 ((M (c + 1167) 3) + 1))]) (by rw [gI_w]) (wp_ireturn d_Bx_measured_57 rfl id (Nat.zero_le _) (Nat.zero_le _) (kI_mk (w32_ok _) T))
  by_cases hc2 : gSw w1 = 38
  · refine xtabIn (tgt := 58) d_Bx_measured_8 (w32_id (gS32 hw1)) 38 hc2 rfl rfl (by decide) ?_
    have T := T2 hc2
    refine wp_aload_n d_Bx_measured_58 rfl rfl (g_nz (gl_1 hX 1167)) ?_
    refine xgetI d_Bx_measured_59 gc_Bx f_Bx_49.1 f_Bx_49.2.1 f_Bx_49.2.2.1 (gl_1 hX 1167) (gl_2 hX (a := 1167) (by decide)) (gl_s hX 39 rfl) f_Bx_49.2.2.2.2.1 (fun h3 => ?_)
    have T := T h3
    refine wp_aload_n d_Bx_measured_62 rfl rfl (g_nz (gl_1 hX 1167)) ?_
    refine xgetI d_Bx_measured_63 gc_Bx f_Bx_46.1 f_Bx_46.2.1 f_Bx_46.2.2.1 (gl_1 hX 1167) (gl_2 hX (a := 1167) (by decide)) (gl_s hX 39 rfl) f_Bx_46.2.2.2.2.1 (fun h4 => ?_)
    have T := T h4
    refine wp_isub d_Bx_measured_66 ?_
    refine wp_iconst d_Bx_measured_67 ?_
    refine wp_iadd d_Bx_measured_68 ?_
    exact wp_st (st' := [gI (w32 (((M (c + 1167) 6) - (M (c + 1167) 5)) + 1))]) (by rw [gI_w]) (wp_ireturn d_Bx_measured_69 rfl id (Nat.zero_le _) (Nat.zero_le _) (kI_mk (w32_ok _) T))
  by_cases hc3 : gSw w1 = 39
  · refine xtabIn (tgt := 70) d_Bx_measured_8 (w32_id (gS32 hw1)) 39 hc3 rfl rfl (by decide) ?_
    have T := T3 hc3
    refine wp_aload_n d_Bx_measured_70 rfl rfl (g_nz (gl_1 hX 1167)) ?_
    refine xgetI d_Bx_measured_71 gc_Bx f_Bx_43.1 f_Bx_43.2.1 f_Bx_43.2.2.1 (gl_1 hX 1167) (gl_2 hX (a := 1167) (by decide)) (gl_s hX 39 rfl) f_Bx_43.2.2.2.2.1 (fun h5 => ?_)
    have T := T h5
    refine wp_aload_n d_Bx_measured_74 rfl rfl (g_nz (gl_1 hX 1167)) ?_
    refine xgetI d_Bx_measured_75 gc_Bx f_Bx_36.1 f_Bx_36.2.1 f_Bx_36.2.2.1 (gl_1 hX 1167) (gl_2 hX (a := 1167) (by decide)) (gl_s hX 39 rfl) f_Bx_36.2.2.2.2.1 (fun h6 => ?_)
    have T := T h6
    refine wp_isub d_Bx_measured_78 ?_
    refine wp_iconst d_Bx_measured_79 ?_
    refine wp_iadd d_Bx_measured_80 ?_
    exact wp_st (st' := [gI (w32 (((M (c + 1167) 4) - (M (c + 1167) 3)) + 1))]) (by rw [gI_w]) (wp_ireturn d_Bx_measured_81 rfl id (Nat.zero_le _) (Nat.zero_le _) (kI_mk (w32_ok _) T))
  by_cases hc4 : gSw w1 = 40
  · refine xtabIn (tgt := 82) d_Bx_measured_8 (w32_id (gS32 hw1)) 40 hc4 rfl rfl (by decide) ?_
    have T := T4 hc4
    refine wp_aload_n d_Bx_measured_82 rfl rfl (g_nz (gl_1 hX 1167)) ?_
    refine wp_iconst d_Bx_measured_83 ?_
    refine xcV_I (md' := false) (As := [gI 1]) (st := []) d_Bx_measured_84 ca_Bx_ofKind ml_Bx_119 im_Bx_ofKind se_Bx_ofKind gc_Bx (gl_1 hX 1167) (gl_2 hX (a := 1167) (by decide)) (gl_s hX 39 rfl) rfl (by decide) (by decide) rfl id id T (fun v8 M7 h9 T => ?_)
    exact wp_ireturn d_Bx_measured_87 rfl id (Nat.zero_le _) (Nat.zero_le _) (kI_mk h9 T)
  refine xtabOut (tgt := 88) d_Bx_measured_8 (w32_id (gS32 hw1)) (by omega) (by decide) ?_
  have T := T5 ⟨hc0, hc1, hc2, hc3, hc4⟩
  refine wp_aload_n d_Bx_measured_88 rfl rfl (g_nz (gl_1 hX 1167)) ?_
  refine xgetI d_Bx_measured_89 gc_Bx f_Bx_49.1 f_Bx_49.2.1 f_Bx_49.2.2.1 (gl_1 hX 1167) (gl_2 hX (a := 1167) (by decide)) (gl_s hX 39 rfl) f_Bx_49.2.2.2.2.1 (fun h10 => ?_)
  have T := T h10
  refine wp_aload_n d_Bx_measured_92 rfl rfl (g_nz (gl_1 hX 1167)) ?_
  refine xgetI d_Bx_measured_93 gc_Bx f_Bx_46.1 f_Bx_46.2.1 f_Bx_46.2.2.1 (gl_1 hX 1167) (gl_2 hX (a := 1167) (by decide)) (gl_s hX 39 rfl) f_Bx_46.2.2.2.2.1 (fun h11 => ?_)
  have T := T h11
  refine wp_isub d_Bx_measured_96 ?_
  refine wp_iconst d_Bx_measured_97 ?_
  refine wp_iadd d_Bx_measured_98 ?_
  refine wp_aload_n d_Bx_measured_99 rfl rfl (g_nz (gl_1 hX 1167)) ?_
  refine xgetI d_Bx_measured_100 gc_Bx f_Bx_43.1 f_Bx_43.2.1 f_Bx_43.2.2.1 (gl_1 hX 1167) (gl_2 hX (a := 1167) (by decide)) (gl_s hX 39 rfl) f_Bx_43.2.2.2.2.1 (fun h12 => ?_)
  have T := T h12
  refine wp_aload_n d_Bx_measured_103 rfl rfl (g_nz (gl_1 hX 1167)) ?_
  refine xgetI d_Bx_measured_104 gc_Bx f_Bx_36.1 f_Bx_36.2.1 f_Bx_36.2.2.1 (gl_1 hX 1167) (gl_2 hX (a := 1167) (by decide)) (gl_s hX 39 rfl) f_Bx_36.2.2.2.2.1 (fun h13 => ?_)
  have T := T h13
  refine wp_isub d_Bx_measured_107 ?_
  refine wp_iconst d_Bx_measured_108 ?_
  refine wp_iadd d_Bx_measured_109 ?_
  refine wp_imul d_Bx_measured_110 ?_
  refine wp_aload_n d_Bx_measured_111 rfl rfl (g_nz (gl_1 hX 1167)) ?_
  refine wp_iconst d_Bx_measured_112 ?_
  refine xcV_I (md' := false) (As := [gI 0]) (st := [gI ((((M (c + 1167) 6) - (M (c + 1167) 5)) + 1) * (((M (c + 1167) 4) - (M (c + 1167) 3)) + 1))]) d_Bx_measured_113 ca_Bx_ofKind ml_Bx_119 im_Bx_ofKind se_Bx_ofKind gc_Bx (gl_1 hX 1167) (gl_2 hX (a := 1167) (by decide)) (gl_s hX 39 rfl) rfl (by decide) (by simp only [List.map, gR_cat, gI_cat, gL_cat, List.sum_cons, List.sum_nil]; decide) rfl id id T (fun v15 M14 h16 T => ?_)
  refine wp_isub d_Bx_measured_116 ?_
  exact wp_st (st' := [gI (w32 (((((M (c + 1167) 6) - (M (c + 1167) 5)) + 1) * (((M (c + 1167) 4) - (M (c + 1167) 3)) + 1)) - v15))]) (by rw [gI_w]) (wp_ireturn d_Bx_measured_117 rfl id (Nat.zero_le _) (Nat.zero_le _) (kI_mk (w32_ok _) T))
theorem e_Bx_measured {l : Launch} {G : gG} {d : Nat} {X : gX} {M : gM} {k : Int → gM → Prop} {Q : gQ} {c : Nat} {w1 : Nat} (T : wp l G y_Bx_measured (gRm (d + 1)) false (kkI X k) false 0 [.val (gR G (c + 1167)), .val (.ref (Q.1 w1))] [] X M 0 0) : cI l G y_Bx_measured (gRm (d + 1)) false [gR G (c + 1167), .ref (Q.1 w1)] X M k := cen_I (plainFor_of_name rfl) (by simp only [lg_sl_R, lg_sl_I, lg_sl_L, lg_sl_O, lg_sl_N, List.length_cons, List.length_nil]; decide) (by unfold gEn; simp only [lg_sl_R, lg_sl_I, lg_sl_L, lg_sl_O, lg_sl_N]; exact wpt T (And.intro rfl (And.intro rfl True.intro)))
theorem d_Bx_search_0 : decode prog_3_method_11_code 0 = .ok (.getstatic 93, 3) := by decide +kernel
theorem d_Bx_search_3 : decode prog_3_method_11_code 3 = .ok (.aload_n 1, 1) := by decide +kernel
theorem d_Bx_search_4 : decode prog_3_method_11_code 4 = .ok (.invokevirtual 98, 3) := by decide +kernel
theorem d_Bx_search_7 : decode prog_3_method_11_code 7 = .ok (.iaload, 1) := by decide +kernel
theorem d_Bx_search_8 : decode prog_3_method_11_code 8 = .ok (.tableswitch 93 41 43 #[28, 63, 78], 28) := by decide +kernel
theorem d_Bx_search_36 : decode prog_3_method_11_code 36 = .ok (.aload_n 0, 1) := by decide +kernel
theorem d_Bx_search_37 : decode prog_3_method_11_code 37 = .ok (.iload_n 2, 1) := by decide +kernel
theorem d_Bx_search_38 : decode prog_3_method_11_code 38 = .ok (.invokevirtual 52, 3) := by decide +kernel
theorem d_Bx_search_41 : decode prog_3_method_11_code 41 = .ok (.aload_n 0, 1) := by decide +kernel
theorem d_Bx_search_42 : decode prog_3_method_11_code 42 = .ok (.iload_n 2, 1) := by decide +kernel
theorem d_Bx_search_43 : decode prog_3_method_11_code 43 = .ok (.aload_n 0, 1) := by decide +kernel
theorem d_Bx_search_44 : decode prog_3_method_11_code 44 = .ok (.getfield 9, 3) := by decide +kernel
theorem d_Bx_search_47 : decode prog_3_method_11_code 47 = .ok (.getfield 22, 3) := by decide +kernel
theorem d_Bx_search_50 : decode prog_3_method_11_code 50 = .ok (.iload_n 2, 1) := by decide +kernel
theorem d_Bx_search_51 : decode prog_3_method_11_code 51 = .ok (.iconst 1, 1) := by decide +kernel
theorem d_Bx_search_52 : decode prog_3_method_11_code 52 = .ok (.iadd, 1) := by decide +kernel
theorem d_Bx_search_53 : decode prog_3_method_11_code 53 = .ok (.laload, 1) := by decide +kernel
theorem d_Bx_search_54 : decode prog_3_method_11_code 54 = .ok (.aload_n 0, 1) := by decide +kernel
theorem d_Bx_search_55 : decode prog_3_method_11_code 55 = .ok (.getfield 9, 3) := by decide +kernel
theorem d_Bx_search_58 : decode prog_3_method_11_code 58 = .ok (.getfield 22, 3) := by decide +kernel
theorem d_Bx_search_61 : decode prog_3_method_11_code 61 = .ok (.iload_n 2, 1) := by decide +kernel
theorem d_Bx_search_62 : decode prog_3_method_11_code 62 = .ok (.iconst 2, 1) := by decide +kernel
theorem d_Bx_search_63 : decode prog_3_method_11_code 63 = .ok (.iadd, 1) := by decide +kernel
theorem d_Bx_search_64 : decode prog_3_method_11_code 64 = .ok (.laload, 1) := by decide +kernel
theorem d_Bx_search_65 : decode prog_3_method_11_code 65 = .ok (.invokevirtual 123, 3) := by decide +kernel
theorem d_Bx_search_68 : decode prog_3_method_11_code 68 = .ok (.goto 44, 3) := by decide +kernel
theorem d_Bx_search_112 : decode prog_3_method_11_code 112 = .ok (.return_, 1) := by decide +kernel
theorem d_Bx_search_71 : decode prog_3_method_11_code 71 = .ok (.aload_n 0, 1) := by decide +kernel
theorem d_Bx_search_72 : decode prog_3_method_11_code 72 = .ok (.iload_n 2, 1) := by decide +kernel
theorem d_Bx_search_73 : decode prog_3_method_11_code 73 = .ok (.iconst 1, 1) := by decide +kernel
theorem d_Bx_search_74 : decode prog_3_method_11_code 74 = .ok (.iadd, 1) := by decide +kernel
theorem d_Bx_search_75 : decode prog_3_method_11_code 75 = .ok (.invokevirtual 52, 3) := by decide +kernel
theorem d_Bx_search_78 : decode prog_3_method_11_code 78 = .ok (.aload_n 0, 1) := by decide +kernel
theorem d_Bx_search_79 : decode prog_3_method_11_code 79 = .ok (.iload_n 2, 1) := by decide +kernel
theorem d_Bx_search_80 : decode prog_3_method_11_code 80 = .ok (.invokevirtual 127, 3) := by decide +kernel
theorem d_Bx_search_83 : decode prog_3_method_11_code 83 = .ok (.goto 29, 3) := by decide +kernel
theorem d_Bx_search_86 : decode prog_3_method_11_code 86 = .ok (.aload_n 0, 1) := by decide +kernel
theorem d_Bx_search_87 : decode prog_3_method_11_code 87 = .ok (.iload_n 2, 1) := by decide +kernel
theorem d_Bx_search_88 : decode prog_3_method_11_code 88 = .ok (.iconst 1, 1) := by decide +kernel
theorem d_Bx_search_89 : decode prog_3_method_11_code 89 = .ok (.iadd, 1) := by decide +kernel
theorem d_Bx_search_90 : decode prog_3_method_11_code 90 = .ok (.invokevirtual 52, 3) := by decide +kernel
theorem d_Bx_search_93 : decode prog_3_method_11_code 93 = .ok (.aload_n 0, 1) := by decide +kernel
theorem d_Bx_search_94 : decode prog_3_method_11_code 94 = .ok (.iload_n 2, 1) := by decide +kernel
theorem d_Bx_search_95 : decode prog_3_method_11_code 95 = .ok (.invokevirtual 130, 3) := by decide +kernel
theorem d_Bx_search_98 : decode prog_3_method_11_code 98 = .ok (.goto 14, 3) := by decide +kernel
theorem d_Bx_search_101 : decode prog_3_method_11_code 101 = .ok (.aload_n 0, 1) := by decide +kernel
theorem d_Bx_search_102 : decode prog_3_method_11_code 102 = .ok (.iload_n 2, 1) := by decide +kernel
theorem d_Bx_search_103 : decode prog_3_method_11_code 103 = .ok (.invokevirtual 52, 3) := by decide +kernel
theorem d_Bx_search_106 : decode prog_3_method_11_code 106 = .ok (.aload_n 0, 1) := by decide +kernel
theorem d_Bx_search_107 : decode prog_3_method_11_code 107 = .ok (.aload_n 1, 1) := by decide +kernel
theorem d_Bx_search_108 : decode prog_3_method_11_code 108 = .ok (.iload_n 2, 1) := by decide +kernel
theorem d_Bx_search_109 : decode prog_3_method_11_code 109 = .ok (.invokevirtual 133, 3) := by decide +kernel
set_option maxHeartbeats 4000000 in
theorem w_Bx_search_0 {l : Launch} {G : gG} {d : Nat} {X : gX} {M : gM} {k : gM → Prop} {c : Nat} (hX : glX X c) {Q : gQ} (hO : gOld G Q) {w1 : Nat} (hw1 : w1 < 52) {x2 : Int} (hx2 : g32 x2)  (T : (gSw w1 = 41 → (cV l G y_Bx_open (gRm d) true [gR G (c + 1167), gI x2] X M (fun M1 => (((0 : Int) ≤ x2 + 1 ∧ x2 + 1 < 104) ∧ (g64 (M1 ((c + 1058) + 2) (Int.toNat (x2 + 1))) → (((0 : Int) ≤ x2 + 2 ∧ x2 + 2 < 104) ∧ (g64 (M1 ((c + 1058) + 2) (Int.toNat (x2 + 2))) → (cV l G y_Bx_show (gRm d) true [gR G (c + 1167), gI x2, gL (M1 ((c + 1058) + 2) (Int.toNat (x2 + 1))), gL (M1 ((c + 1058) + 2) (Int.toNat (x2 + 2)))] X M1 (fun M4 => (k M4)))))))))) ∧ (gSw w1 = 42 → (cV l G y_Bx_open (gRm d) true [gR G (c + 1167), gI (x2 + 1)] X M (fun M5 => (cV l G y_Bx_match (gRm d) true [gR G (c + 1167), gI x2] X M5 (fun M6 => (k M6)))))) ∧ (gSw w1 = 43 → (cV l G y_Bx_open (gRm d) true [gR G (c + 1167), gI (x2 + 1)] X M (fun M7 => (cV l G y_Bx_lookUp (gRm d) true [gR G (c + 1167), gI x2] X M7 (fun M8 => (k M8)))))) ∧ ((¬ gSw w1 = 41 ∧ ¬ gSw w1 = 42 ∧ ¬ gSw w1 = 43) → (cV l G y_Bx_open (gRm d) true [gR G (c + 1167), gI x2] X M (fun M9 => (cV l G y_Bx_addUp (gRm d) true [gR G (c + 1167), .ref (Q.1 w1), gI x2] X M9 (fun M10 => (k M10))))))) : wp l G y_Bx_search (gRm (d + 1)) true (kkV X k) false 0 [.val (gR G (c + 1167)), .val (.ref (Q.1 w1)), .val (gI x2)] [] X M 0 0 := by
  refine wp_gets d_Bx_search_0 fs_Bx_93 (fun U hU => (hO U hU).2.2.2.2.1.1) ?_
  refine wp_aloadO_n d_Bx_search_3 rfl rfl ?_
  refine xo_ord hO hw1 d_Bx_search_4 (gWs_ord ml_Bx_98) (by simp only [List.map, gR_cat, gI_cat, gL_cat, g_rcat, List.sum_cons, List.sum_nil]; decide) ?_
  refine xo_sw hO d_Bx_search_7 hw1 ?_
  obtain ⟨T0, T1, T2, T3⟩ := T
  by_cases hc0 : gSw w1 = 41
  · refine xtabIn (tgt := 36) d_Bx_search_8 (w32_id (gS32 hw1)) 41 hc0 rfl rfl (by decide) ?_
    have T := T0 hc0
    refine wp_aload_n d_Bx_search_36 rfl rfl (g_nz (gl_1 hX 1167)) ?_
    refine wp_iload_n d_Bx_search_37 rfl rfl ?_
    refine xcV_V (md' := true) (As := [gI x2]) (st := []) d_Bx_search_38 ca_Bx_open ml_Bx_52 im_Bx_open se_Bx_open gc_Bx (gl_1 hX 1167) (gl_2 hX (a := 1167) (by decide)) (gl_s hX 39 rfl) rfl (by decide) (by decide) rfl (fun _ => rfl) (fun _ => rfl) T (fun M1 T => ?_)
    refine wp_aload_n d_Bx_search_41 rfl rfl (g_nz (gl_1 hX 1167)) ?_
    refine wp_iload_n d_Bx_search_42 rfl rfl ?_
    refine wp_aload_n d_Bx_search_43 rfl rfl (g_nz (gl_1 hX 1167)) ?_
    refine xgetR d_Bx_search_44 gc_Bx f_Bx_9.1 f_Bx_9.2.1 f_Bx_9.2.2.1 (gl_1 hX 1167) (gl_2 hX (a := 1167) (by decide)) (gl_s hX 39 rfl) f_Bx_9.2.2.2.2.1 (gl_f hX 46 rfl) ?_
    refine xgetR d_Bx_search_47 gc_Vl f_Bx_22.1 f_Bx_22.2.1 f_Bx_22.2.2.1 (gl_stk hX).1 (gv_2 (gl_stk hX)) (gl_stk hX).2.2.1 f_Bx_22.2.2.2.2.1 (gv_r2 (gl_stk hX)).1 ?_
    refine wp_iload_n d_Bx_search_50 rfl rfl ?_
    refine wp_iconst d_Bx_search_51 ?_
    refine wp_iadd d_Bx_search_52 ?_
    refine wp_laload d_Bx_search_53 (gv_r2 (gl_stk hX)).2.2.1 (gv_r2 (gl_stk hX)).2.2.2 (gv_r2 (gl_stk hX)).2.1 (g32_n T.1 (gv_n (gl_stk hX))) T.1.1 T.1.2 (fun h2 => ?_)
    have T := T.2 h2
    refine wp_aload_n d_Bx_search_54 rfl rfl (g_nz (gl_1 hX 1167)) ?_
    refine xgetR d_Bx_search_55 gc_Bx f_Bx_9.1 f_Bx_9.2.1 f_Bx_9.2.2.1 (gl_1 hX 1167) (gl_2 hX (a := 1167) (by decide)) (gl_s hX 39 rfl) f_Bx_9.2.2.2.2.1 (gl_f hX 46 rfl) ?_
    refine xgetR d_Bx_search_58 gc_Vl f_Bx_22.1 f_Bx_22.2.1 f_Bx_22.2.2.1 (gl_stk hX).1 (gv_2 (gl_stk hX)) (gl_stk hX).2.2.1 f_Bx_22.2.2.2.2.1 (gv_r2 (gl_stk hX)).1 ?_
    refine wp_iload_n d_Bx_search_61 rfl rfl ?_
    refine wp_iconst d_Bx_search_62 ?_
    refine wp_iadd d_Bx_search_63 ?_
    refine wp_laload d_Bx_search_64 (gv_r2 (gl_stk hX)).2.2.1 (gv_r2 (gl_stk hX)).2.2.2 (gv_r2 (gl_stk hX)).2.1 (g32_n T.1 (gv_n (gl_stk hX))) T.1.1 T.1.2 (fun h3 => ?_)
    have T := T.2 h3
    refine xcV_V (md' := true) (As := [gI x2, gL (M1 ((c + 1058) + 2) (Int.toNat (x2 + 1))), gL (M1 ((c + 1058) + 2) (Int.toNat (x2 + 2)))]) (st := []) d_Bx_search_65 ca_Bx_show ml_Bx_123 im_Bx_show se_Bx_show gc_Bx (gl_1 hX 1167) (gl_2 hX (a := 1167) (by decide)) (gl_s hX 39 rfl) rfl (by decide) (by decide) rfl (fun _ => rfl) (fun _ => rfl) T (fun M4 T => ?_)
    refine wp_goto (tgt := 112) d_Bx_search_68 (by decide) ?_
    exact wp_return d_Bx_search_112 rfl (fun _ => rfl) (Nat.zero_le _) (Nat.zero_le _) (kV_mk T)
  by_cases hc1 : gSw w1 = 42
  · refine xtabIn (tgt := 71) d_Bx_search_8 (w32_id (gS32 hw1)) 42 hc1 rfl rfl (by decide) ?_
    have T := T1 hc1
    refine wp_aload_n d_Bx_search_71 rfl rfl (g_nz (gl_1 hX 1167)) ?_
    refine wp_iload_n d_Bx_search_72 rfl rfl ?_
    refine wp_iconst d_Bx_search_73 ?_
    refine wp_iadd d_Bx_search_74 ?_
    refine xcV_V (md' := true) (As := [gI (x2 + 1)]) (st := []) d_Bx_search_75 ca_Bx_open ml_Bx_52 im_Bx_open se_Bx_open gc_Bx (gl_1 hX 1167) (gl_2 hX (a := 1167) (by decide)) (gl_s hX 39 rfl) rfl (by decide) (by decide) rfl (fun _ => rfl) (fun _ => rfl) T (fun M5 T => ?_)
    refine wp_aload_n d_Bx_search_78 rfl rfl (g_nz (gl_1 hX 1167)) ?_
    refine wp_iload_n d_Bx_search_79 rfl rfl ?_
    refine xcV_V (md' := true) (As := [gI x2]) (st := []) d_Bx_search_80 ca_Bx_match ml_Bx_127 im_Bx_match se_Bx_match gc_Bx (gl_1 hX 1167) (gl_2 hX (a := 1167) (by decide)) (gl_s hX 39 rfl) rfl (by decide) (by decide) rfl (fun _ => rfl) (fun _ => rfl) T (fun M6 T => ?_)
    refine wp_goto (tgt := 112) d_Bx_search_83 (by decide) ?_
    exact wp_return d_Bx_search_112 rfl (fun _ => rfl) (Nat.zero_le _) (Nat.zero_le _) (kV_mk T)
  by_cases hc2 : gSw w1 = 43
  · refine xtabIn (tgt := 86) d_Bx_search_8 (w32_id (gS32 hw1)) 43 hc2 rfl rfl (by decide) ?_
    have T := T2 hc2
    refine wp_aload_n d_Bx_search_86 rfl rfl (g_nz (gl_1 hX 1167)) ?_
    refine wp_iload_n d_Bx_search_87 rfl rfl ?_
    refine wp_iconst d_Bx_search_88 ?_
    refine wp_iadd d_Bx_search_89 ?_
    refine xcV_V (md' := true) (As := [gI (x2 + 1)]) (st := []) d_Bx_search_90 ca_Bx_open ml_Bx_52 im_Bx_open se_Bx_open gc_Bx (gl_1 hX 1167) (gl_2 hX (a := 1167) (by decide)) (gl_s hX 39 rfl) rfl (by decide) (by decide) rfl (fun _ => rfl) (fun _ => rfl) T (fun M7 T => ?_)
    refine wp_aload_n d_Bx_search_93 rfl rfl (g_nz (gl_1 hX 1167)) ?_
    refine wp_iload_n d_Bx_search_94 rfl rfl ?_
    refine xcV_V (md' := true) (As := [gI x2]) (st := []) d_Bx_search_95 ca_Bx_lookUp ml_Bx_130 im_Bx_lookUp se_Bx_lookUp gc_Bx (gl_1 hX 1167) (gl_2 hX (a := 1167) (by decide)) (gl_s hX 39 rfl) rfl (by decide) (by decide) rfl (fun _ => rfl) (fun _ => rfl) T (fun M8 T => ?_)
    refine wp_goto (tgt := 112) d_Bx_search_98 (by decide) ?_
    exact wp_return d_Bx_search_112 rfl (fun _ => rfl) (Nat.zero_le _) (Nat.zero_le _) (kV_mk T)
  refine xtabOut (tgt := 101) d_Bx_search_8 (w32_id (gS32 hw1)) (by omega) (by decide) ?_
  have T := T3 ⟨hc0, hc1, hc2⟩
  refine wp_aload_n d_Bx_search_101 rfl rfl (g_nz (gl_1 hX 1167)) ?_
  refine wp_iload_n d_Bx_search_102 rfl rfl ?_
  refine xcV_V (md' := true) (As := [gI x2]) (st := []) d_Bx_search_103 ca_Bx_open ml_Bx_52 im_Bx_open se_Bx_open gc_Bx (gl_1 hX 1167) (gl_2 hX (a := 1167) (by decide)) (gl_s hX 39 rfl) rfl (by decide) (by decide) rfl (fun _ => rfl) (fun _ => rfl) T (fun M9 T => ?_)
  refine wp_aload_n d_Bx_search_106 rfl rfl (g_nz (gl_1 hX 1167)) ?_
  refine wp_aloadO_n d_Bx_search_107 rfl rfl ?_
  refine wp_iload_n d_Bx_search_108 rfl rfl ?_
  refine xcV_V (md' := true) (As := [.ref (Q.1 w1), gI x2]) (st := []) d_Bx_search_109 ca_Bx_addUp ml_Bx_133 im_Bx_addUp se_Bx_addUp gc_Bx (gl_1 hX 1167) (gl_2 hX (a := 1167) (by decide)) (gl_s hX 39 rfl) rfl (by decide) (by decide) rfl (fun _ => rfl) (fun _ => rfl) T (fun M10 T => ?_)
  exact wp_return d_Bx_search_112 rfl (fun _ => rfl) (Nat.zero_le _) (Nat.zero_le _) (kV_mk T)
theorem e_Bx_search {l : Launch} {G : gG} {d : Nat} {X : gX} {M : gM} {k : gM → Prop} {Q : gQ} {c : Nat} {x2 : Int} {w1 : Nat} (T : wp l G y_Bx_search (gRm (d + 1)) true (kkV X k) false 0 [.val (gR G (c + 1167)), .val (.ref (Q.1 w1)), .val (gI x2)] [] X M 0 0) : cV l G y_Bx_search (gRm (d + 1)) true [gR G (c + 1167), .ref (Q.1 w1), gI x2] X M k := cen_V (plainFor_of_name rfl) (by simp only [lg_sl_R, lg_sl_I, lg_sl_L, lg_sl_O, lg_sl_N, List.length_cons, List.length_nil]; decide) (by unfold gEn; simp only [lg_sl_R, lg_sl_I, lg_sl_L, lg_sl_O, lg_sl_N]; exact wpt T (And.intro rfl (And.intro rfl (And.intro rfl True.intro))))
theorem d_Bx_addUp_0 : decode prog_3_method_16_code 0 = .ok (.lconst 0, 1) := by decide +kernel
theorem d_Bx_addUp_1 : decode prog_3_method_16_code 1 = .ok (.lstore_n 3, 1) := by decide +kernel
theorem d_Bx_addUp_2 : decode prog_3_method_16_code 2 = .ok (.iconst 0, 1) := by decide +kernel
theorem d_Bx_addUp_3 : decode prog_3_method_16_code 3 = .ok (.istore 5, 2) := by decide +kernel
theorem d_Bx_addUp_5 : decode prog_3_method_16_code 5 = .ok (.aload_n 0, 1) := by decide +kernel
theorem d_Bx_addUp_6 : decode prog_3_method_16_code 6 = .ok (.getfield 46, 3) := by decide +kernel
theorem d_Bx_addUp_9 : decode prog_3_method_16_code 9 = .ok (.istore 6, 2) := by decide +kernel
theorem d_Bx_addUp_11 : decode prog_3_method_16_code 11 = .ok (.iload 6, 2) := by decide +kernel
theorem d_Bx_addUp_13 : decode prog_3_method_16_code 13 = .ok (.aload_n 0, 1) := by decide +kernel
theorem d_Bx_addUp_14 : decode prog_3_method_16_code 14 = .ok (.getfield 49, 3) := by decide +kernel
theorem d_Bx_addUp_17 : decode prog_3_method_16_code 17 = .ok (.if_icmp .gt 128, 3) := by decide +kernel
theorem d_Bx_addUp_145 : decode prog_3_method_16_code 145 = .ok (.aload_n 0, 1) := by decide +kernel
theorem d_Bx_addUp_146 : decode prog_3_method_16_code 146 = .ok (.getfield 9, 3) := by decide +kernel
theorem d_Bx_addUp_149 : decode prog_3_method_16_code 149 = .ok (.iload_n 2, 1) := by decide +kernel
theorem d_Bx_addUp_150 : decode prog_3_method_16_code 150 = .ok (.iconst 1, 1) := by decide +kernel
theorem d_Bx_addUp_151 : decode prog_3_method_16_code 151 = .ok (.aload_n 1, 1) := by decide +kernel
theorem d_Bx_addUp_152 : decode prog_3_method_16_code 152 = .ok (.getstatic 153, 3) := by decide +kernel
theorem d_Bx_addUp_155 : decode prog_3_method_16_code 155 = .ok (.if_acmp .ne 7, 3) := by decide +kernel
theorem d_Bx_addUp_162 : decode prog_3_method_16_code 162 = .ok (.iload 5, 2) := by decide +kernel
theorem d_Bx_addUp_164 : decode prog_3_method_16_code 164 = .ok (.i2l, 1) := by decide +kernel
theorem d_Bx_addUp_165 : decode prog_3_method_16_code 165 = .ok (.invokevirtual 60, 3) := by decide +kernel
theorem d_Bx_addUp_168 : decode prog_3_method_16_code 168 = .ok (.return_, 1) := by decide +kernel
theorem d_Bx_addUp_158 : decode prog_3_method_16_code 158 = .ok (.lload_n 3, 1) := by decide +kernel
theorem d_Bx_addUp_159 : decode prog_3_method_16_code 159 = .ok (.goto 6, 3) := by decide +kernel
theorem d_Bx_addUp_20 : decode prog_3_method_16_code 20 = .ok (.aload_n 0, 1) := by decide +kernel
theorem d_Bx_addUp_21 : decode prog_3_method_16_code 21 = .ok (.getfield 36, 3) := by decide +kernel
theorem d_Bx_addUp_24 : decode prog_3_method_16_code 24 = .ok (.istore 7, 2) := by decide +kernel
theorem d_Bx_addUp_26 : decode prog_3_method_16_code 26 = .ok (.iload 7, 2) := by decide +kernel
theorem d_Bx_addUp_28 : decode prog_3_method_16_code 28 = .ok (.aload_n 0, 1) := by decide +kernel
theorem d_Bx_addUp_29 : decode prog_3_method_16_code 29 = .ok (.getfield 43, 3) := by decide +kernel
theorem d_Bx_addUp_32 : decode prog_3_method_16_code 32 = .ok (.if_icmp .gt 107, 3) := by decide +kernel
theorem d_Bx_addUp_139 : decode prog_3_method_16_code 139 = .ok (.iinc 6 1, 3) := by decide +kernel
theorem d_Bx_addUp_142 : decode prog_3_method_16_code 142 = .ok (.goto (-131), 3) := by decide +kernel
theorem d_Bx_addUp_35 : decode prog_3_method_16_code 35 = .ok (.aload_n 0, 1) := by decide +kernel
theorem d_Bx_addUp_36 : decode prog_3_method_16_code 36 = .ok (.iload 7, 2) := by decide +kernel
theorem d_Bx_addUp_38 : decode prog_3_method_16_code 38 = .ok (.iload 6, 2) := by decide +kernel
theorem d_Bx_addUp_40 : decode prog_3_method_16_code 40 = .ok (.iload_n 2, 1) := by decide +kernel
theorem d_Bx_addUp_41 : decode prog_3_method_16_code 41 = .ok (.iconst 1, 1) := by decide +kernel
theorem d_Bx_addUp_42 : decode prog_3_method_16_code 42 = .ok (.iadd, 1) := by decide +kernel
theorem d_Bx_addUp_43 : decode prog_3_method_16_code 43 = .ok (.invokevirtual 147, 3) := by decide +kernel
theorem d_Bx_addUp_46 : decode prog_3_method_16_code 46 = .ok (.ifCond .ne 6, 3) := by decide +kernel
theorem d_Bx_addUp_52 : decode prog_3_method_16_code 52 = .ok (.iinc 5 1, 3) := by decide +kernel
theorem d_Bx_addUp_55 : decode prog_3_method_16_code 55 = .ok (.aload_n 0, 1) := by decide +kernel
theorem d_Bx_addUp_56 : decode prog_3_method_16_code 56 = .ok (.getfield 15, 3) := by decide +kernel
theorem d_Bx_addUp_59 : decode prog_3_method_16_code 59 = .ok (.iload 7, 2) := by decide +kernel
theorem d_Bx_addUp_61 : decode prog_3_method_16_code 61 = .ok (.iload 6, 2) := by decide +kernel
theorem d_Bx_addUp_63 : decode prog_3_method_16_code 63 = .ok (.invokestatic 70, 3) := by decide +kernel
theorem d_Bx_addUp_66 : decode prog_3_method_16_code 66 = .ok (.iaload, 1) := by decide +kernel
theorem d_Bx_addUp_67 : decode prog_3_method_16_code 67 = .ok (.istore 8, 2) := by decide +kernel
theorem d_Bx_addUp_69 : decode prog_3_method_16_code 69 = .ok (.aload_n 0, 1) := by decide +kernel
theorem d_Bx_addUp_70 : decode prog_3_method_16_code 70 = .ok (.getfield 19, 3) := by decide +kernel
theorem d_Bx_addUp_73 : decode prog_3_method_16_code 73 = .ok (.getfield 73, 3) := by decide +kernel
theorem d_Bx_addUp_76 : decode prog_3_method_16_code 76 = .ok (.iload 8, 2) := by decide +kernel
theorem d_Bx_addUp_78 : decode prog_3_method_16_code 78 = .ok (.iaload, 1) := by decide +kernel
theorem d_Bx_addUp_79 : decode prog_3_method_16_code 79 = .ok (.iconst 1, 1) := by decide +kernel
theorem d_Bx_addUp_80 : decode prog_3_method_16_code 80 = .ok (.if_icmp .ne 23, 3) := by decide +kernel
theorem d_Bx_addUp_103 : decode prog_3_method_16_code 103 = .ok (.lconst 0, 1) := by decide +kernel
theorem d_Bx_addUp_104 : decode prog_3_method_16_code 104 = .ok (.lstore 9, 2) := by decide +kernel
theorem d_Bx_addUp_106 : decode prog_3_method_16_code 106 = .ok (.lload_n 3, 1) := by decide +kernel
theorem d_Bx_addUp_107 : decode prog_3_method_16_code 107 = .ok (.lload 9, 2) := by decide +kernel
theorem d_Bx_addUp_109 : decode prog_3_method_16_code 109 = .ok (.invokestatic 101, 3) := by decide +kernel
theorem d_Bx_addUp_112 : decode prog_3_method_16_code 112 = .ok (.ifCond .ne 16, 3) := by decide +kernel
theorem d_Bx_addUp_128 : decode prog_3_method_16_code 128 = .ok (.lload_n 3, 1) := by decide +kernel
theorem d_Bx_addUp_129 : decode prog_3_method_16_code 129 = .ok (.lload 9, 2) := by decide +kernel
theorem d_Bx_addUp_131 : decode prog_3_method_16_code 131 = .ok (.ladd, 1) := by decide +kernel
theorem d_Bx_addUp_132 : decode prog_3_method_16_code 132 = .ok (.lstore_n 3, 1) := by decide +kernel
theorem d_Bx_addUp_133 : decode prog_3_method_16_code 133 = .ok (.iinc 7 1, 3) := by decide +kernel
theorem d_Bx_addUp_136 : decode prog_3_method_16_code 136 = .ok (.goto (-110), 3) := by decide +kernel
theorem d_Bx_addUp_115 : decode prog_3_method_16_code 115 = .ok (.aload_n 0, 1) := by decide +kernel
theorem d_Bx_addUp_116 : decode prog_3_method_16_code 116 = .ok (.getfield 9, 3) := by decide +kernel
theorem d_Bx_addUp_119 : decode prog_3_method_16_code 119 = .ok (.iload_n 2, 1) := by decide +kernel
theorem d_Bx_addUp_120 : decode prog_3_method_16_code 120 = .ok (.iconst 4, 1) := by decide +kernel
theorem d_Bx_addUp_121 : decode prog_3_method_16_code 121 = .ok (.ldc2_w 80, 3) := by decide +kernel
theorem d_Bx_addUp_124 : decode prog_3_method_16_code 124 = .ok (.invokevirtual 60, 3) := by decide +kernel
theorem d_Bx_addUp_127 : decode prog_3_method_16_code 127 = .ok (.return_, 1) := by decide +kernel
theorem d_Bx_addUp_83 : decode prog_3_method_16_code 83 = .ok (.aload_n 1, 1) := by decide +kernel
theorem d_Bx_addUp_84 : decode prog_3_method_16_code 84 = .ok (.getstatic 153, 3) := by decide +kernel
theorem d_Bx_addUp_87 : decode prog_3_method_16_code 87 = .ok (.if_acmp .ne 16, 3) := by decide +kernel
theorem d_Bx_addUp_90 : decode prog_3_method_16_code 90 = .ok (.aload_n 0, 1) := by decide +kernel
theorem d_Bx_addUp_91 : decode prog_3_method_16_code 91 = .ok (.getfield 19, 3) := by decide +kernel
theorem d_Bx_addUp_94 : decode prog_3_method_16_code 94 = .ok (.getfield 22, 3) := by decide +kernel
theorem d_Bx_addUp_97 : decode prog_3_method_16_code 97 = .ok (.iload 8, 2) := by decide +kernel
theorem d_Bx_addUp_99 : decode prog_3_method_16_code 99 = .ok (.laload, 1) := by decide +kernel
theorem d_Bx_addUp_100 : decode prog_3_method_16_code 100 = .ok (.goto 4, 3) := by decide +kernel
theorem d_Bx_addUp_49 : decode prog_3_method_16_code 49 = .ok (.goto 84, 3) := by decide +kernel
set_option maxHeartbeats 4000000 in
theorem w_Bx_addUp_0 {l : Launch} {G : gG} {d : Nat} {X : gX} {M : gM} {k : gM → Prop} {c : Nat} (hX : glX X c) {Q : gQ} (hO : gOld G Q) {w1 : Nat} (hw1 : w1 < 52) {x2 : Int} (hx2 : g32 x2)  (T : g32 (M (c + 1167) 5) → (wp l G y_Bx_addUp (gRm (d + 1)) true (kkV X k) true 11 [.val (gR G (c + 1167)), .val (.ref (Q.1 w1)), .val (gI x2), .val (gL 0), .unset, .val (gI 0), .val (gI (M (c + 1167) 5)), .unset, .unset, .unset, .unset] [] X M 0 0)) : wp l G y_Bx_addUp (gRm (d + 1)) true (kkV X k) false 0 [.val (gR G (c + 1167)), .val (.ref (Q.1 w1)), .val (gI x2), .unset, .unset, .unset, .unset, .unset, .unset, .unset, .unset] [] X M 0 0 := by
  refine wp_lconst0 d_Bx_addUp_0 ?_
  refine wp_lstore_n (L' := [.val (gR G (c + 1167)), .val (.ref (Q.1 w1)), .val (gI x2), .val (gL 0), .unset, .unset, .unset, .unset, .unset, .unset, .unset]) d_Bx_addUp_1 rfl (by decide) rfl ?_
  refine wp_iconst d_Bx_addUp_2 ?_
  refine wp_istore (L' := [.val (gR G (c + 1167)), .val (.ref (Q.1 w1)), .val (gI x2), .val (gL 0), .unset, .val (gI 0), .unset, .unset, .unset, .unset, .unset]) d_Bx_addUp_3 (by decide) rfl ?_
  refine wp_aload_n d_Bx_addUp_5 rfl rfl (g_nz (gl_1 hX 1167)) ?_
  refine xgetI d_Bx_addUp_6 gc_Bx f_Bx_46.1 f_Bx_46.2.1 f_Bx_46.2.2.1 (gl_1 hX 1167) (gl_2 hX (a := 1167) (by decide)) (gl_s hX 39 rfl) f_Bx_46.2.2.2.2.1 (fun h1 => ?_)
  have T := T h1
  refine wp_istore (L' := [.val (gR G (c + 1167)), .val (.ref (Q.1 w1)), .val (gI x2), .val (gL 0), .unset, .val (gI 0), .val (gI (M (c + 1167) 5)), .unset, .unset, .unset, .unset]) d_Bx_addUp_9 (by decide) rfl ?_
  exact wp_md (wpt T (And.intro rfl (And.intro rfl (And.intro rfl (And.intro rfl (And.intro rfl (And.intro rfl True.intro)))))))
set_option maxHeartbeats 4000000 in
theorem w_Bx_addUp_11 {l : Launch} {G : gG} {d : Nat} {X : gX} {M : gM} {k : gM → Prop} {c : Nat} (hX : glX X c) {Q : gQ} (hO : gOld G Q) {x2 : Int} (hx2 : g32 x2) {x3 : Int} (hx3 : g64 x3) {x5 : Int} (hx5 : g32 x5) {x6 : Int} (hx6 : g32 x6)  {w1 : Nat} (hw1 : w1 < 52) (T : g32 (M (c + 1167) 6) → ((M (c + 1167) 6 < x6 → ((¬ w1 = 50 → (cV l G y_Vl_set (gRm d) true [gR G (c + 1058), gI x2, gI 1, gL x5] X M (fun M3 => (k M3)))) ∧ (w1 = 50 → (cV l G y_Vl_set (gRm d) true [gR G (c + 1058), gI x2, gI 1, gL x3] X M (fun M4 => (k M4)))))) ∧ (¬ M (c + 1167) 6 < x6 → (g32 (M (c + 1167) 3) → (wp l G y_Bx_addUp (gRm (d + 1)) true (kkV X k) true 26 [.val (gR G (c + 1167)), .val (.ref (Q.1 w1)), .val (gI x2), .val (gL x3), .unset, .val (gI x5), .val (gI x6), .val (gI (M (c + 1167) 3)), .unset, .unset, .unset] [] X M 0 0))))) : wp l G y_Bx_addUp (gRm (d + 1)) true (kkV X k) true 11 [.val (gR G (c + 1167)), .val (.ref (Q.1 w1)), .val (gI x2), .val (gL x3), .unset, .val (gI x5), .val (gI x6), .unset, .unset, .unset, .unset] [] X M 0 0 := by
  refine wp_iload d_Bx_addUp_11 rfl ?_
  refine wp_aload_n d_Bx_addUp_13 rfl rfl (g_nz (gl_1 hX 1167)) ?_
  refine xgetI d_Bx_addUp_14 gc_Bx f_Bx_49.1 f_Bx_49.2.1 f_Bx_49.2.2.1 (gl_1 hX 1167) (gl_2 hX (a := 1167) (by decide)) (gl_s hX 39 rfl) f_Bx_49.2.2.2.2.1 (fun h2 => ?_)
  have T := T h2
  refine xi_gt (tgt := 145) d_Bx_addUp_17 (by decide) (w32_id hx6) (w32_id h2) (fun h7 => ?_) (fun h7 => ?_)
  · have T := T.1 h7
    refine wp_aload_n d_Bx_addUp_145 rfl rfl (g_nz (gl_1 hX 1167)) ?_
    refine xgetR d_Bx_addUp_146 gc_Bx f_Bx_9.1 f_Bx_9.2.1 f_Bx_9.2.2.1 (gl_1 hX 1167) (gl_2 hX (a := 1167) (by decide)) (gl_s hX 39 rfl) f_Bx_9.2.2.2.2.1 (gl_f hX 46 rfl) ?_
    refine wp_iload_n d_Bx_addUp_149 rfl rfl ?_
    refine wp_iconst d_Bx_addUp_150 ?_
    refine wp_aloadO_n d_Bx_addUp_151 rfl rfl ?_
    refine wp_gets d_Bx_addUp_152 fs_Bx_153 (fun U hU => ((hO U hU).1 50 (by decide)).1) ?_
    refine xo_ne (tgt := 162) hO d_Bx_addUp_155 (by decide) hw1 (by decide) (fun h5 => ?_) (fun h5 => ?_)
    · have T := T.1 h5
      refine wp_iload d_Bx_addUp_162 rfl ?_
      refine xi2l d_Bx_addUp_164 (w32_id hx5) ?_
      refine xcV_V (md' := true) (As := [gI x2, gI 1, gL x5]) (st := []) d_Bx_addUp_165 ca_Vl_set ml_Bx_60 im_Vl_set se_Vl_set gc_Vl (gl_stk hX).1 (gv_2 (gl_stk hX)) (gl_stk hX).2.2.1 rfl (by decide) (by decide) rfl (fun _ => rfl) (fun _ => rfl) T (fun M3 T => ?_)
      exact wp_return d_Bx_addUp_168 rfl (fun _ => rfl) (Nat.zero_le _) (Nat.zero_le _) (kV_mk T)
    · have T := T.2 h5
      refine wp_lload_n d_Bx_addUp_158 rfl rfl ?_
      refine wp_goto (tgt := 165) d_Bx_addUp_159 (by decide) ?_
      refine xcV_V (md' := true) (As := [gI x2, gI 1, gL x3]) (st := []) d_Bx_addUp_165 ca_Vl_set ml_Bx_60 im_Vl_set se_Vl_set gc_Vl (gl_stk hX).1 (gv_2 (gl_stk hX)) (gl_stk hX).2.2.1 rfl (by decide) (by decide) rfl (fun _ => rfl) (fun _ => rfl) T (fun M4 T => ?_)
      exact wp_return d_Bx_addUp_168 rfl (fun _ => rfl) (Nat.zero_le _) (Nat.zero_le _) (kV_mk T)
  · have T := T.2 h7
    refine wp_aload_n d_Bx_addUp_20 rfl rfl (g_nz (gl_1 hX 1167)) ?_
    refine xgetI d_Bx_addUp_21 gc_Bx f_Bx_36.1 f_Bx_36.2.1 f_Bx_36.2.2.1 (gl_1 hX 1167) (gl_2 hX (a := 1167) (by decide)) (gl_s hX 39 rfl) f_Bx_36.2.2.2.2.1 (fun h6 => ?_)
    have T := T h6
    refine wp_istore (L' := [.val (gR G (c + 1167)), .val (.ref (Q.1 w1)), .val (gI x2), .val (gL x3), .unset, .val (gI x5), .val (gI x6), .val (gI (M (c + 1167) 3)), .unset, .unset, .unset]) d_Bx_addUp_24 (by decide) rfl ?_
    exact wp_md (wpt T (And.intro rfl (And.intro rfl (And.intro rfl (And.intro rfl (And.intro rfl (And.intro rfl (And.intro rfl True.intro))))))))
set_option maxHeartbeats 4000000 in
theorem w_Bx_addUp_26 {l : Launch} {G : gG} {d : Nat} {X : gX} {M : gM} {k : gM → Prop} {c : Nat} (hX : glX X c) {Q : gQ} (hO : gOld G Q) {x2 : Int} (hx2 : g32 x2) {x3 : Int} (hx3 : g64 x3) {x5 : Int} (hx5 : g32 x5) {x6 : Int} (hx6 : g32 x6) {x7 : Int} (hx7 : g32 x7) {v0 : Nat} (hv0 : X.2.2 (c + 1167) 2 = v0 ∧ gvX X v0 401) {w1 : Nat} (hw1 : w1 < 52) (T : g32 (M (c + 1167) 4) → ((M (c + 1167) 4 < x7 → (wp l G y_Bx_addUp (gRm (d + 1)) true (kkV X k) true 11 [.val (gR G (c + 1167)), .val (.ref (Q.1 w1)), .val (gI x2), .val (gL x3), .unset, .val (gI x5), .val (gI (w32 (x6 + 1))), .unset, .unset, .unset, .unset] [] X M 0 0)) ∧ (¬ M (c + 1167) 4 < x7 → (cZ l G y_Bx_isSo (gRm d) false [gR G (c + 1167), gI x7, gI x6, gI (x2 + 1)] X M (fun v10 M9 => ((¬ v10 = 0 → (cI l G y_GL_place (gRm d) false [gI x7, gI x6] X M9 (fun v13 M12 => (((0 : Int) ≤ v13 ∧ v13 < 5200) ∧ (g32 (M12 (c + 235) (Int.toNat v13)) → (((0 : Int) ≤ M12 (c + 235) (Int.toNat v13) ∧ M12 (c + 235) (Int.toNat v13) < 401) ∧ (g32 (M12 (v0 + 1) (Int.toNat (M12 (c + 235) (Int.toNat v13)))) → ((¬ M12 (v0 + 1) (Int.toNat (M12 (c + 235) (Int.toNat v13))) = 1 → (cZ l G y_Vl_plusFits (gRm d) false [gL x3, gL 0] X M12 (fun v18 M17 => ((¬ v18 = 0 → (wp l G y_Bx_addUp (gRm (d + 1)) true (kkV X k) true 26 [.val (gR G (c + 1167)), .val (.ref (Q.1 w1)), .val (gI x2), .val (gL (w64 (x3 + 0))), .unset, .val (gI (w32 (x5 + 1))), .val (gI x6), .val (gI (w32 (x7 + 1))), .unset, .unset, .unset] [] X M17 0 0)) ∧ (v18 = 0 → (cV l G y_Vl_set (gRm d) true [gR G (c + 1058), gI x2, gI 4, gL 6] X M17 (fun M20 => (k M20)))))))) ∧ (M12 (v0 + 1) (Int.toNat (M12 (c + 235) (Int.toNat v13))) = 1 → ((¬ w1 = 50 → (cZ l G y_Vl_plusFits (gRm d) false [gL x3, gL 0] X M12 (fun v23 M22 => ((¬ v23 = 0 → (wp l G y_Bx_addUp (gRm (d + 1)) true (kkV X k) true 26 [.val (gR G (c + 1167)), .val (.ref (Q.1 w1)), .val (gI x2), .val (gL (w64 (x3 + 0))), .unset, .val (gI (w32 (x5 + 1))), .val (gI x6), .val (gI (w32 (x7 + 1))), .unset, .unset, .unset] [] X M22 0 0)) ∧ (v23 = 0 → (cV l G y_Vl_set (gRm d) true [gR G (c + 1058), gI x2, gI 4, gL 6] X M22 (fun M25 => (k M25)))))))) ∧ (w1 = 50 → (((0 : Int) ≤ M12 (c + 235) (Int.toNat v13) ∧ M12 (c + 235) (Int.toNat v13) < 401) ∧ (g64 (M12 (v0 + 2) (Int.toNat (M12 (c + 235) (Int.toNat v13)))) → (cZ l G y_Vl_plusFits (gRm d) false [gL x3, gL (M12 (v0 + 2) (Int.toNat (M12 (c + 235) (Int.toNat v13))))] X M12 (fun v29 M28 => ((¬ v29 = 0 → (wp l G y_Bx_addUp (gRm (d + 1)) true (kkV X k) true 26 [.val (gR G (c + 1167)), .val (.ref (Q.1 w1)), .val (gI x2), .val (gL (w64 (x3 + (M12 (v0 + 2) (Int.toNat (M12 (c + 235) (Int.toNat v13))))))), .unset, .val (gI (w32 (x5 + 1))), .val (gI x6), .val (gI (w32 (x7 + 1))), .unset, .unset, .unset] [] X M28 0 0)) ∧ (v29 = 0 → (cV l G y_Vl_set (gRm d) true [gR G (c + 1058), gI x2, gI 4, gL 6] X M28 (fun M31 => (k M31)))))))))))))))))))) ∧ (v10 = 0 → (wp l G y_Bx_addUp (gRm (d + 1)) true (kkV X k) true 26 [.val (gR G (c + 1167)), .val (.ref (Q.1 w1)), .val (gI x2), .val (gL x3), .unset, .val (gI x5), .val (gI x6), .val (gI (w32 (x7 + 1))), .unset, .unset, .unset] [] X M9 0 0)))))))) : wp l G y_Bx_addUp (gRm (d + 1)) true (kkV X k) true 26 [.val (gR G (c + 1167)), .val (.ref (Q.1 w1)), .val (gI x2), .val (gL x3), .unset, .val (gI x5), .val (gI x6), .val (gI x7), .unset, .unset, .unset] [] X M 0 0 := by
  refine wp_iload d_Bx_addUp_26 rfl ?_
  refine wp_aload_n d_Bx_addUp_28 rfl rfl (g_nz (gl_1 hX 1167)) ?_
  refine xgetI d_Bx_addUp_29 gc_Bx f_Bx_43.1 f_Bx_43.2.1 f_Bx_43.2.2.1 (gl_1 hX 1167) (gl_2 hX (a := 1167) (by decide)) (gl_s hX 39 rfl) f_Bx_43.2.2.2.2.1 (fun h8 => ?_)
  have T := T h8
  refine xi_gt (tgt := 139) d_Bx_addUp_32 (by decide) (w32_id hx7) (w32_id h8) (fun h36 => ?_) (fun h36 => ?_)
  · have T := T.1 h36
    refine wp_iinc (L' := [.val (gR G (c + 1167)), .val (.ref (Q.1 w1)), .val (gI x2), .val (gL x3), .unset, .val (gI x5), .val (gI (x6 + 1)), .val (gI x7), .unset, .unset, .unset]) d_Bx_addUp_139 rfl (by decide) rfl ?_
    refine wp_goto (tgt := 11) d_Bx_addUp_142 (by decide) ?_
    exact wp_md (wpt T (And.intro rfl (And.intro rfl (And.intro rfl (And.intro rfl (And.intro rfl (And.intro (gI_w _) True.intro)))))))
  · have T := T.2 h36
    refine wp_aload_n d_Bx_addUp_35 rfl rfl (g_nz (gl_1 hX 1167)) ?_
    refine wp_iload d_Bx_addUp_36 rfl ?_
    refine wp_iload d_Bx_addUp_38 rfl ?_
    refine wp_iload_n d_Bx_addUp_40 rfl rfl ?_
    refine wp_iconst d_Bx_addUp_41 ?_
    refine wp_iadd d_Bx_addUp_42 ?_
    refine xcV_Z (md' := true) (As := [gI x7, gI x6, gI (x2 + 1)]) (st := []) d_Bx_addUp_43 ca_Bx_isSo ml_Bx_147 im_Bx_isSo se_Bx_isSo gc_Bx (gl_1 hX 1167) (gl_2 hX (a := 1167) (by decide)) (gl_s hX 39 rfl) rfl (by decide) (by decide) rfl (fun _ => rfl) (fun _ => rfl) T (fun v10 M9 h11 T => ?_)
    refine xz_ne (tgt := 52) d_Bx_addUp_46 (by decide) (w32_id (g32_z h11)) (fun h35 => ?_) (fun h35 => ?_)
    · have T := T.1 h35
      refine wp_iinc (L' := [.val (gR G (c + 1167)), .val (.ref (Q.1 w1)), .val (gI x2), .val (gL x3), .unset, .val (gI (x5 + 1)), .val (gI x6), .val (gI x7), .unset, .unset, .unset]) d_Bx_addUp_52 rfl (by decide) rfl ?_
      refine wp_aload_n d_Bx_addUp_55 rfl rfl (g_nz (gl_1 hX 1167)) ?_
      refine xgetR d_Bx_addUp_56 gc_Bx f_Bx_15.1 f_Bx_15.2.1 f_Bx_15.2.2.1 (gl_1 hX 1167) (gl_2 hX (a := 1167) (by decide)) (gl_s hX 39 rfl) f_Bx_15.2.2.2.2.1 (gl_f hX 47 rfl) ?_
      refine wp_iload d_Bx_addUp_59 rfl ?_
      refine wp_iload d_Bx_addUp_61 rfl ?_
      refine xcN_I (md' := true) (As := [gI x7, gI x6]) (st := [gR G (c + 235)]) d_Bx_addUp_63 ca_GL_place ml_Bx_70 sm_GL_place rfl (by decide) (by simp only [List.map, gR_cat, gI_cat, gL_cat, List.sum_cons, List.sum_nil]; decide) rfl (fun _ => rfl) (fun _ => rfl) T (fun v13 M12 h14 T => ?_)
      refine wp_iaload d_Bx_addUp_66 (gl_1 hX 235) (gl_2 hX (a := 235) (by decide)) (gl_s hX 25 rfl) (g32_n T.1 (by decide)) T.1.1 T.1.2 (fun h15 => ?_)
      have T := T.2 h15
      refine wp_istore (L' := [.val (gR G (c + 1167)), .val (.ref (Q.1 w1)), .val (gI x2), .val (gL x3), .unset, .val (gI (x5 + 1)), .val (gI x6), .val (gI x7), .val (gI (M12 (c + 235) (Int.toNat v13))), .unset, .unset]) d_Bx_addUp_67 (by decide) rfl ?_
      refine wp_aload_n d_Bx_addUp_69 rfl rfl (g_nz (gl_1 hX 1167)) ?_
      refine xgetR d_Bx_addUp_70 gc_Bx f_Bx_19.1 f_Bx_19.2.1 f_Bx_19.2.2.1 (gl_1 hX 1167) (gl_2 hX (a := 1167) (by decide)) (gl_s hX 39 rfl) f_Bx_19.2.2.2.2.1 hv0.1 ?_
      refine xgetR d_Bx_addUp_73 gc_Vl f_Bx_73.1 f_Bx_73.2.1 f_Bx_73.2.2.1 hv0.2.1 (gv_2 hv0.2) hv0.2.2.2.1 f_Bx_73.2.2.2.2.1 (gv_r1 hv0.2).1 ?_
      refine wp_iload d_Bx_addUp_76 rfl ?_
      refine wp_iaload d_Bx_addUp_78 (gv_r1 hv0.2).2.2.1 (gv_r1 hv0.2).2.2.2 (gv_r1 hv0.2).2.1 (g32_n T.1 (gv_n hv0.2)) T.1.1 T.1.2 (fun h16 => ?_)
      have T := T.2 h16
      refine wp_iconst d_Bx_addUp_79 ?_
      refine xi_ne (tgt := 103) d_Bx_addUp_80 (by decide) (w32_id h16) (w32_id (g32_c (x := 1) rfl)) (fun h34 => ?_) (fun h34 => ?_)
      · have T := T.1 h34
        refine wp_lconst0 d_Bx_addUp_103 ?_
        refine wp_lstore (L' := [.val (gR G (c + 1167)), .val (.ref (Q.1 w1)), .val (gI x2), .val (gL x3), .unset, .val (gI (x5 + 1)), .val (gI x6), .val (gI x7), .val (gI (M12 (c + 235) (Int.toNat v13))), .val (gL 0), .unset]) d_Bx_addUp_104 (by decide) rfl ?_
        refine wp_lload_n d_Bx_addUp_106 rfl rfl ?_
        refine wp_lload d_Bx_addUp_107 rfl ?_
        refine xcS_Z (md' := true) (As := [gL x3, gL 0]) (st := []) d_Bx_addUp_109 ca_Vl_plusFits ml_Bx_101 sm_Vl_plusFits rfl (by decide) (by decide) rfl (fun _ => rfl) (fun _ => rfl) T (fun v18 M17 h19 T => ?_)
        refine xz_ne (tgt := 128) d_Bx_addUp_112 (by decide) (w32_id (g32_z h19)) (fun h21 => ?_) (fun h21 => ?_)
        · have T := T.1 h21
          refine wp_lload_n d_Bx_addUp_128 rfl rfl ?_
          refine wp_lload d_Bx_addUp_129 rfl ?_
          refine wp_ladd d_Bx_addUp_131 ?_
          refine wp_lstore_n (L' := [.val (gR G (c + 1167)), .val (.ref (Q.1 w1)), .val (gI x2), .val (gL (x3 + 0)), .unset, .val (gI (x5 + 1)), .val (gI x6), .val (gI x7), .val (gI (M12 (c + 235) (Int.toNat v13))), .val (gL 0), .unset]) d_Bx_addUp_132 rfl (by decide) rfl ?_
          refine wp_iinc (L' := [.val (gR G (c + 1167)), .val (.ref (Q.1 w1)), .val (gI x2), .val (gL (x3 + 0)), .unset, .val (gI (x5 + 1)), .val (gI x6), .val (gI (x7 + 1)), .val (gI (M12 (c + 235) (Int.toNat v13))), .val (gL 0), .unset]) d_Bx_addUp_133 rfl (by decide) rfl ?_
          refine wp_goto (tgt := 26) d_Bx_addUp_136 (by decide) ?_
          exact wp_md (wpt T (And.intro rfl (And.intro rfl (And.intro rfl (And.intro (gL_w _) (And.intro (gI_w _) (And.intro rfl (And.intro (gI_w _) True.intro))))))))
        · have T := T.2 h21
          refine wp_aload_n d_Bx_addUp_115 rfl rfl (g_nz (gl_1 hX 1167)) ?_
          refine xgetR d_Bx_addUp_116 gc_Bx f_Bx_9.1 f_Bx_9.2.1 f_Bx_9.2.2.1 (gl_1 hX 1167) (gl_2 hX (a := 1167) (by decide)) (gl_s hX 39 rfl) f_Bx_9.2.2.2.2.1 (gl_f hX 46 rfl) ?_
          refine wp_iload_n d_Bx_addUp_119 rfl rfl ?_
          refine wp_iconst d_Bx_addUp_120 ?_
          refine wp_ldc2 (n := 6) d_Bx_addUp_121 c_Bx_80 rfl ?_
          refine xcV_V (md' := true) (As := [gI x2, gI 4, gL 6]) (st := []) d_Bx_addUp_124 ca_Vl_set ml_Bx_60 im_Vl_set se_Vl_set gc_Vl (gl_stk hX).1 (gv_2 (gl_stk hX)) (gl_stk hX).2.2.1 rfl (by decide) (by decide) rfl (fun _ => rfl) (fun _ => rfl) T (fun M20 T => ?_)
          exact wp_return d_Bx_addUp_127 rfl (fun _ => rfl) (Nat.zero_le _) (Nat.zero_le _) (kV_mk T)
      · have T := T.2 h34
        refine wp_aloadO_n d_Bx_addUp_83 rfl rfl ?_
        refine wp_gets d_Bx_addUp_84 fs_Bx_153 (fun U hU => ((hO U hU).1 50 (by decide)).1) ?_
        refine xo_ne (tgt := 103) hO d_Bx_addUp_87 (by decide) hw1 (by decide) (fun h33 => ?_) (fun h33 => ?_)
        · have T := T.1 h33
          refine wp_lconst0 d_Bx_addUp_103 ?_
          refine wp_lstore (L' := [.val (gR G (c + 1167)), .val (.ref (Q.1 w1)), .val (gI x2), .val (gL x3), .unset, .val (gI (x5 + 1)), .val (gI x6), .val (gI x7), .val (gI (M12 (c + 235) (Int.toNat v13))), .val (gL 0), .unset]) d_Bx_addUp_104 (by decide) rfl ?_
          refine wp_lload_n d_Bx_addUp_106 rfl rfl ?_
          refine wp_lload d_Bx_addUp_107 rfl ?_
          refine xcS_Z (md' := true) (As := [gL x3, gL 0]) (st := []) d_Bx_addUp_109 ca_Vl_plusFits ml_Bx_101 sm_Vl_plusFits rfl (by decide) (by decide) rfl (fun _ => rfl) (fun _ => rfl) T (fun v23 M22 h24 T => ?_)
          refine xz_ne (tgt := 128) d_Bx_addUp_112 (by decide) (w32_id (g32_z h24)) (fun h26 => ?_) (fun h26 => ?_)
          · have T := T.1 h26
            refine wp_lload_n d_Bx_addUp_128 rfl rfl ?_
            refine wp_lload d_Bx_addUp_129 rfl ?_
            refine wp_ladd d_Bx_addUp_131 ?_
            refine wp_lstore_n (L' := [.val (gR G (c + 1167)), .val (.ref (Q.1 w1)), .val (gI x2), .val (gL (x3 + 0)), .unset, .val (gI (x5 + 1)), .val (gI x6), .val (gI x7), .val (gI (M12 (c + 235) (Int.toNat v13))), .val (gL 0), .unset]) d_Bx_addUp_132 rfl (by decide) rfl ?_
            refine wp_iinc (L' := [.val (gR G (c + 1167)), .val (.ref (Q.1 w1)), .val (gI x2), .val (gL (x3 + 0)), .unset, .val (gI (x5 + 1)), .val (gI x6), .val (gI (x7 + 1)), .val (gI (M12 (c + 235) (Int.toNat v13))), .val (gL 0), .unset]) d_Bx_addUp_133 rfl (by decide) rfl ?_
            refine wp_goto (tgt := 26) d_Bx_addUp_136 (by decide) ?_
            exact wp_md (wpt T (And.intro rfl (And.intro rfl (And.intro rfl (And.intro (gL_w _) (And.intro (gI_w _) (And.intro rfl (And.intro (gI_w _) True.intro))))))))
          · have T := T.2 h26
            refine wp_aload_n d_Bx_addUp_115 rfl rfl (g_nz (gl_1 hX 1167)) ?_
            refine xgetR d_Bx_addUp_116 gc_Bx f_Bx_9.1 f_Bx_9.2.1 f_Bx_9.2.2.1 (gl_1 hX 1167) (gl_2 hX (a := 1167) (by decide)) (gl_s hX 39 rfl) f_Bx_9.2.2.2.2.1 (gl_f hX 46 rfl) ?_
            refine wp_iload_n d_Bx_addUp_119 rfl rfl ?_
            refine wp_iconst d_Bx_addUp_120 ?_
            refine wp_ldc2 (n := 6) d_Bx_addUp_121 c_Bx_80 rfl ?_
            refine xcV_V (md' := true) (As := [gI x2, gI 4, gL 6]) (st := []) d_Bx_addUp_124 ca_Vl_set ml_Bx_60 im_Vl_set se_Vl_set gc_Vl (gl_stk hX).1 (gv_2 (gl_stk hX)) (gl_stk hX).2.2.1 rfl (by decide) (by decide) rfl (fun _ => rfl) (fun _ => rfl) T (fun M25 T => ?_)
            exact wp_return d_Bx_addUp_127 rfl (fun _ => rfl) (Nat.zero_le _) (Nat.zero_le _) (kV_mk T)
        · have T := T.2 h33
          refine wp_aload_n d_Bx_addUp_90 rfl rfl (g_nz (gl_1 hX 1167)) ?_
          refine xgetR d_Bx_addUp_91 gc_Bx f_Bx_19.1 f_Bx_19.2.1 f_Bx_19.2.2.1 (gl_1 hX 1167) (gl_2 hX (a := 1167) (by decide)) (gl_s hX 39 rfl) f_Bx_19.2.2.2.2.1 hv0.1 ?_
          refine xgetR d_Bx_addUp_94 gc_Vl f_Bx_22.1 f_Bx_22.2.1 f_Bx_22.2.2.1 hv0.2.1 (gv_2 hv0.2) hv0.2.2.2.1 f_Bx_22.2.2.2.2.1 (gv_r2 hv0.2).1 ?_
          refine wp_iload d_Bx_addUp_97 rfl ?_
          refine wp_laload d_Bx_addUp_99 (gv_r2 hv0.2).2.2.1 (gv_r2 hv0.2).2.2.2 (gv_r2 hv0.2).2.1 (g32_n T.1 (gv_n hv0.2)) T.1.1 T.1.2 (fun h27 => ?_)
          have T := T.2 h27
          refine wp_goto (tgt := 104) d_Bx_addUp_100 (by decide) ?_
          refine wp_lstore (L' := [.val (gR G (c + 1167)), .val (.ref (Q.1 w1)), .val (gI x2), .val (gL x3), .unset, .val (gI (x5 + 1)), .val (gI x6), .val (gI x7), .val (gI (M12 (c + 235) (Int.toNat v13))), .val (gL (M12 (v0 + 2) (Int.toNat (M12 (c + 235) (Int.toNat v13))))), .unset]) d_Bx_addUp_104 (by decide) rfl ?_
          refine wp_lload_n d_Bx_addUp_106 rfl rfl ?_
          refine wp_lload d_Bx_addUp_107 rfl ?_
          refine xcS_Z (md' := true) (As := [gL x3, gL (M12 (v0 + 2) (Int.toNat (M12 (c + 235) (Int.toNat v13))))]) (st := []) d_Bx_addUp_109 ca_Vl_plusFits ml_Bx_101 sm_Vl_plusFits rfl (by decide) (by decide) rfl (fun _ => rfl) (fun _ => rfl) T (fun v29 M28 h30 T => ?_)
          refine xz_ne (tgt := 128) d_Bx_addUp_112 (by decide) (w32_id (g32_z h30)) (fun h32 => ?_) (fun h32 => ?_)
          · have T := T.1 h32
            refine wp_lload_n d_Bx_addUp_128 rfl rfl ?_
            refine wp_lload d_Bx_addUp_129 rfl ?_
            refine wp_ladd d_Bx_addUp_131 ?_
            refine wp_lstore_n (L' := [.val (gR G (c + 1167)), .val (.ref (Q.1 w1)), .val (gI x2), .val (gL (x3 + (M12 (v0 + 2) (Int.toNat (M12 (c + 235) (Int.toNat v13)))))), .unset, .val (gI (x5 + 1)), .val (gI x6), .val (gI x7), .val (gI (M12 (c + 235) (Int.toNat v13))), .val (gL (M12 (v0 + 2) (Int.toNat (M12 (c + 235) (Int.toNat v13))))), .unset]) d_Bx_addUp_132 rfl (by decide) rfl ?_
            refine wp_iinc (L' := [.val (gR G (c + 1167)), .val (.ref (Q.1 w1)), .val (gI x2), .val (gL (x3 + (M12 (v0 + 2) (Int.toNat (M12 (c + 235) (Int.toNat v13)))))), .unset, .val (gI (x5 + 1)), .val (gI x6), .val (gI (x7 + 1)), .val (gI (M12 (c + 235) (Int.toNat v13))), .val (gL (M12 (v0 + 2) (Int.toNat (M12 (c + 235) (Int.toNat v13))))), .unset]) d_Bx_addUp_133 rfl (by decide) rfl ?_
            refine wp_goto (tgt := 26) d_Bx_addUp_136 (by decide) ?_
            exact wp_md (wpt T (And.intro rfl (And.intro rfl (And.intro rfl (And.intro (gL_w _) (And.intro (gI_w _) (And.intro rfl (And.intro (gI_w _) True.intro))))))))
          · have T := T.2 h32
            refine wp_aload_n d_Bx_addUp_115 rfl rfl (g_nz (gl_1 hX 1167)) ?_
            refine xgetR d_Bx_addUp_116 gc_Bx f_Bx_9.1 f_Bx_9.2.1 f_Bx_9.2.2.1 (gl_1 hX 1167) (gl_2 hX (a := 1167) (by decide)) (gl_s hX 39 rfl) f_Bx_9.2.2.2.2.1 (gl_f hX 46 rfl) ?_
            refine wp_iload_n d_Bx_addUp_119 rfl rfl ?_
            refine wp_iconst d_Bx_addUp_120 ?_
            refine wp_ldc2 (n := 6) d_Bx_addUp_121 c_Bx_80 rfl ?_
            refine xcV_V (md' := true) (As := [gI x2, gI 4, gL 6]) (st := []) d_Bx_addUp_124 ca_Vl_set ml_Bx_60 im_Vl_set se_Vl_set gc_Vl (gl_stk hX).1 (gv_2 (gl_stk hX)) (gl_stk hX).2.2.1 rfl (by decide) (by decide) rfl (fun _ => rfl) (fun _ => rfl) T (fun M31 T => ?_)
            exact wp_return d_Bx_addUp_127 rfl (fun _ => rfl) (Nat.zero_le _) (Nat.zero_le _) (kV_mk T)
    · have T := T.2 h35
      refine wp_goto (tgt := 133) d_Bx_addUp_49 (by decide) ?_
      refine wp_iinc (L' := [.val (gR G (c + 1167)), .val (.ref (Q.1 w1)), .val (gI x2), .val (gL x3), .unset, .val (gI x5), .val (gI x6), .val (gI (x7 + 1)), .unset, .unset, .unset]) d_Bx_addUp_133 rfl (by decide) rfl ?_
      refine wp_goto (tgt := 26) d_Bx_addUp_136 (by decide) ?_
      exact wp_md (wpt T (And.intro rfl (And.intro rfl (And.intro rfl (And.intro rfl (And.intro rfl (And.intro rfl (And.intro (gI_w _) True.intro))))))))
theorem e_Bx_addUp {l : Launch} {G : gG} {d : Nat} {X : gX} {M : gM} {k : gM → Prop} {Q : gQ} {c : Nat} {x2 : Int} {w1 : Nat} (T : wp l G y_Bx_addUp (gRm (d + 1)) true (kkV X k) false 0 [.val (gR G (c + 1167)), .val (.ref (Q.1 w1)), .val (gI x2), .unset, .unset, .unset, .unset, .unset, .unset, .unset, .unset] [] X M 0 0) : cV l G y_Bx_addUp (gRm (d + 1)) true [gR G (c + 1167), .ref (Q.1 w1), gI x2] X M k := cen_V (plainFor_of_name rfl) (by simp only [lg_sl_R, lg_sl_I, lg_sl_L, lg_sl_O, lg_sl_N, List.length_cons, List.length_nil]; decide) (by unfold gEn; simp only [lg_sl_R, lg_sl_I, lg_sl_L, lg_sl_O, lg_sl_N]; exact wpt T (And.intro rfl (And.intro rfl (And.intro rfl True.intro))))
