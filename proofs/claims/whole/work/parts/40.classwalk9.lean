/-! Walks of the class's methods, written by wip/whole/gen_class.py -/
theorem d_Tk_cut_0 : decode prog_11_method_2_code 0 = .ok (.aload_n 0, 1) := by decide +kernel
theorem d_Tk_cut_1 : decode prog_11_method_2_code 1 = .ok (.iconst 0, 1) := by decide +kernel
theorem d_Tk_cut_2 : decode prog_11_method_2_code 2 = .ok (.putfield 28, 3) := by decide +kernel
theorem d_Tk_cut_5 : decode prog_11_method_2_code 5 = .ok (.iload_n 1, 1) := by decide +kernel
theorem d_Tk_cut_6 : decode prog_11_method_2_code 6 = .ok (.istore_n 3, 1) := by decide +kernel
theorem d_Tk_cut_7 : decode prog_11_method_2_code 7 = .ok (.iload_n 2, 1) := by decide +kernel
theorem d_Tk_cut_8 : decode prog_11_method_2_code 8 = .ok (.iload_n 1, 1) := by decide +kernel
theorem d_Tk_cut_9 : decode prog_11_method_2_code 9 = .ok (.isub, 1) := by decide +kernel
theorem d_Tk_cut_10 : decode prog_11_method_2_code 10 = .ok (.istore 4, 2) := by decide +kernel
theorem d_Tk_cut_12 : decode prog_11_method_2_code 12 = .ok (.iload 4, 2) := by decide +kernel
theorem d_Tk_cut_14 : decode prog_11_method_2_code 14 = .ok (.ifCond .le 138, 3) := by decide +kernel
theorem d_Tk_cut_152 : decode prog_11_method_2_code 152 = .ok (.aload_n 0, 1) := by decide +kernel
theorem d_Tk_cut_153 : decode prog_11_method_2_code 153 = .ok (.getfield 28, 3) := by decide +kernel
theorem d_Tk_cut_156 : decode prog_11_method_2_code 156 = .ok (.istore 4, 2) := by decide +kernel
theorem d_Tk_cut_17 : decode prog_11_method_2_code 17 = .ok (.iload_n 3, 1) := by decide +kernel
theorem d_Tk_cut_18 : decode prog_11_method_2_code 18 = .ok (.iload_n 2, 1) := by decide +kernel
theorem d_Tk_cut_19 : decode prog_11_method_2_code 19 = .ok (.if_icmp .ge 133, 3) := by decide +kernel
theorem d_Tk_cut_22 : decode prog_11_method_2_code 22 = .ok (.aload_n 0, 1) := by decide +kernel
theorem d_Tk_cut_23 : decode prog_11_method_2_code 23 = .ok (.getfield 24, 3) := by decide +kernel
theorem d_Tk_cut_26 : decode prog_11_method_2_code 26 = .ok (.iload_n 3, 1) := by decide +kernel
theorem d_Tk_cut_27 : decode prog_11_method_2_code 27 = .ok (.baload, 1) := by decide +kernel
theorem d_Tk_cut_28 : decode prog_11_method_2_code 28 = .ok (.bipush 32, 2) := by decide +kernel
theorem d_Tk_cut_30 : decode prog_11_method_2_code 30 = .ok (.if_icmp .ne 9, 3) := by decide +kernel
theorem d_Tk_cut_39 : decode prog_11_method_2_code 39 = .ok (.aload_n 0, 1) := by decide +kernel
theorem d_Tk_cut_40 : decode prog_11_method_2_code 40 = .ok (.getfield 28, 3) := by decide +kernel
theorem d_Tk_cut_43 : decode prog_11_method_2_code 43 = .ok (.bipush 100, 2) := by decide +kernel
theorem d_Tk_cut_45 : decode prog_11_method_2_code 45 = .ok (.if_icmp .ne 5, 3) := by decide +kernel
theorem d_Tk_cut_50 : decode prog_11_method_2_code 50 = .ok (.aload_n 0, 1) := by decide +kernel
theorem d_Tk_cut_51 : decode prog_11_method_2_code 51 = .ok (.getfield 15, 3) := by decide +kernel
theorem d_Tk_cut_54 : decode prog_11_method_2_code 54 = .ok (.aload_n 0, 1) := by decide +kernel
theorem d_Tk_cut_55 : decode prog_11_method_2_code 55 = .ok (.getfield 28, 3) := by decide +kernel
theorem d_Tk_cut_58 : decode prog_11_method_2_code 58 = .ok (.iload_n 3, 1) := by decide +kernel
theorem d_Tk_cut_59 : decode prog_11_method_2_code 59 = .ok (.iastore, 1) := by decide +kernel
theorem d_Tk_cut_60 : decode prog_11_method_2_code 60 = .ok (.aload_n 0, 1) := by decide +kernel
theorem d_Tk_cut_61 : decode prog_11_method_2_code 61 = .ok (.getfield 24, 3) := by decide +kernel
theorem d_Tk_cut_64 : decode prog_11_method_2_code 64 = .ok (.iload_n 3, 1) := by decide +kernel
theorem d_Tk_cut_65 : decode prog_11_method_2_code 65 = .ok (.baload, 1) := by decide +kernel
theorem d_Tk_cut_66 : decode prog_11_method_2_code 66 = .ok (.bipush 34, 2) := by decide +kernel
theorem d_Tk_cut_68 : decode prog_11_method_2_code 68 = .ok (.if_icmp .ne 13, 3) := by decide +kernel
theorem d_Tk_cut_81 : decode prog_11_method_2_code 81 = .ok (.aload_n 0, 1) := by decide +kernel
theorem d_Tk_cut_82 : decode prog_11_method_2_code 82 = .ok (.getfield 24, 3) := by decide +kernel
theorem d_Tk_cut_85 : decode prog_11_method_2_code 85 = .ok (.iload_n 3, 1) := by decide +kernel
theorem d_Tk_cut_86 : decode prog_11_method_2_code 86 = .ok (.baload, 1) := by decide +kernel
theorem d_Tk_cut_87 : decode prog_11_method_2_code 87 = .ok (.invokestatic 36, 3) := by decide +kernel
theorem d_Tk_cut_90 : decode prog_11_method_2_code 90 = .ok (.ifCond .eq 13, 3) := by decide +kernel
theorem d_Tk_cut_103 : decode prog_11_method_2_code 103 = .ok (.aload_n 0, 1) := by decide +kernel
theorem d_Tk_cut_104 : decode prog_11_method_2_code 104 = .ok (.iload_n 3, 1) := by decide +kernel
theorem d_Tk_cut_105 : decode prog_11_method_2_code 105 = .ok (.iload_n 2, 1) := by decide +kernel
theorem d_Tk_cut_106 : decode prog_11_method_2_code 106 = .ok (.invokevirtual 43, 3) := by decide +kernel
theorem d_Tk_cut_109 : decode prog_11_method_2_code 109 = .ok (.istore_n 3, 1) := by decide +kernel
theorem d_Tk_cut_110 : decode prog_11_method_2_code 110 = .ok (.aload_n 0, 1) := by decide +kernel
theorem d_Tk_cut_111 : decode prog_11_method_2_code 111 = .ok (.getfield 18, 3) := by decide +kernel
theorem d_Tk_cut_114 : decode prog_11_method_2_code 114 = .ok (.aload_n 0, 1) := by decide +kernel
theorem d_Tk_cut_115 : decode prog_11_method_2_code 115 = .ok (.getfield 28, 3) := by decide +kernel
theorem d_Tk_cut_118 : decode prog_11_method_2_code 118 = .ok (.iload_n 3, 1) := by decide +kernel
theorem d_Tk_cut_119 : decode prog_11_method_2_code 119 = .ok (.iastore, 1) := by decide +kernel
theorem d_Tk_cut_120 : decode prog_11_method_2_code 120 = .ok (.aload_n 0, 1) := by decide +kernel
theorem d_Tk_cut_121 : decode prog_11_method_2_code 121 = .ok (.getfield 11, 3) := by decide +kernel
theorem d_Tk_cut_124 : decode prog_11_method_2_code 124 = .ok (.aload_n 0, 1) := by decide +kernel
theorem d_Tk_cut_125 : decode prog_11_method_2_code 125 = .ok (.getfield 28, 3) := by decide +kernel
theorem d_Tk_cut_128 : decode prog_11_method_2_code 128 = .ok (.iaload, 1) := by decide +kernel
theorem d_Tk_cut_129 : decode prog_11_method_2_code 129 = .ok (.bipush 24, 2) := by decide +kernel
theorem d_Tk_cut_131 : decode prog_11_method_2_code 131 = .ok (.if_icmp .ne 5, 3) := by decide +kernel
theorem d_Tk_cut_136 : decode prog_11_method_2_code 136 = .ok (.aload_n 0, 1) := by decide +kernel
theorem d_Tk_cut_137 : decode prog_11_method_2_code 137 = .ok (.dup, 1) := by decide +kernel
theorem d_Tk_cut_138 : decode prog_11_method_2_code 138 = .ok (.getfield 28, 3) := by decide +kernel
theorem d_Tk_cut_141 : decode prog_11_method_2_code 141 = .ok (.iconst 1, 1) := by decide +kernel
theorem d_Tk_cut_142 : decode prog_11_method_2_code 142 = .ok (.iadd, 1) := by decide +kernel
theorem d_Tk_cut_143 : decode prog_11_method_2_code 143 = .ok (.putfield 28, 3) := by decide +kernel
theorem d_Tk_cut_146 : decode prog_11_method_2_code 146 = .ok (.iinc 4 (-1), 3) := by decide +kernel
theorem d_Tk_cut_149 : decode prog_11_method_2_code 149 = .ok (.goto (-137), 3) := by decide +kernel
theorem d_Tk_cut_134 : decode prog_11_method_2_code 134 = .ok (.iconst 0, 1) := by decide +kernel
theorem d_Tk_cut_135 : decode prog_11_method_2_code 135 = .ok (.ireturn, 1) := by decide +kernel
theorem d_Tk_cut_93 : decode prog_11_method_2_code 93 = .ok (.aload_n 0, 1) := by decide +kernel
theorem d_Tk_cut_94 : decode prog_11_method_2_code 94 = .ok (.iload_n 3, 1) := by decide +kernel
theorem d_Tk_cut_95 : decode prog_11_method_2_code 95 = .ok (.iload_n 2, 1) := by decide +kernel
theorem d_Tk_cut_96 : decode prog_11_method_2_code 96 = .ok (.invokevirtual 40, 3) := by decide +kernel
theorem d_Tk_cut_99 : decode prog_11_method_2_code 99 = .ok (.istore_n 3, 1) := by decide +kernel
theorem d_Tk_cut_100 : decode prog_11_method_2_code 100 = .ok (.goto 10, 3) := by decide +kernel
theorem d_Tk_cut_71 : decode prog_11_method_2_code 71 = .ok (.aload_n 0, 1) := by decide +kernel
theorem d_Tk_cut_72 : decode prog_11_method_2_code 72 = .ok (.iload_n 3, 1) := by decide +kernel
theorem d_Tk_cut_73 : decode prog_11_method_2_code 73 = .ok (.iload_n 2, 1) := by decide +kernel
theorem d_Tk_cut_74 : decode prog_11_method_2_code 74 = .ok (.invokevirtual 32, 3) := by decide +kernel
theorem d_Tk_cut_77 : decode prog_11_method_2_code 77 = .ok (.istore_n 3, 1) := by decide +kernel
theorem d_Tk_cut_78 : decode prog_11_method_2_code 78 = .ok (.goto 32, 3) := by decide +kernel
theorem d_Tk_cut_48 : decode prog_11_method_2_code 48 = .ok (.iconst 0, 1) := by decide +kernel
theorem d_Tk_cut_49 : decode prog_11_method_2_code 49 = .ok (.ireturn, 1) := by decide +kernel
theorem d_Tk_cut_33 : decode prog_11_method_2_code 33 = .ok (.iinc 3 1, 3) := by decide +kernel
theorem d_Tk_cut_36 : decode prog_11_method_2_code 36 = .ok (.goto 110, 3) := by decide +kernel
theorem d_Tk_cut_158 : decode prog_11_method_2_code 158 = .ok (.iload 4, 2) := by decide +kernel
theorem d_Tk_cut_160 : decode prog_11_method_2_code 160 = .ok (.aload_n 0, 1) := by decide +kernel
theorem d_Tk_cut_161 : decode prog_11_method_2_code 161 = .ok (.getfield 28, 3) := by decide +kernel
theorem d_Tk_cut_164 : decode prog_11_method_2_code 164 = .ok (.iconst 4, 1) := by decide +kernel
theorem d_Tk_cut_165 : decode prog_11_method_2_code 165 = .ok (.iadd, 1) := by decide +kernel
theorem d_Tk_cut_166 : decode prog_11_method_2_code 166 = .ok (.if_icmp .ge 18, 3) := by decide +kernel
theorem d_Tk_cut_184 : decode prog_11_method_2_code 184 = .ok (.iconst 1, 1) := by decide +kernel
theorem d_Tk_cut_185 : decode prog_11_method_2_code 185 = .ok (.ireturn, 1) := by decide +kernel
theorem d_Tk_cut_169 : decode prog_11_method_2_code 169 = .ok (.aload_n 0, 1) := by decide +kernel
theorem d_Tk_cut_170 : decode prog_11_method_2_code 170 = .ok (.getfield 11, 3) := by decide +kernel
theorem d_Tk_cut_173 : decode prog_11_method_2_code 173 = .ok (.iload 4, 2) := by decide +kernel
theorem d_Tk_cut_175 : decode prog_11_method_2_code 175 = .ok (.bipush 23, 2) := by decide +kernel
theorem d_Tk_cut_177 : decode prog_11_method_2_code 177 = .ok (.iastore, 1) := by decide +kernel
theorem d_Tk_cut_178 : decode prog_11_method_2_code 178 = .ok (.iinc 4 1, 3) := by decide +kernel
theorem d_Tk_cut_181 : decode prog_11_method_2_code 181 = .ok (.goto (-23), 3) := by decide +kernel
set_option maxHeartbeats 4000000 in
theorem w_Tk_cut_0 {l : Launch} {G : gG} {d : Nat} {X : gX} {M : gM} {k : Int → gM → Prop} {c : Nat} (hX : glX X c) {x1 : Int} (hx1 : g32 x1) {x2 : Int} (hx2 : g32 x2)  (T : wp l G y_Tk_cut (gRm (d + 1)) true (kkZ X k) true 12 [.val (gR G (c + 16)), .unset, .val (gI x2), .val (gI x1), .val (gI (w32 (x2 - x1)))] [] X (gUp M (c + 16) 5 0) 0 0) : wp l G y_Tk_cut (gRm (d + 1)) true (kkZ X k) false 0 [.val (gR G (c + 16)), .val (gI x1), .val (gI x2), .unset, .unset] [] X M 0 0 := by
  refine wp_aload_n d_Tk_cut_0 rfl rfl (g_nz (gl_1 hX 16)) ?_
  refine wp_iconst d_Tk_cut_1 ?_
  refine xputI d_Tk_cut_2 gc_Tk f_Tk_28.1 f_Tk_28.2.1 f_Tk_28.2.2.1 (gl_1 hX 16) (gl_2 hX (a := 16) (by decide)) (gl_s hX 16 rfl) f_Tk_28.2.2.2.1 f_Tk_28.2.2.2.2.1 f_Tk_28.2.2.2.2.2 (w32_id (g32_c (x := 0) rfl)) ?_
  refine wp_iload_n d_Tk_cut_5 rfl rfl ?_
  refine wp_istore_n (L' := [.val (gR G (c + 16)), .val (gI x1), .val (gI x2), .val (gI x1), .unset]) d_Tk_cut_6 rfl (by decide) rfl ?_
  refine wp_iload_n d_Tk_cut_7 rfl rfl ?_
  refine wp_iload_n d_Tk_cut_8 rfl rfl ?_
  refine wp_isub d_Tk_cut_9 ?_
  refine wp_istore (L' := [.val (gR G (c + 16)), .val (gI x1), .val (gI x2), .val (gI x1), .val (gI (x2 - x1))]) d_Tk_cut_10 (by decide) rfl ?_
  exact wp_md (wpt T (And.intro rfl (And.intro rfl (And.intro rfl (And.intro (gI_w _) True.intro)))))
set_option maxHeartbeats 4000000 in
theorem w_Tk_cut_12 {l : Launch} {G : gG} {d : Nat} {X : gX} {M : gM} {k : Int → gM → Prop} {c : Nat} (hX : glX X c) {x2 : Int} (hx2 : g32 x2) {x3 : Int} (hx3 : g32 x3) {x4 : Int} (hx4 : g32 x4)  (T : (x4 ≤ 0 → (g32 (M (c + 16) 5) → (wp l G y_Tk_cut (gRm (d + 1)) true (kkZ X k) true 158 [.val (gR G (c + 16)), .unset, .unset, .unset, .val (gI (M (c + 16) 5))] [] X M 0 0))) ∧ (¬ x4 ≤ 0 → ((x2 ≤ x3 → (g32 (M (c + 16) 5) → (wp l G y_Tk_cut (gRm (d + 1)) true (kkZ X k) true 158 [.val (gR G (c + 16)), .unset, .unset, .unset, .val (gI (M (c + 16) 5))] [] X M 0 0))) ∧ (¬ x2 ≤ x3 → (((0 : Int) ≤ x3 ∧ x3 < 240) ∧ ((-128 ≤ M (c + 1) (Int.toNat x3) ∧ M (c + 1) (Int.toNat x3) < 128) → ((¬ M (c + 1) (Int.toNat x3) = 32 → (g32 (M (c + 16) 5) → ((¬ M (c + 16) 5 = 100 → (g32 (M (c + 16) 5) → (((0 : Int) ≤ M (c + 16) 5 ∧ M (c + 16) 5 < 104) ∧ (((0 : Int) ≤ x3 ∧ x3 < 240) ∧ ((-128 ≤ (gUp M (c + 18) (Int.toNat (M (c + 16) 5)) x3) (c + 1) (Int.toNat x3) ∧ (gUp M (c + 18) (Int.toNat (M (c + 16) 5)) x3) (c + 1) (Int.toNat x3) < 128) → ((¬ (gUp M (c + 18) (Int.toNat (M (c + 16) 5)) x3) (c + 1) (Int.toNat x3) = 34 → (((0 : Int) ≤ x3 ∧ x3 < 240) ∧ ((-128 ≤ (gUp M (c + 18) (Int.toNat (M (c + 16) 5)) x3) (c + 1) (Int.toNat x3) ∧ (gUp M (c + 18) (Int.toNat (M (c + 16) 5)) x3) (c + 1) (Int.toNat x3) < 128) → (cZ l G y_Tk_isWordByte (gRm d) false [gI ((gUp M (c + 18) (Int.toNat (M (c + 16) 5)) x3) (c + 1) (Int.toNat x3))] X (gUp M (c + 18) (Int.toNat (M (c + 16) 5)) x3) (fun v9 M8 => ((v9 = 0 → (cI l G y_Tk_takeSign (gRm d) true [gR G (c + 16), gI x3, gI x2] X M8 (fun v12 M11 => (g32 (M11 (c + 16) 5) → (((0 : Int) ≤ M11 (c + 16) 5 ∧ M11 (c + 16) 5 < 104) ∧ (g32 ((gUp M11 (c + 19) (Int.toNat (M11 (c + 16) 5)) v12) (c + 16) 5) → (((0 : Int) ≤ (gUp M11 (c + 19) (Int.toNat (M11 (c + 16) 5)) v12) (c + 16) 5 ∧ (gUp M11 (c + 19) (Int.toNat (M11 (c + 16) 5)) v12) (c + 16) 5 < 104) ∧ (g32 ((gUp M11 (c + 19) (Int.toNat (M11 (c + 16) 5)) v12) (c + 17) (Int.toNat ((gUp M11 (c + 19) (Int.toNat (M11 (c + 16) 5)) v12) (c + 16) 5))) → ((¬ (gUp M11 (c + 19) (Int.toNat (M11 (c + 16) 5)) v12) (c + 17) (Int.toNat ((gUp M11 (c + 19) (Int.toNat (M11 (c + 16) 5)) v12) (c + 16) 5)) = 24 → (g32 ((gUp M11 (c + 19) (Int.toNat (M11 (c + 16) 5)) v12) (c + 16) 5) → (wp l G y_Tk_cut (gRm (d + 1)) true (kkZ X k) true 12 [.val (gR G (c + 16)), .unset, .val (gI x2), .val (gI v12), .val (gI (w32 (x4 + (-1))))] [] X (gUp (gUp M11 (c + 19) (Int.toNat (M11 (c + 16) 5)) v12) (c + 16) 5 (w32 (((gUp M11 (c + 19) (Int.toNat (M11 (c + 16) 5)) v12) (c + 16) 5) + 1))) 0 0))) ∧ ((gUp M11 (c + 19) (Int.toNat (M11 (c + 16) 5)) v12) (c + 17) (Int.toNat ((gUp M11 (c + 19) (Int.toNat (M11 (c + 16) 5)) v12) (c + 16) 5)) = 24 → (k 0 (gUp M11 (c + 19) (Int.toNat (M11 (c + 16) 5)) v12)))))))))))) ∧ (¬ v9 = 0 → (cI l G y_Tk_takeWord (gRm d) true [gR G (c + 16), gI x3, gI x2] X M8 (fun v20 M19 => (g32 (M19 (c + 16) 5) → (((0 : Int) ≤ M19 (c + 16) 5 ∧ M19 (c + 16) 5 < 104) ∧ (g32 ((gUp M19 (c + 19) (Int.toNat (M19 (c + 16) 5)) v20) (c + 16) 5) → (((0 : Int) ≤ (gUp M19 (c + 19) (Int.toNat (M19 (c + 16) 5)) v20) (c + 16) 5 ∧ (gUp M19 (c + 19) (Int.toNat (M19 (c + 16) 5)) v20) (c + 16) 5 < 104) ∧ (g32 ((gUp M19 (c + 19) (Int.toNat (M19 (c + 16) 5)) v20) (c + 17) (Int.toNat ((gUp M19 (c + 19) (Int.toNat (M19 (c + 16) 5)) v20) (c + 16) 5))) → ((¬ (gUp M19 (c + 19) (Int.toNat (M19 (c + 16) 5)) v20) (c + 17) (Int.toNat ((gUp M19 (c + 19) (Int.toNat (M19 (c + 16) 5)) v20) (c + 16) 5)) = 24 → (g32 ((gUp M19 (c + 19) (Int.toNat (M19 (c + 16) 5)) v20) (c + 16) 5) → (wp l G y_Tk_cut (gRm (d + 1)) true (kkZ X k) true 12 [.val (gR G (c + 16)), .unset, .val (gI x2), .val (gI v20), .val (gI (w32 (x4 + (-1))))] [] X (gUp (gUp M19 (c + 19) (Int.toNat (M19 (c + 16) 5)) v20) (c + 16) 5 (w32 (((gUp M19 (c + 19) (Int.toNat (M19 (c + 16) 5)) v20) (c + 16) 5) + 1))) 0 0))) ∧ ((gUp M19 (c + 19) (Int.toNat (M19 (c + 16) 5)) v20) (c + 17) (Int.toNat ((gUp M19 (c + 19) (Int.toNat (M19 (c + 16) 5)) v20) (c + 16) 5)) = 24 → (k 0 (gUp M19 (c + 19) (Int.toNat (M19 (c + 16) 5)) v20)))))))))))))))))) ∧ ((gUp M (c + 18) (Int.toNat (M (c + 16) 5)) x3) (c + 1) (Int.toNat x3) = 34 → (cI l G y_Tk_takeString (gRm d) true [gR G (c + 16), gI x3, gI x2] X (gUp M (c + 18) (Int.toNat (M (c + 16) 5)) x3) (fun v29 M28 => (g32 (M28 (c + 16) 5) → (((0 : Int) ≤ M28 (c + 16) 5 ∧ M28 (c + 16) 5 < 104) ∧ (g32 ((gUp M28 (c + 19) (Int.toNat (M28 (c + 16) 5)) v29) (c + 16) 5) → (((0 : Int) ≤ (gUp M28 (c + 19) (Int.toNat (M28 (c + 16) 5)) v29) (c + 16) 5 ∧ (gUp M28 (c + 19) (Int.toNat (M28 (c + 16) 5)) v29) (c + 16) 5 < 104) ∧ (g32 ((gUp M28 (c + 19) (Int.toNat (M28 (c + 16) 5)) v29) (c + 17) (Int.toNat ((gUp M28 (c + 19) (Int.toNat (M28 (c + 16) 5)) v29) (c + 16) 5))) → ((¬ (gUp M28 (c + 19) (Int.toNat (M28 (c + 16) 5)) v29) (c + 17) (Int.toNat ((gUp M28 (c + 19) (Int.toNat (M28 (c + 16) 5)) v29) (c + 16) 5)) = 24 → (g32 ((gUp M28 (c + 19) (Int.toNat (M28 (c + 16) 5)) v29) (c + 16) 5) → (wp l G y_Tk_cut (gRm (d + 1)) true (kkZ X k) true 12 [.val (gR G (c + 16)), .unset, .val (gI x2), .val (gI v29), .val (gI (w32 (x4 + (-1))))] [] X (gUp (gUp M28 (c + 19) (Int.toNat (M28 (c + 16) 5)) v29) (c + 16) 5 (w32 (((gUp M28 (c + 19) (Int.toNat (M28 (c + 16) 5)) v29) (c + 16) 5) + 1))) 0 0))) ∧ ((gUp M28 (c + 19) (Int.toNat (M28 (c + 16) 5)) v29) (c + 17) (Int.toNat ((gUp M28 (c + 19) (Int.toNat (M28 (c + 16) 5)) v29) (c + 16) 5)) = 24 → (k 0 (gUp M28 (c + 19) (Int.toNat (M28 (c + 16) 5)) v29)))))))))))))))))) ∧ (M (c + 16) 5 = 100 → (k 0 M))))) ∧ (M (c + 1) (Int.toNat x3) = 32 → (wp l G y_Tk_cut (gRm (d + 1)) true (kkZ X k) true 12 [.val (gR G (c + 16)), .unset, .val (gI x2), .val (gI (w32 (x3 + 1))), .val (gI (w32 (x4 + (-1))))] [] X M 0 0))))))))) : wp l G y_Tk_cut (gRm (d + 1)) true (kkZ X k) true 12 [.val (gR G (c + 16)), .unset, .val (gI x2), .val (gI x3), .val (gI x4)] [] X M 0 0 := by
  refine wp_iload d_Tk_cut_12 rfl ?_
  refine xz_le (tgt := 152) d_Tk_cut_14 (by decide) (w32_id hx4) (fun h40 => ?_) (fun h40 => ?_)
  · have T := T.1 h40
    refine wp_aload_n d_Tk_cut_152 rfl rfl (g_nz (gl_1 hX 16)) ?_
    refine xgetI d_Tk_cut_153 gc_Tk f_Tk_28.1 f_Tk_28.2.1 f_Tk_28.2.2.1 (gl_1 hX 16) (gl_2 hX (a := 16) (by decide)) (gl_s hX 16 rfl) f_Tk_28.2.2.2.2.1 (fun h1 => ?_)
    have T := T h1
    refine wp_istore (L' := [.val (gR G (c + 16)), .unset, .val (gI x2), .val (gI x3), .val (gI (M (c + 16) 5))]) d_Tk_cut_156 (by decide) rfl ?_
    exact wp_md (wpt T (And.intro rfl (And.intro rfl True.intro)))
  · have T := T.2 h40
    refine wp_iload_n d_Tk_cut_17 rfl rfl ?_
    refine wp_iload_n d_Tk_cut_18 rfl rfl ?_
    refine xi_ge (tgt := 152) d_Tk_cut_19 (by decide) (w32_id hx3) (w32_id hx2) (fun h39 => ?_) (fun h39 => ?_)
    · have T := T.1 h39
      refine wp_aload_n d_Tk_cut_152 rfl rfl (g_nz (gl_1 hX 16)) ?_
      refine xgetI d_Tk_cut_153 gc_Tk f_Tk_28.1 f_Tk_28.2.1 f_Tk_28.2.2.1 (gl_1 hX 16) (gl_2 hX (a := 16) (by decide)) (gl_s hX 16 rfl) f_Tk_28.2.2.2.2.1 (fun h2 => ?_)
      have T := T h2
      refine wp_istore (L' := [.val (gR G (c + 16)), .unset, .val (gI x2), .val (gI x3), .val (gI (M (c + 16) 5))]) d_Tk_cut_156 (by decide) rfl ?_
      exact wp_md (wpt T (And.intro rfl (And.intro rfl True.intro)))
    · have T := T.2 h39
      refine wp_aload_n d_Tk_cut_22 rfl rfl (g_nz (gl_1 hX 16)) ?_
      refine xgetR d_Tk_cut_23 gc_Tk f_Tk_24.1 f_Tk_24.2.1 f_Tk_24.2.2.1 (gl_1 hX 16) (gl_2 hX (a := 16) (by decide)) (gl_s hX 16 rfl) f_Tk_24.2.2.2.2.1 (gl_f hX 22 rfl) ?_
      refine wp_iload_n d_Tk_cut_26 rfl rfl ?_
      refine wp_baload d_Tk_cut_27 (gl_1 hX 1) (gl_2 hX (a := 1) (by decide)) (gl_s hX 1 rfl) (g32_n T.1 (by decide)) T.1.1 T.1.2 (fun h3 => ?_)
      have T := T.2 h3
      refine wp_bipush d_Tk_cut_28 ⟨by decide, by decide⟩ ?_
      refine xi_ne (tgt := 39) d_Tk_cut_30 (by decide) (w32_id (g32_b h3)) (w32_id (g32_c (x := 32) rfl)) (fun h38 => ?_) (fun h38 => ?_)
      · have T := T.1 h38
        refine wp_aload_n d_Tk_cut_39 rfl rfl (g_nz (gl_1 hX 16)) ?_
        refine xgetI d_Tk_cut_40 gc_Tk f_Tk_28.1 f_Tk_28.2.1 f_Tk_28.2.2.1 (gl_1 hX 16) (gl_2 hX (a := 16) (by decide)) (gl_s hX 16 rfl) f_Tk_28.2.2.2.2.1 (fun h4 => ?_)
        have T := T h4
        refine wp_bipush d_Tk_cut_43 ⟨by decide, by decide⟩ ?_
        refine xi_ne (tgt := 50) d_Tk_cut_45 (by decide) (w32_id h4) (w32_id (g32_c (x := 100) rfl)) (fun h37 => ?_) (fun h37 => ?_)
        · have T := T.1 h37
          refine wp_aload_n d_Tk_cut_50 rfl rfl (g_nz (gl_1 hX 16)) ?_
          refine xgetR d_Tk_cut_51 gc_Tk f_Tk_15.1 f_Tk_15.2.1 f_Tk_15.2.2.1 (gl_1 hX 16) (gl_2 hX (a := 16) (by decide)) (gl_s hX 16 rfl) f_Tk_15.2.2.2.2.1 (gl_f hX 19 rfl) ?_
          refine wp_aload_n d_Tk_cut_54 rfl rfl (g_nz (gl_1 hX 16)) ?_
          refine xgetI d_Tk_cut_55 gc_Tk f_Tk_28.1 f_Tk_28.2.1 f_Tk_28.2.2.1 (gl_1 hX 16) (gl_2 hX (a := 16) (by decide)) (gl_s hX 16 rfl) f_Tk_28.2.2.2.2.1 (fun h5 => ?_)
          have T := T h5
          refine wp_iload_n d_Tk_cut_58 rfl rfl ?_
          refine xiast d_Tk_cut_59 (gl_1 hX 18) (gl_2 hX (a := 18) (by decide)) (gl_s hX 18 rfl) (by decide) T.1 (w32_id hx3) ?_
          have T := T.2
          refine wp_aload_n d_Tk_cut_60 rfl rfl (g_nz (gl_1 hX 16)) ?_
          refine xgetR d_Tk_cut_61 gc_Tk f_Tk_24.1 f_Tk_24.2.1 f_Tk_24.2.2.1 (gl_1 hX 16) (gl_2 hX (a := 16) (by decide)) (gl_s hX 16 rfl) f_Tk_24.2.2.2.2.1 (gl_f hX 22 rfl) ?_
          refine wp_iload_n d_Tk_cut_64 rfl rfl ?_
          refine wp_baload d_Tk_cut_65 (gl_1 hX 1) (gl_2 hX (a := 1) (by decide)) (gl_s hX 1 rfl) (g32_n T.1 (by decide)) T.1.1 T.1.2 (fun h6 => ?_)
          have T := T.2 h6
          refine wp_bipush d_Tk_cut_66 ⟨by decide, by decide⟩ ?_
          refine xi_ne (tgt := 81) d_Tk_cut_68 (by decide) (w32_id (g32_b h6)) (w32_id (g32_c (x := 34) rfl)) (fun h36 => ?_) (fun h36 => ?_)
          · have T := T.1 h36
            refine wp_aload_n d_Tk_cut_81 rfl rfl (g_nz (gl_1 hX 16)) ?_
            refine xgetR d_Tk_cut_82 gc_Tk f_Tk_24.1 f_Tk_24.2.1 f_Tk_24.2.2.1 (gl_1 hX 16) (gl_2 hX (a := 16) (by decide)) (gl_s hX 16 rfl) f_Tk_24.2.2.2.2.1 (gl_f hX 22 rfl) ?_
            refine wp_iload_n d_Tk_cut_85 rfl rfl ?_
            refine wp_baload d_Tk_cut_86 (gl_1 hX 1) (gl_2 hX (a := 1) (by decide)) (gl_s hX 1 rfl) (g32_n T.1 (by decide)) T.1.1 T.1.2 (fun h7 => ?_)
            have T := T.2 h7
            refine xcS_Z (md' := true) (As := [gI ((gUp M (c + 18) (Int.toNat (M (c + 16) 5)) x3) (c + 1) (Int.toNat x3))]) (st := []) d_Tk_cut_87 ca_Tk_isWordByte ml_Tk_36 sm_Tk_isWordByte rfl (by decide) (by decide) rfl (fun _ => rfl) (fun _ => rfl) T (fun v9 M8 h10 T => ?_)
            refine xz_eq (tgt := 103) d_Tk_cut_90 (by decide) (w32_id (g32_z h10)) (fun h27 => ?_) (fun h27 => ?_)
            · have T := T.1 h27
              refine wp_aload_n d_Tk_cut_103 rfl rfl (g_nz (gl_1 hX 16)) ?_
              refine wp_iload_n d_Tk_cut_104 rfl rfl ?_
              refine wp_iload_n d_Tk_cut_105 rfl rfl ?_
              refine xcV_I (md' := true) (As := [gI x3, gI x2]) (st := []) d_Tk_cut_106 ca_Tk_takeSign ml_Tk_43 im_Tk_takeSign se_Tk_takeSign gc_Tk (gl_1 hX 16) (gl_2 hX (a := 16) (by decide)) (gl_s hX 16 rfl) rfl (by decide) (by decide) rfl (fun _ => rfl) (fun _ => rfl) T (fun v12 M11 h13 T => ?_)
              refine wp_istore_n (L' := [.val (gR G (c + 16)), .unset, .val (gI x2), .val (gI v12), .val (gI x4)]) d_Tk_cut_109 rfl (by decide) rfl ?_
              refine wp_aload_n d_Tk_cut_110 rfl rfl (g_nz (gl_1 hX 16)) ?_
              refine xgetR d_Tk_cut_111 gc_Tk f_Tk_18.1 f_Tk_18.2.1 f_Tk_18.2.2.1 (gl_1 hX 16) (gl_2 hX (a := 16) (by decide)) (gl_s hX 16 rfl) f_Tk_18.2.2.2.2.1 (gl_f hX 20 rfl) ?_
              refine wp_aload_n d_Tk_cut_114 rfl rfl (g_nz (gl_1 hX 16)) ?_
              refine xgetI d_Tk_cut_115 gc_Tk f_Tk_28.1 f_Tk_28.2.1 f_Tk_28.2.2.1 (gl_1 hX 16) (gl_2 hX (a := 16) (by decide)) (gl_s hX 16 rfl) f_Tk_28.2.2.2.2.1 (fun h14 => ?_)
              have T := T h14
              refine wp_iload_n d_Tk_cut_118 rfl rfl ?_
              refine xiast d_Tk_cut_119 (gl_1 hX 19) (gl_2 hX (a := 19) (by decide)) (gl_s hX 19 rfl) (by decide) T.1 (w32_id h13) ?_
              have T := T.2
              refine wp_aload_n d_Tk_cut_120 rfl rfl (g_nz (gl_1 hX 16)) ?_
              refine xgetR d_Tk_cut_121 gc_Tk f_Tk_11.1 f_Tk_11.2.1 f_Tk_11.2.2.1 (gl_1 hX 16) (gl_2 hX (a := 16) (by decide)) (gl_s hX 16 rfl) f_Tk_11.2.2.2.2.1 (gl_f hX 18 rfl) ?_
              refine wp_aload_n d_Tk_cut_124 rfl rfl (g_nz (gl_1 hX 16)) ?_
              refine xgetI d_Tk_cut_125 gc_Tk f_Tk_28.1 f_Tk_28.2.1 f_Tk_28.2.2.1 (gl_1 hX 16) (gl_2 hX (a := 16) (by decide)) (gl_s hX 16 rfl) f_Tk_28.2.2.2.2.1 (fun h15 => ?_)
              have T := T h15
              refine wp_iaload d_Tk_cut_128 (gl_1 hX 17) (gl_2 hX (a := 17) (by decide)) (gl_s hX 17 rfl) (g32_n T.1 (by decide)) T.1.1 T.1.2 (fun h16 => ?_)
              have T := T.2 h16
              refine wp_bipush d_Tk_cut_129 ⟨by decide, by decide⟩ ?_
              refine xi_ne (tgt := 136) d_Tk_cut_131 (by decide) (w32_id h16) (w32_id (g32_c (x := 24) rfl)) (fun h18 => ?_) (fun h18 => ?_)
              · have T := T.1 h18
                refine wp_aload_n d_Tk_cut_136 rfl rfl (g_nz (gl_1 hX 16)) ?_
                refine wp_dup d_Tk_cut_137 (gR_cat _) ?_
                refine xgetI d_Tk_cut_138 gc_Tk f_Tk_28.1 f_Tk_28.2.1 f_Tk_28.2.2.1 (gl_1 hX 16) (gl_2 hX (a := 16) (by decide)) (gl_s hX 16 rfl) f_Tk_28.2.2.2.2.1 (fun h17 => ?_)
                have T := T h17
                refine wp_iconst d_Tk_cut_141 ?_
                refine wp_iadd d_Tk_cut_142 ?_
                refine xputI d_Tk_cut_143 gc_Tk f_Tk_28.1 f_Tk_28.2.1 f_Tk_28.2.2.1 (gl_1 hX 16) (gl_2 hX (a := 16) (by decide)) (gl_s hX 16 rfl) f_Tk_28.2.2.2.1 f_Tk_28.2.2.2.2.1 f_Tk_28.2.2.2.2.2 rfl ?_
                refine wp_iinc (L' := [.val (gR G (c + 16)), .unset, .val (gI x2), .val (gI v12), .val (gI (x4 + (-1)))]) d_Tk_cut_146 rfl (by decide) rfl ?_
                refine wp_goto (tgt := 12) d_Tk_cut_149 (by decide) ?_
                exact wp_md (wpt T (And.intro rfl (And.intro rfl (And.intro rfl (And.intro (gI_w _) True.intro)))))
              · have T := T.2 h18
                refine wp_iconst d_Tk_cut_134 ?_
                exact wp_zreturn d_Tk_cut_135 rfl (g_narz (⟨by decide, by decide⟩ : (0 : Int) ≤ 0 ∧ (0 : Int) ≤ 1)) (fun _ => rfl) (Nat.zero_le _) (Nat.zero_le _) (kZ_mk (⟨by decide, by decide⟩ : (0 : Int) ≤ 0 ∧ (0 : Int) ≤ 1) T)
            · have T := T.2 h27
              refine wp_aload_n d_Tk_cut_93 rfl rfl (g_nz (gl_1 hX 16)) ?_
              refine wp_iload_n d_Tk_cut_94 rfl rfl ?_
              refine wp_iload_n d_Tk_cut_95 rfl rfl ?_
              refine xcV_I (md' := true) (As := [gI x3, gI x2]) (st := []) d_Tk_cut_96 ca_Tk_takeWord ml_Tk_40 im_Tk_takeWord se_Tk_takeWord gc_Tk (gl_1 hX 16) (gl_2 hX (a := 16) (by decide)) (gl_s hX 16 rfl) rfl (by decide) (by decide) rfl (fun _ => rfl) (fun _ => rfl) T (fun v20 M19 h21 T => ?_)
              refine wp_istore_n (L' := [.val (gR G (c + 16)), .unset, .val (gI x2), .val (gI v20), .val (gI x4)]) d_Tk_cut_99 rfl (by decide) rfl ?_
              refine wp_goto (tgt := 110) d_Tk_cut_100 (by decide) ?_
              refine wp_aload_n d_Tk_cut_110 rfl rfl (g_nz (gl_1 hX 16)) ?_
              refine xgetR d_Tk_cut_111 gc_Tk f_Tk_18.1 f_Tk_18.2.1 f_Tk_18.2.2.1 (gl_1 hX 16) (gl_2 hX (a := 16) (by decide)) (gl_s hX 16 rfl) f_Tk_18.2.2.2.2.1 (gl_f hX 20 rfl) ?_
              refine wp_aload_n d_Tk_cut_114 rfl rfl (g_nz (gl_1 hX 16)) ?_
              refine xgetI d_Tk_cut_115 gc_Tk f_Tk_28.1 f_Tk_28.2.1 f_Tk_28.2.2.1 (gl_1 hX 16) (gl_2 hX (a := 16) (by decide)) (gl_s hX 16 rfl) f_Tk_28.2.2.2.2.1 (fun h22 => ?_)
              have T := T h22
              refine wp_iload_n d_Tk_cut_118 rfl rfl ?_
              refine xiast d_Tk_cut_119 (gl_1 hX 19) (gl_2 hX (a := 19) (by decide)) (gl_s hX 19 rfl) (by decide) T.1 (w32_id h21) ?_
              have T := T.2
              refine wp_aload_n d_Tk_cut_120 rfl rfl (g_nz (gl_1 hX 16)) ?_
              refine xgetR d_Tk_cut_121 gc_Tk f_Tk_11.1 f_Tk_11.2.1 f_Tk_11.2.2.1 (gl_1 hX 16) (gl_2 hX (a := 16) (by decide)) (gl_s hX 16 rfl) f_Tk_11.2.2.2.2.1 (gl_f hX 18 rfl) ?_
              refine wp_aload_n d_Tk_cut_124 rfl rfl (g_nz (gl_1 hX 16)) ?_
              refine xgetI d_Tk_cut_125 gc_Tk f_Tk_28.1 f_Tk_28.2.1 f_Tk_28.2.2.1 (gl_1 hX 16) (gl_2 hX (a := 16) (by decide)) (gl_s hX 16 rfl) f_Tk_28.2.2.2.2.1 (fun h23 => ?_)
              have T := T h23
              refine wp_iaload d_Tk_cut_128 (gl_1 hX 17) (gl_2 hX (a := 17) (by decide)) (gl_s hX 17 rfl) (g32_n T.1 (by decide)) T.1.1 T.1.2 (fun h24 => ?_)
              have T := T.2 h24
              refine wp_bipush d_Tk_cut_129 ⟨by decide, by decide⟩ ?_
              refine xi_ne (tgt := 136) d_Tk_cut_131 (by decide) (w32_id h24) (w32_id (g32_c (x := 24) rfl)) (fun h26 => ?_) (fun h26 => ?_)
              · have T := T.1 h26
                refine wp_aload_n d_Tk_cut_136 rfl rfl (g_nz (gl_1 hX 16)) ?_
                refine wp_dup d_Tk_cut_137 (gR_cat _) ?_
                refine xgetI d_Tk_cut_138 gc_Tk f_Tk_28.1 f_Tk_28.2.1 f_Tk_28.2.2.1 (gl_1 hX 16) (gl_2 hX (a := 16) (by decide)) (gl_s hX 16 rfl) f_Tk_28.2.2.2.2.1 (fun h25 => ?_)
                have T := T h25
                refine wp_iconst d_Tk_cut_141 ?_
                refine wp_iadd d_Tk_cut_142 ?_
                refine xputI d_Tk_cut_143 gc_Tk f_Tk_28.1 f_Tk_28.2.1 f_Tk_28.2.2.1 (gl_1 hX 16) (gl_2 hX (a := 16) (by decide)) (gl_s hX 16 rfl) f_Tk_28.2.2.2.1 f_Tk_28.2.2.2.2.1 f_Tk_28.2.2.2.2.2 rfl ?_
                refine wp_iinc (L' := [.val (gR G (c + 16)), .unset, .val (gI x2), .val (gI v20), .val (gI (x4 + (-1)))]) d_Tk_cut_146 rfl (by decide) rfl ?_
                refine wp_goto (tgt := 12) d_Tk_cut_149 (by decide) ?_
                exact wp_md (wpt T (And.intro rfl (And.intro rfl (And.intro rfl (And.intro (gI_w _) True.intro)))))
              · have T := T.2 h26
                refine wp_iconst d_Tk_cut_134 ?_
                exact wp_zreturn d_Tk_cut_135 rfl (g_narz (⟨by decide, by decide⟩ : (0 : Int) ≤ 0 ∧ (0 : Int) ≤ 1)) (fun _ => rfl) (Nat.zero_le _) (Nat.zero_le _) (kZ_mk (⟨by decide, by decide⟩ : (0 : Int) ≤ 0 ∧ (0 : Int) ≤ 1) T)
          · have T := T.2 h36
            refine wp_aload_n d_Tk_cut_71 rfl rfl (g_nz (gl_1 hX 16)) ?_
            refine wp_iload_n d_Tk_cut_72 rfl rfl ?_
            refine wp_iload_n d_Tk_cut_73 rfl rfl ?_
            refine xcV_I (md' := true) (As := [gI x3, gI x2]) (st := []) d_Tk_cut_74 ca_Tk_takeString ml_Tk_32 im_Tk_takeString se_Tk_takeString gc_Tk (gl_1 hX 16) (gl_2 hX (a := 16) (by decide)) (gl_s hX 16 rfl) rfl (by decide) (by decide) rfl (fun _ => rfl) (fun _ => rfl) T (fun v29 M28 h30 T => ?_)
            refine wp_istore_n (L' := [.val (gR G (c + 16)), .unset, .val (gI x2), .val (gI v29), .val (gI x4)]) d_Tk_cut_77 rfl (by decide) rfl ?_
            refine wp_goto (tgt := 110) d_Tk_cut_78 (by decide) ?_
            refine wp_aload_n d_Tk_cut_110 rfl rfl (g_nz (gl_1 hX 16)) ?_
            refine xgetR d_Tk_cut_111 gc_Tk f_Tk_18.1 f_Tk_18.2.1 f_Tk_18.2.2.1 (gl_1 hX 16) (gl_2 hX (a := 16) (by decide)) (gl_s hX 16 rfl) f_Tk_18.2.2.2.2.1 (gl_f hX 20 rfl) ?_
            refine wp_aload_n d_Tk_cut_114 rfl rfl (g_nz (gl_1 hX 16)) ?_
            refine xgetI d_Tk_cut_115 gc_Tk f_Tk_28.1 f_Tk_28.2.1 f_Tk_28.2.2.1 (gl_1 hX 16) (gl_2 hX (a := 16) (by decide)) (gl_s hX 16 rfl) f_Tk_28.2.2.2.2.1 (fun h31 => ?_)
            have T := T h31
            refine wp_iload_n d_Tk_cut_118 rfl rfl ?_
            refine xiast d_Tk_cut_119 (gl_1 hX 19) (gl_2 hX (a := 19) (by decide)) (gl_s hX 19 rfl) (by decide) T.1 (w32_id h30) ?_
            have T := T.2
            refine wp_aload_n d_Tk_cut_120 rfl rfl (g_nz (gl_1 hX 16)) ?_
            refine xgetR d_Tk_cut_121 gc_Tk f_Tk_11.1 f_Tk_11.2.1 f_Tk_11.2.2.1 (gl_1 hX 16) (gl_2 hX (a := 16) (by decide)) (gl_s hX 16 rfl) f_Tk_11.2.2.2.2.1 (gl_f hX 18 rfl) ?_
            refine wp_aload_n d_Tk_cut_124 rfl rfl (g_nz (gl_1 hX 16)) ?_
            refine xgetI d_Tk_cut_125 gc_Tk f_Tk_28.1 f_Tk_28.2.1 f_Tk_28.2.2.1 (gl_1 hX 16) (gl_2 hX (a := 16) (by decide)) (gl_s hX 16 rfl) f_Tk_28.2.2.2.2.1 (fun h32 => ?_)
            have T := T h32
            refine wp_iaload d_Tk_cut_128 (gl_1 hX 17) (gl_2 hX (a := 17) (by decide)) (gl_s hX 17 rfl) (g32_n T.1 (by decide)) T.1.1 T.1.2 (fun h33 => ?_)
            have T := T.2 h33
            refine wp_bipush d_Tk_cut_129 ⟨by decide, by decide⟩ ?_
            refine xi_ne (tgt := 136) d_Tk_cut_131 (by decide) (w32_id h33) (w32_id (g32_c (x := 24) rfl)) (fun h35 => ?_) (fun h35 => ?_)
            · have T := T.1 h35
              refine wp_aload_n d_Tk_cut_136 rfl rfl (g_nz (gl_1 hX 16)) ?_
              refine wp_dup d_Tk_cut_137 (gR_cat _) ?_
              refine xgetI d_Tk_cut_138 gc_Tk f_Tk_28.1 f_Tk_28.2.1 f_Tk_28.2.2.1 (gl_1 hX 16) (gl_2 hX (a := 16) (by decide)) (gl_s hX 16 rfl) f_Tk_28.2.2.2.2.1 (fun h34 => ?_)
              have T := T h34
              refine wp_iconst d_Tk_cut_141 ?_
              refine wp_iadd d_Tk_cut_142 ?_
              refine xputI d_Tk_cut_143 gc_Tk f_Tk_28.1 f_Tk_28.2.1 f_Tk_28.2.2.1 (gl_1 hX 16) (gl_2 hX (a := 16) (by decide)) (gl_s hX 16 rfl) f_Tk_28.2.2.2.1 f_Tk_28.2.2.2.2.1 f_Tk_28.2.2.2.2.2 rfl ?_
              refine wp_iinc (L' := [.val (gR G (c + 16)), .unset, .val (gI x2), .val (gI v29), .val (gI (x4 + (-1)))]) d_Tk_cut_146 rfl (by decide) rfl ?_
              refine wp_goto (tgt := 12) d_Tk_cut_149 (by decide) ?_
              exact wp_md (wpt T (And.intro rfl (And.intro rfl (And.intro rfl (And.intro (gI_w _) True.intro)))))
            · have T := T.2 h35
              refine wp_iconst d_Tk_cut_134 ?_
              exact wp_zreturn d_Tk_cut_135 rfl (g_narz (⟨by decide, by decide⟩ : (0 : Int) ≤ 0 ∧ (0 : Int) ≤ 1)) (fun _ => rfl) (Nat.zero_le _) (Nat.zero_le _) (kZ_mk (⟨by decide, by decide⟩ : (0 : Int) ≤ 0 ∧ (0 : Int) ≤ 1) T)
        · have T := T.2 h37
          refine wp_iconst d_Tk_cut_48 ?_
          exact wp_zreturn d_Tk_cut_49 rfl (g_narz (⟨by decide, by decide⟩ : (0 : Int) ≤ 0 ∧ (0 : Int) ≤ 1)) (fun _ => rfl) (Nat.zero_le _) (Nat.zero_le _) (kZ_mk (⟨by decide, by decide⟩ : (0 : Int) ≤ 0 ∧ (0 : Int) ≤ 1) T)
      · have T := T.2 h38
        refine wp_iinc (L' := [.val (gR G (c + 16)), .unset, .val (gI x2), .val (gI (x3 + 1)), .val (gI x4)]) d_Tk_cut_33 rfl (by decide) rfl ?_
        refine wp_goto (tgt := 146) d_Tk_cut_36 (by decide) ?_
        refine wp_iinc (L' := [.val (gR G (c + 16)), .unset, .val (gI x2), .val (gI (x3 + 1)), .val (gI (x4 + (-1)))]) d_Tk_cut_146 rfl (by decide) rfl ?_
        refine wp_goto (tgt := 12) d_Tk_cut_149 (by decide) ?_
        exact wp_md (wpt T (And.intro rfl (And.intro rfl (And.intro (gI_w _) (And.intro (gI_w _) True.intro)))))
set_option maxHeartbeats 4000000 in
theorem w_Tk_cut_158 {l : Launch} {G : gG} {d : Nat} {X : gX} {M : gM} {k : Int → gM → Prop} {c : Nat} (hX : glX X c) {x4 : Int} (hx4 : g32 x4)  (T : g32 (M (c + 16) 5) → (((w32 ((M (c + 16) 5) + 4)) ≤ x4 → (k 1 M)) ∧ (¬ (w32 ((M (c + 16) 5) + 4)) ≤ x4 → (((0 : Int) ≤ x4 ∧ x4 < 104) ∧ (wp l G y_Tk_cut (gRm (d + 1)) true (kkZ X k) true 158 [.val (gR G (c + 16)), .unset, .unset, .unset, .val (gI (w32 (x4 + 1)))] [] X (gUp M (c + 17) (Int.toNat x4) 23) 0 0))))) : wp l G y_Tk_cut (gRm (d + 1)) true (kkZ X k) true 158 [.val (gR G (c + 16)), .unset, .unset, .unset, .val (gI x4)] [] X M 0 0 := by
  refine wp_iload d_Tk_cut_158 rfl ?_
  refine wp_aload_n d_Tk_cut_160 rfl rfl (g_nz (gl_1 hX 16)) ?_
  refine xgetI d_Tk_cut_161 gc_Tk f_Tk_28.1 f_Tk_28.2.1 f_Tk_28.2.2.1 (gl_1 hX 16) (gl_2 hX (a := 16) (by decide)) (gl_s hX 16 rfl) f_Tk_28.2.2.2.2.1 (fun h41 => ?_)
  have T := T h41
  refine wp_iconst d_Tk_cut_164 ?_
  refine wp_iadd d_Tk_cut_165 ?_
  refine xi_ge (tgt := 184) d_Tk_cut_166 (by decide) (w32_id hx4) rfl (fun h42 => ?_) (fun h42 => ?_)
  · have T := T.1 h42
    refine wp_iconst d_Tk_cut_184 ?_
    exact wp_zreturn d_Tk_cut_185 rfl (g_narz (⟨by decide, by decide⟩ : (0 : Int) ≤ 1 ∧ (1 : Int) ≤ 1)) (fun _ => rfl) (Nat.zero_le _) (Nat.zero_le _) (kZ_mk (⟨by decide, by decide⟩ : (0 : Int) ≤ 1 ∧ (1 : Int) ≤ 1) T)
  · have T := T.2 h42
    refine wp_aload_n d_Tk_cut_169 rfl rfl (g_nz (gl_1 hX 16)) ?_
    refine xgetR d_Tk_cut_170 gc_Tk f_Tk_11.1 f_Tk_11.2.1 f_Tk_11.2.2.1 (gl_1 hX 16) (gl_2 hX (a := 16) (by decide)) (gl_s hX 16 rfl) f_Tk_11.2.2.2.2.1 (gl_f hX 18 rfl) ?_
    refine wp_iload d_Tk_cut_173 rfl ?_
    refine wp_bipush d_Tk_cut_175 ⟨by decide, by decide⟩ ?_
    refine xiast d_Tk_cut_177 (gl_1 hX 17) (gl_2 hX (a := 17) (by decide)) (gl_s hX 17 rfl) (by decide) T.1 (w32_id (g32_c (x := 23) rfl)) ?_
    have T := T.2
    refine wp_iinc (L' := [.val (gR G (c + 16)), .unset, .unset, .unset, .val (gI (x4 + 1))]) d_Tk_cut_178 rfl (by decide) rfl ?_
    refine wp_goto (tgt := 158) d_Tk_cut_181 (by decide) ?_
    exact wp_md (wpt T (And.intro rfl (And.intro (gI_w _) True.intro)))
theorem e_Tk_cut {l : Launch} {G : gG} {d : Nat} {X : gX} {M : gM} {k : Int → gM → Prop} {c : Nat} {x1 : Int} {x2 : Int} (T : wp l G y_Tk_cut (gRm (d + 1)) true (kkZ X k) false 0 [.val (gR G (c + 16)), .val (gI x1), .val (gI x2), .unset, .unset] [] X M 0 0) : cZ l G y_Tk_cut (gRm (d + 1)) true [gR G (c + 16), gI x1, gI x2] X M k := cen_Z (plainFor_of_name rfl) (by simp only [lg_sl_R, lg_sl_I, lg_sl_L, lg_sl_N, List.length_cons, List.length_nil]; decide) (by unfold gEn; simp only [lg_sl_R, lg_sl_I, lg_sl_L, lg_sl_N]; exact wpt T (And.intro rfl (And.intro rfl (And.intro rfl True.intro))))
theorem d_Tk_takeString_0 : decode prog_11_method_3_code 0 = .ok (.iload_n 1, 1) := by decide +kernel
theorem d_Tk_takeString_1 : decode prog_11_method_3_code 1 = .ok (.iconst 1, 1) := by decide +kernel
theorem d_Tk_takeString_2 : decode prog_11_method_3_code 2 = .ok (.iadd, 1) := by decide +kernel
theorem d_Tk_takeString_3 : decode prog_11_method_3_code 3 = .ok (.istore_n 3, 1) := by decide +kernel
theorem d_Tk_takeString_4 : decode prog_11_method_3_code 4 = .ok (.iload_n 3, 1) := by decide +kernel
theorem d_Tk_takeString_5 : decode prog_11_method_3_code 5 = .ok (.iload_n 2, 1) := by decide +kernel
theorem d_Tk_takeString_6 : decode prog_11_method_3_code 6 = .ok (.if_icmp .ge 20, 3) := by decide +kernel
theorem d_Tk_takeString_9 : decode prog_11_method_3_code 9 = .ok (.aload_n 0, 1) := by decide +kernel
theorem d_Tk_takeString_10 : decode prog_11_method_3_code 10 = .ok (.getfield 24, 3) := by decide +kernel
theorem d_Tk_takeString_13 : decode prog_11_method_3_code 13 = .ok (.iload_n 3, 1) := by decide +kernel
theorem d_Tk_takeString_14 : decode prog_11_method_3_code 14 = .ok (.baload, 1) := by decide +kernel
theorem d_Tk_takeString_15 : decode prog_11_method_3_code 15 = .ok (.bipush 34, 2) := by decide +kernel
theorem d_Tk_takeString_17 : decode prog_11_method_3_code 17 = .ok (.if_icmp .eq 9, 3) := by decide +kernel
theorem d_Tk_takeString_20 : decode prog_11_method_3_code 20 = .ok (.iinc 3 1, 3) := by decide +kernel
theorem d_Tk_takeString_23 : decode prog_11_method_3_code 23 = .ok (.goto (-19), 3) := by decide +kernel
theorem d_Tk_takeString_26 : decode prog_11_method_3_code 26 = .ok (.iload_n 3, 1) := by decide +kernel
theorem d_Tk_takeString_27 : decode prog_11_method_3_code 27 = .ok (.iload_n 2, 1) := by decide +kernel
theorem d_Tk_takeString_28 : decode prog_11_method_3_code 28 = .ok (.if_icmp .ge 17, 3) := by decide +kernel
theorem d_Tk_takeString_45 : decode prog_11_method_3_code 45 = .ok (.iconst 0, 1) := by decide +kernel
theorem d_Tk_takeString_46 : decode prog_11_method_3_code 46 = .ok (.istore 4, 2) := by decide +kernel
theorem d_Tk_takeString_48 : decode prog_11_method_3_code 48 = .ok (.aload_n 0, 1) := by decide +kernel
theorem d_Tk_takeString_49 : decode prog_11_method_3_code 49 = .ok (.getfield 11, 3) := by decide +kernel
theorem d_Tk_takeString_52 : decode prog_11_method_3_code 52 = .ok (.aload_n 0, 1) := by decide +kernel
theorem d_Tk_takeString_53 : decode prog_11_method_3_code 53 = .ok (.getfield 28, 3) := by decide +kernel
theorem d_Tk_takeString_56 : decode prog_11_method_3_code 56 = .ok (.iload 4, 2) := by decide +kernel
theorem d_Tk_takeString_58 : decode prog_11_method_3_code 58 = .ok (.ifCond .eq 8, 3) := by decide +kernel
theorem d_Tk_takeString_66 : decode prog_11_method_3_code 66 = .ok (.bipush 24, 2) := by decide +kernel
theorem d_Tk_takeString_68 : decode prog_11_method_3_code 68 = .ok (.iastore, 1) := by decide +kernel
theorem d_Tk_takeString_69 : decode prog_11_method_3_code 69 = .ok (.iload_n 3, 1) := by decide +kernel
theorem d_Tk_takeString_70 : decode prog_11_method_3_code 70 = .ok (.iconst 1, 1) := by decide +kernel
theorem d_Tk_takeString_71 : decode prog_11_method_3_code 71 = .ok (.iadd, 1) := by decide +kernel
theorem d_Tk_takeString_72 : decode prog_11_method_3_code 72 = .ok (.ireturn, 1) := by decide +kernel
theorem d_Tk_takeString_61 : decode prog_11_method_3_code 61 = .ok (.bipush 18, 2) := by decide +kernel
theorem d_Tk_takeString_63 : decode prog_11_method_3_code 63 = .ok (.goto 5, 3) := by decide +kernel
theorem d_Tk_takeString_31 : decode prog_11_method_3_code 31 = .ok (.iload_n 3, 1) := by decide +kernel
theorem d_Tk_takeString_32 : decode prog_11_method_3_code 32 = .ok (.iload_n 1, 1) := by decide +kernel
theorem d_Tk_takeString_33 : decode prog_11_method_3_code 33 = .ok (.isub, 1) := by decide +kernel
theorem d_Tk_takeString_34 : decode prog_11_method_3_code 34 = .ok (.iconst 1, 1) := by decide +kernel
theorem d_Tk_takeString_35 : decode prog_11_method_3_code 35 = .ok (.isub, 1) := by decide +kernel
theorem d_Tk_takeString_36 : decode prog_11_method_3_code 36 = .ok (.bipush 64, 2) := by decide +kernel
theorem d_Tk_takeString_38 : decode prog_11_method_3_code 38 = .ok (.if_icmp .gt 7, 3) := by decide +kernel
theorem d_Tk_takeString_41 : decode prog_11_method_3_code 41 = .ok (.iconst 1, 1) := by decide +kernel
theorem d_Tk_takeString_42 : decode prog_11_method_3_code 42 = .ok (.goto 4, 3) := by decide +kernel
set_option maxHeartbeats 4000000 in
theorem w_Tk_takeString_0 {l : Launch} {G : gG} {d : Nat} {X : gX} {M : gM} {k : Int → gM → Prop} {c : Nat} (hX : glX X c) {x1 : Int} (hx1 : g32 x1) {x2 : Int} (hx2 : g32 x2)  (T : wp l G y_Tk_takeString (gRm d) true (kkI X k) true 4 [.val (gR G (c + 16)), .val (gI x1), .val (gI x2), .val (gI (w32 (x1 + 1))), .unset] [] X M 0 0) : wp l G y_Tk_takeString (gRm d) true (kkI X k) false 0 [.val (gR G (c + 16)), .val (gI x1), .val (gI x2), .unset, .unset] [] X M 0 0 := by
  refine wp_iload_n d_Tk_takeString_0 rfl rfl ?_
  refine wp_iconst d_Tk_takeString_1 ?_
  refine wp_iadd d_Tk_takeString_2 ?_
  refine wp_istore_n (L' := [.val (gR G (c + 16)), .val (gI x1), .val (gI x2), .val (gI (x1 + 1)), .unset]) d_Tk_takeString_3 rfl (by decide) rfl ?_
  exact wp_md (wpt T (And.intro rfl (And.intro rfl (And.intro rfl (And.intro (gI_w _) True.intro)))))
set_option maxHeartbeats 4000000 in
theorem w_Tk_takeString_4 {l : Launch} {G : gG} {d : Nat} {X : gX} {M : gM} {k : Int → gM → Prop} {c : Nat} (hX : glX X c) {x1 : Int} (hx1 : g32 x1) {x2 : Int} (hx2 : g32 x2) {x3 : Int} (hx3 : g32 x3)  (T : (x2 ≤ x3 → (wp l G y_Tk_takeString (gRm d) true (kkI X k) true 26 [.val (gR G (c + 16)), .val (gI x1), .val (gI x2), .val (gI x3), .unset] [] X M 0 0)) ∧ (¬ x2 ≤ x3 → (((0 : Int) ≤ x3 ∧ x3 < 240) ∧ ((-128 ≤ M (c + 1) (Int.toNat x3) ∧ M (c + 1) (Int.toNat x3) < 128) → ((M (c + 1) (Int.toNat x3) = 34 → (wp l G y_Tk_takeString (gRm d) true (kkI X k) true 26 [.val (gR G (c + 16)), .val (gI x1), .val (gI x2), .val (gI x3), .unset] [] X M 0 0)) ∧ (¬ M (c + 1) (Int.toNat x3) = 34 → (wp l G y_Tk_takeString (gRm d) true (kkI X k) true 4 [.val (gR G (c + 16)), .val (gI x1), .val (gI x2), .val (gI (w32 (x3 + 1))), .unset] [] X M 0 0))))))) : wp l G y_Tk_takeString (gRm d) true (kkI X k) true 4 [.val (gR G (c + 16)), .val (gI x1), .val (gI x2), .val (gI x3), .unset] [] X M 0 0 := by
  refine wp_iload_n d_Tk_takeString_4 rfl rfl ?_
  refine wp_iload_n d_Tk_takeString_5 rfl rfl ?_
  refine xi_ge (tgt := 26) d_Tk_takeString_6 (by decide) (w32_id hx3) (w32_id hx2) (fun h3 => ?_) (fun h3 => ?_)
  · have T := T.1 h3
    exact wp_md (wpt T (And.intro rfl (And.intro rfl (And.intro rfl (And.intro rfl True.intro)))))
  · have T := T.2 h3
    refine wp_aload_n d_Tk_takeString_9 rfl rfl (g_nz (gl_1 hX 16)) ?_
    refine xgetR d_Tk_takeString_10 gc_Tk f_Tk_24.1 f_Tk_24.2.1 f_Tk_24.2.2.1 (gl_1 hX 16) (gl_2 hX (a := 16) (by decide)) (gl_s hX 16 rfl) f_Tk_24.2.2.2.2.1 (gl_f hX 22 rfl) ?_
    refine wp_iload_n d_Tk_takeString_13 rfl rfl ?_
    refine wp_baload d_Tk_takeString_14 (gl_1 hX 1) (gl_2 hX (a := 1) (by decide)) (gl_s hX 1 rfl) (g32_n T.1 (by decide)) T.1.1 T.1.2 (fun h1 => ?_)
    have T := T.2 h1
    refine wp_bipush d_Tk_takeString_15 ⟨by decide, by decide⟩ ?_
    refine xi_eq (tgt := 26) d_Tk_takeString_17 (by decide) (w32_id (g32_b h1)) (w32_id (g32_c (x := 34) rfl)) (fun h2 => ?_) (fun h2 => ?_)
    · have T := T.1 h2
      exact wp_md (wpt T (And.intro rfl (And.intro rfl (And.intro rfl (And.intro rfl True.intro)))))
    · have T := T.2 h2
      refine wp_iinc (L' := [.val (gR G (c + 16)), .val (gI x1), .val (gI x2), .val (gI (x3 + 1)), .unset]) d_Tk_takeString_20 rfl (by decide) rfl ?_
      refine wp_goto (tgt := 4) d_Tk_takeString_23 (by decide) ?_
      exact wp_md (wpt T (And.intro rfl (And.intro rfl (And.intro rfl (And.intro (gI_w _) True.intro)))))
set_option maxHeartbeats 4000000 in
theorem w_Tk_takeString_26 {l : Launch} {G : gG} {d : Nat} {X : gX} {M : gM} {k : Int → gM → Prop} {c : Nat} (hX : glX X c) {x1 : Int} (hx1 : g32 x1) {x2 : Int} (hx2 : g32 x2) {x3 : Int} (hx3 : g32 x3)  (T : (x2 ≤ x3 → (g32 (M (c + 16) 5) → (((0 : Int) = 0 → (((0 : Int) ≤ M (c + 16) 5 ∧ M (c + 16) 5 < 104) ∧ (k (w32 (x3 + 1)) (gUp M (c + 17) (Int.toNat (M (c + 16) 5)) 24)))) ∧ (¬ (0 : Int) = 0 → (((0 : Int) ≤ M (c + 16) 5 ∧ M (c + 16) 5 < 104) ∧ (k (w32 (x3 + 1)) (gUp M (c + 17) (Int.toNat (M (c + 16) 5)) 18))))))) ∧ (¬ x2 ≤ x3 → ((64 < (w32 ((x3 - x1) - 1)) → (g32 (M (c + 16) 5) → (((0 : Int) = 0 → (((0 : Int) ≤ M (c + 16) 5 ∧ M (c + 16) 5 < 104) ∧ (k (w32 (x3 + 1)) (gUp M (c + 17) (Int.toNat (M (c + 16) 5)) 24)))) ∧ (¬ (0 : Int) = 0 → (((0 : Int) ≤ M (c + 16) 5 ∧ M (c + 16) 5 < 104) ∧ (k (w32 (x3 + 1)) (gUp M (c + 17) (Int.toNat (M (c + 16) 5)) 18))))))) ∧ (¬ 64 < (w32 ((x3 - x1) - 1)) → (g32 (M (c + 16) 5) → (((1 : Int) = 0 → (((0 : Int) ≤ M (c + 16) 5 ∧ M (c + 16) 5 < 104) ∧ (k (w32 (x3 + 1)) (gUp M (c + 17) (Int.toNat (M (c + 16) 5)) 24)))) ∧ (¬ (1 : Int) = 0 → (((0 : Int) ≤ M (c + 16) 5 ∧ M (c + 16) 5 < 104) ∧ (k (w32 (x3 + 1)) (gUp M (c + 17) (Int.toNat (M (c + 16) 5)) 18)))))))))) : wp l G y_Tk_takeString (gRm d) true (kkI X k) true 26 [.val (gR G (c + 16)), .val (gI x1), .val (gI x2), .val (gI x3), .unset] [] X M 0 0 := by
  refine wp_iload_n d_Tk_takeString_26 rfl rfl ?_
  refine wp_iload_n d_Tk_takeString_27 rfl rfl ?_
  refine xi_ge (tgt := 45) d_Tk_takeString_28 (by decide) (w32_id hx3) (w32_id hx2) (fun h11 => ?_) (fun h11 => ?_)
  · have T := T.1 h11
    refine wp_iconst d_Tk_takeString_45 ?_
    refine wp_istore (L' := [.val (gR G (c + 16)), .val (gI x1), .val (gI x2), .val (gI x3), .val (gI 0)]) d_Tk_takeString_46 (by decide) rfl ?_
    refine wp_aload_n d_Tk_takeString_48 rfl rfl (g_nz (gl_1 hX 16)) ?_
    refine xgetR d_Tk_takeString_49 gc_Tk f_Tk_11.1 f_Tk_11.2.1 f_Tk_11.2.2.1 (gl_1 hX 16) (gl_2 hX (a := 16) (by decide)) (gl_s hX 16 rfl) f_Tk_11.2.2.2.2.1 (gl_f hX 18 rfl) ?_
    refine wp_aload_n d_Tk_takeString_52 rfl rfl (g_nz (gl_1 hX 16)) ?_
    refine xgetI d_Tk_takeString_53 gc_Tk f_Tk_28.1 f_Tk_28.2.1 f_Tk_28.2.2.1 (gl_1 hX 16) (gl_2 hX (a := 16) (by decide)) (gl_s hX 16 rfl) f_Tk_28.2.2.2.2.1 (fun h4 => ?_)
    have T := T h4
    refine wp_iload d_Tk_takeString_56 rfl ?_
    refine xz_eq (tgt := 66) d_Tk_takeString_58 (by decide) (w32_id (g32_c (x := 0) rfl)) (fun h5 => ?_) (fun h5 => ?_)
    · have T := T.1 h5
      refine wp_bipush d_Tk_takeString_66 ⟨by decide, by decide⟩ ?_
      refine xiast d_Tk_takeString_68 (gl_1 hX 17) (gl_2 hX (a := 17) (by decide)) (gl_s hX 17 rfl) (by decide) T.1 (w32_id (g32_c (x := 24) rfl)) ?_
      have T := T.2
      refine wp_iload_n d_Tk_takeString_69 rfl rfl ?_
      refine wp_iconst d_Tk_takeString_70 ?_
      refine wp_iadd d_Tk_takeString_71 ?_
      exact wp_st (st' := [gI (w32 (x3 + 1))]) (by rw [gI_w]) (wp_ireturn d_Tk_takeString_72 rfl (fun _ => rfl) (Nat.zero_le _) (Nat.zero_le _) (kI_mk (w32_ok _) T))
    · have T := T.2 h5
      refine wp_bipush d_Tk_takeString_61 ⟨by decide, by decide⟩ ?_
      refine wp_goto (tgt := 68) d_Tk_takeString_63 (by decide) ?_
      refine xiast d_Tk_takeString_68 (gl_1 hX 17) (gl_2 hX (a := 17) (by decide)) (gl_s hX 17 rfl) (by decide) T.1 (w32_id (g32_c (x := 18) rfl)) ?_
      have T := T.2
      refine wp_iload_n d_Tk_takeString_69 rfl rfl ?_
      refine wp_iconst d_Tk_takeString_70 ?_
      refine wp_iadd d_Tk_takeString_71 ?_
      exact wp_st (st' := [gI (w32 (x3 + 1))]) (by rw [gI_w]) (wp_ireturn d_Tk_takeString_72 rfl (fun _ => rfl) (Nat.zero_le _) (Nat.zero_le _) (kI_mk (w32_ok _) T))
  · have T := T.2 h11
    refine wp_iload_n d_Tk_takeString_31 rfl rfl ?_
    refine wp_iload_n d_Tk_takeString_32 rfl rfl ?_
    refine wp_isub d_Tk_takeString_33 ?_
    refine wp_iconst d_Tk_takeString_34 ?_
    refine wp_isub d_Tk_takeString_35 ?_
    refine wp_bipush d_Tk_takeString_36 ⟨by decide, by decide⟩ ?_
    refine xi_gt (tgt := 45) d_Tk_takeString_38 (by decide) rfl (w32_id (g32_c (x := 64) rfl)) (fun h10 => ?_) (fun h10 => ?_)
    · have T := T.1 h10
      refine wp_iconst d_Tk_takeString_45 ?_
      refine wp_istore (L' := [.val (gR G (c + 16)), .val (gI x1), .val (gI x2), .val (gI x3), .val (gI 0)]) d_Tk_takeString_46 (by decide) rfl ?_
      refine wp_aload_n d_Tk_takeString_48 rfl rfl (g_nz (gl_1 hX 16)) ?_
      refine xgetR d_Tk_takeString_49 gc_Tk f_Tk_11.1 f_Tk_11.2.1 f_Tk_11.2.2.1 (gl_1 hX 16) (gl_2 hX (a := 16) (by decide)) (gl_s hX 16 rfl) f_Tk_11.2.2.2.2.1 (gl_f hX 18 rfl) ?_
      refine wp_aload_n d_Tk_takeString_52 rfl rfl (g_nz (gl_1 hX 16)) ?_
      refine xgetI d_Tk_takeString_53 gc_Tk f_Tk_28.1 f_Tk_28.2.1 f_Tk_28.2.2.1 (gl_1 hX 16) (gl_2 hX (a := 16) (by decide)) (gl_s hX 16 rfl) f_Tk_28.2.2.2.2.1 (fun h6 => ?_)
      have T := T h6
      refine wp_iload d_Tk_takeString_56 rfl ?_
      refine xz_eq (tgt := 66) d_Tk_takeString_58 (by decide) (w32_id (g32_c (x := 0) rfl)) (fun h7 => ?_) (fun h7 => ?_)
      · have T := T.1 h7
        refine wp_bipush d_Tk_takeString_66 ⟨by decide, by decide⟩ ?_
        refine xiast d_Tk_takeString_68 (gl_1 hX 17) (gl_2 hX (a := 17) (by decide)) (gl_s hX 17 rfl) (by decide) T.1 (w32_id (g32_c (x := 24) rfl)) ?_
        have T := T.2
        refine wp_iload_n d_Tk_takeString_69 rfl rfl ?_
        refine wp_iconst d_Tk_takeString_70 ?_
        refine wp_iadd d_Tk_takeString_71 ?_
        exact wp_st (st' := [gI (w32 (x3 + 1))]) (by rw [gI_w]) (wp_ireturn d_Tk_takeString_72 rfl (fun _ => rfl) (Nat.zero_le _) (Nat.zero_le _) (kI_mk (w32_ok _) T))
      · have T := T.2 h7
        refine wp_bipush d_Tk_takeString_61 ⟨by decide, by decide⟩ ?_
        refine wp_goto (tgt := 68) d_Tk_takeString_63 (by decide) ?_
        refine xiast d_Tk_takeString_68 (gl_1 hX 17) (gl_2 hX (a := 17) (by decide)) (gl_s hX 17 rfl) (by decide) T.1 (w32_id (g32_c (x := 18) rfl)) ?_
        have T := T.2
        refine wp_iload_n d_Tk_takeString_69 rfl rfl ?_
        refine wp_iconst d_Tk_takeString_70 ?_
        refine wp_iadd d_Tk_takeString_71 ?_
        exact wp_st (st' := [gI (w32 (x3 + 1))]) (by rw [gI_w]) (wp_ireturn d_Tk_takeString_72 rfl (fun _ => rfl) (Nat.zero_le _) (Nat.zero_le _) (kI_mk (w32_ok _) T))
    · have T := T.2 h10
      refine wp_iconst d_Tk_takeString_41 ?_
      refine wp_goto (tgt := 46) d_Tk_takeString_42 (by decide) ?_
      refine wp_istore (L' := [.val (gR G (c + 16)), .val (gI x1), .val (gI x2), .val (gI x3), .val (gI 1)]) d_Tk_takeString_46 (by decide) rfl ?_
      refine wp_aload_n d_Tk_takeString_48 rfl rfl (g_nz (gl_1 hX 16)) ?_
      refine xgetR d_Tk_takeString_49 gc_Tk f_Tk_11.1 f_Tk_11.2.1 f_Tk_11.2.2.1 (gl_1 hX 16) (gl_2 hX (a := 16) (by decide)) (gl_s hX 16 rfl) f_Tk_11.2.2.2.2.1 (gl_f hX 18 rfl) ?_
      refine wp_aload_n d_Tk_takeString_52 rfl rfl (g_nz (gl_1 hX 16)) ?_
      refine xgetI d_Tk_takeString_53 gc_Tk f_Tk_28.1 f_Tk_28.2.1 f_Tk_28.2.2.1 (gl_1 hX 16) (gl_2 hX (a := 16) (by decide)) (gl_s hX 16 rfl) f_Tk_28.2.2.2.2.1 (fun h8 => ?_)
      have T := T h8
      refine wp_iload d_Tk_takeString_56 rfl ?_
      refine xz_eq (tgt := 66) d_Tk_takeString_58 (by decide) (w32_id (g32_c (x := 1) rfl)) (fun h9 => ?_) (fun h9 => ?_)
      · have T := T.1 h9
        refine wp_bipush d_Tk_takeString_66 ⟨by decide, by decide⟩ ?_
        refine xiast d_Tk_takeString_68 (gl_1 hX 17) (gl_2 hX (a := 17) (by decide)) (gl_s hX 17 rfl) (by decide) T.1 (w32_id (g32_c (x := 24) rfl)) ?_
        have T := T.2
        refine wp_iload_n d_Tk_takeString_69 rfl rfl ?_
        refine wp_iconst d_Tk_takeString_70 ?_
        refine wp_iadd d_Tk_takeString_71 ?_
        exact wp_st (st' := [gI (w32 (x3 + 1))]) (by rw [gI_w]) (wp_ireturn d_Tk_takeString_72 rfl (fun _ => rfl) (Nat.zero_le _) (Nat.zero_le _) (kI_mk (w32_ok _) T))
      · have T := T.2 h9
        refine wp_bipush d_Tk_takeString_61 ⟨by decide, by decide⟩ ?_
        refine wp_goto (tgt := 68) d_Tk_takeString_63 (by decide) ?_
        refine xiast d_Tk_takeString_68 (gl_1 hX 17) (gl_2 hX (a := 17) (by decide)) (gl_s hX 17 rfl) (by decide) T.1 (w32_id (g32_c (x := 18) rfl)) ?_
        have T := T.2
        refine wp_iload_n d_Tk_takeString_69 rfl rfl ?_
        refine wp_iconst d_Tk_takeString_70 ?_
        refine wp_iadd d_Tk_takeString_71 ?_
        exact wp_st (st' := [gI (w32 (x3 + 1))]) (by rw [gI_w]) (wp_ireturn d_Tk_takeString_72 rfl (fun _ => rfl) (Nat.zero_le _) (Nat.zero_le _) (kI_mk (w32_ok _) T))
theorem e_Tk_takeString {l : Launch} {G : gG} {d : Nat} {X : gX} {M : gM} {k : Int → gM → Prop} {c : Nat} {x1 : Int} {x2 : Int} (T : wp l G y_Tk_takeString (gRm d) true (kkI X k) false 0 [.val (gR G (c + 16)), .val (gI x1), .val (gI x2), .unset, .unset] [] X M 0 0) : cI l G y_Tk_takeString (gRm d) true [gR G (c + 16), gI x1, gI x2] X M k := cen_I (plainFor_of_name rfl) (by simp only [lg_sl_R, lg_sl_I, lg_sl_L, lg_sl_N, List.length_cons, List.length_nil]; decide) (by unfold gEn; simp only [lg_sl_R, lg_sl_I, lg_sl_L, lg_sl_N]; exact wpt T (And.intro rfl (And.intro rfl (And.intro rfl True.intro))))
theorem d_Tk_takeWord_0 : decode prog_11_method_4_code 0 = .ok (.iload_n 1, 1) := by decide +kernel
theorem d_Tk_takeWord_1 : decode prog_11_method_4_code 1 = .ok (.istore_n 3, 1) := by decide +kernel
theorem d_Tk_takeWord_2 : decode prog_11_method_4_code 2 = .ok (.iload_n 3, 1) := by decide +kernel
theorem d_Tk_takeWord_3 : decode prog_11_method_4_code 3 = .ok (.iload_n 2, 1) := by decide +kernel
theorem d_Tk_takeWord_4 : decode prog_11_method_4_code 4 = .ok (.if_icmp .ge 21, 3) := by decide +kernel
theorem d_Tk_takeWord_25 : decode prog_11_method_4_code 25 = .ok (.aload_n 0, 1) := by decide +kernel
theorem d_Tk_takeWord_26 : decode prog_11_method_4_code 26 = .ok (.getfield 21, 3) := by decide +kernel
theorem d_Tk_takeWord_29 : decode prog_11_method_4_code 29 = .ok (.aload_n 0, 1) := by decide +kernel
theorem d_Tk_takeWord_30 : decode prog_11_method_4_code 30 = .ok (.getfield 28, 3) := by decide +kernel
theorem d_Tk_takeWord_33 : decode prog_11_method_4_code 33 = .ok (.aload_n 0, 1) := by decide +kernel
theorem d_Tk_takeWord_34 : decode prog_11_method_4_code 34 = .ok (.iload_n 1, 1) := by decide +kernel
theorem d_Tk_takeWord_35 : decode prog_11_method_4_code 35 = .ok (.iload_n 3, 1) := by decide +kernel
theorem d_Tk_takeWord_36 : decode prog_11_method_4_code 36 = .ok (.invokevirtual 46, 3) := by decide +kernel
theorem d_Tk_takeWord_39 : decode prog_11_method_4_code 39 = .ok (.iastore, 1) := by decide +kernel
theorem d_Tk_takeWord_40 : decode prog_11_method_4_code 40 = .ok (.aload_n 0, 1) := by decide +kernel
theorem d_Tk_takeWord_41 : decode prog_11_method_4_code 41 = .ok (.getfield 11, 3) := by decide +kernel
theorem d_Tk_takeWord_44 : decode prog_11_method_4_code 44 = .ok (.aload_n 0, 1) := by decide +kernel
theorem d_Tk_takeWord_45 : decode prog_11_method_4_code 45 = .ok (.getfield 28, 3) := by decide +kernel
theorem d_Tk_takeWord_48 : decode prog_11_method_4_code 48 = .ok (.aload_n 0, 1) := by decide +kernel
theorem d_Tk_takeWord_49 : decode prog_11_method_4_code 49 = .ok (.getfield 21, 3) := by decide +kernel
theorem d_Tk_takeWord_52 : decode prog_11_method_4_code 52 = .ok (.aload_n 0, 1) := by decide +kernel
theorem d_Tk_takeWord_53 : decode prog_11_method_4_code 53 = .ok (.getfield 28, 3) := by decide +kernel
theorem d_Tk_takeWord_56 : decode prog_11_method_4_code 56 = .ok (.iaload, 1) := by decide +kernel
theorem d_Tk_takeWord_57 : decode prog_11_method_4_code 57 = .ok (.ifCond .lt 8, 3) := by decide +kernel
theorem d_Tk_takeWord_65 : decode prog_11_method_4_code 65 = .ok (.aload_n 0, 1) := by decide +kernel
theorem d_Tk_takeWord_66 : decode prog_11_method_4_code 66 = .ok (.iload_n 1, 1) := by decide +kernel
theorem d_Tk_takeWord_67 : decode prog_11_method_4_code 67 = .ok (.iload_n 3, 1) := by decide +kernel
theorem d_Tk_takeWord_68 : decode prog_11_method_4_code 68 = .ok (.invokevirtual 49, 3) := by decide +kernel
theorem d_Tk_takeWord_71 : decode prog_11_method_4_code 71 = .ok (.iastore, 1) := by decide +kernel
theorem d_Tk_takeWord_72 : decode prog_11_method_4_code 72 = .ok (.iload_n 3, 1) := by decide +kernel
theorem d_Tk_takeWord_73 : decode prog_11_method_4_code 73 = .ok (.ireturn, 1) := by decide +kernel
theorem d_Tk_takeWord_60 : decode prog_11_method_4_code 60 = .ok (.bipush 19, 2) := by decide +kernel
theorem d_Tk_takeWord_62 : decode prog_11_method_4_code 62 = .ok (.goto 9, 3) := by decide +kernel
theorem d_Tk_takeWord_7 : decode prog_11_method_4_code 7 = .ok (.aload_n 0, 1) := by decide +kernel
theorem d_Tk_takeWord_8 : decode prog_11_method_4_code 8 = .ok (.getfield 24, 3) := by decide +kernel
theorem d_Tk_takeWord_11 : decode prog_11_method_4_code 11 = .ok (.iload_n 3, 1) := by decide +kernel
theorem d_Tk_takeWord_12 : decode prog_11_method_4_code 12 = .ok (.baload, 1) := by decide +kernel
theorem d_Tk_takeWord_13 : decode prog_11_method_4_code 13 = .ok (.invokestatic 36, 3) := by decide +kernel
theorem d_Tk_takeWord_16 : decode prog_11_method_4_code 16 = .ok (.ifCond .eq 9, 3) := by decide +kernel
theorem d_Tk_takeWord_19 : decode prog_11_method_4_code 19 = .ok (.iinc 3 1, 3) := by decide +kernel
theorem d_Tk_takeWord_22 : decode prog_11_method_4_code 22 = .ok (.goto (-20), 3) := by decide +kernel
set_option maxHeartbeats 4000000 in
theorem w_Tk_takeWord_0 {l : Launch} {G : gG} {d : Nat} {X : gX} {M : gM} {k : Int → gM → Prop} {c : Nat} (hX : glX X c) {x1 : Int} (hx1 : g32 x1) {x2 : Int} (hx2 : g32 x2)  (T : wp l G y_Tk_takeWord (gRm (d + 1)) true (kkI X k) true 2 [.val (gR G (c + 16)), .val (gI x1), .val (gI x2), .val (gI x1)] [] X M 0 0) : wp l G y_Tk_takeWord (gRm (d + 1)) true (kkI X k) false 0 [.val (gR G (c + 16)), .val (gI x1), .val (gI x2), .unset] [] X M 0 0 := by
  refine wp_iload_n d_Tk_takeWord_0 rfl rfl ?_
  refine wp_istore_n (L' := [.val (gR G (c + 16)), .val (gI x1), .val (gI x2), .val (gI x1)]) d_Tk_takeWord_1 rfl (by decide) rfl ?_
  exact wp_md (wpt T (And.intro rfl (And.intro rfl (And.intro rfl (And.intro rfl True.intro)))))
set_option maxHeartbeats 4000000 in
theorem w_Tk_takeWord_2 {l : Launch} {G : gG} {d : Nat} {X : gX} {M : gM} {k : Int → gM → Prop} {c : Nat} (hX : glX X c) {x1 : Int} (hx1 : g32 x1) {x2 : Int} (hx2 : g32 x2) {x3 : Int} (hx3 : g32 x3)  (T : (x2 ≤ x3 → (g32 (M (c + 16) 5) → (cI l G y_Tk_placeIn (gRm d) false [gR G (c + 16), gI x1, gI x3] X M (fun v3 M2 => (((0 : Int) ≤ M (c + 16) 5 ∧ M (c + 16) 5 < 104) ∧ (g32 ((gUp M2 (c + 20) (Int.toNat (M (c + 16) 5)) v3) (c + 16) 5) → (g32 ((gUp M2 (c + 20) (Int.toNat (M (c + 16) 5)) v3) (c + 16) 5) → (((0 : Int) ≤ (gUp M2 (c + 20) (Int.toNat (M (c + 16) 5)) v3) (c + 16) 5 ∧ (gUp M2 (c + 20) (Int.toNat (M (c + 16) 5)) v3) (c + 16) 5 < 104) ∧ (g32 ((gUp M2 (c + 20) (Int.toNat (M (c + 16) 5)) v3) (c + 20) (Int.toNat ((gUp M2 (c + 20) (Int.toNat (M (c + 16) 5)) v3) (c + 16) 5))) → (((gUp M2 (c + 20) (Int.toNat (M (c + 16) 5)) v3) (c + 20) (Int.toNat ((gUp M2 (c + 20) (Int.toNat (M (c + 16) 5)) v3) (c + 16) 5)) < 0 → (cI l G y_Tk_wordKind (gRm d) false [gR G (c + 16), gI x1, gI x3] X (gUp M2 (c + 20) (Int.toNat (M (c + 16) 5)) v3) (fun v9 M8 => (((0 : Int) ≤ (gUp M2 (c + 20) (Int.toNat (M (c + 16) 5)) v3) (c + 16) 5 ∧ (gUp M2 (c + 20) (Int.toNat (M (c + 16) 5)) v3) (c + 16) 5 < 104) ∧ (k x3 (gUp M8 (c + 17) (Int.toNat ((gUp M2 (c + 20) (Int.toNat (M (c + 16) 5)) v3) (c + 16) 5)) v9)))))) ∧ (¬ (gUp M2 (c + 20) (Int.toNat (M (c + 16) 5)) v3) (c + 20) (Int.toNat ((gUp M2 (c + 20) (Int.toNat (M (c + 16) 5)) v3) (c + 16) 5)) < 0 → (((0 : Int) ≤ (gUp M2 (c + 20) (Int.toNat (M (c + 16) 5)) v3) (c + 16) 5 ∧ (gUp M2 (c + 20) (Int.toNat (M (c + 16) 5)) v3) (c + 16) 5 < 104) ∧ (k x3 (gUp (gUp M2 (c + 20) (Int.toNat (M (c + 16) 5)) v3) (c + 17) (Int.toNat ((gUp M2 (c + 20) (Int.toNat (M (c + 16) 5)) v3) (c + 16) 5)) 19)))))))))))))) ∧ (¬ x2 ≤ x3 → (((0 : Int) ≤ x3 ∧ x3 < 240) ∧ ((-128 ≤ M (c + 1) (Int.toNat x3) ∧ M (c + 1) (Int.toNat x3) < 128) → (cZ l G y_Tk_isWordByte (gRm d) false [gI (M (c + 1) (Int.toNat x3))] X M (fun v14 M13 => ((v14 = 0 → (g32 (M13 (c + 16) 5) → (cI l G y_Tk_placeIn (gRm d) false [gR G (c + 16), gI x1, gI x3] X M13 (fun v18 M17 => (((0 : Int) ≤ M13 (c + 16) 5 ∧ M13 (c + 16) 5 < 104) ∧ (g32 ((gUp M17 (c + 20) (Int.toNat (M13 (c + 16) 5)) v18) (c + 16) 5) → (g32 ((gUp M17 (c + 20) (Int.toNat (M13 (c + 16) 5)) v18) (c + 16) 5) → (((0 : Int) ≤ (gUp M17 (c + 20) (Int.toNat (M13 (c + 16) 5)) v18) (c + 16) 5 ∧ (gUp M17 (c + 20) (Int.toNat (M13 (c + 16) 5)) v18) (c + 16) 5 < 104) ∧ (g32 ((gUp M17 (c + 20) (Int.toNat (M13 (c + 16) 5)) v18) (c + 20) (Int.toNat ((gUp M17 (c + 20) (Int.toNat (M13 (c + 16) 5)) v18) (c + 16) 5))) → (((gUp M17 (c + 20) (Int.toNat (M13 (c + 16) 5)) v18) (c + 20) (Int.toNat ((gUp M17 (c + 20) (Int.toNat (M13 (c + 16) 5)) v18) (c + 16) 5)) < 0 → (cI l G y_Tk_wordKind (gRm d) false [gR G (c + 16), gI x1, gI x3] X (gUp M17 (c + 20) (Int.toNat (M13 (c + 16) 5)) v18) (fun v24 M23 => (((0 : Int) ≤ (gUp M17 (c + 20) (Int.toNat (M13 (c + 16) 5)) v18) (c + 16) 5 ∧ (gUp M17 (c + 20) (Int.toNat (M13 (c + 16) 5)) v18) (c + 16) 5 < 104) ∧ (k x3 (gUp M23 (c + 17) (Int.toNat ((gUp M17 (c + 20) (Int.toNat (M13 (c + 16) 5)) v18) (c + 16) 5)) v24)))))) ∧ (¬ (gUp M17 (c + 20) (Int.toNat (M13 (c + 16) 5)) v18) (c + 20) (Int.toNat ((gUp M17 (c + 20) (Int.toNat (M13 (c + 16) 5)) v18) (c + 16) 5)) < 0 → (((0 : Int) ≤ (gUp M17 (c + 20) (Int.toNat (M13 (c + 16) 5)) v18) (c + 16) 5 ∧ (gUp M17 (c + 20) (Int.toNat (M13 (c + 16) 5)) v18) (c + 16) 5 < 104) ∧ (k x3 (gUp (gUp M17 (c + 20) (Int.toNat (M13 (c + 16) 5)) v18) (c + 17) (Int.toNat ((gUp M17 (c + 20) (Int.toNat (M13 (c + 16) 5)) v18) (c + 16) 5)) 19)))))))))))))) ∧ (¬ v14 = 0 → (wp l G y_Tk_takeWord (gRm (d + 1)) true (kkI X k) true 2 [.val (gR G (c + 16)), .val (gI x1), .val (gI x2), .val (gI (w32 (x3 + 1)))] [] X M13 0 0))))))))) : wp l G y_Tk_takeWord (gRm (d + 1)) true (kkI X k) true 2 [.val (gR G (c + 16)), .val (gI x1), .val (gI x2), .val (gI x3)] [] X M 0 0 := by
  refine wp_iload_n d_Tk_takeWord_2 rfl rfl ?_
  refine wp_iload_n d_Tk_takeWord_3 rfl rfl ?_
  refine xi_ge (tgt := 25) d_Tk_takeWord_4 (by decide) (w32_id hx3) (w32_id hx2) (fun h28 => ?_) (fun h28 => ?_)
  · have T := T.1 h28
    refine wp_aload_n d_Tk_takeWord_25 rfl rfl (g_nz (gl_1 hX 16)) ?_
    refine xgetR d_Tk_takeWord_26 gc_Tk f_Tk_21.1 f_Tk_21.2.1 f_Tk_21.2.2.1 (gl_1 hX 16) (gl_2 hX (a := 16) (by decide)) (gl_s hX 16 rfl) f_Tk_21.2.2.2.2.1 (gl_f hX 21 rfl) ?_
    refine wp_aload_n d_Tk_takeWord_29 rfl rfl (g_nz (gl_1 hX 16)) ?_
    refine xgetI d_Tk_takeWord_30 gc_Tk f_Tk_28.1 f_Tk_28.2.1 f_Tk_28.2.2.1 (gl_1 hX 16) (gl_2 hX (a := 16) (by decide)) (gl_s hX 16 rfl) f_Tk_28.2.2.2.2.1 (fun h1 => ?_)
    have T := T h1
    refine wp_aload_n d_Tk_takeWord_33 rfl rfl (g_nz (gl_1 hX 16)) ?_
    refine wp_iload_n d_Tk_takeWord_34 rfl rfl ?_
    refine wp_iload_n d_Tk_takeWord_35 rfl rfl ?_
    refine xcV_I (md' := true) (As := [gI x1, gI x3]) (st := [gI (M (c + 16) 5), gR G (c + 20)]) d_Tk_takeWord_36 ca_Tk_placeIn ml_Tk_46 im_Tk_placeIn se_Tk_placeIn gc_Tk (gl_1 hX 16) (gl_2 hX (a := 16) (by decide)) (gl_s hX 16 rfl) rfl (by decide) (by simp only [List.map, gR_cat, gI_cat, gL_cat, List.sum_cons, List.sum_nil]; decide) rfl (fun _ => rfl) (fun _ => rfl) T (fun v3 M2 h4 T => ?_)
    refine xiast d_Tk_takeWord_39 (gl_1 hX 20) (gl_2 hX (a := 20) (by decide)) (gl_s hX 20 rfl) (by decide) T.1 (w32_id h4) ?_
    have T := T.2
    refine wp_aload_n d_Tk_takeWord_40 rfl rfl (g_nz (gl_1 hX 16)) ?_
    refine xgetR d_Tk_takeWord_41 gc_Tk f_Tk_11.1 f_Tk_11.2.1 f_Tk_11.2.2.1 (gl_1 hX 16) (gl_2 hX (a := 16) (by decide)) (gl_s hX 16 rfl) f_Tk_11.2.2.2.2.1 (gl_f hX 18 rfl) ?_
    refine wp_aload_n d_Tk_takeWord_44 rfl rfl (g_nz (gl_1 hX 16)) ?_
    refine xgetI d_Tk_takeWord_45 gc_Tk f_Tk_28.1 f_Tk_28.2.1 f_Tk_28.2.2.1 (gl_1 hX 16) (gl_2 hX (a := 16) (by decide)) (gl_s hX 16 rfl) f_Tk_28.2.2.2.2.1 (fun h5 => ?_)
    have T := T h5
    refine wp_aload_n d_Tk_takeWord_48 rfl rfl (g_nz (gl_1 hX 16)) ?_
    refine xgetR d_Tk_takeWord_49 gc_Tk f_Tk_21.1 f_Tk_21.2.1 f_Tk_21.2.2.1 (gl_1 hX 16) (gl_2 hX (a := 16) (by decide)) (gl_s hX 16 rfl) f_Tk_21.2.2.2.2.1 (gl_f hX 21 rfl) ?_
    refine wp_aload_n d_Tk_takeWord_52 rfl rfl (g_nz (gl_1 hX 16)) ?_
    refine xgetI d_Tk_takeWord_53 gc_Tk f_Tk_28.1 f_Tk_28.2.1 f_Tk_28.2.2.1 (gl_1 hX 16) (gl_2 hX (a := 16) (by decide)) (gl_s hX 16 rfl) f_Tk_28.2.2.2.2.1 (fun h6 => ?_)
    have T := T h6
    refine wp_iaload d_Tk_takeWord_56 (gl_1 hX 20) (gl_2 hX (a := 20) (by decide)) (gl_s hX 20 rfl) (g32_n T.1 (by decide)) T.1.1 T.1.2 (fun h7 => ?_)
    have T := T.2 h7
    refine xz_lt (tgt := 65) d_Tk_takeWord_57 (by decide) (w32_id h7) (fun h11 => ?_) (fun h11 => ?_)
    · have T := T.1 h11
      refine wp_aload_n d_Tk_takeWord_65 rfl rfl (g_nz (gl_1 hX 16)) ?_
      refine wp_iload_n d_Tk_takeWord_66 rfl rfl ?_
      refine wp_iload_n d_Tk_takeWord_67 rfl rfl ?_
      refine xcV_I (md' := true) (As := [gI x1, gI x3]) (st := [gI ((gUp M2 (c + 20) (Int.toNat (M (c + 16) 5)) v3) (c + 16) 5), gR G (c + 17)]) d_Tk_takeWord_68 ca_Tk_wordKind ml_Tk_49 im_Tk_wordKind se_Tk_wordKind gc_Tk (gl_1 hX 16) (gl_2 hX (a := 16) (by decide)) (gl_s hX 16 rfl) rfl (by decide) (by simp only [List.map, gR_cat, gI_cat, gL_cat, List.sum_cons, List.sum_nil]; decide) rfl (fun _ => rfl) (fun _ => rfl) T (fun v9 M8 h10 T => ?_)
      refine xiast d_Tk_takeWord_71 (gl_1 hX 17) (gl_2 hX (a := 17) (by decide)) (gl_s hX 17 rfl) (by decide) T.1 (w32_id h10) ?_
      have T := T.2
      refine wp_iload_n d_Tk_takeWord_72 rfl rfl ?_
      exact wp_ireturn d_Tk_takeWord_73 rfl (fun _ => rfl) (Nat.zero_le _) (Nat.zero_le _) (kI_mk hx3 T)
    · have T := T.2 h11
      refine wp_bipush d_Tk_takeWord_60 ⟨by decide, by decide⟩ ?_
      refine wp_goto (tgt := 71) d_Tk_takeWord_62 (by decide) ?_
      refine xiast d_Tk_takeWord_71 (gl_1 hX 17) (gl_2 hX (a := 17) (by decide)) (gl_s hX 17 rfl) (by decide) T.1 (w32_id (g32_c (x := 19) rfl)) ?_
      have T := T.2
      refine wp_iload_n d_Tk_takeWord_72 rfl rfl ?_
      exact wp_ireturn d_Tk_takeWord_73 rfl (fun _ => rfl) (Nat.zero_le _) (Nat.zero_le _) (kI_mk hx3 T)
  · have T := T.2 h28
    refine wp_aload_n d_Tk_takeWord_7 rfl rfl (g_nz (gl_1 hX 16)) ?_
    refine xgetR d_Tk_takeWord_8 gc_Tk f_Tk_24.1 f_Tk_24.2.1 f_Tk_24.2.2.1 (gl_1 hX 16) (gl_2 hX (a := 16) (by decide)) (gl_s hX 16 rfl) f_Tk_24.2.2.2.2.1 (gl_f hX 22 rfl) ?_
    refine wp_iload_n d_Tk_takeWord_11 rfl rfl ?_
    refine wp_baload d_Tk_takeWord_12 (gl_1 hX 1) (gl_2 hX (a := 1) (by decide)) (gl_s hX 1 rfl) (g32_n T.1 (by decide)) T.1.1 T.1.2 (fun h12 => ?_)
    have T := T.2 h12
    refine xcS_Z (md' := true) (As := [gI (M (c + 1) (Int.toNat x3))]) (st := []) d_Tk_takeWord_13 ca_Tk_isWordByte ml_Tk_36 sm_Tk_isWordByte rfl (by decide) (by decide) rfl (fun _ => rfl) (fun _ => rfl) T (fun v14 M13 h15 T => ?_)
    refine xz_eq (tgt := 25) d_Tk_takeWord_16 (by decide) (w32_id (g32_z h15)) (fun h27 => ?_) (fun h27 => ?_)
    · have T := T.1 h27
      refine wp_aload_n d_Tk_takeWord_25 rfl rfl (g_nz (gl_1 hX 16)) ?_
      refine xgetR d_Tk_takeWord_26 gc_Tk f_Tk_21.1 f_Tk_21.2.1 f_Tk_21.2.2.1 (gl_1 hX 16) (gl_2 hX (a := 16) (by decide)) (gl_s hX 16 rfl) f_Tk_21.2.2.2.2.1 (gl_f hX 21 rfl) ?_
      refine wp_aload_n d_Tk_takeWord_29 rfl rfl (g_nz (gl_1 hX 16)) ?_
      refine xgetI d_Tk_takeWord_30 gc_Tk f_Tk_28.1 f_Tk_28.2.1 f_Tk_28.2.2.1 (gl_1 hX 16) (gl_2 hX (a := 16) (by decide)) (gl_s hX 16 rfl) f_Tk_28.2.2.2.2.1 (fun h16 => ?_)
      have T := T h16
      refine wp_aload_n d_Tk_takeWord_33 rfl rfl (g_nz (gl_1 hX 16)) ?_
      refine wp_iload_n d_Tk_takeWord_34 rfl rfl ?_
      refine wp_iload_n d_Tk_takeWord_35 rfl rfl ?_
      refine xcV_I (md' := true) (As := [gI x1, gI x3]) (st := [gI (M13 (c + 16) 5), gR G (c + 20)]) d_Tk_takeWord_36 ca_Tk_placeIn ml_Tk_46 im_Tk_placeIn se_Tk_placeIn gc_Tk (gl_1 hX 16) (gl_2 hX (a := 16) (by decide)) (gl_s hX 16 rfl) rfl (by decide) (by simp only [List.map, gR_cat, gI_cat, gL_cat, List.sum_cons, List.sum_nil]; decide) rfl (fun _ => rfl) (fun _ => rfl) T (fun v18 M17 h19 T => ?_)
      refine xiast d_Tk_takeWord_39 (gl_1 hX 20) (gl_2 hX (a := 20) (by decide)) (gl_s hX 20 rfl) (by decide) T.1 (w32_id h19) ?_
      have T := T.2
      refine wp_aload_n d_Tk_takeWord_40 rfl rfl (g_nz (gl_1 hX 16)) ?_
      refine xgetR d_Tk_takeWord_41 gc_Tk f_Tk_11.1 f_Tk_11.2.1 f_Tk_11.2.2.1 (gl_1 hX 16) (gl_2 hX (a := 16) (by decide)) (gl_s hX 16 rfl) f_Tk_11.2.2.2.2.1 (gl_f hX 18 rfl) ?_
      refine wp_aload_n d_Tk_takeWord_44 rfl rfl (g_nz (gl_1 hX 16)) ?_
      refine xgetI d_Tk_takeWord_45 gc_Tk f_Tk_28.1 f_Tk_28.2.1 f_Tk_28.2.2.1 (gl_1 hX 16) (gl_2 hX (a := 16) (by decide)) (gl_s hX 16 rfl) f_Tk_28.2.2.2.2.1 (fun h20 => ?_)
      have T := T h20
      refine wp_aload_n d_Tk_takeWord_48 rfl rfl (g_nz (gl_1 hX 16)) ?_
      refine xgetR d_Tk_takeWord_49 gc_Tk f_Tk_21.1 f_Tk_21.2.1 f_Tk_21.2.2.1 (gl_1 hX 16) (gl_2 hX (a := 16) (by decide)) (gl_s hX 16 rfl) f_Tk_21.2.2.2.2.1 (gl_f hX 21 rfl) ?_
      refine wp_aload_n d_Tk_takeWord_52 rfl rfl (g_nz (gl_1 hX 16)) ?_
      refine xgetI d_Tk_takeWord_53 gc_Tk f_Tk_28.1 f_Tk_28.2.1 f_Tk_28.2.2.1 (gl_1 hX 16) (gl_2 hX (a := 16) (by decide)) (gl_s hX 16 rfl) f_Tk_28.2.2.2.2.1 (fun h21 => ?_)
      have T := T h21
      refine wp_iaload d_Tk_takeWord_56 (gl_1 hX 20) (gl_2 hX (a := 20) (by decide)) (gl_s hX 20 rfl) (g32_n T.1 (by decide)) T.1.1 T.1.2 (fun h22 => ?_)
      have T := T.2 h22
      refine xz_lt (tgt := 65) d_Tk_takeWord_57 (by decide) (w32_id h22) (fun h26 => ?_) (fun h26 => ?_)
      · have T := T.1 h26
        refine wp_aload_n d_Tk_takeWord_65 rfl rfl (g_nz (gl_1 hX 16)) ?_
        refine wp_iload_n d_Tk_takeWord_66 rfl rfl ?_
        refine wp_iload_n d_Tk_takeWord_67 rfl rfl ?_
        refine xcV_I (md' := true) (As := [gI x1, gI x3]) (st := [gI ((gUp M17 (c + 20) (Int.toNat (M13 (c + 16) 5)) v18) (c + 16) 5), gR G (c + 17)]) d_Tk_takeWord_68 ca_Tk_wordKind ml_Tk_49 im_Tk_wordKind se_Tk_wordKind gc_Tk (gl_1 hX 16) (gl_2 hX (a := 16) (by decide)) (gl_s hX 16 rfl) rfl (by decide) (by simp only [List.map, gR_cat, gI_cat, gL_cat, List.sum_cons, List.sum_nil]; decide) rfl (fun _ => rfl) (fun _ => rfl) T (fun v24 M23 h25 T => ?_)
        refine xiast d_Tk_takeWord_71 (gl_1 hX 17) (gl_2 hX (a := 17) (by decide)) (gl_s hX 17 rfl) (by decide) T.1 (w32_id h25) ?_
        have T := T.2
        refine wp_iload_n d_Tk_takeWord_72 rfl rfl ?_
        exact wp_ireturn d_Tk_takeWord_73 rfl (fun _ => rfl) (Nat.zero_le _) (Nat.zero_le _) (kI_mk hx3 T)
      · have T := T.2 h26
        refine wp_bipush d_Tk_takeWord_60 ⟨by decide, by decide⟩ ?_
        refine wp_goto (tgt := 71) d_Tk_takeWord_62 (by decide) ?_
        refine xiast d_Tk_takeWord_71 (gl_1 hX 17) (gl_2 hX (a := 17) (by decide)) (gl_s hX 17 rfl) (by decide) T.1 (w32_id (g32_c (x := 19) rfl)) ?_
        have T := T.2
        refine wp_iload_n d_Tk_takeWord_72 rfl rfl ?_
        exact wp_ireturn d_Tk_takeWord_73 rfl (fun _ => rfl) (Nat.zero_le _) (Nat.zero_le _) (kI_mk hx3 T)
    · have T := T.2 h27
      refine wp_iinc (L' := [.val (gR G (c + 16)), .val (gI x1), .val (gI x2), .val (gI (x3 + 1))]) d_Tk_takeWord_19 rfl (by decide) rfl ?_
      refine wp_goto (tgt := 2) d_Tk_takeWord_22 (by decide) ?_
      exact wp_md (wpt T (And.intro rfl (And.intro rfl (And.intro rfl (And.intro (gI_w _) True.intro)))))
theorem e_Tk_takeWord {l : Launch} {G : gG} {d : Nat} {X : gX} {M : gM} {k : Int → gM → Prop} {c : Nat} {x1 : Int} {x2 : Int} (T : wp l G y_Tk_takeWord (gRm (d + 1)) true (kkI X k) false 0 [.val (gR G (c + 16)), .val (gI x1), .val (gI x2), .unset] [] X M 0 0) : cI l G y_Tk_takeWord (gRm (d + 1)) true [gR G (c + 16), gI x1, gI x2] X M k := cen_I (plainFor_of_name rfl) (by simp only [lg_sl_R, lg_sl_I, lg_sl_L, lg_sl_N, List.length_cons, List.length_nil]; decide) (by unfold gEn; simp only [lg_sl_R, lg_sl_I, lg_sl_L, lg_sl_N]; exact wpt T (And.intro rfl (And.intro rfl (And.intro rfl True.intro))))
theorem d_Tk_takeSign_0 : decode prog_11_method_6_code 0 = .ok (.aload_n 0, 1) := by decide +kernel
theorem d_Tk_takeSign_1 : decode prog_11_method_6_code 1 = .ok (.getfield 24, 3) := by decide +kernel
theorem d_Tk_takeSign_4 : decode prog_11_method_6_code 4 = .ok (.iload_n 1, 1) := by decide +kernel
theorem d_Tk_takeSign_5 : decode prog_11_method_6_code 5 = .ok (.baload, 1) := by decide +kernel
theorem d_Tk_takeSign_6 : decode prog_11_method_6_code 6 = .ok (.invokestatic 70, 3) := by decide +kernel
theorem d_Tk_takeSign_9 : decode prog_11_method_6_code 9 = .ok (.istore_n 3, 1) := by decide +kernel
theorem d_Tk_takeSign_10 : decode prog_11_method_6_code 10 = .ok (.iload_n 1, 1) := by decide +kernel
theorem d_Tk_takeSign_11 : decode prog_11_method_6_code 11 = .ok (.iconst 1, 1) := by decide +kernel
theorem d_Tk_takeSign_12 : decode prog_11_method_6_code 12 = .ok (.iadd, 1) := by decide +kernel
theorem d_Tk_takeSign_13 : decode prog_11_method_6_code 13 = .ok (.iload_n 2, 1) := by decide +kernel
theorem d_Tk_takeSign_14 : decode prog_11_method_6_code 14 = .ok (.if_icmp .ge 14, 3) := by decide +kernel
theorem d_Tk_takeSign_28 : decode prog_11_method_6_code 28 = .ok (.iconst 0, 1) := by decide +kernel
theorem d_Tk_takeSign_29 : decode prog_11_method_6_code 29 = .ok (.istore 4, 2) := by decide +kernel
theorem d_Tk_takeSign_31 : decode prog_11_method_6_code 31 = .ok (.iload_n 3, 1) := by decide +kernel
theorem d_Tk_takeSign_32 : decode prog_11_method_6_code 32 = .ok (.istore 5, 2) := by decide +kernel
theorem d_Tk_takeSign_34 : decode prog_11_method_6_code 34 = .ok (.iload_n 3, 1) := by decide +kernel
theorem d_Tk_takeSign_35 : decode prog_11_method_6_code 35 = .ok (.iconst 2, 1) := by decide +kernel
theorem d_Tk_takeSign_36 : decode prog_11_method_6_code 36 = .ok (.if_icmp .ne 16, 3) := by decide +kernel
theorem d_Tk_takeSign_39 : decode prog_11_method_6_code 39 = .ok (.iload 4, 2) := by decide +kernel
theorem d_Tk_takeSign_41 : decode prog_11_method_6_code 41 = .ok (.bipush 62, 2) := by decide +kernel
theorem d_Tk_takeSign_43 : decode prog_11_method_6_code 43 = .ok (.if_icmp .ne 9, 3) := by decide +kernel
theorem d_Tk_takeSign_46 : decode prog_11_method_6_code 46 = .ok (.iconst 1, 1) := by decide +kernel
theorem d_Tk_takeSign_47 : decode prog_11_method_6_code 47 = .ok (.istore 5, 2) := by decide +kernel
theorem d_Tk_takeSign_49 : decode prog_11_method_6_code 49 = .ok (.goto 36, 3) := by decide +kernel
theorem d_Tk_takeSign_17 : decode prog_11_method_6_code 17 = .ok (.aload_n 0, 1) := by decide +kernel
theorem d_Tk_takeSign_18 : decode prog_11_method_6_code 18 = .ok (.getfield 24, 3) := by decide +kernel
theorem d_Tk_takeSign_21 : decode prog_11_method_6_code 21 = .ok (.iload_n 1, 1) := by decide +kernel
theorem d_Tk_takeSign_22 : decode prog_11_method_6_code 22 = .ok (.iconst 1, 1) := by decide +kernel
theorem d_Tk_takeSign_23 : decode prog_11_method_6_code 23 = .ok (.iadd, 1) := by decide +kernel
theorem d_Tk_takeSign_24 : decode prog_11_method_6_code 24 = .ok (.baload, 1) := by decide +kernel
theorem d_Tk_takeSign_25 : decode prog_11_method_6_code 25 = .ok (.goto 4, 3) := by decide +kernel
theorem d_Tk_takeSign_52 : decode prog_11_method_6_code 52 = .ok (.iload_n 3, 1) := by decide +kernel
theorem d_Tk_takeSign_53 : decode prog_11_method_6_code 53 = .ok (.iconst 2, 1) := by decide +kernel
theorem d_Tk_takeSign_54 : decode prog_11_method_6_code 54 = .ok (.if_icmp .ne 16, 3) := by decide +kernel
theorem d_Tk_takeSign_70 : decode prog_11_method_6_code 70 = .ok (.iload_n 3, 1) := by decide +kernel
theorem d_Tk_takeSign_71 : decode prog_11_method_6_code 71 = .ok (.iconst 4, 1) := by decide +kernel
theorem d_Tk_takeSign_72 : decode prog_11_method_6_code 72 = .ok (.if_icmp .ne 13, 3) := by decide +kernel
theorem d_Tk_takeSign_75 : decode prog_11_method_6_code 75 = .ok (.iload 4, 2) := by decide +kernel
theorem d_Tk_takeSign_77 : decode prog_11_method_6_code 77 = .ok (.bipush 61, 2) := by decide +kernel
theorem d_Tk_takeSign_79 : decode prog_11_method_6_code 79 = .ok (.if_icmp .ne 6, 3) := by decide +kernel
theorem d_Tk_takeSign_82 : decode prog_11_method_6_code 82 = .ok (.iconst 5, 1) := by decide +kernel
theorem d_Tk_takeSign_83 : decode prog_11_method_6_code 83 = .ok (.istore 5, 2) := by decide +kernel
theorem d_Tk_takeSign_57 : decode prog_11_method_6_code 57 = .ok (.iload 4, 2) := by decide +kernel
theorem d_Tk_takeSign_59 : decode prog_11_method_6_code 59 = .ok (.bipush 61, 2) := by decide +kernel
theorem d_Tk_takeSign_61 : decode prog_11_method_6_code 61 = .ok (.if_icmp .ne 9, 3) := by decide +kernel
theorem d_Tk_takeSign_64 : decode prog_11_method_6_code 64 = .ok (.iconst 3, 1) := by decide +kernel
theorem d_Tk_takeSign_65 : decode prog_11_method_6_code 65 = .ok (.istore 5, 2) := by decide +kernel
theorem d_Tk_takeSign_67 : decode prog_11_method_6_code 67 = .ok (.goto 18, 3) := by decide +kernel
theorem d_Tk_takeSign_85 : decode prog_11_method_6_code 85 = .ok (.aload_n 0, 1) := by decide +kernel
theorem d_Tk_takeSign_86 : decode prog_11_method_6_code 86 = .ok (.getfield 11, 3) := by decide +kernel
theorem d_Tk_takeSign_89 : decode prog_11_method_6_code 89 = .ok (.aload_n 0, 1) := by decide +kernel
theorem d_Tk_takeSign_90 : decode prog_11_method_6_code 90 = .ok (.getfield 28, 3) := by decide +kernel
theorem d_Tk_takeSign_93 : decode prog_11_method_6_code 93 = .ok (.iload 5, 2) := by decide +kernel
theorem d_Tk_takeSign_95 : decode prog_11_method_6_code 95 = .ok (.iastore, 1) := by decide +kernel
theorem d_Tk_takeSign_96 : decode prog_11_method_6_code 96 = .ok (.iload 5, 2) := by decide +kernel
theorem d_Tk_takeSign_98 : decode prog_11_method_6_code 98 = .ok (.iload_n 3, 1) := by decide +kernel
theorem d_Tk_takeSign_99 : decode prog_11_method_6_code 99 = .ok (.if_icmp .ne 9, 3) := by decide +kernel
theorem d_Tk_takeSign_108 : decode prog_11_method_6_code 108 = .ok (.iload_n 1, 1) := by decide +kernel
theorem d_Tk_takeSign_109 : decode prog_11_method_6_code 109 = .ok (.iconst 2, 1) := by decide +kernel
theorem d_Tk_takeSign_110 : decode prog_11_method_6_code 110 = .ok (.iadd, 1) := by decide +kernel
theorem d_Tk_takeSign_111 : decode prog_11_method_6_code 111 = .ok (.ireturn, 1) := by decide +kernel
theorem d_Tk_takeSign_102 : decode prog_11_method_6_code 102 = .ok (.iload_n 1, 1) := by decide +kernel
theorem d_Tk_takeSign_103 : decode prog_11_method_6_code 103 = .ok (.iconst 1, 1) := by decide +kernel
theorem d_Tk_takeSign_104 : decode prog_11_method_6_code 104 = .ok (.iadd, 1) := by decide +kernel
theorem d_Tk_takeSign_105 : decode prog_11_method_6_code 105 = .ok (.goto 6, 3) := by decide +kernel
set_option maxHeartbeats 4000000 in
theorem w_Tk_takeSign_0 {l : Launch} {G : gG} {d : Nat} {X : gX} {M : gM} {k : Int → gM → Prop} {c : Nat} (hX : glX X c) {x1 : Int} (hx1 : g32 x1) {x2 : Int} (hx2 : g32 x2)  (T : ((0 : Int) ≤ x1 ∧ x1 < 240) ∧ ((-128 ≤ M (c + 1) (Int.toNat x1) ∧ M (c + 1) (Int.toNat x1) < 128) → (cI l G y_Tk_signOf (gRm d) false [gI (M (c + 1) (Int.toNat x1))] X M (fun v3 M2 => ((x2 ≤ (w32 (x1 + 1)) → ((¬ v3 = 2 → (wp l G y_Tk_takeSign (gRm (d + 1)) true (kkI X k) true 52 [.val (gR G (c + 16)), .val (gI x1), .unset, .val (gI v3), .val (gI 0), .val (gI v3)] [] X M2 0 0)) ∧ (v3 = 2 → ((¬ (0 : Int) = 62 → (wp l G y_Tk_takeSign (gRm (d + 1)) true (kkI X k) true 52 [.val (gR G (c + 16)), .val (gI x1), .unset, .val (gI v3), .val (gI 0), .val (gI v3)] [] X M2 0 0)) ∧ ((0 : Int) = 62 → (wp l G y_Tk_takeSign (gRm (d + 1)) true (kkI X k) true 85 [.val (gR G (c + 16)), .val (gI x1), .unset, .val (gI v3), .unset, .val (gI 1)] [] X M2 0 0)))))) ∧ (¬ x2 ≤ (w32 (x1 + 1)) → (((0 : Int) ≤ x1 + 1 ∧ x1 + 1 < 240) ∧ ((-128 ≤ M2 (c + 1) (Int.toNat (x1 + 1)) ∧ M2 (c + 1) (Int.toNat (x1 + 1)) < 128) → ((¬ v3 = 2 → (wp l G y_Tk_takeSign (gRm (d + 1)) true (kkI X k) true 52 [.val (gR G (c + 16)), .val (gI x1), .unset, .val (gI v3), .val (gI (M2 (c + 1) (Int.toNat (x1 + 1)))), .val (gI v3)] [] X M2 0 0)) ∧ (v3 = 2 → ((¬ M2 (c + 1) (Int.toNat (x1 + 1)) = 62 → (wp l G y_Tk_takeSign (gRm (d + 1)) true (kkI X k) true 52 [.val (gR G (c + 16)), .val (gI x1), .unset, .val (gI v3), .val (gI (M2 (c + 1) (Int.toNat (x1 + 1)))), .val (gI v3)] [] X M2 0 0)) ∧ (M2 (c + 1) (Int.toNat (x1 + 1)) = 62 → (wp l G y_Tk_takeSign (gRm (d + 1)) true (kkI X k) true 85 [.val (gR G (c + 16)), .val (gI x1), .unset, .val (gI v3), .unset, .val (gI 1)] [] X M2 0 0))))))))))))) : wp l G y_Tk_takeSign (gRm (d + 1)) true (kkI X k) false 0 [.val (gR G (c + 16)), .val (gI x1), .val (gI x2), .unset, .unset, .unset] [] X M 0 0 := by
  refine wp_aload_n d_Tk_takeSign_0 rfl rfl (g_nz (gl_1 hX 16)) ?_
  refine xgetR d_Tk_takeSign_1 gc_Tk f_Tk_24.1 f_Tk_24.2.1 f_Tk_24.2.2.1 (gl_1 hX 16) (gl_2 hX (a := 16) (by decide)) (gl_s hX 16 rfl) f_Tk_24.2.2.2.2.1 (gl_f hX 22 rfl) ?_
  refine wp_iload_n d_Tk_takeSign_4 rfl rfl ?_
  refine wp_baload d_Tk_takeSign_5 (gl_1 hX 1) (gl_2 hX (a := 1) (by decide)) (gl_s hX 1 rfl) (g32_n T.1 (by decide)) T.1.1 T.1.2 (fun h1 => ?_)
  have T := T.2 h1
  refine xcS_I (md' := false) (As := [gI (M (c + 1) (Int.toNat x1))]) (st := []) d_Tk_takeSign_6 ca_Tk_signOf ml_Tk_70 sm_Tk_signOf rfl (by decide) (by decide) rfl id id T (fun v3 M2 h4 T => ?_)
  refine wp_istore_n (L' := [.val (gR G (c + 16)), .val (gI x1), .val (gI x2), .val (gI v3), .unset, .unset]) d_Tk_takeSign_9 rfl (by decide) rfl ?_
  refine wp_iload_n d_Tk_takeSign_10 rfl rfl ?_
  refine wp_iconst d_Tk_takeSign_11 ?_
  refine wp_iadd d_Tk_takeSign_12 ?_
  refine wp_iload_n d_Tk_takeSign_13 rfl rfl ?_
  refine xi_ge (tgt := 28) d_Tk_takeSign_14 (by decide) rfl (w32_id hx2) (fun h10 => ?_) (fun h10 => ?_)
  · have T := T.1 h10
    refine wp_iconst d_Tk_takeSign_28 ?_
    refine wp_istore (L' := [.val (gR G (c + 16)), .val (gI x1), .val (gI x2), .val (gI v3), .val (gI 0), .unset]) d_Tk_takeSign_29 (by decide) rfl ?_
    refine wp_iload_n d_Tk_takeSign_31 rfl rfl ?_
    refine wp_istore (L' := [.val (gR G (c + 16)), .val (gI x1), .val (gI x2), .val (gI v3), .val (gI 0), .val (gI v3)]) d_Tk_takeSign_32 (by decide) rfl ?_
    refine wp_iload_n d_Tk_takeSign_34 rfl rfl ?_
    refine wp_iconst d_Tk_takeSign_35 ?_
    refine xi_ne (tgt := 52) d_Tk_takeSign_36 (by decide) (w32_id h4) (w32_id (g32_c (x := 2) rfl)) (fun h6 => ?_) (fun h6 => ?_)
    · have T := T.1 h6
      exact wp_md (wpt T (And.intro rfl (And.intro rfl (And.intro rfl (And.intro rfl (And.intro rfl True.intro))))))
    · have T := T.2 h6
      refine wp_iload d_Tk_takeSign_39 rfl ?_
      refine wp_bipush d_Tk_takeSign_41 ⟨by decide, by decide⟩ ?_
      refine xi_ne (tgt := 52) d_Tk_takeSign_43 (by decide) (w32_id (g32_c (x := 0) rfl)) (w32_id (g32_c (x := 62) rfl)) (fun h5 => ?_) (fun h5 => ?_)
      · have T := T.1 h5
        exact wp_md (wpt T (And.intro rfl (And.intro rfl (And.intro rfl (And.intro rfl (And.intro rfl True.intro))))))
      · have T := T.2 h5
        refine wp_iconst d_Tk_takeSign_46 ?_
        refine wp_istore (L' := [.val (gR G (c + 16)), .val (gI x1), .val (gI x2), .val (gI v3), .val (gI 0), .val (gI 1)]) d_Tk_takeSign_47 (by decide) rfl ?_
        refine wp_goto (tgt := 85) d_Tk_takeSign_49 (by decide) ?_
        exact wp_md (wpt T (And.intro rfl (And.intro rfl (And.intro rfl (And.intro rfl True.intro)))))
  · have T := T.2 h10
    refine wp_aload_n d_Tk_takeSign_17 rfl rfl (g_nz (gl_1 hX 16)) ?_
    refine xgetR d_Tk_takeSign_18 gc_Tk f_Tk_24.1 f_Tk_24.2.1 f_Tk_24.2.2.1 (gl_1 hX 16) (gl_2 hX (a := 16) (by decide)) (gl_s hX 16 rfl) f_Tk_24.2.2.2.2.1 (gl_f hX 22 rfl) ?_
    refine wp_iload_n d_Tk_takeSign_21 rfl rfl ?_
    refine wp_iconst d_Tk_takeSign_22 ?_
    refine wp_iadd d_Tk_takeSign_23 ?_
    refine wp_baload d_Tk_takeSign_24 (gl_1 hX 1) (gl_2 hX (a := 1) (by decide)) (gl_s hX 1 rfl) (g32_n T.1 (by decide)) T.1.1 T.1.2 (fun h7 => ?_)
    have T := T.2 h7
    refine wp_goto (tgt := 29) d_Tk_takeSign_25 (by decide) ?_
    refine wp_istore (L' := [.val (gR G (c + 16)), .val (gI x1), .val (gI x2), .val (gI v3), .val (gI (M2 (c + 1) (Int.toNat (x1 + 1)))), .unset]) d_Tk_takeSign_29 (by decide) rfl ?_
    refine wp_iload_n d_Tk_takeSign_31 rfl rfl ?_
    refine wp_istore (L' := [.val (gR G (c + 16)), .val (gI x1), .val (gI x2), .val (gI v3), .val (gI (M2 (c + 1) (Int.toNat (x1 + 1)))), .val (gI v3)]) d_Tk_takeSign_32 (by decide) rfl ?_
    refine wp_iload_n d_Tk_takeSign_34 rfl rfl ?_
    refine wp_iconst d_Tk_takeSign_35 ?_
    refine xi_ne (tgt := 52) d_Tk_takeSign_36 (by decide) (w32_id h4) (w32_id (g32_c (x := 2) rfl)) (fun h9 => ?_) (fun h9 => ?_)
    · have T := T.1 h9
      exact wp_md (wpt T (And.intro rfl (And.intro rfl (And.intro rfl (And.intro rfl (And.intro rfl True.intro))))))
    · have T := T.2 h9
      refine wp_iload d_Tk_takeSign_39 rfl ?_
      refine wp_bipush d_Tk_takeSign_41 ⟨by decide, by decide⟩ ?_
      refine xi_ne (tgt := 52) d_Tk_takeSign_43 (by decide) (w32_id (g32_b h7)) (w32_id (g32_c (x := 62) rfl)) (fun h8 => ?_) (fun h8 => ?_)
      · have T := T.1 h8
        exact wp_md (wpt T (And.intro rfl (And.intro rfl (And.intro rfl (And.intro rfl (And.intro rfl True.intro))))))
      · have T := T.2 h8
        refine wp_iconst d_Tk_takeSign_46 ?_
        refine wp_istore (L' := [.val (gR G (c + 16)), .val (gI x1), .val (gI x2), .val (gI v3), .val (gI (M2 (c + 1) (Int.toNat (x1 + 1)))), .val (gI 1)]) d_Tk_takeSign_47 (by decide) rfl ?_
        refine wp_goto (tgt := 85) d_Tk_takeSign_49 (by decide) ?_
        exact wp_md (wpt T (And.intro rfl (And.intro rfl (And.intro rfl (And.intro rfl True.intro)))))
set_option maxHeartbeats 4000000 in
theorem w_Tk_takeSign_52 {l : Launch} {G : gG} {d : Nat} {X : gX} {M : gM} {k : Int → gM → Prop} {c : Nat} (hX : glX X c) {x1 : Int} (hx1 : g32 x1) {x3 : Int} (hx3 : g32 x3) {x4 : Int} (hx4 : g32 x4) {x5 : Int} (hx5 : g32 x5)  (T : (¬ x3 = 2 → ((¬ x3 = 4 → (wp l G y_Tk_takeSign (gRm (d + 1)) true (kkI X k) true 85 [.val (gR G (c + 16)), .val (gI x1), .unset, .val (gI x3), .unset, .val (gI x5)] [] X M 0 0)) ∧ (x3 = 4 → ((¬ x4 = 61 → (wp l G y_Tk_takeSign (gRm (d + 1)) true (kkI X k) true 85 [.val (gR G (c + 16)), .val (gI x1), .unset, .val (gI x3), .unset, .val (gI x5)] [] X M 0 0)) ∧ (x4 = 61 → (wp l G y_Tk_takeSign (gRm (d + 1)) true (kkI X k) true 85 [.val (gR G (c + 16)), .val (gI x1), .unset, .val (gI x3), .unset, .val (gI 5)] [] X M 0 0)))))) ∧ (x3 = 2 → ((¬ x4 = 61 → ((¬ x3 = 4 → (wp l G y_Tk_takeSign (gRm (d + 1)) true (kkI X k) true 85 [.val (gR G (c + 16)), .val (gI x1), .unset, .val (gI x3), .unset, .val (gI x5)] [] X M 0 0)) ∧ (x3 = 4 → ((¬ x4 = 61 → (wp l G y_Tk_takeSign (gRm (d + 1)) true (kkI X k) true 85 [.val (gR G (c + 16)), .val (gI x1), .unset, .val (gI x3), .unset, .val (gI x5)] [] X M 0 0)) ∧ (x4 = 61 → (wp l G y_Tk_takeSign (gRm (d + 1)) true (kkI X k) true 85 [.val (gR G (c + 16)), .val (gI x1), .unset, .val (gI x3), .unset, .val (gI 5)] [] X M 0 0)))))) ∧ (x4 = 61 → (wp l G y_Tk_takeSign (gRm (d + 1)) true (kkI X k) true 85 [.val (gR G (c + 16)), .val (gI x1), .unset, .val (gI x3), .unset, .val (gI 3)] [] X M 0 0))))) : wp l G y_Tk_takeSign (gRm (d + 1)) true (kkI X k) true 52 [.val (gR G (c + 16)), .val (gI x1), .unset, .val (gI x3), .val (gI x4), .val (gI x5)] [] X M 0 0 := by
  refine wp_iload_n d_Tk_takeSign_52 rfl rfl ?_
  refine wp_iconst d_Tk_takeSign_53 ?_
  refine xi_ne (tgt := 70) d_Tk_takeSign_54 (by decide) (w32_id hx3) (w32_id (g32_c (x := 2) rfl)) (fun h16 => ?_) (fun h16 => ?_)
  · have T := T.1 h16
    refine wp_iload_n d_Tk_takeSign_70 rfl rfl ?_
    refine wp_iconst d_Tk_takeSign_71 ?_
    refine xi_ne (tgt := 85) d_Tk_takeSign_72 (by decide) (w32_id hx3) (w32_id (g32_c (x := 4) rfl)) (fun h12 => ?_) (fun h12 => ?_)
    · have T := T.1 h12
      exact wp_md (wpt T (And.intro rfl (And.intro rfl (And.intro rfl (And.intro rfl True.intro)))))
    · have T := T.2 h12
      refine wp_iload d_Tk_takeSign_75 rfl ?_
      refine wp_bipush d_Tk_takeSign_77 ⟨by decide, by decide⟩ ?_
      refine xi_ne (tgt := 85) d_Tk_takeSign_79 (by decide) (w32_id hx4) (w32_id (g32_c (x := 61) rfl)) (fun h11 => ?_) (fun h11 => ?_)
      · have T := T.1 h11
        exact wp_md (wpt T (And.intro rfl (And.intro rfl (And.intro rfl (And.intro rfl True.intro)))))
      · have T := T.2 h11
        refine wp_iconst d_Tk_takeSign_82 ?_
        refine wp_istore (L' := [.val (gR G (c + 16)), .val (gI x1), .unset, .val (gI x3), .val (gI x4), .val (gI 5)]) d_Tk_takeSign_83 (by decide) rfl ?_
        exact wp_md (wpt T (And.intro rfl (And.intro rfl (And.intro rfl (And.intro rfl True.intro)))))
  · have T := T.2 h16
    refine wp_iload d_Tk_takeSign_57 rfl ?_
    refine wp_bipush d_Tk_takeSign_59 ⟨by decide, by decide⟩ ?_
    refine xi_ne (tgt := 70) d_Tk_takeSign_61 (by decide) (w32_id hx4) (w32_id (g32_c (x := 61) rfl)) (fun h15 => ?_) (fun h15 => ?_)
    · have T := T.1 h15
      refine wp_iload_n d_Tk_takeSign_70 rfl rfl ?_
      refine wp_iconst d_Tk_takeSign_71 ?_
      refine xi_ne (tgt := 85) d_Tk_takeSign_72 (by decide) (w32_id hx3) (w32_id (g32_c (x := 4) rfl)) (fun h14 => ?_) (fun h14 => ?_)
      · have T := T.1 h14
        exact wp_md (wpt T (And.intro rfl (And.intro rfl (And.intro rfl (And.intro rfl True.intro)))))
      · have T := T.2 h14
        refine wp_iload d_Tk_takeSign_75 rfl ?_
        refine wp_bipush d_Tk_takeSign_77 ⟨by decide, by decide⟩ ?_
        refine xi_ne (tgt := 85) d_Tk_takeSign_79 (by decide) (w32_id hx4) (w32_id (g32_c (x := 61) rfl)) (fun h13 => ?_) (fun h13 => ?_)
        · have T := T.1 h13
          exact wp_md (wpt T (And.intro rfl (And.intro rfl (And.intro rfl (And.intro rfl True.intro)))))
        · have T := T.2 h13
          refine wp_iconst d_Tk_takeSign_82 ?_
          refine wp_istore (L' := [.val (gR G (c + 16)), .val (gI x1), .unset, .val (gI x3), .val (gI x4), .val (gI 5)]) d_Tk_takeSign_83 (by decide) rfl ?_
          exact wp_md (wpt T (And.intro rfl (And.intro rfl (And.intro rfl (And.intro rfl True.intro)))))
    · have T := T.2 h15
      refine wp_iconst d_Tk_takeSign_64 ?_
      refine wp_istore (L' := [.val (gR G (c + 16)), .val (gI x1), .unset, .val (gI x3), .val (gI x4), .val (gI 3)]) d_Tk_takeSign_65 (by decide) rfl ?_
      refine wp_goto (tgt := 85) d_Tk_takeSign_67 (by decide) ?_
      exact wp_md (wpt T (And.intro rfl (And.intro rfl (And.intro rfl (And.intro rfl True.intro)))))
set_option maxHeartbeats 4000000 in
theorem w_Tk_takeSign_85 {l : Launch} {G : gG} {d : Nat} {X : gX} {M : gM} {k : Int → gM → Prop} {c : Nat} (hX : glX X c) {x1 : Int} (hx1 : g32 x1) {x3 : Int} (hx3 : g32 x3) {x5 : Int} (hx5 : g32 x5)  (T : g32 (M (c + 16) 5) → (((0 : Int) ≤ M (c + 16) 5 ∧ M (c + 16) 5 < 104) ∧ ((¬ x5 = x3 → (k (w32 (x1 + 2)) (gUp M (c + 17) (Int.toNat (M (c + 16) 5)) x5))) ∧ (x5 = x3 → (k (w32 (x1 + 1)) (gUp M (c + 17) (Int.toNat (M (c + 16) 5)) x5)))))) : wp l G y_Tk_takeSign (gRm (d + 1)) true (kkI X k) true 85 [.val (gR G (c + 16)), .val (gI x1), .unset, .val (gI x3), .unset, .val (gI x5)] [] X M 0 0 := by
  refine wp_aload_n d_Tk_takeSign_85 rfl rfl (g_nz (gl_1 hX 16)) ?_
  refine xgetR d_Tk_takeSign_86 gc_Tk f_Tk_11.1 f_Tk_11.2.1 f_Tk_11.2.2.1 (gl_1 hX 16) (gl_2 hX (a := 16) (by decide)) (gl_s hX 16 rfl) f_Tk_11.2.2.2.2.1 (gl_f hX 18 rfl) ?_
  refine wp_aload_n d_Tk_takeSign_89 rfl rfl (g_nz (gl_1 hX 16)) ?_
  refine xgetI d_Tk_takeSign_90 gc_Tk f_Tk_28.1 f_Tk_28.2.1 f_Tk_28.2.2.1 (gl_1 hX 16) (gl_2 hX (a := 16) (by decide)) (gl_s hX 16 rfl) f_Tk_28.2.2.2.2.1 (fun h17 => ?_)
  have T := T h17
  refine wp_iload d_Tk_takeSign_93 rfl ?_
  refine xiast d_Tk_takeSign_95 (gl_1 hX 17) (gl_2 hX (a := 17) (by decide)) (gl_s hX 17 rfl) (by decide) T.1 (w32_id hx5) ?_
  have T := T.2
  refine wp_iload d_Tk_takeSign_96 rfl ?_
  refine wp_iload_n d_Tk_takeSign_98 rfl rfl ?_
  refine xi_ne (tgt := 108) d_Tk_takeSign_99 (by decide) (w32_id hx5) (w32_id hx3) (fun h18 => ?_) (fun h18 => ?_)
  · have T := T.1 h18
    refine wp_iload_n d_Tk_takeSign_108 rfl rfl ?_
    refine wp_iconst d_Tk_takeSign_109 ?_
    refine wp_iadd d_Tk_takeSign_110 ?_
    exact wp_st (st' := [gI (w32 (x1 + 2))]) (by rw [gI_w]) (wp_ireturn d_Tk_takeSign_111 rfl (fun _ => rfl) (Nat.zero_le _) (Nat.zero_le _) (kI_mk (w32_ok _) T))
  · have T := T.2 h18
    refine wp_iload_n d_Tk_takeSign_102 rfl rfl ?_
    refine wp_iconst d_Tk_takeSign_103 ?_
    refine wp_iadd d_Tk_takeSign_104 ?_
    refine wp_goto (tgt := 111) d_Tk_takeSign_105 (by decide) ?_
    exact wp_st (st' := [gI (w32 (x1 + 1))]) (by rw [gI_w]) (wp_ireturn d_Tk_takeSign_111 rfl (fun _ => rfl) (Nat.zero_le _) (Nat.zero_le _) (kI_mk (w32_ok _) T))
theorem e_Tk_takeSign {l : Launch} {G : gG} {d : Nat} {X : gX} {M : gM} {k : Int → gM → Prop} {c : Nat} {x1 : Int} {x2 : Int} (T : wp l G y_Tk_takeSign (gRm (d + 1)) true (kkI X k) false 0 [.val (gR G (c + 16)), .val (gI x1), .val (gI x2), .unset, .unset, .unset] [] X M 0 0) : cI l G y_Tk_takeSign (gRm (d + 1)) true [gR G (c + 16), gI x1, gI x2] X M k := cen_I (plainFor_of_name rfl) (by simp only [lg_sl_R, lg_sl_I, lg_sl_L, lg_sl_N, List.length_cons, List.length_nil]; decide) (by unfold gEn; simp only [lg_sl_R, lg_sl_I, lg_sl_L, lg_sl_N]; exact wpt T (And.intro rfl (And.intro rfl (And.intro rfl True.intro))))
theorem d_Tk_signOf_0 : decode prog_11_method_7_code 0 = .ok (.iload_n 0, 1) := by decide +kernel
theorem d_Tk_signOf_1 : decode prog_11_method_7_code 1 = .ok (.tableswitch 286 37 94 #[271, 253, 286, 274, 277, 262, 256, 280, 259, 286, 265, 286, 286, 286, 286, 286, 286, 286, 286, 286, 286, 283, 286, 249, 247, 251, 286, 286, 286, 286, 286, 286, 286, 286, 286, 286, 286, 286, 286, 286, 286, 286, 286, 286, 286, 286, 286, 286, 286, 286, 286, 286, 286, 286, 286, 286, 286, 268], 247) := by decide +kernel
theorem d_Tk_signOf_272 : decode prog_11_method_7_code 272 = .ok (.bipush 12, 2) := by decide +kernel
theorem d_Tk_signOf_274 : decode prog_11_method_7_code 274 = .ok (.ireturn, 1) := by decide +kernel
theorem d_Tk_signOf_254 : decode prog_11_method_7_code 254 = .ok (.bipush 6, 2) := by decide +kernel
theorem d_Tk_signOf_256 : decode prog_11_method_7_code 256 = .ok (.ireturn, 1) := by decide +kernel
theorem d_Tk_signOf_287 : decode prog_11_method_7_code 287 = .ok (.bipush 24, 2) := by decide +kernel
theorem d_Tk_signOf_289 : decode prog_11_method_7_code 289 = .ok (.ireturn, 1) := by decide +kernel
theorem d_Tk_signOf_275 : decode prog_11_method_7_code 275 = .ok (.bipush 13, 2) := by decide +kernel
theorem d_Tk_signOf_277 : decode prog_11_method_7_code 277 = .ok (.ireturn, 1) := by decide +kernel
theorem d_Tk_signOf_278 : decode prog_11_method_7_code 278 = .ok (.bipush 14, 2) := by decide +kernel
theorem d_Tk_signOf_280 : decode prog_11_method_7_code 280 = .ok (.ireturn, 1) := by decide +kernel
theorem d_Tk_signOf_263 : decode prog_11_method_7_code 263 = .ok (.bipush 9, 2) := by decide +kernel
theorem d_Tk_signOf_265 : decode prog_11_method_7_code 265 = .ok (.ireturn, 1) := by decide +kernel
theorem d_Tk_signOf_257 : decode prog_11_method_7_code 257 = .ok (.bipush 7, 2) := by decide +kernel
theorem d_Tk_signOf_259 : decode prog_11_method_7_code 259 = .ok (.ireturn, 1) := by decide +kernel
theorem d_Tk_signOf_281 : decode prog_11_method_7_code 281 = .ok (.bipush 15, 2) := by decide +kernel
theorem d_Tk_signOf_283 : decode prog_11_method_7_code 283 = .ok (.ireturn, 1) := by decide +kernel
theorem d_Tk_signOf_260 : decode prog_11_method_7_code 260 = .ok (.bipush 8, 2) := by decide +kernel
theorem d_Tk_signOf_262 : decode prog_11_method_7_code 262 = .ok (.ireturn, 1) := by decide +kernel
theorem d_Tk_signOf_266 : decode prog_11_method_7_code 266 = .ok (.bipush 10, 2) := by decide +kernel
theorem d_Tk_signOf_268 : decode prog_11_method_7_code 268 = .ok (.ireturn, 1) := by decide +kernel
theorem d_Tk_signOf_284 : decode prog_11_method_7_code 284 = .ok (.bipush 16, 2) := by decide +kernel
theorem d_Tk_signOf_286 : decode prog_11_method_7_code 286 = .ok (.ireturn, 1) := by decide +kernel
theorem d_Tk_signOf_250 : decode prog_11_method_7_code 250 = .ok (.iconst 2, 1) := by decide +kernel
theorem d_Tk_signOf_251 : decode prog_11_method_7_code 251 = .ok (.ireturn, 1) := by decide +kernel
theorem d_Tk_signOf_248 : decode prog_11_method_7_code 248 = .ok (.iconst 0, 1) := by decide +kernel
theorem d_Tk_signOf_249 : decode prog_11_method_7_code 249 = .ok (.ireturn, 1) := by decide +kernel
theorem d_Tk_signOf_252 : decode prog_11_method_7_code 252 = .ok (.iconst 4, 1) := by decide +kernel
theorem d_Tk_signOf_253 : decode prog_11_method_7_code 253 = .ok (.ireturn, 1) := by decide +kernel
theorem d_Tk_signOf_269 : decode prog_11_method_7_code 269 = .ok (.bipush 11, 2) := by decide +kernel
theorem d_Tk_signOf_271 : decode prog_11_method_7_code 271 = .ok (.ireturn, 1) := by decide +kernel
set_option maxHeartbeats 4000000 in
theorem w_Tk_signOf_0 {l : Launch} {G : gG} {d : Nat} {X : gX} {M : gM} {k : Int → gM → Prop}  {x0 : Int} (hx0 : g32 x0)  (T : (x0 = 37 → (k 12 M)) ∧ (x0 = 38 → (k 6 M)) ∧ (x0 = 39 → (k 24 M)) ∧ (x0 = 40 → (k 13 M)) ∧ (x0 = 41 → (k 14 M)) ∧ (x0 = 42 → (k 9 M)) ∧ (x0 = 43 → (k 7 M)) ∧ (x0 = 44 → (k 15 M)) ∧ (x0 = 45 → (k 8 M)) ∧ (x0 = 46 → (k 24 M)) ∧ (x0 = 47 → (k 10 M)) ∧ (x0 = 48 → (k 24 M)) ∧ (x0 = 49 → (k 24 M)) ∧ (x0 = 50 → (k 24 M)) ∧ (x0 = 51 → (k 24 M)) ∧ (x0 = 52 → (k 24 M)) ∧ (x0 = 53 → (k 24 M)) ∧ (x0 = 54 → (k 24 M)) ∧ (x0 = 55 → (k 24 M)) ∧ (x0 = 56 → (k 24 M)) ∧ (x0 = 57 → (k 24 M)) ∧ (x0 = 58 → (k 16 M)) ∧ (x0 = 59 → (k 24 M)) ∧ (x0 = 60 → (k 2 M)) ∧ (x0 = 61 → (k 0 M)) ∧ (x0 = 62 → (k 4 M)) ∧ (x0 = 63 → (k 24 M)) ∧ (x0 = 64 → (k 24 M)) ∧ (x0 = 65 → (k 24 M)) ∧ (x0 = 66 → (k 24 M)) ∧ (x0 = 67 → (k 24 M)) ∧ (x0 = 68 → (k 24 M)) ∧ (x0 = 69 → (k 24 M)) ∧ (x0 = 70 → (k 24 M)) ∧ (x0 = 71 → (k 24 M)) ∧ (x0 = 72 → (k 24 M)) ∧ (x0 = 73 → (k 24 M)) ∧ (x0 = 74 → (k 24 M)) ∧ (x0 = 75 → (k 24 M)) ∧ (x0 = 76 → (k 24 M)) ∧ (x0 = 77 → (k 24 M)) ∧ (x0 = 78 → (k 24 M)) ∧ (x0 = 79 → (k 24 M)) ∧ (x0 = 80 → (k 24 M)) ∧ (x0 = 81 → (k 24 M)) ∧ (x0 = 82 → (k 24 M)) ∧ (x0 = 83 → (k 24 M)) ∧ (x0 = 84 → (k 24 M)) ∧ (x0 = 85 → (k 24 M)) ∧ (x0 = 86 → (k 24 M)) ∧ (x0 = 87 → (k 24 M)) ∧ (x0 = 88 → (k 24 M)) ∧ (x0 = 89 → (k 24 M)) ∧ (x0 = 90 → (k 24 M)) ∧ (x0 = 91 → (k 24 M)) ∧ (x0 = 92 → (k 24 M)) ∧ (x0 = 93 → (k 24 M)) ∧ (x0 = 94 → (k 11 M)) ∧ ((¬ x0 = 37 ∧ ¬ x0 = 38 ∧ ¬ x0 = 39 ∧ ¬ x0 = 40 ∧ ¬ x0 = 41 ∧ ¬ x0 = 42 ∧ ¬ x0 = 43 ∧ ¬ x0 = 44 ∧ ¬ x0 = 45 ∧ ¬ x0 = 46 ∧ ¬ x0 = 47 ∧ ¬ x0 = 48 ∧ ¬ x0 = 49 ∧ ¬ x0 = 50 ∧ ¬ x0 = 51 ∧ ¬ x0 = 52 ∧ ¬ x0 = 53 ∧ ¬ x0 = 54 ∧ ¬ x0 = 55 ∧ ¬ x0 = 56 ∧ ¬ x0 = 57 ∧ ¬ x0 = 58 ∧ ¬ x0 = 59 ∧ ¬ x0 = 60 ∧ ¬ x0 = 61 ∧ ¬ x0 = 62 ∧ ¬ x0 = 63 ∧ ¬ x0 = 64 ∧ ¬ x0 = 65 ∧ ¬ x0 = 66 ∧ ¬ x0 = 67 ∧ ¬ x0 = 68 ∧ ¬ x0 = 69 ∧ ¬ x0 = 70 ∧ ¬ x0 = 71 ∧ ¬ x0 = 72 ∧ ¬ x0 = 73 ∧ ¬ x0 = 74 ∧ ¬ x0 = 75 ∧ ¬ x0 = 76 ∧ ¬ x0 = 77 ∧ ¬ x0 = 78 ∧ ¬ x0 = 79 ∧ ¬ x0 = 80 ∧ ¬ x0 = 81 ∧ ¬ x0 = 82 ∧ ¬ x0 = 83 ∧ ¬ x0 = 84 ∧ ¬ x0 = 85 ∧ ¬ x0 = 86 ∧ ¬ x0 = 87 ∧ ¬ x0 = 88 ∧ ¬ x0 = 89 ∧ ¬ x0 = 90 ∧ ¬ x0 = 91 ∧ ¬ x0 = 92 ∧ ¬ x0 = 93 ∧ ¬ x0 = 94) → (k 24 M))) : wp l G y_Tk_signOf (gRm d) false (kkI X k) false 0 [.val (gI x0)] [] X M 0 0 := by
  refine wp_iload_n d_Tk_signOf_0 rfl rfl ?_
  obtain ⟨T0, T1, T2, T3, T4, T5, T6, T7, T8, T9, T10, T11, T12, T13, T14, T15, T16, T17, T18, T19, T20, T21, T22, T23, T24, T25, T26, T27, T28, T29, T30, T31, T32, T33, T34, T35, T36, T37, T38, T39, T40, T41, T42, T43, T44, T45, T46, T47, T48, T49, T50, T51, T52, T53, T54, T55, T56, T57, T58⟩ := T
  by_cases hc0 : x0 = 37
  · refine xtabIn (tgt := 272) d_Tk_signOf_1 (w32_id hx0) 37 hc0 rfl rfl (by decide) ?_
    have T := T0 hc0
    refine wp_bipush d_Tk_signOf_272 ⟨by decide, by decide⟩ ?_
    exact wp_ireturn d_Tk_signOf_274 rfl id (Nat.zero_le _) (Nat.zero_le _) (kI_mk (g32_c (x := 12) rfl) T)
  by_cases hc1 : x0 = 38
  · refine xtabIn (tgt := 254) d_Tk_signOf_1 (w32_id hx0) 38 hc1 rfl rfl (by decide) ?_
    have T := T1 hc1
    refine wp_bipush d_Tk_signOf_254 ⟨by decide, by decide⟩ ?_
    exact wp_ireturn d_Tk_signOf_256 rfl id (Nat.zero_le _) (Nat.zero_le _) (kI_mk (g32_c (x := 6) rfl) T)
  by_cases hc2 : x0 = 39
  · refine xtabIn (tgt := 287) d_Tk_signOf_1 (w32_id hx0) 39 hc2 rfl rfl (by decide) ?_
    have T := T2 hc2
    refine wp_bipush d_Tk_signOf_287 ⟨by decide, by decide⟩ ?_
    exact wp_ireturn d_Tk_signOf_289 rfl id (Nat.zero_le _) (Nat.zero_le _) (kI_mk (g32_c (x := 24) rfl) T)
  by_cases hc3 : x0 = 40
  · refine xtabIn (tgt := 275) d_Tk_signOf_1 (w32_id hx0) 40 hc3 rfl rfl (by decide) ?_
    have T := T3 hc3
    refine wp_bipush d_Tk_signOf_275 ⟨by decide, by decide⟩ ?_
    exact wp_ireturn d_Tk_signOf_277 rfl id (Nat.zero_le _) (Nat.zero_le _) (kI_mk (g32_c (x := 13) rfl) T)
  by_cases hc4 : x0 = 41
  · refine xtabIn (tgt := 278) d_Tk_signOf_1 (w32_id hx0) 41 hc4 rfl rfl (by decide) ?_
    have T := T4 hc4
    refine wp_bipush d_Tk_signOf_278 ⟨by decide, by decide⟩ ?_
    exact wp_ireturn d_Tk_signOf_280 rfl id (Nat.zero_le _) (Nat.zero_le _) (kI_mk (g32_c (x := 14) rfl) T)
  by_cases hc5 : x0 = 42
  · refine xtabIn (tgt := 263) d_Tk_signOf_1 (w32_id hx0) 42 hc5 rfl rfl (by decide) ?_
    have T := T5 hc5
    refine wp_bipush d_Tk_signOf_263 ⟨by decide, by decide⟩ ?_
    exact wp_ireturn d_Tk_signOf_265 rfl id (Nat.zero_le _) (Nat.zero_le _) (kI_mk (g32_c (x := 9) rfl) T)
  by_cases hc6 : x0 = 43
  · refine xtabIn (tgt := 257) d_Tk_signOf_1 (w32_id hx0) 43 hc6 rfl rfl (by decide) ?_
    have T := T6 hc6
    refine wp_bipush d_Tk_signOf_257 ⟨by decide, by decide⟩ ?_
    exact wp_ireturn d_Tk_signOf_259 rfl id (Nat.zero_le _) (Nat.zero_le _) (kI_mk (g32_c (x := 7) rfl) T)
  by_cases hc7 : x0 = 44
  · refine xtabIn (tgt := 281) d_Tk_signOf_1 (w32_id hx0) 44 hc7 rfl rfl (by decide) ?_
    have T := T7 hc7
    refine wp_bipush d_Tk_signOf_281 ⟨by decide, by decide⟩ ?_
    exact wp_ireturn d_Tk_signOf_283 rfl id (Nat.zero_le _) (Nat.zero_le _) (kI_mk (g32_c (x := 15) rfl) T)
  by_cases hc8 : x0 = 45
  · refine xtabIn (tgt := 260) d_Tk_signOf_1 (w32_id hx0) 45 hc8 rfl rfl (by decide) ?_
    have T := T8 hc8
    refine wp_bipush d_Tk_signOf_260 ⟨by decide, by decide⟩ ?_
    exact wp_ireturn d_Tk_signOf_262 rfl id (Nat.zero_le _) (Nat.zero_le _) (kI_mk (g32_c (x := 8) rfl) T)
  by_cases hc9 : x0 = 46
  · refine xtabIn (tgt := 287) d_Tk_signOf_1 (w32_id hx0) 46 hc9 rfl rfl (by decide) ?_
    have T := T9 hc9
    refine wp_bipush d_Tk_signOf_287 ⟨by decide, by decide⟩ ?_
    exact wp_ireturn d_Tk_signOf_289 rfl id (Nat.zero_le _) (Nat.zero_le _) (kI_mk (g32_c (x := 24) rfl) T)
  by_cases hc10 : x0 = 47
  · refine xtabIn (tgt := 266) d_Tk_signOf_1 (w32_id hx0) 47 hc10 rfl rfl (by decide) ?_
    have T := T10 hc10
    refine wp_bipush d_Tk_signOf_266 ⟨by decide, by decide⟩ ?_
    exact wp_ireturn d_Tk_signOf_268 rfl id (Nat.zero_le _) (Nat.zero_le _) (kI_mk (g32_c (x := 10) rfl) T)
  by_cases hc11 : x0 = 48
  · refine xtabIn (tgt := 287) d_Tk_signOf_1 (w32_id hx0) 48 hc11 rfl rfl (by decide) ?_
    have T := T11 hc11
    refine wp_bipush d_Tk_signOf_287 ⟨by decide, by decide⟩ ?_
    exact wp_ireturn d_Tk_signOf_289 rfl id (Nat.zero_le _) (Nat.zero_le _) (kI_mk (g32_c (x := 24) rfl) T)
  by_cases hc12 : x0 = 49
  · refine xtabIn (tgt := 287) d_Tk_signOf_1 (w32_id hx0) 49 hc12 rfl rfl (by decide) ?_
    have T := T12 hc12
    refine wp_bipush d_Tk_signOf_287 ⟨by decide, by decide⟩ ?_
    exact wp_ireturn d_Tk_signOf_289 rfl id (Nat.zero_le _) (Nat.zero_le _) (kI_mk (g32_c (x := 24) rfl) T)
  by_cases hc13 : x0 = 50
  · refine xtabIn (tgt := 287) d_Tk_signOf_1 (w32_id hx0) 50 hc13 rfl rfl (by decide) ?_
    have T := T13 hc13
    refine wp_bipush d_Tk_signOf_287 ⟨by decide, by decide⟩ ?_
    exact wp_ireturn d_Tk_signOf_289 rfl id (Nat.zero_le _) (Nat.zero_le _) (kI_mk (g32_c (x := 24) rfl) T)
  by_cases hc14 : x0 = 51
  · refine xtabIn (tgt := 287) d_Tk_signOf_1 (w32_id hx0) 51 hc14 rfl rfl (by decide) ?_
    have T := T14 hc14
    refine wp_bipush d_Tk_signOf_287 ⟨by decide, by decide⟩ ?_
    exact wp_ireturn d_Tk_signOf_289 rfl id (Nat.zero_le _) (Nat.zero_le _) (kI_mk (g32_c (x := 24) rfl) T)
  by_cases hc15 : x0 = 52
  · refine xtabIn (tgt := 287) d_Tk_signOf_1 (w32_id hx0) 52 hc15 rfl rfl (by decide) ?_
    have T := T15 hc15
    refine wp_bipush d_Tk_signOf_287 ⟨by decide, by decide⟩ ?_
    exact wp_ireturn d_Tk_signOf_289 rfl id (Nat.zero_le _) (Nat.zero_le _) (kI_mk (g32_c (x := 24) rfl) T)
  by_cases hc16 : x0 = 53
  · refine xtabIn (tgt := 287) d_Tk_signOf_1 (w32_id hx0) 53 hc16 rfl rfl (by decide) ?_
    have T := T16 hc16
    refine wp_bipush d_Tk_signOf_287 ⟨by decide, by decide⟩ ?_
    exact wp_ireturn d_Tk_signOf_289 rfl id (Nat.zero_le _) (Nat.zero_le _) (kI_mk (g32_c (x := 24) rfl) T)
  by_cases hc17 : x0 = 54
  · refine xtabIn (tgt := 287) d_Tk_signOf_1 (w32_id hx0) 54 hc17 rfl rfl (by decide) ?_
    have T := T17 hc17
    refine wp_bipush d_Tk_signOf_287 ⟨by decide, by decide⟩ ?_
    exact wp_ireturn d_Tk_signOf_289 rfl id (Nat.zero_le _) (Nat.zero_le _) (kI_mk (g32_c (x := 24) rfl) T)
  by_cases hc18 : x0 = 55
  · refine xtabIn (tgt := 287) d_Tk_signOf_1 (w32_id hx0) 55 hc18 rfl rfl (by decide) ?_
    have T := T18 hc18
    refine wp_bipush d_Tk_signOf_287 ⟨by decide, by decide⟩ ?_
    exact wp_ireturn d_Tk_signOf_289 rfl id (Nat.zero_le _) (Nat.zero_le _) (kI_mk (g32_c (x := 24) rfl) T)
  by_cases hc19 : x0 = 56
  · refine xtabIn (tgt := 287) d_Tk_signOf_1 (w32_id hx0) 56 hc19 rfl rfl (by decide) ?_
    have T := T19 hc19
    refine wp_bipush d_Tk_signOf_287 ⟨by decide, by decide⟩ ?_
    exact wp_ireturn d_Tk_signOf_289 rfl id (Nat.zero_le _) (Nat.zero_le _) (kI_mk (g32_c (x := 24) rfl) T)
  by_cases hc20 : x0 = 57
  · refine xtabIn (tgt := 287) d_Tk_signOf_1 (w32_id hx0) 57 hc20 rfl rfl (by decide) ?_
    have T := T20 hc20
    refine wp_bipush d_Tk_signOf_287 ⟨by decide, by decide⟩ ?_
    exact wp_ireturn d_Tk_signOf_289 rfl id (Nat.zero_le _) (Nat.zero_le _) (kI_mk (g32_c (x := 24) rfl) T)
  by_cases hc21 : x0 = 58
  · refine xtabIn (tgt := 284) d_Tk_signOf_1 (w32_id hx0) 58 hc21 rfl rfl (by decide) ?_
    have T := T21 hc21
    refine wp_bipush d_Tk_signOf_284 ⟨by decide, by decide⟩ ?_
    exact wp_ireturn d_Tk_signOf_286 rfl id (Nat.zero_le _) (Nat.zero_le _) (kI_mk (g32_c (x := 16) rfl) T)
  by_cases hc22 : x0 = 59
  · refine xtabIn (tgt := 287) d_Tk_signOf_1 (w32_id hx0) 59 hc22 rfl rfl (by decide) ?_
    have T := T22 hc22
    refine wp_bipush d_Tk_signOf_287 ⟨by decide, by decide⟩ ?_
    exact wp_ireturn d_Tk_signOf_289 rfl id (Nat.zero_le _) (Nat.zero_le _) (kI_mk (g32_c (x := 24) rfl) T)
  by_cases hc23 : x0 = 60
  · refine xtabIn (tgt := 250) d_Tk_signOf_1 (w32_id hx0) 60 hc23 rfl rfl (by decide) ?_
    have T := T23 hc23
    refine wp_iconst d_Tk_signOf_250 ?_
    exact wp_ireturn d_Tk_signOf_251 rfl id (Nat.zero_le _) (Nat.zero_le _) (kI_mk (g32_c (x := 2) rfl) T)
  by_cases hc24 : x0 = 61
  · refine xtabIn (tgt := 248) d_Tk_signOf_1 (w32_id hx0) 61 hc24 rfl rfl (by decide) ?_
    have T := T24 hc24
    refine wp_iconst d_Tk_signOf_248 ?_
    exact wp_ireturn d_Tk_signOf_249 rfl id (Nat.zero_le _) (Nat.zero_le _) (kI_mk (g32_c (x := 0) rfl) T)
  by_cases hc25 : x0 = 62
  · refine xtabIn (tgt := 252) d_Tk_signOf_1 (w32_id hx0) 62 hc25 rfl rfl (by decide) ?_
    have T := T25 hc25
    refine wp_iconst d_Tk_signOf_252 ?_
    exact wp_ireturn d_Tk_signOf_253 rfl id (Nat.zero_le _) (Nat.zero_le _) (kI_mk (g32_c (x := 4) rfl) T)
  by_cases hc26 : x0 = 63
  · refine xtabIn (tgt := 287) d_Tk_signOf_1 (w32_id hx0) 63 hc26 rfl rfl (by decide) ?_
    have T := T26 hc26
    refine wp_bipush d_Tk_signOf_287 ⟨by decide, by decide⟩ ?_
    exact wp_ireturn d_Tk_signOf_289 rfl id (Nat.zero_le _) (Nat.zero_le _) (kI_mk (g32_c (x := 24) rfl) T)
  by_cases hc27 : x0 = 64
  · refine xtabIn (tgt := 287) d_Tk_signOf_1 (w32_id hx0) 64 hc27 rfl rfl (by decide) ?_
    have T := T27 hc27
    refine wp_bipush d_Tk_signOf_287 ⟨by decide, by decide⟩ ?_
    exact wp_ireturn d_Tk_signOf_289 rfl id (Nat.zero_le _) (Nat.zero_le _) (kI_mk (g32_c (x := 24) rfl) T)
  by_cases hc28 : x0 = 65
  · refine xtabIn (tgt := 287) d_Tk_signOf_1 (w32_id hx0) 65 hc28 rfl rfl (by decide) ?_
    have T := T28 hc28
    refine wp_bipush d_Tk_signOf_287 ⟨by decide, by decide⟩ ?_
    exact wp_ireturn d_Tk_signOf_289 rfl id (Nat.zero_le _) (Nat.zero_le _) (kI_mk (g32_c (x := 24) rfl) T)
  by_cases hc29 : x0 = 66
  · refine xtabIn (tgt := 287) d_Tk_signOf_1 (w32_id hx0) 66 hc29 rfl rfl (by decide) ?_
    have T := T29 hc29
    refine wp_bipush d_Tk_signOf_287 ⟨by decide, by decide⟩ ?_
    exact wp_ireturn d_Tk_signOf_289 rfl id (Nat.zero_le _) (Nat.zero_le _) (kI_mk (g32_c (x := 24) rfl) T)
  by_cases hc30 : x0 = 67
  · refine xtabIn (tgt := 287) d_Tk_signOf_1 (w32_id hx0) 67 hc30 rfl rfl (by decide) ?_
    have T := T30 hc30
    refine wp_bipush d_Tk_signOf_287 ⟨by decide, by decide⟩ ?_
    exact wp_ireturn d_Tk_signOf_289 rfl id (Nat.zero_le _) (Nat.zero_le _) (kI_mk (g32_c (x := 24) rfl) T)
  by_cases hc31 : x0 = 68
  · refine xtabIn (tgt := 287) d_Tk_signOf_1 (w32_id hx0) 68 hc31 rfl rfl (by decide) ?_
    have T := T31 hc31
    refine wp_bipush d_Tk_signOf_287 ⟨by decide, by decide⟩ ?_
    exact wp_ireturn d_Tk_signOf_289 rfl id (Nat.zero_le _) (Nat.zero_le _) (kI_mk (g32_c (x := 24) rfl) T)
  by_cases hc32 : x0 = 69
  · refine xtabIn (tgt := 287) d_Tk_signOf_1 (w32_id hx0) 69 hc32 rfl rfl (by decide) ?_
    have T := T32 hc32
    refine wp_bipush d_Tk_signOf_287 ⟨by decide, by decide⟩ ?_
    exact wp_ireturn d_Tk_signOf_289 rfl id (Nat.zero_le _) (Nat.zero_le _) (kI_mk (g32_c (x := 24) rfl) T)
  by_cases hc33 : x0 = 70
  · refine xtabIn (tgt := 287) d_Tk_signOf_1 (w32_id hx0) 70 hc33 rfl rfl (by decide) ?_
    have T := T33 hc33
    refine wp_bipush d_Tk_signOf_287 ⟨by decide, by decide⟩ ?_
    exact wp_ireturn d_Tk_signOf_289 rfl id (Nat.zero_le _) (Nat.zero_le _) (kI_mk (g32_c (x := 24) rfl) T)
  by_cases hc34 : x0 = 71
  · refine xtabIn (tgt := 287) d_Tk_signOf_1 (w32_id hx0) 71 hc34 rfl rfl (by decide) ?_
    have T := T34 hc34
    refine wp_bipush d_Tk_signOf_287 ⟨by decide, by decide⟩ ?_
    exact wp_ireturn d_Tk_signOf_289 rfl id (Nat.zero_le _) (Nat.zero_le _) (kI_mk (g32_c (x := 24) rfl) T)
  by_cases hc35 : x0 = 72
  · refine xtabIn (tgt := 287) d_Tk_signOf_1 (w32_id hx0) 72 hc35 rfl rfl (by decide) ?_
    have T := T35 hc35
    refine wp_bipush d_Tk_signOf_287 ⟨by decide, by decide⟩ ?_
    exact wp_ireturn d_Tk_signOf_289 rfl id (Nat.zero_le _) (Nat.zero_le _) (kI_mk (g32_c (x := 24) rfl) T)
  by_cases hc36 : x0 = 73
  · refine xtabIn (tgt := 287) d_Tk_signOf_1 (w32_id hx0) 73 hc36 rfl rfl (by decide) ?_
    have T := T36 hc36
    refine wp_bipush d_Tk_signOf_287 ⟨by decide, by decide⟩ ?_
    exact wp_ireturn d_Tk_signOf_289 rfl id (Nat.zero_le _) (Nat.zero_le _) (kI_mk (g32_c (x := 24) rfl) T)
  by_cases hc37 : x0 = 74
  · refine xtabIn (tgt := 287) d_Tk_signOf_1 (w32_id hx0) 74 hc37 rfl rfl (by decide) ?_
    have T := T37 hc37
    refine wp_bipush d_Tk_signOf_287 ⟨by decide, by decide⟩ ?_
    exact wp_ireturn d_Tk_signOf_289 rfl id (Nat.zero_le _) (Nat.zero_le _) (kI_mk (g32_c (x := 24) rfl) T)
  by_cases hc38 : x0 = 75
  · refine xtabIn (tgt := 287) d_Tk_signOf_1 (w32_id hx0) 75 hc38 rfl rfl (by decide) ?_
    have T := T38 hc38
    refine wp_bipush d_Tk_signOf_287 ⟨by decide, by decide⟩ ?_
    exact wp_ireturn d_Tk_signOf_289 rfl id (Nat.zero_le _) (Nat.zero_le _) (kI_mk (g32_c (x := 24) rfl) T)
  by_cases hc39 : x0 = 76
  · refine xtabIn (tgt := 287) d_Tk_signOf_1 (w32_id hx0) 76 hc39 rfl rfl (by decide) ?_
    have T := T39 hc39
    refine wp_bipush d_Tk_signOf_287 ⟨by decide, by decide⟩ ?_
    exact wp_ireturn d_Tk_signOf_289 rfl id (Nat.zero_le _) (Nat.zero_le _) (kI_mk (g32_c (x := 24) rfl) T)
  by_cases hc40 : x0 = 77
  · refine xtabIn (tgt := 287) d_Tk_signOf_1 (w32_id hx0) 77 hc40 rfl rfl (by decide) ?_
    have T := T40 hc40
    refine wp_bipush d_Tk_signOf_287 ⟨by decide, by decide⟩ ?_
    exact wp_ireturn d_Tk_signOf_289 rfl id (Nat.zero_le _) (Nat.zero_le _) (kI_mk (g32_c (x := 24) rfl) T)
  by_cases hc41 : x0 = 78
  · refine xtabIn (tgt := 287) d_Tk_signOf_1 (w32_id hx0) 78 hc41 rfl rfl (by decide) ?_
    have T := T41 hc41
    refine wp_bipush d_Tk_signOf_287 ⟨by decide, by decide⟩ ?_
    exact wp_ireturn d_Tk_signOf_289 rfl id (Nat.zero_le _) (Nat.zero_le _) (kI_mk (g32_c (x := 24) rfl) T)
  by_cases hc42 : x0 = 79
  · refine xtabIn (tgt := 287) d_Tk_signOf_1 (w32_id hx0) 79 hc42 rfl rfl (by decide) ?_
    have T := T42 hc42
    refine wp_bipush d_Tk_signOf_287 ⟨by decide, by decide⟩ ?_
    exact wp_ireturn d_Tk_signOf_289 rfl id (Nat.zero_le _) (Nat.zero_le _) (kI_mk (g32_c (x := 24) rfl) T)
  by_cases hc43 : x0 = 80
  · refine xtabIn (tgt := 287) d_Tk_signOf_1 (w32_id hx0) 80 hc43 rfl rfl (by decide) ?_
    have T := T43 hc43
    refine wp_bipush d_Tk_signOf_287 ⟨by decide, by decide⟩ ?_
    exact wp_ireturn d_Tk_signOf_289 rfl id (Nat.zero_le _) (Nat.zero_le _) (kI_mk (g32_c (x := 24) rfl) T)
  by_cases hc44 : x0 = 81
  · refine xtabIn (tgt := 287) d_Tk_signOf_1 (w32_id hx0) 81 hc44 rfl rfl (by decide) ?_
    have T := T44 hc44
    refine wp_bipush d_Tk_signOf_287 ⟨by decide, by decide⟩ ?_
    exact wp_ireturn d_Tk_signOf_289 rfl id (Nat.zero_le _) (Nat.zero_le _) (kI_mk (g32_c (x := 24) rfl) T)
  by_cases hc45 : x0 = 82
  · refine xtabIn (tgt := 287) d_Tk_signOf_1 (w32_id hx0) 82 hc45 rfl rfl (by decide) ?_
    have T := T45 hc45
    refine wp_bipush d_Tk_signOf_287 ⟨by decide, by decide⟩ ?_
    exact wp_ireturn d_Tk_signOf_289 rfl id (Nat.zero_le _) (Nat.zero_le _) (kI_mk (g32_c (x := 24) rfl) T)
  by_cases hc46 : x0 = 83
  · refine xtabIn (tgt := 287) d_Tk_signOf_1 (w32_id hx0) 83 hc46 rfl rfl (by decide) ?_
    have T := T46 hc46
    refine wp_bipush d_Tk_signOf_287 ⟨by decide, by decide⟩ ?_
    exact wp_ireturn d_Tk_signOf_289 rfl id (Nat.zero_le _) (Nat.zero_le _) (kI_mk (g32_c (x := 24) rfl) T)
  by_cases hc47 : x0 = 84
  · refine xtabIn (tgt := 287) d_Tk_signOf_1 (w32_id hx0) 84 hc47 rfl rfl (by decide) ?_
    have T := T47 hc47
    refine wp_bipush d_Tk_signOf_287 ⟨by decide, by decide⟩ ?_
    exact wp_ireturn d_Tk_signOf_289 rfl id (Nat.zero_le _) (Nat.zero_le _) (kI_mk (g32_c (x := 24) rfl) T)
  by_cases hc48 : x0 = 85
  · refine xtabIn (tgt := 287) d_Tk_signOf_1 (w32_id hx0) 85 hc48 rfl rfl (by decide) ?_
    have T := T48 hc48
    refine wp_bipush d_Tk_signOf_287 ⟨by decide, by decide⟩ ?_
    exact wp_ireturn d_Tk_signOf_289 rfl id (Nat.zero_le _) (Nat.zero_le _) (kI_mk (g32_c (x := 24) rfl) T)
  by_cases hc49 : x0 = 86
  · refine xtabIn (tgt := 287) d_Tk_signOf_1 (w32_id hx0) 86 hc49 rfl rfl (by decide) ?_
    have T := T49 hc49
    refine wp_bipush d_Tk_signOf_287 ⟨by decide, by decide⟩ ?_
    exact wp_ireturn d_Tk_signOf_289 rfl id (Nat.zero_le _) (Nat.zero_le _) (kI_mk (g32_c (x := 24) rfl) T)
  by_cases hc50 : x0 = 87
  · refine xtabIn (tgt := 287) d_Tk_signOf_1 (w32_id hx0) 87 hc50 rfl rfl (by decide) ?_
    have T := T50 hc50
    refine wp_bipush d_Tk_signOf_287 ⟨by decide, by decide⟩ ?_
    exact wp_ireturn d_Tk_signOf_289 rfl id (Nat.zero_le _) (Nat.zero_le _) (kI_mk (g32_c (x := 24) rfl) T)
  by_cases hc51 : x0 = 88
  · refine xtabIn (tgt := 287) d_Tk_signOf_1 (w32_id hx0) 88 hc51 rfl rfl (by decide) ?_
    have T := T51 hc51
    refine wp_bipush d_Tk_signOf_287 ⟨by decide, by decide⟩ ?_
    exact wp_ireturn d_Tk_signOf_289 rfl id (Nat.zero_le _) (Nat.zero_le _) (kI_mk (g32_c (x := 24) rfl) T)
  by_cases hc52 : x0 = 89
  · refine xtabIn (tgt := 287) d_Tk_signOf_1 (w32_id hx0) 89 hc52 rfl rfl (by decide) ?_
    have T := T52 hc52
    refine wp_bipush d_Tk_signOf_287 ⟨by decide, by decide⟩ ?_
    exact wp_ireturn d_Tk_signOf_289 rfl id (Nat.zero_le _) (Nat.zero_le _) (kI_mk (g32_c (x := 24) rfl) T)
  by_cases hc53 : x0 = 90
  · refine xtabIn (tgt := 287) d_Tk_signOf_1 (w32_id hx0) 90 hc53 rfl rfl (by decide) ?_
    have T := T53 hc53
    refine wp_bipush d_Tk_signOf_287 ⟨by decide, by decide⟩ ?_
    exact wp_ireturn d_Tk_signOf_289 rfl id (Nat.zero_le _) (Nat.zero_le _) (kI_mk (g32_c (x := 24) rfl) T)
  by_cases hc54 : x0 = 91
  · refine xtabIn (tgt := 287) d_Tk_signOf_1 (w32_id hx0) 91 hc54 rfl rfl (by decide) ?_
    have T := T54 hc54
    refine wp_bipush d_Tk_signOf_287 ⟨by decide, by decide⟩ ?_
    exact wp_ireturn d_Tk_signOf_289 rfl id (Nat.zero_le _) (Nat.zero_le _) (kI_mk (g32_c (x := 24) rfl) T)
  by_cases hc55 : x0 = 92
  · refine xtabIn (tgt := 287) d_Tk_signOf_1 (w32_id hx0) 92 hc55 rfl rfl (by decide) ?_
    have T := T55 hc55
    refine wp_bipush d_Tk_signOf_287 ⟨by decide, by decide⟩ ?_
    exact wp_ireturn d_Tk_signOf_289 rfl id (Nat.zero_le _) (Nat.zero_le _) (kI_mk (g32_c (x := 24) rfl) T)
  by_cases hc56 : x0 = 93
  · refine xtabIn (tgt := 287) d_Tk_signOf_1 (w32_id hx0) 93 hc56 rfl rfl (by decide) ?_
    have T := T56 hc56
    refine wp_bipush d_Tk_signOf_287 ⟨by decide, by decide⟩ ?_
    exact wp_ireturn d_Tk_signOf_289 rfl id (Nat.zero_le _) (Nat.zero_le _) (kI_mk (g32_c (x := 24) rfl) T)
  by_cases hc57 : x0 = 94
  · refine xtabIn (tgt := 269) d_Tk_signOf_1 (w32_id hx0) 94 hc57 rfl rfl (by decide) ?_
    have T := T57 hc57
    refine wp_bipush d_Tk_signOf_269 ⟨by decide, by decide⟩ ?_
    exact wp_ireturn d_Tk_signOf_271 rfl id (Nat.zero_le _) (Nat.zero_le _) (kI_mk (g32_c (x := 11) rfl) T)
  refine xtabOut (tgt := 287) d_Tk_signOf_1 (w32_id hx0) (by omega) (by decide) ?_
  have T := T58 ⟨hc0, hc1, hc2, hc3, hc4, hc5, hc6, hc7, hc8, hc9, hc10, hc11, hc12, hc13, hc14, hc15, hc16, hc17, hc18, hc19, hc20, hc21, hc22, hc23, hc24, hc25, hc26, hc27, hc28, hc29, hc30, hc31, hc32, hc33, hc34, hc35, hc36, hc37, hc38, hc39, hc40, hc41, hc42, hc43, hc44, hc45, hc46, hc47, hc48, hc49, hc50, hc51, hc52, hc53, hc54, hc55, hc56, hc57⟩
  refine wp_bipush d_Tk_signOf_287 ⟨by decide, by decide⟩ ?_
  exact wp_ireturn d_Tk_signOf_289 rfl id (Nat.zero_le _) (Nat.zero_le _) (kI_mk (g32_c (x := 24) rfl) T)
theorem e_Tk_signOf {l : Launch} {G : gG} {d : Nat} {X : gX} {M : gM} {k : Int → gM → Prop}  {x0 : Int} (T : wp l G y_Tk_signOf (gRm d) false (kkI X k) false 0 [.val (gI x0)] [] X M 0 0) : cI l G y_Tk_signOf (gRm d) false [gI x0] X M k := cen_I (plainFor_of_name rfl) (by simp only [lg_sl_R, lg_sl_I, lg_sl_L, lg_sl_N, List.length_cons, List.length_nil]; decide) (by unfold gEn; simp only [lg_sl_R, lg_sl_I, lg_sl_L, lg_sl_N]; exact wpt T (And.intro rfl True.intro))
theorem d_Tk_isWordByte_0 : decode prog_11_method_8_code 0 = .ok (.iload_n 0, 1) := by decide +kernel
theorem d_Tk_isWordByte_1 : decode prog_11_method_8_code 1 = .ok (.invokestatic 74, 3) := by decide +kernel
theorem d_Tk_isWordByte_4 : decode prog_11_method_8_code 4 = .ok (.ifCond .ne 33, 3) := by decide +kernel
theorem d_Tk_isWordByte_37 : decode prog_11_method_8_code 37 = .ok (.iconst 1, 1) := by decide +kernel
theorem d_Tk_isWordByte_38 : decode prog_11_method_8_code 38 = .ok (.goto 4, 3) := by decide +kernel
theorem d_Tk_isWordByte_42 : decode prog_11_method_8_code 42 = .ok (.ireturn, 1) := by decide +kernel
theorem d_Tk_isWordByte_7 : decode prog_11_method_8_code 7 = .ok (.iload_n 0, 1) := by decide +kernel
theorem d_Tk_isWordByte_8 : decode prog_11_method_8_code 8 = .ok (.bipush 97, 2) := by decide +kernel
theorem d_Tk_isWordByte_10 : decode prog_11_method_8_code 10 = .ok (.if_icmp .lt 9, 3) := by decide +kernel
theorem d_Tk_isWordByte_19 : decode prog_11_method_8_code 19 = .ok (.iload_n 0, 1) := by decide +kernel
theorem d_Tk_isWordByte_20 : decode prog_11_method_8_code 20 = .ok (.bipush 48, 2) := by decide +kernel
theorem d_Tk_isWordByte_22 : decode prog_11_method_8_code 22 = .ok (.if_icmp .lt 9, 3) := by decide +kernel
theorem d_Tk_isWordByte_31 : decode prog_11_method_8_code 31 = .ok (.iload_n 0, 1) := by decide +kernel
theorem d_Tk_isWordByte_32 : decode prog_11_method_8_code 32 = .ok (.bipush 36, 2) := by decide +kernel
theorem d_Tk_isWordByte_34 : decode prog_11_method_8_code 34 = .ok (.if_icmp .ne 7, 3) := by decide +kernel
theorem d_Tk_isWordByte_41 : decode prog_11_method_8_code 41 = .ok (.iconst 0, 1) := by decide +kernel
theorem d_Tk_isWordByte_25 : decode prog_11_method_8_code 25 = .ok (.iload_n 0, 1) := by decide +kernel
theorem d_Tk_isWordByte_26 : decode prog_11_method_8_code 26 = .ok (.bipush 57, 2) := by decide +kernel
theorem d_Tk_isWordByte_28 : decode prog_11_method_8_code 28 = .ok (.if_icmp .le 9, 3) := by decide +kernel
theorem d_Tk_isWordByte_13 : decode prog_11_method_8_code 13 = .ok (.iload_n 0, 1) := by decide +kernel
theorem d_Tk_isWordByte_14 : decode prog_11_method_8_code 14 = .ok (.bipush 122, 2) := by decide +kernel
theorem d_Tk_isWordByte_16 : decode prog_11_method_8_code 16 = .ok (.if_icmp .le 21, 3) := by decide +kernel
set_option maxHeartbeats 4000000 in
theorem w_Tk_isWordByte_0 {l : Launch} {G : gG} {d : Nat} {X : gX} {M : gM} {k : Int → gM → Prop}  {x0 : Int} (hx0 : g32 x0)  (T : cZ l G y_Tk_isCapital (gRm d) false [gI x0] X M (fun v2 M1 => ((¬ v2 = 0 → (k 1 M1)) ∧ (v2 = 0 → ((x0 < 97 → ((x0 < 48 → ((¬ x0 = 36 → (k 0 M1)) ∧ (x0 = 36 → (k 1 M1)))) ∧ (¬ x0 < 48 → ((x0 ≤ 57 → (k 1 M1)) ∧ (¬ x0 ≤ 57 → ((¬ x0 = 36 → (k 0 M1)) ∧ (x0 = 36 → (k 1 M1)))))))) ∧ (¬ x0 < 97 → ((x0 ≤ 122 → (k 1 M1)) ∧ (¬ x0 ≤ 122 → ((x0 < 48 → ((¬ x0 = 36 → (k 0 M1)) ∧ (x0 = 36 → (k 1 M1)))) ∧ (¬ x0 < 48 → ((x0 ≤ 57 → (k 1 M1)) ∧ (¬ x0 ≤ 57 → ((¬ x0 = 36 → (k 0 M1)) ∧ (x0 = 36 → (k 1 M1))))))))))))))) : wp l G y_Tk_isWordByte (gRm (d + 1)) false (kkZ X k) false 0 [.val (gI x0)] [] X M 0 0 := by
  refine wp_iload_n d_Tk_isWordByte_0 rfl rfl ?_
  refine xcS_Z (md' := false) (As := [gI x0]) (st := []) d_Tk_isWordByte_1 ca_Tk_isCapital ml_Tk_74 sm_Tk_isCapital rfl (by decide) (by decide) rfl id id T (fun v2 M1 h3 T => ?_)
  refine xz_ne (tgt := 37) d_Tk_isWordByte_4 (by decide) (w32_id (g32_z h3)) (fun h14 => ?_) (fun h14 => ?_)
  · have T := T.1 h14
    refine wp_iconst d_Tk_isWordByte_37 ?_
    refine wp_goto (tgt := 42) d_Tk_isWordByte_38 (by decide) ?_
    exact wp_zreturn d_Tk_isWordByte_42 rfl (g_narz (⟨by decide, by decide⟩ : (0 : Int) ≤ 1 ∧ (1 : Int) ≤ 1)) id (Nat.zero_le _) (Nat.zero_le _) (kZ_mk (⟨by decide, by decide⟩ : (0 : Int) ≤ 1 ∧ (1 : Int) ≤ 1) T)
  · have T := T.2 h14
    refine wp_iload_n d_Tk_isWordByte_7 rfl rfl ?_
    refine wp_bipush d_Tk_isWordByte_8 ⟨by decide, by decide⟩ ?_
    refine xi_lt (tgt := 19) d_Tk_isWordByte_10 (by decide) (w32_id hx0) (w32_id (g32_c (x := 97) rfl)) (fun h13 => ?_) (fun h13 => ?_)
    · have T := T.1 h13
      refine wp_iload_n d_Tk_isWordByte_19 rfl rfl ?_
      refine wp_bipush d_Tk_isWordByte_20 ⟨by decide, by decide⟩ ?_
      refine xi_lt (tgt := 31) d_Tk_isWordByte_22 (by decide) (w32_id hx0) (w32_id (g32_c (x := 48) rfl)) (fun h7 => ?_) (fun h7 => ?_)
      · have T := T.1 h7
        refine wp_iload_n d_Tk_isWordByte_31 rfl rfl ?_
        refine wp_bipush d_Tk_isWordByte_32 ⟨by decide, by decide⟩ ?_
        refine xi_ne (tgt := 41) d_Tk_isWordByte_34 (by decide) (w32_id hx0) (w32_id (g32_c (x := 36) rfl)) (fun h4 => ?_) (fun h4 => ?_)
        · have T := T.1 h4
          refine wp_iconst d_Tk_isWordByte_41 ?_
          exact wp_zreturn d_Tk_isWordByte_42 rfl (g_narz (⟨by decide, by decide⟩ : (0 : Int) ≤ 0 ∧ (0 : Int) ≤ 1)) id (Nat.zero_le _) (Nat.zero_le _) (kZ_mk (⟨by decide, by decide⟩ : (0 : Int) ≤ 0 ∧ (0 : Int) ≤ 1) T)
        · have T := T.2 h4
          refine wp_iconst d_Tk_isWordByte_37 ?_
          refine wp_goto (tgt := 42) d_Tk_isWordByte_38 (by decide) ?_
          exact wp_zreturn d_Tk_isWordByte_42 rfl (g_narz (⟨by decide, by decide⟩ : (0 : Int) ≤ 1 ∧ (1 : Int) ≤ 1)) id (Nat.zero_le _) (Nat.zero_le _) (kZ_mk (⟨by decide, by decide⟩ : (0 : Int) ≤ 1 ∧ (1 : Int) ≤ 1) T)
      · have T := T.2 h7
        refine wp_iload_n d_Tk_isWordByte_25 rfl rfl ?_
        refine wp_bipush d_Tk_isWordByte_26 ⟨by decide, by decide⟩ ?_
        refine xi_le (tgt := 37) d_Tk_isWordByte_28 (by decide) (w32_id hx0) (w32_id (g32_c (x := 57) rfl)) (fun h6 => ?_) (fun h6 => ?_)
        · have T := T.1 h6
          refine wp_iconst d_Tk_isWordByte_37 ?_
          refine wp_goto (tgt := 42) d_Tk_isWordByte_38 (by decide) ?_
          exact wp_zreturn d_Tk_isWordByte_42 rfl (g_narz (⟨by decide, by decide⟩ : (0 : Int) ≤ 1 ∧ (1 : Int) ≤ 1)) id (Nat.zero_le _) (Nat.zero_le _) (kZ_mk (⟨by decide, by decide⟩ : (0 : Int) ≤ 1 ∧ (1 : Int) ≤ 1) T)
        · have T := T.2 h6
          refine wp_iload_n d_Tk_isWordByte_31 rfl rfl ?_
          refine wp_bipush d_Tk_isWordByte_32 ⟨by decide, by decide⟩ ?_
          refine xi_ne (tgt := 41) d_Tk_isWordByte_34 (by decide) (w32_id hx0) (w32_id (g32_c (x := 36) rfl)) (fun h5 => ?_) (fun h5 => ?_)
          · have T := T.1 h5
            refine wp_iconst d_Tk_isWordByte_41 ?_
            exact wp_zreturn d_Tk_isWordByte_42 rfl (g_narz (⟨by decide, by decide⟩ : (0 : Int) ≤ 0 ∧ (0 : Int) ≤ 1)) id (Nat.zero_le _) (Nat.zero_le _) (kZ_mk (⟨by decide, by decide⟩ : (0 : Int) ≤ 0 ∧ (0 : Int) ≤ 1) T)
          · have T := T.2 h5
            refine wp_iconst d_Tk_isWordByte_37 ?_
            refine wp_goto (tgt := 42) d_Tk_isWordByte_38 (by decide) ?_
            exact wp_zreturn d_Tk_isWordByte_42 rfl (g_narz (⟨by decide, by decide⟩ : (0 : Int) ≤ 1 ∧ (1 : Int) ≤ 1)) id (Nat.zero_le _) (Nat.zero_le _) (kZ_mk (⟨by decide, by decide⟩ : (0 : Int) ≤ 1 ∧ (1 : Int) ≤ 1) T)
    · have T := T.2 h13
      refine wp_iload_n d_Tk_isWordByte_13 rfl rfl ?_
      refine wp_bipush d_Tk_isWordByte_14 ⟨by decide, by decide⟩ ?_
      refine xi_le (tgt := 37) d_Tk_isWordByte_16 (by decide) (w32_id hx0) (w32_id (g32_c (x := 122) rfl)) (fun h12 => ?_) (fun h12 => ?_)
      · have T := T.1 h12
        refine wp_iconst d_Tk_isWordByte_37 ?_
        refine wp_goto (tgt := 42) d_Tk_isWordByte_38 (by decide) ?_
        exact wp_zreturn d_Tk_isWordByte_42 rfl (g_narz (⟨by decide, by decide⟩ : (0 : Int) ≤ 1 ∧ (1 : Int) ≤ 1)) id (Nat.zero_le _) (Nat.zero_le _) (kZ_mk (⟨by decide, by decide⟩ : (0 : Int) ≤ 1 ∧ (1 : Int) ≤ 1) T)
      · have T := T.2 h12
        refine wp_iload_n d_Tk_isWordByte_19 rfl rfl ?_
        refine wp_bipush d_Tk_isWordByte_20 ⟨by decide, by decide⟩ ?_
        refine xi_lt (tgt := 31) d_Tk_isWordByte_22 (by decide) (w32_id hx0) (w32_id (g32_c (x := 48) rfl)) (fun h11 => ?_) (fun h11 => ?_)
        · have T := T.1 h11
          refine wp_iload_n d_Tk_isWordByte_31 rfl rfl ?_
          refine wp_bipush d_Tk_isWordByte_32 ⟨by decide, by decide⟩ ?_
          refine xi_ne (tgt := 41) d_Tk_isWordByte_34 (by decide) (w32_id hx0) (w32_id (g32_c (x := 36) rfl)) (fun h8 => ?_) (fun h8 => ?_)
          · have T := T.1 h8
            refine wp_iconst d_Tk_isWordByte_41 ?_
            exact wp_zreturn d_Tk_isWordByte_42 rfl (g_narz (⟨by decide, by decide⟩ : (0 : Int) ≤ 0 ∧ (0 : Int) ≤ 1)) id (Nat.zero_le _) (Nat.zero_le _) (kZ_mk (⟨by decide, by decide⟩ : (0 : Int) ≤ 0 ∧ (0 : Int) ≤ 1) T)
          · have T := T.2 h8
            refine wp_iconst d_Tk_isWordByte_37 ?_
            refine wp_goto (tgt := 42) d_Tk_isWordByte_38 (by decide) ?_
            exact wp_zreturn d_Tk_isWordByte_42 rfl (g_narz (⟨by decide, by decide⟩ : (0 : Int) ≤ 1 ∧ (1 : Int) ≤ 1)) id (Nat.zero_le _) (Nat.zero_le _) (kZ_mk (⟨by decide, by decide⟩ : (0 : Int) ≤ 1 ∧ (1 : Int) ≤ 1) T)
        · have T := T.2 h11
          refine wp_iload_n d_Tk_isWordByte_25 rfl rfl ?_
          refine wp_bipush d_Tk_isWordByte_26 ⟨by decide, by decide⟩ ?_
          refine xi_le (tgt := 37) d_Tk_isWordByte_28 (by decide) (w32_id hx0) (w32_id (g32_c (x := 57) rfl)) (fun h10 => ?_) (fun h10 => ?_)
          · have T := T.1 h10
            refine wp_iconst d_Tk_isWordByte_37 ?_
            refine wp_goto (tgt := 42) d_Tk_isWordByte_38 (by decide) ?_
            exact wp_zreturn d_Tk_isWordByte_42 rfl (g_narz (⟨by decide, by decide⟩ : (0 : Int) ≤ 1 ∧ (1 : Int) ≤ 1)) id (Nat.zero_le _) (Nat.zero_le _) (kZ_mk (⟨by decide, by decide⟩ : (0 : Int) ≤ 1 ∧ (1 : Int) ≤ 1) T)
          · have T := T.2 h10
            refine wp_iload_n d_Tk_isWordByte_31 rfl rfl ?_
            refine wp_bipush d_Tk_isWordByte_32 ⟨by decide, by decide⟩ ?_
            refine xi_ne (tgt := 41) d_Tk_isWordByte_34 (by decide) (w32_id hx0) (w32_id (g32_c (x := 36) rfl)) (fun h9 => ?_) (fun h9 => ?_)
            · have T := T.1 h9
              refine wp_iconst d_Tk_isWordByte_41 ?_
              exact wp_zreturn d_Tk_isWordByte_42 rfl (g_narz (⟨by decide, by decide⟩ : (0 : Int) ≤ 0 ∧ (0 : Int) ≤ 1)) id (Nat.zero_le _) (Nat.zero_le _) (kZ_mk (⟨by decide, by decide⟩ : (0 : Int) ≤ 0 ∧ (0 : Int) ≤ 1) T)
            · have T := T.2 h9
              refine wp_iconst d_Tk_isWordByte_37 ?_
              refine wp_goto (tgt := 42) d_Tk_isWordByte_38 (by decide) ?_
              exact wp_zreturn d_Tk_isWordByte_42 rfl (g_narz (⟨by decide, by decide⟩ : (0 : Int) ≤ 1 ∧ (1 : Int) ≤ 1)) id (Nat.zero_le _) (Nat.zero_le _) (kZ_mk (⟨by decide, by decide⟩ : (0 : Int) ≤ 1 ∧ (1 : Int) ≤ 1) T)
theorem e_Tk_isWordByte {l : Launch} {G : gG} {d : Nat} {X : gX} {M : gM} {k : Int → gM → Prop}  {x0 : Int} (T : wp l G y_Tk_isWordByte (gRm (d + 1)) false (kkZ X k) false 0 [.val (gI x0)] [] X M 0 0) : cZ l G y_Tk_isWordByte (gRm (d + 1)) false [gI x0] X M k := cen_Z (plainFor_of_name rfl) (by simp only [lg_sl_R, lg_sl_I, lg_sl_L, lg_sl_N, List.length_cons, List.length_nil]; decide) (by unfold gEn; simp only [lg_sl_R, lg_sl_I, lg_sl_L, lg_sl_N]; exact wpt T (And.intro rfl True.intro))
theorem d_Tk_isCapital_0 : decode prog_11_method_9_code 0 = .ok (.iload_n 0, 1) := by decide +kernel
theorem d_Tk_isCapital_1 : decode prog_11_method_9_code 1 = .ok (.bipush 65, 2) := by decide +kernel
theorem d_Tk_isCapital_3 : decode prog_11_method_9_code 3 = .ok (.if_icmp .lt 13, 3) := by decide +kernel
theorem d_Tk_isCapital_16 : decode prog_11_method_9_code 16 = .ok (.iconst 0, 1) := by decide +kernel
theorem d_Tk_isCapital_17 : decode prog_11_method_9_code 17 = .ok (.ireturn, 1) := by decide +kernel
theorem d_Tk_isCapital_6 : decode prog_11_method_9_code 6 = .ok (.iload_n 0, 1) := by decide +kernel
theorem d_Tk_isCapital_7 : decode prog_11_method_9_code 7 = .ok (.bipush 90, 2) := by decide +kernel
theorem d_Tk_isCapital_9 : decode prog_11_method_9_code 9 = .ok (.if_icmp .gt 7, 3) := by decide +kernel
theorem d_Tk_isCapital_12 : decode prog_11_method_9_code 12 = .ok (.iconst 1, 1) := by decide +kernel
theorem d_Tk_isCapital_13 : decode prog_11_method_9_code 13 = .ok (.goto 4, 3) := by decide +kernel
set_option maxHeartbeats 4000000 in
theorem w_Tk_isCapital_0 {l : Launch} {G : gG} {d : Nat} {X : gX} {M : gM} {k : Int → gM → Prop}  {x0 : Int} (hx0 : g32 x0)  (T : (x0 < 65 → (k 0 M)) ∧ (¬ x0 < 65 → ((90 < x0 → (k 0 M)) ∧ (¬ 90 < x0 → (k 1 M))))) : wp l G y_Tk_isCapital (gRm d) false (kkZ X k) false 0 [.val (gI x0)] [] X M 0 0 := by
  refine wp_iload_n d_Tk_isCapital_0 rfl rfl ?_
  refine wp_bipush d_Tk_isCapital_1 ⟨by decide, by decide⟩ ?_
  refine xi_lt (tgt := 16) d_Tk_isCapital_3 (by decide) (w32_id hx0) (w32_id (g32_c (x := 65) rfl)) (fun h2 => ?_) (fun h2 => ?_)
  · have T := T.1 h2
    refine wp_iconst d_Tk_isCapital_16 ?_
    exact wp_zreturn d_Tk_isCapital_17 rfl (g_narz (⟨by decide, by decide⟩ : (0 : Int) ≤ 0 ∧ (0 : Int) ≤ 1)) id (Nat.zero_le _) (Nat.zero_le _) (kZ_mk (⟨by decide, by decide⟩ : (0 : Int) ≤ 0 ∧ (0 : Int) ≤ 1) T)
  · have T := T.2 h2
    refine wp_iload_n d_Tk_isCapital_6 rfl rfl ?_
    refine wp_bipush d_Tk_isCapital_7 ⟨by decide, by decide⟩ ?_
    refine xi_gt (tgt := 16) d_Tk_isCapital_9 (by decide) (w32_id hx0) (w32_id (g32_c (x := 90) rfl)) (fun h1 => ?_) (fun h1 => ?_)
    · have T := T.1 h1
      refine wp_iconst d_Tk_isCapital_16 ?_
      exact wp_zreturn d_Tk_isCapital_17 rfl (g_narz (⟨by decide, by decide⟩ : (0 : Int) ≤ 0 ∧ (0 : Int) ≤ 1)) id (Nat.zero_le _) (Nat.zero_le _) (kZ_mk (⟨by decide, by decide⟩ : (0 : Int) ≤ 0 ∧ (0 : Int) ≤ 1) T)
    · have T := T.2 h1
      refine wp_iconst d_Tk_isCapital_12 ?_
      refine wp_goto (tgt := 17) d_Tk_isCapital_13 (by decide) ?_
      exact wp_zreturn d_Tk_isCapital_17 rfl (g_narz (⟨by decide, by decide⟩ : (0 : Int) ≤ 1 ∧ (1 : Int) ≤ 1)) id (Nat.zero_le _) (Nat.zero_le _) (kZ_mk (⟨by decide, by decide⟩ : (0 : Int) ≤ 1 ∧ (1 : Int) ≤ 1) T)
theorem e_Tk_isCapital {l : Launch} {G : gG} {d : Nat} {X : gX} {M : gM} {k : Int → gM → Prop}  {x0 : Int} (T : wp l G y_Tk_isCapital (gRm d) false (kkZ X k) false 0 [.val (gI x0)] [] X M 0 0) : cZ l G y_Tk_isCapital (gRm d) false [gI x0] X M k := cen_Z (plainFor_of_name rfl) (by simp only [lg_sl_R, lg_sl_I, lg_sl_L, lg_sl_N, List.length_cons, List.length_nil]; decide) (by unfold gEn; simp only [lg_sl_R, lg_sl_I, lg_sl_L, lg_sl_N]; exact wpt T (And.intro rfl True.intro))
theorem d_Tk_isName_0 : decode prog_11_method_10_code 0 = .ok (.iload_n 1, 1) := by decide +kernel
theorem d_Tk_isName_1 : decode prog_11_method_10_code 1 = .ok (.istore_n 3, 1) := by decide +kernel
theorem d_Tk_isName_2 : decode prog_11_method_10_code 2 = .ok (.iload_n 3, 1) := by decide +kernel
theorem d_Tk_isName_3 : decode prog_11_method_10_code 3 = .ok (.iload_n 2, 1) := by decide +kernel
theorem d_Tk_isName_4 : decode prog_11_method_10_code 4 = .ok (.if_icmp .ge 23, 3) := by decide +kernel
theorem d_Tk_isName_27 : decode prog_11_method_10_code 27 = .ok (.iload_n 2, 1) := by decide +kernel
theorem d_Tk_isName_28 : decode prog_11_method_10_code 28 = .ok (.iload_n 1, 1) := by decide +kernel
theorem d_Tk_isName_29 : decode prog_11_method_10_code 29 = .ok (.isub, 1) := by decide +kernel
theorem d_Tk_isName_30 : decode prog_11_method_10_code 30 = .ok (.iconst 2, 1) := by decide +kernel
theorem d_Tk_isName_31 : decode prog_11_method_10_code 31 = .ok (.if_icmp .lt 15, 3) := by decide +kernel
theorem d_Tk_isName_46 : decode prog_11_method_10_code 46 = .ok (.iconst 0, 1) := by decide +kernel
theorem d_Tk_isName_47 : decode prog_11_method_10_code 47 = .ok (.ireturn, 1) := by decide +kernel
theorem d_Tk_isName_34 : decode prog_11_method_10_code 34 = .ok (.iload_n 2, 1) := by decide +kernel
theorem d_Tk_isName_35 : decode prog_11_method_10_code 35 = .ok (.iload_n 1, 1) := by decide +kernel
theorem d_Tk_isName_36 : decode prog_11_method_10_code 36 = .ok (.isub, 1) := by decide +kernel
theorem d_Tk_isName_37 : decode prog_11_method_10_code 37 = .ok (.bipush 12, 2) := by decide +kernel
theorem d_Tk_isName_39 : decode prog_11_method_10_code 39 = .ok (.if_icmp .gt 7, 3) := by decide +kernel
theorem d_Tk_isName_42 : decode prog_11_method_10_code 42 = .ok (.iconst 1, 1) := by decide +kernel
theorem d_Tk_isName_43 : decode prog_11_method_10_code 43 = .ok (.goto 4, 3) := by decide +kernel
theorem d_Tk_isName_7 : decode prog_11_method_10_code 7 = .ok (.aload_n 0, 1) := by decide +kernel
theorem d_Tk_isName_8 : decode prog_11_method_10_code 8 = .ok (.getfield 24, 3) := by decide +kernel
theorem d_Tk_isName_11 : decode prog_11_method_10_code 11 = .ok (.iload_n 3, 1) := by decide +kernel
theorem d_Tk_isName_12 : decode prog_11_method_10_code 12 = .ok (.baload, 1) := by decide +kernel
theorem d_Tk_isName_13 : decode prog_11_method_10_code 13 = .ok (.invokestatic 74, 3) := by decide +kernel
theorem d_Tk_isName_16 : decode prog_11_method_10_code 16 = .ok (.ifCond .ne 5, 3) := by decide +kernel
theorem d_Tk_isName_21 : decode prog_11_method_10_code 21 = .ok (.iinc 3 1, 3) := by decide +kernel
theorem d_Tk_isName_24 : decode prog_11_method_10_code 24 = .ok (.goto (-22), 3) := by decide +kernel
theorem d_Tk_isName_19 : decode prog_11_method_10_code 19 = .ok (.iconst 0, 1) := by decide +kernel
theorem d_Tk_isName_20 : decode prog_11_method_10_code 20 = .ok (.ireturn, 1) := by decide +kernel
set_option maxHeartbeats 4000000 in
theorem w_Tk_isName_0 {l : Launch} {G : gG} {d : Nat} {X : gX} {M : gM} {k : Int → gM → Prop} {c : Nat} (hX : glX X c) {x1 : Int} (hx1 : g32 x1) {x2 : Int} (hx2 : g32 x2)  (T : wp l G y_Tk_isName (gRm (d + 1)) false (kkZ X k) false 2 [.val (gR G (c + 16)), .val (gI x1), .val (gI x2), .val (gI x1)] [] X M 0 0) : wp l G y_Tk_isName (gRm (d + 1)) false (kkZ X k) false 0 [.val (gR G (c + 16)), .val (gI x1), .val (gI x2), .unset] [] X M 0 0 := by
  refine wp_iload_n d_Tk_isName_0 rfl rfl ?_
  refine wp_istore_n (L' := [.val (gR G (c + 16)), .val (gI x1), .val (gI x2), .val (gI x1)]) d_Tk_isName_1 rfl (by decide) rfl ?_
  exact (wpt T (And.intro rfl (And.intro rfl (And.intro rfl (And.intro rfl True.intro)))))
set_option maxHeartbeats 4000000 in
theorem w_Tk_isName_2 {l : Launch} {G : gG} {d : Nat} {X : gX} {M : gM} {k : Int → gM → Prop} {c : Nat} (hX : glX X c) {x1 : Int} (hx1 : g32 x1) {x2 : Int} (hx2 : g32 x2) {x3 : Int} (hx3 : g32 x3)  (T : (x2 ≤ x3 → (((w32 (x2 - x1)) < 2 → (k 0 M)) ∧ (¬ (w32 (x2 - x1)) < 2 → ((12 < (w32 (x2 - x1)) → (k 0 M)) ∧ (¬ 12 < (w32 (x2 - x1)) → (k 1 M)))))) ∧ (¬ x2 ≤ x3 → (((0 : Int) ≤ x3 ∧ x3 < 240) ∧ ((-128 ≤ M (c + 1) (Int.toNat x3) ∧ M (c + 1) (Int.toNat x3) < 128) → (cZ l G y_Tk_isCapital (gRm d) false [gI (M (c + 1) (Int.toNat x3))] X M (fun v5 M4 => ((¬ v5 = 0 → (wp l G y_Tk_isName (gRm (d + 1)) false (kkZ X k) false 2 [.val (gR G (c + 16)), .val (gI x1), .val (gI x2), .val (gI (w32 (x3 + 1)))] [] X M4 0 0)) ∧ (v5 = 0 → (k 0 M4))))))))) : wp l G y_Tk_isName (gRm (d + 1)) false (kkZ X k) false 2 [.val (gR G (c + 16)), .val (gI x1), .val (gI x2), .val (gI x3)] [] X M 0 0 := by
  refine wp_iload_n d_Tk_isName_2 rfl rfl ?_
  refine wp_iload_n d_Tk_isName_3 rfl rfl ?_
  refine xi_ge (tgt := 27) d_Tk_isName_4 (by decide) (w32_id hx3) (w32_id hx2) (fun h8 => ?_) (fun h8 => ?_)
  · have T := T.1 h8
    refine wp_iload_n d_Tk_isName_27 rfl rfl ?_
    refine wp_iload_n d_Tk_isName_28 rfl rfl ?_
    refine wp_isub d_Tk_isName_29 ?_
    refine wp_iconst d_Tk_isName_30 ?_
    refine xi_lt (tgt := 46) d_Tk_isName_31 (by decide) rfl (w32_id (g32_c (x := 2) rfl)) (fun h2 => ?_) (fun h2 => ?_)
    · have T := T.1 h2
      refine wp_iconst d_Tk_isName_46 ?_
      exact wp_zreturn d_Tk_isName_47 rfl (g_narz (⟨by decide, by decide⟩ : (0 : Int) ≤ 0 ∧ (0 : Int) ≤ 1)) id (Nat.zero_le _) (Nat.zero_le _) (kZ_mk (⟨by decide, by decide⟩ : (0 : Int) ≤ 0 ∧ (0 : Int) ≤ 1) T)
    · have T := T.2 h2
      refine wp_iload_n d_Tk_isName_34 rfl rfl ?_
      refine wp_iload_n d_Tk_isName_35 rfl rfl ?_
      refine wp_isub d_Tk_isName_36 ?_
      refine wp_bipush d_Tk_isName_37 ⟨by decide, by decide⟩ ?_
      refine xi_gt (tgt := 46) d_Tk_isName_39 (by decide) rfl (w32_id (g32_c (x := 12) rfl)) (fun h1 => ?_) (fun h1 => ?_)
      · have T := T.1 h1
        refine wp_iconst d_Tk_isName_46 ?_
        exact wp_zreturn d_Tk_isName_47 rfl (g_narz (⟨by decide, by decide⟩ : (0 : Int) ≤ 0 ∧ (0 : Int) ≤ 1)) id (Nat.zero_le _) (Nat.zero_le _) (kZ_mk (⟨by decide, by decide⟩ : (0 : Int) ≤ 0 ∧ (0 : Int) ≤ 1) T)
      · have T := T.2 h1
        refine wp_iconst d_Tk_isName_42 ?_
        refine wp_goto (tgt := 47) d_Tk_isName_43 (by decide) ?_
        exact wp_zreturn d_Tk_isName_47 rfl (g_narz (⟨by decide, by decide⟩ : (0 : Int) ≤ 1 ∧ (1 : Int) ≤ 1)) id (Nat.zero_le _) (Nat.zero_le _) (kZ_mk (⟨by decide, by decide⟩ : (0 : Int) ≤ 1 ∧ (1 : Int) ≤ 1) T)
  · have T := T.2 h8
    refine wp_aload_n d_Tk_isName_7 rfl rfl (g_nz (gl_1 hX 16)) ?_
    refine xgetR d_Tk_isName_8 gc_Tk f_Tk_24.1 f_Tk_24.2.1 f_Tk_24.2.2.1 (gl_1 hX 16) (gl_2 hX (a := 16) (by decide)) (gl_s hX 16 rfl) f_Tk_24.2.2.2.2.1 (gl_f hX 22 rfl) ?_
    refine wp_iload_n d_Tk_isName_11 rfl rfl ?_
    refine wp_baload d_Tk_isName_12 (gl_1 hX 1) (gl_2 hX (a := 1) (by decide)) (gl_s hX 1 rfl) (g32_n T.1 (by decide)) T.1.1 T.1.2 (fun h3 => ?_)
    have T := T.2 h3
    refine xcS_Z (md' := false) (As := [gI (M (c + 1) (Int.toNat x3))]) (st := []) d_Tk_isName_13 ca_Tk_isCapital ml_Tk_74 sm_Tk_isCapital rfl (by decide) (by decide) rfl id id T (fun v5 M4 h6 T => ?_)
    refine xz_ne (tgt := 21) d_Tk_isName_16 (by decide) (w32_id (g32_z h6)) (fun h7 => ?_) (fun h7 => ?_)
    · have T := T.1 h7
      refine wp_iinc (L' := [.val (gR G (c + 16)), .val (gI x1), .val (gI x2), .val (gI (x3 + 1))]) d_Tk_isName_21 rfl (by decide) rfl ?_
      refine wp_goto (tgt := 2) d_Tk_isName_24 (by decide) ?_
      exact (wpt T (And.intro rfl (And.intro rfl (And.intro rfl (And.intro (gI_w _) True.intro)))))
    · have T := T.2 h7
      refine wp_iconst d_Tk_isName_19 ?_
      exact wp_zreturn d_Tk_isName_20 rfl (g_narz (⟨by decide, by decide⟩ : (0 : Int) ≤ 0 ∧ (0 : Int) ≤ 1)) id (Nat.zero_le _) (Nat.zero_le _) (kZ_mk (⟨by decide, by decide⟩ : (0 : Int) ≤ 0 ∧ (0 : Int) ≤ 1) T)
theorem e_Tk_isName {l : Launch} {G : gG} {d : Nat} {X : gX} {M : gM} {k : Int → gM → Prop} {c : Nat} {x1 : Int} {x2 : Int} (T : wp l G y_Tk_isName (gRm (d + 1)) false (kkZ X k) false 0 [.val (gR G (c + 16)), .val (gI x1), .val (gI x2), .unset] [] X M 0 0) : cZ l G y_Tk_isName (gRm (d + 1)) false [gR G (c + 16), gI x1, gI x2] X M k := cen_Z (plainFor_of_name rfl) (by simp only [lg_sl_R, lg_sl_I, lg_sl_L, lg_sl_N, List.length_cons, List.length_nil]; decide) (by unfold gEn; simp only [lg_sl_R, lg_sl_I, lg_sl_L, lg_sl_N]; exact wpt T (And.intro rfl (And.intro rfl (And.intro rfl True.intro))))
