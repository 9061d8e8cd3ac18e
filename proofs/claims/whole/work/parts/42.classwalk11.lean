/-! Walks of the class's methods, written by wip/whole/gen_class.py -/
theorem d_Vl_writeDigits_0 : decode prog_12_method_13_code 0 = .ok (.aload_n 0, 1) := by decide +kernel
theorem d_Vl_writeDigits_1 : decode prog_12_method_13_code 1 = .ok (.getfield 21, 3) := by decide +kernel
theorem d_Vl_writeDigits_4 : decode prog_12_method_13_code 4 = .ok (.iload_n 1, 1) := by decide +kernel
theorem d_Vl_writeDigits_5 : decode prog_12_method_13_code 5 = .ok (.aaload, 1) := by decide +kernel
theorem d_Vl_writeDigits_6 : decode prog_12_method_13_code 6 = .ok (.astore_n 2, 1) := by decide +kernel
theorem d_Vl_writeDigits_7 : decode prog_12_method_13_code 7 = .ok (.aload_n 0, 1) := by decide +kernel
theorem d_Vl_writeDigits_8 : decode prog_12_method_13_code 8 = .ok (.getfield 15, 3) := by decide +kernel
theorem d_Vl_writeDigits_11 : decode prog_12_method_13_code 11 = .ok (.iload_n 1, 1) := by decide +kernel
theorem d_Vl_writeDigits_12 : decode prog_12_method_13_code 12 = .ok (.laload, 1) := by decide +kernel
theorem d_Vl_writeDigits_13 : decode prog_12_method_13_code 13 = .ok (.lstore_n 3, 1) := by decide +kernel
theorem d_Vl_writeDigits_14 : decode prog_12_method_13_code 14 = .ok (.iconst 0, 1) := by decide +kernel
theorem d_Vl_writeDigits_15 : decode prog_12_method_13_code 15 = .ok (.istore 5, 2) := by decide +kernel
theorem d_Vl_writeDigits_17 : decode prog_12_method_13_code 17 = .ok (.iconst 1, 1) := by decide +kernel
theorem d_Vl_writeDigits_18 : decode prog_12_method_13_code 18 = .ok (.istore 6, 2) := by decide +kernel
theorem d_Vl_writeDigits_20 : decode prog_12_method_13_code 20 = .ok (.iload 6, 2) := by decide +kernel
theorem d_Vl_writeDigits_22 : decode prog_12_method_13_code 22 = .ok (.ifCond .eq 53, 3) := by decide +kernel
theorem d_Vl_writeDigits_75 : decode prog_12_method_13_code 75 = .ok (.aload_n 0, 1) := by decide +kernel
theorem d_Vl_writeDigits_76 : decode prog_12_method_13_code 76 = .ok (.getfield 15, 3) := by decide +kernel
theorem d_Vl_writeDigits_79 : decode prog_12_method_13_code 79 = .ok (.iload_n 1, 1) := by decide +kernel
theorem d_Vl_writeDigits_80 : decode prog_12_method_13_code 80 = .ok (.laload, 1) := by decide +kernel
theorem d_Vl_writeDigits_81 : decode prog_12_method_13_code 81 = .ok (.lconst 0, 1) := by decide +kernel
theorem d_Vl_writeDigits_82 : decode prog_12_method_13_code 82 = .ok (.lcmp, 1) := by decide +kernel
theorem d_Vl_writeDigits_83 : decode prog_12_method_13_code 83 = .ok (.ifCond .ge 12, 3) := by decide +kernel
theorem d_Vl_writeDigits_95 : decode prog_12_method_13_code 95 = .ok (.iconst 0, 1) := by decide +kernel
theorem d_Vl_writeDigits_96 : decode prog_12_method_13_code 96 = .ok (.istore 6, 2) := by decide +kernel
theorem d_Vl_writeDigits_86 : decode prog_12_method_13_code 86 = .ok (.aload_n 2, 1) := by decide +kernel
theorem d_Vl_writeDigits_87 : decode prog_12_method_13_code 87 = .ok (.iload 5, 2) := by decide +kernel
theorem d_Vl_writeDigits_89 : decode prog_12_method_13_code 89 = .ok (.bipush 45, 2) := by decide +kernel
theorem d_Vl_writeDigits_91 : decode prog_12_method_13_code 91 = .ok (.bastore, 1) := by decide +kernel
theorem d_Vl_writeDigits_92 : decode prog_12_method_13_code 92 = .ok (.iinc 5 1, 3) := by decide +kernel
theorem d_Vl_writeDigits_25 : decode prog_12_method_13_code 25 = .ok (.iload 5, 2) := by decide +kernel
theorem d_Vl_writeDigits_27 : decode prog_12_method_13_code 27 = .ok (.bipush 64, 2) := by decide +kernel
theorem d_Vl_writeDigits_29 : decode prog_12_method_13_code 29 = .ok (.if_icmp .ge 46, 3) := by decide +kernel
theorem d_Vl_writeDigits_32 : decode prog_12_method_13_code 32 = .ok (.aload_n 2, 1) := by decide +kernel
theorem d_Vl_writeDigits_33 : decode prog_12_method_13_code 33 = .ok (.iload 5, 2) := by decide +kernel
theorem d_Vl_writeDigits_35 : decode prog_12_method_13_code 35 = .ok (.ldc2_w 93, 3) := by decide +kernel
theorem d_Vl_writeDigits_38 : decode prog_12_method_13_code 38 = .ok (.lload_n 3, 1) := by decide +kernel
theorem d_Vl_writeDigits_39 : decode prog_12_method_13_code 39 = .ok (.ldc2_w 95, 3) := by decide +kernel
theorem d_Vl_writeDigits_42 : decode prog_12_method_13_code 42 = .ok (.lrem, 1) := by decide +kernel
theorem d_Vl_writeDigits_43 : decode prog_12_method_13_code 43 = .ok (.invokestatic 97, 3) := by decide +kernel
theorem d_Vl_writeDigits_46 : decode prog_12_method_13_code 46 = .ok (.ladd, 1) := by decide +kernel
theorem d_Vl_writeDigits_47 : decode prog_12_method_13_code 47 = .ok (.l2i, 1) := by decide +kernel
theorem d_Vl_writeDigits_48 : decode prog_12_method_13_code 48 = .ok (.i2b, 1) := by decide +kernel
theorem d_Vl_writeDigits_49 : decode prog_12_method_13_code 49 = .ok (.bastore, 1) := by decide +kernel
theorem d_Vl_writeDigits_50 : decode prog_12_method_13_code 50 = .ok (.lload_n 3, 1) := by decide +kernel
theorem d_Vl_writeDigits_51 : decode prog_12_method_13_code 51 = .ok (.ldc2_w 95, 3) := by decide +kernel
theorem d_Vl_writeDigits_54 : decode prog_12_method_13_code 54 = .ok (.ldiv, 1) := by decide +kernel
theorem d_Vl_writeDigits_55 : decode prog_12_method_13_code 55 = .ok (.lstore_n 3, 1) := by decide +kernel
theorem d_Vl_writeDigits_56 : decode prog_12_method_13_code 56 = .ok (.iinc 5 1, 3) := by decide +kernel
theorem d_Vl_writeDigits_59 : decode prog_12_method_13_code 59 = .ok (.lload_n 3, 1) := by decide +kernel
theorem d_Vl_writeDigits_60 : decode prog_12_method_13_code 60 = .ok (.lconst 0, 1) := by decide +kernel
theorem d_Vl_writeDigits_61 : decode prog_12_method_13_code 61 = .ok (.lcmp, 1) := by decide +kernel
theorem d_Vl_writeDigits_62 : decode prog_12_method_13_code 62 = .ok (.ifCond .eq 7, 3) := by decide +kernel
theorem d_Vl_writeDigits_69 : decode prog_12_method_13_code 69 = .ok (.iconst 0, 1) := by decide +kernel
theorem d_Vl_writeDigits_70 : decode prog_12_method_13_code 70 = .ok (.istore 6, 2) := by decide +kernel
theorem d_Vl_writeDigits_72 : decode prog_12_method_13_code 72 = .ok (.goto (-52), 3) := by decide +kernel
theorem d_Vl_writeDigits_65 : decode prog_12_method_13_code 65 = .ok (.iconst 1, 1) := by decide +kernel
theorem d_Vl_writeDigits_66 : decode prog_12_method_13_code 66 = .ok (.goto 4, 3) := by decide +kernel
theorem d_Vl_writeDigits_98 : decode prog_12_method_13_code 98 = .ok (.iload 6, 2) := by decide +kernel
theorem d_Vl_writeDigits_100 : decode prog_12_method_13_code 100 = .ok (.iload 5, 2) := by decide +kernel
theorem d_Vl_writeDigits_102 : decode prog_12_method_13_code 102 = .ok (.iconst 2, 1) := by decide +kernel
theorem d_Vl_writeDigits_103 : decode prog_12_method_13_code 103 = .ok (.idiv, 1) := by decide +kernel
theorem d_Vl_writeDigits_104 : decode prog_12_method_13_code 104 = .ok (.if_icmp .ge 39, 3) := by decide +kernel
theorem d_Vl_writeDigits_143 : decode prog_12_method_13_code 143 = .ok (.aload_n 0, 1) := by decide +kernel
theorem d_Vl_writeDigits_144 : decode prog_12_method_13_code 144 = .ok (.getfield 15, 3) := by decide +kernel
theorem d_Vl_writeDigits_147 : decode prog_12_method_13_code 147 = .ok (.iload_n 1, 1) := by decide +kernel
theorem d_Vl_writeDigits_148 : decode prog_12_method_13_code 148 = .ok (.iload 5, 2) := by decide +kernel
theorem d_Vl_writeDigits_150 : decode prog_12_method_13_code 150 = .ok (.i2l, 1) := by decide +kernel
theorem d_Vl_writeDigits_151 : decode prog_12_method_13_code 151 = .ok (.lastore, 1) := by decide +kernel
theorem d_Vl_writeDigits_152 : decode prog_12_method_13_code 152 = .ok (.return_, 1) := by decide +kernel
theorem d_Vl_writeDigits_107 : decode prog_12_method_13_code 107 = .ok (.aload_n 2, 1) := by decide +kernel
theorem d_Vl_writeDigits_108 : decode prog_12_method_13_code 108 = .ok (.iload 6, 2) := by decide +kernel
theorem d_Vl_writeDigits_110 : decode prog_12_method_13_code 110 = .ok (.baload, 1) := by decide +kernel
theorem d_Vl_writeDigits_111 : decode prog_12_method_13_code 111 = .ok (.istore 7, 2) := by decide +kernel
theorem d_Vl_writeDigits_113 : decode prog_12_method_13_code 113 = .ok (.aload_n 2, 1) := by decide +kernel
theorem d_Vl_writeDigits_114 : decode prog_12_method_13_code 114 = .ok (.iload 6, 2) := by decide +kernel
theorem d_Vl_writeDigits_116 : decode prog_12_method_13_code 116 = .ok (.aload_n 2, 1) := by decide +kernel
theorem d_Vl_writeDigits_117 : decode prog_12_method_13_code 117 = .ok (.iload 5, 2) := by decide +kernel
theorem d_Vl_writeDigits_119 : decode prog_12_method_13_code 119 = .ok (.iconst 1, 1) := by decide +kernel
theorem d_Vl_writeDigits_120 : decode prog_12_method_13_code 120 = .ok (.isub, 1) := by decide +kernel
theorem d_Vl_writeDigits_121 : decode prog_12_method_13_code 121 = .ok (.iload 6, 2) := by decide +kernel
theorem d_Vl_writeDigits_123 : decode prog_12_method_13_code 123 = .ok (.isub, 1) := by decide +kernel
theorem d_Vl_writeDigits_124 : decode prog_12_method_13_code 124 = .ok (.baload, 1) := by decide +kernel
theorem d_Vl_writeDigits_125 : decode prog_12_method_13_code 125 = .ok (.bastore, 1) := by decide +kernel
theorem d_Vl_writeDigits_126 : decode prog_12_method_13_code 126 = .ok (.aload_n 2, 1) := by decide +kernel
theorem d_Vl_writeDigits_127 : decode prog_12_method_13_code 127 = .ok (.iload 5, 2) := by decide +kernel
theorem d_Vl_writeDigits_129 : decode prog_12_method_13_code 129 = .ok (.iconst 1, 1) := by decide +kernel
theorem d_Vl_writeDigits_130 : decode prog_12_method_13_code 130 = .ok (.isub, 1) := by decide +kernel
theorem d_Vl_writeDigits_131 : decode prog_12_method_13_code 131 = .ok (.iload 6, 2) := by decide +kernel
theorem d_Vl_writeDigits_133 : decode prog_12_method_13_code 133 = .ok (.isub, 1) := by decide +kernel
theorem d_Vl_writeDigits_134 : decode prog_12_method_13_code 134 = .ok (.iload 7, 2) := by decide +kernel
theorem d_Vl_writeDigits_136 : decode prog_12_method_13_code 136 = .ok (.bastore, 1) := by decide +kernel
theorem d_Vl_writeDigits_137 : decode prog_12_method_13_code 137 = .ok (.iinc 6 1, 3) := by decide +kernel
theorem d_Vl_writeDigits_140 : decode prog_12_method_13_code 140 = .ok (.goto (-42), 3) := by decide +kernel
set_option maxHeartbeats 4000000 in
theorem w_Vl_writeDigits_0 {l : Launch} {G : gG} {d : Nat} {X : gX} {M : gM} {k : gM → Prop} {v n : Nat} (hV : gvX X v n) {x1 : Int} (hx1 : g32 x1)  (T : ((0 : Int) ≤ x1 ∧ x1 < (n : Int)) ∧ (((0 : Int) ≤ x1 ∧ x1 < (n : Int)) ∧ (g64 (M (v + 2) (Int.toNat x1)) → (wp l G y_Vl_writeDigits (gRm (d + 1)) true (kkV X k) true 20 [.val (gR G v), .val (gI x1), .val (gR G (v + 4 + Int.toNat x1)), .val (gL (M (v + 2) (Int.toNat x1))), .unset, .val (gI 0), .val (gI 1), .unset] [] X M 0 0)))) : wp l G y_Vl_writeDigits (gRm (d + 1)) true (kkV X k) false 0 [.val (gR G v), .val (gI x1), .unset, .unset, .unset, .unset, .unset, .unset] [] X M 0 0 := by
  refine wp_aload_n d_Vl_writeDigits_0 rfl rfl (g_nz hV.1) ?_
  refine xgetR d_Vl_writeDigits_1 gc_Vl f_Vl_21.1 f_Vl_21.2.1 f_Vl_21.2.2.1 hV.1 (gv_2 hV) hV.2.2.1 f_Vl_21.2.2.2.2.1 (gv_r3 hV).1 ?_
  refine wp_iload_n d_Vl_writeDigits_4 rfl rfl ?_
  have h1 := T.1
  refine xaald d_Vl_writeDigits_5 (Or.inl rfl) (gv_r3 hV).2.2.1 (gv_r3 hV).2.2.2 (gv_r3 hV).2.1 (g32_n h1 (gv_n hV)) h1.1 h1.2 (gv_row hV h1).1 ?_
  have T := T.2
  refine wp_astore_n (L' := [.val (gR G v), .val (gI x1), .val (gR G (v + 4 + Int.toNat x1)), .unset, .unset, .unset, .unset, .unset]) d_Vl_writeDigits_6 rfl (g_nz (gv_row hV h1).2.2.1) (by decide) rfl ?_
  refine wp_aload_n d_Vl_writeDigits_7 rfl rfl (g_nz hV.1) ?_
  refine xgetR d_Vl_writeDigits_8 gc_Vl f_Vl_15.1 f_Vl_15.2.1 f_Vl_15.2.2.1 hV.1 (gv_2 hV) hV.2.2.1 f_Vl_15.2.2.2.2.1 (gv_r2 hV).1 ?_
  refine wp_iload_n d_Vl_writeDigits_11 rfl rfl ?_
  refine wp_laload d_Vl_writeDigits_12 (gv_r2 hV).2.2.1 (gv_r2 hV).2.2.2 (gv_r2 hV).2.1 (g32_n T.1 (gv_n hV)) T.1.1 T.1.2 (fun h2 => ?_)
  have T := T.2 h2
  refine wp_lstore_n (L' := [.val (gR G v), .val (gI x1), .val (gR G (v + 4 + Int.toNat x1)), .val (gL (M (v + 2) (Int.toNat x1))), .unset, .unset, .unset, .unset]) d_Vl_writeDigits_13 rfl (by decide) (gS2_R rfl rfl) ?_
  refine wp_iconst d_Vl_writeDigits_14 ?_
  refine wp_istore (L' := [.val (gR G v), .val (gI x1), .val (gR G (v + 4 + Int.toNat x1)), .val (gL (M (v + 2) (Int.toNat x1))), .unset, .val (gI 0), .unset, .unset]) d_Vl_writeDigits_15 (by decide) rfl ?_
  refine wp_iconst d_Vl_writeDigits_17 ?_
  refine wp_istore (L' := [.val (gR G v), .val (gI x1), .val (gR G (v + 4 + Int.toNat x1)), .val (gL (M (v + 2) (Int.toNat x1))), .unset, .val (gI 0), .val (gI 1), .unset]) d_Vl_writeDigits_18 (by decide) rfl ?_
  exact wp_md (wpt T (And.intro rfl (And.intro rfl (And.intro rfl (And.intro rfl (And.intro rfl (And.intro rfl True.intro)))))))
set_option maxHeartbeats 4000000 in
theorem w_Vl_writeDigits_20 {l : Launch} {G : gG} {d : Nat} {X : gX} {M : gM} {k : gM → Prop} {v n : Nat} (hV : gvX X v n) {x1 : Int} (hx1 : g32 x1) {r2 : Nat} (hr2 : 1 ≤ r2 ∧ r2 ≤ X.1 ∧ X.2.1 r2 = (2, 64)) {x3 : Int} (hx3 : g64 x3) {x5 : Int} (hx5 : g32 x5) {x6 : Int} (hx6 : g32 x6)  (T : (x6 = 0 → (((0 : Int) ≤ x1 ∧ x1 < (n : Int)) ∧ (g64 (M (v + 2) (Int.toNat x1)) → ((0 ≤ M (v + 2) (Int.toNat x1) → (wp l G y_Vl_writeDigits (gRm (d + 1)) true (kkV X k) true 98 [.val (gR G v), .val (gI x1), .val (gR G r2), .unset, .unset, .val (gI x5), .val (gI 0), .unset] [] X M 0 0)) ∧ (¬ 0 ≤ M (v + 2) (Int.toNat x1) → (((0 : Int) ≤ x5 ∧ x5 < 64) ∧ (wp l G y_Vl_writeDigits (gRm (d + 1)) true (kkV X k) true 98 [.val (gR G v), .val (gI x1), .val (gR G r2), .unset, .unset, .val (gI (w32 (x5 + 1))), .val (gI 0), .unset] [] X (gUp M r2 (Int.toNat x5) (gByte 45)) 0 0))))))) ∧ (¬ x6 = 0 → ((64 ≤ x5 → (((0 : Int) ≤ x1 ∧ x1 < (n : Int)) ∧ (g64 (M (v + 2) (Int.toNat x1)) → ((0 ≤ M (v + 2) (Int.toNat x1) → (wp l G y_Vl_writeDigits (gRm (d + 1)) true (kkV X k) true 98 [.val (gR G v), .val (gI x1), .val (gR G r2), .unset, .unset, .val (gI x5), .val (gI 0), .unset] [] X M 0 0)) ∧ (¬ 0 ≤ M (v + 2) (Int.toNat x1) → (((0 : Int) ≤ x5 ∧ x5 < 64) ∧ (wp l G y_Vl_writeDigits (gRm (d + 1)) true (kkV X k) true 98 [.val (gR G v), .val (gI x1), .val (gR G r2), .unset, .unset, .val (gI (w32 (x5 + 1))), .val (gI 0), .unset] [] X (gUp M r2 (Int.toNat x5) (gByte 45)) 0 0))))))) ∧ (¬ 64 ≤ x5 → (cL l G y_jMath_abs_2 (gRm d) false [gL (x3.tmod 10)] X M (fun v8 M7 => (((0 : Int) ≤ x5 ∧ x5 < 64) ∧ (((w64 (x3.tdiv 10)) = 0 → (wp l G y_Vl_writeDigits (gRm (d + 1)) true (kkV X k) true 20 [.val (gR G v), .val (gI x1), .val (gR G r2), .val (gL (w64 (x3.tdiv 10))), .unset, .val (gI (w32 (x5 + 1))), .val (gI 0), .unset] [] X (gUp M7 r2 (Int.toNat x5) (gByte (gByte (48 + v8)))) 0 0)) ∧ (¬ (w64 (x3.tdiv 10)) = 0 → (wp l G y_Vl_writeDigits (gRm (d + 1)) true (kkV X k) true 20 [.val (gR G v), .val (gI x1), .val (gR G r2), .val (gL (w64 (x3.tdiv 10))), .unset, .val (gI (w32 (x5 + 1))), .val (gI 1), .unset] [] X (gUp M7 r2 (Int.toNat x5) (gByte (gByte (48 + v8)))) 0 0)))))))))) : wp l G y_Vl_writeDigits (gRm (d + 1)) true (kkV X k) true 20 [.val (gR G v), .val (gI x1), .val (gR G r2), .val (gL x3), .unset, .val (gI x5), .val (gI x6), .unset] [] X M 0 0 := by
  refine wp_iload d_Vl_writeDigits_20 rfl ?_
  refine xz_eq (tgt := 75) d_Vl_writeDigits_22 (by decide) (w32_id hx6) (fun h12 => ?_) (fun h12 => ?_)
  · have T := T.1 h12
    refine wp_aload_n d_Vl_writeDigits_75 rfl rfl (g_nz hV.1) ?_
    refine xgetR d_Vl_writeDigits_76 gc_Vl f_Vl_15.1 f_Vl_15.2.1 f_Vl_15.2.2.1 hV.1 (gv_2 hV) hV.2.2.1 f_Vl_15.2.2.2.2.1 (gv_r2 hV).1 ?_
    refine wp_iload_n d_Vl_writeDigits_79 rfl rfl ?_
    refine wp_laload d_Vl_writeDigits_80 (gv_r2 hV).2.2.1 (gv_r2 hV).2.2.2 (gv_r2 hV).2.1 (g32_n T.1 (gv_n hV)) T.1.1 T.1.2 (fun h3 => ?_)
    have T := T.2 h3
    refine wp_lconst0 d_Vl_writeDigits_81 ?_
    refine xl_ge (tgt := 95) d_Vl_writeDigits_82 d_Vl_writeDigits_83 (by decide) (w64_id h3) (w64_id (g64_c (x := 0) rfl)) (fun h4 => ?_) (fun h4 => ?_)
    · have T := T.1 h4
      refine wp_iconst d_Vl_writeDigits_95 ?_
      refine wp_istore (L' := [.val (gR G v), .val (gI x1), .val (gR G r2), .val (gL x3), .unset, .val (gI x5), .val (gI 0), .unset]) d_Vl_writeDigits_96 (by decide) rfl ?_
      exact wp_md (wpt T (And.intro rfl (And.intro rfl (And.intro rfl (And.intro rfl (And.intro rfl True.intro))))))
    · have T := T.2 h4
      refine wp_aload_n d_Vl_writeDigits_86 rfl rfl (g_nz hr2.1) ?_
      refine wp_iload d_Vl_writeDigits_87 rfl ?_
      refine wp_bipush d_Vl_writeDigits_89 ⟨by decide, by decide⟩ ?_
      refine xbast d_Vl_writeDigits_91 hr2.1 hr2.2.1 hr2.2.2 (by decide) T.1 ?_
      have T := T.2
      refine wp_iinc (L' := [.val (gR G v), .val (gI x1), .val (gR G r2), .val (gL x3), .unset, .val (gI (x5 + 1)), .val (gI x6), .unset]) d_Vl_writeDigits_92 rfl (by decide) rfl ?_
      refine wp_iconst d_Vl_writeDigits_95 ?_
      refine wp_istore (L' := [.val (gR G v), .val (gI x1), .val (gR G r2), .val (gL x3), .unset, .val (gI (x5 + 1)), .val (gI 0), .unset]) d_Vl_writeDigits_96 (by decide) rfl ?_
      exact wp_md (wpt T (And.intro rfl (And.intro rfl (And.intro rfl (And.intro (gI_w _) (And.intro rfl True.intro))))))
  · have T := T.2 h12
    refine wp_iload d_Vl_writeDigits_25 rfl ?_
    refine wp_bipush d_Vl_writeDigits_27 ⟨by decide, by decide⟩ ?_
    refine xi_ge (tgt := 75) d_Vl_writeDigits_29 (by decide) (w32_id hx5) (w32_id (g32_c (x := 64) rfl)) (fun h11 => ?_) (fun h11 => ?_)
    · have T := T.1 h11
      refine wp_aload_n d_Vl_writeDigits_75 rfl rfl (g_nz hV.1) ?_
      refine xgetR d_Vl_writeDigits_76 gc_Vl f_Vl_15.1 f_Vl_15.2.1 f_Vl_15.2.2.1 hV.1 (gv_2 hV) hV.2.2.1 f_Vl_15.2.2.2.2.1 (gv_r2 hV).1 ?_
      refine wp_iload_n d_Vl_writeDigits_79 rfl rfl ?_
      refine wp_laload d_Vl_writeDigits_80 (gv_r2 hV).2.2.1 (gv_r2 hV).2.2.2 (gv_r2 hV).2.1 (g32_n T.1 (gv_n hV)) T.1.1 T.1.2 (fun h5 => ?_)
      have T := T.2 h5
      refine wp_lconst0 d_Vl_writeDigits_81 ?_
      refine xl_ge (tgt := 95) d_Vl_writeDigits_82 d_Vl_writeDigits_83 (by decide) (w64_id h5) (w64_id (g64_c (x := 0) rfl)) (fun h6 => ?_) (fun h6 => ?_)
      · have T := T.1 h6
        refine wp_iconst d_Vl_writeDigits_95 ?_
        refine wp_istore (L' := [.val (gR G v), .val (gI x1), .val (gR G r2), .val (gL x3), .unset, .val (gI x5), .val (gI 0), .unset]) d_Vl_writeDigits_96 (by decide) rfl ?_
        exact wp_md (wpt T (And.intro rfl (And.intro rfl (And.intro rfl (And.intro rfl (And.intro rfl True.intro))))))
      · have T := T.2 h6
        refine wp_aload_n d_Vl_writeDigits_86 rfl rfl (g_nz hr2.1) ?_
        refine wp_iload d_Vl_writeDigits_87 rfl ?_
        refine wp_bipush d_Vl_writeDigits_89 ⟨by decide, by decide⟩ ?_
        refine xbast d_Vl_writeDigits_91 hr2.1 hr2.2.1 hr2.2.2 (by decide) T.1 ?_
        have T := T.2
        refine wp_iinc (L' := [.val (gR G v), .val (gI x1), .val (gR G r2), .val (gL x3), .unset, .val (gI (x5 + 1)), .val (gI x6), .unset]) d_Vl_writeDigits_92 rfl (by decide) rfl ?_
        refine wp_iconst d_Vl_writeDigits_95 ?_
        refine wp_istore (L' := [.val (gR G v), .val (gI x1), .val (gR G r2), .val (gL x3), .unset, .val (gI (x5 + 1)), .val (gI 0), .unset]) d_Vl_writeDigits_96 (by decide) rfl ?_
        exact wp_md (wpt T (And.intro rfl (And.intro rfl (And.intro rfl (And.intro (gI_w _) (And.intro rfl True.intro))))))
    · have T := T.2 h11
      refine wp_aload_n d_Vl_writeDigits_32 rfl rfl (g_nz hr2.1) ?_
      refine wp_iload d_Vl_writeDigits_33 rfl ?_
      refine wp_ldc2 (n := 48) d_Vl_writeDigits_35 c_Vl_93 rfl ?_
      refine wp_lload_n d_Vl_writeDigits_38 rfl rfl ?_
      refine wp_ldc2 (n := 10) d_Vl_writeDigits_39 c_Vl_95 rfl ?_
      refine xlrem d_Vl_writeDigits_42 (w64_id hx3) (w64_id (g64_c (x := 10) rfl)) (by decide) ?_
      refine xcS_L (md' := true) (As := [gL (x3.tmod 10)]) (st := [gL 48, gI x5, gR G r2]) d_Vl_writeDigits_43 ca_jMath_abs_2 ml_Vl_97 sm_jMath_abs_2 rfl (by decide) (by simp only [List.map, gR_cat, gI_cat, gL_cat, List.sum_cons, List.sum_nil]; decide) rfl (fun _ => rfl) (fun _ => rfl) T (fun v8 M7 h9 T => ?_)
      refine wp_ladd d_Vl_writeDigits_46 ?_
      refine wp_l2i d_Vl_writeDigits_47 ?_
      refine wp_i2b d_Vl_writeDigits_48 ?_
      refine xbast d_Vl_writeDigits_49 hr2.1 hr2.2.1 hr2.2.2 (by decide) T.1 ?_
      have T := T.2
      refine wp_lload_n d_Vl_writeDigits_50 rfl rfl ?_
      refine wp_ldc2 (n := 10) d_Vl_writeDigits_51 c_Vl_95 rfl ?_
      refine xldiv d_Vl_writeDigits_54 (w64_id hx3) (w64_id (g64_c (x := 10) rfl)) (by decide) ?_
      refine wp_lstore_n (L' := [.val (gR G v), .val (gI x1), .val (gR G r2), .val (gL (x3.tdiv 10)), .unset, .val (gI x5), .val (gI x6), .unset]) d_Vl_writeDigits_55 rfl (by decide) (gS2_R rfl rfl) ?_
      refine wp_iinc (L' := [.val (gR G v), .val (gI x1), .val (gR G r2), .val (gL (x3.tdiv 10)), .unset, .val (gI (x5 + 1)), .val (gI x6), .unset]) d_Vl_writeDigits_56 rfl (by decide) rfl ?_
      refine wp_lload_n d_Vl_writeDigits_59 rfl rfl ?_
      refine wp_lconst0 d_Vl_writeDigits_60 ?_
      refine xl_eq (tgt := 69) d_Vl_writeDigits_61 d_Vl_writeDigits_62 (by decide) rfl (w64_id (g64_c (x := 0) rfl)) (fun h10 => ?_) (fun h10 => ?_)
      · have T := T.1 h10
        refine wp_iconst d_Vl_writeDigits_69 ?_
        refine wp_istore (L' := [.val (gR G v), .val (gI x1), .val (gR G r2), .val (gL (x3.tdiv 10)), .unset, .val (gI (x5 + 1)), .val (gI 0), .unset]) d_Vl_writeDigits_70 (by decide) rfl ?_
        refine wp_goto (tgt := 20) d_Vl_writeDigits_72 (by decide) ?_
        exact wp_md (wpt T (And.intro rfl (And.intro rfl (And.intro rfl (And.intro (gL_w _) (And.intro (gI_w _) (And.intro rfl True.intro)))))))
      · have T := T.2 h10
        refine wp_iconst d_Vl_writeDigits_65 ?_
        refine wp_goto (tgt := 70) d_Vl_writeDigits_66 (by decide) ?_
        refine wp_istore (L' := [.val (gR G v), .val (gI x1), .val (gR G r2), .val (gL (x3.tdiv 10)), .unset, .val (gI (x5 + 1)), .val (gI 1), .unset]) d_Vl_writeDigits_70 (by decide) rfl ?_
        refine wp_goto (tgt := 20) d_Vl_writeDigits_72 (by decide) ?_
        exact wp_md (wpt T (And.intro rfl (And.intro rfl (And.intro rfl (And.intro (gL_w _) (And.intro (gI_w _) (And.intro rfl True.intro)))))))
set_option maxHeartbeats 4000000 in
theorem w_Vl_writeDigits_98 {l : Launch} {G : gG} {d : Nat} {X : gX} {M : gM} {k : gM → Prop} {v n : Nat} (hV : gvX X v n) {x1 : Int} (hx1 : g32 x1) {x5 : Int} (hx5 : g32 x5) {x6 : Int} (hx6 : g32 x6) {r2 : Nat} (hr2 : 1 ≤ r2 ∧ r2 ≤ X.1 ∧ X.2.1 r2 = (2, 64))  (T : ((w32 (x5.tdiv 2)) ≤ x6 → (((0 : Int) ≤ x1 ∧ x1 < (n : Int)) ∧ (k (gUp M (v + 2) (Int.toNat x1) x5)))) ∧ (¬ (w32 (x5.tdiv 2)) ≤ x6 → (((0 : Int) ≤ x6 ∧ x6 < 64) ∧ ((-128 ≤ M r2 (Int.toNat x6) ∧ M r2 (Int.toNat x6) < 128) → (((0 : Int) ≤ (x5 - 1) - x6 ∧ (x5 - 1) - x6 < 64) ∧ ((-128 ≤ M r2 (Int.toNat ((x5 - 1) - x6)) ∧ M r2 (Int.toNat ((x5 - 1) - x6)) < 128) → (((0 : Int) ≤ x6 ∧ x6 < 64) ∧ (((0 : Int) ≤ (x5 - 1) - x6 ∧ (x5 - 1) - x6 < 64) ∧ (wp l G y_Vl_writeDigits (gRm (d + 1)) true (kkV X k) true 98 [.val (gR G v), .val (gI x1), .val (gR G r2), .unset, .unset, .val (gI x5), .val (gI (w32 (x6 + 1))), .unset] [] X (gUp (gUp M r2 (Int.toNat x6) (gByte (M r2 (Int.toNat ((x5 - 1) - x6))))) r2 (Int.toNat ((x5 - 1) - x6)) (gByte (M r2 (Int.toNat x6)))) 0 0))))))))) : wp l G y_Vl_writeDigits (gRm (d + 1)) true (kkV X k) true 98 [.val (gR G v), .val (gI x1), .val (gR G r2), .unset, .unset, .val (gI x5), .val (gI x6), .unset] [] X M 0 0 := by
  refine wp_iload d_Vl_writeDigits_98 rfl ?_
  refine wp_iload d_Vl_writeDigits_100 rfl ?_
  refine wp_iconst d_Vl_writeDigits_102 ?_
  refine xidiv d_Vl_writeDigits_103 (w32_id hx5) (w32_id (g32_c (x := 2) rfl)) (by decide) ?_
  refine xi_ge (tgt := 143) d_Vl_writeDigits_104 (by decide) (w32_id hx6) rfl (fun h15 => ?_) (fun h15 => ?_)
  · have T := T.1 h15
    refine wp_aload_n d_Vl_writeDigits_143 rfl rfl (g_nz hV.1) ?_
    refine xgetR d_Vl_writeDigits_144 gc_Vl f_Vl_15.1 f_Vl_15.2.1 f_Vl_15.2.2.1 hV.1 (gv_2 hV) hV.2.2.1 f_Vl_15.2.2.2.2.1 (gv_r2 hV).1 ?_
    refine wp_iload_n d_Vl_writeDigits_147 rfl rfl ?_
    refine wp_iload d_Vl_writeDigits_148 rfl ?_
    refine xi2l d_Vl_writeDigits_150 (w32_id hx5) ?_
    refine xlast d_Vl_writeDigits_151 (gv_r2 hV).2.2.1 (gv_r2 hV).2.2.2 (gv_r2 hV).2.1 (gv_n hV) T.1 (w64_id (g64_32 hx5)) ?_
    have T := T.2
    exact wp_return d_Vl_writeDigits_152 rfl (fun _ => rfl) (Nat.zero_le _) (Nat.zero_le _) (kV_mk T)
  · have T := T.2 h15
    refine wp_aload_n d_Vl_writeDigits_107 rfl rfl (g_nz hr2.1) ?_
    refine wp_iload d_Vl_writeDigits_108 rfl ?_
    refine wp_baload d_Vl_writeDigits_110 hr2.1 hr2.2.1 hr2.2.2 (g32_n T.1 (by decide)) T.1.1 T.1.2 (fun h13 => ?_)
    have T := T.2 h13
    refine wp_istore (L' := [.val (gR G v), .val (gI x1), .val (gR G r2), .unset, .unset, .val (gI x5), .val (gI x6), .val (gI (M r2 (Int.toNat x6)))]) d_Vl_writeDigits_111 (by decide) rfl ?_
    refine wp_aload_n d_Vl_writeDigits_113 rfl rfl (g_nz hr2.1) ?_
    refine wp_iload d_Vl_writeDigits_114 rfl ?_
    refine wp_aload_n d_Vl_writeDigits_116 rfl rfl (g_nz hr2.1) ?_
    refine wp_iload d_Vl_writeDigits_117 rfl ?_
    refine wp_iconst d_Vl_writeDigits_119 ?_
    refine wp_isub d_Vl_writeDigits_120 ?_
    refine wp_iload d_Vl_writeDigits_121 rfl ?_
    refine wp_isub d_Vl_writeDigits_123 ?_
    refine wp_baload d_Vl_writeDigits_124 hr2.1 hr2.2.1 hr2.2.2 (g32_n T.1 (by decide)) T.1.1 T.1.2 (fun h14 => ?_)
    have T := T.2 h14
    refine xbast d_Vl_writeDigits_125 hr2.1 hr2.2.1 hr2.2.2 (by decide) T.1 ?_
    have T := T.2
    refine wp_aload_n d_Vl_writeDigits_126 rfl rfl (g_nz hr2.1) ?_
    refine wp_iload d_Vl_writeDigits_127 rfl ?_
    refine wp_iconst d_Vl_writeDigits_129 ?_
    refine wp_isub d_Vl_writeDigits_130 ?_
    refine wp_iload d_Vl_writeDigits_131 rfl ?_
    refine wp_isub d_Vl_writeDigits_133 ?_
    refine wp_iload d_Vl_writeDigits_134 rfl ?_
    refine xbast d_Vl_writeDigits_136 hr2.1 hr2.2.1 hr2.2.2 (by decide) T.1 ?_
    have T := T.2
    refine wp_iinc (L' := [.val (gR G v), .val (gI x1), .val (gR G r2), .unset, .unset, .val (gI x5), .val (gI (x6 + 1)), .val (gI (M r2 (Int.toNat x6)))]) d_Vl_writeDigits_137 rfl (by decide) rfl ?_
    refine wp_goto (tgt := 98) d_Vl_writeDigits_140 (by decide) ?_
    exact wp_md (wpt T (And.intro rfl (And.intro rfl (And.intro rfl (And.intro rfl (And.intro (gI_w _) True.intro))))))
theorem e_Vl_writeDigits {l : Launch} {G : gG} {d : Nat} {X : gX} {M : gM} {k : gM → Prop} {v : Nat} {x1 : Int} (T : wp l G y_Vl_writeDigits (gRm (d + 1)) true (kkV X k) false 0 [.val (gR G v), .val (gI x1), .unset, .unset, .unset, .unset, .unset, .unset] [] X M 0 0) : cV l G y_Vl_writeDigits (gRm (d + 1)) true [gR G v, gI x1] X M k := cen_V (plainFor_of_name rfl) (by simp only [lg_sl_R, lg_sl_I, lg_sl_L, lg_sl_N, List.length_cons, List.length_nil]; decide) (by unfold gEn; simp only [lg_sl_R, lg_sl_I, lg_sl_L, lg_sl_N]; exact wpt T (And.intro rfl (And.intro rfl True.intro)))
theorem d_Vl_isNumber_0 : decode prog_12_method_14_code 0 = .ok (.iload_n 1, 1) := by decide +kernel
theorem d_Vl_isNumber_1 : decode prog_12_method_14_code 1 = .ok (.iload_n 2, 1) := by decide +kernel
theorem d_Vl_isNumber_2 : decode prog_12_method_14_code 2 = .ok (.if_icmp .ge 15, 3) := by decide +kernel
theorem d_Vl_isNumber_17 : decode prog_12_method_14_code 17 = .ok (.iconst 0, 1) := by decide +kernel
theorem d_Vl_isNumber_18 : decode prog_12_method_14_code 18 = .ok (.istore_n 3, 1) := by decide +kernel
theorem d_Vl_isNumber_19 : decode prog_12_method_14_code 19 = .ok (.iload_n 3, 1) := by decide +kernel
theorem d_Vl_isNumber_20 : decode prog_12_method_14_code 20 = .ok (.ifCond .eq 9, 3) := by decide +kernel
theorem d_Vl_isNumber_29 : decode prog_12_method_14_code 29 = .ok (.iload_n 1, 1) := by decide +kernel
theorem d_Vl_isNumber_30 : decode prog_12_method_14_code 30 = .ok (.istore 4, 2) := by decide +kernel
theorem d_Vl_isNumber_32 : decode prog_12_method_14_code 32 = .ok (.iload_n 3, 1) := by decide +kernel
theorem d_Vl_isNumber_33 : decode prog_12_method_14_code 33 = .ok (.ifCond .eq 9, 3) := by decide +kernel
theorem d_Vl_isNumber_42 : decode prog_12_method_14_code 42 = .ok (.ldc2_w 103, 3) := by decide +kernel
theorem d_Vl_isNumber_45 : decode prog_12_method_14_code 45 = .ok (.lstore 5, 2) := by decide +kernel
theorem d_Vl_isNumber_47 : decode prog_12_method_14_code 47 = .ok (.lconst 0, 1) := by decide +kernel
theorem d_Vl_isNumber_48 : decode prog_12_method_14_code 48 = .ok (.lstore 7, 2) := by decide +kernel
theorem d_Vl_isNumber_50 : decode prog_12_method_14_code 50 = .ok (.iload 4, 2) := by decide +kernel
theorem d_Vl_isNumber_52 : decode prog_12_method_14_code 52 = .ok (.istore 9, 2) := by decide +kernel
theorem d_Vl_isNumber_36 : decode prog_12_method_14_code 36 = .ok (.ldc2_w 101, 3) := by decide +kernel
theorem d_Vl_isNumber_39 : decode prog_12_method_14_code 39 = .ok (.goto 6, 3) := by decide +kernel
theorem d_Vl_isNumber_23 : decode prog_12_method_14_code 23 = .ok (.iload_n 1, 1) := by decide +kernel
theorem d_Vl_isNumber_24 : decode prog_12_method_14_code 24 = .ok (.iconst 1, 1) := by decide +kernel
theorem d_Vl_isNumber_25 : decode prog_12_method_14_code 25 = .ok (.iadd, 1) := by decide +kernel
theorem d_Vl_isNumber_26 : decode prog_12_method_14_code 26 = .ok (.goto 4, 3) := by decide +kernel
theorem d_Vl_isNumber_5 : decode prog_12_method_14_code 5 = .ok (.aload_n 0, 1) := by decide +kernel
theorem d_Vl_isNumber_6 : decode prog_12_method_14_code 6 = .ok (.iload_n 1, 1) := by decide +kernel
theorem d_Vl_isNumber_7 : decode prog_12_method_14_code 7 = .ok (.baload, 1) := by decide +kernel
theorem d_Vl_isNumber_8 : decode prog_12_method_14_code 8 = .ok (.bipush 45, 2) := by decide +kernel
theorem d_Vl_isNumber_10 : decode prog_12_method_14_code 10 = .ok (.if_icmp .ne 7, 3) := by decide +kernel
theorem d_Vl_isNumber_13 : decode prog_12_method_14_code 13 = .ok (.iconst 1, 1) := by decide +kernel
theorem d_Vl_isNumber_14 : decode prog_12_method_14_code 14 = .ok (.goto 4, 3) := by decide +kernel
theorem d_Vl_isNumber_54 : decode prog_12_method_14_code 54 = .ok (.iload 9, 2) := by decide +kernel
theorem d_Vl_isNumber_56 : decode prog_12_method_14_code 56 = .ok (.iload_n 2, 1) := by decide +kernel
theorem d_Vl_isNumber_57 : decode prog_12_method_14_code 57 = .ok (.if_icmp .ge 60, 3) := by decide +kernel
theorem d_Vl_isNumber_117 : decode prog_12_method_14_code 117 = .ok (.iload 4, 2) := by decide +kernel
theorem d_Vl_isNumber_119 : decode prog_12_method_14_code 119 = .ok (.iload_n 2, 1) := by decide +kernel
theorem d_Vl_isNumber_120 : decode prog_12_method_14_code 120 = .ok (.if_icmp .ge 7, 3) := by decide +kernel
theorem d_Vl_isNumber_127 : decode prog_12_method_14_code 127 = .ok (.iconst 0, 1) := by decide +kernel
theorem d_Vl_isNumber_128 : decode prog_12_method_14_code 128 = .ok (.ireturn, 1) := by decide +kernel
theorem d_Vl_isNumber_123 : decode prog_12_method_14_code 123 = .ok (.iconst 1, 1) := by decide +kernel
theorem d_Vl_isNumber_124 : decode prog_12_method_14_code 124 = .ok (.goto 4, 3) := by decide +kernel
theorem d_Vl_isNumber_60 : decode prog_12_method_14_code 60 = .ok (.aload_n 0, 1) := by decide +kernel
theorem d_Vl_isNumber_61 : decode prog_12_method_14_code 61 = .ok (.iload 9, 2) := by decide +kernel
theorem d_Vl_isNumber_63 : decode prog_12_method_14_code 63 = .ok (.baload, 1) := by decide +kernel
theorem d_Vl_isNumber_64 : decode prog_12_method_14_code 64 = .ok (.bipush 48, 2) := by decide +kernel
theorem d_Vl_isNumber_66 : decode prog_12_method_14_code 66 = .ok (.isub, 1) := by decide +kernel
theorem d_Vl_isNumber_67 : decode prog_12_method_14_code 67 = .ok (.istore 10, 2) := by decide +kernel
theorem d_Vl_isNumber_69 : decode prog_12_method_14_code 69 = .ok (.iload 10, 2) := by decide +kernel
theorem d_Vl_isNumber_71 : decode prog_12_method_14_code 71 = .ok (.ifCond .lt 26, 3) := by decide +kernel
theorem d_Vl_isNumber_97 : decode prog_12_method_14_code 97 = .ok (.iconst 0, 1) := by decide +kernel
theorem d_Vl_isNumber_98 : decode prog_12_method_14_code 98 = .ok (.ireturn, 1) := by decide +kernel
theorem d_Vl_isNumber_74 : decode prog_12_method_14_code 74 = .ok (.iload 10, 2) := by decide +kernel
theorem d_Vl_isNumber_76 : decode prog_12_method_14_code 76 = .ok (.bipush 9, 2) := by decide +kernel
theorem d_Vl_isNumber_78 : decode prog_12_method_14_code 78 = .ok (.if_icmp .gt 19, 3) := by decide +kernel
theorem d_Vl_isNumber_81 : decode prog_12_method_14_code 81 = .ok (.lload 7, 2) := by decide +kernel
theorem d_Vl_isNumber_83 : decode prog_12_method_14_code 83 = .ok (.lload 5, 2) := by decide +kernel
theorem d_Vl_isNumber_85 : decode prog_12_method_14_code 85 = .ok (.iload 10, 2) := by decide +kernel
theorem d_Vl_isNumber_87 : decode prog_12_method_14_code 87 = .ok (.i2l, 1) := by decide +kernel
theorem d_Vl_isNumber_88 : decode prog_12_method_14_code 88 = .ok (.ladd, 1) := by decide +kernel
theorem d_Vl_isNumber_89 : decode prog_12_method_14_code 89 = .ok (.ldc2_w 95, 3) := by decide +kernel
theorem d_Vl_isNumber_92 : decode prog_12_method_14_code 92 = .ok (.ldiv, 1) := by decide +kernel
theorem d_Vl_isNumber_93 : decode prog_12_method_14_code 93 = .ok (.lcmp, 1) := by decide +kernel
theorem d_Vl_isNumber_94 : decode prog_12_method_14_code 94 = .ok (.ifCond .ge 5, 3) := by decide +kernel
theorem d_Vl_isNumber_99 : decode prog_12_method_14_code 99 = .ok (.lload 7, 2) := by decide +kernel
theorem d_Vl_isNumber_101 : decode prog_12_method_14_code 101 = .ok (.ldc2_w 95, 3) := by decide +kernel
theorem d_Vl_isNumber_104 : decode prog_12_method_14_code 104 = .ok (.lmul, 1) := by decide +kernel
theorem d_Vl_isNumber_105 : decode prog_12_method_14_code 105 = .ok (.iload 10, 2) := by decide +kernel
theorem d_Vl_isNumber_107 : decode prog_12_method_14_code 107 = .ok (.i2l, 1) := by decide +kernel
theorem d_Vl_isNumber_108 : decode prog_12_method_14_code 108 = .ok (.lsub, 1) := by decide +kernel
theorem d_Vl_isNumber_109 : decode prog_12_method_14_code 109 = .ok (.lstore 7, 2) := by decide +kernel
theorem d_Vl_isNumber_111 : decode prog_12_method_14_code 111 = .ok (.iinc 9 1, 3) := by decide +kernel
theorem d_Vl_isNumber_114 : decode prog_12_method_14_code 114 = .ok (.goto (-60), 3) := by decide +kernel
set_option maxHeartbeats 4000000 in
theorem w_Vl_isNumber_0 {l : Launch} {G : gG} {d : Nat} {X : gX} {M : gM} {k : Int → gM → Prop}  {r0 n0 : Nat} (hr0 : 1 ≤ r0 ∧ r0 ≤ X.1 ∧ X.2.1 r0 = (2, n0) ∧ n0 ≤ 2147483647) {x1 : Int} (hx1 : g32 x1) {x2 : Int} (hx2 : g32 x2)  (T : (x2 ≤ x1 → (((0 : Int) = 0 → (((0 : Int) = 0 → (wp l G y_Vl_isNumber (gRm d) false (kkZ X k) false 54 [.val (gR G r0), .unset, .val (gI x2), .unset, .val (gI x1), .val (gL (-9223372036854775807)), .unset, .val (gL 0), .unset, .val (gI x1), .unset] [] X M 0 0)) ∧ (¬ (0 : Int) = 0 → (wp l G y_Vl_isNumber (gRm d) false (kkZ X k) false 54 [.val (gR G r0), .unset, .val (gI x2), .unset, .val (gI x1), .val (gL (-9223372036854775808)), .unset, .val (gL 0), .unset, .val (gI x1), .unset] [] X M 0 0)))) ∧ (¬ (0 : Int) = 0 → (((0 : Int) = 0 → (wp l G y_Vl_isNumber (gRm d) false (kkZ X k) false 54 [.val (gR G r0), .unset, .val (gI x2), .unset, .val (gI (w32 (x1 + 1))), .val (gL (-9223372036854775807)), .unset, .val (gL 0), .unset, .val (gI (w32 (x1 + 1))), .unset] [] X M 0 0)) ∧ (¬ (0 : Int) = 0 → (wp l G y_Vl_isNumber (gRm d) false (kkZ X k) false 54 [.val (gR G r0), .unset, .val (gI x2), .unset, .val (gI (w32 (x1 + 1))), .val (gL (-9223372036854775808)), .unset, .val (gL 0), .unset, .val (gI (w32 (x1 + 1))), .unset] [] X M 0 0)))))) ∧ (¬ x2 ≤ x1 → (((0 : Int) ≤ x1 ∧ x1 < (n0 : Int)) ∧ ((-128 ≤ M r0 (Int.toNat x1) ∧ M r0 (Int.toNat x1) < 128) → ((¬ M r0 (Int.toNat x1) = 45 → (((0 : Int) = 0 → (((0 : Int) = 0 → (wp l G y_Vl_isNumber (gRm d) false (kkZ X k) false 54 [.val (gR G r0), .unset, .val (gI x2), .unset, .val (gI x1), .val (gL (-9223372036854775807)), .unset, .val (gL 0), .unset, .val (gI x1), .unset] [] X M 0 0)) ∧ (¬ (0 : Int) = 0 → (wp l G y_Vl_isNumber (gRm d) false (kkZ X k) false 54 [.val (gR G r0), .unset, .val (gI x2), .unset, .val (gI x1), .val (gL (-9223372036854775808)), .unset, .val (gL 0), .unset, .val (gI x1), .unset] [] X M 0 0)))) ∧ (¬ (0 : Int) = 0 → (((0 : Int) = 0 → (wp l G y_Vl_isNumber (gRm d) false (kkZ X k) false 54 [.val (gR G r0), .unset, .val (gI x2), .unset, .val (gI (w32 (x1 + 1))), .val (gL (-9223372036854775807)), .unset, .val (gL 0), .unset, .val (gI (w32 (x1 + 1))), .unset] [] X M 0 0)) ∧ (¬ (0 : Int) = 0 → (wp l G y_Vl_isNumber (gRm d) false (kkZ X k) false 54 [.val (gR G r0), .unset, .val (gI x2), .unset, .val (gI (w32 (x1 + 1))), .val (gL (-9223372036854775808)), .unset, .val (gL 0), .unset, .val (gI (w32 (x1 + 1))), .unset] [] X M 0 0)))))) ∧ (M r0 (Int.toNat x1) = 45 → (((1 : Int) = 0 → (((1 : Int) = 0 → (wp l G y_Vl_isNumber (gRm d) false (kkZ X k) false 54 [.val (gR G r0), .unset, .val (gI x2), .unset, .val (gI x1), .val (gL (-9223372036854775807)), .unset, .val (gL 0), .unset, .val (gI x1), .unset] [] X M 0 0)) ∧ (¬ (1 : Int) = 0 → (wp l G y_Vl_isNumber (gRm d) false (kkZ X k) false 54 [.val (gR G r0), .unset, .val (gI x2), .unset, .val (gI x1), .val (gL (-9223372036854775808)), .unset, .val (gL 0), .unset, .val (gI x1), .unset] [] X M 0 0)))) ∧ (¬ (1 : Int) = 0 → (((1 : Int) = 0 → (wp l G y_Vl_isNumber (gRm d) false (kkZ X k) false 54 [.val (gR G r0), .unset, .val (gI x2), .unset, .val (gI (w32 (x1 + 1))), .val (gL (-9223372036854775807)), .unset, .val (gL 0), .unset, .val (gI (w32 (x1 + 1))), .unset] [] X M 0 0)) ∧ (¬ (1 : Int) = 0 → (wp l G y_Vl_isNumber (gRm d) false (kkZ X k) false 54 [.val (gR G r0), .unset, .val (gI x2), .unset, .val (gI (w32 (x1 + 1))), .val (gL (-9223372036854775808)), .unset, .val (gL 0), .unset, .val (gI (w32 (x1 + 1))), .unset] [] X M 0 0))))))))))) : wp l G y_Vl_isNumber (gRm d) false (kkZ X k) false 0 [.val (gR G r0), .val (gI x1), .val (gI x2), .unset, .unset, .unset, .unset, .unset, .unset, .unset, .unset] [] X M 0 0 := by
  refine wp_iload_n d_Vl_isNumber_0 rfl rfl ?_
  refine wp_iload_n d_Vl_isNumber_1 rfl rfl ?_
  refine xi_ge (tgt := 17) d_Vl_isNumber_2 (by decide) (w32_id hx1) (w32_id hx2) (fun h12 => ?_) (fun h12 => ?_)
  · have T := T.1 h12
    refine wp_iconst d_Vl_isNumber_17 ?_
    refine wp_istore_n (L' := [.val (gR G r0), .val (gI x1), .val (gI x2), .val (gI 0), .unset, .unset, .unset, .unset, .unset, .unset, .unset]) d_Vl_isNumber_18 rfl (by decide) rfl ?_
    refine wp_iload_n d_Vl_isNumber_19 rfl rfl ?_
    refine xz_eq (tgt := 29) d_Vl_isNumber_20 (by decide) (w32_id (g32_c (x := 0) rfl)) (fun h3 => ?_) (fun h3 => ?_)
    · have T := T.1 h3
      refine wp_iload_n d_Vl_isNumber_29 rfl rfl ?_
      refine wp_istore (L' := [.val (gR G r0), .val (gI x1), .val (gI x2), .val (gI 0), .val (gI x1), .unset, .unset, .unset, .unset, .unset, .unset]) d_Vl_isNumber_30 (by decide) rfl ?_
      refine wp_iload_n d_Vl_isNumber_32 rfl rfl ?_
      refine xz_eq (tgt := 42) d_Vl_isNumber_33 (by decide) (w32_id (g32_c (x := 0) rfl)) (fun h1 => ?_) (fun h1 => ?_)
      · have T := T.1 h1
        refine wp_ldc2 (n := (-9223372036854775807)) d_Vl_isNumber_42 c_Vl_103 rfl ?_
        refine wp_lstore (L' := [.val (gR G r0), .val (gI x1), .val (gI x2), .val (gI 0), .val (gI x1), .val (gL (-9223372036854775807)), .unset, .unset, .unset, .unset, .unset]) d_Vl_isNumber_45 (by decide) rfl ?_
        refine wp_lconst0 d_Vl_isNumber_47 ?_
        refine wp_lstore (L' := [.val (gR G r0), .val (gI x1), .val (gI x2), .val (gI 0), .val (gI x1), .val (gL (-9223372036854775807)), .unset, .val (gL 0), .unset, .unset, .unset]) d_Vl_isNumber_48 (by decide) rfl ?_
        refine wp_iload d_Vl_isNumber_50 rfl ?_
        refine wp_istore (L' := [.val (gR G r0), .val (gI x1), .val (gI x2), .val (gI 0), .val (gI x1), .val (gL (-9223372036854775807)), .unset, .val (gL 0), .unset, .val (gI x1), .unset]) d_Vl_isNumber_52 (by decide) rfl ?_
        exact (wpt T (And.intro rfl (And.intro rfl (And.intro rfl (And.intro rfl (And.intro rfl (And.intro rfl True.intro)))))))
      · have T := T.2 h1
        refine wp_ldc2 (n := (-9223372036854775808)) d_Vl_isNumber_36 c_Vl_101 rfl ?_
        refine wp_goto (tgt := 45) d_Vl_isNumber_39 (by decide) ?_
        refine wp_lstore (L' := [.val (gR G r0), .val (gI x1), .val (gI x2), .val (gI 0), .val (gI x1), .val (gL (-9223372036854775808)), .unset, .unset, .unset, .unset, .unset]) d_Vl_isNumber_45 (by decide) rfl ?_
        refine wp_lconst0 d_Vl_isNumber_47 ?_
        refine wp_lstore (L' := [.val (gR G r0), .val (gI x1), .val (gI x2), .val (gI 0), .val (gI x1), .val (gL (-9223372036854775808)), .unset, .val (gL 0), .unset, .unset, .unset]) d_Vl_isNumber_48 (by decide) rfl ?_
        refine wp_iload d_Vl_isNumber_50 rfl ?_
        refine wp_istore (L' := [.val (gR G r0), .val (gI x1), .val (gI x2), .val (gI 0), .val (gI x1), .val (gL (-9223372036854775808)), .unset, .val (gL 0), .unset, .val (gI x1), .unset]) d_Vl_isNumber_52 (by decide) rfl ?_
        exact (wpt T (And.intro rfl (And.intro rfl (And.intro rfl (And.intro rfl (And.intro rfl (And.intro rfl True.intro)))))))
    · have T := T.2 h3
      refine wp_iload_n d_Vl_isNumber_23 rfl rfl ?_
      refine wp_iconst d_Vl_isNumber_24 ?_
      refine wp_iadd d_Vl_isNumber_25 ?_
      refine wp_goto (tgt := 30) d_Vl_isNumber_26 (by decide) ?_
      refine wp_istore (L' := [.val (gR G r0), .val (gI x1), .val (gI x2), .val (gI 0), .val (gI (x1 + 1)), .unset, .unset, .unset, .unset, .unset, .unset]) d_Vl_isNumber_30 (by decide) rfl ?_
      refine wp_iload_n d_Vl_isNumber_32 rfl rfl ?_
      refine xz_eq (tgt := 42) d_Vl_isNumber_33 (by decide) (w32_id (g32_c (x := 0) rfl)) (fun h2 => ?_) (fun h2 => ?_)
      · have T := T.1 h2
        refine wp_ldc2 (n := (-9223372036854775807)) d_Vl_isNumber_42 c_Vl_103 rfl ?_
        refine wp_lstore (L' := [.val (gR G r0), .val (gI x1), .val (gI x2), .val (gI 0), .val (gI (x1 + 1)), .val (gL (-9223372036854775807)), .unset, .unset, .unset, .unset, .unset]) d_Vl_isNumber_45 (by decide) rfl ?_
        refine wp_lconst0 d_Vl_isNumber_47 ?_
        refine wp_lstore (L' := [.val (gR G r0), .val (gI x1), .val (gI x2), .val (gI 0), .val (gI (x1 + 1)), .val (gL (-9223372036854775807)), .unset, .val (gL 0), .unset, .unset, .unset]) d_Vl_isNumber_48 (by decide) rfl ?_
        refine wp_iload d_Vl_isNumber_50 rfl ?_
        refine wp_istore (L' := [.val (gR G r0), .val (gI x1), .val (gI x2), .val (gI 0), .val (gI (x1 + 1)), .val (gL (-9223372036854775807)), .unset, .val (gL 0), .unset, .val (gI (x1 + 1)), .unset]) d_Vl_isNumber_52 (by decide) rfl ?_
        exact (wpt T (And.intro rfl (And.intro rfl (And.intro (gI_w _) (And.intro rfl (And.intro rfl (And.intro (gI_w _) True.intro)))))))
      · have T := T.2 h2
        refine wp_ldc2 (n := (-9223372036854775808)) d_Vl_isNumber_36 c_Vl_101 rfl ?_
        refine wp_goto (tgt := 45) d_Vl_isNumber_39 (by decide) ?_
        refine wp_lstore (L' := [.val (gR G r0), .val (gI x1), .val (gI x2), .val (gI 0), .val (gI (x1 + 1)), .val (gL (-9223372036854775808)), .unset, .unset, .unset, .unset, .unset]) d_Vl_isNumber_45 (by decide) rfl ?_
        refine wp_lconst0 d_Vl_isNumber_47 ?_
        refine wp_lstore (L' := [.val (gR G r0), .val (gI x1), .val (gI x2), .val (gI 0), .val (gI (x1 + 1)), .val (gL (-9223372036854775808)), .unset, .val (gL 0), .unset, .unset, .unset]) d_Vl_isNumber_48 (by decide) rfl ?_
        refine wp_iload d_Vl_isNumber_50 rfl ?_
        refine wp_istore (L' := [.val (gR G r0), .val (gI x1), .val (gI x2), .val (gI 0), .val (gI (x1 + 1)), .val (gL (-9223372036854775808)), .unset, .val (gL 0), .unset, .val (gI (x1 + 1)), .unset]) d_Vl_isNumber_52 (by decide) rfl ?_
        exact (wpt T (And.intro rfl (And.intro rfl (And.intro (gI_w _) (And.intro rfl (And.intro rfl (And.intro (gI_w _) True.intro)))))))
  · have T := T.2 h12
    refine wp_aload_n d_Vl_isNumber_5 rfl rfl (g_nz hr0.1) ?_
    refine wp_iload_n d_Vl_isNumber_6 rfl rfl ?_
    refine wp_baload d_Vl_isNumber_7 hr0.1 hr0.2.1 hr0.2.2.1 (g32_n T.1 (Nat.le_succ_of_le hr0.2.2.2)) T.1.1 T.1.2 (fun h4 => ?_)
    have T := T.2 h4
    refine wp_bipush d_Vl_isNumber_8 ⟨by decide, by decide⟩ ?_
    refine xi_ne (tgt := 17) d_Vl_isNumber_10 (by decide) (w32_id (g32_b h4)) (w32_id (g32_c (x := 45) rfl)) (fun h11 => ?_) (fun h11 => ?_)
    · have T := T.1 h11
      refine wp_iconst d_Vl_isNumber_17 ?_
      refine wp_istore_n (L' := [.val (gR G r0), .val (gI x1), .val (gI x2), .val (gI 0), .unset, .unset, .unset, .unset, .unset, .unset, .unset]) d_Vl_isNumber_18 rfl (by decide) rfl ?_
      refine wp_iload_n d_Vl_isNumber_19 rfl rfl ?_
      refine xz_eq (tgt := 29) d_Vl_isNumber_20 (by decide) (w32_id (g32_c (x := 0) rfl)) (fun h7 => ?_) (fun h7 => ?_)
      · have T := T.1 h7
        refine wp_iload_n d_Vl_isNumber_29 rfl rfl ?_
        refine wp_istore (L' := [.val (gR G r0), .val (gI x1), .val (gI x2), .val (gI 0), .val (gI x1), .unset, .unset, .unset, .unset, .unset, .unset]) d_Vl_isNumber_30 (by decide) rfl ?_
        refine wp_iload_n d_Vl_isNumber_32 rfl rfl ?_
        refine xz_eq (tgt := 42) d_Vl_isNumber_33 (by decide) (w32_id (g32_c (x := 0) rfl)) (fun h5 => ?_) (fun h5 => ?_)
        · have T := T.1 h5
          refine wp_ldc2 (n := (-9223372036854775807)) d_Vl_isNumber_42 c_Vl_103 rfl ?_
          refine wp_lstore (L' := [.val (gR G r0), .val (gI x1), .val (gI x2), .val (gI 0), .val (gI x1), .val (gL (-9223372036854775807)), .unset, .unset, .unset, .unset, .unset]) d_Vl_isNumber_45 (by decide) rfl ?_
          refine wp_lconst0 d_Vl_isNumber_47 ?_
          refine wp_lstore (L' := [.val (gR G r0), .val (gI x1), .val (gI x2), .val (gI 0), .val (gI x1), .val (gL (-9223372036854775807)), .unset, .val (gL 0), .unset, .unset, .unset]) d_Vl_isNumber_48 (by decide) rfl ?_
          refine wp_iload d_Vl_isNumber_50 rfl ?_
          refine wp_istore (L' := [.val (gR G r0), .val (gI x1), .val (gI x2), .val (gI 0), .val (gI x1), .val (gL (-9223372036854775807)), .unset, .val (gL 0), .unset, .val (gI x1), .unset]) d_Vl_isNumber_52 (by decide) rfl ?_
          exact (wpt T (And.intro rfl (And.intro rfl (And.intro rfl (And.intro rfl (And.intro rfl (And.intro rfl True.intro)))))))
        · have T := T.2 h5
          refine wp_ldc2 (n := (-9223372036854775808)) d_Vl_isNumber_36 c_Vl_101 rfl ?_
          refine wp_goto (tgt := 45) d_Vl_isNumber_39 (by decide) ?_
          refine wp_lstore (L' := [.val (gR G r0), .val (gI x1), .val (gI x2), .val (gI 0), .val (gI x1), .val (gL (-9223372036854775808)), .unset, .unset, .unset, .unset, .unset]) d_Vl_isNumber_45 (by decide) rfl ?_
          refine wp_lconst0 d_Vl_isNumber_47 ?_
          refine wp_lstore (L' := [.val (gR G r0), .val (gI x1), .val (gI x2), .val (gI 0), .val (gI x1), .val (gL (-9223372036854775808)), .unset, .val (gL 0), .unset, .unset, .unset]) d_Vl_isNumber_48 (by decide) rfl ?_
          refine wp_iload d_Vl_isNumber_50 rfl ?_
          refine wp_istore (L' := [.val (gR G r0), .val (gI x1), .val (gI x2), .val (gI 0), .val (gI x1), .val (gL (-9223372036854775808)), .unset, .val (gL 0), .unset, .val (gI x1), .unset]) d_Vl_isNumber_52 (by decide) rfl ?_
          exact (wpt T (And.intro rfl (And.intro rfl (And.intro rfl (And.intro rfl (And.intro rfl (And.intro rfl True.intro)))))))
      · have T := T.2 h7
        refine wp_iload_n d_Vl_isNumber_23 rfl rfl ?_
        refine wp_iconst d_Vl_isNumber_24 ?_
        refine wp_iadd d_Vl_isNumber_25 ?_
        refine wp_goto (tgt := 30) d_Vl_isNumber_26 (by decide) ?_
        refine wp_istore (L' := [.val (gR G r0), .val (gI x1), .val (gI x2), .val (gI 0), .val (gI (x1 + 1)), .unset, .unset, .unset, .unset, .unset, .unset]) d_Vl_isNumber_30 (by decide) rfl ?_
        refine wp_iload_n d_Vl_isNumber_32 rfl rfl ?_
        refine xz_eq (tgt := 42) d_Vl_isNumber_33 (by decide) (w32_id (g32_c (x := 0) rfl)) (fun h6 => ?_) (fun h6 => ?_)
        · have T := T.1 h6
          refine wp_ldc2 (n := (-9223372036854775807)) d_Vl_isNumber_42 c_Vl_103 rfl ?_
          refine wp_lstore (L' := [.val (gR G r0), .val (gI x1), .val (gI x2), .val (gI 0), .val (gI (x1 + 1)), .val (gL (-9223372036854775807)), .unset, .unset, .unset, .unset, .unset]) d_Vl_isNumber_45 (by decide) rfl ?_
          refine wp_lconst0 d_Vl_isNumber_47 ?_
          refine wp_lstore (L' := [.val (gR G r0), .val (gI x1), .val (gI x2), .val (gI 0), .val (gI (x1 + 1)), .val (gL (-9223372036854775807)), .unset, .val (gL 0), .unset, .unset, .unset]) d_Vl_isNumber_48 (by decide) rfl ?_
          refine wp_iload d_Vl_isNumber_50 rfl ?_
          refine wp_istore (L' := [.val (gR G r0), .val (gI x1), .val (gI x2), .val (gI 0), .val (gI (x1 + 1)), .val (gL (-9223372036854775807)), .unset, .val (gL 0), .unset, .val (gI (x1 + 1)), .unset]) d_Vl_isNumber_52 (by decide) rfl ?_
          exact (wpt T (And.intro rfl (And.intro rfl (And.intro (gI_w _) (And.intro rfl (And.intro rfl (And.intro (gI_w _) True.intro)))))))
        · have T := T.2 h6
          refine wp_ldc2 (n := (-9223372036854775808)) d_Vl_isNumber_36 c_Vl_101 rfl ?_
          refine wp_goto (tgt := 45) d_Vl_isNumber_39 (by decide) ?_
          refine wp_lstore (L' := [.val (gR G r0), .val (gI x1), .val (gI x2), .val (gI 0), .val (gI (x1 + 1)), .val (gL (-9223372036854775808)), .unset, .unset, .unset, .unset, .unset]) d_Vl_isNumber_45 (by decide) rfl ?_
          refine wp_lconst0 d_Vl_isNumber_47 ?_
          refine wp_lstore (L' := [.val (gR G r0), .val (gI x1), .val (gI x2), .val (gI 0), .val (gI (x1 + 1)), .val (gL (-9223372036854775808)), .unset, .val (gL 0), .unset, .unset, .unset]) d_Vl_isNumber_48 (by decide) rfl ?_
          refine wp_iload d_Vl_isNumber_50 rfl ?_
          refine wp_istore (L' := [.val (gR G r0), .val (gI x1), .val (gI x2), .val (gI 0), .val (gI (x1 + 1)), .val (gL (-9223372036854775808)), .unset, .val (gL 0), .unset, .val (gI (x1 + 1)), .unset]) d_Vl_isNumber_52 (by decide) rfl ?_
          exact (wpt T (And.intro rfl (And.intro rfl (And.intro (gI_w _) (And.intro rfl (And.intro rfl (And.intro (gI_w _) True.intro)))))))
    · have T := T.2 h11
      refine wp_iconst d_Vl_isNumber_13 ?_
      refine wp_goto (tgt := 18) d_Vl_isNumber_14 (by decide) ?_
      refine wp_istore_n (L' := [.val (gR G r0), .val (gI x1), .val (gI x2), .val (gI 1), .unset, .unset, .unset, .unset, .unset, .unset, .unset]) d_Vl_isNumber_18 rfl (by decide) rfl ?_
      refine wp_iload_n d_Vl_isNumber_19 rfl rfl ?_
      refine xz_eq (tgt := 29) d_Vl_isNumber_20 (by decide) (w32_id (g32_c (x := 1) rfl)) (fun h10 => ?_) (fun h10 => ?_)
      · have T := T.1 h10
        refine wp_iload_n d_Vl_isNumber_29 rfl rfl ?_
        refine wp_istore (L' := [.val (gR G r0), .val (gI x1), .val (gI x2), .val (gI 1), .val (gI x1), .unset, .unset, .unset, .unset, .unset, .unset]) d_Vl_isNumber_30 (by decide) rfl ?_
        refine wp_iload_n d_Vl_isNumber_32 rfl rfl ?_
        refine xz_eq (tgt := 42) d_Vl_isNumber_33 (by decide) (w32_id (g32_c (x := 1) rfl)) (fun h8 => ?_) (fun h8 => ?_)
        · have T := T.1 h8
          refine wp_ldc2 (n := (-9223372036854775807)) d_Vl_isNumber_42 c_Vl_103 rfl ?_
          refine wp_lstore (L' := [.val (gR G r0), .val (gI x1), .val (gI x2), .val (gI 1), .val (gI x1), .val (gL (-9223372036854775807)), .unset, .unset, .unset, .unset, .unset]) d_Vl_isNumber_45 (by decide) rfl ?_
          refine wp_lconst0 d_Vl_isNumber_47 ?_
          refine wp_lstore (L' := [.val (gR G r0), .val (gI x1), .val (gI x2), .val (gI 1), .val (gI x1), .val (gL (-9223372036854775807)), .unset, .val (gL 0), .unset, .unset, .unset]) d_Vl_isNumber_48 (by decide) rfl ?_
          refine wp_iload d_Vl_isNumber_50 rfl ?_
          refine wp_istore (L' := [.val (gR G r0), .val (gI x1), .val (gI x2), .val (gI 1), .val (gI x1), .val (gL (-9223372036854775807)), .unset, .val (gL 0), .unset, .val (gI x1), .unset]) d_Vl_isNumber_52 (by decide) rfl ?_
          exact (wpt T (And.intro rfl (And.intro rfl (And.intro rfl (And.intro rfl (And.intro rfl (And.intro rfl True.intro)))))))
        · have T := T.2 h8
          refine wp_ldc2 (n := (-9223372036854775808)) d_Vl_isNumber_36 c_Vl_101 rfl ?_
          refine wp_goto (tgt := 45) d_Vl_isNumber_39 (by decide) ?_
          refine wp_lstore (L' := [.val (gR G r0), .val (gI x1), .val (gI x2), .val (gI 1), .val (gI x1), .val (gL (-9223372036854775808)), .unset, .unset, .unset, .unset, .unset]) d_Vl_isNumber_45 (by decide) rfl ?_
          refine wp_lconst0 d_Vl_isNumber_47 ?_
          refine wp_lstore (L' := [.val (gR G r0), .val (gI x1), .val (gI x2), .val (gI 1), .val (gI x1), .val (gL (-9223372036854775808)), .unset, .val (gL 0), .unset, .unset, .unset]) d_Vl_isNumber_48 (by decide) rfl ?_
          refine wp_iload d_Vl_isNumber_50 rfl ?_
          refine wp_istore (L' := [.val (gR G r0), .val (gI x1), .val (gI x2), .val (gI 1), .val (gI x1), .val (gL (-9223372036854775808)), .unset, .val (gL 0), .unset, .val (gI x1), .unset]) d_Vl_isNumber_52 (by decide) rfl ?_
          exact (wpt T (And.intro rfl (And.intro rfl (And.intro rfl (And.intro rfl (And.intro rfl (And.intro rfl True.intro)))))))
      · have T := T.2 h10
        refine wp_iload_n d_Vl_isNumber_23 rfl rfl ?_
        refine wp_iconst d_Vl_isNumber_24 ?_
        refine wp_iadd d_Vl_isNumber_25 ?_
        refine wp_goto (tgt := 30) d_Vl_isNumber_26 (by decide) ?_
        refine wp_istore (L' := [.val (gR G r0), .val (gI x1), .val (gI x2), .val (gI 1), .val (gI (x1 + 1)), .unset, .unset, .unset, .unset, .unset, .unset]) d_Vl_isNumber_30 (by decide) rfl ?_
        refine wp_iload_n d_Vl_isNumber_32 rfl rfl ?_
        refine xz_eq (tgt := 42) d_Vl_isNumber_33 (by decide) (w32_id (g32_c (x := 1) rfl)) (fun h9 => ?_) (fun h9 => ?_)
        · have T := T.1 h9
          refine wp_ldc2 (n := (-9223372036854775807)) d_Vl_isNumber_42 c_Vl_103 rfl ?_
          refine wp_lstore (L' := [.val (gR G r0), .val (gI x1), .val (gI x2), .val (gI 1), .val (gI (x1 + 1)), .val (gL (-9223372036854775807)), .unset, .unset, .unset, .unset, .unset]) d_Vl_isNumber_45 (by decide) rfl ?_
          refine wp_lconst0 d_Vl_isNumber_47 ?_
          refine wp_lstore (L' := [.val (gR G r0), .val (gI x1), .val (gI x2), .val (gI 1), .val (gI (x1 + 1)), .val (gL (-9223372036854775807)), .unset, .val (gL 0), .unset, .unset, .unset]) d_Vl_isNumber_48 (by decide) rfl ?_
          refine wp_iload d_Vl_isNumber_50 rfl ?_
          refine wp_istore (L' := [.val (gR G r0), .val (gI x1), .val (gI x2), .val (gI 1), .val (gI (x1 + 1)), .val (gL (-9223372036854775807)), .unset, .val (gL 0), .unset, .val (gI (x1 + 1)), .unset]) d_Vl_isNumber_52 (by decide) rfl ?_
          exact (wpt T (And.intro rfl (And.intro rfl (And.intro (gI_w _) (And.intro rfl (And.intro rfl (And.intro (gI_w _) True.intro)))))))
        · have T := T.2 h9
          refine wp_ldc2 (n := (-9223372036854775808)) d_Vl_isNumber_36 c_Vl_101 rfl ?_
          refine wp_goto (tgt := 45) d_Vl_isNumber_39 (by decide) ?_
          refine wp_lstore (L' := [.val (gR G r0), .val (gI x1), .val (gI x2), .val (gI 1), .val (gI (x1 + 1)), .val (gL (-9223372036854775808)), .unset, .unset, .unset, .unset, .unset]) d_Vl_isNumber_45 (by decide) rfl ?_
          refine wp_lconst0 d_Vl_isNumber_47 ?_
          refine wp_lstore (L' := [.val (gR G r0), .val (gI x1), .val (gI x2), .val (gI 1), .val (gI (x1 + 1)), .val (gL (-9223372036854775808)), .unset, .val (gL 0), .unset, .unset, .unset]) d_Vl_isNumber_48 (by decide) rfl ?_
          refine wp_iload d_Vl_isNumber_50 rfl ?_
          refine wp_istore (L' := [.val (gR G r0), .val (gI x1), .val (gI x2), .val (gI 1), .val (gI (x1 + 1)), .val (gL (-9223372036854775808)), .unset, .val (gL 0), .unset, .val (gI (x1 + 1)), .unset]) d_Vl_isNumber_52 (by decide) rfl ?_
          exact (wpt T (And.intro rfl (And.intro rfl (And.intro (gI_w _) (And.intro rfl (And.intro rfl (And.intro (gI_w _) True.intro)))))))
set_option maxHeartbeats 4000000 in
theorem w_Vl_isNumber_54 {l : Launch} {G : gG} {d : Nat} {X : gX} {M : gM} {k : Int → gM → Prop}  {x2 : Int} (hx2 : g32 x2) {x4 : Int} (hx4 : g32 x4) {x5 : Int} (hx5 : g64 x5) {x7 : Int} (hx7 : g64 x7) {x9 : Int} (hx9 : g32 x9) {r0 n0 : Nat} (hr0 : 1 ≤ r0 ∧ r0 ≤ X.1 ∧ X.2.1 r0 = (2, n0) ∧ n0 ≤ 2147483647)  (T : (x2 ≤ x9 → ((x2 ≤ x4 → (k 0 M)) ∧ (¬ x2 ≤ x4 → (k 1 M)))) ∧ (¬ x2 ≤ x9 → (((0 : Int) ≤ x9 ∧ x9 < (n0 : Int)) ∧ ((-128 ≤ M r0 (Int.toNat x9) ∧ M r0 (Int.toNat x9) < 128) → (((w32 ((M r0 (Int.toNat x9)) - 48)) < 0 → (k 0 M)) ∧ (¬ (w32 ((M r0 (Int.toNat x9)) - 48)) < 0 → ((9 < (w32 ((M r0 (Int.toNat x9)) - 48)) → (k 0 M)) ∧ (¬ 9 < (w32 ((M r0 (Int.toNat x9)) - 48)) → (((w64 ((w64 (x5 + (w32 ((M r0 (Int.toNat x9)) - 48)))).tdiv 10)) ≤ x7 → (wp l G y_Vl_isNumber (gRm d) false (kkZ X k) false 54 [.val (gR G r0), .unset, .val (gI x2), .unset, .val (gI x4), .val (gL x5), .unset, .val (gL (w64 ((x7 * 10) - (w32 ((M r0 (Int.toNat x9)) - 48))))), .unset, .val (gI (w32 (x9 + 1))), .unset] [] X M 0 0)) ∧ (¬ (w64 ((w64 (x5 + (w32 ((M r0 (Int.toNat x9)) - 48)))).tdiv 10)) ≤ x7 → (k 0 M))))))))))) : wp l G y_Vl_isNumber (gRm d) false (kkZ X k) false 54 [.val (gR G r0), .unset, .val (gI x2), .unset, .val (gI x4), .val (gL x5), .unset, .val (gL x7), .unset, .val (gI x9), .unset] [] X M 0 0 := by
  refine wp_iload d_Vl_isNumber_54 rfl ?_
  refine wp_iload_n d_Vl_isNumber_56 rfl rfl ?_
  refine xi_ge (tgt := 117) d_Vl_isNumber_57 (by decide) (w32_id hx9) (w32_id hx2) (fun h18 => ?_) (fun h18 => ?_)
  · have T := T.1 h18
    refine wp_iload d_Vl_isNumber_117 rfl ?_
    refine wp_iload_n d_Vl_isNumber_119 rfl rfl ?_
    refine xi_ge (tgt := 127) d_Vl_isNumber_120 (by decide) (w32_id hx4) (w32_id hx2) (fun h13 => ?_) (fun h13 => ?_)
    · have T := T.1 h13
      refine wp_iconst d_Vl_isNumber_127 ?_
      exact wp_zreturn d_Vl_isNumber_128 rfl (g_narz (⟨by decide, by decide⟩ : (0 : Int) ≤ 0 ∧ (0 : Int) ≤ 1)) id (Nat.zero_le _) (Nat.zero_le _) (kZ_mk (⟨by decide, by decide⟩ : (0 : Int) ≤ 0 ∧ (0 : Int) ≤ 1) T)
    · have T := T.2 h13
      refine wp_iconst d_Vl_isNumber_123 ?_
      refine wp_goto (tgt := 128) d_Vl_isNumber_124 (by decide) ?_
      exact wp_zreturn d_Vl_isNumber_128 rfl (g_narz (⟨by decide, by decide⟩ : (0 : Int) ≤ 1 ∧ (1 : Int) ≤ 1)) id (Nat.zero_le _) (Nat.zero_le _) (kZ_mk (⟨by decide, by decide⟩ : (0 : Int) ≤ 1 ∧ (1 : Int) ≤ 1) T)
  · have T := T.2 h18
    refine wp_aload_n d_Vl_isNumber_60 rfl rfl (g_nz hr0.1) ?_
    refine wp_iload d_Vl_isNumber_61 rfl ?_
    refine wp_baload d_Vl_isNumber_63 hr0.1 hr0.2.1 hr0.2.2.1 (g32_n T.1 (Nat.le_succ_of_le hr0.2.2.2)) T.1.1 T.1.2 (fun h14 => ?_)
    have T := T.2 h14
    refine wp_bipush d_Vl_isNumber_64 ⟨by decide, by decide⟩ ?_
    refine wp_isub d_Vl_isNumber_66 ?_
    refine wp_istore (L' := [.val (gR G r0), .unset, .val (gI x2), .unset, .val (gI x4), .val (gL x5), .unset, .val (gL x7), .unset, .val (gI x9), .val (gI ((M r0 (Int.toNat x9)) - 48))]) d_Vl_isNumber_67 (by decide) rfl ?_
    refine wp_iload d_Vl_isNumber_69 rfl ?_
    refine xz_lt (tgt := 97) d_Vl_isNumber_71 (by decide) rfl (fun h17 => ?_) (fun h17 => ?_)
    · have T := T.1 h17
      refine wp_iconst d_Vl_isNumber_97 ?_
      exact wp_zreturn d_Vl_isNumber_98 rfl (g_narz (⟨by decide, by decide⟩ : (0 : Int) ≤ 0 ∧ (0 : Int) ≤ 1)) id (Nat.zero_le _) (Nat.zero_le _) (kZ_mk (⟨by decide, by decide⟩ : (0 : Int) ≤ 0 ∧ (0 : Int) ≤ 1) T)
    · have T := T.2 h17
      refine wp_iload d_Vl_isNumber_74 rfl ?_
      refine wp_bipush d_Vl_isNumber_76 ⟨by decide, by decide⟩ ?_
      refine xi_gt (tgt := 97) d_Vl_isNumber_78 (by decide) rfl (w32_id (g32_c (x := 9) rfl)) (fun h16 => ?_) (fun h16 => ?_)
      · have T := T.1 h16
        refine wp_iconst d_Vl_isNumber_97 ?_
        exact wp_zreturn d_Vl_isNumber_98 rfl (g_narz (⟨by decide, by decide⟩ : (0 : Int) ≤ 0 ∧ (0 : Int) ≤ 1)) id (Nat.zero_le _) (Nat.zero_le _) (kZ_mk (⟨by decide, by decide⟩ : (0 : Int) ≤ 0 ∧ (0 : Int) ≤ 1) T)
      · have T := T.2 h16
        refine wp_lload d_Vl_isNumber_81 rfl ?_
        refine wp_lload d_Vl_isNumber_83 rfl ?_
        refine wp_iload d_Vl_isNumber_85 rfl ?_
        refine xi2l d_Vl_isNumber_87 rfl ?_
        refine wp_ladd d_Vl_isNumber_88 ?_
        refine wp_ldc2 (n := 10) d_Vl_isNumber_89 c_Vl_95 rfl ?_
        refine xldiv d_Vl_isNumber_92 rfl (w64_id (g64_c (x := 10) rfl)) (by decide) ?_
        refine xl_ge (tgt := 99) d_Vl_isNumber_93 d_Vl_isNumber_94 (by decide) (w64_id hx7) rfl (fun h15 => ?_) (fun h15 => ?_)
        · have T := T.1 h15
          refine wp_lload d_Vl_isNumber_99 rfl ?_
          refine wp_ldc2 (n := 10) d_Vl_isNumber_101 c_Vl_95 rfl ?_
          refine wp_lmul d_Vl_isNumber_104 ?_
          refine wp_iload d_Vl_isNumber_105 rfl ?_
          refine xi2l d_Vl_isNumber_107 rfl ?_
          refine wp_lsub d_Vl_isNumber_108 ?_
          refine wp_lstore (L' := [.val (gR G r0), .unset, .val (gI x2), .unset, .val (gI x4), .val (gL x5), .unset, .val (gL ((x7 * 10) - (w32 ((M r0 (Int.toNat x9)) - 48)))), .unset, .val (gI x9), .val (gI ((M r0 (Int.toNat x9)) - 48))]) d_Vl_isNumber_109 (by decide) rfl ?_
          refine wp_iinc (L' := [.val (gR G r0), .unset, .val (gI x2), .unset, .val (gI x4), .val (gL x5), .unset, .val (gL ((x7 * 10) - (w32 ((M r0 (Int.toNat x9)) - 48)))), .unset, .val (gI (x9 + 1)), .val (gI ((M r0 (Int.toNat x9)) - 48))]) d_Vl_isNumber_111 rfl (by decide) rfl ?_
          refine wp_goto (tgt := 54) d_Vl_isNumber_114 (by decide) ?_
          exact (wpt T (And.intro rfl (And.intro rfl (And.intro rfl (And.intro rfl (And.intro (gL_w _) (And.intro (gI_w _) True.intro)))))))
        · have T := T.2 h15
          refine wp_iconst d_Vl_isNumber_97 ?_
          exact wp_zreturn d_Vl_isNumber_98 rfl (g_narz (⟨by decide, by decide⟩ : (0 : Int) ≤ 0 ∧ (0 : Int) ≤ 1)) id (Nat.zero_le _) (Nat.zero_le _) (kZ_mk (⟨by decide, by decide⟩ : (0 : Int) ≤ 0 ∧ (0 : Int) ≤ 1) T)
theorem e_Vl_isNumber {l : Launch} {G : gG} {d : Nat} {X : gX} {M : gM} {k : Int → gM → Prop}  {r0 : Nat} {x1 : Int} {x2 : Int} (T : wp l G y_Vl_isNumber (gRm d) false (kkZ X k) false 0 [.val (gR G r0), .val (gI x1), .val (gI x2), .unset, .unset, .unset, .unset, .unset, .unset, .unset, .unset] [] X M 0 0) : cZ l G y_Vl_isNumber (gRm d) false [gR G r0, gI x1, gI x2] X M k := cen_Z (plainFor_of_name rfl) (by simp only [lg_sl_R, lg_sl_I, lg_sl_L, lg_sl_N, List.length_cons, List.length_nil]; decide) (by unfold gEn; simp only [lg_sl_R, lg_sl_I, lg_sl_L, lg_sl_N]; exact wpt T (And.intro rfl (And.intro rfl (And.intro rfl True.intro))))
theorem d_Vl_numberIn_0 : decode prog_12_method_15_code 0 = .ok (.iload_n 1, 1) := by decide +kernel
theorem d_Vl_numberIn_1 : decode prog_12_method_15_code 1 = .ok (.iload_n 2, 1) := by decide +kernel
theorem d_Vl_numberIn_2 : decode prog_12_method_15_code 2 = .ok (.if_icmp .ge 15, 3) := by decide +kernel
theorem d_Vl_numberIn_17 : decode prog_12_method_15_code 17 = .ok (.iconst 0, 1) := by decide +kernel
theorem d_Vl_numberIn_18 : decode prog_12_method_15_code 18 = .ok (.istore_n 3, 1) := by decide +kernel
theorem d_Vl_numberIn_19 : decode prog_12_method_15_code 19 = .ok (.lconst 0, 1) := by decide +kernel
theorem d_Vl_numberIn_20 : decode prog_12_method_15_code 20 = .ok (.lstore 4, 2) := by decide +kernel
theorem d_Vl_numberIn_22 : decode prog_12_method_15_code 22 = .ok (.iload_n 3, 1) := by decide +kernel
theorem d_Vl_numberIn_23 : decode prog_12_method_15_code 23 = .ok (.ifCond .eq 9, 3) := by decide +kernel
theorem d_Vl_numberIn_32 : decode prog_12_method_15_code 32 = .ok (.iload_n 1, 1) := by decide +kernel
theorem d_Vl_numberIn_33 : decode prog_12_method_15_code 33 = .ok (.istore 6, 2) := by decide +kernel
theorem d_Vl_numberIn_26 : decode prog_12_method_15_code 26 = .ok (.iload_n 1, 1) := by decide +kernel
theorem d_Vl_numberIn_27 : decode prog_12_method_15_code 27 = .ok (.iconst 1, 1) := by decide +kernel
theorem d_Vl_numberIn_28 : decode prog_12_method_15_code 28 = .ok (.iadd, 1) := by decide +kernel
theorem d_Vl_numberIn_29 : decode prog_12_method_15_code 29 = .ok (.goto 4, 3) := by decide +kernel
theorem d_Vl_numberIn_5 : decode prog_12_method_15_code 5 = .ok (.aload_n 0, 1) := by decide +kernel
theorem d_Vl_numberIn_6 : decode prog_12_method_15_code 6 = .ok (.iload_n 1, 1) := by decide +kernel
theorem d_Vl_numberIn_7 : decode prog_12_method_15_code 7 = .ok (.baload, 1) := by decide +kernel
theorem d_Vl_numberIn_8 : decode prog_12_method_15_code 8 = .ok (.bipush 45, 2) := by decide +kernel
theorem d_Vl_numberIn_10 : decode prog_12_method_15_code 10 = .ok (.if_icmp .ne 7, 3) := by decide +kernel
theorem d_Vl_numberIn_13 : decode prog_12_method_15_code 13 = .ok (.iconst 1, 1) := by decide +kernel
theorem d_Vl_numberIn_14 : decode prog_12_method_15_code 14 = .ok (.goto 4, 3) := by decide +kernel
theorem d_Vl_numberIn_35 : decode prog_12_method_15_code 35 = .ok (.iload 6, 2) := by decide +kernel
theorem d_Vl_numberIn_37 : decode prog_12_method_15_code 37 = .ok (.iload_n 2, 1) := by decide +kernel
theorem d_Vl_numberIn_38 : decode prog_12_method_15_code 38 = .ok (.if_icmp .ge 26, 3) := by decide +kernel
theorem d_Vl_numberIn_64 : decode prog_12_method_15_code 64 = .ok (.iload_n 3, 1) := by decide +kernel
theorem d_Vl_numberIn_65 : decode prog_12_method_15_code 65 = .ok (.ifCond .eq 8, 3) := by decide +kernel
theorem d_Vl_numberIn_73 : decode prog_12_method_15_code 73 = .ok (.lload 4, 2) := by decide +kernel
theorem d_Vl_numberIn_75 : decode prog_12_method_15_code 75 = .ok (.lneg, 1) := by decide +kernel
theorem d_Vl_numberIn_76 : decode prog_12_method_15_code 76 = .ok (.lreturn, 1) := by decide +kernel
theorem d_Vl_numberIn_68 : decode prog_12_method_15_code 68 = .ok (.lload 4, 2) := by decide +kernel
theorem d_Vl_numberIn_70 : decode prog_12_method_15_code 70 = .ok (.goto 6, 3) := by decide +kernel
theorem d_Vl_numberIn_41 : decode prog_12_method_15_code 41 = .ok (.lload 4, 2) := by decide +kernel
theorem d_Vl_numberIn_43 : decode prog_12_method_15_code 43 = .ok (.ldc2_w 95, 3) := by decide +kernel
theorem d_Vl_numberIn_46 : decode prog_12_method_15_code 46 = .ok (.lmul, 1) := by decide +kernel
theorem d_Vl_numberIn_47 : decode prog_12_method_15_code 47 = .ok (.aload_n 0, 1) := by decide +kernel
theorem d_Vl_numberIn_48 : decode prog_12_method_15_code 48 = .ok (.iload 6, 2) := by decide +kernel
theorem d_Vl_numberIn_50 : decode prog_12_method_15_code 50 = .ok (.baload, 1) := by decide +kernel
theorem d_Vl_numberIn_51 : decode prog_12_method_15_code 51 = .ok (.bipush 48, 2) := by decide +kernel
theorem d_Vl_numberIn_53 : decode prog_12_method_15_code 53 = .ok (.isub, 1) := by decide +kernel
theorem d_Vl_numberIn_54 : decode prog_12_method_15_code 54 = .ok (.i2l, 1) := by decide +kernel
theorem d_Vl_numberIn_55 : decode prog_12_method_15_code 55 = .ok (.lsub, 1) := by decide +kernel
theorem d_Vl_numberIn_56 : decode prog_12_method_15_code 56 = .ok (.lstore 4, 2) := by decide +kernel
theorem d_Vl_numberIn_58 : decode prog_12_method_15_code 58 = .ok (.iinc 6 1, 3) := by decide +kernel
theorem d_Vl_numberIn_61 : decode prog_12_method_15_code 61 = .ok (.goto (-26), 3) := by decide +kernel
set_option maxHeartbeats 4000000 in
theorem w_Vl_numberIn_0 {l : Launch} {G : gG} {d : Nat} {X : gX} {M : gM} {k : Int → gM → Prop}  {r0 n0 : Nat} (hr0 : 1 ≤ r0 ∧ r0 ≤ X.1 ∧ X.2.1 r0 = (2, n0) ∧ n0 ≤ 2147483647) {x1 : Int} (hx1 : g32 x1) {x2 : Int} (hx2 : g32 x2)  (T : (x2 ≤ x1 → (((0 : Int) = 0 → (wp l G y_Vl_numberIn (gRm d) false (kkL X k) false 35 [.val (gR G r0), .unset, .val (gI x2), .val (gI 0), .val (gL 0), .unset, .val (gI x1)] [] X M 0 0)) ∧ (¬ (0 : Int) = 0 → (wp l G y_Vl_numberIn (gRm d) false (kkL X k) false 35 [.val (gR G r0), .unset, .val (gI x2), .val (gI 0), .val (gL 0), .unset, .val (gI (w32 (x1 + 1)))] [] X M 0 0)))) ∧ (¬ x2 ≤ x1 → (((0 : Int) ≤ x1 ∧ x1 < (n0 : Int)) ∧ ((-128 ≤ M r0 (Int.toNat x1) ∧ M r0 (Int.toNat x1) < 128) → ((¬ M r0 (Int.toNat x1) = 45 → (((0 : Int) = 0 → (wp l G y_Vl_numberIn (gRm d) false (kkL X k) false 35 [.val (gR G r0), .unset, .val (gI x2), .val (gI 0), .val (gL 0), .unset, .val (gI x1)] [] X M 0 0)) ∧ (¬ (0 : Int) = 0 → (wp l G y_Vl_numberIn (gRm d) false (kkL X k) false 35 [.val (gR G r0), .unset, .val (gI x2), .val (gI 0), .val (gL 0), .unset, .val (gI (w32 (x1 + 1)))] [] X M 0 0)))) ∧ (M r0 (Int.toNat x1) = 45 → (((1 : Int) = 0 → (wp l G y_Vl_numberIn (gRm d) false (kkL X k) false 35 [.val (gR G r0), .unset, .val (gI x2), .val (gI 1), .val (gL 0), .unset, .val (gI x1)] [] X M 0 0)) ∧ (¬ (1 : Int) = 0 → (wp l G y_Vl_numberIn (gRm d) false (kkL X k) false 35 [.val (gR G r0), .unset, .val (gI x2), .val (gI 1), .val (gL 0), .unset, .val (gI (w32 (x1 + 1)))] [] X M 0 0))))))))) : wp l G y_Vl_numberIn (gRm d) false (kkL X k) false 0 [.val (gR G r0), .val (gI x1), .val (gI x2), .unset, .unset, .unset, .unset] [] X M 0 0 := by
  refine wp_iload_n d_Vl_numberIn_0 rfl rfl ?_
  refine wp_iload_n d_Vl_numberIn_1 rfl rfl ?_
  refine xi_ge (tgt := 17) d_Vl_numberIn_2 (by decide) (w32_id hx1) (w32_id hx2) (fun h6 => ?_) (fun h6 => ?_)
  · have T := T.1 h6
    refine wp_iconst d_Vl_numberIn_17 ?_
    refine wp_istore_n (L' := [.val (gR G r0), .val (gI x1), .val (gI x2), .val (gI 0), .unset, .unset, .unset]) d_Vl_numberIn_18 rfl (by decide) rfl ?_
    refine wp_lconst0 d_Vl_numberIn_19 ?_
    refine wp_lstore (L' := [.val (gR G r0), .val (gI x1), .val (gI x2), .val (gI 0), .val (gL 0), .unset, .unset]) d_Vl_numberIn_20 (by decide) rfl ?_
    refine wp_iload_n d_Vl_numberIn_22 rfl rfl ?_
    refine xz_eq (tgt := 32) d_Vl_numberIn_23 (by decide) (w32_id (g32_c (x := 0) rfl)) (fun h1 => ?_) (fun h1 => ?_)
    · have T := T.1 h1
      refine wp_iload_n d_Vl_numberIn_32 rfl rfl ?_
      refine wp_istore (L' := [.val (gR G r0), .val (gI x1), .val (gI x2), .val (gI 0), .val (gL 0), .unset, .val (gI x1)]) d_Vl_numberIn_33 (by decide) rfl ?_
      exact (wpt T (And.intro rfl (And.intro rfl (And.intro rfl (And.intro rfl (And.intro rfl True.intro))))))
    · have T := T.2 h1
      refine wp_iload_n d_Vl_numberIn_26 rfl rfl ?_
      refine wp_iconst d_Vl_numberIn_27 ?_
      refine wp_iadd d_Vl_numberIn_28 ?_
      refine wp_goto (tgt := 33) d_Vl_numberIn_29 (by decide) ?_
      refine wp_istore (L' := [.val (gR G r0), .val (gI x1), .val (gI x2), .val (gI 0), .val (gL 0), .unset, .val (gI (x1 + 1))]) d_Vl_numberIn_33 (by decide) rfl ?_
      exact (wpt T (And.intro rfl (And.intro rfl (And.intro rfl (And.intro rfl (And.intro (gI_w _) True.intro))))))
  · have T := T.2 h6
    refine wp_aload_n d_Vl_numberIn_5 rfl rfl (g_nz hr0.1) ?_
    refine wp_iload_n d_Vl_numberIn_6 rfl rfl ?_
    refine wp_baload d_Vl_numberIn_7 hr0.1 hr0.2.1 hr0.2.2.1 (g32_n T.1 (Nat.le_succ_of_le hr0.2.2.2)) T.1.1 T.1.2 (fun h2 => ?_)
    have T := T.2 h2
    refine wp_bipush d_Vl_numberIn_8 ⟨by decide, by decide⟩ ?_
    refine xi_ne (tgt := 17) d_Vl_numberIn_10 (by decide) (w32_id (g32_b h2)) (w32_id (g32_c (x := 45) rfl)) (fun h5 => ?_) (fun h5 => ?_)
    · have T := T.1 h5
      refine wp_iconst d_Vl_numberIn_17 ?_
      refine wp_istore_n (L' := [.val (gR G r0), .val (gI x1), .val (gI x2), .val (gI 0), .unset, .unset, .unset]) d_Vl_numberIn_18 rfl (by decide) rfl ?_
      refine wp_lconst0 d_Vl_numberIn_19 ?_
      refine wp_lstore (L' := [.val (gR G r0), .val (gI x1), .val (gI x2), .val (gI 0), .val (gL 0), .unset, .unset]) d_Vl_numberIn_20 (by decide) rfl ?_
      refine wp_iload_n d_Vl_numberIn_22 rfl rfl ?_
      refine xz_eq (tgt := 32) d_Vl_numberIn_23 (by decide) (w32_id (g32_c (x := 0) rfl)) (fun h3 => ?_) (fun h3 => ?_)
      · have T := T.1 h3
        refine wp_iload_n d_Vl_numberIn_32 rfl rfl ?_
        refine wp_istore (L' := [.val (gR G r0), .val (gI x1), .val (gI x2), .val (gI 0), .val (gL 0), .unset, .val (gI x1)]) d_Vl_numberIn_33 (by decide) rfl ?_
        exact (wpt T (And.intro rfl (And.intro rfl (And.intro rfl (And.intro rfl (And.intro rfl True.intro))))))
      · have T := T.2 h3
        refine wp_iload_n d_Vl_numberIn_26 rfl rfl ?_
        refine wp_iconst d_Vl_numberIn_27 ?_
        refine wp_iadd d_Vl_numberIn_28 ?_
        refine wp_goto (tgt := 33) d_Vl_numberIn_29 (by decide) ?_
        refine wp_istore (L' := [.val (gR G r0), .val (gI x1), .val (gI x2), .val (gI 0), .val (gL 0), .unset, .val (gI (x1 + 1))]) d_Vl_numberIn_33 (by decide) rfl ?_
        exact (wpt T (And.intro rfl (And.intro rfl (And.intro rfl (And.intro rfl (And.intro (gI_w _) True.intro))))))
    · have T := T.2 h5
      refine wp_iconst d_Vl_numberIn_13 ?_
      refine wp_goto (tgt := 18) d_Vl_numberIn_14 (by decide) ?_
      refine wp_istore_n (L' := [.val (gR G r0), .val (gI x1), .val (gI x2), .val (gI 1), .unset, .unset, .unset]) d_Vl_numberIn_18 rfl (by decide) rfl ?_
      refine wp_lconst0 d_Vl_numberIn_19 ?_
      refine wp_lstore (L' := [.val (gR G r0), .val (gI x1), .val (gI x2), .val (gI 1), .val (gL 0), .unset, .unset]) d_Vl_numberIn_20 (by decide) rfl ?_
      refine wp_iload_n d_Vl_numberIn_22 rfl rfl ?_
      refine xz_eq (tgt := 32) d_Vl_numberIn_23 (by decide) (w32_id (g32_c (x := 1) rfl)) (fun h4 => ?_) (fun h4 => ?_)
      · have T := T.1 h4
        refine wp_iload_n d_Vl_numberIn_32 rfl rfl ?_
        refine wp_istore (L' := [.val (gR G r0), .val (gI x1), .val (gI x2), .val (gI 1), .val (gL 0), .unset, .val (gI x1)]) d_Vl_numberIn_33 (by decide) rfl ?_
        exact (wpt T (And.intro rfl (And.intro rfl (And.intro rfl (And.intro rfl (And.intro rfl True.intro))))))
      · have T := T.2 h4
        refine wp_iload_n d_Vl_numberIn_26 rfl rfl ?_
        refine wp_iconst d_Vl_numberIn_27 ?_
        refine wp_iadd d_Vl_numberIn_28 ?_
        refine wp_goto (tgt := 33) d_Vl_numberIn_29 (by decide) ?_
        refine wp_istore (L' := [.val (gR G r0), .val (gI x1), .val (gI x2), .val (gI 1), .val (gL 0), .unset, .val (gI (x1 + 1))]) d_Vl_numberIn_33 (by decide) rfl ?_
        exact (wpt T (And.intro rfl (And.intro rfl (And.intro rfl (And.intro rfl (And.intro (gI_w _) True.intro))))))
set_option maxHeartbeats 4000000 in
theorem w_Vl_numberIn_35 {l : Launch} {G : gG} {d : Nat} {X : gX} {M : gM} {k : Int → gM → Prop}  {x2 : Int} (hx2 : g32 x2) {x3 : Int} (hx3 : g32 x3) {x4 : Int} (hx4 : g64 x4) {x6 : Int} (hx6 : g32 x6) {r0 n0 : Nat} (hr0 : 1 ≤ r0 ∧ r0 ≤ X.1 ∧ X.2.1 r0 = (2, n0) ∧ n0 ≤ 2147483647)  (T : (x2 ≤ x6 → ((x3 = 0 → (k (w64 (-x4)) M)) ∧ (¬ x3 = 0 → (k x4 M)))) ∧ (¬ x2 ≤ x6 → (((0 : Int) ≤ x6 ∧ x6 < (n0 : Int)) ∧ ((-128 ≤ M r0 (Int.toNat x6) ∧ M r0 (Int.toNat x6) < 128) → (wp l G y_Vl_numberIn (gRm d) false (kkL X k) false 35 [.val (gR G r0), .unset, .val (gI x2), .val (gI x3), .val (gL (w64 ((x4 * 10) - (w32 ((M r0 (Int.toNat x6)) - 48))))), .unset, .val (gI (w32 (x6 + 1)))] [] X M 0 0))))) : wp l G y_Vl_numberIn (gRm d) false (kkL X k) false 35 [.val (gR G r0), .unset, .val (gI x2), .val (gI x3), .val (gL x4), .unset, .val (gI x6)] [] X M 0 0 := by
  refine wp_iload d_Vl_numberIn_35 rfl ?_
  refine wp_iload_n d_Vl_numberIn_37 rfl rfl ?_
  refine xi_ge (tgt := 64) d_Vl_numberIn_38 (by decide) (w32_id hx6) (w32_id hx2) (fun h9 => ?_) (fun h9 => ?_)
  · have T := T.1 h9
    refine wp_iload_n d_Vl_numberIn_64 rfl rfl ?_
    refine xz_eq (tgt := 73) d_Vl_numberIn_65 (by decide) (w32_id hx3) (fun h7 => ?_) (fun h7 => ?_)
    · have T := T.1 h7
      refine wp_lload d_Vl_numberIn_73 rfl ?_
      refine wp_lneg d_Vl_numberIn_75 ?_
      exact wp_st (st' := [gL (w64 (-x4))]) (by rw [gL_w]) (wp_lreturn d_Vl_numberIn_76 rfl id (Nat.zero_le _) (Nat.zero_le _) (kL_mk (w64_ok _) T))
    · have T := T.2 h7
      refine wp_lload d_Vl_numberIn_68 rfl ?_
      refine wp_goto (tgt := 76) d_Vl_numberIn_70 (by decide) ?_
      exact wp_lreturn d_Vl_numberIn_76 rfl id (Nat.zero_le _) (Nat.zero_le _) (kL_mk hx4 T)
  · have T := T.2 h9
    refine wp_lload d_Vl_numberIn_41 rfl ?_
    refine wp_ldc2 (n := 10) d_Vl_numberIn_43 c_Vl_95 rfl ?_
    refine wp_lmul d_Vl_numberIn_46 ?_
    refine wp_aload_n d_Vl_numberIn_47 rfl rfl (g_nz hr0.1) ?_
    refine wp_iload d_Vl_numberIn_48 rfl ?_
    refine wp_baload d_Vl_numberIn_50 hr0.1 hr0.2.1 hr0.2.2.1 (g32_n T.1 (Nat.le_succ_of_le hr0.2.2.2)) T.1.1 T.1.2 (fun h8 => ?_)
    have T := T.2 h8
    refine wp_bipush d_Vl_numberIn_51 ⟨by decide, by decide⟩ ?_
    refine wp_isub d_Vl_numberIn_53 ?_
    refine xi2l d_Vl_numberIn_54 rfl ?_
    refine wp_lsub d_Vl_numberIn_55 ?_
    refine wp_lstore (L' := [.val (gR G r0), .unset, .val (gI x2), .val (gI x3), .val (gL ((x4 * 10) - (w32 ((M r0 (Int.toNat x6)) - 48)))), .unset, .val (gI x6)]) d_Vl_numberIn_56 (by decide) rfl ?_
    refine wp_iinc (L' := [.val (gR G r0), .unset, .val (gI x2), .val (gI x3), .val (gL ((x4 * 10) - (w32 ((M r0 (Int.toNat x6)) - 48)))), .unset, .val (gI (x6 + 1))]) d_Vl_numberIn_58 rfl (by decide) rfl ?_
    refine wp_goto (tgt := 35) d_Vl_numberIn_61 (by decide) ?_
    exact (wpt T (And.intro rfl (And.intro rfl (And.intro rfl (And.intro (gL_w _) (And.intro (gI_w _) True.intro))))))
theorem e_Vl_numberIn {l : Launch} {G : gG} {d : Nat} {X : gX} {M : gM} {k : Int → gM → Prop}  {r0 : Nat} {x1 : Int} {x2 : Int} (T : wp l G y_Vl_numberIn (gRm d) false (kkL X k) false 0 [.val (gR G r0), .val (gI x1), .val (gI x2), .unset, .unset, .unset, .unset] [] X M 0 0) : cL l G y_Vl_numberIn (gRm d) false [gR G r0, gI x1, gI x2] X M k := cen_L (plainFor_of_name rfl) (by simp only [lg_sl_R, lg_sl_I, lg_sl_L, lg_sl_N, List.length_cons, List.length_nil]; decide) (by unfold gEn; simp only [lg_sl_R, lg_sl_I, lg_sl_L, lg_sl_N]; exact wpt T (And.intro rfl (And.intro rfl (And.intro rfl True.intro))))
theorem d_Vl_plusFits_0 : decode prog_12_method_16_code 0 = .ok (.lload_n 0, 1) := by decide +kernel
theorem d_Vl_plusFits_1 : decode prog_12_method_16_code 1 = .ok (.lload_n 2, 1) := by decide +kernel
theorem d_Vl_plusFits_2 : decode prog_12_method_16_code 2 = .ok (.ladd, 1) := by decide +kernel
theorem d_Vl_plusFits_3 : decode prog_12_method_16_code 3 = .ok (.lstore 4, 2) := by decide +kernel
theorem d_Vl_plusFits_5 : decode prog_12_method_16_code 5 = .ok (.lload_n 0, 1) := by decide +kernel
theorem d_Vl_plusFits_6 : decode prog_12_method_16_code 6 = .ok (.lload 4, 2) := by decide +kernel
theorem d_Vl_plusFits_8 : decode prog_12_method_16_code 8 = .ok (.lxor, 1) := by decide +kernel
theorem d_Vl_plusFits_9 : decode prog_12_method_16_code 9 = .ok (.lload_n 2, 1) := by decide +kernel
theorem d_Vl_plusFits_10 : decode prog_12_method_16_code 10 = .ok (.lload 4, 2) := by decide +kernel
theorem d_Vl_plusFits_12 : decode prog_12_method_16_code 12 = .ok (.lxor, 1) := by decide +kernel
theorem d_Vl_plusFits_13 : decode prog_12_method_16_code 13 = .ok (.land, 1) := by decide +kernel
theorem d_Vl_plusFits_14 : decode prog_12_method_16_code 14 = .ok (.lconst 0, 1) := by decide +kernel
theorem d_Vl_plusFits_15 : decode prog_12_method_16_code 15 = .ok (.lcmp, 1) := by decide +kernel
theorem d_Vl_plusFits_16 : decode prog_12_method_16_code 16 = .ok (.ifCond .lt 7, 3) := by decide +kernel
theorem d_Vl_plusFits_23 : decode prog_12_method_16_code 23 = .ok (.iconst 0, 1) := by decide +kernel
theorem d_Vl_plusFits_24 : decode prog_12_method_16_code 24 = .ok (.ireturn, 1) := by decide +kernel
theorem d_Vl_plusFits_19 : decode prog_12_method_16_code 19 = .ok (.iconst 1, 1) := by decide +kernel
theorem d_Vl_plusFits_20 : decode prog_12_method_16_code 20 = .ok (.goto 4, 3) := by decide +kernel
set_option maxHeartbeats 4000000 in
theorem w_Vl_plusFits_0 {l : Launch} {G : gG} {d : Nat} {X : gX} {M : gM} {k : Int → gM → Prop}  {x0 : Int} (hx0 : g64 x0) {x2 : Int} (hx2 : g64 x2)  (T : (gLand (gLxor x0 (x0 + x2)) (gLxor x2 (x0 + x2)) < 0 → (k 0 M)) ∧ (¬ gLand (gLxor x0 (x0 + x2)) (gLxor x2 (x0 + x2)) < 0 → (k 1 M))) : wp l G y_Vl_plusFits (gRm d) false (kkZ X k) false 0 [.val (gL x0), .unset, .val (gL x2), .unset, .unset, .unset] [] X M 0 0 := by
  refine wp_lload_n d_Vl_plusFits_0 rfl rfl ?_
  refine wp_lload_n d_Vl_plusFits_1 rfl rfl ?_
  refine wp_ladd d_Vl_plusFits_2 ?_
  refine wp_lstore (L' := [.val (gL x0), .unset, .val (gL x2), .unset, .val (gL (x0 + x2)), .unset]) d_Vl_plusFits_3 (by decide) rfl ?_
  refine wp_lload_n d_Vl_plusFits_5 rfl rfl ?_
  refine wp_lload d_Vl_plusFits_6 rfl ?_
  refine wp_lxor d_Vl_plusFits_8 ?_
  refine wp_lload_n d_Vl_plusFits_9 rfl rfl ?_
  refine wp_lload d_Vl_plusFits_10 rfl ?_
  refine wp_lxor d_Vl_plusFits_12 ?_
  refine wp_land d_Vl_plusFits_13 ?_
  refine wp_lconst0 d_Vl_plusFits_14 ?_
  refine xl_lt (tgt := 23) d_Vl_plusFits_15 d_Vl_plusFits_16 (by decide) (w64_id (gLand_ok _ _)) (w64_id (g64_c (x := 0) rfl)) (fun h1 => ?_) (fun h1 => ?_)
  · have T := T.1 h1
    refine wp_iconst d_Vl_plusFits_23 ?_
    exact wp_zreturn d_Vl_plusFits_24 rfl (g_narz (⟨by decide, by decide⟩ : (0 : Int) ≤ 0 ∧ (0 : Int) ≤ 1)) id (Nat.zero_le _) (Nat.zero_le _) (kZ_mk (⟨by decide, by decide⟩ : (0 : Int) ≤ 0 ∧ (0 : Int) ≤ 1) T)
  · have T := T.2 h1
    refine wp_iconst d_Vl_plusFits_19 ?_
    refine wp_goto (tgt := 24) d_Vl_plusFits_20 (by decide) ?_
    exact wp_zreturn d_Vl_plusFits_24 rfl (g_narz (⟨by decide, by decide⟩ : (0 : Int) ≤ 1 ∧ (1 : Int) ≤ 1)) id (Nat.zero_le _) (Nat.zero_le _) (kZ_mk (⟨by decide, by decide⟩ : (0 : Int) ≤ 1 ∧ (1 : Int) ≤ 1) T)
theorem e_Vl_plusFits {l : Launch} {G : gG} {d : Nat} {X : gX} {M : gM} {k : Int → gM → Prop}  {x0 : Int} {x2 : Int} (T : wp l G y_Vl_plusFits (gRm d) false (kkZ X k) false 0 [.val (gL x0), .unset, .val (gL x2), .unset, .unset, .unset] [] X M 0 0) : cZ l G y_Vl_plusFits (gRm d) false [gL x0, gL x2] X M k := cen_Z (plainFor_of_name rfl) (by simp only [lg_sl_R, lg_sl_I, lg_sl_L, lg_sl_N, List.length_cons, List.length_nil]; decide) (by unfold gEn; simp only [lg_sl_R, lg_sl_I, lg_sl_L, lg_sl_N]; exact wpt T (And.intro rfl (And.intro rfl True.intro)))
theorem d_Vl_timesFits_0 : decode prog_12_method_17_code 0 = .ok (.lload_n 2, 1) := by decide +kernel
theorem d_Vl_timesFits_1 : decode prog_12_method_17_code 1 = .ok (.lconst 0, 1) := by decide +kernel
theorem d_Vl_timesFits_2 : decode prog_12_method_17_code 2 = .ok (.lcmp, 1) := by decide +kernel
theorem d_Vl_timesFits_3 : decode prog_12_method_17_code 3 = .ok (.ifCond .ne 5, 3) := by decide +kernel
theorem d_Vl_timesFits_8 : decode prog_12_method_17_code 8 = .ok (.lload_n 2, 1) := by decide +kernel
theorem d_Vl_timesFits_9 : decode prog_12_method_17_code 9 = .ok (.ldc2_w 105, 3) := by decide +kernel
theorem d_Vl_timesFits_12 : decode prog_12_method_17_code 12 = .ok (.lcmp, 1) := by decide +kernel
theorem d_Vl_timesFits_13 : decode prog_12_method_17_code 13 = .ok (.ifCond .ne 17, 3) := by decide +kernel
theorem d_Vl_timesFits_30 : decode prog_12_method_17_code 30 = .ok (.lload_n 0, 1) := by decide +kernel
theorem d_Vl_timesFits_31 : decode prog_12_method_17_code 31 = .ok (.lload_n 2, 1) := by decide +kernel
theorem d_Vl_timesFits_32 : decode prog_12_method_17_code 32 = .ok (.lmul, 1) := by decide +kernel
theorem d_Vl_timesFits_33 : decode prog_12_method_17_code 33 = .ok (.lload_n 2, 1) := by decide +kernel
theorem d_Vl_timesFits_34 : decode prog_12_method_17_code 34 = .ok (.ldiv, 1) := by decide +kernel
theorem d_Vl_timesFits_35 : decode prog_12_method_17_code 35 = .ok (.lload_n 0, 1) := by decide +kernel
theorem d_Vl_timesFits_36 : decode prog_12_method_17_code 36 = .ok (.lcmp, 1) := by decide +kernel
theorem d_Vl_timesFits_37 : decode prog_12_method_17_code 37 = .ok (.ifCond .ne 7, 3) := by decide +kernel
theorem d_Vl_timesFits_44 : decode prog_12_method_17_code 44 = .ok (.iconst 0, 1) := by decide +kernel
theorem d_Vl_timesFits_45 : decode prog_12_method_17_code 45 = .ok (.ireturn, 1) := by decide +kernel
theorem d_Vl_timesFits_40 : decode prog_12_method_17_code 40 = .ok (.iconst 1, 1) := by decide +kernel
theorem d_Vl_timesFits_41 : decode prog_12_method_17_code 41 = .ok (.goto 4, 3) := by decide +kernel
theorem d_Vl_timesFits_16 : decode prog_12_method_17_code 16 = .ok (.lload_n 0, 1) := by decide +kernel
theorem d_Vl_timesFits_17 : decode prog_12_method_17_code 17 = .ok (.ldc2_w 101, 3) := by decide +kernel
theorem d_Vl_timesFits_20 : decode prog_12_method_17_code 20 = .ok (.lcmp, 1) := by decide +kernel
theorem d_Vl_timesFits_21 : decode prog_12_method_17_code 21 = .ok (.ifCond .eq 7, 3) := by decide +kernel
theorem d_Vl_timesFits_28 : decode prog_12_method_17_code 28 = .ok (.iconst 0, 1) := by decide +kernel
theorem d_Vl_timesFits_29 : decode prog_12_method_17_code 29 = .ok (.ireturn, 1) := by decide +kernel
theorem d_Vl_timesFits_24 : decode prog_12_method_17_code 24 = .ok (.iconst 1, 1) := by decide +kernel
theorem d_Vl_timesFits_25 : decode prog_12_method_17_code 25 = .ok (.goto 4, 3) := by decide +kernel
theorem d_Vl_timesFits_6 : decode prog_12_method_17_code 6 = .ok (.iconst 1, 1) := by decide +kernel
theorem d_Vl_timesFits_7 : decode prog_12_method_17_code 7 = .ok (.ireturn, 1) := by decide +kernel
set_option maxHeartbeats 4000000 in
theorem w_Vl_timesFits_0 {l : Launch} {G : gG} {d : Nat} {X : gX} {M : gM} {k : Int → gM → Prop}  {x0 : Int} (hx0 : g64 x0) {x2 : Int} (hx2 : g64 x2)  (T : (¬ x2 = 0 → ((¬ x2 = (-1) → ((x2 ≠ 0) ∧ ((¬ (w64 ((w64 (x0 * x2)).tdiv x2)) = x0 → (k 0 M)) ∧ ((w64 ((w64 (x0 * x2)).tdiv x2)) = x0 → (k 1 M))))) ∧ (x2 = (-1) → ((x0 = (-9223372036854775808) → (k 0 M)) ∧ (¬ x0 = (-9223372036854775808) → (k 1 M)))))) ∧ (x2 = 0 → (k 1 M))) : wp l G y_Vl_timesFits (gRm d) false (kkZ X k) false 0 [.val (gL x0), .unset, .val (gL x2), .unset] [] X M 0 0 := by
  refine wp_lload_n d_Vl_timesFits_0 rfl rfl ?_
  refine wp_lconst0 d_Vl_timesFits_1 ?_
  refine xl_ne (tgt := 8) d_Vl_timesFits_2 d_Vl_timesFits_3 (by decide) (w64_id hx2) (w64_id (g64_c (x := 0) rfl)) (fun h4 => ?_) (fun h4 => ?_)
  · have T := T.1 h4
    refine wp_lload_n d_Vl_timesFits_8 rfl rfl ?_
    refine wp_ldc2 (n := (-1)) d_Vl_timesFits_9 c_Vl_105 rfl ?_
    refine xl_ne (tgt := 30) d_Vl_timesFits_12 d_Vl_timesFits_13 (by decide) (w64_id hx2) (w64_id (g64_c (x := (-1)) rfl)) (fun h3 => ?_) (fun h3 => ?_)
    · have T := T.1 h3
      refine wp_lload_n d_Vl_timesFits_30 rfl rfl ?_
      refine wp_lload_n d_Vl_timesFits_31 rfl rfl ?_
      refine wp_lmul d_Vl_timesFits_32 ?_
      refine wp_lload_n d_Vl_timesFits_33 rfl rfl ?_
      refine xldiv d_Vl_timesFits_34 rfl (w64_id hx2) T.1 ?_
      have T := T.2
      refine wp_lload_n d_Vl_timesFits_35 rfl rfl ?_
      refine xl_ne (tgt := 44) d_Vl_timesFits_36 d_Vl_timesFits_37 (by decide) rfl (w64_id hx0) (fun h1 => ?_) (fun h1 => ?_)
      · have T := T.1 h1
        refine wp_iconst d_Vl_timesFits_44 ?_
        exact wp_zreturn d_Vl_timesFits_45 rfl (g_narz (⟨by decide, by decide⟩ : (0 : Int) ≤ 0 ∧ (0 : Int) ≤ 1)) id (Nat.zero_le _) (Nat.zero_le _) (kZ_mk (⟨by decide, by decide⟩ : (0 : Int) ≤ 0 ∧ (0 : Int) ≤ 1) T)
      · have T := T.2 h1
        refine wp_iconst d_Vl_timesFits_40 ?_
        refine wp_goto (tgt := 45) d_Vl_timesFits_41 (by decide) ?_
        exact wp_zreturn d_Vl_timesFits_45 rfl (g_narz (⟨by decide, by decide⟩ : (0 : Int) ≤ 1 ∧ (1 : Int) ≤ 1)) id (Nat.zero_le _) (Nat.zero_le _) (kZ_mk (⟨by decide, by decide⟩ : (0 : Int) ≤ 1 ∧ (1 : Int) ≤ 1) T)
    · have T := T.2 h3
      refine wp_lload_n d_Vl_timesFits_16 rfl rfl ?_
      refine wp_ldc2 (n := (-9223372036854775808)) d_Vl_timesFits_17 c_Vl_101 rfl ?_
      refine xl_eq (tgt := 28) d_Vl_timesFits_20 d_Vl_timesFits_21 (by decide) (w64_id hx0) (w64_id (g64_c (x := (-9223372036854775808)) rfl)) (fun h2 => ?_) (fun h2 => ?_)
      · have T := T.1 h2
        refine wp_iconst d_Vl_timesFits_28 ?_
        exact wp_zreturn d_Vl_timesFits_29 rfl (g_narz (⟨by decide, by decide⟩ : (0 : Int) ≤ 0 ∧ (0 : Int) ≤ 1)) id (Nat.zero_le _) (Nat.zero_le _) (kZ_mk (⟨by decide, by decide⟩ : (0 : Int) ≤ 0 ∧ (0 : Int) ≤ 1) T)
      · have T := T.2 h2
        refine wp_iconst d_Vl_timesFits_24 ?_
        refine wp_goto (tgt := 29) d_Vl_timesFits_25 (by decide) ?_
        exact wp_zreturn d_Vl_timesFits_29 rfl (g_narz (⟨by decide, by decide⟩ : (0 : Int) ≤ 1 ∧ (1 : Int) ≤ 1)) id (Nat.zero_le _) (Nat.zero_le _) (kZ_mk (⟨by decide, by decide⟩ : (0 : Int) ≤ 1 ∧ (1 : Int) ≤ 1) T)
  · have T := T.2 h4
    refine wp_iconst d_Vl_timesFits_6 ?_
    exact wp_zreturn d_Vl_timesFits_7 rfl (g_narz (⟨by decide, by decide⟩ : (0 : Int) ≤ 1 ∧ (1 : Int) ≤ 1)) id (Nat.zero_le _) (Nat.zero_le _) (kZ_mk (⟨by decide, by decide⟩ : (0 : Int) ≤ 1 ∧ (1 : Int) ≤ 1) T)
theorem e_Vl_timesFits {l : Launch} {G : gG} {d : Nat} {X : gX} {M : gM} {k : Int → gM → Prop}  {x0 : Int} {x2 : Int} (T : wp l G y_Vl_timesFits (gRm d) false (kkZ X k) false 0 [.val (gL x0), .unset, .val (gL x2), .unset] [] X M 0 0) : cZ l G y_Vl_timesFits (gRm d) false [gL x0, gL x2] X M k := cen_Z (plainFor_of_name rfl) (by simp only [lg_sl_R, lg_sl_I, lg_sl_L, lg_sl_N, List.length_cons, List.length_nil]; decide) (by unfold gEn; simp only [lg_sl_R, lg_sl_I, lg_sl_L, lg_sl_N]; exact wpt T (And.intro rfl (And.intro rfl True.intro)))
