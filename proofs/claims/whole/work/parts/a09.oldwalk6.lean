/-! Walks over Work and strings, written by wip/whole/gen_more.py -/
theorem d_GM_takes_0 : decode prog_15_method_55_code 0 = .ok (.aload_n 0, 1) := by decide +kernel
theorem d_GM_takes_1 : decode prog_15_method_55_code 1 = .ok (.iconst 0, 1) := by decide +kernel
theorem d_GM_takes_2 : decode prog_15_method_55_code 2 = .ok (.putfield 390, 3) := by decide +kernel
theorem d_GM_takes_5 : decode prog_15_method_55_code 5 = .ok (.iconst 0, 1) := by decide +kernel
theorem d_GM_takes_6 : decode prog_15_method_55_code 6 = .ok (.istore_n 3, 1) := by decide +kernel
theorem d_GM_takes_7 : decode prog_15_method_55_code 7 = .ok (.iload_n 3, 1) := by decide +kernel
theorem d_GM_takes_8 : decode prog_15_method_55_code 8 = .ok (.ldc_w 393, 3) := by decide +kernel
theorem d_GM_takes_11 : decode prog_15_method_55_code 11 = .ok (.invokevirtual 201, 3) := by decide +kernel
theorem d_GM_takes_14 : decode prog_15_method_55_code 14 = .ok (.if_icmp .ge 138, 3) := by decide +kernel
theorem d_GM_takes_152 : decode prog_15_method_55_code 152 = .ok (.iconst (-1), 1) := by decide +kernel
theorem d_GM_takes_153 : decode prog_15_method_55_code 153 = .ok (.ireturn, 1) := by decide +kernel
theorem d_GM_takes_17 : decode prog_15_method_55_code 17 = .ok (.iconst 0, 1) := by decide +kernel
theorem d_GM_takes_18 : decode prog_15_method_55_code 18 = .ok (.istore 4, 2) := by decide +kernel
theorem d_GM_takes_20 : decode prog_15_method_55_code 20 = .ok (.ldc_w 393, 3) := by decide +kernel
theorem d_GM_takes_23 : decode prog_15_method_55_code 23 = .ok (.iload_n 3, 1) := by decide +kernel
theorem d_GM_takes_24 : decode prog_15_method_55_code 24 = .ok (.iload 4, 2) := by decide +kernel
theorem d_GM_takes_26 : decode prog_15_method_55_code 26 = .ok (.iadd, 1) := by decide +kernel
theorem d_GM_takes_27 : decode prog_15_method_55_code 27 = .ok (.invokevirtual 207, 3) := by decide +kernel
theorem d_GM_takes_30 : decode prog_15_method_55_code 30 = .ok (.bipush 58, 2) := by decide +kernel
theorem d_GM_takes_32 : decode prog_15_method_55_code 32 = .ok (.if_icmp .eq 9, 3) := by decide +kernel
theorem d_GM_takes_41 : decode prog_15_method_55_code 41 = .ok (.iload 4, 2) := by decide +kernel
theorem d_GM_takes_43 : decode prog_15_method_55_code 43 = .ok (.iload_n 2, 1) := by decide +kernel
theorem d_GM_takes_44 : decode prog_15_method_55_code 44 = .ok (.iload_n 1, 1) := by decide +kernel
theorem d_GM_takes_45 : decode prog_15_method_55_code 45 = .ok (.isub, 1) := by decide +kernel
theorem d_GM_takes_46 : decode prog_15_method_55_code 46 = .ok (.if_icmp .ne 7, 3) := by decide +kernel
theorem d_GM_takes_53 : decode prog_15_method_55_code 53 = .ok (.iconst 0, 1) := by decide +kernel
theorem d_GM_takes_54 : decode prog_15_method_55_code 54 = .ok (.istore 5, 2) := by decide +kernel
theorem d_GM_takes_56 : decode prog_15_method_55_code 56 = .ok (.iconst 0, 1) := by decide +kernel
theorem d_GM_takes_57 : decode prog_15_method_55_code 57 = .ok (.istore 6, 2) := by decide +kernel
theorem d_GM_takes_49 : decode prog_15_method_55_code 49 = .ok (.iconst 1, 1) := by decide +kernel
theorem d_GM_takes_50 : decode prog_15_method_55_code 50 = .ok (.goto 4, 3) := by decide +kernel
theorem d_GM_takes_35 : decode prog_15_method_55_code 35 = .ok (.iinc 4 1, 3) := by decide +kernel
theorem d_GM_takes_38 : decode prog_15_method_55_code 38 = .ok (.goto (-18), 3) := by decide +kernel
theorem d_GM_takes_59 : decode prog_15_method_55_code 59 = .ok (.iload 5, 2) := by decide +kernel
theorem d_GM_takes_61 : decode prog_15_method_55_code 61 = .ok (.ifCond .eq 45, 3) := by decide +kernel
theorem d_GM_takes_106 : decode prog_15_method_55_code 106 = .ok (.iload 5, 2) := by decide +kernel
theorem d_GM_takes_108 : decode prog_15_method_55_code 108 = .ok (.ifCond .eq 10, 3) := by decide +kernel
theorem d_GM_takes_111 : decode prog_15_method_55_code 111 = .ok (.iload_n 3, 1) := by decide +kernel
theorem d_GM_takes_112 : decode prog_15_method_55_code 112 = .ok (.iload 4, 2) := by decide +kernel
theorem d_GM_takes_114 : decode prog_15_method_55_code 114 = .ok (.iadd, 1) := by decide +kernel
theorem d_GM_takes_115 : decode prog_15_method_55_code 115 = .ok (.iconst 1, 1) := by decide +kernel
theorem d_GM_takes_116 : decode prog_15_method_55_code 116 = .ok (.iadd, 1) := by decide +kernel
theorem d_GM_takes_117 : decode prog_15_method_55_code 117 = .ok (.ireturn, 1) := by decide +kernel
theorem d_GM_takes_64 : decode prog_15_method_55_code 64 = .ok (.iload 6, 2) := by decide +kernel
theorem d_GM_takes_66 : decode prog_15_method_55_code 66 = .ok (.iload 4, 2) := by decide +kernel
theorem d_GM_takes_68 : decode prog_15_method_55_code 68 = .ok (.if_icmp .ge 38, 3) := by decide +kernel
theorem d_GM_takes_71 : decode prog_15_method_55_code 71 = .ok (.aload_n 0, 1) := by decide +kernel
theorem d_GM_takes_72 : decode prog_15_method_55_code 72 = .ok (.getfield 8, 3) := by decide +kernel
theorem d_GM_takes_75 : decode prog_15_method_55_code 75 = .ok (.iload_n 1, 1) := by decide +kernel
theorem d_GM_takes_76 : decode prog_15_method_55_code 76 = .ok (.iload 6, 2) := by decide +kernel
theorem d_GM_takes_78 : decode prog_15_method_55_code 78 = .ok (.iadd, 1) := by decide +kernel
theorem d_GM_takes_79 : decode prog_15_method_55_code 79 = .ok (.baload, 1) := by decide +kernel
theorem d_GM_takes_80 : decode prog_15_method_55_code 80 = .ok (.ldc_w 393, 3) := by decide +kernel
theorem d_GM_takes_83 : decode prog_15_method_55_code 83 = .ok (.iload_n 3, 1) := by decide +kernel
theorem d_GM_takes_84 : decode prog_15_method_55_code 84 = .ok (.iload 6, 2) := by decide +kernel
theorem d_GM_takes_86 : decode prog_15_method_55_code 86 = .ok (.iadd, 1) := by decide +kernel
theorem d_GM_takes_87 : decode prog_15_method_55_code 87 = .ok (.invokevirtual 207, 3) := by decide +kernel
theorem d_GM_takes_90 : decode prog_15_method_55_code 90 = .ok (.if_icmp .ne 7, 3) := by decide +kernel
theorem d_GM_takes_97 : decode prog_15_method_55_code 97 = .ok (.iconst 0, 1) := by decide +kernel
theorem d_GM_takes_98 : decode prog_15_method_55_code 98 = .ok (.istore 5, 2) := by decide +kernel
theorem d_GM_takes_100 : decode prog_15_method_55_code 100 = .ok (.iinc 6 1, 3) := by decide +kernel
theorem d_GM_takes_103 : decode prog_15_method_55_code 103 = .ok (.goto (-44), 3) := by decide +kernel
theorem d_GM_takes_93 : decode prog_15_method_55_code 93 = .ok (.iconst 1, 1) := by decide +kernel
theorem d_GM_takes_94 : decode prog_15_method_55_code 94 = .ok (.goto 4, 3) := by decide +kernel
theorem d_GM_takes_118 : decode prog_15_method_55_code 118 = .ok (.ldc_w 393, 3) := by decide +kernel
theorem d_GM_takes_121 : decode prog_15_method_55_code 121 = .ok (.iload_n 3, 1) := by decide +kernel
theorem d_GM_takes_122 : decode prog_15_method_55_code 122 = .ok (.invokevirtual 207, 3) := by decide +kernel
theorem d_GM_takes_125 : decode prog_15_method_55_code 125 = .ok (.bipush 32, 2) := by decide +kernel
theorem d_GM_takes_127 : decode prog_15_method_55_code 127 = .ok (.if_icmp .eq 9, 3) := by decide +kernel
theorem d_GM_takes_136 : decode prog_15_method_55_code 136 = .ok (.iinc 3 1, 3) := by decide +kernel
theorem d_GM_takes_139 : decode prog_15_method_55_code 139 = .ok (.aload_n 0, 1) := by decide +kernel
theorem d_GM_takes_140 : decode prog_15_method_55_code 140 = .ok (.dup, 1) := by decide +kernel
theorem d_GM_takes_141 : decode prog_15_method_55_code 141 = .ok (.getfield 390, 3) := by decide +kernel
theorem d_GM_takes_144 : decode prog_15_method_55_code 144 = .ok (.iconst 1, 1) := by decide +kernel
theorem d_GM_takes_145 : decode prog_15_method_55_code 145 = .ok (.iadd, 1) := by decide +kernel
theorem d_GM_takes_146 : decode prog_15_method_55_code 146 = .ok (.putfield 390, 3) := by decide +kernel
theorem d_GM_takes_149 : decode prog_15_method_55_code 149 = .ok (.goto (-142), 3) := by decide +kernel
theorem d_GM_takes_130 : decode prog_15_method_55_code 130 = .ok (.iinc 3 1, 3) := by decide +kernel
theorem d_GM_takes_133 : decode prog_15_method_55_code 133 = .ok (.goto (-15), 3) := by decide +kernel
set_option maxHeartbeats 4000000 in
theorem w_GM_takes_0 {l : Launch} {G : gG} {d : Nat} {X : gX} {M : gM} {k : Int → gM → Prop} {o : Nat} (hX : gmX X o) {Q : gQ} (hO : gOld G Q) {x1 : Int} (hx1 : g32 x1) {x2 : Int} (hx2 : g32 x2) (T : wp l G y_GM_takes (gRm (d + 5)) true (kkI X k) true 7 [.val (gR G o), .val (gI x1), .val (gI x2), .val (gI 0), .unset, .unset, .unset] [] X (gUp M o 55 0) 0 0) : wp l G y_GM_takes (gRm (d + 5)) true (kkI X k) false 0 [.val (gR G o), .val (gI x1), .val (gI x2), .unset, .unset, .unset, .unset] [] X M 0 0 := by
  refine wp_aload_n d_GM_takes_0 rfl rfl (g_nz hX.1) ?_
  refine wp_iconst d_GM_takes_1 ?_
  refine xputI d_GM_takes_2 gc_GM f_GM_390.1 f_GM_390.2.1 f_GM_390.2.2.1 hX.1 (gm_o2 hX) hX.2.2.1 f_GM_390.2.2.2.1 f_GM_390.2.2.2.2.1 f_GM_390.2.2.2.2.2 (w32_id (g32_c (x := 0) rfl)) ?_
  refine wp_iconst d_GM_takes_5 ?_
  refine wp_istore_n (L' := [.val (gR G o), .val (gI x1), .val (gI x2), .val (gI 0), .unset, .unset, .unset]) d_GM_takes_6 rfl (by decide) rfl ?_
  exact wp_md (wpt T (And.intro rfl (And.intro rfl (And.intro rfl (And.intro rfl True.intro)))))
set_option maxHeartbeats 4000000 in
theorem w_GM_takes_7 {l : Launch} {G : gG} {d : Nat} {X : gX} {M : gM} {k : Int → gM → Prop} {o : Nat} (hX : gmX X o) {Q : gQ} (hO : gOld G Q) {x1 : Int} (hx1 : g32 x1) {x2 : Int} (hx2 : g32 x2) {x3 : Int} (hx3 : g32 x3) (T : ((gSl 7 : Int) ≤ x3 → (k (-1) M)) ∧ (¬ (gSl 7 : Int) ≤ x3 → (wp l G y_GM_takes (gRm (d + 5)) true (kkI X k) true 20 [.val (gR G o), .val (gI x1), .val (gI x2), .val (gI x3), .val (gI 0), .unset, .unset] [] X M 0 0))) : wp l G y_GM_takes (gRm (d + 5)) true (kkI X k) true 7 [.val (gR G o), .val (gI x1), .val (gI x2), .val (gI x3), .unset, .unset, .unset] [] X M 0 0 := by
  refine wp_iload_n d_GM_takes_7 rfl rfl ?_
  refine wp_ldcSW d_GM_takes_8 (fun U hU => ((hO U hU).2.1 7 (by decide)).2.2.2.2 ("GridLedgerModel", 393, "SUM:r PRODUCT:r MIN:r MAX:r AVERAGE:r COUNT:r COUNTA:r AND:bb OR:bb NOT:b IF:bxx IFERROR:xx CHOOSE:nxxx ISERROR:x ISNUMBER:x ISTEXT:x ISBLANK:x ABS:n SIGN:n MOD:nn LEN:t UPPER:t LOWER:t LEFT:tn RIGHT:tn MID:tnn FIND:tt REPLACE:ttt ROW:r COLUMN:r ROWS:r COLUMNS:r NA: INDEX:rnn MATCH:xr LOOKUP:xrn SUMIF:rx COUNTIF:rx ") rfl) ?_
  refine xo_len hO (by decide) d_GM_takes_11 ml_GM_201 (by simp only [List.map, gR_cat, gI_cat, gL_cat, g_rcat, List.sum_cons, List.sum_nil]; decide) ?_
  refine xi_ge (tgt := 152) d_GM_takes_14 (by decide) (w32_id hx3) (w32_id (g32_h4 (gSl_ok (by decide)))) (fun h1 => ?_) (fun h1 => ?_)
  · have T := T.1 h1
    refine wp_iconst d_GM_takes_152 ?_
    exact wp_ireturn d_GM_takes_153 rfl (fun _ => rfl) (Nat.zero_le _) (Nat.zero_le _) (kI_mk (g32_c (x := (-1)) rfl) T)
  · have T := T.2 h1
    refine wp_iconst d_GM_takes_17 ?_
    refine wp_istore (L' := [.val (gR G o), .val (gI x1), .val (gI x2), .val (gI x3), .val (gI 0), .unset, .unset]) d_GM_takes_18 (by decide) rfl ?_
    exact wp_md (wpt T (And.intro rfl (And.intro rfl (And.intro rfl (And.intro rfl (And.intro rfl True.intro))))))
set_option maxHeartbeats 4000000 in
theorem w_GM_takes_20 {l : Launch} {G : gG} {d : Nat} {X : gX} {M : gM} {k : Int → gM → Prop} {o : Nat} (hX : gmX X o) {Q : gQ} (hO : gOld G Q) {x1 : Int} (hx1 : g32 x1) {x2 : Int} (hx2 : g32 x2) {x3 : Int} (hx3 : g32 x3) {x4 : Int} (hx4 : g32 x4) (T : ((0 : Int) ≤ (w32 (x3 + x4)) ∧ (w32 (x3 + x4)) < (gSl 7 : Int)) ∧ ((gSc 7 (Int.toNat (w32 (x3 + x4))) = 58 → ((¬ x4 = (w32 (x2 - x1)) → (wp l G y_GM_takes (gRm (d + 5)) true (kkI X k) true 59 [.val (gR G o), .val (gI x1), .val (gI x2), .val (gI x3), .val (gI x4), .val (gI 0), .val (gI 0)] [] X M 0 0)) ∧ (x4 = (w32 (x2 - x1)) → (wp l G y_GM_takes (gRm (d + 5)) true (kkI X k) true 59 [.val (gR G o), .val (gI x1), .val (gI x2), .val (gI x3), .val (gI x4), .val (gI 1), .val (gI 0)] [] X M 0 0)))) ∧ (¬ gSc 7 (Int.toNat (w32 (x3 + x4))) = 58 → (wp l G y_GM_takes (gRm (d + 5)) true (kkI X k) true 20 [.val (gR G o), .val (gI x1), .val (gI x2), .val (gI x3), .val (gI (w32 (x4 + 1))), .unset, .unset] [] X M 0 0)))) : wp l G y_GM_takes (gRm (d + 5)) true (kkI X k) true 20 [.val (gR G o), .val (gI x1), .val (gI x2), .val (gI x3), .val (gI x4), .unset, .unset] [] X M 0 0 := by
  refine wp_ldcSW d_GM_takes_20 (fun U hU => ((hO U hU).2.1 7 (by decide)).2.2.2.2 ("GridLedgerModel", 393, "SUM:r PRODUCT:r MIN:r MAX:r AVERAGE:r COUNT:r COUNTA:r AND:bb OR:bb NOT:b IF:bxx IFERROR:xx CHOOSE:nxxx ISERROR:x ISNUMBER:x ISTEXT:x ISBLANK:x ABS:n SIGN:n MOD:nn LEN:t UPPER:t LOWER:t LEFT:tn RIGHT:tn MID:tnn FIND:tt REPLACE:ttt ROW:r COLUMN:r ROWS:r COLUMNS:r NA: INDEX:rnn MATCH:xr LOOKUP:xrn SUMIF:rx COUNTIF:rx ") rfl) ?_
  refine wp_iload_n d_GM_takes_23 rfl rfl ?_
  refine wp_iload d_GM_takes_24 rfl ?_
  refine wp_iadd d_GM_takes_26 ?_
  have q2 := T.1
  have T := T.2
  refine xo_chr hO (by decide) d_GM_takes_27 ml_GM_207 (by decide) rfl q2 ?_
  refine wp_bipush d_GM_takes_30 ⟨by decide, by decide⟩ ?_
  refine xi_eq (tgt := 41) d_GM_takes_32 (by decide) (w32_id (g32_h (gSc_ok (by decide) _))) (w32_id (g32_c (x := 58) rfl)) (fun h4 => ?_) (fun h4 => ?_)
  · have T := T.1 h4
    refine wp_iload d_GM_takes_41 rfl ?_
    refine wp_iload_n d_GM_takes_43 rfl rfl ?_
    refine wp_iload_n d_GM_takes_44 rfl rfl ?_
    refine wp_isub d_GM_takes_45 ?_
    refine xi_ne (tgt := 53) d_GM_takes_46 (by decide) (w32_id hx4) rfl (fun h3 => ?_) (fun h3 => ?_)
    · have T := T.1 h3
      refine wp_iconst d_GM_takes_53 ?_
      refine wp_istore (L' := [.val (gR G o), .val (gI x1), .val (gI x2), .val (gI x3), .val (gI x4), .val (gI 0), .unset]) d_GM_takes_54 (by decide) rfl ?_
      refine wp_iconst d_GM_takes_56 ?_
      refine wp_istore (L' := [.val (gR G o), .val (gI x1), .val (gI x2), .val (gI x3), .val (gI x4), .val (gI 0), .val (gI 0)]) d_GM_takes_57 (by decide) rfl ?_
      exact wp_md (wpt T (And.intro rfl (And.intro rfl (And.intro rfl (And.intro rfl (And.intro rfl (And.intro rfl (And.intro rfl True.intro))))))))
    · have T := T.2 h3
      refine wp_iconst d_GM_takes_49 ?_
      refine wp_goto (tgt := 54) d_GM_takes_50 (by decide) ?_
      refine wp_istore (L' := [.val (gR G o), .val (gI x1), .val (gI x2), .val (gI x3), .val (gI x4), .val (gI 1), .unset]) d_GM_takes_54 (by decide) rfl ?_
      refine wp_iconst d_GM_takes_56 ?_
      refine wp_istore (L' := [.val (gR G o), .val (gI x1), .val (gI x2), .val (gI x3), .val (gI x4), .val (gI 1), .val (gI 0)]) d_GM_takes_57 (by decide) rfl ?_
      exact wp_md (wpt T (And.intro rfl (And.intro rfl (And.intro rfl (And.intro rfl (And.intro rfl (And.intro rfl (And.intro rfl True.intro))))))))
  · have T := T.2 h4
    refine wp_iinc (L' := [.val (gR G o), .val (gI x1), .val (gI x2), .val (gI x3), .val (gI (x4 + 1)), .unset, .unset]) d_GM_takes_35 rfl (by decide) rfl ?_
    refine wp_goto (tgt := 20) d_GM_takes_38 (by decide) ?_
    exact wp_md (wpt T (And.intro rfl (And.intro rfl (And.intro rfl (And.intro rfl (And.intro (gI_w _) True.intro))))))
set_option maxHeartbeats 4000000 in
theorem w_GM_takes_59 {l : Launch} {G : gG} {d : Nat} {X : gX} {M : gM} {k : Int → gM → Prop} {o : Nat} (hX : gmX X o) {Q : gQ} (hO : gOld G Q) {x1 : Int} (hx1 : g32 x1) {x2 : Int} (hx2 : g32 x2) {x3 : Int} (hx3 : g32 x3) {x4 : Int} (hx4 : g32 x4) {x5 : Int} (hx5 : g32 x5) {x6 : Int} (hx6 : g32 x6) (T : (x5 = 0 → ((x5 = 0 → (wp l G y_GM_takes (gRm (d + 5)) true (kkI X k) true 118 [.val (gR G o), .val (gI x1), .val (gI x2), .val (gI x3), .unset, .unset, .unset] [] X M 0 0)) ∧ (¬ x5 = 0 → (k (w32 ((x3 + x4) + 1)) M)))) ∧ (¬ x5 = 0 → ((x4 ≤ x6 → ((x5 = 0 → (wp l G y_GM_takes (gRm (d + 5)) true (kkI X k) true 118 [.val (gR G o), .val (gI x1), .val (gI x2), .val (gI x3), .unset, .unset, .unset] [] X M 0 0)) ∧ (¬ x5 = 0 → (k (w32 ((x3 + x4) + 1)) M)))) ∧ (¬ x4 ≤ x6 → (((0 : Int) ≤ x1 + x6 ∧ x1 + x6 < 90000) ∧ ((-128 ≤ M (o + 1) (Int.toNat (x1 + x6)) ∧ M (o + 1) (Int.toNat (x1 + x6)) < 128) → (((0 : Int) ≤ (w32 (x3 + x6)) ∧ (w32 (x3 + x6)) < (gSl 7 : Int)) ∧ ((¬ M (o + 1) (Int.toNat (x1 + x6)) = gSc 7 (Int.toNat (w32 (x3 + x6))) → (wp l G y_GM_takes (gRm (d + 5)) true (kkI X k) true 59 [.val (gR G o), .val (gI x1), .val (gI x2), .val (gI x3), .val (gI x4), .val (gI 0), .val (gI (w32 (x6 + 1)))] [] X M 0 0)) ∧ (M (o + 1) (Int.toNat (x1 + x6)) = gSc 7 (Int.toNat (w32 (x3 + x6))) → (wp l G y_GM_takes (gRm (d + 5)) true (kkI X k) true 59 [.val (gR G o), .val (gI x1), .val (gI x2), .val (gI x3), .val (gI x4), .val (gI 1), .val (gI (w32 (x6 + 1)))] [] X M 0 0)))))))))) : wp l G y_GM_takes (gRm (d + 5)) true (kkI X k) true 59 [.val (gR G o), .val (gI x1), .val (gI x2), .val (gI x3), .val (gI x4), .val (gI x5), .val (gI x6)] [] X M 0 0 := by
  refine wp_iload d_GM_takes_59 rfl ?_
  refine xz_eq (tgt := 106) d_GM_takes_61 (by decide) (w32_id hx5) (fun h11 => ?_) (fun h11 => ?_)
  · have T := T.1 h11
    refine wp_iload d_GM_takes_106 rfl ?_
    refine xz_eq (tgt := 118) d_GM_takes_108 (by decide) (w32_id hx5) (fun h5 => ?_) (fun h5 => ?_)
    · have T := T.1 h5
      exact wp_md (wpt T (And.intro rfl (And.intro rfl (And.intro rfl (And.intro rfl True.intro)))))
    · have T := T.2 h5
      refine wp_iload_n d_GM_takes_111 rfl rfl ?_
      refine wp_iload d_GM_takes_112 rfl ?_
      refine wp_iadd d_GM_takes_114 ?_
      refine wp_iconst d_GM_takes_115 ?_
      refine wp_iadd d_GM_takes_116 ?_
      exact wp_st (st' := [gI (w32 ((x3 + x4) + 1))]) (by rw [gI_w]) (wp_ireturn d_GM_takes_117 rfl (fun _ => rfl) (Nat.zero_le _) (Nat.zero_le _) (kI_mk (w32_ok _) T))
  · have T := T.2 h11
    refine wp_iload d_GM_takes_64 rfl ?_
    refine wp_iload d_GM_takes_66 rfl ?_
    refine xi_ge (tgt := 106) d_GM_takes_68 (by decide) (w32_id hx6) (w32_id hx4) (fun h10 => ?_) (fun h10 => ?_)
    · have T := T.1 h10
      refine wp_iload d_GM_takes_106 rfl ?_
      refine xz_eq (tgt := 118) d_GM_takes_108 (by decide) (w32_id hx5) (fun h6 => ?_) (fun h6 => ?_)
      · have T := T.1 h6
        exact wp_md (wpt T (And.intro rfl (And.intro rfl (And.intro rfl (And.intro rfl True.intro)))))
      · have T := T.2 h6
        refine wp_iload_n d_GM_takes_111 rfl rfl ?_
        refine wp_iload d_GM_takes_112 rfl ?_
        refine wp_iadd d_GM_takes_114 ?_
        refine wp_iconst d_GM_takes_115 ?_
        refine wp_iadd d_GM_takes_116 ?_
        exact wp_st (st' := [gI (w32 ((x3 + x4) + 1))]) (by rw [gI_w]) (wp_ireturn d_GM_takes_117 rfl (fun _ => rfl) (Nat.zero_le _) (Nat.zero_le _) (kI_mk (w32_ok _) T))
    · have T := T.2 h10
      refine wp_aload_n d_GM_takes_71 rfl rfl (g_nz hX.1) ?_
      refine xgetR d_GM_takes_72 gc_GM f_GM_8.1 f_GM_8.2.1 f_GM_8.2.2.1 hX.1 (gm_o2 hX) hX.2.2.1 f_GM_8.2.2.2.2.1 (gm_row hX 0 rfl).1 ?_
      refine wp_iload_n d_GM_takes_75 rfl rfl ?_
      refine wp_iload d_GM_takes_76 rfl ?_
      refine wp_iadd d_GM_takes_78 ?_
      refine wp_baload d_GM_takes_79 (gm_row hX 0 rfl).2.2.1 (gm_row hX 0 rfl).2.2.2 (gm_row hX 0 rfl).2.1 (g32_n T.1 (by decide)) T.1.1 T.1.2 (fun h7 => ?_)
      have T := T.2 h7
      refine wp_ldcSW d_GM_takes_80 (fun U hU => ((hO U hU).2.1 7 (by decide)).2.2.2.2 ("GridLedgerModel", 393, "SUM:r PRODUCT:r MIN:r MAX:r AVERAGE:r COUNT:r COUNTA:r AND:bb OR:bb NOT:b IF:bxx IFERROR:xx CHOOSE:nxxx ISERROR:x ISNUMBER:x ISTEXT:x ISBLANK:x ABS:n SIGN:n MOD:nn LEN:t UPPER:t LOWER:t LEFT:tn RIGHT:tn MID:tnn FIND:tt REPLACE:ttt ROW:r COLUMN:r ROWS:r COLUMNS:r NA: INDEX:rnn MATCH:xr LOOKUP:xrn SUMIF:rx COUNTIF:rx ") rfl) ?_
      refine wp_iload_n d_GM_takes_83 rfl rfl ?_
      refine wp_iload d_GM_takes_84 rfl ?_
      refine wp_iadd d_GM_takes_86 ?_
      have q8 := T.1
      have T := T.2
      refine xo_chr hO (by decide) d_GM_takes_87 ml_GM_207 (by simp only [List.map, gR_cat, gI_cat, gL_cat, g_rcat, List.sum_cons, List.sum_nil]; decide) rfl q8 ?_
      refine xi_ne (tgt := 97) d_GM_takes_90 (by decide) (w32_id (g32_b h7)) (w32_id (g32_h (gSc_ok (by decide) _))) (fun h9 => ?_) (fun h9 => ?_)
      · have T := T.1 h9
        refine wp_iconst d_GM_takes_97 ?_
        refine wp_istore (L' := [.val (gR G o), .val (gI x1), .val (gI x2), .val (gI x3), .val (gI x4), .val (gI 0), .val (gI x6)]) d_GM_takes_98 (by decide) rfl ?_
        refine wp_iinc (L' := [.val (gR G o), .val (gI x1), .val (gI x2), .val (gI x3), .val (gI x4), .val (gI 0), .val (gI (x6 + 1))]) d_GM_takes_100 rfl (by decide) rfl ?_
        refine wp_goto (tgt := 59) d_GM_takes_103 (by decide) ?_
        exact wp_md (wpt T (And.intro rfl (And.intro rfl (And.intro rfl (And.intro rfl (And.intro rfl (And.intro rfl (And.intro (gI_w _) True.intro))))))))
      · have T := T.2 h9
        refine wp_iconst d_GM_takes_93 ?_
        refine wp_goto (tgt := 98) d_GM_takes_94 (by decide) ?_
        refine wp_istore (L' := [.val (gR G o), .val (gI x1), .val (gI x2), .val (gI x3), .val (gI x4), .val (gI 1), .val (gI x6)]) d_GM_takes_98 (by decide) rfl ?_
        refine wp_iinc (L' := [.val (gR G o), .val (gI x1), .val (gI x2), .val (gI x3), .val (gI x4), .val (gI 1), .val (gI (x6 + 1))]) d_GM_takes_100 rfl (by decide) rfl ?_
        refine wp_goto (tgt := 59) d_GM_takes_103 (by decide) ?_
        exact wp_md (wpt T (And.intro rfl (And.intro rfl (And.intro rfl (And.intro rfl (And.intro rfl (And.intro rfl (And.intro (gI_w _) True.intro))))))))
set_option maxHeartbeats 4000000 in
theorem w_GM_takes_118 {l : Launch} {G : gG} {d : Nat} {X : gX} {M : gM} {k : Int → gM → Prop} {o : Nat} (hX : gmX X o) {Q : gQ} (hO : gOld G Q) {x1 : Int} (hx1 : g32 x1) {x2 : Int} (hx2 : g32 x2) {x3 : Int} (hx3 : g32 x3) (T : ((0 : Int) ≤ x3 ∧ x3 < (gSl 7 : Int)) ∧ ((gSc 7 (Int.toNat x3) = 32 → (g32 (M o 55) → (wp l G y_GM_takes (gRm (d + 5)) true (kkI X k) true 7 [.val (gR G o), .val (gI x1), .val (gI x2), .val (gI (w32 (x3 + 1))), .unset, .unset, .unset] [] X (gUp M o 55 (w32 ((M o 55) + 1))) 0 0))) ∧ (¬ gSc 7 (Int.toNat x3) = 32 → (wp l G y_GM_takes (gRm (d + 5)) true (kkI X k) true 118 [.val (gR G o), .val (gI x1), .val (gI x2), .val (gI (w32 (x3 + 1))), .unset, .unset, .unset] [] X M 0 0)))) : wp l G y_GM_takes (gRm (d + 5)) true (kkI X k) true 118 [.val (gR G o), .val (gI x1), .val (gI x2), .val (gI x3), .unset, .unset, .unset] [] X M 0 0 := by
  refine wp_ldcSW d_GM_takes_118 (fun U hU => ((hO U hU).2.1 7 (by decide)).2.2.2.2 ("GridLedgerModel", 393, "SUM:r PRODUCT:r MIN:r MAX:r AVERAGE:r COUNT:r COUNTA:r AND:bb OR:bb NOT:b IF:bxx IFERROR:xx CHOOSE:nxxx ISERROR:x ISNUMBER:x ISTEXT:x ISBLANK:x ABS:n SIGN:n MOD:nn LEN:t UPPER:t LOWER:t LEFT:tn RIGHT:tn MID:tnn FIND:tt REPLACE:ttt ROW:r COLUMN:r ROWS:r COLUMNS:r NA: INDEX:rnn MATCH:xr LOOKUP:xrn SUMIF:rx COUNTIF:rx ") rfl) ?_
  refine wp_iload_n d_GM_takes_121 rfl rfl ?_
  have q12 := T.1
  have T := T.2
  refine xo_chr hO (by decide) d_GM_takes_122 ml_GM_207 (by decide) (w32_id hx3) q12 ?_
  refine wp_bipush d_GM_takes_125 ⟨by decide, by decide⟩ ?_
  refine xi_eq (tgt := 136) d_GM_takes_127 (by decide) (w32_id (g32_h (gSc_ok (by decide) _))) (w32_id (g32_c (x := 32) rfl)) (fun h14 => ?_) (fun h14 => ?_)
  · have T := T.1 h14
    refine wp_iinc (L' := [.val (gR G o), .val (gI x1), .val (gI x2), .val (gI (x3 + 1)), .unset, .unset, .unset]) d_GM_takes_136 rfl (by decide) rfl ?_
    refine wp_aload_n d_GM_takes_139 rfl rfl (g_nz hX.1) ?_
    refine wp_dup d_GM_takes_140 (gR_cat _) ?_
    refine xgetI d_GM_takes_141 gc_GM f_GM_390.1 f_GM_390.2.1 f_GM_390.2.2.1 hX.1 (gm_o2 hX) hX.2.2.1 f_GM_390.2.2.2.2.1 (fun h13 => ?_)
    have T := T h13
    refine wp_iconst d_GM_takes_144 ?_
    refine wp_iadd d_GM_takes_145 ?_
    refine xputI d_GM_takes_146 gc_GM f_GM_390.1 f_GM_390.2.1 f_GM_390.2.2.1 hX.1 (gm_o2 hX) hX.2.2.1 f_GM_390.2.2.2.1 f_GM_390.2.2.2.2.1 f_GM_390.2.2.2.2.2 rfl ?_
    refine wp_goto (tgt := 7) d_GM_takes_149 (by decide) ?_
    exact wp_md (wpt T (And.intro rfl (And.intro rfl (And.intro rfl (And.intro (gI_w _) True.intro)))))
  · have T := T.2 h14
    refine wp_iinc (L' := [.val (gR G o), .val (gI x1), .val (gI x2), .val (gI (x3 + 1)), .unset, .unset, .unset]) d_GM_takes_130 rfl (by decide) rfl ?_
    refine wp_goto (tgt := 118) d_GM_takes_133 (by decide) ?_
    exact wp_md (wpt T (And.intro rfl (And.intro rfl (And.intro rfl (And.intro (gI_w _) True.intro)))))
theorem e_GM_takes {l : Launch} {G : gG} {d : Nat} {X : gX} {M : gM} {k : Int → gM → Prop} {Q : gQ} {o : Nat} {x1 : Int} {x2 : Int} (T : wp l G y_GM_takes (gRm (d + 5)) true (kkI X k) false 0 [.val (gR G o), .val (gI x1), .val (gI x2), .unset, .unset, .unset, .unset] [] X M 0 0) : cI l G y_GM_takes (gRm (d + 5)) true [gR G o, gI x1, gI x2] X M k := cen_I (plainFor_of_name rfl) (by simp only [lg_sl_R, lg_sl_I, lg_sl_L, lg_sl_N, List.length_cons, List.length_nil]; decide) (by unfold gEn; simp only [lg_sl_R, lg_sl_I, lg_sl_L, lg_sl_N]; exact wpt T (And.intro rfl (And.intro rfl (And.intro rfl True.intro))))
