/-! Walks of the class's methods, written by wip/whole/gen_class.py -/
theorem d_Or_takeRead_0 : decode prog_7_method_9_code 0 = .ok (.aload_n 0, 1) := by decide +kernel
theorem d_Or_takeRead_1 : decode prog_7_method_9_code 1 = .ok (.getfield 38, 3) := by decide +kernel
theorem d_Or_takeRead_4 : decode prog_7_method_9_code 4 = .ok (.iload_n 1, 1) := by decide +kernel
theorem d_Or_takeRead_5 : decode prog_7_method_9_code 5 = .ok (.iaload, 1) := by decide +kernel
theorem d_Or_takeRead_6 : decode prog_7_method_9_code 6 = .ok (.istore_n 2, 1) := by decide +kernel
theorem d_Or_takeRead_7 : decode prog_7_method_9_code 7 = .ok (.ldc2_w 119, 3) := by decide +kernel
theorem d_Or_takeRead_10 : decode prog_7_method_9_code 10 = .ok (.iload_n 2, 1) := by decide +kernel
theorem d_Or_takeRead_11 : decode prog_7_method_9_code 11 = .ok (.bipush 63, 2) := by decide +kernel
theorem d_Or_takeRead_13 : decode prog_7_method_9_code 13 = .ok (.iand, 1) := by decide +kernel
theorem d_Or_takeRead_14 : decode prog_7_method_9_code 14 = .ok (.lshl, 1) := by decide +kernel
theorem d_Or_takeRead_15 : decode prog_7_method_9_code 15 = .ok (.lstore_n 3, 1) := by decide +kernel
theorem d_Or_takeRead_16 : decode prog_7_method_9_code 16 = .ok (.iload_n 2, 1) := by decide +kernel
theorem d_Or_takeRead_17 : decode prog_7_method_9_code 17 = .ok (.bipush 6, 2) := by decide +kernel
theorem d_Or_takeRead_19 : decode prog_7_method_9_code 19 = .ok (.ishr, 1) := by decide +kernel
theorem d_Or_takeRead_20 : decode prog_7_method_9_code 20 = .ok (.istore 5, 2) := by decide +kernel
theorem d_Or_takeRead_22 : decode prog_7_method_9_code 22 = .ok (.iload 5, 2) := by decide +kernel
theorem d_Or_takeRead_24 : decode prog_7_method_9_code 24 = .ok (.bipush 7, 2) := by decide +kernel
theorem d_Or_takeRead_26 : decode prog_7_method_9_code 26 = .ok (.if_icmp .ge 62, 3) := by decide +kernel
theorem d_Or_takeRead_88 : decode prog_7_method_9_code 88 = .ok (.sipush 400, 3) := by decide +kernel
theorem d_Or_takeRead_91 : decode prog_7_method_9_code 91 = .ok (.ireturn, 1) := by decide +kernel
theorem d_Or_takeRead_29 : decode prog_7_method_9_code 29 = .ok (.aload_n 0, 1) := by decide +kernel
theorem d_Or_takeRead_30 : decode prog_7_method_9_code 30 = .ok (.getfield 11, 3) := by decide +kernel
theorem d_Or_takeRead_33 : decode prog_7_method_9_code 33 = .ok (.iload_n 1, 1) := by decide +kernel
theorem d_Or_takeRead_34 : decode prog_7_method_9_code 34 = .ok (.bipush 7, 2) := by decide +kernel
theorem d_Or_takeRead_36 : decode prog_7_method_9_code 36 = .ok (.imul, 1) := by decide +kernel
theorem d_Or_takeRead_37 : decode prog_7_method_9_code 37 = .ok (.iload 5, 2) := by decide +kernel
theorem d_Or_takeRead_39 : decode prog_7_method_9_code 39 = .ok (.iadd, 1) := by decide +kernel
theorem d_Or_takeRead_40 : decode prog_7_method_9_code 40 = .ok (.laload, 1) := by decide +kernel
theorem d_Or_takeRead_41 : decode prog_7_method_9_code 41 = .ok (.lload_n 3, 1) := by decide +kernel
theorem d_Or_takeRead_42 : decode prog_7_method_9_code 42 = .ok (.land, 1) := by decide +kernel
theorem d_Or_takeRead_43 : decode prog_7_method_9_code 43 = .ok (.lstore 6, 2) := by decide +kernel
theorem d_Or_takeRead_45 : decode prog_7_method_9_code 45 = .ok (.lload 6, 2) := by decide +kernel
theorem d_Or_takeRead_47 : decode prog_7_method_9_code 47 = .ok (.lconst 0, 1) := by decide +kernel
theorem d_Or_takeRead_48 : decode prog_7_method_9_code 48 = .ok (.lcmp, 1) := by decide +kernel
theorem d_Or_takeRead_49 : decode prog_7_method_9_code 49 = .ok (.ifCond .eq 29, 3) := by decide +kernel
theorem d_Or_takeRead_78 : decode prog_7_method_9_code 78 = .ok (.ldc2_w 119, 3) := by decide +kernel
theorem d_Or_takeRead_81 : decode prog_7_method_9_code 81 = .ok (.lstore_n 3, 1) := by decide +kernel
theorem d_Or_takeRead_82 : decode prog_7_method_9_code 82 = .ok (.iinc 5 1, 3) := by decide +kernel
theorem d_Or_takeRead_85 : decode prog_7_method_9_code 85 = .ok (.goto (-63), 3) := by decide +kernel
theorem d_Or_takeRead_52 : decode prog_7_method_9_code 52 = .ok (.iload 5, 2) := by decide +kernel
theorem d_Or_takeRead_54 : decode prog_7_method_9_code 54 = .ok (.bipush 64, 2) := by decide +kernel
theorem d_Or_takeRead_56 : decode prog_7_method_9_code 56 = .ok (.imul, 1) := by decide +kernel
theorem d_Or_takeRead_57 : decode prog_7_method_9_code 57 = .ok (.lload 6, 2) := by decide +kernel
theorem d_Or_takeRead_59 : decode prog_7_method_9_code 59 = .ok (.invokestatic 121, 3) := by decide +kernel
theorem d_Or_takeRead_62 : decode prog_7_method_9_code 62 = .ok (.iadd, 1) := by decide +kernel
theorem d_Or_takeRead_63 : decode prog_7_method_9_code 63 = .ok (.istore 8, 2) := by decide +kernel
theorem d_Or_takeRead_65 : decode prog_7_method_9_code 65 = .ok (.aload_n 0, 1) := by decide +kernel
theorem d_Or_takeRead_66 : decode prog_7_method_9_code 66 = .ok (.getfield 38, 3) := by decide +kernel
theorem d_Or_takeRead_69 : decode prog_7_method_9_code 69 = .ok (.iload_n 1, 1) := by decide +kernel
theorem d_Or_takeRead_70 : decode prog_7_method_9_code 70 = .ok (.iload 8, 2) := by decide +kernel
theorem d_Or_takeRead_72 : decode prog_7_method_9_code 72 = .ok (.iconst 1, 1) := by decide +kernel
theorem d_Or_takeRead_73 : decode prog_7_method_9_code 73 = .ok (.iadd, 1) := by decide +kernel
theorem d_Or_takeRead_74 : decode prog_7_method_9_code 74 = .ok (.iastore, 1) := by decide +kernel
theorem d_Or_takeRead_75 : decode prog_7_method_9_code 75 = .ok (.iload 8, 2) := by decide +kernel
theorem d_Or_takeRead_77 : decode prog_7_method_9_code 77 = .ok (.ireturn, 1) := by decide +kernel
set_option maxHeartbeats 4000000 in
theorem w_Or_takeRead_0 {l : Launch} {G : gG} {d : Nat} {X : gX} {M : gM} {k : Int → gM → Prop} {c : Nat} (hX : glX X c) {x1 : Int} (hx1 : g32 x1)  (T : ((0 : Int) ≤ x1 ∧ x1 < 400) ∧ (g32 (M (c + 1056) (Int.toNat x1)) → (wp l G y_Or_takeRead (gRm (d + 1)) true (kkI X k) true 22 [.val (gR G (c + 1047)), .val (gI x1), .unset, .val (gL (gLshl (-1) (gAnd (M (c + 1056) (Int.toNat x1)) 63))), .unset, .val (gI (gShr (M (c + 1056) (Int.toNat x1)) 6)), .unset, .unset, .unset] [] X M 0 0))) : wp l G y_Or_takeRead (gRm (d + 1)) true (kkI X k) false 0 [.val (gR G (c + 1047)), .val (gI x1), .unset, .unset, .unset, .unset, .unset, .unset, .unset] [] X M 0 0 := by
  refine wp_aload_n d_Or_takeRead_0 rfl rfl (g_nz (gl_1 hX 1047)) ?_
  refine xgetR d_Or_takeRead_1 gc_Or f_Or_38.1 f_Or_38.2.1 f_Or_38.2.2.1 (gl_1 hX 1047) (gl_2 hX (a := 1047) (by decide)) (gl_s hX 27 rfl) f_Or_38.2.2.2.2.1 (gl_f hX 39 rfl) ?_
  refine wp_iload_n d_Or_takeRead_4 rfl rfl ?_
  refine wp_iaload d_Or_takeRead_5 (gl_1 hX 1056) (gl_2 hX (a := 1056) (by decide)) (gl_s hX 36 rfl) (g32_n T.1 (by decide)) T.1.1 T.1.2 (fun h1 => ?_)
  have T := T.2 h1
  refine wp_istore_n (L' := [.val (gR G (c + 1047)), .val (gI x1), .val (gI (M (c + 1056) (Int.toNat x1))), .unset, .unset, .unset, .unset, .unset, .unset]) d_Or_takeRead_6 rfl (by decide) rfl ?_
  refine wp_ldc2 (n := (-1)) d_Or_takeRead_7 c_Or_119 rfl ?_
  refine wp_iload_n d_Or_takeRead_10 rfl rfl ?_
  refine wp_bipush d_Or_takeRead_11 ⟨by decide, by decide⟩ ?_
  refine wp_iand d_Or_takeRead_13 ?_
  refine wp_lshl d_Or_takeRead_14 ?_
  refine wp_lstore_n (L' := [.val (gR G (c + 1047)), .val (gI x1), .val (gI (M (c + 1056) (Int.toNat x1))), .val (gL (gLshl (-1) (gAnd (M (c + 1056) (Int.toNat x1)) 63))), .unset, .unset, .unset, .unset, .unset]) d_Or_takeRead_15 rfl (by decide) rfl ?_
  refine wp_iload_n d_Or_takeRead_16 rfl rfl ?_
  refine wp_bipush d_Or_takeRead_17 ⟨by decide, by decide⟩ ?_
  refine wp_ishr d_Or_takeRead_19 ?_
  refine wp_istore (L' := [.val (gR G (c + 1047)), .val (gI x1), .val (gI (M (c + 1056) (Int.toNat x1))), .val (gL (gLshl (-1) (gAnd (M (c + 1056) (Int.toNat x1)) 63))), .unset, .val (gI (gShr (M (c + 1056) (Int.toNat x1)) 6)), .unset, .unset, .unset]) d_Or_takeRead_20 (by decide) rfl ?_
  exact wp_md (wpt T (And.intro rfl (And.intro rfl (And.intro rfl (And.intro rfl True.intro)))))
set_option maxHeartbeats 4000000 in
theorem w_Or_takeRead_22 {l : Launch} {G : gG} {d : Nat} {X : gX} {M : gM} {k : Int → gM → Prop} {c : Nat} (hX : glX X c) {x1 : Int} (hx1 : g32 x1) {x3 : Int} (hx3 : g64 x3) {x5 : Int} (hx5 : g32 x5)  (T : (7 ≤ x5 → (k 400 M)) ∧ (¬ 7 ≤ x5 → (((0 : Int) ≤ (x1 * 7) + x5 ∧ (x1 * 7) + x5 < 2800) ∧ (g64 (M (c + 1048) (Int.toNat ((x1 * 7) + x5))) → ((gLand (M (c + 1048) (Int.toNat ((x1 * 7) + x5))) x3 = 0 → (wp l G y_Or_takeRead (gRm (d + 1)) true (kkI X k) true 22 [.val (gR G (c + 1047)), .val (gI x1), .unset, .val (gL (-1)), .unset, .val (gI (w32 (x5 + 1))), .unset, .unset, .unset] [] X M 0 0)) ∧ (¬ gLand (M (c + 1048) (Int.toNat ((x1 * 7) + x5))) x3 = 0 → (cI l G y_jLong_numberOfTrailingZeros (gRm d) false [gL (gLand (M (c + 1048) (Int.toNat ((x1 * 7) + x5))) x3)] X M (fun v4 M3 => (((0 : Int) ≤ x1 ∧ x1 < 400) ∧ (k (w32 ((x5 * 64) + v4)) (gUp M3 (c + 1056) (Int.toNat x1) (w32 (((x5 * 64) + v4) + 1))))))))))))) : wp l G y_Or_takeRead (gRm (d + 1)) true (kkI X k) true 22 [.val (gR G (c + 1047)), .val (gI x1), .unset, .val (gL x3), .unset, .val (gI x5), .unset, .unset, .unset] [] X M 0 0 := by
  refine wp_iload d_Or_takeRead_22 rfl ?_
  refine wp_bipush d_Or_takeRead_24 ⟨by decide, by decide⟩ ?_
  refine xi_ge (tgt := 88) d_Or_takeRead_26 (by decide) (w32_id hx5) (w32_id (g32_c (x := 7) rfl)) (fun h7 => ?_) (fun h7 => ?_)
  · have T := T.1 h7
    refine wp_sipush d_Or_takeRead_88 ⟨by decide, by decide⟩ ?_
    exact wp_ireturn d_Or_takeRead_91 rfl (fun _ => rfl) (Nat.zero_le _) (Nat.zero_le _) (kI_mk (g32_c (x := 400) rfl) T)
  · have T := T.2 h7
    refine wp_aload_n d_Or_takeRead_29 rfl rfl (g_nz (gl_1 hX 1047)) ?_
    refine xgetR d_Or_takeRead_30 gc_Or f_Or_11.1 f_Or_11.2.1 f_Or_11.2.2.1 (gl_1 hX 1047) (gl_2 hX (a := 1047) (by decide)) (gl_s hX 27 rfl) f_Or_11.2.2.2.2.1 (gl_f hX 31 rfl) ?_
    refine wp_iload_n d_Or_takeRead_33 rfl rfl ?_
    refine wp_bipush d_Or_takeRead_34 ⟨by decide, by decide⟩ ?_
    refine wp_imul d_Or_takeRead_36 ?_
    refine wp_iload d_Or_takeRead_37 rfl ?_
    refine wp_iadd d_Or_takeRead_39 ?_
    refine wp_laload d_Or_takeRead_40 (gl_1 hX 1048) (gl_2 hX (a := 1048) (by decide)) (gl_s hX 28 rfl) (g32_n T.1 (by decide)) T.1.1 T.1.2 (fun h2 => ?_)
    have T := T.2 h2
    refine wp_lload_n d_Or_takeRead_41 rfl rfl ?_
    refine wp_land d_Or_takeRead_42 ?_
    refine wp_lstore (L' := [.val (gR G (c + 1047)), .val (gI x1), .unset, .val (gL x3), .unset, .val (gI x5), .val (gL (gLand (M (c + 1048) (Int.toNat ((x1 * 7) + x5))) x3)), .unset, .unset]) d_Or_takeRead_43 (by decide) rfl ?_
    refine wp_lload d_Or_takeRead_45 rfl ?_
    refine wp_lconst0 d_Or_takeRead_47 ?_
    refine xl_eq (tgt := 78) d_Or_takeRead_48 d_Or_takeRead_49 (by decide) (w64_id (gLand_ok _ _)) (w64_id (g64_c (x := 0) rfl)) (fun h6 => ?_) (fun h6 => ?_)
    · have T := T.1 h6
      refine wp_ldc2 (n := (-1)) d_Or_takeRead_78 c_Or_119 rfl ?_
      refine wp_lstore_n (L' := [.val (gR G (c + 1047)), .val (gI x1), .unset, .val (gL (-1)), .unset, .val (gI x5), .val (gL (gLand (M (c + 1048) (Int.toNat ((x1 * 7) + x5))) x3)), .unset, .unset]) d_Or_takeRead_81 rfl (by decide) rfl ?_
      refine wp_iinc (L' := [.val (gR G (c + 1047)), .val (gI x1), .unset, .val (gL (-1)), .unset, .val (gI (x5 + 1)), .val (gL (gLand (M (c + 1048) (Int.toNat ((x1 * 7) + x5))) x3)), .unset, .unset]) d_Or_takeRead_82 rfl (by decide) rfl ?_
      refine wp_goto (tgt := 22) d_Or_takeRead_85 (by decide) ?_
      exact wp_md (wpt T (And.intro rfl (And.intro rfl (And.intro rfl (And.intro (gI_w _) True.intro)))))
    · have T := T.2 h6
      refine wp_iload d_Or_takeRead_52 rfl ?_
      refine wp_bipush d_Or_takeRead_54 ⟨by decide, by decide⟩ ?_
      refine wp_imul d_Or_takeRead_56 ?_
      refine wp_lload d_Or_takeRead_57 rfl ?_
      refine xcS_I (md' := true) (As := [gL (gLand (M (c + 1048) (Int.toNat ((x1 * 7) + x5))) x3)]) (st := [gI (x5 * 64)]) d_Or_takeRead_59 ca_jLong_numberOfTrailingZeros ml_Or_121 sm_jLong_numberOfTrailingZeros rfl (by decide) (by simp only [List.map, gR_cat, gI_cat, gL_cat, List.sum_cons, List.sum_nil]; decide) rfl (fun _ => rfl) (fun _ => rfl) T (fun v4 M3 h5 T => ?_)
      refine wp_iadd d_Or_takeRead_62 ?_
      refine wp_istore (L' := [.val (gR G (c + 1047)), .val (gI x1), .unset, .val (gL x3), .unset, .val (gI x5), .val (gL (gLand (M (c + 1048) (Int.toNat ((x1 * 7) + x5))) x3)), .unset, .val (gI ((x5 * 64) + v4))]) d_Or_takeRead_63 (by decide) rfl ?_
      refine wp_aload_n d_Or_takeRead_65 rfl rfl (g_nz (gl_1 hX 1047)) ?_
      refine xgetR d_Or_takeRead_66 gc_Or f_Or_38.1 f_Or_38.2.1 f_Or_38.2.2.1 (gl_1 hX 1047) (gl_2 hX (a := 1047) (by decide)) (gl_s hX 27 rfl) f_Or_38.2.2.2.2.1 (gl_f hX 39 rfl) ?_
      refine wp_iload_n d_Or_takeRead_69 rfl rfl ?_
      refine wp_iload d_Or_takeRead_70 rfl ?_
      refine wp_iconst d_Or_takeRead_72 ?_
      refine wp_iadd d_Or_takeRead_73 ?_
      refine xiast d_Or_takeRead_74 (gl_1 hX 1056) (gl_2 hX (a := 1056) (by decide)) (gl_s hX 36 rfl) (by decide) T.1 rfl ?_
      have T := T.2
      refine wp_iload d_Or_takeRead_75 rfl ?_
      exact wp_st (st' := [gI (w32 ((x5 * 64) + v4))]) (by rw [gI_w]) (wp_ireturn d_Or_takeRead_77 rfl (fun _ => rfl) (Nat.zero_le _) (Nat.zero_le _) (kI_mk (w32_ok _) T))
theorem e_Or_takeRead {l : Launch} {G : gG} {d : Nat} {X : gX} {M : gM} {k : Int → gM → Prop} {c : Nat} {x1 : Int} (T : wp l G y_Or_takeRead (gRm (d + 1)) true (kkI X k) false 0 [.val (gR G (c + 1047)), .val (gI x1), .unset, .unset, .unset, .unset, .unset, .unset, .unset] [] X M 0 0) : cI l G y_Or_takeRead (gRm (d + 1)) true [gR G (c + 1047), gI x1] X M k := cen_I (plainFor_of_name rfl) (by simp only [lg_sl_R, lg_sl_I, lg_sl_L, lg_sl_N, List.length_cons, List.length_nil]; decide) (by unfold gEn; simp only [lg_sl_R, lg_sl_I, lg_sl_L, lg_sl_N]; exact wpt T (And.intro rfl (And.intro rfl True.intro)))
theorem d_Or_leave_0 : decode prog_7_method_10_code 0 = .ok (.aload_n 0, 1) := by decide +kernel
theorem d_Or_leave_1 : decode prog_7_method_10_code 1 = .ok (.getfield 26, 3) := by decide +kernel
theorem d_Or_leave_4 : decode prog_7_method_10_code 4 = .ok (.iload_n 1, 1) := by decide +kernel
theorem d_Or_leave_5 : decode prog_7_method_10_code 5 = .ok (.iaload, 1) := by decide +kernel
theorem d_Or_leave_6 : decode prog_7_method_10_code 6 = .ok (.aload_n 0, 1) := by decide +kernel
theorem d_Or_leave_7 : decode prog_7_method_10_code 7 = .ok (.getfield 23, 3) := by decide +kernel
theorem d_Or_leave_10 : decode prog_7_method_10_code 10 = .ok (.iload_n 1, 1) := by decide +kernel
theorem d_Or_leave_11 : decode prog_7_method_10_code 11 = .ok (.iaload, 1) := by decide +kernel
theorem d_Or_leave_12 : decode prog_7_method_10_code 12 = .ok (.if_icmp .eq 4, 3) := by decide +kernel
theorem d_Or_leave_16 : decode prog_7_method_10_code 16 = .ok (.aload_n 0, 1) := by decide +kernel
theorem d_Or_leave_17 : decode prog_7_method_10_code 17 = .ok (.getfield 29, 3) := by decide +kernel
theorem d_Or_leave_20 : decode prog_7_method_10_code 20 = .ok (.aload_n 0, 1) := by decide +kernel
theorem d_Or_leave_21 : decode prog_7_method_10_code 21 = .ok (.getfield 116, 3) := by decide +kernel
theorem d_Or_leave_24 : decode prog_7_method_10_code 24 = .ok (.iconst 1, 1) := by decide +kernel
theorem d_Or_leave_25 : decode prog_7_method_10_code 25 = .ok (.isub, 1) := by decide +kernel
theorem d_Or_leave_26 : decode prog_7_method_10_code 26 = .ok (.iaload, 1) := by decide +kernel
theorem d_Or_leave_27 : decode prog_7_method_10_code 27 = .ok (.iload_n 1, 1) := by decide +kernel
theorem d_Or_leave_28 : decode prog_7_method_10_code 28 = .ok (.if_icmp .eq 7, 3) := by decide +kernel
theorem d_Or_leave_35 : decode prog_7_method_10_code 35 = .ok (.iconst 0, 1) := by decide +kernel
theorem d_Or_leave_36 : decode prog_7_method_10_code 36 = .ok (.istore_n 2, 1) := by decide +kernel
theorem d_Or_leave_37 : decode prog_7_method_10_code 37 = .ok (.aload_n 0, 1) := by decide +kernel
theorem d_Or_leave_38 : decode prog_7_method_10_code 38 = .ok (.getfield 11, 3) := by decide +kernel
theorem d_Or_leave_41 : decode prog_7_method_10_code 41 = .ok (.iload_n 1, 1) := by decide +kernel
theorem d_Or_leave_42 : decode prog_7_method_10_code 42 = .ok (.bipush 7, 2) := by decide +kernel
theorem d_Or_leave_44 : decode prog_7_method_10_code 44 = .ok (.imul, 1) := by decide +kernel
theorem d_Or_leave_45 : decode prog_7_method_10_code 45 = .ok (.iload_n 1, 1) := by decide +kernel
theorem d_Or_leave_46 : decode prog_7_method_10_code 46 = .ok (.bipush 6, 2) := by decide +kernel
theorem d_Or_leave_48 : decode prog_7_method_10_code 48 = .ok (.ishr, 1) := by decide +kernel
theorem d_Or_leave_49 : decode prog_7_method_10_code 49 = .ok (.iadd, 1) := by decide +kernel
theorem d_Or_leave_50 : decode prog_7_method_10_code 50 = .ok (.laload, 1) := by decide +kernel
theorem d_Or_leave_51 : decode prog_7_method_10_code 51 = .ok (.iload_n 1, 1) := by decide +kernel
theorem d_Or_leave_52 : decode prog_7_method_10_code 52 = .ok (.bipush 63, 2) := by decide +kernel
theorem d_Or_leave_54 : decode prog_7_method_10_code 54 = .ok (.iand, 1) := by decide +kernel
theorem d_Or_leave_55 : decode prog_7_method_10_code 55 = .ok (.lshr, 1) := by decide +kernel
theorem d_Or_leave_56 : decode prog_7_method_10_code 56 = .ok (.lconst 1, 1) := by decide +kernel
theorem d_Or_leave_57 : decode prog_7_method_10_code 57 = .ok (.land, 1) := by decide +kernel
theorem d_Or_leave_58 : decode prog_7_method_10_code 58 = .ok (.lconst 0, 1) := by decide +kernel
theorem d_Or_leave_59 : decode prog_7_method_10_code 59 = .ok (.lcmp, 1) := by decide +kernel
theorem d_Or_leave_60 : decode prog_7_method_10_code 60 = .ok (.ifCond .eq 7, 3) := by decide +kernel
theorem d_Or_leave_67 : decode prog_7_method_10_code 67 = .ok (.iconst 0, 1) := by decide +kernel
theorem d_Or_leave_68 : decode prog_7_method_10_code 68 = .ok (.istore_n 3, 1) := by decide +kernel
theorem d_Or_leave_69 : decode prog_7_method_10_code 69 = .ok (.iconst 1, 1) := by decide +kernel
theorem d_Or_leave_70 : decode prog_7_method_10_code 70 = .ok (.istore 4, 2) := by decide +kernel
theorem d_Or_leave_63 : decode prog_7_method_10_code 63 = .ok (.iconst 1, 1) := by decide +kernel
theorem d_Or_leave_64 : decode prog_7_method_10_code 64 = .ok (.goto 4, 3) := by decide +kernel
theorem d_Or_leave_31 : decode prog_7_method_10_code 31 = .ok (.iconst 1, 1) := by decide +kernel
theorem d_Or_leave_32 : decode prog_7_method_10_code 32 = .ok (.goto 4, 3) := by decide +kernel
theorem d_Or_leave_15 : decode prog_7_method_10_code 15 = .ok (.return_, 1) := by decide +kernel
theorem d_Or_leave_72 : decode prog_7_method_10_code 72 = .ok (.iload 4, 2) := by decide +kernel
theorem d_Or_leave_74 : decode prog_7_method_10_code 74 = .ok (.ifCond .eq 96, 3) := by decide +kernel
theorem d_Or_leave_170 : decode prog_7_method_10_code 170 = .ok (.return_, 1) := by decide +kernel
theorem d_Or_leave_77 : decode prog_7_method_10_code 77 = .ok (.aload_n 0, 1) := by decide +kernel
theorem d_Or_leave_78 : decode prog_7_method_10_code 78 = .ok (.getfield 116, 3) := by decide +kernel
theorem d_Or_leave_81 : decode prog_7_method_10_code 81 = .ok (.ifCond .le 89, 3) := by decide +kernel
theorem d_Or_leave_84 : decode prog_7_method_10_code 84 = .ok (.aload_n 0, 1) := by decide +kernel
theorem d_Or_leave_85 : decode prog_7_method_10_code 85 = .ok (.dup, 1) := by decide +kernel
theorem d_Or_leave_86 : decode prog_7_method_10_code 86 = .ok (.getfield 116, 3) := by decide +kernel
theorem d_Or_leave_89 : decode prog_7_method_10_code 89 = .ok (.iconst 1, 1) := by decide +kernel
theorem d_Or_leave_90 : decode prog_7_method_10_code 90 = .ok (.isub, 1) := by decide +kernel
theorem d_Or_leave_91 : decode prog_7_method_10_code 91 = .ok (.putfield 116, 3) := by decide +kernel
theorem d_Or_leave_94 : decode prog_7_method_10_code 94 = .ok (.aload_n 0, 1) := by decide +kernel
theorem d_Or_leave_95 : decode prog_7_method_10_code 95 = .ok (.getfield 29, 3) := by decide +kernel
theorem d_Or_leave_98 : decode prog_7_method_10_code 98 = .ok (.aload_n 0, 1) := by decide +kernel
theorem d_Or_leave_99 : decode prog_7_method_10_code 99 = .ok (.getfield 116, 3) := by decide +kernel
theorem d_Or_leave_102 : decode prog_7_method_10_code 102 = .ok (.iaload, 1) := by decide +kernel
theorem d_Or_leave_103 : decode prog_7_method_10_code 103 = .ok (.istore 5, 2) := by decide +kernel
theorem d_Or_leave_105 : decode prog_7_method_10_code 105 = .ok (.aload_n 0, 1) := by decide +kernel
theorem d_Or_leave_106 : decode prog_7_method_10_code 106 = .ok (.getfield 32, 3) := by decide +kernel
theorem d_Or_leave_109 : decode prog_7_method_10_code 109 = .ok (.iload 5, 2) := by decide +kernel
theorem d_Or_leave_111 : decode prog_7_method_10_code 111 = .ok (.iconst 0, 1) := by decide +kernel
theorem d_Or_leave_112 : decode prog_7_method_10_code 112 = .ok (.bastore, 1) := by decide +kernel
theorem d_Or_leave_113 : decode prog_7_method_10_code 113 = .ok (.aload_n 0, 1) := by decide +kernel
theorem d_Or_leave_114 : decode prog_7_method_10_code 114 = .ok (.getfield 19, 3) := by decide +kernel
theorem d_Or_leave_117 : decode prog_7_method_10_code 117 = .ok (.iload 5, 2) := by decide +kernel
theorem d_Or_leave_119 : decode prog_7_method_10_code 119 = .ok (.iload_n 2, 1) := by decide +kernel
theorem d_Or_leave_120 : decode prog_7_method_10_code 120 = .ok (.ifCond .ne 7, 3) := by decide +kernel
theorem d_Or_leave_127 : decode prog_7_method_10_code 127 = .ok (.iconst 1, 1) := by decide +kernel
theorem d_Or_leave_128 : decode prog_7_method_10_code 128 = .ok (.goto 4, 3) := by decide +kernel
theorem d_Or_leave_132 : decode prog_7_method_10_code 132 = .ok (.bastore, 1) := by decide +kernel
theorem d_Or_leave_133 : decode prog_7_method_10_code 133 = .ok (.aload_n 0, 1) := by decide +kernel
theorem d_Or_leave_134 : decode prog_7_method_10_code 134 = .ok (.getfield 15, 3) := by decide +kernel
theorem d_Or_leave_137 : decode prog_7_method_10_code 137 = .ok (.aload_n 0, 1) := by decide +kernel
theorem d_Or_leave_138 : decode prog_7_method_10_code 138 = .ok (.getfield 58, 3) := by decide +kernel
theorem d_Or_leave_141 : decode prog_7_method_10_code 141 = .ok (.iload 5, 2) := by decide +kernel
theorem d_Or_leave_143 : decode prog_7_method_10_code 143 = .ok (.iastore, 1) := by decide +kernel
theorem d_Or_leave_144 : decode prog_7_method_10_code 144 = .ok (.aload_n 0, 1) := by decide +kernel
theorem d_Or_leave_145 : decode prog_7_method_10_code 145 = .ok (.dup, 1) := by decide +kernel
theorem d_Or_leave_146 : decode prog_7_method_10_code 146 = .ok (.getfield 58, 3) := by decide +kernel
theorem d_Or_leave_149 : decode prog_7_method_10_code 149 = .ok (.iconst 1, 1) := by decide +kernel
theorem d_Or_leave_150 : decode prog_7_method_10_code 150 = .ok (.iadd, 1) := by decide +kernel
theorem d_Or_leave_151 : decode prog_7_method_10_code 151 = .ok (.putfield 58, 3) := by decide +kernel
theorem d_Or_leave_154 : decode prog_7_method_10_code 154 = .ok (.iload 5, 2) := by decide +kernel
theorem d_Or_leave_156 : decode prog_7_method_10_code 156 = .ok (.iload_n 1, 1) := by decide +kernel
theorem d_Or_leave_157 : decode prog_7_method_10_code 157 = .ok (.if_icmp .eq 7, 3) := by decide +kernel
theorem d_Or_leave_164 : decode prog_7_method_10_code 164 = .ok (.iconst 0, 1) := by decide +kernel
theorem d_Or_leave_165 : decode prog_7_method_10_code 165 = .ok (.istore 4, 2) := by decide +kernel
theorem d_Or_leave_167 : decode prog_7_method_10_code 167 = .ok (.goto (-95), 3) := by decide +kernel
theorem d_Or_leave_160 : decode prog_7_method_10_code 160 = .ok (.iconst 1, 1) := by decide +kernel
theorem d_Or_leave_161 : decode prog_7_method_10_code 161 = .ok (.goto 4, 3) := by decide +kernel
theorem d_Or_leave_123 : decode prog_7_method_10_code 123 = .ok (.iload_n 3, 1) := by decide +kernel
theorem d_Or_leave_124 : decode prog_7_method_10_code 124 = .ok (.ifCond .eq 7, 3) := by decide +kernel
theorem d_Or_leave_131 : decode prog_7_method_10_code 131 = .ok (.iconst 0, 1) := by decide +kernel
set_option maxHeartbeats 4000000 in
theorem w_Or_leave_0 {l : Launch} {G : gG} {d : Nat} {X : gX} {M : gM} {k : gM → Prop} {c : Nat} (hX : glX X c) {x1 : Int} (hx1 : g32 x1)  (T : ((0 : Int) ≤ x1 ∧ x1 < 400) ∧ (g32 (M (c + 1052) (Int.toNat x1)) → (((0 : Int) ≤ x1 ∧ x1 < 400) ∧ (g32 (M (c + 1051) (Int.toNat x1)) → ((M (c + 1052) (Int.toNat x1) = M (c + 1051) (Int.toNat x1) → (g32 (M (c + 1047) 11) → (((0 : Int) ≤ (M (c + 1047) 11) - 1 ∧ (M (c + 1047) 11) - 1 < 400) ∧ (g32 (M (c + 1053) (Int.toNat ((M (c + 1047) 11) - 1))) → ((M (c + 1053) (Int.toNat ((M (c + 1047) 11) - 1)) = x1 → (((0 : Int) ≤ (x1 * 7) + (gShr x1 6) ∧ (x1 * 7) + (gShr x1 6) < 2800) ∧ (g64 (M (c + 1048) (Int.toNat ((x1 * 7) + (gShr x1 6)))) → ((gLand (gLshr (M (c + 1048) (Int.toNat ((x1 * 7) + (gShr x1 6)))) (gAnd x1 63)) 1 = 0 → (wp l G y_Or_leave (gRm d) true (kkV X k) true 72 [.val (gR G (c + 1047)), .val (gI x1), .val (gI 0), .val (gI 0), .val (gI 1), .unset] [] X M 0 0)) ∧ (¬ gLand (gLshr (M (c + 1048) (Int.toNat ((x1 * 7) + (gShr x1 6)))) (gAnd x1 63)) 1 = 0 → (wp l G y_Or_leave (gRm d) true (kkV X k) true 72 [.val (gR G (c + 1047)), .val (gI x1), .val (gI 0), .val (gI 1), .val (gI 1), .unset] [] X M 0 0)))))) ∧ (¬ M (c + 1053) (Int.toNat ((M (c + 1047) 11) - 1)) = x1 → (((0 : Int) ≤ (x1 * 7) + (gShr x1 6) ∧ (x1 * 7) + (gShr x1 6) < 2800) ∧ (g64 (M (c + 1048) (Int.toNat ((x1 * 7) + (gShr x1 6)))) → ((gLand (gLshr (M (c + 1048) (Int.toNat ((x1 * 7) + (gShr x1 6)))) (gAnd x1 63)) 1 = 0 → (wp l G y_Or_leave (gRm d) true (kkV X k) true 72 [.val (gR G (c + 1047)), .val (gI x1), .val (gI 1), .val (gI 0), .val (gI 1), .unset] [] X M 0 0)) ∧ (¬ gLand (gLshr (M (c + 1048) (Int.toNat ((x1 * 7) + (gShr x1 6)))) (gAnd x1 63)) 1 = 0 → (wp l G y_Or_leave (gRm d) true (kkV X k) true 72 [.val (gR G (c + 1047)), .val (gI x1), .val (gI 1), .val (gI 1), .val (gI 1), .unset] [] X M 0 0))))))))))) ∧ (¬ M (c + 1052) (Int.toNat x1) = M (c + 1051) (Int.toNat x1) → (k M))))))) : wp l G y_Or_leave (gRm d) true (kkV X k) false 0 [.val (gR G (c + 1047)), .val (gI x1), .unset, .unset, .unset, .unset] [] X M 0 0 := by
  refine wp_aload_n d_Or_leave_0 rfl rfl (g_nz (gl_1 hX 1047)) ?_
  refine xgetR d_Or_leave_1 gc_Or f_Or_26.1 f_Or_26.2.1 f_Or_26.2.2.1 (gl_1 hX 1047) (gl_2 hX (a := 1047) (by decide)) (gl_s hX 27 rfl) f_Or_26.2.2.2.2.1 (gl_f hX 35 rfl) ?_
  refine wp_iload_n d_Or_leave_4 rfl rfl ?_
  refine wp_iaload d_Or_leave_5 (gl_1 hX 1052) (gl_2 hX (a := 1052) (by decide)) (gl_s hX 32 rfl) (g32_n T.1 (by decide)) T.1.1 T.1.2 (fun h1 => ?_)
  have T := T.2 h1
  refine wp_aload_n d_Or_leave_6 rfl rfl (g_nz (gl_1 hX 1047)) ?_
  refine xgetR d_Or_leave_7 gc_Or f_Or_23.1 f_Or_23.2.1 f_Or_23.2.2.1 (gl_1 hX 1047) (gl_2 hX (a := 1047) (by decide)) (gl_s hX 27 rfl) f_Or_23.2.2.2.2.1 (gl_f hX 34 rfl) ?_
  refine wp_iload_n d_Or_leave_10 rfl rfl ?_
  refine wp_iaload d_Or_leave_11 (gl_1 hX 1051) (gl_2 hX (a := 1051) (by decide)) (gl_s hX 31 rfl) (g32_n T.1 (by decide)) T.1.1 T.1.2 (fun h2 => ?_)
  have T := T.2 h2
  refine xi_eq (tgt := 16) d_Or_leave_12 (by decide) (w32_id h1) (w32_id h2) (fun h10 => ?_) (fun h10 => ?_)
  · have T := T.1 h10
    refine wp_aload_n d_Or_leave_16 rfl rfl (g_nz (gl_1 hX 1047)) ?_
    refine xgetR d_Or_leave_17 gc_Or f_Or_29.1 f_Or_29.2.1 f_Or_29.2.2.1 (gl_1 hX 1047) (gl_2 hX (a := 1047) (by decide)) (gl_s hX 27 rfl) f_Or_29.2.2.2.2.1 (gl_f hX 36 rfl) ?_
    refine wp_aload_n d_Or_leave_20 rfl rfl (g_nz (gl_1 hX 1047)) ?_
    refine xgetI d_Or_leave_21 gc_Or f_Or_116.1 f_Or_116.2.1 f_Or_116.2.2.1 (gl_1 hX 1047) (gl_2 hX (a := 1047) (by decide)) (gl_s hX 27 rfl) f_Or_116.2.2.2.2.1 (fun h3 => ?_)
    have T := T h3
    refine wp_iconst d_Or_leave_24 ?_
    refine wp_isub d_Or_leave_25 ?_
    refine wp_iaload d_Or_leave_26 (gl_1 hX 1053) (gl_2 hX (a := 1053) (by decide)) (gl_s hX 33 rfl) (g32_n T.1 (by decide)) T.1.1 T.1.2 (fun h4 => ?_)
    have T := T.2 h4
    refine wp_iload_n d_Or_leave_27 rfl rfl ?_
    refine xi_eq (tgt := 35) d_Or_leave_28 (by decide) (w32_id h4) (w32_id hx1) (fun h9 => ?_) (fun h9 => ?_)
    · have T := T.1 h9
      refine wp_iconst d_Or_leave_35 ?_
      refine wp_istore_n (L' := [.val (gR G (c + 1047)), .val (gI x1), .val (gI 0), .unset, .unset, .unset]) d_Or_leave_36 rfl (by decide) rfl ?_
      refine wp_aload_n d_Or_leave_37 rfl rfl (g_nz (gl_1 hX 1047)) ?_
      refine xgetR d_Or_leave_38 gc_Or f_Or_11.1 f_Or_11.2.1 f_Or_11.2.2.1 (gl_1 hX 1047) (gl_2 hX (a := 1047) (by decide)) (gl_s hX 27 rfl) f_Or_11.2.2.2.2.1 (gl_f hX 31 rfl) ?_
      refine wp_iload_n d_Or_leave_41 rfl rfl ?_
      refine wp_bipush d_Or_leave_42 ⟨by decide, by decide⟩ ?_
      refine wp_imul d_Or_leave_44 ?_
      refine wp_iload_n d_Or_leave_45 rfl rfl ?_
      refine wp_bipush d_Or_leave_46 ⟨by decide, by decide⟩ ?_
      refine wp_ishr d_Or_leave_48 ?_
      refine wp_iadd d_Or_leave_49 ?_
      refine wp_laload d_Or_leave_50 (gl_1 hX 1048) (gl_2 hX (a := 1048) (by decide)) (gl_s hX 28 rfl) (g32_n T.1 (by decide)) T.1.1 T.1.2 (fun h5 => ?_)
      have T := T.2 h5
      refine wp_iload_n d_Or_leave_51 rfl rfl ?_
      refine wp_bipush d_Or_leave_52 ⟨by decide, by decide⟩ ?_
      refine wp_iand d_Or_leave_54 ?_
      refine wp_lshr d_Or_leave_55 ?_
      refine wp_lconst1 d_Or_leave_56 ?_
      refine wp_land d_Or_leave_57 ?_
      refine wp_lconst0 d_Or_leave_58 ?_
      refine xl_eq (tgt := 67) d_Or_leave_59 d_Or_leave_60 (by decide) (w64_id (gLand_ok _ _)) (w64_id (g64_c (x := 0) rfl)) (fun h6 => ?_) (fun h6 => ?_)
      · have T := T.1 h6
        refine wp_iconst d_Or_leave_67 ?_
        refine wp_istore_n (L' := [.val (gR G (c + 1047)), .val (gI x1), .val (gI 0), .val (gI 0), .unset, .unset]) d_Or_leave_68 rfl (by decide) rfl ?_
        refine wp_iconst d_Or_leave_69 ?_
        refine wp_istore (L' := [.val (gR G (c + 1047)), .val (gI x1), .val (gI 0), .val (gI 0), .val (gI 1), .unset]) d_Or_leave_70 (by decide) rfl ?_
        exact wp_md (wpt T (And.intro rfl (And.intro rfl (And.intro rfl (And.intro rfl (And.intro rfl True.intro))))))
      · have T := T.2 h6
        refine wp_iconst d_Or_leave_63 ?_
        refine wp_goto (tgt := 68) d_Or_leave_64 (by decide) ?_
        refine wp_istore_n (L' := [.val (gR G (c + 1047)), .val (gI x1), .val (gI 0), .val (gI 1), .unset, .unset]) d_Or_leave_68 rfl (by decide) rfl ?_
        refine wp_iconst d_Or_leave_69 ?_
        refine wp_istore (L' := [.val (gR G (c + 1047)), .val (gI x1), .val (gI 0), .val (gI 1), .val (gI 1), .unset]) d_Or_leave_70 (by decide) rfl ?_
        exact wp_md (wpt T (And.intro rfl (And.intro rfl (And.intro rfl (And.intro rfl (And.intro rfl True.intro))))))
    · have T := T.2 h9
      refine wp_iconst d_Or_leave_31 ?_
      refine wp_goto (tgt := 36) d_Or_leave_32 (by decide) ?_
      refine wp_istore_n (L' := [.val (gR G (c + 1047)), .val (gI x1), .val (gI 1), .unset, .unset, .unset]) d_Or_leave_36 rfl (by decide) rfl ?_
      refine wp_aload_n d_Or_leave_37 rfl rfl (g_nz (gl_1 hX 1047)) ?_
      refine xgetR d_Or_leave_38 gc_Or f_Or_11.1 f_Or_11.2.1 f_Or_11.2.2.1 (gl_1 hX 1047) (gl_2 hX (a := 1047) (by decide)) (gl_s hX 27 rfl) f_Or_11.2.2.2.2.1 (gl_f hX 31 rfl) ?_
      refine wp_iload_n d_Or_leave_41 rfl rfl ?_
      refine wp_bipush d_Or_leave_42 ⟨by decide, by decide⟩ ?_
      refine wp_imul d_Or_leave_44 ?_
      refine wp_iload_n d_Or_leave_45 rfl rfl ?_
      refine wp_bipush d_Or_leave_46 ⟨by decide, by decide⟩ ?_
      refine wp_ishr d_Or_leave_48 ?_
      refine wp_iadd d_Or_leave_49 ?_
      refine wp_laload d_Or_leave_50 (gl_1 hX 1048) (gl_2 hX (a := 1048) (by decide)) (gl_s hX 28 rfl) (g32_n T.1 (by decide)) T.1.1 T.1.2 (fun h7 => ?_)
      have T := T.2 h7
      refine wp_iload_n d_Or_leave_51 rfl rfl ?_
      refine wp_bipush d_Or_leave_52 ⟨by decide, by decide⟩ ?_
      refine wp_iand d_Or_leave_54 ?_
      refine wp_lshr d_Or_leave_55 ?_
      refine wp_lconst1 d_Or_leave_56 ?_
      refine wp_land d_Or_leave_57 ?_
      refine wp_lconst0 d_Or_leave_58 ?_
      refine xl_eq (tgt := 67) d_Or_leave_59 d_Or_leave_60 (by decide) (w64_id (gLand_ok _ _)) (w64_id (g64_c (x := 0) rfl)) (fun h8 => ?_) (fun h8 => ?_)
      · have T := T.1 h8
        refine wp_iconst d_Or_leave_67 ?_
        refine wp_istore_n (L' := [.val (gR G (c + 1047)), .val (gI x1), .val (gI 1), .val (gI 0), .unset, .unset]) d_Or_leave_68 rfl (by decide) rfl ?_
        refine wp_iconst d_Or_leave_69 ?_
        refine wp_istore (L' := [.val (gR G (c + 1047)), .val (gI x1), .val (gI 1), .val (gI 0), .val (gI 1), .unset]) d_Or_leave_70 (by decide) rfl ?_
        exact wp_md (wpt T (And.intro rfl (And.intro rfl (And.intro rfl (And.intro rfl (And.intro rfl True.intro))))))
      · have T := T.2 h8
        refine wp_iconst d_Or_leave_63 ?_
        refine wp_goto (tgt := 68) d_Or_leave_64 (by decide) ?_
        refine wp_istore_n (L' := [.val (gR G (c + 1047)), .val (gI x1), .val (gI 1), .val (gI 1), .unset, .unset]) d_Or_leave_68 rfl (by decide) rfl ?_
        refine wp_iconst d_Or_leave_69 ?_
        refine wp_istore (L' := [.val (gR G (c + 1047)), .val (gI x1), .val (gI 1), .val (gI 1), .val (gI 1), .unset]) d_Or_leave_70 (by decide) rfl ?_
        exact wp_md (wpt T (And.intro rfl (And.intro rfl (And.intro rfl (And.intro rfl (And.intro rfl True.intro))))))
  · have T := T.2 h10
    exact wp_return d_Or_leave_15 rfl (fun _ => rfl) (Nat.zero_le _) (Nat.zero_le _) (kV_mk T)
set_option maxHeartbeats 4000000 in
theorem w_Or_leave_72 {l : Launch} {G : gG} {d : Nat} {X : gX} {M : gM} {k : gM → Prop} {c : Nat} (hX : glX X c) {x1 : Int} (hx1 : g32 x1) {x2 : Int} (hx2 : g32 x2) {x3 : Int} (hx3 : g32 x3) {x4 : Int} (hx4 : g32 x4)  (T : (x4 = 0 → (k M)) ∧ (¬ x4 = 0 → (g32 (M (c + 1047) 11) → ((M (c + 1047) 11 ≤ 0 → (k M)) ∧ (¬ M (c + 1047) 11 ≤ 0 → (g32 (M (c + 1047) 11) → (g32 ((gUp M (c + 1047) 11 (w32 ((M (c + 1047) 11) - 1))) (c + 1047) 11) → (((0 : Int) ≤ (gUp M (c + 1047) 11 (w32 ((M (c + 1047) 11) - 1))) (c + 1047) 11 ∧ (gUp M (c + 1047) 11 (w32 ((M (c + 1047) 11) - 1))) (c + 1047) 11 < 400) ∧ (g32 ((gUp M (c + 1047) 11 (w32 ((M (c + 1047) 11) - 1))) (c + 1053) (Int.toNat ((gUp M (c + 1047) 11 (w32 ((M (c + 1047) 11) - 1))) (c + 1047) 11))) → (((0 : Int) ≤ (gUp M (c + 1047) 11 (w32 ((M (c + 1047) 11) - 1))) (c + 1053) (Int.toNat ((gUp M (c + 1047) 11 (w32 ((M (c + 1047) 11) - 1))) (c + 1047) 11)) ∧ (gUp M (c + 1047) 11 (w32 ((M (c + 1047) 11) - 1))) (c + 1053) (Int.toNat ((gUp M (c + 1047) 11 (w32 ((M (c + 1047) 11) - 1))) (c + 1047) 11)) < 400) ∧ ((¬ x2 = 0 → (((0 : Int) ≤ (gUp M (c + 1047) 11 (w32 ((M (c + 1047) 11) - 1))) (c + 1053) (Int.toNat ((gUp M (c + 1047) 11 (w32 ((M (c + 1047) 11) - 1))) (c + 1047) 11)) ∧ (gUp M (c + 1047) 11 (w32 ((M (c + 1047) 11) - 1))) (c + 1053) (Int.toNat ((gUp M (c + 1047) 11 (w32 ((M (c + 1047) 11) - 1))) (c + 1047) 11)) < 400) ∧ (g32 ((gUp (gUp (gUp M (c + 1047) 11 (w32 ((M (c + 1047) 11) - 1))) (c + 1054) (Int.toNat ((gUp M (c + 1047) 11 (w32 ((M (c + 1047) 11) - 1))) (c + 1053) (Int.toNat ((gUp M (c + 1047) 11 (w32 ((M (c + 1047) 11) - 1))) (c + 1047) 11)))) 0) (c + 1050) (Int.toNat ((gUp M (c + 1047) 11 (w32 ((M (c + 1047) 11) - 1))) (c + 1053) (Int.toNat ((gUp M (c + 1047) 11 (w32 ((M (c + 1047) 11) - 1))) (c + 1047) 11)))) 1) (c + 1047) 12) → (((0 : Int) ≤ (gUp (gUp (gUp M (c + 1047) 11 (w32 ((M (c + 1047) 11) - 1))) (c + 1054) (Int.toNat ((gUp M (c + 1047) 11 (w32 ((M (c + 1047) 11) - 1))) (c + 1053) (Int.toNat ((gUp M (c + 1047) 11 (w32 ((M (c + 1047) 11) - 1))) (c + 1047) 11)))) 0) (c + 1050) (Int.toNat ((gUp M (c + 1047) 11 (w32 ((M (c + 1047) 11) - 1))) (c + 1053) (Int.toNat ((gUp M (c + 1047) 11 (w32 ((M (c + 1047) 11) - 1))) (c + 1047) 11)))) 1) (c + 1047) 12 ∧ (gUp (gUp (gUp M (c + 1047) 11 (w32 ((M (c + 1047) 11) - 1))) (c + 1054) (Int.toNat ((gUp M (c + 1047) 11 (w32 ((M (c + 1047) 11) - 1))) (c + 1053) (Int.toNat ((gUp M (c + 1047) 11 (w32 ((M (c + 1047) 11) - 1))) (c + 1047) 11)))) 0) (c + 1050) (Int.toNat ((gUp M (c + 1047) 11 (w32 ((M (c + 1047) 11) - 1))) (c + 1053) (Int.toNat ((gUp M (c + 1047) 11 (w32 ((M (c + 1047) 11) - 1))) (c + 1047) 11)))) 1) (c + 1047) 12 < 400) ∧ (g32 ((gUp (gUp (gUp (gUp M (c + 1047) 11 (w32 ((M (c + 1047) 11) - 1))) (c + 1054) (Int.toNat ((gUp M (c + 1047) 11 (w32 ((M (c + 1047) 11) - 1))) (c + 1053) (Int.toNat ((gUp M (c + 1047) 11 (w32 ((M (c + 1047) 11) - 1))) (c + 1047) 11)))) 0) (c + 1050) (Int.toNat ((gUp M (c + 1047) 11 (w32 ((M (c + 1047) 11) - 1))) (c + 1053) (Int.toNat ((gUp M (c + 1047) 11 (w32 ((M (c + 1047) 11) - 1))) (c + 1047) 11)))) 1) (c + 1049) (Int.toNat ((gUp (gUp (gUp M (c + 1047) 11 (w32 ((M (c + 1047) 11) - 1))) (c + 1054) (Int.toNat ((gUp M (c + 1047) 11 (w32 ((M (c + 1047) 11) - 1))) (c + 1053) (Int.toNat ((gUp M (c + 1047) 11 (w32 ((M (c + 1047) 11) - 1))) (c + 1047) 11)))) 0) (c + 1050) (Int.toNat ((gUp M (c + 1047) 11 (w32 ((M (c + 1047) 11) - 1))) (c + 1053) (Int.toNat ((gUp M (c + 1047) 11 (w32 ((M (c + 1047) 11) - 1))) (c + 1047) 11)))) 1) (c + 1047) 12)) ((gUp M (c + 1047) 11 (w32 ((M (c + 1047) 11) - 1))) (c + 1053) (Int.toNat ((gUp M (c + 1047) 11 (w32 ((M (c + 1047) 11) - 1))) (c + 1047) 11)))) (c + 1047) 12) → (((gUp M (c + 1047) 11 (w32 ((M (c + 1047) 11) - 1))) (c + 1053) (Int.toNat ((gUp M (c + 1047) 11 (w32 ((M (c + 1047) 11) - 1))) (c + 1047) 11)) = x1 → (wp l G y_Or_leave (gRm d) true (kkV X k) true 72 [.val (gR G (c + 1047)), .val (gI x1), .val (gI x2), .val (gI x3), .val (gI 0), .unset] [] X (gUp (gUp (gUp (gUp (gUp M (c + 1047) 11 (w32 ((M (c + 1047) 11) - 1))) (c + 1054) (Int.toNat ((gUp M (c + 1047) 11 (w32 ((M (c + 1047) 11) - 1))) (c + 1053) (Int.toNat ((gUp M (c + 1047) 11 (w32 ((M (c + 1047) 11) - 1))) (c + 1047) 11)))) 0) (c + 1050) (Int.toNat ((gUp M (c + 1047) 11 (w32 ((M (c + 1047) 11) - 1))) (c + 1053) (Int.toNat ((gUp M (c + 1047) 11 (w32 ((M (c + 1047) 11) - 1))) (c + 1047) 11)))) 1) (c + 1049) (Int.toNat ((gUp (gUp (gUp M (c + 1047) 11 (w32 ((M (c + 1047) 11) - 1))) (c + 1054) (Int.toNat ((gUp M (c + 1047) 11 (w32 ((M (c + 1047) 11) - 1))) (c + 1053) (Int.toNat ((gUp M (c + 1047) 11 (w32 ((M (c + 1047) 11) - 1))) (c + 1047) 11)))) 0) (c + 1050) (Int.toNat ((gUp M (c + 1047) 11 (w32 ((M (c + 1047) 11) - 1))) (c + 1053) (Int.toNat ((gUp M (c + 1047) 11 (w32 ((M (c + 1047) 11) - 1))) (c + 1047) 11)))) 1) (c + 1047) 12)) ((gUp M (c + 1047) 11 (w32 ((M (c + 1047) 11) - 1))) (c + 1053) (Int.toNat ((gUp M (c + 1047) 11 (w32 ((M (c + 1047) 11) - 1))) (c + 1047) 11)))) (c + 1047) 12 (w32 (((gUp (gUp (gUp (gUp M (c + 1047) 11 (w32 ((M (c + 1047) 11) - 1))) (c + 1054) (Int.toNat ((gUp M (c + 1047) 11 (w32 ((M (c + 1047) 11) - 1))) (c + 1053) (Int.toNat ((gUp M (c + 1047) 11 (w32 ((M (c + 1047) 11) - 1))) (c + 1047) 11)))) 0) (c + 1050) (Int.toNat ((gUp M (c + 1047) 11 (w32 ((M (c + 1047) 11) - 1))) (c + 1053) (Int.toNat ((gUp M (c + 1047) 11 (w32 ((M (c + 1047) 11) - 1))) (c + 1047) 11)))) 1) (c + 1049) (Int.toNat ((gUp (gUp (gUp M (c + 1047) 11 (w32 ((M (c + 1047) 11) - 1))) (c + 1054) (Int.toNat ((gUp M (c + 1047) 11 (w32 ((M (c + 1047) 11) - 1))) (c + 1053) (Int.toNat ((gUp M (c + 1047) 11 (w32 ((M (c + 1047) 11) - 1))) (c + 1047) 11)))) 0) (c + 1050) (Int.toNat ((gUp M (c + 1047) 11 (w32 ((M (c + 1047) 11) - 1))) (c + 1053) (Int.toNat ((gUp M (c + 1047) 11 (w32 ((M (c + 1047) 11) - 1))) (c + 1047) 11)))) 1) (c + 1047) 12)) ((gUp M (c + 1047) 11 (w32 ((M (c + 1047) 11) - 1))) (c + 1053) (Int.toNat ((gUp M (c + 1047) 11 (w32 ((M (c + 1047) 11) - 1))) (c + 1047) 11)))) (c + 1047) 12) + 1))) 0 0)) ∧ (¬ (gUp M (c + 1047) 11 (w32 ((M (c + 1047) 11) - 1))) (c + 1053) (Int.toNat ((gUp M (c + 1047) 11 (w32 ((M (c + 1047) 11) - 1))) (c + 1047) 11)) = x1 → (wp l G y_Or_leave (gRm d) true (kkV X k) true 72 [.val (gR G (c + 1047)), .val (gI x1), .val (gI x2), .val (gI x3), .val (gI 1), .unset] [] X (gUp (gUp (gUp (gUp (gUp M (c + 1047) 11 (w32 ((M (c + 1047) 11) - 1))) (c + 1054) (Int.toNat ((gUp M (c + 1047) 11 (w32 ((M (c + 1047) 11) - 1))) (c + 1053) (Int.toNat ((gUp M (c + 1047) 11 (w32 ((M (c + 1047) 11) - 1))) (c + 1047) 11)))) 0) (c + 1050) (Int.toNat ((gUp M (c + 1047) 11 (w32 ((M (c + 1047) 11) - 1))) (c + 1053) (Int.toNat ((gUp M (c + 1047) 11 (w32 ((M (c + 1047) 11) - 1))) (c + 1047) 11)))) 1) (c + 1049) (Int.toNat ((gUp (gUp (gUp M (c + 1047) 11 (w32 ((M (c + 1047) 11) - 1))) (c + 1054) (Int.toNat ((gUp M (c + 1047) 11 (w32 ((M (c + 1047) 11) - 1))) (c + 1053) (Int.toNat ((gUp M (c + 1047) 11 (w32 ((M (c + 1047) 11) - 1))) (c + 1047) 11)))) 0) (c + 1050) (Int.toNat ((gUp M (c + 1047) 11 (w32 ((M (c + 1047) 11) - 1))) (c + 1053) (Int.toNat ((gUp M (c + 1047) 11 (w32 ((M (c + 1047) 11) - 1))) (c + 1047) 11)))) 1) (c + 1047) 12)) ((gUp M (c + 1047) 11 (w32 ((M (c + 1047) 11) - 1))) (c + 1053) (Int.toNat ((gUp M (c + 1047) 11 (w32 ((M (c + 1047) 11) - 1))) (c + 1047) 11)))) (c + 1047) 12 (w32 (((gUp (gUp (gUp (gUp M (c + 1047) 11 (w32 ((M (c + 1047) 11) - 1))) (c + 1054) (Int.toNat ((gUp M (c + 1047) 11 (w32 ((M (c + 1047) 11) - 1))) (c + 1053) (Int.toNat ((gUp M (c + 1047) 11 (w32 ((M (c + 1047) 11) - 1))) (c + 1047) 11)))) 0) (c + 1050) (Int.toNat ((gUp M (c + 1047) 11 (w32 ((M (c + 1047) 11) - 1))) (c + 1053) (Int.toNat ((gUp M (c + 1047) 11 (w32 ((M (c + 1047) 11) - 1))) (c + 1047) 11)))) 1) (c + 1049) (Int.toNat ((gUp (gUp (gUp M (c + 1047) 11 (w32 ((M (c + 1047) 11) - 1))) (c + 1054) (Int.toNat ((gUp M (c + 1047) 11 (w32 ((M (c + 1047) 11) - 1))) (c + 1053) (Int.toNat ((gUp M (c + 1047) 11 (w32 ((M (c + 1047) 11) - 1))) (c + 1047) 11)))) 0) (c + 1050) (Int.toNat ((gUp M (c + 1047) 11 (w32 ((M (c + 1047) 11) - 1))) (c + 1053) (Int.toNat ((gUp M (c + 1047) 11 (w32 ((M (c + 1047) 11) - 1))) (c + 1047) 11)))) 1) (c + 1047) 12)) ((gUp M (c + 1047) 11 (w32 ((M (c + 1047) 11) - 1))) (c + 1053) (Int.toNat ((gUp M (c + 1047) 11 (w32 ((M (c + 1047) 11) - 1))) (c + 1047) 11)))) (c + 1047) 12) + 1))) 0 0)))))))) ∧ (x2 = 0 → ((x3 = 0 → (((0 : Int) ≤ (gUp M (c + 1047) 11 (w32 ((M (c + 1047) 11) - 1))) (c + 1053) (Int.toNat ((gUp M (c + 1047) 11 (w32 ((M (c + 1047) 11) - 1))) (c + 1047) 11)) ∧ (gUp M (c + 1047) 11 (w32 ((M (c + 1047) 11) - 1))) (c + 1053) (Int.toNat ((gUp M (c + 1047) 11 (w32 ((M (c + 1047) 11) - 1))) (c + 1047) 11)) < 400) ∧ (g32 ((gUp (gUp (gUp M (c + 1047) 11 (w32 ((M (c + 1047) 11) - 1))) (c + 1054) (Int.toNat ((gUp M (c + 1047) 11 (w32 ((M (c + 1047) 11) - 1))) (c + 1053) (Int.toNat ((gUp M (c + 1047) 11 (w32 ((M (c + 1047) 11) - 1))) (c + 1047) 11)))) 0) (c + 1050) (Int.toNat ((gUp M (c + 1047) 11 (w32 ((M (c + 1047) 11) - 1))) (c + 1053) (Int.toNat ((gUp M (c + 1047) 11 (w32 ((M (c + 1047) 11) - 1))) (c + 1047) 11)))) 0) (c + 1047) 12) → (((0 : Int) ≤ (gUp (gUp (gUp M (c + 1047) 11 (w32 ((M (c + 1047) 11) - 1))) (c + 1054) (Int.toNat ((gUp M (c + 1047) 11 (w32 ((M (c + 1047) 11) - 1))) (c + 1053) (Int.toNat ((gUp M (c + 1047) 11 (w32 ((M (c + 1047) 11) - 1))) (c + 1047) 11)))) 0) (c + 1050) (Int.toNat ((gUp M (c + 1047) 11 (w32 ((M (c + 1047) 11) - 1))) (c + 1053) (Int.toNat ((gUp M (c + 1047) 11 (w32 ((M (c + 1047) 11) - 1))) (c + 1047) 11)))) 0) (c + 1047) 12 ∧ (gUp (gUp (gUp M (c + 1047) 11 (w32 ((M (c + 1047) 11) - 1))) (c + 1054) (Int.toNat ((gUp M (c + 1047) 11 (w32 ((M (c + 1047) 11) - 1))) (c + 1053) (Int.toNat ((gUp M (c + 1047) 11 (w32 ((M (c + 1047) 11) - 1))) (c + 1047) 11)))) 0) (c + 1050) (Int.toNat ((gUp M (c + 1047) 11 (w32 ((M (c + 1047) 11) - 1))) (c + 1053) (Int.toNat ((gUp M (c + 1047) 11 (w32 ((M (c + 1047) 11) - 1))) (c + 1047) 11)))) 0) (c + 1047) 12 < 400) ∧ (g32 ((gUp (gUp (gUp (gUp M (c + 1047) 11 (w32 ((M (c + 1047) 11) - 1))) (c + 1054) (Int.toNat ((gUp M (c + 1047) 11 (w32 ((M (c + 1047) 11) - 1))) (c + 1053) (Int.toNat ((gUp M (c + 1047) 11 (w32 ((M (c + 1047) 11) - 1))) (c + 1047) 11)))) 0) (c + 1050) (Int.toNat ((gUp M (c + 1047) 11 (w32 ((M (c + 1047) 11) - 1))) (c + 1053) (Int.toNat ((gUp M (c + 1047) 11 (w32 ((M (c + 1047) 11) - 1))) (c + 1047) 11)))) 0) (c + 1049) (Int.toNat ((gUp (gUp (gUp M (c + 1047) 11 (w32 ((M (c + 1047) 11) - 1))) (c + 1054) (Int.toNat ((gUp M (c + 1047) 11 (w32 ((M (c + 1047) 11) - 1))) (c + 1053) (Int.toNat ((gUp M (c + 1047) 11 (w32 ((M (c + 1047) 11) - 1))) (c + 1047) 11)))) 0) (c + 1050) (Int.toNat ((gUp M (c + 1047) 11 (w32 ((M (c + 1047) 11) - 1))) (c + 1053) (Int.toNat ((gUp M (c + 1047) 11 (w32 ((M (c + 1047) 11) - 1))) (c + 1047) 11)))) 0) (c + 1047) 12)) ((gUp M (c + 1047) 11 (w32 ((M (c + 1047) 11) - 1))) (c + 1053) (Int.toNat ((gUp M (c + 1047) 11 (w32 ((M (c + 1047) 11) - 1))) (c + 1047) 11)))) (c + 1047) 12) → (((gUp M (c + 1047) 11 (w32 ((M (c + 1047) 11) - 1))) (c + 1053) (Int.toNat ((gUp M (c + 1047) 11 (w32 ((M (c + 1047) 11) - 1))) (c + 1047) 11)) = x1 → (wp l G y_Or_leave (gRm d) true (kkV X k) true 72 [.val (gR G (c + 1047)), .val (gI x1), .val (gI x2), .val (gI x3), .val (gI 0), .unset] [] X (gUp (gUp (gUp (gUp (gUp M (c + 1047) 11 (w32 ((M (c + 1047) 11) - 1))) (c + 1054) (Int.toNat ((gUp M (c + 1047) 11 (w32 ((M (c + 1047) 11) - 1))) (c + 1053) (Int.toNat ((gUp M (c + 1047) 11 (w32 ((M (c + 1047) 11) - 1))) (c + 1047) 11)))) 0) (c + 1050) (Int.toNat ((gUp M (c + 1047) 11 (w32 ((M (c + 1047) 11) - 1))) (c + 1053) (Int.toNat ((gUp M (c + 1047) 11 (w32 ((M (c + 1047) 11) - 1))) (c + 1047) 11)))) 0) (c + 1049) (Int.toNat ((gUp (gUp (gUp M (c + 1047) 11 (w32 ((M (c + 1047) 11) - 1))) (c + 1054) (Int.toNat ((gUp M (c + 1047) 11 (w32 ((M (c + 1047) 11) - 1))) (c + 1053) (Int.toNat ((gUp M (c + 1047) 11 (w32 ((M (c + 1047) 11) - 1))) (c + 1047) 11)))) 0) (c + 1050) (Int.toNat ((gUp M (c + 1047) 11 (w32 ((M (c + 1047) 11) - 1))) (c + 1053) (Int.toNat ((gUp M (c + 1047) 11 (w32 ((M (c + 1047) 11) - 1))) (c + 1047) 11)))) 0) (c + 1047) 12)) ((gUp M (c + 1047) 11 (w32 ((M (c + 1047) 11) - 1))) (c + 1053) (Int.toNat ((gUp M (c + 1047) 11 (w32 ((M (c + 1047) 11) - 1))) (c + 1047) 11)))) (c + 1047) 12 (w32 (((gUp (gUp (gUp (gUp M (c + 1047) 11 (w32 ((M (c + 1047) 11) - 1))) (c + 1054) (Int.toNat ((gUp M (c + 1047) 11 (w32 ((M (c + 1047) 11) - 1))) (c + 1053) (Int.toNat ((gUp M (c + 1047) 11 (w32 ((M (c + 1047) 11) - 1))) (c + 1047) 11)))) 0) (c + 1050) (Int.toNat ((gUp M (c + 1047) 11 (w32 ((M (c + 1047) 11) - 1))) (c + 1053) (Int.toNat ((gUp M (c + 1047) 11 (w32 ((M (c + 1047) 11) - 1))) (c + 1047) 11)))) 0) (c + 1049) (Int.toNat ((gUp (gUp (gUp M (c + 1047) 11 (w32 ((M (c + 1047) 11) - 1))) (c + 1054) (Int.toNat ((gUp M (c + 1047) 11 (w32 ((M (c + 1047) 11) - 1))) (c + 1053) (Int.toNat ((gUp M (c + 1047) 11 (w32 ((M (c + 1047) 11) - 1))) (c + 1047) 11)))) 0) (c + 1050) (Int.toNat ((gUp M (c + 1047) 11 (w32 ((M (c + 1047) 11) - 1))) (c + 1053) (Int.toNat ((gUp M (c + 1047) 11 (w32 ((M (c + 1047) 11) - 1))) (c + 1047) 11)))) 0) (c + 1047) 12)) ((gUp M (c + 1047) 11 (w32 ((M (c + 1047) 11) - 1))) (c + 1053) (Int.toNat ((gUp M (c + 1047) 11 (w32 ((M (c + 1047) 11) - 1))) (c + 1047) 11)))) (c + 1047) 12) + 1))) 0 0)) ∧ (¬ (gUp M (c + 1047) 11 (w32 ((M (c + 1047) 11) - 1))) (c + 1053) (Int.toNat ((gUp M (c + 1047) 11 (w32 ((M (c + 1047) 11) - 1))) (c + 1047) 11)) = x1 → (wp l G y_Or_leave (gRm d) true (kkV X k) true 72 [.val (gR G (c + 1047)), .val (gI x1), .val (gI x2), .val (gI x3), .val (gI 1), .unset] [] X (gUp (gUp (gUp (gUp (gUp M (c + 1047) 11 (w32 ((M (c + 1047) 11) - 1))) (c + 1054) (Int.toNat ((gUp M (c + 1047) 11 (w32 ((M (c + 1047) 11) - 1))) (c + 1053) (Int.toNat ((gUp M (c + 1047) 11 (w32 ((M (c + 1047) 11) - 1))) (c + 1047) 11)))) 0) (c + 1050) (Int.toNat ((gUp M (c + 1047) 11 (w32 ((M (c + 1047) 11) - 1))) (c + 1053) (Int.toNat ((gUp M (c + 1047) 11 (w32 ((M (c + 1047) 11) - 1))) (c + 1047) 11)))) 0) (c + 1049) (Int.toNat ((gUp (gUp (gUp M (c + 1047) 11 (w32 ((M (c + 1047) 11) - 1))) (c + 1054) (Int.toNat ((gUp M (c + 1047) 11 (w32 ((M (c + 1047) 11) - 1))) (c + 1053) (Int.toNat ((gUp M (c + 1047) 11 (w32 ((M (c + 1047) 11) - 1))) (c + 1047) 11)))) 0) (c + 1050) (Int.toNat ((gUp M (c + 1047) 11 (w32 ((M (c + 1047) 11) - 1))) (c + 1053) (Int.toNat ((gUp M (c + 1047) 11 (w32 ((M (c + 1047) 11) - 1))) (c + 1047) 11)))) 0) (c + 1047) 12)) ((gUp M (c + 1047) 11 (w32 ((M (c + 1047) 11) - 1))) (c + 1053) (Int.toNat ((gUp M (c + 1047) 11 (w32 ((M (c + 1047) 11) - 1))) (c + 1047) 11)))) (c + 1047) 12 (w32 (((gUp (gUp (gUp (gUp M (c + 1047) 11 (w32 ((M (c + 1047) 11) - 1))) (c + 1054) (Int.toNat ((gUp M (c + 1047) 11 (w32 ((M (c + 1047) 11) - 1))) (c + 1053) (Int.toNat ((gUp M (c + 1047) 11 (w32 ((M (c + 1047) 11) - 1))) (c + 1047) 11)))) 0) (c + 1050) (Int.toNat ((gUp M (c + 1047) 11 (w32 ((M (c + 1047) 11) - 1))) (c + 1053) (Int.toNat ((gUp M (c + 1047) 11 (w32 ((M (c + 1047) 11) - 1))) (c + 1047) 11)))) 0) (c + 1049) (Int.toNat ((gUp (gUp (gUp M (c + 1047) 11 (w32 ((M (c + 1047) 11) - 1))) (c + 1054) (Int.toNat ((gUp M (c + 1047) 11 (w32 ((M (c + 1047) 11) - 1))) (c + 1053) (Int.toNat ((gUp M (c + 1047) 11 (w32 ((M (c + 1047) 11) - 1))) (c + 1047) 11)))) 0) (c + 1050) (Int.toNat ((gUp M (c + 1047) 11 (w32 ((M (c + 1047) 11) - 1))) (c + 1053) (Int.toNat ((gUp M (c + 1047) 11 (w32 ((M (c + 1047) 11) - 1))) (c + 1047) 11)))) 0) (c + 1047) 12)) ((gUp M (c + 1047) 11 (w32 ((M (c + 1047) 11) - 1))) (c + 1053) (Int.toNat ((gUp M (c + 1047) 11 (w32 ((M (c + 1047) 11) - 1))) (c + 1047) 11)))) (c + 1047) 12) + 1))) 0 0)))))))) ∧ (¬ x3 = 0 → (((0 : Int) ≤ (gUp M (c + 1047) 11 (w32 ((M (c + 1047) 11) - 1))) (c + 1053) (Int.toNat ((gUp M (c + 1047) 11 (w32 ((M (c + 1047) 11) - 1))) (c + 1047) 11)) ∧ (gUp M (c + 1047) 11 (w32 ((M (c + 1047) 11) - 1))) (c + 1053) (Int.toNat ((gUp M (c + 1047) 11 (w32 ((M (c + 1047) 11) - 1))) (c + 1047) 11)) < 400) ∧ (g32 ((gUp (gUp (gUp M (c + 1047) 11 (w32 ((M (c + 1047) 11) - 1))) (c + 1054) (Int.toNat ((gUp M (c + 1047) 11 (w32 ((M (c + 1047) 11) - 1))) (c + 1053) (Int.toNat ((gUp M (c + 1047) 11 (w32 ((M (c + 1047) 11) - 1))) (c + 1047) 11)))) 0) (c + 1050) (Int.toNat ((gUp M (c + 1047) 11 (w32 ((M (c + 1047) 11) - 1))) (c + 1053) (Int.toNat ((gUp M (c + 1047) 11 (w32 ((M (c + 1047) 11) - 1))) (c + 1047) 11)))) 1) (c + 1047) 12) → (((0 : Int) ≤ (gUp (gUp (gUp M (c + 1047) 11 (w32 ((M (c + 1047) 11) - 1))) (c + 1054) (Int.toNat ((gUp M (c + 1047) 11 (w32 ((M (c + 1047) 11) - 1))) (c + 1053) (Int.toNat ((gUp M (c + 1047) 11 (w32 ((M (c + 1047) 11) - 1))) (c + 1047) 11)))) 0) (c + 1050) (Int.toNat ((gUp M (c + 1047) 11 (w32 ((M (c + 1047) 11) - 1))) (c + 1053) (Int.toNat ((gUp M (c + 1047) 11 (w32 ((M (c + 1047) 11) - 1))) (c + 1047) 11)))) 1) (c + 1047) 12 ∧ (gUp (gUp (gUp M (c + 1047) 11 (w32 ((M (c + 1047) 11) - 1))) (c + 1054) (Int.toNat ((gUp M (c + 1047) 11 (w32 ((M (c + 1047) 11) - 1))) (c + 1053) (Int.toNat ((gUp M (c + 1047) 11 (w32 ((M (c + 1047) 11) - 1))) (c + 1047) 11)))) 0) (c + 1050) (Int.toNat ((gUp M (c + 1047) 11 (w32 ((M (c + 1047) 11) - 1))) (c + 1053) (Int.toNat ((gUp M (c + 1047) 11 (w32 ((M (c + 1047) 11) - 1))) (c + 1047) 11)))) 1) (c + 1047) 12 < 400) ∧ (g32 ((gUp (gUp (gUp (gUp M (c + 1047) 11 (w32 ((M (c + 1047) 11) - 1))) (c + 1054) (Int.toNat ((gUp M (c + 1047) 11 (w32 ((M (c + 1047) 11) - 1))) (c + 1053) (Int.toNat ((gUp M (c + 1047) 11 (w32 ((M (c + 1047) 11) - 1))) (c + 1047) 11)))) 0) (c + 1050) (Int.toNat ((gUp M (c + 1047) 11 (w32 ((M (c + 1047) 11) - 1))) (c + 1053) (Int.toNat ((gUp M (c + 1047) 11 (w32 ((M (c + 1047) 11) - 1))) (c + 1047) 11)))) 1) (c + 1049) (Int.toNat ((gUp (gUp (gUp M (c + 1047) 11 (w32 ((M (c + 1047) 11) - 1))) (c + 1054) (Int.toNat ((gUp M (c + 1047) 11 (w32 ((M (c + 1047) 11) - 1))) (c + 1053) (Int.toNat ((gUp M (c + 1047) 11 (w32 ((M (c + 1047) 11) - 1))) (c + 1047) 11)))) 0) (c + 1050) (Int.toNat ((gUp M (c + 1047) 11 (w32 ((M (c + 1047) 11) - 1))) (c + 1053) (Int.toNat ((gUp M (c + 1047) 11 (w32 ((M (c + 1047) 11) - 1))) (c + 1047) 11)))) 1) (c + 1047) 12)) ((gUp M (c + 1047) 11 (w32 ((M (c + 1047) 11) - 1))) (c + 1053) (Int.toNat ((gUp M (c + 1047) 11 (w32 ((M (c + 1047) 11) - 1))) (c + 1047) 11)))) (c + 1047) 12) → (((gUp M (c + 1047) 11 (w32 ((M (c + 1047) 11) - 1))) (c + 1053) (Int.toNat ((gUp M (c + 1047) 11 (w32 ((M (c + 1047) 11) - 1))) (c + 1047) 11)) = x1 → (wp l G y_Or_leave (gRm d) true (kkV X k) true 72 [.val (gR G (c + 1047)), .val (gI x1), .val (gI x2), .val (gI x3), .val (gI 0), .unset] [] X (gUp (gUp (gUp (gUp (gUp M (c + 1047) 11 (w32 ((M (c + 1047) 11) - 1))) (c + 1054) (Int.toNat ((gUp M (c + 1047) 11 (w32 ((M (c + 1047) 11) - 1))) (c + 1053) (Int.toNat ((gUp M (c + 1047) 11 (w32 ((M (c + 1047) 11) - 1))) (c + 1047) 11)))) 0) (c + 1050) (Int.toNat ((gUp M (c + 1047) 11 (w32 ((M (c + 1047) 11) - 1))) (c + 1053) (Int.toNat ((gUp M (c + 1047) 11 (w32 ((M (c + 1047) 11) - 1))) (c + 1047) 11)))) 1) (c + 1049) (Int.toNat ((gUp (gUp (gUp M (c + 1047) 11 (w32 ((M (c + 1047) 11) - 1))) (c + 1054) (Int.toNat ((gUp M (c + 1047) 11 (w32 ((M (c + 1047) 11) - 1))) (c + 1053) (Int.toNat ((gUp M (c + 1047) 11 (w32 ((M (c + 1047) 11) - 1))) (c + 1047) 11)))) 0) (c + 1050) (Int.toNat ((gUp M (c + 1047) 11 (w32 ((M (c + 1047) 11) - 1))) (c + 1053) (Int.toNat ((gUp M (c + 1047) 11 (w32 ((M (c + 1047) 11) - 1))) (c + 1047) 11)))) 1) (c + 1047) 12)) ((gUp M (c + 1047) 11 (w32 ((M (c + 1047) 11) - 1))) (c + 1053) (Int.toNat ((gUp M (c + 1047) 11 (w32 ((M (c + 1047) 11) - 1))) (c + 1047) 11)))) (c + 1047) 12 (w32 (((gUp (gUp (gUp (gUp M (c + 1047) 11 (w32 ((M (c + 1047) 11) - 1))) (c + 1054) (Int.toNat ((gUp M (c + 1047) 11 (w32 ((M (c + 1047) 11) - 1))) (c + 1053) (Int.toNat ((gUp M (c + 1047) 11 (w32 ((M (c + 1047) 11) - 1))) (c + 1047) 11)))) 0) (c + 1050) (Int.toNat ((gUp M (c + 1047) 11 (w32 ((M (c + 1047) 11) - 1))) (c + 1053) (Int.toNat ((gUp M (c + 1047) 11 (w32 ((M (c + 1047) 11) - 1))) (c + 1047) 11)))) 1) (c + 1049) (Int.toNat ((gUp (gUp (gUp M (c + 1047) 11 (w32 ((M (c + 1047) 11) - 1))) (c + 1054) (Int.toNat ((gUp M (c + 1047) 11 (w32 ((M (c + 1047) 11) - 1))) (c + 1053) (Int.toNat ((gUp M (c + 1047) 11 (w32 ((M (c + 1047) 11) - 1))) (c + 1047) 11)))) 0) (c + 1050) (Int.toNat ((gUp M (c + 1047) 11 (w32 ((M (c + 1047) 11) - 1))) (c + 1053) (Int.toNat ((gUp M (c + 1047) 11 (w32 ((M (c + 1047) 11) - 1))) (c + 1047) 11)))) 1) (c + 1047) 12)) ((gUp M (c + 1047) 11 (w32 ((M (c + 1047) 11) - 1))) (c + 1053) (Int.toNat ((gUp M (c + 1047) 11 (w32 ((M (c + 1047) 11) - 1))) (c + 1047) 11)))) (c + 1047) 12) + 1))) 0 0)) ∧ (¬ (gUp M (c + 1047) 11 (w32 ((M (c + 1047) 11) - 1))) (c + 1053) (Int.toNat ((gUp M (c + 1047) 11 (w32 ((M (c + 1047) 11) - 1))) (c + 1047) 11)) = x1 → (wp l G y_Or_leave (gRm d) true (kkV X k) true 72 [.val (gR G (c + 1047)), .val (gI x1), .val (gI x2), .val (gI x3), .val (gI 1), .unset] [] X (gUp (gUp (gUp (gUp (gUp M (c + 1047) 11 (w32 ((M (c + 1047) 11) - 1))) (c + 1054) (Int.toNat ((gUp M (c + 1047) 11 (w32 ((M (c + 1047) 11) - 1))) (c + 1053) (Int.toNat ((gUp M (c + 1047) 11 (w32 ((M (c + 1047) 11) - 1))) (c + 1047) 11)))) 0) (c + 1050) (Int.toNat ((gUp M (c + 1047) 11 (w32 ((M (c + 1047) 11) - 1))) (c + 1053) (Int.toNat ((gUp M (c + 1047) 11 (w32 ((M (c + 1047) 11) - 1))) (c + 1047) 11)))) 1) (c + 1049) (Int.toNat ((gUp (gUp (gUp M (c + 1047) 11 (w32 ((M (c + 1047) 11) - 1))) (c + 1054) (Int.toNat ((gUp M (c + 1047) 11 (w32 ((M (c + 1047) 11) - 1))) (c + 1053) (Int.toNat ((gUp M (c + 1047) 11 (w32 ((M (c + 1047) 11) - 1))) (c + 1047) 11)))) 0) (c + 1050) (Int.toNat ((gUp M (c + 1047) 11 (w32 ((M (c + 1047) 11) - 1))) (c + 1053) (Int.toNat ((gUp M (c + 1047) 11 (w32 ((M (c + 1047) 11) - 1))) (c + 1047) 11)))) 1) (c + 1047) 12)) ((gUp M (c + 1047) 11 (w32 ((M (c + 1047) 11) - 1))) (c + 1053) (Int.toNat ((gUp M (c + 1047) 11 (w32 ((M (c + 1047) 11) - 1))) (c + 1047) 11)))) (c + 1047) 12 (w32 (((gUp (gUp (gUp (gUp M (c + 1047) 11 (w32 ((M (c + 1047) 11) - 1))) (c + 1054) (Int.toNat ((gUp M (c + 1047) 11 (w32 ((M (c + 1047) 11) - 1))) (c + 1053) (Int.toNat ((gUp M (c + 1047) 11 (w32 ((M (c + 1047) 11) - 1))) (c + 1047) 11)))) 0) (c + 1050) (Int.toNat ((gUp M (c + 1047) 11 (w32 ((M (c + 1047) 11) - 1))) (c + 1053) (Int.toNat ((gUp M (c + 1047) 11 (w32 ((M (c + 1047) 11) - 1))) (c + 1047) 11)))) 1) (c + 1049) (Int.toNat ((gUp (gUp (gUp M (c + 1047) 11 (w32 ((M (c + 1047) 11) - 1))) (c + 1054) (Int.toNat ((gUp M (c + 1047) 11 (w32 ((M (c + 1047) 11) - 1))) (c + 1053) (Int.toNat ((gUp M (c + 1047) 11 (w32 ((M (c + 1047) 11) - 1))) (c + 1047) 11)))) 0) (c + 1050) (Int.toNat ((gUp M (c + 1047) 11 (w32 ((M (c + 1047) 11) - 1))) (c + 1053) (Int.toNat ((gUp M (c + 1047) 11 (w32 ((M (c + 1047) 11) - 1))) (c + 1047) 11)))) 1) (c + 1047) 12)) ((gUp M (c + 1047) 11 (w32 ((M (c + 1047) 11) - 1))) (c + 1053) (Int.toNat ((gUp M (c + 1047) 11 (w32 ((M (c + 1047) 11) - 1))) (c + 1047) 11)))) (c + 1047) 12) + 1))) 0 0))))))))))))))))))))) : wp l G y_Or_leave (gRm d) true (kkV X k) true 72 [.val (gR G (c + 1047)), .val (gI x1), .val (gI x2), .val (gI x3), .val (gI x4), .unset] [] X M 0 0 := by
  refine wp_iload d_Or_leave_72 rfl ?_
  refine xz_eq (tgt := 170) d_Or_leave_74 (by decide) (w32_id hx4) (fun h27 => ?_) (fun h27 => ?_)
  · have T := T.1 h27
    exact wp_return d_Or_leave_170 rfl (fun _ => rfl) (Nat.zero_le _) (Nat.zero_le _) (kV_mk T)
  · have T := T.2 h27
    refine wp_aload_n d_Or_leave_77 rfl rfl (g_nz (gl_1 hX 1047)) ?_
    refine xgetI d_Or_leave_78 gc_Or f_Or_116.1 f_Or_116.2.1 f_Or_116.2.2.1 (gl_1 hX 1047) (gl_2 hX (a := 1047) (by decide)) (gl_s hX 27 rfl) f_Or_116.2.2.2.2.1 (fun h11 => ?_)
    have T := T h11
    refine xz_le (tgt := 170) d_Or_leave_81 (by decide) (w32_id h11) (fun h26 => ?_) (fun h26 => ?_)
    · have T := T.1 h26
      exact wp_return d_Or_leave_170 rfl (fun _ => rfl) (Nat.zero_le _) (Nat.zero_le _) (kV_mk T)
    · have T := T.2 h26
      refine wp_aload_n d_Or_leave_84 rfl rfl (g_nz (gl_1 hX 1047)) ?_
      refine wp_dup d_Or_leave_85 (gR_cat _) ?_
      refine xgetI d_Or_leave_86 gc_Or f_Or_116.1 f_Or_116.2.1 f_Or_116.2.2.1 (gl_1 hX 1047) (gl_2 hX (a := 1047) (by decide)) (gl_s hX 27 rfl) f_Or_116.2.2.2.2.1 (fun h12 => ?_)
      have T := T h12
      refine wp_iconst d_Or_leave_89 ?_
      refine wp_isub d_Or_leave_90 ?_
      refine xputI d_Or_leave_91 gc_Or f_Or_116.1 f_Or_116.2.1 f_Or_116.2.2.1 (gl_1 hX 1047) (gl_2 hX (a := 1047) (by decide)) (gl_s hX 27 rfl) f_Or_116.2.2.2.1 f_Or_116.2.2.2.2.1 f_Or_116.2.2.2.2.2 rfl ?_
      refine wp_aload_n d_Or_leave_94 rfl rfl (g_nz (gl_1 hX 1047)) ?_
      refine xgetR d_Or_leave_95 gc_Or f_Or_29.1 f_Or_29.2.1 f_Or_29.2.2.1 (gl_1 hX 1047) (gl_2 hX (a := 1047) (by decide)) (gl_s hX 27 rfl) f_Or_29.2.2.2.2.1 (gl_f hX 36 rfl) ?_
      refine wp_aload_n d_Or_leave_98 rfl rfl (g_nz (gl_1 hX 1047)) ?_
      refine xgetI d_Or_leave_99 gc_Or f_Or_116.1 f_Or_116.2.1 f_Or_116.2.2.1 (gl_1 hX 1047) (gl_2 hX (a := 1047) (by decide)) (gl_s hX 27 rfl) f_Or_116.2.2.2.2.1 (fun h13 => ?_)
      have T := T h13
      refine wp_iaload d_Or_leave_102 (gl_1 hX 1053) (gl_2 hX (a := 1053) (by decide)) (gl_s hX 33 rfl) (g32_n T.1 (by decide)) T.1.1 T.1.2 (fun h14 => ?_)
      have T := T.2 h14
      refine wp_istore (L' := [.val (gR G (c + 1047)), .val (gI x1), .val (gI x2), .val (gI x3), .val (gI x4), .val (gI ((gUp M (c + 1047) 11 (w32 ((M (c + 1047) 11) - 1))) (c + 1053) (Int.toNat ((gUp M (c + 1047) 11 (w32 ((M (c + 1047) 11) - 1))) (c + 1047) 11))))]) d_Or_leave_103 (by decide) rfl ?_
      refine wp_aload_n d_Or_leave_105 rfl rfl (g_nz (gl_1 hX 1047)) ?_
      refine xgetR d_Or_leave_106 gc_Or f_Or_32.1 f_Or_32.2.1 f_Or_32.2.2.1 (gl_1 hX 1047) (gl_2 hX (a := 1047) (by decide)) (gl_s hX 27 rfl) f_Or_32.2.2.2.2.1 (gl_f hX 37 rfl) ?_
      refine wp_iload d_Or_leave_109 rfl ?_
      refine wp_iconst d_Or_leave_111 ?_
      refine xzast d_Or_leave_112 (gl_1 hX 1054) (gl_2 hX (a := 1054) (by decide)) (gl_s hX 34 rfl) (by decide) T.1 (⟨by decide, by decide⟩ : (0 : Int) ≤ 0 ∧ (0 : Int) ≤ 1) ?_
      have T := T.2
      refine wp_aload_n d_Or_leave_113 rfl rfl (g_nz (gl_1 hX 1047)) ?_
      refine xgetR d_Or_leave_114 gc_Or f_Or_19.1 f_Or_19.2.1 f_Or_19.2.2.1 (gl_1 hX 1047) (gl_2 hX (a := 1047) (by decide)) (gl_s hX 27 rfl) f_Or_19.2.2.2.2.1 (gl_f hX 33 rfl) ?_
      refine wp_iload d_Or_leave_117 rfl ?_
      refine wp_iload_n d_Or_leave_119 rfl rfl ?_
      refine xz_ne (tgt := 127) d_Or_leave_120 (by decide) (w32_id hx2) (fun h25 => ?_) (fun h25 => ?_)
      · have T := T.1 h25
        refine wp_iconst d_Or_leave_127 ?_
        refine wp_goto (tgt := 132) d_Or_leave_128 (by decide) ?_
        refine xzast d_Or_leave_132 (gl_1 hX 1050) (gl_2 hX (a := 1050) (by decide)) (gl_s hX 30 rfl) (by decide) T.1 (⟨by decide, by decide⟩ : (0 : Int) ≤ 1 ∧ (1 : Int) ≤ 1) ?_
        have T := T.2
        refine wp_aload_n d_Or_leave_133 rfl rfl (g_nz (gl_1 hX 1047)) ?_
        refine xgetR d_Or_leave_134 gc_Or f_Or_15.1 f_Or_15.2.1 f_Or_15.2.2.1 (gl_1 hX 1047) (gl_2 hX (a := 1047) (by decide)) (gl_s hX 27 rfl) f_Or_15.2.2.2.2.1 (gl_f hX 32 rfl) ?_
        refine wp_aload_n d_Or_leave_137 rfl rfl (g_nz (gl_1 hX 1047)) ?_
        refine xgetI d_Or_leave_138 gc_Or f_Or_58.1 f_Or_58.2.1 f_Or_58.2.2.1 (gl_1 hX 1047) (gl_2 hX (a := 1047) (by decide)) (gl_s hX 27 rfl) f_Or_58.2.2.2.2.1 (fun h15 => ?_)
        have T := T h15
        refine wp_iload d_Or_leave_141 rfl ?_
        refine xiast d_Or_leave_143 (gl_1 hX 1049) (gl_2 hX (a := 1049) (by decide)) (gl_s hX 29 rfl) (by decide) T.1 (w32_id h14) ?_
        have T := T.2
        refine wp_aload_n d_Or_leave_144 rfl rfl (g_nz (gl_1 hX 1047)) ?_
        refine wp_dup d_Or_leave_145 (gR_cat _) ?_
        refine xgetI d_Or_leave_146 gc_Or f_Or_58.1 f_Or_58.2.1 f_Or_58.2.2.1 (gl_1 hX 1047) (gl_2 hX (a := 1047) (by decide)) (gl_s hX 27 rfl) f_Or_58.2.2.2.2.1 (fun h16 => ?_)
        have T := T h16
        refine wp_iconst d_Or_leave_149 ?_
        refine wp_iadd d_Or_leave_150 ?_
        refine xputI d_Or_leave_151 gc_Or f_Or_58.1 f_Or_58.2.1 f_Or_58.2.2.1 (gl_1 hX 1047) (gl_2 hX (a := 1047) (by decide)) (gl_s hX 27 rfl) f_Or_58.2.2.2.1 f_Or_58.2.2.2.2.1 f_Or_58.2.2.2.2.2 rfl ?_
        refine wp_iload d_Or_leave_154 rfl ?_
        refine wp_iload_n d_Or_leave_156 rfl rfl ?_
        refine xi_eq (tgt := 164) d_Or_leave_157 (by decide) (w32_id h14) (w32_id hx1) (fun h17 => ?_) (fun h17 => ?_)
        · have T := T.1 h17
          refine wp_iconst d_Or_leave_164 ?_
          refine wp_istore (L' := [.val (gR G (c + 1047)), .val (gI x1), .val (gI x2), .val (gI x3), .val (gI 0), .val (gI ((gUp M (c + 1047) 11 (w32 ((M (c + 1047) 11) - 1))) (c + 1053) (Int.toNat ((gUp M (c + 1047) 11 (w32 ((M (c + 1047) 11) - 1))) (c + 1047) 11))))]) d_Or_leave_165 (by decide) rfl ?_
          refine wp_goto (tgt := 72) d_Or_leave_167 (by decide) ?_
          exact wp_md (wpt T (And.intro rfl (And.intro rfl (And.intro rfl (And.intro rfl (And.intro rfl True.intro))))))
        · have T := T.2 h17
          refine wp_iconst d_Or_leave_160 ?_
          refine wp_goto (tgt := 165) d_Or_leave_161 (by decide) ?_
          refine wp_istore (L' := [.val (gR G (c + 1047)), .val (gI x1), .val (gI x2), .val (gI x3), .val (gI 1), .val (gI ((gUp M (c + 1047) 11 (w32 ((M (c + 1047) 11) - 1))) (c + 1053) (Int.toNat ((gUp M (c + 1047) 11 (w32 ((M (c + 1047) 11) - 1))) (c + 1047) 11))))]) d_Or_leave_165 (by decide) rfl ?_
          refine wp_goto (tgt := 72) d_Or_leave_167 (by decide) ?_
          exact wp_md (wpt T (And.intro rfl (And.intro rfl (And.intro rfl (And.intro rfl (And.intro rfl True.intro))))))
      · have T := T.2 h25
        refine wp_iload_n d_Or_leave_123 rfl rfl ?_
        refine xz_eq (tgt := 131) d_Or_leave_124 (by decide) (w32_id hx3) (fun h24 => ?_) (fun h24 => ?_)
        · have T := T.1 h24
          refine wp_iconst d_Or_leave_131 ?_
          refine xzast d_Or_leave_132 (gl_1 hX 1050) (gl_2 hX (a := 1050) (by decide)) (gl_s hX 30 rfl) (by decide) T.1 (⟨by decide, by decide⟩ : (0 : Int) ≤ 0 ∧ (0 : Int) ≤ 1) ?_
          have T := T.2
          refine wp_aload_n d_Or_leave_133 rfl rfl (g_nz (gl_1 hX 1047)) ?_
          refine xgetR d_Or_leave_134 gc_Or f_Or_15.1 f_Or_15.2.1 f_Or_15.2.2.1 (gl_1 hX 1047) (gl_2 hX (a := 1047) (by decide)) (gl_s hX 27 rfl) f_Or_15.2.2.2.2.1 (gl_f hX 32 rfl) ?_
          refine wp_aload_n d_Or_leave_137 rfl rfl (g_nz (gl_1 hX 1047)) ?_
          refine xgetI d_Or_leave_138 gc_Or f_Or_58.1 f_Or_58.2.1 f_Or_58.2.2.1 (gl_1 hX 1047) (gl_2 hX (a := 1047) (by decide)) (gl_s hX 27 rfl) f_Or_58.2.2.2.2.1 (fun h18 => ?_)
          have T := T h18
          refine wp_iload d_Or_leave_141 rfl ?_
          refine xiast d_Or_leave_143 (gl_1 hX 1049) (gl_2 hX (a := 1049) (by decide)) (gl_s hX 29 rfl) (by decide) T.1 (w32_id h14) ?_
          have T := T.2
          refine wp_aload_n d_Or_leave_144 rfl rfl (g_nz (gl_1 hX 1047)) ?_
          refine wp_dup d_Or_leave_145 (gR_cat _) ?_
          refine xgetI d_Or_leave_146 gc_Or f_Or_58.1 f_Or_58.2.1 f_Or_58.2.2.1 (gl_1 hX 1047) (gl_2 hX (a := 1047) (by decide)) (gl_s hX 27 rfl) f_Or_58.2.2.2.2.1 (fun h19 => ?_)
          have T := T h19
          refine wp_iconst d_Or_leave_149 ?_
          refine wp_iadd d_Or_leave_150 ?_
          refine xputI d_Or_leave_151 gc_Or f_Or_58.1 f_Or_58.2.1 f_Or_58.2.2.1 (gl_1 hX 1047) (gl_2 hX (a := 1047) (by decide)) (gl_s hX 27 rfl) f_Or_58.2.2.2.1 f_Or_58.2.2.2.2.1 f_Or_58.2.2.2.2.2 rfl ?_
          refine wp_iload d_Or_leave_154 rfl ?_
          refine wp_iload_n d_Or_leave_156 rfl rfl ?_
          refine xi_eq (tgt := 164) d_Or_leave_157 (by decide) (w32_id h14) (w32_id hx1) (fun h20 => ?_) (fun h20 => ?_)
          · have T := T.1 h20
            refine wp_iconst d_Or_leave_164 ?_
            refine wp_istore (L' := [.val (gR G (c + 1047)), .val (gI x1), .val (gI x2), .val (gI x3), .val (gI 0), .val (gI ((gUp M (c + 1047) 11 (w32 ((M (c + 1047) 11) - 1))) (c + 1053) (Int.toNat ((gUp M (c + 1047) 11 (w32 ((M (c + 1047) 11) - 1))) (c + 1047) 11))))]) d_Or_leave_165 (by decide) rfl ?_
            refine wp_goto (tgt := 72) d_Or_leave_167 (by decide) ?_
            exact wp_md (wpt T (And.intro rfl (And.intro rfl (And.intro rfl (And.intro rfl (And.intro rfl True.intro))))))
          · have T := T.2 h20
            refine wp_iconst d_Or_leave_160 ?_
            refine wp_goto (tgt := 165) d_Or_leave_161 (by decide) ?_
            refine wp_istore (L' := [.val (gR G (c + 1047)), .val (gI x1), .val (gI x2), .val (gI x3), .val (gI 1), .val (gI ((gUp M (c + 1047) 11 (w32 ((M (c + 1047) 11) - 1))) (c + 1053) (Int.toNat ((gUp M (c + 1047) 11 (w32 ((M (c + 1047) 11) - 1))) (c + 1047) 11))))]) d_Or_leave_165 (by decide) rfl ?_
            refine wp_goto (tgt := 72) d_Or_leave_167 (by decide) ?_
            exact wp_md (wpt T (And.intro rfl (And.intro rfl (And.intro rfl (And.intro rfl (And.intro rfl True.intro))))))
        · have T := T.2 h24
          refine wp_iconst d_Or_leave_127 ?_
          refine wp_goto (tgt := 132) d_Or_leave_128 (by decide) ?_
          refine xzast d_Or_leave_132 (gl_1 hX 1050) (gl_2 hX (a := 1050) (by decide)) (gl_s hX 30 rfl) (by decide) T.1 (⟨by decide, by decide⟩ : (0 : Int) ≤ 1 ∧ (1 : Int) ≤ 1) ?_
          have T := T.2
          refine wp_aload_n d_Or_leave_133 rfl rfl (g_nz (gl_1 hX 1047)) ?_
          refine xgetR d_Or_leave_134 gc_Or f_Or_15.1 f_Or_15.2.1 f_Or_15.2.2.1 (gl_1 hX 1047) (gl_2 hX (a := 1047) (by decide)) (gl_s hX 27 rfl) f_Or_15.2.2.2.2.1 (gl_f hX 32 rfl) ?_
          refine wp_aload_n d_Or_leave_137 rfl rfl (g_nz (gl_1 hX 1047)) ?_
          refine xgetI d_Or_leave_138 gc_Or f_Or_58.1 f_Or_58.2.1 f_Or_58.2.2.1 (gl_1 hX 1047) (gl_2 hX (a := 1047) (by decide)) (gl_s hX 27 rfl) f_Or_58.2.2.2.2.1 (fun h21 => ?_)
          have T := T h21
          refine wp_iload d_Or_leave_141 rfl ?_
          refine xiast d_Or_leave_143 (gl_1 hX 1049) (gl_2 hX (a := 1049) (by decide)) (gl_s hX 29 rfl) (by decide) T.1 (w32_id h14) ?_
          have T := T.2
          refine wp_aload_n d_Or_leave_144 rfl rfl (g_nz (gl_1 hX 1047)) ?_
          refine wp_dup d_Or_leave_145 (gR_cat _) ?_
          refine xgetI d_Or_leave_146 gc_Or f_Or_58.1 f_Or_58.2.1 f_Or_58.2.2.1 (gl_1 hX 1047) (gl_2 hX (a := 1047) (by decide)) (gl_s hX 27 rfl) f_Or_58.2.2.2.2.1 (fun h22 => ?_)
          have T := T h22
          refine wp_iconst d_Or_leave_149 ?_
          refine wp_iadd d_Or_leave_150 ?_
          refine xputI d_Or_leave_151 gc_Or f_Or_58.1 f_Or_58.2.1 f_Or_58.2.2.1 (gl_1 hX 1047) (gl_2 hX (a := 1047) (by decide)) (gl_s hX 27 rfl) f_Or_58.2.2.2.1 f_Or_58.2.2.2.2.1 f_Or_58.2.2.2.2.2 rfl ?_
          refine wp_iload d_Or_leave_154 rfl ?_
          refine wp_iload_n d_Or_leave_156 rfl rfl ?_
          refine xi_eq (tgt := 164) d_Or_leave_157 (by decide) (w32_id h14) (w32_id hx1) (fun h23 => ?_) (fun h23 => ?_)
          · have T := T.1 h23
            refine wp_iconst d_Or_leave_164 ?_
            refine wp_istore (L' := [.val (gR G (c + 1047)), .val (gI x1), .val (gI x2), .val (gI x3), .val (gI 0), .val (gI ((gUp M (c + 1047) 11 (w32 ((M (c + 1047) 11) - 1))) (c + 1053) (Int.toNat ((gUp M (c + 1047) 11 (w32 ((M (c + 1047) 11) - 1))) (c + 1047) 11))))]) d_Or_leave_165 (by decide) rfl ?_
            refine wp_goto (tgt := 72) d_Or_leave_167 (by decide) ?_
            exact wp_md (wpt T (And.intro rfl (And.intro rfl (And.intro rfl (And.intro rfl (And.intro rfl True.intro))))))
          · have T := T.2 h23
            refine wp_iconst d_Or_leave_160 ?_
            refine wp_goto (tgt := 165) d_Or_leave_161 (by decide) ?_
            refine wp_istore (L' := [.val (gR G (c + 1047)), .val (gI x1), .val (gI x2), .val (gI x3), .val (gI 1), .val (gI ((gUp M (c + 1047) 11 (w32 ((M (c + 1047) 11) - 1))) (c + 1053) (Int.toNat ((gUp M (c + 1047) 11 (w32 ((M (c + 1047) 11) - 1))) (c + 1047) 11))))]) d_Or_leave_165 (by decide) rfl ?_
            refine wp_goto (tgt := 72) d_Or_leave_167 (by decide) ?_
            exact wp_md (wpt T (And.intro rfl (And.intro rfl (And.intro rfl (And.intro rfl (And.intro rfl True.intro))))))
theorem e_Or_leave {l : Launch} {G : gG} {d : Nat} {X : gX} {M : gM} {k : gM → Prop} {c : Nat} {x1 : Int} (T : wp l G y_Or_leave (gRm d) true (kkV X k) false 0 [.val (gR G (c + 1047)), .val (gI x1), .unset, .unset, .unset, .unset] [] X M 0 0) : cV l G y_Or_leave (gRm d) true [gR G (c + 1047), gI x1] X M k := cen_V (plainFor_of_name rfl) (by simp only [lg_sl_R, lg_sl_I, lg_sl_L, lg_sl_N, List.length_cons, List.length_nil]; decide) (by unfold gEn; simp only [lg_sl_R, lg_sl_I, lg_sl_L, lg_sl_N]; exact wpt T (And.intro rfl (And.intro rfl True.intro)))
theorem d_Rd_typed_0 : decode prog_8_method_2_code 0 = .ok (.iload_n 1, 1) := by decide +kernel
theorem d_Rd_typed_1 : decode prog_8_method_2_code 1 = .ok (.ifCond .ne 5, 3) := by decide +kernel
theorem d_Rd_typed_6 : decode prog_8_method_2_code 6 = .ok (.aload_n 0, 1) := by decide +kernel
theorem d_Rd_typed_7 : decode prog_8_method_2_code 7 = .ok (.iload_n 1, 1) := by decide +kernel
theorem d_Rd_typed_8 : decode prog_8_method_2_code 8 = .ok (.invokevirtual 32, 3) := by decide +kernel
theorem d_Rd_typed_11 : decode prog_8_method_2_code 11 = .ok (.ifCond .ne 5, 3) := by decide +kernel
theorem d_Rd_typed_16 : decode prog_8_method_2_code 16 = .ok (.aload_n 0, 1) := by decide +kernel
theorem d_Rd_typed_17 : decode prog_8_method_2_code 17 = .ok (.getfield 15, 3) := by decide +kernel
theorem d_Rd_typed_20 : decode prog_8_method_2_code 20 = .ok (.iconst 0, 1) := by decide +kernel
theorem d_Rd_typed_21 : decode prog_8_method_2_code 21 = .ok (.iload_n 1, 1) := by decide +kernel
theorem d_Rd_typed_22 : decode prog_8_method_2_code 22 = .ok (.invokestatic 36, 3) := by decide +kernel
theorem d_Rd_typed_25 : decode prog_8_method_2_code 25 = .ok (.istore_n 2, 1) := by decide +kernel
theorem d_Rd_typed_26 : decode prog_8_method_2_code 26 = .ok (.aload_n 0, 1) := by decide +kernel
theorem d_Rd_typed_27 : decode prog_8_method_2_code 27 = .ok (.getfield 15, 3) := by decide +kernel
theorem d_Rd_typed_30 : decode prog_8_method_2_code 30 = .ok (.iconst 0, 1) := by decide +kernel
theorem d_Rd_typed_31 : decode prog_8_method_2_code 31 = .ok (.baload, 1) := by decide +kernel
theorem d_Rd_typed_32 : decode prog_8_method_2_code 32 = .ok (.bipush 61, 2) := by decide +kernel
theorem d_Rd_typed_34 : decode prog_8_method_2_code 34 = .ok (.if_icmp .ne 7, 3) := by decide +kernel
theorem d_Rd_typed_41 : decode prog_8_method_2_code 41 = .ok (.iconst 0, 1) := by decide +kernel
theorem d_Rd_typed_37 : decode prog_8_method_2_code 37 = .ok (.iconst 1, 1) := by decide +kernel
theorem d_Rd_typed_38 : decode prog_8_method_2_code 38 = .ok (.goto 4, 3) := by decide +kernel
theorem d_Rd_typed_14 : decode prog_8_method_2_code 14 = .ok (.iconst (-1), 1) := by decide +kernel
theorem d_Rd_typed_15 : decode prog_8_method_2_code 15 = .ok (.ireturn, 1) := by decide +kernel
theorem d_Rd_typed_4 : decode prog_8_method_2_code 4 = .ok (.iconst 0, 1) := by decide +kernel
theorem d_Rd_typed_5 : decode prog_8_method_2_code 5 = .ok (.ireturn, 1) := by decide +kernel
theorem d_Rd_typed_42 : decode prog_8_method_2_code 42 = .ok (.istore_n 3, 1) := by decide +kernel
theorem d_Rd_typed_43 : decode prog_8_method_2_code 43 = .ok (.iload_n 3, 1) := by decide +kernel
theorem d_Rd_typed_44 : decode prog_8_method_2_code 44 = .ok (.ifCond .eq 9, 3) := by decide +kernel
theorem d_Rd_typed_53 : decode prog_8_method_2_code 53 = .ok (.bipush 64, 2) := by decide +kernel
theorem d_Rd_typed_55 : decode prog_8_method_2_code 55 = .ok (.istore 4, 2) := by decide +kernel
theorem d_Rd_typed_57 : decode prog_8_method_2_code 57 = .ok (.iload_n 2, 1) := by decide +kernel
theorem d_Rd_typed_58 : decode prog_8_method_2_code 58 = .ok (.ifCond .ne 11, 3) := by decide +kernel
theorem d_Rd_typed_61 : decode prog_8_method_2_code 61 = .ok (.iload_n 1, 1) := by decide +kernel
theorem d_Rd_typed_62 : decode prog_8_method_2_code 62 = .ok (.iload 4, 2) := by decide +kernel
theorem d_Rd_typed_64 : decode prog_8_method_2_code 64 = .ok (.if_icmp .le 5, 3) := by decide +kernel
theorem d_Rd_typed_67 : decode prog_8_method_2_code 67 = .ok (.iconst (-1), 1) := by decide +kernel
theorem d_Rd_typed_68 : decode prog_8_method_2_code 68 = .ok (.ireturn, 1) := by decide +kernel
theorem d_Rd_typed_47 : decode prog_8_method_2_code 47 = .ok (.sipush 201, 3) := by decide +kernel
theorem d_Rd_typed_50 : decode prog_8_method_2_code 50 = .ok (.goto 5, 3) := by decide +kernel
theorem d_Rd_typed_69 : decode prog_8_method_2_code 69 = .ok (.aload_n 0, 1) := by decide +kernel
theorem d_Rd_typed_70 : decode prog_8_method_2_code 70 = .ok (.getfield 19, 3) := by decide +kernel
theorem d_Rd_typed_73 : decode prog_8_method_2_code 73 = .ok (.invokevirtual 42, 3) := by decide +kernel
theorem d_Rd_typed_76 : decode prog_8_method_2_code 76 = .ok (.ifCond .ne 6, 3) := by decide +kernel
theorem d_Rd_typed_82 : decode prog_8_method_2_code 82 = .ok (.iload_n 3, 1) := by decide +kernel
theorem d_Rd_typed_83 : decode prog_8_method_2_code 83 = .ok (.ifCond .eq 11, 3) := by decide +kernel
theorem d_Rd_typed_94 : decode prog_8_method_2_code 94 = .ok (.iload_n 2, 1) := by decide +kernel
theorem d_Rd_typed_95 : decode prog_8_method_2_code 95 = .ok (.ifCond .eq 31, 3) := by decide +kernel
theorem d_Rd_typed_126 : decode prog_8_method_2_code 126 = .ok (.aload_n 0, 1) := by decide +kernel
theorem d_Rd_typed_127 : decode prog_8_method_2_code 127 = .ok (.getfield 19, 3) := by decide +kernel
theorem d_Rd_typed_130 : decode prog_8_method_2_code 130 = .ok (.iconst 2, 1) := by decide +kernel
theorem d_Rd_typed_131 : decode prog_8_method_2_code 131 = .ok (.invokevirtual 52, 3) := by decide +kernel
theorem d_Rd_typed_134 : decode prog_8_method_2_code 134 = .ok (.aload_n 0, 1) := by decide +kernel
theorem d_Rd_typed_135 : decode prog_8_method_2_code 135 = .ok (.getfield 19, 3) := by decide +kernel
theorem d_Rd_typed_138 : decode prog_8_method_2_code 138 = .ok (.aload_n 0, 1) := by decide +kernel
theorem d_Rd_typed_139 : decode prog_8_method_2_code 139 = .ok (.getfield 15, 3) := by decide +kernel
theorem d_Rd_typed_142 : decode prog_8_method_2_code 142 = .ok (.iconst 0, 1) := by decide +kernel
theorem d_Rd_typed_143 : decode prog_8_method_2_code 143 = .ok (.iload_n 1, 1) := by decide +kernel
theorem d_Rd_typed_144 : decode prog_8_method_2_code 144 = .ok (.invokevirtual 63, 3) := by decide +kernel
theorem d_Rd_typed_98 : decode prog_8_method_2_code 98 = .ok (.aload_n 0, 1) := by decide +kernel
theorem d_Rd_typed_99 : decode prog_8_method_2_code 99 = .ok (.getfield 19, 3) := by decide +kernel
theorem d_Rd_typed_102 : decode prog_8_method_2_code 102 = .ok (.iconst 1, 1) := by decide +kernel
theorem d_Rd_typed_103 : decode prog_8_method_2_code 103 = .ok (.invokevirtual 52, 3) := by decide +kernel
theorem d_Rd_typed_106 : decode prog_8_method_2_code 106 = .ok (.aload_n 0, 1) := by decide +kernel
theorem d_Rd_typed_107 : decode prog_8_method_2_code 107 = .ok (.getfield 19, 3) := by decide +kernel
theorem d_Rd_typed_110 : decode prog_8_method_2_code 110 = .ok (.iconst 0, 1) := by decide +kernel
theorem d_Rd_typed_111 : decode prog_8_method_2_code 111 = .ok (.aload_n 0, 1) := by decide +kernel
theorem d_Rd_typed_112 : decode prog_8_method_2_code 112 = .ok (.getfield 15, 3) := by decide +kernel
theorem d_Rd_typed_115 : decode prog_8_method_2_code 115 = .ok (.iconst 0, 1) := by decide +kernel
theorem d_Rd_typed_116 : decode prog_8_method_2_code 116 = .ok (.iload_n 1, 1) := by decide +kernel
theorem d_Rd_typed_117 : decode prog_8_method_2_code 117 = .ok (.invokestatic 55, 3) := by decide +kernel
theorem d_Rd_typed_120 : decode prog_8_method_2_code 120 = .ok (.invokevirtual 59, 3) := by decide +kernel
theorem d_Rd_typed_123 : decode prog_8_method_2_code 123 = .ok (.goto 24, 3) := by decide +kernel
theorem d_Rd_typed_86 : decode prog_8_method_2_code 86 = .ok (.aload_n 0, 1) := by decide +kernel
theorem d_Rd_typed_87 : decode prog_8_method_2_code 87 = .ok (.iload_n 1, 1) := by decide +kernel
theorem d_Rd_typed_88 : decode prog_8_method_2_code 88 = .ok (.invokevirtual 48, 3) := by decide +kernel
theorem d_Rd_typed_91 : decode prog_8_method_2_code 91 = .ok (.goto 56, 3) := by decide +kernel
theorem d_Rd_typed_79 : decode prog_8_method_2_code 79 = .ok (.bipush (-2), 2) := by decide +kernel
theorem d_Rd_typed_81 : decode prog_8_method_2_code 81 = .ok (.ireturn, 1) := by decide +kernel
theorem d_Rd_typed_147 : decode prog_8_method_2_code 147 = .ok (.aload_n 0, 1) := by decide +kernel
theorem d_Rd_typed_148 : decode prog_8_method_2_code 148 = .ok (.getfield 19, 3) := by decide +kernel
theorem d_Rd_typed_151 : decode prog_8_method_2_code 151 = .ok (.invokevirtual 67, 3) := by decide +kernel
theorem d_Rd_typed_154 : decode prog_8_method_2_code 154 = .ok (.ireturn, 1) := by decide +kernel
set_option maxHeartbeats 4000000 in
theorem w_Rd_typed_0 {l : Launch} {G : gG} {d : Nat} {X : gX} {M : gM} {k : Int → gM → Prop} {c : Nat} (hX : glX X c) {x1 : Int} (hx1 : g32 x1)  (T : (¬ x1 = 0 → (cZ l G y_Rd_isPrintable (gRm d) false [gR G (c + 14), gI x1] X M (fun v2 M1 => ((¬ v2 = 0 → (cZ l G y_Vl_isNumber (gRm d) false [gR G (c + 1), gI 0, gI x1] X M1 (fun v5 M4 => (((0 : Int) ≤ (0 : Int) ∧ (0 : Int) < 240) ∧ ((-128 ≤ M4 (c + 1) (Int.toNat 0) ∧ M4 (c + 1) (Int.toNat 0) < 128) → ((¬ M4 (c + 1) (Int.toNat 0) = 61 → (wp l G y_Rd_typed (gRm (d + 1)) true (kkI X k) true 42 [.val (gR G (c + 14)), .val (gI x1), .val (gI v5), .unset, .unset] [gI 0] X M4 0 0)) ∧ (M4 (c + 1) (Int.toNat 0) = 61 → (wp l G y_Rd_typed (gRm (d + 1)) true (kkI X k) true 42 [.val (gR G (c + 14)), .val (gI x1), .val (gI v5), .unset, .unset] [gI 1] X M4 0 0)))))))) ∧ (v2 = 0 → (k (-1) M1)))))) ∧ (x1 = 0 → (k 0 M))) : wp l G y_Rd_typed (gRm (d + 1)) true (kkI X k) false 0 [.val (gR G (c + 14)), .val (gI x1), .unset, .unset, .unset] [] X M 0 0 := by
  refine wp_iload_n d_Rd_typed_0 rfl rfl ?_
  refine xz_ne (tgt := 6) d_Rd_typed_1 (by decide) (w32_id hx1) (fun h10 => ?_) (fun h10 => ?_)
  · have T := T.1 h10
    refine wp_aload_n d_Rd_typed_6 rfl rfl (g_nz (gl_1 hX 14)) ?_
    refine wp_iload_n d_Rd_typed_7 rfl rfl ?_
    refine xcV_Z (md' := false) (As := [gI x1]) (st := []) d_Rd_typed_8 ca_Rd_isPrintable ml_Rd_32 im_Rd_isPrintable se_Rd_isPrintable gc_Rd (gl_1 hX 14) (gl_2 hX (a := 14) (by decide)) (gl_s hX 14 rfl) rfl (by decide) (by decide) rfl id id T (fun v2 M1 h3 T => ?_)
    refine xz_ne (tgt := 16) d_Rd_typed_11 (by decide) (w32_id (g32_z h3)) (fun h9 => ?_) (fun h9 => ?_)
    · have T := T.1 h9
      refine wp_aload_n d_Rd_typed_16 rfl rfl (g_nz (gl_1 hX 14)) ?_
      refine xgetR d_Rd_typed_17 gc_Rd f_Rd_15.1 f_Rd_15.2.1 f_Rd_15.2.2.1 (gl_1 hX 14) (gl_2 hX (a := 14) (by decide)) (gl_s hX 14 rfl) f_Rd_15.2.2.2.2.1 (gl_f hX 15 rfl) ?_
      refine wp_iconst d_Rd_typed_20 ?_
      refine wp_iload_n d_Rd_typed_21 rfl rfl ?_
      refine xcS_Z (md' := false) (As := [gR G (c + 1), gI 0, gI x1]) (st := []) d_Rd_typed_22 ca_Vl_isNumber ml_Rd_36 sm_Vl_isNumber rfl (by decide) (by decide) rfl id id T (fun v5 M4 h6 T => ?_)
      refine wp_istore_n (L' := [.val (gR G (c + 14)), .val (gI x1), .val (gI v5), .unset, .unset]) d_Rd_typed_25 rfl (by decide) rfl ?_
      refine wp_aload_n d_Rd_typed_26 rfl rfl (g_nz (gl_1 hX 14)) ?_
      refine xgetR d_Rd_typed_27 gc_Rd f_Rd_15.1 f_Rd_15.2.1 f_Rd_15.2.2.1 (gl_1 hX 14) (gl_2 hX (a := 14) (by decide)) (gl_s hX 14 rfl) f_Rd_15.2.2.2.2.1 (gl_f hX 15 rfl) ?_
      refine wp_iconst d_Rd_typed_30 ?_
      refine wp_baload d_Rd_typed_31 (gl_1 hX 1) (gl_2 hX (a := 1) (by decide)) (gl_s hX 1 rfl) (g32_n T.1 (by decide)) T.1.1 T.1.2 (fun h7 => ?_)
      have T := T.2 h7
      refine wp_bipush d_Rd_typed_32 ⟨by decide, by decide⟩ ?_
      refine xi_ne (tgt := 41) d_Rd_typed_34 (by decide) (w32_id (g32_b h7)) (w32_id (g32_c (x := 61) rfl)) (fun h8 => ?_) (fun h8 => ?_)
      · have T := T.1 h8
        refine wp_iconst d_Rd_typed_41 ?_
        exact wp_md (wpt T (And.intro rfl (And.intro rfl (And.intro rfl True.intro))))
      · have T := T.2 h8
        refine wp_iconst d_Rd_typed_37 ?_
        refine wp_goto (tgt := 42) d_Rd_typed_38 (by decide) ?_
        exact wp_md (wpt T (And.intro rfl (And.intro rfl (And.intro rfl True.intro))))
    · have T := T.2 h9
      refine wp_iconst d_Rd_typed_14 ?_
      exact wp_ireturn d_Rd_typed_15 rfl (fun _ => rfl) (Nat.zero_le _) (Nat.zero_le _) (kI_mk (g32_c (x := (-1)) rfl) T)
  · have T := T.2 h10
    refine wp_iconst d_Rd_typed_4 ?_
    exact wp_ireturn d_Rd_typed_5 rfl (fun _ => rfl) (Nat.zero_le _) (Nat.zero_le _) (kI_mk (g32_c (x := 0) rfl) T)
set_option maxHeartbeats 4000000 in
theorem w_Rd_typed_42 {l : Launch} {G : gG} {d : Nat} {X : gX} {M : gM} {k : Int → gM → Prop} {c : Nat} (hX : glX X c) {x1 : Int} (hx1 : g32 x1) {x2 : Int} (hx2 : g32 x2) {s0 : Int} (hs0 : g32 s0)  (T : (s0 = 0 → ((¬ x2 = 0 → (wp l G y_Rd_typed (gRm (d + 1)) true (kkI X k) true 69 [.val (gR G (c + 14)), .val (gI x1), .val (gI x2), .val (gI s0), .unset] [] X M 0 0)) ∧ (x2 = 0 → ((x1 ≤ 64 → (wp l G y_Rd_typed (gRm (d + 1)) true (kkI X k) true 69 [.val (gR G (c + 14)), .val (gI x1), .val (gI x2), .val (gI s0), .unset] [] X M 0 0)) ∧ (¬ x1 ≤ 64 → (k (-1) M)))))) ∧ (¬ s0 = 0 → ((¬ x2 = 0 → (wp l G y_Rd_typed (gRm (d + 1)) true (kkI X k) true 69 [.val (gR G (c + 14)), .val (gI x1), .val (gI x2), .val (gI s0), .unset] [] X M 0 0)) ∧ (x2 = 0 → ((x1 ≤ 201 → (wp l G y_Rd_typed (gRm (d + 1)) true (kkI X k) true 69 [.val (gR G (c + 14)), .val (gI x1), .val (gI x2), .val (gI s0), .unset] [] X M 0 0)) ∧ (¬ x1 ≤ 201 → (k (-1) M))))))) : wp l G y_Rd_typed (gRm (d + 1)) true (kkI X k) true 42 [.val (gR G (c + 14)), .val (gI x1), .val (gI x2), .unset, .unset] [gI s0] X M 0 0 := by
  refine wp_istore_n (L' := [.val (gR G (c + 14)), .val (gI x1), .val (gI x2), .val (gI s0), .unset]) d_Rd_typed_42 rfl (by decide) rfl ?_
  refine wp_iload_n d_Rd_typed_43 rfl rfl ?_
  refine xz_eq (tgt := 53) d_Rd_typed_44 (by decide) (w32_id hs0) (fun h15 => ?_) (fun h15 => ?_)
  · have T := T.1 h15
    refine wp_bipush d_Rd_typed_53 ⟨by decide, by decide⟩ ?_
    refine wp_istore (L' := [.val (gR G (c + 14)), .val (gI x1), .val (gI x2), .val (gI s0), .val (gI 64)]) d_Rd_typed_55 (by decide) rfl ?_
    refine wp_iload_n d_Rd_typed_57 rfl rfl ?_
    refine xz_ne (tgt := 69) d_Rd_typed_58 (by decide) (w32_id hx2) (fun h12 => ?_) (fun h12 => ?_)
    · have T := T.1 h12
      exact wp_md (wpt T (And.intro rfl (And.intro rfl (And.intro rfl (And.intro rfl True.intro)))))
    · have T := T.2 h12
      refine wp_iload_n d_Rd_typed_61 rfl rfl ?_
      refine wp_iload d_Rd_typed_62 rfl ?_
      refine xi_le (tgt := 69) d_Rd_typed_64 (by decide) (w32_id hx1) (w32_id (g32_c (x := 64) rfl)) (fun h11 => ?_) (fun h11 => ?_)
      · have T := T.1 h11
        exact wp_md (wpt T (And.intro rfl (And.intro rfl (And.intro rfl (And.intro rfl True.intro)))))
      · have T := T.2 h11
        refine wp_iconst d_Rd_typed_67 ?_
        exact wp_ireturn d_Rd_typed_68 rfl (fun _ => rfl) (Nat.zero_le _) (Nat.zero_le _) (kI_mk (g32_c (x := (-1)) rfl) T)
  · have T := T.2 h15
    refine wp_sipush d_Rd_typed_47 ⟨by decide, by decide⟩ ?_
    refine wp_goto (tgt := 55) d_Rd_typed_50 (by decide) ?_
    refine wp_istore (L' := [.val (gR G (c + 14)), .val (gI x1), .val (gI x2), .val (gI s0), .val (gI 201)]) d_Rd_typed_55 (by decide) rfl ?_
    refine wp_iload_n d_Rd_typed_57 rfl rfl ?_
    refine xz_ne (tgt := 69) d_Rd_typed_58 (by decide) (w32_id hx2) (fun h14 => ?_) (fun h14 => ?_)
    · have T := T.1 h14
      exact wp_md (wpt T (And.intro rfl (And.intro rfl (And.intro rfl (And.intro rfl True.intro)))))
    · have T := T.2 h14
      refine wp_iload_n d_Rd_typed_61 rfl rfl ?_
      refine wp_iload d_Rd_typed_62 rfl ?_
      refine xi_le (tgt := 69) d_Rd_typed_64 (by decide) (w32_id hx1) (w32_id (g32_c (x := 201) rfl)) (fun h13 => ?_) (fun h13 => ?_)
      · have T := T.1 h13
        exact wp_md (wpt T (And.intro rfl (And.intro rfl (And.intro rfl (And.intro rfl True.intro)))))
      · have T := T.2 h13
        refine wp_iconst d_Rd_typed_67 ?_
        exact wp_ireturn d_Rd_typed_68 rfl (fun _ => rfl) (Nat.zero_le _) (Nat.zero_le _) (kI_mk (g32_c (x := (-1)) rfl) T)
set_option maxHeartbeats 4000000 in
theorem w_Rd_typed_69 {l : Launch} {G : gG} {d : Nat} {X : gX} {M : gM} {k : Int → gM → Prop} {c : Nat} (hX : glX X c) {x1 : Int} (hx1 : g32 x1) {x2 : Int} (hx2 : g32 x2) {x3 : Int} (hx3 : g32 x3)  (T : cZ l G y_Cn_hasRoom (gRm d) false [gR G (c + 2)] X M (fun v17 M16 => ((¬ v17 = 0 → ((x3 = 0 → ((x2 = 0 → (cV l G y_Cn_begin (gRm d) true [gR G (c + 2), gI 2] X M16 (fun M19 => (cV l G y_Cn_emitText (gRm d) true [gR G (c + 2), gR G (c + 1), gI 0, gI x1] X M19 (fun M20 => (wp l G y_Rd_typed (gRm (d + 1)) true (kkI X k) true 147 [.val (gR G (c + 14)), .unset, .unset, .unset, .unset] [] X M20 0 0)))))) ∧ (¬ x2 = 0 → (cV l G y_Cn_begin (gRm d) true [gR G (c + 2), gI 1] X M16 (fun M21 => (cL l G y_Vl_numberIn (gRm d) false [gR G (c + 1), gI 0, gI x1] X M21 (fun v23 M22 => (cV l G y_Cn_emit (gRm d) true [gR G (c + 2), gI 0, gL v23] X M22 (fun M25 => (wp l G y_Rd_typed (gRm (d + 1)) true (kkI X k) true 147 [.val (gR G (c + 14)), .unset, .unset, .unset, .unset] [] X M25 0 0)))))))))) ∧ (¬ x3 = 0 → (cV l G y_Rd_readFormula (gRm d) true [gR G (c + 14), gI x1] X M16 (fun M27 => (wp l G y_Rd_typed (gRm (d + 1)) true (kkI X k) true 147 [.val (gR G (c + 14)), .unset, .unset, .unset, .unset] [] X M27 0 0)))))) ∧ (v17 = 0 → (k (-2) M16))))) : wp l G y_Rd_typed (gRm (d + 1)) true (kkI X k) true 69 [.val (gR G (c + 14)), .val (gI x1), .val (gI x2), .val (gI x3), .unset] [] X M 0 0 := by
  refine wp_aload_n d_Rd_typed_69 rfl rfl (g_nz (gl_1 hX 14)) ?_
  refine xgetR d_Rd_typed_70 gc_Rd f_Rd_19.1 f_Rd_19.2.1 f_Rd_19.2.2.1 (gl_1 hX 14) (gl_2 hX (a := 14) (by decide)) (gl_s hX 14 rfl) f_Rd_19.2.2.2.2.1 (gl_f hX 16 rfl) ?_
  refine xcV_Z (md' := true) (As := []) (st := []) d_Rd_typed_73 ca_Cn_hasRoom ml_Rd_42 im_Cn_hasRoom se_Cn_hasRoom gc_Cn (gl_1 hX 2) (gl_2 hX (a := 2) (by decide)) (gl_s hX 2 rfl) rfl (by decide) (by decide) rfl (fun _ => rfl) (fun _ => rfl) T (fun v17 M16 h18 T => ?_)
  refine xz_ne (tgt := 82) d_Rd_typed_76 (by decide) (w32_id (g32_z h18)) (fun h29 => ?_) (fun h29 => ?_)
  · have T := T.1 h29
    refine wp_iload_n d_Rd_typed_82 rfl rfl ?_
    refine xz_eq (tgt := 94) d_Rd_typed_83 (by decide) (w32_id hx3) (fun h28 => ?_) (fun h28 => ?_)
    · have T := T.1 h28
      refine wp_iload_n d_Rd_typed_94 rfl rfl ?_
      refine xz_eq (tgt := 126) d_Rd_typed_95 (by decide) (w32_id hx2) (fun h26 => ?_) (fun h26 => ?_)
      · have T := T.1 h26
        refine wp_aload_n d_Rd_typed_126 rfl rfl (g_nz (gl_1 hX 14)) ?_
        refine xgetR d_Rd_typed_127 gc_Rd f_Rd_19.1 f_Rd_19.2.1 f_Rd_19.2.2.1 (gl_1 hX 14) (gl_2 hX (a := 14) (by decide)) (gl_s hX 14 rfl) f_Rd_19.2.2.2.2.1 (gl_f hX 16 rfl) ?_
        refine wp_iconst d_Rd_typed_130 ?_
        refine xcV_V (md' := true) (As := [gI 2]) (st := []) d_Rd_typed_131 ca_Cn_begin ml_Rd_52 im_Cn_begin se_Cn_begin gc_Cn (gl_1 hX 2) (gl_2 hX (a := 2) (by decide)) (gl_s hX 2 rfl) rfl (by decide) (by decide) rfl (fun _ => rfl) (fun _ => rfl) T (fun M19 T => ?_)
        refine wp_aload_n d_Rd_typed_134 rfl rfl (g_nz (gl_1 hX 14)) ?_
        refine xgetR d_Rd_typed_135 gc_Rd f_Rd_19.1 f_Rd_19.2.1 f_Rd_19.2.2.1 (gl_1 hX 14) (gl_2 hX (a := 14) (by decide)) (gl_s hX 14 rfl) f_Rd_19.2.2.2.2.1 (gl_f hX 16 rfl) ?_
        refine wp_aload_n d_Rd_typed_138 rfl rfl (g_nz (gl_1 hX 14)) ?_
        refine xgetR d_Rd_typed_139 gc_Rd f_Rd_15.1 f_Rd_15.2.1 f_Rd_15.2.2.1 (gl_1 hX 14) (gl_2 hX (a := 14) (by decide)) (gl_s hX 14 rfl) f_Rd_15.2.2.2.2.1 (gl_f hX 15 rfl) ?_
        refine wp_iconst d_Rd_typed_142 ?_
        refine wp_iload_n d_Rd_typed_143 rfl rfl ?_
        refine xcV_V (md' := true) (As := [gR G (c + 1), gI 0, gI x1]) (st := []) d_Rd_typed_144 ca_Cn_emitText ml_Rd_63 im_Cn_emitText se_Cn_emitText gc_Cn (gl_1 hX 2) (gl_2 hX (a := 2) (by decide)) (gl_s hX 2 rfl) rfl (by decide) (by decide) rfl (fun _ => rfl) (fun _ => rfl) T (fun M20 T => ?_)
        exact wp_md (wpt T (And.intro rfl True.intro))
      · have T := T.2 h26
        refine wp_aload_n d_Rd_typed_98 rfl rfl (g_nz (gl_1 hX 14)) ?_
        refine xgetR d_Rd_typed_99 gc_Rd f_Rd_19.1 f_Rd_19.2.1 f_Rd_19.2.2.1 (gl_1 hX 14) (gl_2 hX (a := 14) (by decide)) (gl_s hX 14 rfl) f_Rd_19.2.2.2.2.1 (gl_f hX 16 rfl) ?_
        refine wp_iconst d_Rd_typed_102 ?_
        refine xcV_V (md' := true) (As := [gI 1]) (st := []) d_Rd_typed_103 ca_Cn_begin ml_Rd_52 im_Cn_begin se_Cn_begin gc_Cn (gl_1 hX 2) (gl_2 hX (a := 2) (by decide)) (gl_s hX 2 rfl) rfl (by decide) (by decide) rfl (fun _ => rfl) (fun _ => rfl) T (fun M21 T => ?_)
        refine wp_aload_n d_Rd_typed_106 rfl rfl (g_nz (gl_1 hX 14)) ?_
        refine xgetR d_Rd_typed_107 gc_Rd f_Rd_19.1 f_Rd_19.2.1 f_Rd_19.2.2.1 (gl_1 hX 14) (gl_2 hX (a := 14) (by decide)) (gl_s hX 14 rfl) f_Rd_19.2.2.2.2.1 (gl_f hX 16 rfl) ?_
        refine wp_iconst d_Rd_typed_110 ?_
        refine wp_aload_n d_Rd_typed_111 rfl rfl (g_nz (gl_1 hX 14)) ?_
        refine xgetR d_Rd_typed_112 gc_Rd f_Rd_15.1 f_Rd_15.2.1 f_Rd_15.2.2.1 (gl_1 hX 14) (gl_2 hX (a := 14) (by decide)) (gl_s hX 14 rfl) f_Rd_15.2.2.2.2.1 (gl_f hX 15 rfl) ?_
        refine wp_iconst d_Rd_typed_115 ?_
        refine wp_iload_n d_Rd_typed_116 rfl rfl ?_
        refine xcS_L (md' := true) (As := [gR G (c + 1), gI 0, gI x1]) (st := [gI 0, gR G (c + 2)]) d_Rd_typed_117 ca_Vl_numberIn ml_Rd_55 sm_Vl_numberIn rfl (by decide) (by simp only [List.map, gR_cat, gI_cat, gL_cat, List.sum_cons, List.sum_nil]; decide) rfl (fun _ => rfl) (fun _ => rfl) T (fun v23 M22 h24 T => ?_)
        refine xcV_V (md' := true) (As := [gI 0, gL v23]) (st := []) d_Rd_typed_120 ca_Cn_emit ml_Rd_59 im_Cn_emit se_Cn_emit gc_Cn (gl_1 hX 2) (gl_2 hX (a := 2) (by decide)) (gl_s hX 2 rfl) rfl (by decide) (by decide) rfl (fun _ => rfl) (fun _ => rfl) T (fun M25 T => ?_)
        refine wp_goto (tgt := 147) d_Rd_typed_123 (by decide) ?_
        exact wp_md (wpt T (And.intro rfl True.intro))
    · have T := T.2 h28
      refine wp_aload_n d_Rd_typed_86 rfl rfl (g_nz (gl_1 hX 14)) ?_
      refine wp_iload_n d_Rd_typed_87 rfl rfl ?_
      refine xcV_V (md' := true) (As := [gI x1]) (st := []) d_Rd_typed_88 ca_Rd_readFormula ml_Rd_48 im_Rd_readFormula se_Rd_readFormula gc_Rd (gl_1 hX 14) (gl_2 hX (a := 14) (by decide)) (gl_s hX 14 rfl) rfl (by decide) (by decide) rfl (fun _ => rfl) (fun _ => rfl) T (fun M27 T => ?_)
      refine wp_goto (tgt := 147) d_Rd_typed_91 (by decide) ?_
      exact wp_md (wpt T (And.intro rfl True.intro))
  · have T := T.2 h29
    refine wp_bipush d_Rd_typed_79 ⟨by decide, by decide⟩ ?_
    exact wp_ireturn d_Rd_typed_81 rfl (fun _ => rfl) (Nat.zero_le _) (Nat.zero_le _) (kI_mk (g32_c (x := (-2)) rfl) T)
set_option maxHeartbeats 4000000 in
theorem w_Rd_typed_147 {l : Launch} {G : gG} {d : Nat} {X : gX} {M : gM} {k : Int → gM → Prop} {c : Nat} (hX : glX X c)   (T : cI l G y_Cn_finish (gRm d) true [gR G (c + 2)] X M (fun v31 M30 => (k v31 M30))) : wp l G y_Rd_typed (gRm (d + 1)) true (kkI X k) true 147 [.val (gR G (c + 14)), .unset, .unset, .unset, .unset] [] X M 0 0 := by
  refine wp_aload_n d_Rd_typed_147 rfl rfl (g_nz (gl_1 hX 14)) ?_
  refine xgetR d_Rd_typed_148 gc_Rd f_Rd_19.1 f_Rd_19.2.1 f_Rd_19.2.2.1 (gl_1 hX 14) (gl_2 hX (a := 14) (by decide)) (gl_s hX 14 rfl) f_Rd_19.2.2.2.2.1 (gl_f hX 16 rfl) ?_
  refine xcV_I (md' := true) (As := []) (st := []) d_Rd_typed_151 ca_Cn_finish ml_Rd_67 im_Cn_finish se_Cn_finish gc_Cn (gl_1 hX 2) (gl_2 hX (a := 2) (by decide)) (gl_s hX 2 rfl) rfl (by decide) (by decide) rfl (fun _ => rfl) (fun _ => rfl) T (fun v31 M30 h32 T => ?_)
  exact wp_ireturn d_Rd_typed_154 rfl (fun _ => rfl) (Nat.zero_le _) (Nat.zero_le _) (kI_mk h32 T)
theorem e_Rd_typed {l : Launch} {G : gG} {d : Nat} {X : gX} {M : gM} {k : Int → gM → Prop} {c : Nat} {x1 : Int} (T : wp l G y_Rd_typed (gRm (d + 1)) true (kkI X k) false 0 [.val (gR G (c + 14)), .val (gI x1), .unset, .unset, .unset] [] X M 0 0) : cI l G y_Rd_typed (gRm (d + 1)) true [gR G (c + 14), gI x1] X M k := cen_I (plainFor_of_name rfl) (by simp only [lg_sl_R, lg_sl_I, lg_sl_L, lg_sl_N, List.length_cons, List.length_nil]; decide) (by unfold gEn; simp only [lg_sl_R, lg_sl_I, lg_sl_L, lg_sl_N]; exact wpt T (And.intro rfl (And.intro rfl True.intro)))
theorem d_Rd_isPrintable_0 : decode prog_8_method_3_code 0 = .ok (.iconst 0, 1) := by decide +kernel
theorem d_Rd_isPrintable_1 : decode prog_8_method_3_code 1 = .ok (.istore_n 2, 1) := by decide +kernel
theorem d_Rd_isPrintable_2 : decode prog_8_method_3_code 2 = .ok (.iload_n 2, 1) := by decide +kernel
theorem d_Rd_isPrintable_3 : decode prog_8_method_3_code 3 = .ok (.iload_n 1, 1) := by decide +kernel
theorem d_Rd_isPrintable_4 : decode prog_8_method_3_code 4 = .ok (.if_icmp .ge 33, 3) := by decide +kernel
theorem d_Rd_isPrintable_37 : decode prog_8_method_3_code 37 = .ok (.iconst 1, 1) := by decide +kernel
theorem d_Rd_isPrintable_38 : decode prog_8_method_3_code 38 = .ok (.ireturn, 1) := by decide +kernel
theorem d_Rd_isPrintable_7 : decode prog_8_method_3_code 7 = .ok (.aload_n 0, 1) := by decide +kernel
theorem d_Rd_isPrintable_8 : decode prog_8_method_3_code 8 = .ok (.getfield 15, 3) := by decide +kernel
theorem d_Rd_isPrintable_11 : decode prog_8_method_3_code 11 = .ok (.iload_n 2, 1) := by decide +kernel
theorem d_Rd_isPrintable_12 : decode prog_8_method_3_code 12 = .ok (.baload, 1) := by decide +kernel
theorem d_Rd_isPrintable_13 : decode prog_8_method_3_code 13 = .ok (.bipush 32, 2) := by decide +kernel
theorem d_Rd_isPrintable_15 : decode prog_8_method_3_code 15 = .ok (.if_icmp .lt 14, 3) := by decide +kernel
theorem d_Rd_isPrintable_29 : decode prog_8_method_3_code 29 = .ok (.iconst 0, 1) := by decide +kernel
theorem d_Rd_isPrintable_30 : decode prog_8_method_3_code 30 = .ok (.ireturn, 1) := by decide +kernel
theorem d_Rd_isPrintable_18 : decode prog_8_method_3_code 18 = .ok (.aload_n 0, 1) := by decide +kernel
theorem d_Rd_isPrintable_19 : decode prog_8_method_3_code 19 = .ok (.getfield 15, 3) := by decide +kernel
theorem d_Rd_isPrintable_22 : decode prog_8_method_3_code 22 = .ok (.iload_n 2, 1) := by decide +kernel
theorem d_Rd_isPrintable_23 : decode prog_8_method_3_code 23 = .ok (.baload, 1) := by decide +kernel
theorem d_Rd_isPrintable_24 : decode prog_8_method_3_code 24 = .ok (.bipush 126, 2) := by decide +kernel
theorem d_Rd_isPrintable_26 : decode prog_8_method_3_code 26 = .ok (.if_icmp .le 5, 3) := by decide +kernel
theorem d_Rd_isPrintable_31 : decode prog_8_method_3_code 31 = .ok (.iinc 2 1, 3) := by decide +kernel
theorem d_Rd_isPrintable_34 : decode prog_8_method_3_code 34 = .ok (.goto (-32), 3) := by decide +kernel
set_option maxHeartbeats 4000000 in
theorem w_Rd_isPrintable_0 {l : Launch} {G : gG} {d : Nat} {X : gX} {M : gM} {k : Int → gM → Prop} {c : Nat} (hX : glX X c) {x1 : Int} (hx1 : g32 x1)  (T : wp l G y_Rd_isPrintable (gRm d) false (kkZ X k) false 2 [.val (gR G (c + 14)), .val (gI x1), .val (gI 0)] [] X M 0 0) : wp l G y_Rd_isPrintable (gRm d) false (kkZ X k) false 0 [.val (gR G (c + 14)), .val (gI x1), .unset] [] X M 0 0 := by
  refine wp_iconst d_Rd_isPrintable_0 ?_
  refine wp_istore_n (L' := [.val (gR G (c + 14)), .val (gI x1), .val (gI 0)]) d_Rd_isPrintable_1 rfl (by decide) rfl ?_
  exact (wpt T (And.intro rfl (And.intro rfl (And.intro rfl True.intro))))
set_option maxHeartbeats 4000000 in
theorem w_Rd_isPrintable_2 {l : Launch} {G : gG} {d : Nat} {X : gX} {M : gM} {k : Int → gM → Prop} {c : Nat} (hX : glX X c) {x1 : Int} (hx1 : g32 x1) {x2 : Int} (hx2 : g32 x2)  (T : (x1 ≤ x2 → (k 1 M)) ∧ (¬ x1 ≤ x2 → (((0 : Int) ≤ x2 ∧ x2 < 240) ∧ ((-128 ≤ M (c + 1) (Int.toNat x2) ∧ M (c + 1) (Int.toNat x2) < 128) → ((M (c + 1) (Int.toNat x2) < 32 → (k 0 M)) ∧ (¬ M (c + 1) (Int.toNat x2) < 32 → (((0 : Int) ≤ x2 ∧ x2 < 240) ∧ ((-128 ≤ M (c + 1) (Int.toNat x2) ∧ M (c + 1) (Int.toNat x2) < 128) → ((M (c + 1) (Int.toNat x2) ≤ 126 → (wp l G y_Rd_isPrintable (gRm d) false (kkZ X k) false 2 [.val (gR G (c + 14)), .val (gI x1), .val (gI (w32 (x2 + 1)))] [] X M 0 0)) ∧ (¬ M (c + 1) (Int.toNat x2) ≤ 126 → (k 0 M))))))))))) : wp l G y_Rd_isPrintable (gRm d) false (kkZ X k) false 2 [.val (gR G (c + 14)), .val (gI x1), .val (gI x2)] [] X M 0 0 := by
  refine wp_iload_n d_Rd_isPrintable_2 rfl rfl ?_
  refine wp_iload_n d_Rd_isPrintable_3 rfl rfl ?_
  refine xi_ge (tgt := 37) d_Rd_isPrintable_4 (by decide) (w32_id hx2) (w32_id hx1) (fun h5 => ?_) (fun h5 => ?_)
  · have T := T.1 h5
    refine wp_iconst d_Rd_isPrintable_37 ?_
    exact wp_zreturn d_Rd_isPrintable_38 rfl (g_narz (⟨by decide, by decide⟩ : (0 : Int) ≤ 1 ∧ (1 : Int) ≤ 1)) id (Nat.zero_le _) (Nat.zero_le _) (kZ_mk (⟨by decide, by decide⟩ : (0 : Int) ≤ 1 ∧ (1 : Int) ≤ 1) T)
  · have T := T.2 h5
    refine wp_aload_n d_Rd_isPrintable_7 rfl rfl (g_nz (gl_1 hX 14)) ?_
    refine xgetR d_Rd_isPrintable_8 gc_Rd f_Rd_15.1 f_Rd_15.2.1 f_Rd_15.2.2.1 (gl_1 hX 14) (gl_2 hX (a := 14) (by decide)) (gl_s hX 14 rfl) f_Rd_15.2.2.2.2.1 (gl_f hX 15 rfl) ?_
    refine wp_iload_n d_Rd_isPrintable_11 rfl rfl ?_
    refine wp_baload d_Rd_isPrintable_12 (gl_1 hX 1) (gl_2 hX (a := 1) (by decide)) (gl_s hX 1 rfl) (g32_n T.1 (by decide)) T.1.1 T.1.2 (fun h1 => ?_)
    have T := T.2 h1
    refine wp_bipush d_Rd_isPrintable_13 ⟨by decide, by decide⟩ ?_
    refine xi_lt (tgt := 29) d_Rd_isPrintable_15 (by decide) (w32_id (g32_b h1)) (w32_id (g32_c (x := 32) rfl)) (fun h4 => ?_) (fun h4 => ?_)
    · have T := T.1 h4
      refine wp_iconst d_Rd_isPrintable_29 ?_
      exact wp_zreturn d_Rd_isPrintable_30 rfl (g_narz (⟨by decide, by decide⟩ : (0 : Int) ≤ 0 ∧ (0 : Int) ≤ 1)) id (Nat.zero_le _) (Nat.zero_le _) (kZ_mk (⟨by decide, by decide⟩ : (0 : Int) ≤ 0 ∧ (0 : Int) ≤ 1) T)
    · have T := T.2 h4
      refine wp_aload_n d_Rd_isPrintable_18 rfl rfl (g_nz (gl_1 hX 14)) ?_
      refine xgetR d_Rd_isPrintable_19 gc_Rd f_Rd_15.1 f_Rd_15.2.1 f_Rd_15.2.2.1 (gl_1 hX 14) (gl_2 hX (a := 14) (by decide)) (gl_s hX 14 rfl) f_Rd_15.2.2.2.2.1 (gl_f hX 15 rfl) ?_
      refine wp_iload_n d_Rd_isPrintable_22 rfl rfl ?_
      refine wp_baload d_Rd_isPrintable_23 (gl_1 hX 1) (gl_2 hX (a := 1) (by decide)) (gl_s hX 1 rfl) (g32_n T.1 (by decide)) T.1.1 T.1.2 (fun h2 => ?_)
      have T := T.2 h2
      refine wp_bipush d_Rd_isPrintable_24 ⟨by decide, by decide⟩ ?_
      refine xi_le (tgt := 31) d_Rd_isPrintable_26 (by decide) (w32_id (g32_b h2)) (w32_id (g32_c (x := 126) rfl)) (fun h3 => ?_) (fun h3 => ?_)
      · have T := T.1 h3
        refine wp_iinc (L' := [.val (gR G (c + 14)), .val (gI x1), .val (gI (x2 + 1))]) d_Rd_isPrintable_31 rfl (by decide) rfl ?_
        refine wp_goto (tgt := 2) d_Rd_isPrintable_34 (by decide) ?_
        exact (wpt T (And.intro rfl (And.intro rfl (And.intro (gI_w _) True.intro))))
      · have T := T.2 h3
        refine wp_iconst d_Rd_isPrintable_29 ?_
        exact wp_zreturn d_Rd_isPrintable_30 rfl (g_narz (⟨by decide, by decide⟩ : (0 : Int) ≤ 0 ∧ (0 : Int) ≤ 1)) id (Nat.zero_le _) (Nat.zero_le _) (kZ_mk (⟨by decide, by decide⟩ : (0 : Int) ≤ 0 ∧ (0 : Int) ≤ 1) T)
theorem e_Rd_isPrintable {l : Launch} {G : gG} {d : Nat} {X : gX} {M : gM} {k : Int → gM → Prop} {c : Nat} {x1 : Int} (T : wp l G y_Rd_isPrintable (gRm d) false (kkZ X k) false 0 [.val (gR G (c + 14)), .val (gI x1), .unset] [] X M 0 0) : cZ l G y_Rd_isPrintable (gRm d) false [gR G (c + 14), gI x1] X M k := cen_Z (plainFor_of_name rfl) (by simp only [lg_sl_R, lg_sl_I, lg_sl_L, lg_sl_N, List.length_cons, List.length_nil]; decide) (by unfold gEn; simp only [lg_sl_R, lg_sl_I, lg_sl_L, lg_sl_N]; exact wpt T (And.intro rfl (And.intro rfl True.intro)))
theorem d_Rd_readFormula_0 : decode prog_8_method_4_code 0 = .ok (.aload_n 0, 1) := by decide +kernel
theorem d_Rd_readFormula_1 : decode prog_8_method_4_code 1 = .ok (.getfield 19, 3) := by decide +kernel
theorem d_Rd_readFormula_4 : decode prog_8_method_4_code 4 = .ok (.iconst 3, 1) := by decide +kernel
theorem d_Rd_readFormula_5 : decode prog_8_method_4_code 5 = .ok (.invokevirtual 52, 3) := by decide +kernel
theorem d_Rd_readFormula_8 : decode prog_8_method_4_code 8 = .ok (.aload_n 0, 1) := by decide +kernel
theorem d_Rd_readFormula_9 : decode prog_8_method_4_code 9 = .ok (.iconst 0, 1) := by decide +kernel
theorem d_Rd_readFormula_10 : decode prog_8_method_4_code 10 = .ok (.putfield 71, 3) := by decide +kernel
theorem d_Rd_readFormula_13 : decode prog_8_method_4_code 13 = .ok (.aload_n 0, 1) := by decide +kernel
theorem d_Rd_readFormula_14 : decode prog_8_method_4_code 14 = .ok (.aload_n 0, 1) := by decide +kernel
theorem d_Rd_readFormula_15 : decode prog_8_method_4_code 15 = .ok (.getfield 28, 3) := by decide +kernel
theorem d_Rd_readFormula_18 : decode prog_8_method_4_code 18 = .ok (.iconst 1, 1) := by decide +kernel
theorem d_Rd_readFormula_19 : decode prog_8_method_4_code 19 = .ok (.iload_n 1, 1) := by decide +kernel
theorem d_Rd_readFormula_20 : decode prog_8_method_4_code 20 = .ok (.invokevirtual 75, 3) := by decide +kernel
theorem d_Rd_readFormula_23 : decode prog_8_method_4_code 23 = .ok (.ifCond .ne 7, 3) := by decide +kernel
theorem d_Rd_readFormula_30 : decode prog_8_method_4_code 30 = .ok (.iconst 0, 1) := by decide +kernel
theorem d_Rd_readFormula_31 : decode prog_8_method_4_code 31 = .ok (.putfield 79, 3) := by decide +kernel
theorem d_Rd_readFormula_34 : decode prog_8_method_4_code 34 = .ok (.aload_n 0, 1) := by decide +kernel
theorem d_Rd_readFormula_35 : decode prog_8_method_4_code 35 = .ok (.getfield 79, 3) := by decide +kernel
theorem d_Rd_readFormula_38 : decode prog_8_method_4_code 38 = .ok (.ifCond .ne 15, 3) := by decide +kernel
theorem d_Rd_readFormula_53 : decode prog_8_method_4_code 53 = .ok (.aload_n 0, 1) := by decide +kernel
theorem d_Rd_readFormula_54 : decode prog_8_method_4_code 54 = .ok (.getfield 79, 3) := by decide +kernel
theorem d_Rd_readFormula_57 : decode prog_8_method_4_code 57 = .ok (.ifCond .eq 10, 3) := by decide +kernel
theorem d_Rd_readFormula_67 : decode prog_8_method_4_code 67 = .ok (.return_, 1) := by decide +kernel
theorem d_Rd_readFormula_60 : decode prog_8_method_4_code 60 = .ok (.aload_n 0, 1) := by decide +kernel
theorem d_Rd_readFormula_61 : decode prog_8_method_4_code 61 = .ok (.getfield 19, 3) := by decide +kernel
theorem d_Rd_readFormula_64 : decode prog_8_method_4_code 64 = .ok (.invokevirtual 90, 3) := by decide +kernel
theorem d_Rd_readFormula_41 : decode prog_8_method_4_code 41 = .ok (.aload_n 0, 1) := by decide +kernel
theorem d_Rd_readFormula_42 : decode prog_8_method_4_code 42 = .ok (.iconst 1, 1) := by decide +kernel
theorem d_Rd_readFormula_43 : decode prog_8_method_4_code 43 = .ok (.iconst 0, 1) := by decide +kernel
theorem d_Rd_readFormula_44 : decode prog_8_method_4_code 44 = .ok (.invokevirtual 83, 3) := by decide +kernel
theorem d_Rd_readFormula_47 : decode prog_8_method_4_code 47 = .ok (.aload_n 0, 1) := by decide +kernel
theorem d_Rd_readFormula_48 : decode prog_8_method_4_code 48 = .ok (.bipush 23, 2) := by decide +kernel
theorem d_Rd_readFormula_50 : decode prog_8_method_4_code 50 = .ok (.invokevirtual 87, 3) := by decide +kernel
theorem d_Rd_readFormula_26 : decode prog_8_method_4_code 26 = .ok (.iconst 1, 1) := by decide +kernel
theorem d_Rd_readFormula_27 : decode prog_8_method_4_code 27 = .ok (.goto 4, 3) := by decide +kernel
set_option maxHeartbeats 4000000 in
theorem w_Rd_readFormula_0 {l : Launch} {G : gG} {d : Nat} {X : gX} {M : gM} {k : gM → Prop} {c : Nat} (hX : glX X c) {x1 : Int} (hx1 : g32 x1)  (T : cV l G y_Cn_begin (gRm d) true [gR G (c + 2), gI 3] X M (fun M1 => (cZ l G y_Tk_cut (gRm d) true [gR G (c + 16), gI 1, gI x1] X (gUp M1 (c + 14) 4 0) (fun v3 M2 => ((¬ v3 = 0 → ((0 ≤ (gUp M2 (c + 14) 5 0) (c + 14) 5 ∧ (gUp M2 (c + 14) 5 0) (c + 14) 5 ≤ 1) → ((¬ (gUp M2 (c + 14) 5 0) (c + 14) 5 = 0 → ((0 ≤ (gUp M2 (c + 14) 5 0) (c + 14) 5 ∧ (gUp M2 (c + 14) 5 0) (c + 14) 5 ≤ 1) → (((gUp M2 (c + 14) 5 0) (c + 14) 5 = 0 → (k (gUp M2 (c + 14) 5 0))) ∧ (¬ (gUp M2 (c + 14) 5 0) (c + 14) 5 = 0 → (cV l G y_Cn_becomeSyntaxError (gRm d) true [gR G (c + 2)] X (gUp M2 (c + 14) 5 0) (fun M7 => (k M7))))))) ∧ ((gUp M2 (c + 14) 5 0) (c + 14) 5 = 0 → (cV l G y_Rd_readExpression (gRm d) true [gR G (c + 14), gI 1, gI 0] X (gUp M2 (c + 14) 5 0) (fun M9 => (cV l G y_Rd_expect (gRm d) true [gR G (c + 14), gI 23] X M9 (fun M10 => ((0 ≤ M10 (c + 14) 5 ∧ M10 (c + 14) 5 ≤ 1) → ((M10 (c + 14) 5 = 0 → (k M10)) ∧ (¬ M10 (c + 14) 5 = 0 → (cV l G y_Cn_becomeSyntaxError (gRm d) true [gR G (c + 2)] X M10 (fun M12 => (k M12)))))))))))))) ∧ (v3 = 0 → ((0 ≤ (gUp M2 (c + 14) 5 1) (c + 14) 5 ∧ (gUp M2 (c + 14) 5 1) (c + 14) 5 ≤ 1) → ((¬ (gUp M2 (c + 14) 5 1) (c + 14) 5 = 0 → ((0 ≤ (gUp M2 (c + 14) 5 1) (c + 14) 5 ∧ (gUp M2 (c + 14) 5 1) (c + 14) 5 ≤ 1) → (((gUp M2 (c + 14) 5 1) (c + 14) 5 = 0 → (k (gUp M2 (c + 14) 5 1))) ∧ (¬ (gUp M2 (c + 14) 5 1) (c + 14) 5 = 0 → (cV l G y_Cn_becomeSyntaxError (gRm d) true [gR G (c + 2)] X (gUp M2 (c + 14) 5 1) (fun M17 => (k M17))))))) ∧ ((gUp M2 (c + 14) 5 1) (c + 14) 5 = 0 → (cV l G y_Rd_readExpression (gRm d) true [gR G (c + 14), gI 1, gI 0] X (gUp M2 (c + 14) 5 1) (fun M19 => (cV l G y_Rd_expect (gRm d) true [gR G (c + 14), gI 23] X M19 (fun M20 => ((0 ≤ M20 (c + 14) 5 ∧ M20 (c + 14) 5 ≤ 1) → ((M20 (c + 14) 5 = 0 → (k M20)) ∧ (¬ M20 (c + 14) 5 = 0 → (cV l G y_Cn_becomeSyntaxError (gRm d) true [gR G (c + 2)] X M20 (fun M22 => (k M22))))))))))))))))))) : wp l G y_Rd_readFormula (gRm (d + 1)) true (kkV X k) false 0 [.val (gR G (c + 14)), .val (gI x1)] [] X M 0 0 := by
  refine wp_aload_n d_Rd_readFormula_0 rfl rfl (g_nz (gl_1 hX 14)) ?_
  refine xgetR d_Rd_readFormula_1 gc_Rd f_Rd_19.1 f_Rd_19.2.1 f_Rd_19.2.2.1 (gl_1 hX 14) (gl_2 hX (a := 14) (by decide)) (gl_s hX 14 rfl) f_Rd_19.2.2.2.2.1 (gl_f hX 16 rfl) ?_
  refine wp_iconst d_Rd_readFormula_4 ?_
  refine xcV_V (md' := true) (As := [gI 3]) (st := []) d_Rd_readFormula_5 ca_Cn_begin ml_Rd_52 im_Cn_begin se_Cn_begin gc_Cn (gl_1 hX 2) (gl_2 hX (a := 2) (by decide)) (gl_s hX 2 rfl) rfl (by decide) (by decide) rfl (fun _ => rfl) (fun _ => rfl) T (fun M1 T => ?_)
  refine wp_aload_n d_Rd_readFormula_8 rfl rfl (g_nz (gl_1 hX 14)) ?_
  refine wp_iconst d_Rd_readFormula_9 ?_
  refine xputI d_Rd_readFormula_10 gc_Rd f_Rd_71.1 f_Rd_71.2.1 f_Rd_71.2.2.1 (gl_1 hX 14) (gl_2 hX (a := 14) (by decide)) (gl_s hX 14 rfl) f_Rd_71.2.2.2.1 f_Rd_71.2.2.2.2.1 f_Rd_71.2.2.2.2.2 (w32_id (g32_c (x := 0) rfl)) ?_
  refine wp_aload_n d_Rd_readFormula_13 rfl rfl (g_nz (gl_1 hX 14)) ?_
  refine wp_aload_n d_Rd_readFormula_14 rfl rfl (g_nz (gl_1 hX 14)) ?_
  refine xgetR d_Rd_readFormula_15 gc_Rd f_Rd_28.1 f_Rd_28.2.1 f_Rd_28.2.2.1 (gl_1 hX 14) (gl_2 hX (a := 14) (by decide)) (gl_s hX 14 rfl) f_Rd_28.2.2.2.2.1 (gl_f hX 17 rfl) ?_
  refine wp_iconst d_Rd_readFormula_18 ?_
  refine wp_iload_n d_Rd_readFormula_19 rfl rfl ?_
  refine xcV_Z (md' := true) (As := [gI 1, gI x1]) (st := [gR G (c + 14)]) d_Rd_readFormula_20 ca_Tk_cut ml_Rd_75 im_Tk_cut se_Tk_cut gc_Tk (gl_1 hX 16) (gl_2 hX (a := 16) (by decide)) (gl_s hX 16 rfl) rfl (by decide) (by simp only [List.map, gR_cat, gI_cat, gL_cat, List.sum_cons, List.sum_nil]; decide) rfl (fun _ => rfl) (fun _ => rfl) T (fun v3 M2 h4 T => ?_)
  refine xz_ne (tgt := 30) d_Rd_readFormula_23 (by decide) (w32_id (g32_z h4)) (fun h25 => ?_) (fun h25 => ?_)
  · have T := T.1 h25
    refine wp_iconst d_Rd_readFormula_30 ?_
    refine xputZ d_Rd_readFormula_31 gc_Rd f_Rd_79.1 f_Rd_79.2.1 f_Rd_79.2.2.1 (gl_1 hX 14) (gl_2 hX (a := 14) (by decide)) (gl_s hX 14 rfl) f_Rd_79.2.2.2.1 f_Rd_79.2.2.2.2.1 f_Rd_79.2.2.2.2.2 (⟨by decide, by decide⟩ : (0 : Int) ≤ 0 ∧ (0 : Int) ≤ 1) ?_
    refine wp_aload_n d_Rd_readFormula_34 rfl rfl (g_nz (gl_1 hX 14)) ?_
    refine xgetZ d_Rd_readFormula_35 gc_Rd f_Rd_79.1 f_Rd_79.2.1 f_Rd_79.2.2.1 (gl_1 hX 14) (gl_2 hX (a := 14) (by decide)) (gl_s hX 14 rfl) f_Rd_79.2.2.2.2.1 (fun h5 => ?_)
    have T := T h5
    refine xz_ne (tgt := 53) d_Rd_readFormula_38 (by decide) (w32_id (g32_z h5)) (fun h14 => ?_) (fun h14 => ?_)
    · have T := T.1 h14
      refine wp_aload_n d_Rd_readFormula_53 rfl rfl (g_nz (gl_1 hX 14)) ?_
      refine xgetZ d_Rd_readFormula_54 gc_Rd f_Rd_79.1 f_Rd_79.2.1 f_Rd_79.2.2.1 (gl_1 hX 14) (gl_2 hX (a := 14) (by decide)) (gl_s hX 14 rfl) f_Rd_79.2.2.2.2.1 (fun h6 => ?_)
      have T := T h6
      refine xz_eq (tgt := 67) d_Rd_readFormula_57 (by decide) (w32_id (g32_z h6)) (fun h8 => ?_) (fun h8 => ?_)
      · have T := T.1 h8
        exact wp_return d_Rd_readFormula_67 rfl (fun _ => rfl) (Nat.zero_le _) (Nat.zero_le _) (kV_mk T)
      · have T := T.2 h8
        refine wp_aload_n d_Rd_readFormula_60 rfl rfl (g_nz (gl_1 hX 14)) ?_
        refine xgetR d_Rd_readFormula_61 gc_Rd f_Rd_19.1 f_Rd_19.2.1 f_Rd_19.2.2.1 (gl_1 hX 14) (gl_2 hX (a := 14) (by decide)) (gl_s hX 14 rfl) f_Rd_19.2.2.2.2.1 (gl_f hX 16 rfl) ?_
        refine xcV_V (md' := true) (As := []) (st := []) d_Rd_readFormula_64 ca_Cn_becomeSyntaxError ml_Rd_90 im_Cn_becomeSyntaxError se_Cn_becomeSyntaxError gc_Cn (gl_1 hX 2) (gl_2 hX (a := 2) (by decide)) (gl_s hX 2 rfl) rfl (by decide) (by decide) rfl (fun _ => rfl) (fun _ => rfl) T (fun M7 T => ?_)
        exact wp_return d_Rd_readFormula_67 rfl (fun _ => rfl) (Nat.zero_le _) (Nat.zero_le _) (kV_mk T)
    · have T := T.2 h14
      refine wp_aload_n d_Rd_readFormula_41 rfl rfl (g_nz (gl_1 hX 14)) ?_
      refine wp_iconst d_Rd_readFormula_42 ?_
      refine wp_iconst d_Rd_readFormula_43 ?_
      refine xcV_V (md' := true) (As := [gI 1, gI 0]) (st := []) d_Rd_readFormula_44 ca_Rd_readExpression ml_Rd_83 im_Rd_readExpression se_Rd_readExpression gc_Rd (gl_1 hX 14) (gl_2 hX (a := 14) (by decide)) (gl_s hX 14 rfl) rfl (by decide) (by decide) rfl (fun _ => rfl) (fun _ => rfl) T (fun M9 T => ?_)
      refine wp_aload_n d_Rd_readFormula_47 rfl rfl (g_nz (gl_1 hX 14)) ?_
      refine wp_bipush d_Rd_readFormula_48 ⟨by decide, by decide⟩ ?_
      refine xcV_V (md' := true) (As := [gI 23]) (st := []) d_Rd_readFormula_50 ca_Rd_expect ml_Rd_87 im_Rd_expect se_Rd_expect gc_Rd (gl_1 hX 14) (gl_2 hX (a := 14) (by decide)) (gl_s hX 14 rfl) rfl (by decide) (by decide) rfl (fun _ => rfl) (fun _ => rfl) T (fun M10 T => ?_)
      refine wp_aload_n d_Rd_readFormula_53 rfl rfl (g_nz (gl_1 hX 14)) ?_
      refine xgetZ d_Rd_readFormula_54 gc_Rd f_Rd_79.1 f_Rd_79.2.1 f_Rd_79.2.2.1 (gl_1 hX 14) (gl_2 hX (a := 14) (by decide)) (gl_s hX 14 rfl) f_Rd_79.2.2.2.2.1 (fun h11 => ?_)
      have T := T h11
      refine xz_eq (tgt := 67) d_Rd_readFormula_57 (by decide) (w32_id (g32_z h11)) (fun h13 => ?_) (fun h13 => ?_)
      · have T := T.1 h13
        exact wp_return d_Rd_readFormula_67 rfl (fun _ => rfl) (Nat.zero_le _) (Nat.zero_le _) (kV_mk T)
      · have T := T.2 h13
        refine wp_aload_n d_Rd_readFormula_60 rfl rfl (g_nz (gl_1 hX 14)) ?_
        refine xgetR d_Rd_readFormula_61 gc_Rd f_Rd_19.1 f_Rd_19.2.1 f_Rd_19.2.2.1 (gl_1 hX 14) (gl_2 hX (a := 14) (by decide)) (gl_s hX 14 rfl) f_Rd_19.2.2.2.2.1 (gl_f hX 16 rfl) ?_
        refine xcV_V (md' := true) (As := []) (st := []) d_Rd_readFormula_64 ca_Cn_becomeSyntaxError ml_Rd_90 im_Cn_becomeSyntaxError se_Cn_becomeSyntaxError gc_Cn (gl_1 hX 2) (gl_2 hX (a := 2) (by decide)) (gl_s hX 2 rfl) rfl (by decide) (by decide) rfl (fun _ => rfl) (fun _ => rfl) T (fun M12 T => ?_)
        exact wp_return d_Rd_readFormula_67 rfl (fun _ => rfl) (Nat.zero_le _) (Nat.zero_le _) (kV_mk T)
  · have T := T.2 h25
    refine wp_iconst d_Rd_readFormula_26 ?_
    refine wp_goto (tgt := 31) d_Rd_readFormula_27 (by decide) ?_
    refine xputZ d_Rd_readFormula_31 gc_Rd f_Rd_79.1 f_Rd_79.2.1 f_Rd_79.2.2.1 (gl_1 hX 14) (gl_2 hX (a := 14) (by decide)) (gl_s hX 14 rfl) f_Rd_79.2.2.2.1 f_Rd_79.2.2.2.2.1 f_Rd_79.2.2.2.2.2 (⟨by decide, by decide⟩ : (0 : Int) ≤ 1 ∧ (1 : Int) ≤ 1) ?_
    refine wp_aload_n d_Rd_readFormula_34 rfl rfl (g_nz (gl_1 hX 14)) ?_
    refine xgetZ d_Rd_readFormula_35 gc_Rd f_Rd_79.1 f_Rd_79.2.1 f_Rd_79.2.2.1 (gl_1 hX 14) (gl_2 hX (a := 14) (by decide)) (gl_s hX 14 rfl) f_Rd_79.2.2.2.2.1 (fun h15 => ?_)
    have T := T h15
    refine xz_ne (tgt := 53) d_Rd_readFormula_38 (by decide) (w32_id (g32_z h15)) (fun h24 => ?_) (fun h24 => ?_)
    · have T := T.1 h24
      refine wp_aload_n d_Rd_readFormula_53 rfl rfl (g_nz (gl_1 hX 14)) ?_
      refine xgetZ d_Rd_readFormula_54 gc_Rd f_Rd_79.1 f_Rd_79.2.1 f_Rd_79.2.2.1 (gl_1 hX 14) (gl_2 hX (a := 14) (by decide)) (gl_s hX 14 rfl) f_Rd_79.2.2.2.2.1 (fun h16 => ?_)
      have T := T h16
      refine xz_eq (tgt := 67) d_Rd_readFormula_57 (by decide) (w32_id (g32_z h16)) (fun h18 => ?_) (fun h18 => ?_)
      · have T := T.1 h18
        exact wp_return d_Rd_readFormula_67 rfl (fun _ => rfl) (Nat.zero_le _) (Nat.zero_le _) (kV_mk T)
      · have T := T.2 h18
        refine wp_aload_n d_Rd_readFormula_60 rfl rfl (g_nz (gl_1 hX 14)) ?_
        refine xgetR d_Rd_readFormula_61 gc_Rd f_Rd_19.1 f_Rd_19.2.1 f_Rd_19.2.2.1 (gl_1 hX 14) (gl_2 hX (a := 14) (by decide)) (gl_s hX 14 rfl) f_Rd_19.2.2.2.2.1 (gl_f hX 16 rfl) ?_
        refine xcV_V (md' := true) (As := []) (st := []) d_Rd_readFormula_64 ca_Cn_becomeSyntaxError ml_Rd_90 im_Cn_becomeSyntaxError se_Cn_becomeSyntaxError gc_Cn (gl_1 hX 2) (gl_2 hX (a := 2) (by decide)) (gl_s hX 2 rfl) rfl (by decide) (by decide) rfl (fun _ => rfl) (fun _ => rfl) T (fun M17 T => ?_)
        exact wp_return d_Rd_readFormula_67 rfl (fun _ => rfl) (Nat.zero_le _) (Nat.zero_le _) (kV_mk T)
    · have T := T.2 h24
      refine wp_aload_n d_Rd_readFormula_41 rfl rfl (g_nz (gl_1 hX 14)) ?_
      refine wp_iconst d_Rd_readFormula_42 ?_
      refine wp_iconst d_Rd_readFormula_43 ?_
      refine xcV_V (md' := true) (As := [gI 1, gI 0]) (st := []) d_Rd_readFormula_44 ca_Rd_readExpression ml_Rd_83 im_Rd_readExpression se_Rd_readExpression gc_Rd (gl_1 hX 14) (gl_2 hX (a := 14) (by decide)) (gl_s hX 14 rfl) rfl (by decide) (by decide) rfl (fun _ => rfl) (fun _ => rfl) T (fun M19 T => ?_)
      refine wp_aload_n d_Rd_readFormula_47 rfl rfl (g_nz (gl_1 hX 14)) ?_
      refine wp_bipush d_Rd_readFormula_48 ⟨by decide, by decide⟩ ?_
      refine xcV_V (md' := true) (As := [gI 23]) (st := []) d_Rd_readFormula_50 ca_Rd_expect ml_Rd_87 im_Rd_expect se_Rd_expect gc_Rd (gl_1 hX 14) (gl_2 hX (a := 14) (by decide)) (gl_s hX 14 rfl) rfl (by decide) (by decide) rfl (fun _ => rfl) (fun _ => rfl) T (fun M20 T => ?_)
      refine wp_aload_n d_Rd_readFormula_53 rfl rfl (g_nz (gl_1 hX 14)) ?_
      refine xgetZ d_Rd_readFormula_54 gc_Rd f_Rd_79.1 f_Rd_79.2.1 f_Rd_79.2.2.1 (gl_1 hX 14) (gl_2 hX (a := 14) (by decide)) (gl_s hX 14 rfl) f_Rd_79.2.2.2.2.1 (fun h21 => ?_)
      have T := T h21
      refine xz_eq (tgt := 67) d_Rd_readFormula_57 (by decide) (w32_id (g32_z h21)) (fun h23 => ?_) (fun h23 => ?_)
      · have T := T.1 h23
        exact wp_return d_Rd_readFormula_67 rfl (fun _ => rfl) (Nat.zero_le _) (Nat.zero_le _) (kV_mk T)
      · have T := T.2 h23
        refine wp_aload_n d_Rd_readFormula_60 rfl rfl (g_nz (gl_1 hX 14)) ?_
        refine xgetR d_Rd_readFormula_61 gc_Rd f_Rd_19.1 f_Rd_19.2.1 f_Rd_19.2.2.1 (gl_1 hX 14) (gl_2 hX (a := 14) (by decide)) (gl_s hX 14 rfl) f_Rd_19.2.2.2.2.1 (gl_f hX 16 rfl) ?_
        refine xcV_V (md' := true) (As := []) (st := []) d_Rd_readFormula_64 ca_Cn_becomeSyntaxError ml_Rd_90 im_Cn_becomeSyntaxError se_Cn_becomeSyntaxError gc_Cn (gl_1 hX 2) (gl_2 hX (a := 2) (by decide)) (gl_s hX 2 rfl) rfl (by decide) (by decide) rfl (fun _ => rfl) (fun _ => rfl) T (fun M22 T => ?_)
        exact wp_return d_Rd_readFormula_67 rfl (fun _ => rfl) (Nat.zero_le _) (Nat.zero_le _) (kV_mk T)
theorem e_Rd_readFormula {l : Launch} {G : gG} {d : Nat} {X : gX} {M : gM} {k : gM → Prop} {c : Nat} {x1 : Int} (T : wp l G y_Rd_readFormula (gRm (d + 1)) true (kkV X k) false 0 [.val (gR G (c + 14)), .val (gI x1)] [] X M 0 0) : cV l G y_Rd_readFormula (gRm (d + 1)) true [gR G (c + 14), gI x1] X M k := cen_V (plainFor_of_name rfl) (by simp only [lg_sl_R, lg_sl_I, lg_sl_L, lg_sl_N, List.length_cons, List.length_nil]; decide) (by unfold gEn; simp only [lg_sl_R, lg_sl_I, lg_sl_L, lg_sl_N]; exact wpt T (And.intro rfl (And.intro rfl True.intro)))
theorem d_Rd_expect_0 : decode prog_8_method_5_code 0 = .ok (.aload_n 0, 1) := by decide +kernel
theorem d_Rd_expect_1 : decode prog_8_method_5_code 1 = .ok (.getfield 79, 3) := by decide +kernel
theorem d_Rd_expect_4 : decode prog_8_method_5_code 4 = .ok (.ifCond .ne 32, 3) := by decide +kernel
theorem d_Rd_expect_36 : decode prog_8_method_5_code 36 = .ok (.aload_n 0, 1) := by decide +kernel
theorem d_Rd_expect_37 : decode prog_8_method_5_code 37 = .ok (.iconst 1, 1) := by decide +kernel
theorem d_Rd_expect_38 : decode prog_8_method_5_code 38 = .ok (.putfield 79, 3) := by decide +kernel
theorem d_Rd_expect_41 : decode prog_8_method_5_code 41 = .ok (.return_, 1) := by decide +kernel
theorem d_Rd_expect_7 : decode prog_8_method_5_code 7 = .ok (.aload_n 0, 1) := by decide +kernel
theorem d_Rd_expect_8 : decode prog_8_method_5_code 8 = .ok (.getfield 28, 3) := by decide +kernel
theorem d_Rd_expect_11 : decode prog_8_method_5_code 11 = .ok (.getfield 93, 3) := by decide +kernel
theorem d_Rd_expect_14 : decode prog_8_method_5_code 14 = .ok (.aload_n 0, 1) := by decide +kernel
theorem d_Rd_expect_15 : decode prog_8_method_5_code 15 = .ok (.getfield 71, 3) := by decide +kernel
theorem d_Rd_expect_18 : decode prog_8_method_5_code 18 = .ok (.iaload, 1) := by decide +kernel
theorem d_Rd_expect_19 : decode prog_8_method_5_code 19 = .ok (.iload_n 1, 1) := by decide +kernel
theorem d_Rd_expect_20 : decode prog_8_method_5_code 20 = .ok (.if_icmp .ne 16, 3) := by decide +kernel
theorem d_Rd_expect_23 : decode prog_8_method_5_code 23 = .ok (.aload_n 0, 1) := by decide +kernel
theorem d_Rd_expect_24 : decode prog_8_method_5_code 24 = .ok (.dup, 1) := by decide +kernel
theorem d_Rd_expect_25 : decode prog_8_method_5_code 25 = .ok (.getfield 71, 3) := by decide +kernel
theorem d_Rd_expect_28 : decode prog_8_method_5_code 28 = .ok (.iconst 1, 1) := by decide +kernel
theorem d_Rd_expect_29 : decode prog_8_method_5_code 29 = .ok (.iadd, 1) := by decide +kernel
theorem d_Rd_expect_30 : decode prog_8_method_5_code 30 = .ok (.putfield 71, 3) := by decide +kernel
theorem d_Rd_expect_33 : decode prog_8_method_5_code 33 = .ok (.goto 8, 3) := by decide +kernel
set_option maxHeartbeats 4000000 in
theorem w_Rd_expect_0 {l : Launch} {G : gG} {d : Nat} {X : gX} {M : gM} {k : gM → Prop} {c : Nat} (hX : glX X c) {x1 : Int} (hx1 : g32 x1)  (T : (0 ≤ M (c + 14) 5 ∧ M (c + 14) 5 ≤ 1) → ((¬ M (c + 14) 5 = 0 → (k (gUp M (c + 14) 5 1))) ∧ (M (c + 14) 5 = 0 → (g32 (M (c + 14) 4) → (((0 : Int) ≤ M (c + 14) 4 ∧ M (c + 14) 4 < 104) ∧ (g32 (M (c + 17) (Int.toNat (M (c + 14) 4))) → ((¬ M (c + 17) (Int.toNat (M (c + 14) 4)) = x1 → (k (gUp M (c + 14) 5 1))) ∧ (M (c + 17) (Int.toNat (M (c + 14) 4)) = x1 → (g32 (M (c + 14) 4) → (k (gUp M (c + 14) 4 (w32 ((M (c + 14) 4) + 1))))))))))))) : wp l G y_Rd_expect (gRm d) true (kkV X k) false 0 [.val (gR G (c + 14)), .val (gI x1)] [] X M 0 0 := by
  refine wp_aload_n d_Rd_expect_0 rfl rfl (g_nz (gl_1 hX 14)) ?_
  refine xgetZ d_Rd_expect_1 gc_Rd f_Rd_79.1 f_Rd_79.2.1 f_Rd_79.2.2.1 (gl_1 hX 14) (gl_2 hX (a := 14) (by decide)) (gl_s hX 14 rfl) f_Rd_79.2.2.2.2.1 (fun h1 => ?_)
  have T := T h1
  refine xz_ne (tgt := 36) d_Rd_expect_4 (by decide) (w32_id (g32_z h1)) (fun h6 => ?_) (fun h6 => ?_)
  · have T := T.1 h6
    refine wp_aload_n d_Rd_expect_36 rfl rfl (g_nz (gl_1 hX 14)) ?_
    refine wp_iconst d_Rd_expect_37 ?_
    refine xputZ d_Rd_expect_38 gc_Rd f_Rd_79.1 f_Rd_79.2.1 f_Rd_79.2.2.1 (gl_1 hX 14) (gl_2 hX (a := 14) (by decide)) (gl_s hX 14 rfl) f_Rd_79.2.2.2.1 f_Rd_79.2.2.2.2.1 f_Rd_79.2.2.2.2.2 (⟨by decide, by decide⟩ : (0 : Int) ≤ 1 ∧ (1 : Int) ≤ 1) ?_
    exact wp_return d_Rd_expect_41 rfl (fun _ => rfl) (Nat.zero_le _) (Nat.zero_le _) (kV_mk T)
  · have T := T.2 h6
    refine wp_aload_n d_Rd_expect_7 rfl rfl (g_nz (gl_1 hX 14)) ?_
    refine xgetR d_Rd_expect_8 gc_Rd f_Rd_28.1 f_Rd_28.2.1 f_Rd_28.2.2.1 (gl_1 hX 14) (gl_2 hX (a := 14) (by decide)) (gl_s hX 14 rfl) f_Rd_28.2.2.2.2.1 (gl_f hX 17 rfl) ?_
    refine xgetR d_Rd_expect_11 gc_Tk f_Rd_93.1 f_Rd_93.2.1 f_Rd_93.2.2.1 (gl_1 hX 16) (gl_2 hX (a := 16) (by decide)) (gl_s hX 16 rfl) f_Rd_93.2.2.2.2.1 (gl_f hX 18 rfl) ?_
    refine wp_aload_n d_Rd_expect_14 rfl rfl (g_nz (gl_1 hX 14)) ?_
    refine xgetI d_Rd_expect_15 gc_Rd f_Rd_71.1 f_Rd_71.2.1 f_Rd_71.2.2.1 (gl_1 hX 14) (gl_2 hX (a := 14) (by decide)) (gl_s hX 14 rfl) f_Rd_71.2.2.2.2.1 (fun h2 => ?_)
    have T := T h2
    refine wp_iaload d_Rd_expect_18 (gl_1 hX 17) (gl_2 hX (a := 17) (by decide)) (gl_s hX 17 rfl) (g32_n T.1 (by decide)) T.1.1 T.1.2 (fun h3 => ?_)
    have T := T.2 h3
    refine wp_iload_n d_Rd_expect_19 rfl rfl ?_
    refine xi_ne (tgt := 36) d_Rd_expect_20 (by decide) (w32_id h3) (w32_id hx1) (fun h5 => ?_) (fun h5 => ?_)
    · have T := T.1 h5
      refine wp_aload_n d_Rd_expect_36 rfl rfl (g_nz (gl_1 hX 14)) ?_
      refine wp_iconst d_Rd_expect_37 ?_
      refine xputZ d_Rd_expect_38 gc_Rd f_Rd_79.1 f_Rd_79.2.1 f_Rd_79.2.2.1 (gl_1 hX 14) (gl_2 hX (a := 14) (by decide)) (gl_s hX 14 rfl) f_Rd_79.2.2.2.1 f_Rd_79.2.2.2.2.1 f_Rd_79.2.2.2.2.2 (⟨by decide, by decide⟩ : (0 : Int) ≤ 1 ∧ (1 : Int) ≤ 1) ?_
      exact wp_return d_Rd_expect_41 rfl (fun _ => rfl) (Nat.zero_le _) (Nat.zero_le _) (kV_mk T)
    · have T := T.2 h5
      refine wp_aload_n d_Rd_expect_23 rfl rfl (g_nz (gl_1 hX 14)) ?_
      refine wp_dup d_Rd_expect_24 (gR_cat _) ?_
      refine xgetI d_Rd_expect_25 gc_Rd f_Rd_71.1 f_Rd_71.2.1 f_Rd_71.2.2.1 (gl_1 hX 14) (gl_2 hX (a := 14) (by decide)) (gl_s hX 14 rfl) f_Rd_71.2.2.2.2.1 (fun h4 => ?_)
      have T := T h4
      refine wp_iconst d_Rd_expect_28 ?_
      refine wp_iadd d_Rd_expect_29 ?_
      refine xputI d_Rd_expect_30 gc_Rd f_Rd_71.1 f_Rd_71.2.1 f_Rd_71.2.2.1 (gl_1 hX 14) (gl_2 hX (a := 14) (by decide)) (gl_s hX 14 rfl) f_Rd_71.2.2.2.1 f_Rd_71.2.2.2.2.1 f_Rd_71.2.2.2.2.2 rfl ?_
      refine wp_goto (tgt := 41) d_Rd_expect_33 (by decide) ?_
      exact wp_return d_Rd_expect_41 rfl (fun _ => rfl) (Nat.zero_le _) (Nat.zero_le _) (kV_mk T)
theorem e_Rd_expect {l : Launch} {G : gG} {d : Nat} {X : gX} {M : gM} {k : gM → Prop} {c : Nat} {x1 : Int} (T : wp l G y_Rd_expect (gRm d) true (kkV X k) false 0 [.val (gR G (c + 14)), .val (gI x1)] [] X M 0 0) : cV l G y_Rd_expect (gRm d) true [gR G (c + 14), gI x1] X M k := cen_V (plainFor_of_name rfl) (by simp only [lg_sl_R, lg_sl_I, lg_sl_L, lg_sl_N, List.length_cons, List.length_nil]; decide) (by unfold gEn; simp only [lg_sl_R, lg_sl_I, lg_sl_L, lg_sl_N]; exact wpt T (And.intro rfl (And.intro rfl True.intro)))
theorem d_Rd_readOperand_0 : decode prog_8_method_7_code 0 = .ok (.iload_n 1, 1) := by decide +kernel
theorem d_Rd_readOperand_1 : decode prog_8_method_7_code 1 = .ok (.bipush 20, 2) := by decide +kernel
theorem d_Rd_readOperand_3 : decode prog_8_method_7_code 3 = .ok (.if_icmp .le 9, 3) := by decide +kernel
theorem d_Rd_readOperand_12 : decode prog_8_method_7_code 12 = .ok (.aload_n 0, 1) := by decide +kernel
theorem d_Rd_readOperand_13 : decode prog_8_method_7_code 13 = .ok (.getfield 28, 3) := by decide +kernel
theorem d_Rd_readOperand_16 : decode prog_8_method_7_code 16 = .ok (.getfield 93, 3) := by decide +kernel
theorem d_Rd_readOperand_19 : decode prog_8_method_7_code 19 = .ok (.aload_n 0, 1) := by decide +kernel
theorem d_Rd_readOperand_20 : decode prog_8_method_7_code 20 = .ok (.getfield 71, 3) := by decide +kernel
theorem d_Rd_readOperand_23 : decode prog_8_method_7_code 23 = .ok (.iaload, 1) := by decide +kernel
theorem d_Rd_readOperand_24 : decode prog_8_method_7_code 24 = .ok (.bipush 8, 2) := by decide +kernel
theorem d_Rd_readOperand_26 : decode prog_8_method_7_code 26 = .ok (.if_icmp .ne 33, 3) := by decide +kernel
theorem d_Rd_readOperand_59 : decode prog_8_method_7_code 59 = .ok (.aload_n 0, 1) := by decide +kernel
theorem d_Rd_readOperand_60 : decode prog_8_method_7_code 60 = .ok (.iload_n 1, 1) := by decide +kernel
theorem d_Rd_readOperand_61 : decode prog_8_method_7_code 61 = .ok (.invokevirtual 104, 3) := by decide +kernel
theorem d_Rd_readOperand_64 : decode prog_8_method_7_code 64 = .ok (.bipush 100, 2) := by decide +kernel
theorem d_Rd_readOperand_66 : decode prog_8_method_7_code 66 = .ok (.istore_n 2, 1) := by decide +kernel
theorem d_Rd_readOperand_29 : decode prog_8_method_7_code 29 = .ok (.aload_n 0, 1) := by decide +kernel
theorem d_Rd_readOperand_30 : decode prog_8_method_7_code 30 = .ok (.dup, 1) := by decide +kernel
theorem d_Rd_readOperand_31 : decode prog_8_method_7_code 31 = .ok (.getfield 71, 3) := by decide +kernel
theorem d_Rd_readOperand_34 : decode prog_8_method_7_code 34 = .ok (.iconst 1, 1) := by decide +kernel
theorem d_Rd_readOperand_35 : decode prog_8_method_7_code 35 = .ok (.iadd, 1) := by decide +kernel
theorem d_Rd_readOperand_36 : decode prog_8_method_7_code 36 = .ok (.putfield 71, 3) := by decide +kernel
theorem d_Rd_readOperand_39 : decode prog_8_method_7_code 39 = .ok (.aload_n 0, 1) := by decide +kernel
theorem d_Rd_readOperand_40 : decode prog_8_method_7_code 40 = .ok (.iload_n 1, 1) := by decide +kernel
theorem d_Rd_readOperand_41 : decode prog_8_method_7_code 41 = .ok (.iconst 1, 1) := by decide +kernel
theorem d_Rd_readOperand_42 : decode prog_8_method_7_code 42 = .ok (.iadd, 1) := by decide +kernel
theorem d_Rd_readOperand_43 : decode prog_8_method_7_code 43 = .ok (.invokevirtual 96, 3) := by decide +kernel
theorem d_Rd_readOperand_46 : decode prog_8_method_7_code 46 = .ok (.aload_n 0, 1) := by decide +kernel
theorem d_Rd_readOperand_47 : decode prog_8_method_7_code 47 = .ok (.getfield 19, 3) := by decide +kernel
theorem d_Rd_readOperand_50 : decode prog_8_method_7_code 50 = .ok (.bipush 11, 2) := by decide +kernel
theorem d_Rd_readOperand_52 : decode prog_8_method_7_code 52 = .ok (.ldc2_w 102, 3) := by decide +kernel
theorem d_Rd_readOperand_55 : decode prog_8_method_7_code 55 = .ok (.invokevirtual 59, 3) := by decide +kernel
theorem d_Rd_readOperand_58 : decode prog_8_method_7_code 58 = .ok (.return_, 1) := by decide +kernel
theorem d_Rd_readOperand_6 : decode prog_8_method_7_code 6 = .ok (.aload_n 0, 1) := by decide +kernel
theorem d_Rd_readOperand_7 : decode prog_8_method_7_code 7 = .ok (.iconst 1, 1) := by decide +kernel
theorem d_Rd_readOperand_8 : decode prog_8_method_7_code 8 = .ok (.putfield 79, 3) := by decide +kernel
theorem d_Rd_readOperand_11 : decode prog_8_method_7_code 11 = .ok (.return_, 1) := by decide +kernel
theorem d_Rd_readOperand_67 : decode prog_8_method_7_code 67 = .ok (.iload_n 2, 1) := by decide +kernel
theorem d_Rd_readOperand_68 : decode prog_8_method_7_code 68 = .ok (.ifCond .le 55, 3) := by decide +kernel
theorem d_Rd_readOperand_123 : decode prog_8_method_7_code 123 = .ok (.return_, 1) := by decide +kernel
theorem d_Rd_readOperand_71 : decode prog_8_method_7_code 71 = .ok (.aload_n 0, 1) := by decide +kernel
theorem d_Rd_readOperand_72 : decode prog_8_method_7_code 72 = .ok (.getfield 79, 3) := by decide +kernel
theorem d_Rd_readOperand_75 : decode prog_8_method_7_code 75 = .ok (.ifCond .ne 48, 3) := by decide +kernel
theorem d_Rd_readOperand_78 : decode prog_8_method_7_code 78 = .ok (.aload_n 0, 1) := by decide +kernel
theorem d_Rd_readOperand_79 : decode prog_8_method_7_code 79 = .ok (.getfield 28, 3) := by decide +kernel
theorem d_Rd_readOperand_82 : decode prog_8_method_7_code 82 = .ok (.getfield 93, 3) := by decide +kernel
theorem d_Rd_readOperand_85 : decode prog_8_method_7_code 85 = .ok (.aload_n 0, 1) := by decide +kernel
theorem d_Rd_readOperand_86 : decode prog_8_method_7_code 86 = .ok (.getfield 71, 3) := by decide +kernel
theorem d_Rd_readOperand_89 : decode prog_8_method_7_code 89 = .ok (.iaload, 1) := by decide +kernel
theorem d_Rd_readOperand_90 : decode prog_8_method_7_code 90 = .ok (.bipush 12, 2) := by decide +kernel
theorem d_Rd_readOperand_92 : decode prog_8_method_7_code 92 = .ok (.if_icmp .ne 31, 3) := by decide +kernel
theorem d_Rd_readOperand_95 : decode prog_8_method_7_code 95 = .ok (.aload_n 0, 1) := by decide +kernel
theorem d_Rd_readOperand_96 : decode prog_8_method_7_code 96 = .ok (.dup, 1) := by decide +kernel
theorem d_Rd_readOperand_97 : decode prog_8_method_7_code 97 = .ok (.getfield 71, 3) := by decide +kernel
theorem d_Rd_readOperand_100 : decode prog_8_method_7_code 100 = .ok (.iconst 1, 1) := by decide +kernel
theorem d_Rd_readOperand_101 : decode prog_8_method_7_code 101 = .ok (.iadd, 1) := by decide +kernel
theorem d_Rd_readOperand_102 : decode prog_8_method_7_code 102 = .ok (.putfield 71, 3) := by decide +kernel
theorem d_Rd_readOperand_105 : decode prog_8_method_7_code 105 = .ok (.aload_n 0, 1) := by decide +kernel
theorem d_Rd_readOperand_106 : decode prog_8_method_7_code 106 = .ok (.getfield 19, 3) := by decide +kernel
theorem d_Rd_readOperand_109 : decode prog_8_method_7_code 109 = .ok (.bipush 11, 2) := by decide +kernel
theorem d_Rd_readOperand_111 : decode prog_8_method_7_code 111 = .ok (.ldc2_w 107, 3) := by decide +kernel
theorem d_Rd_readOperand_114 : decode prog_8_method_7_code 114 = .ok (.invokevirtual 59, 3) := by decide +kernel
theorem d_Rd_readOperand_117 : decode prog_8_method_7_code 117 = .ok (.iinc 2 (-1), 3) := by decide +kernel
theorem d_Rd_readOperand_120 : decode prog_8_method_7_code 120 = .ok (.goto (-53), 3) := by decide +kernel
set_option maxHeartbeats 4000000 in
theorem w_Rd_readOperand_0 {l : Launch} {G : gG} {d : Nat} {X : gX} {M : gM} {k : gM → Prop} {c : Nat} (hX : glX X c) {x1 : Int} (hx1 : g32 x1)  (T : (x1 ≤ 20 → (g32 (M (c + 14) 4) → (((0 : Int) ≤ M (c + 14) 4 ∧ M (c + 14) 4 < 104) ∧ (g32 (M (c + 17) (Int.toNat (M (c + 14) 4))) → ((¬ M (c + 17) (Int.toNat (M (c + 14) 4)) = 8 → (cV l G y_Rd_readPrimary (gRm d) true [gR G (c + 14), gI x1] X M (fun M3 => (wp l G y_Rd_readOperand (gRm (d + 1)) true (kkV X k) true 67 [.val (gR G (c + 14)), .unset, .val (gI 100)] [] X M3 0 0)))) ∧ (M (c + 17) (Int.toNat (M (c + 14) 4)) = 8 → (g32 (M (c + 14) 4) → (cV l G y_Rd_readOperand (gRm d) true [gR G (c + 14), gI (x1 + 1)] X (gUp M (c + 14) 4 (w32 ((M (c + 14) 4) + 1))) (fun M5 => (cV l G y_Cn_emit (gRm d) true [gR G (c + 2), gI 11, gL 13] X M5 (fun M6 => (k M6)))))))))))) ∧ (¬ x1 ≤ 20 → (k (gUp M (c + 14) 5 1)))) : wp l G y_Rd_readOperand (gRm (d + 1)) true (kkV X k) false 0 [.val (gR G (c + 14)), .val (gI x1), .unset] [] X M 0 0 := by
  refine wp_iload_n d_Rd_readOperand_0 rfl rfl ?_
  refine wp_bipush d_Rd_readOperand_1 ⟨by decide, by decide⟩ ?_
  refine xi_le (tgt := 12) d_Rd_readOperand_3 (by decide) (w32_id hx1) (w32_id (g32_c (x := 20) rfl)) (fun h8 => ?_) (fun h8 => ?_)
  · have T := T.1 h8
    refine wp_aload_n d_Rd_readOperand_12 rfl rfl (g_nz (gl_1 hX 14)) ?_
    refine xgetR d_Rd_readOperand_13 gc_Rd f_Rd_28.1 f_Rd_28.2.1 f_Rd_28.2.2.1 (gl_1 hX 14) (gl_2 hX (a := 14) (by decide)) (gl_s hX 14 rfl) f_Rd_28.2.2.2.2.1 (gl_f hX 17 rfl) ?_
    refine xgetR d_Rd_readOperand_16 gc_Tk f_Rd_93.1 f_Rd_93.2.1 f_Rd_93.2.2.1 (gl_1 hX 16) (gl_2 hX (a := 16) (by decide)) (gl_s hX 16 rfl) f_Rd_93.2.2.2.2.1 (gl_f hX 18 rfl) ?_
    refine wp_aload_n d_Rd_readOperand_19 rfl rfl (g_nz (gl_1 hX 14)) ?_
    refine xgetI d_Rd_readOperand_20 gc_Rd f_Rd_71.1 f_Rd_71.2.1 f_Rd_71.2.2.1 (gl_1 hX 14) (gl_2 hX (a := 14) (by decide)) (gl_s hX 14 rfl) f_Rd_71.2.2.2.2.1 (fun h1 => ?_)
    have T := T h1
    refine wp_iaload d_Rd_readOperand_23 (gl_1 hX 17) (gl_2 hX (a := 17) (by decide)) (gl_s hX 17 rfl) (g32_n T.1 (by decide)) T.1.1 T.1.2 (fun h2 => ?_)
    have T := T.2 h2
    refine wp_bipush d_Rd_readOperand_24 ⟨by decide, by decide⟩ ?_
    refine xi_ne (tgt := 59) d_Rd_readOperand_26 (by decide) (w32_id h2) (w32_id (g32_c (x := 8) rfl)) (fun h7 => ?_) (fun h7 => ?_)
    · have T := T.1 h7
      refine wp_aload_n d_Rd_readOperand_59 rfl rfl (g_nz (gl_1 hX 14)) ?_
      refine wp_iload_n d_Rd_readOperand_60 rfl rfl ?_
      refine xcV_V (md' := true) (As := [gI x1]) (st := []) d_Rd_readOperand_61 ca_Rd_readPrimary ml_Rd_104 im_Rd_readPrimary se_Rd_readPrimary gc_Rd (gl_1 hX 14) (gl_2 hX (a := 14) (by decide)) (gl_s hX 14 rfl) rfl (by decide) (by decide) rfl (fun _ => rfl) (fun _ => rfl) T (fun M3 T => ?_)
      refine wp_bipush d_Rd_readOperand_64 ⟨by decide, by decide⟩ ?_
      refine wp_istore_n (L' := [.val (gR G (c + 14)), .val (gI x1), .val (gI 100)]) d_Rd_readOperand_66 rfl (by decide) rfl ?_
      exact wp_md (wpt T (And.intro rfl (And.intro rfl True.intro)))
    · have T := T.2 h7
      refine wp_aload_n d_Rd_readOperand_29 rfl rfl (g_nz (gl_1 hX 14)) ?_
      refine wp_dup d_Rd_readOperand_30 (gR_cat _) ?_
      refine xgetI d_Rd_readOperand_31 gc_Rd f_Rd_71.1 f_Rd_71.2.1 f_Rd_71.2.2.1 (gl_1 hX 14) (gl_2 hX (a := 14) (by decide)) (gl_s hX 14 rfl) f_Rd_71.2.2.2.2.1 (fun h4 => ?_)
      have T := T h4
      refine wp_iconst d_Rd_readOperand_34 ?_
      refine wp_iadd d_Rd_readOperand_35 ?_
      refine xputI d_Rd_readOperand_36 gc_Rd f_Rd_71.1 f_Rd_71.2.1 f_Rd_71.2.2.1 (gl_1 hX 14) (gl_2 hX (a := 14) (by decide)) (gl_s hX 14 rfl) f_Rd_71.2.2.2.1 f_Rd_71.2.2.2.2.1 f_Rd_71.2.2.2.2.2 rfl ?_
      refine wp_aload_n d_Rd_readOperand_39 rfl rfl (g_nz (gl_1 hX 14)) ?_
      refine wp_iload_n d_Rd_readOperand_40 rfl rfl ?_
      refine wp_iconst d_Rd_readOperand_41 ?_
      refine wp_iadd d_Rd_readOperand_42 ?_
      refine xcV_V (md' := true) (As := [gI (x1 + 1)]) (st := []) d_Rd_readOperand_43 ca_Rd_readOperand ml_Rd_96 im_Rd_readOperand se_Rd_readOperand gc_Rd (gl_1 hX 14) (gl_2 hX (a := 14) (by decide)) (gl_s hX 14 rfl) rfl (by decide) (by decide) rfl (fun _ => rfl) (fun _ => rfl) T (fun M5 T => ?_)
      refine wp_aload_n d_Rd_readOperand_46 rfl rfl (g_nz (gl_1 hX 14)) ?_
      refine xgetR d_Rd_readOperand_47 gc_Rd f_Rd_19.1 f_Rd_19.2.1 f_Rd_19.2.2.1 (gl_1 hX 14) (gl_2 hX (a := 14) (by decide)) (gl_s hX 14 rfl) f_Rd_19.2.2.2.2.1 (gl_f hX 16 rfl) ?_
      refine wp_bipush d_Rd_readOperand_50 ⟨by decide, by decide⟩ ?_
      refine wp_ldc2 (n := 13) d_Rd_readOperand_52 c_Rd_102 rfl ?_
      refine xcV_V (md' := true) (As := [gI 11, gL 13]) (st := []) d_Rd_readOperand_55 ca_Cn_emit ml_Rd_59 im_Cn_emit se_Cn_emit gc_Cn (gl_1 hX 2) (gl_2 hX (a := 2) (by decide)) (gl_s hX 2 rfl) rfl (by decide) (by decide) rfl (fun _ => rfl) (fun _ => rfl) T (fun M6 T => ?_)
      exact wp_return d_Rd_readOperand_58 rfl (fun _ => rfl) (Nat.zero_le _) (Nat.zero_le _) (kV_mk T)
  · have T := T.2 h8
    refine wp_aload_n d_Rd_readOperand_6 rfl rfl (g_nz (gl_1 hX 14)) ?_
    refine wp_iconst d_Rd_readOperand_7 ?_
    refine xputZ d_Rd_readOperand_8 gc_Rd f_Rd_79.1 f_Rd_79.2.1 f_Rd_79.2.2.1 (gl_1 hX 14) (gl_2 hX (a := 14) (by decide)) (gl_s hX 14 rfl) f_Rd_79.2.2.2.1 f_Rd_79.2.2.2.2.1 f_Rd_79.2.2.2.2.2 (⟨by decide, by decide⟩ : (0 : Int) ≤ 1 ∧ (1 : Int) ≤ 1) ?_
    exact wp_return d_Rd_readOperand_11 rfl (fun _ => rfl) (Nat.zero_le _) (Nat.zero_le _) (kV_mk T)
set_option maxHeartbeats 4000000 in
theorem w_Rd_readOperand_67 {l : Launch} {G : gG} {d : Nat} {X : gX} {M : gM} {k : gM → Prop} {c : Nat} (hX : glX X c) {x2 : Int} (hx2 : g32 x2)  (T : (x2 ≤ 0 → (k M)) ∧ (¬ x2 ≤ 0 → ((0 ≤ M (c + 14) 5 ∧ M (c + 14) 5 ≤ 1) → ((¬ M (c + 14) 5 = 0 → (k M)) ∧ (M (c + 14) 5 = 0 → (g32 (M (c + 14) 4) → (((0 : Int) ≤ M (c + 14) 4 ∧ M (c + 14) 4 < 104) ∧ (g32 (M (c + 17) (Int.toNat (M (c + 14) 4))) → ((¬ M (c + 17) (Int.toNat (M (c + 14) 4)) = 12 → (k M)) ∧ (M (c + 17) (Int.toNat (M (c + 14) 4)) = 12 → (g32 (M (c + 14) 4) → (cV l G y_Cn_emit (gRm d) true [gR G (c + 2), gI 11, gL 12] X (gUp M (c + 14) 4 (w32 ((M (c + 14) 4) + 1))) (fun M13 => (wp l G y_Rd_readOperand (gRm (d + 1)) true (kkV X k) true 67 [.val (gR G (c + 14)), .unset, .val (gI (w32 (x2 + (-1))))] [] X M13 0 0)))))))))))))) : wp l G y_Rd_readOperand (gRm (d + 1)) true (kkV X k) true 67 [.val (gR G (c + 14)), .unset, .val (gI x2)] [] X M 0 0 := by
  refine wp_iload_n d_Rd_readOperand_67 rfl rfl ?_
  refine xz_le (tgt := 123) d_Rd_readOperand_68 (by decide) (w32_id hx2) (fun h16 => ?_) (fun h16 => ?_)
  · have T := T.1 h16
    exact wp_return d_Rd_readOperand_123 rfl (fun _ => rfl) (Nat.zero_le _) (Nat.zero_le _) (kV_mk T)
  · have T := T.2 h16
    refine wp_aload_n d_Rd_readOperand_71 rfl rfl (g_nz (gl_1 hX 14)) ?_
    refine xgetZ d_Rd_readOperand_72 gc_Rd f_Rd_79.1 f_Rd_79.2.1 f_Rd_79.2.2.1 (gl_1 hX 14) (gl_2 hX (a := 14) (by decide)) (gl_s hX 14 rfl) f_Rd_79.2.2.2.2.1 (fun h9 => ?_)
    have T := T h9
    refine xz_ne (tgt := 123) d_Rd_readOperand_75 (by decide) (w32_id (g32_z h9)) (fun h15 => ?_) (fun h15 => ?_)
    · have T := T.1 h15
      exact wp_return d_Rd_readOperand_123 rfl (fun _ => rfl) (Nat.zero_le _) (Nat.zero_le _) (kV_mk T)
    · have T := T.2 h15
      refine wp_aload_n d_Rd_readOperand_78 rfl rfl (g_nz (gl_1 hX 14)) ?_
      refine xgetR d_Rd_readOperand_79 gc_Rd f_Rd_28.1 f_Rd_28.2.1 f_Rd_28.2.2.1 (gl_1 hX 14) (gl_2 hX (a := 14) (by decide)) (gl_s hX 14 rfl) f_Rd_28.2.2.2.2.1 (gl_f hX 17 rfl) ?_
      refine xgetR d_Rd_readOperand_82 gc_Tk f_Rd_93.1 f_Rd_93.2.1 f_Rd_93.2.2.1 (gl_1 hX 16) (gl_2 hX (a := 16) (by decide)) (gl_s hX 16 rfl) f_Rd_93.2.2.2.2.1 (gl_f hX 18 rfl) ?_
      refine wp_aload_n d_Rd_readOperand_85 rfl rfl (g_nz (gl_1 hX 14)) ?_
      refine xgetI d_Rd_readOperand_86 gc_Rd f_Rd_71.1 f_Rd_71.2.1 f_Rd_71.2.2.1 (gl_1 hX 14) (gl_2 hX (a := 14) (by decide)) (gl_s hX 14 rfl) f_Rd_71.2.2.2.2.1 (fun h10 => ?_)
      have T := T h10
      refine wp_iaload d_Rd_readOperand_89 (gl_1 hX 17) (gl_2 hX (a := 17) (by decide)) (gl_s hX 17 rfl) (g32_n T.1 (by decide)) T.1.1 T.1.2 (fun h11 => ?_)
      have T := T.2 h11
      refine wp_bipush d_Rd_readOperand_90 ⟨by decide, by decide⟩ ?_
      refine xi_ne (tgt := 123) d_Rd_readOperand_92 (by decide) (w32_id h11) (w32_id (g32_c (x := 12) rfl)) (fun h14 => ?_) (fun h14 => ?_)
      · have T := T.1 h14
        exact wp_return d_Rd_readOperand_123 rfl (fun _ => rfl) (Nat.zero_le _) (Nat.zero_le _) (kV_mk T)
      · have T := T.2 h14
        refine wp_aload_n d_Rd_readOperand_95 rfl rfl (g_nz (gl_1 hX 14)) ?_
        refine wp_dup d_Rd_readOperand_96 (gR_cat _) ?_
        refine xgetI d_Rd_readOperand_97 gc_Rd f_Rd_71.1 f_Rd_71.2.1 f_Rd_71.2.2.1 (gl_1 hX 14) (gl_2 hX (a := 14) (by decide)) (gl_s hX 14 rfl) f_Rd_71.2.2.2.2.1 (fun h12 => ?_)
        have T := T h12
        refine wp_iconst d_Rd_readOperand_100 ?_
        refine wp_iadd d_Rd_readOperand_101 ?_
        refine xputI d_Rd_readOperand_102 gc_Rd f_Rd_71.1 f_Rd_71.2.1 f_Rd_71.2.2.1 (gl_1 hX 14) (gl_2 hX (a := 14) (by decide)) (gl_s hX 14 rfl) f_Rd_71.2.2.2.1 f_Rd_71.2.2.2.2.1 f_Rd_71.2.2.2.2.2 rfl ?_
        refine wp_aload_n d_Rd_readOperand_105 rfl rfl (g_nz (gl_1 hX 14)) ?_
        refine xgetR d_Rd_readOperand_106 gc_Rd f_Rd_19.1 f_Rd_19.2.1 f_Rd_19.2.2.1 (gl_1 hX 14) (gl_2 hX (a := 14) (by decide)) (gl_s hX 14 rfl) f_Rd_19.2.2.2.2.1 (gl_f hX 16 rfl) ?_
        refine wp_bipush d_Rd_readOperand_109 ⟨by decide, by decide⟩ ?_
        refine wp_ldc2 (n := 12) d_Rd_readOperand_111 c_Rd_107 rfl ?_
        refine xcV_V (md' := true) (As := [gI 11, gL 12]) (st := []) d_Rd_readOperand_114 ca_Cn_emit ml_Rd_59 im_Cn_emit se_Cn_emit gc_Cn (gl_1 hX 2) (gl_2 hX (a := 2) (by decide)) (gl_s hX 2 rfl) rfl (by decide) (by decide) rfl (fun _ => rfl) (fun _ => rfl) T (fun M13 T => ?_)
        refine wp_iinc (L' := [.val (gR G (c + 14)), .unset, .val (gI (x2 + (-1)))]) d_Rd_readOperand_117 rfl (by decide) rfl ?_
        refine wp_goto (tgt := 67) d_Rd_readOperand_120 (by decide) ?_
        exact wp_md (wpt T (And.intro rfl (And.intro (gI_w _) True.intro)))
theorem e_Rd_readOperand {l : Launch} {G : gG} {d : Nat} {X : gX} {M : gM} {k : gM → Prop} {c : Nat} {x1 : Int} (T : wp l G y_Rd_readOperand (gRm (d + 1)) true (kkV X k) false 0 [.val (gR G (c + 14)), .val (gI x1), .unset] [] X M 0 0) : cV l G y_Rd_readOperand (gRm (d + 1)) true [gR G (c + 14), gI x1] X M k := cen_V (plainFor_of_name rfl) (by simp only [lg_sl_R, lg_sl_I, lg_sl_L, lg_sl_N, List.length_cons, List.length_nil]; decide) (by unfold gEn; simp only [lg_sl_R, lg_sl_I, lg_sl_L, lg_sl_N]; exact wpt T (And.intro rfl (And.intro rfl True.intro)))
theorem d_Rd_readPrimary_0 : decode prog_8_method_8_code 0 = .ok (.aload_n 0, 1) := by decide +kernel
theorem d_Rd_readPrimary_1 : decode prog_8_method_8_code 1 = .ok (.getfield 71, 3) := by decide +kernel
theorem d_Rd_readPrimary_4 : decode prog_8_method_8_code 4 = .ok (.istore_n 2, 1) := by decide +kernel
theorem d_Rd_readPrimary_5 : decode prog_8_method_8_code 5 = .ok (.aload_n 0, 1) := by decide +kernel
theorem d_Rd_readPrimary_6 : decode prog_8_method_8_code 6 = .ok (.dup, 1) := by decide +kernel
theorem d_Rd_readPrimary_7 : decode prog_8_method_8_code 7 = .ok (.getfield 71, 3) := by decide +kernel
theorem d_Rd_readPrimary_10 : decode prog_8_method_8_code 10 = .ok (.iconst 1, 1) := by decide +kernel
theorem d_Rd_readPrimary_11 : decode prog_8_method_8_code 11 = .ok (.iadd, 1) := by decide +kernel
theorem d_Rd_readPrimary_12 : decode prog_8_method_8_code 12 = .ok (.putfield 71, 3) := by decide +kernel
theorem d_Rd_readPrimary_15 : decode prog_8_method_8_code 15 = .ok (.aload_n 0, 1) := by decide +kernel
theorem d_Rd_readPrimary_16 : decode prog_8_method_8_code 16 = .ok (.getfield 28, 3) := by decide +kernel
theorem d_Rd_readPrimary_19 : decode prog_8_method_8_code 19 = .ok (.getfield 93, 3) := by decide +kernel
theorem d_Rd_readPrimary_22 : decode prog_8_method_8_code 22 = .ok (.iload_n 2, 1) := by decide +kernel
theorem d_Rd_readPrimary_23 : decode prog_8_method_8_code 23 = .ok (.iaload, 1) := by decide +kernel
theorem d_Rd_readPrimary_24 : decode prog_8_method_8_code 24 = .ok (.tableswitch 196 13 22 #[179, 196, 196, 196, 56, 75, 121, 163, 139, 151], 56) := by decide +kernel
theorem d_Rd_readPrimary_203 : decode prog_8_method_8_code 203 = .ok (.aload_n 0, 1) := by decide +kernel
theorem d_Rd_readPrimary_204 : decode prog_8_method_8_code 204 = .ok (.iconst 1, 1) := by decide +kernel
theorem d_Rd_readPrimary_205 : decode prog_8_method_8_code 205 = .ok (.iload_n 1, 1) := by decide +kernel
theorem d_Rd_readPrimary_206 : decode prog_8_method_8_code 206 = .ok (.iconst 1, 1) := by decide +kernel
theorem d_Rd_readPrimary_207 : decode prog_8_method_8_code 207 = .ok (.iadd, 1) := by decide +kernel
theorem d_Rd_readPrimary_208 : decode prog_8_method_8_code 208 = .ok (.invokevirtual 83, 3) := by decide +kernel
theorem d_Rd_readPrimary_211 : decode prog_8_method_8_code 211 = .ok (.aload_n 0, 1) := by decide +kernel
theorem d_Rd_readPrimary_212 : decode prog_8_method_8_code 212 = .ok (.bipush 14, 2) := by decide +kernel
theorem d_Rd_readPrimary_214 : decode prog_8_method_8_code 214 = .ok (.invokevirtual 87, 3) := by decide +kernel
theorem d_Rd_readPrimary_217 : decode prog_8_method_8_code 217 = .ok (.goto 8, 3) := by decide +kernel
theorem d_Rd_readPrimary_225 : decode prog_8_method_8_code 225 = .ok (.return_, 1) := by decide +kernel
theorem d_Rd_readPrimary_220 : decode prog_8_method_8_code 220 = .ok (.aload_n 0, 1) := by decide +kernel
theorem d_Rd_readPrimary_221 : decode prog_8_method_8_code 221 = .ok (.iconst 1, 1) := by decide +kernel
theorem d_Rd_readPrimary_222 : decode prog_8_method_8_code 222 = .ok (.putfield 79, 3) := by decide +kernel
theorem d_Rd_readPrimary_80 : decode prog_8_method_8_code 80 = .ok (.aload_n 0, 1) := by decide +kernel
theorem d_Rd_readPrimary_81 : decode prog_8_method_8_code 81 = .ok (.getfield 19, 3) := by decide +kernel
theorem d_Rd_readPrimary_84 : decode prog_8_method_8_code 84 = .ok (.iconst 0, 1) := by decide +kernel
theorem d_Rd_readPrimary_85 : decode prog_8_method_8_code 85 = .ok (.aload_n 0, 1) := by decide +kernel
theorem d_Rd_readPrimary_86 : decode prog_8_method_8_code 86 = .ok (.getfield 28, 3) := by decide +kernel
theorem d_Rd_readPrimary_89 : decode prog_8_method_8_code 89 = .ok (.iload_n 2, 1) := by decide +kernel
theorem d_Rd_readPrimary_90 : decode prog_8_method_8_code 90 = .ok (.invokevirtual 109, 3) := by decide +kernel
theorem d_Rd_readPrimary_93 : decode prog_8_method_8_code 93 = .ok (.invokevirtual 59, 3) := by decide +kernel
theorem d_Rd_readPrimary_96 : decode prog_8_method_8_code 96 = .ok (.goto 129, 3) := by decide +kernel
theorem d_Rd_readPrimary_99 : decode prog_8_method_8_code 99 = .ok (.aload_n 0, 1) := by decide +kernel
theorem d_Rd_readPrimary_100 : decode prog_8_method_8_code 100 = .ok (.getfield 19, 3) := by decide +kernel
theorem d_Rd_readPrimary_103 : decode prog_8_method_8_code 103 = .ok (.aload_n 0, 1) := by decide +kernel
theorem d_Rd_readPrimary_104 : decode prog_8_method_8_code 104 = .ok (.getfield 15, 3) := by decide +kernel
theorem d_Rd_readPrimary_107 : decode prog_8_method_8_code 107 = .ok (.aload_n 0, 1) := by decide +kernel
theorem d_Rd_readPrimary_108 : decode prog_8_method_8_code 108 = .ok (.getfield 28, 3) := by decide +kernel
theorem d_Rd_readPrimary_111 : decode prog_8_method_8_code 111 = .ok (.getfield 113, 3) := by decide +kernel
theorem d_Rd_readPrimary_114 : decode prog_8_method_8_code 114 = .ok (.iload_n 2, 1) := by decide +kernel
theorem d_Rd_readPrimary_115 : decode prog_8_method_8_code 115 = .ok (.iaload, 1) := by decide +kernel
theorem d_Rd_readPrimary_116 : decode prog_8_method_8_code 116 = .ok (.iconst 1, 1) := by decide +kernel
theorem d_Rd_readPrimary_117 : decode prog_8_method_8_code 117 = .ok (.iadd, 1) := by decide +kernel
theorem d_Rd_readPrimary_118 : decode prog_8_method_8_code 118 = .ok (.aload_n 0, 1) := by decide +kernel
theorem d_Rd_readPrimary_119 : decode prog_8_method_8_code 119 = .ok (.getfield 28, 3) := by decide +kernel
theorem d_Rd_readPrimary_122 : decode prog_8_method_8_code 122 = .ok (.getfield 116, 3) := by decide +kernel
theorem d_Rd_readPrimary_125 : decode prog_8_method_8_code 125 = .ok (.iload_n 2, 1) := by decide +kernel
theorem d_Rd_readPrimary_126 : decode prog_8_method_8_code 126 = .ok (.iaload, 1) := by decide +kernel
theorem d_Rd_readPrimary_127 : decode prog_8_method_8_code 127 = .ok (.aload_n 0, 1) := by decide +kernel
theorem d_Rd_readPrimary_128 : decode prog_8_method_8_code 128 = .ok (.getfield 28, 3) := by decide +kernel
theorem d_Rd_readPrimary_131 : decode prog_8_method_8_code 131 = .ok (.getfield 113, 3) := by decide +kernel
theorem d_Rd_readPrimary_134 : decode prog_8_method_8_code 134 = .ok (.iload_n 2, 1) := by decide +kernel
theorem d_Rd_readPrimary_135 : decode prog_8_method_8_code 135 = .ok (.iaload, 1) := by decide +kernel
theorem d_Rd_readPrimary_136 : decode prog_8_method_8_code 136 = .ok (.isub, 1) := by decide +kernel
theorem d_Rd_readPrimary_137 : decode prog_8_method_8_code 137 = .ok (.iconst 2, 1) := by decide +kernel
theorem d_Rd_readPrimary_138 : decode prog_8_method_8_code 138 = .ok (.isub, 1) := by decide +kernel
theorem d_Rd_readPrimary_139 : decode prog_8_method_8_code 139 = .ok (.invokevirtual 63, 3) := by decide +kernel
theorem d_Rd_readPrimary_142 : decode prog_8_method_8_code 142 = .ok (.goto 83, 3) := by decide +kernel
theorem d_Rd_readPrimary_145 : decode prog_8_method_8_code 145 = .ok (.aload_n 0, 1) := by decide +kernel
theorem d_Rd_readPrimary_146 : decode prog_8_method_8_code 146 = .ok (.getfield 19, 3) := by decide +kernel
theorem d_Rd_readPrimary_149 : decode prog_8_method_8_code 149 = .ok (.iconst 4, 1) := by decide +kernel
theorem d_Rd_readPrimary_150 : decode prog_8_method_8_code 150 = .ok (.aload_n 0, 1) := by decide +kernel
theorem d_Rd_readPrimary_151 : decode prog_8_method_8_code 151 = .ok (.iload_n 2, 1) := by decide +kernel
theorem d_Rd_readPrimary_152 : decode prog_8_method_8_code 152 = .ok (.iconst 0, 1) := by decide +kernel
theorem d_Rd_readPrimary_153 : decode prog_8_method_8_code 153 = .ok (.invokevirtual 119, 3) := by decide +kernel
theorem d_Rd_readPrimary_156 : decode prog_8_method_8_code 156 = .ok (.i2l, 1) := by decide +kernel
theorem d_Rd_readPrimary_157 : decode prog_8_method_8_code 157 = .ok (.invokevirtual 59, 3) := by decide +kernel
theorem d_Rd_readPrimary_160 : decode prog_8_method_8_code 160 = .ok (.goto 65, 3) := by decide +kernel
theorem d_Rd_readPrimary_187 : decode prog_8_method_8_code 187 = .ok (.aload_n 0, 1) := by decide +kernel
theorem d_Rd_readPrimary_188 : decode prog_8_method_8_code 188 = .ok (.aload_n 0, 1) := by decide +kernel
theorem d_Rd_readPrimary_189 : decode prog_8_method_8_code 189 = .ok (.getfield 28, 3) := by decide +kernel
theorem d_Rd_readPrimary_192 : decode prog_8_method_8_code 192 = .ok (.iload_n 2, 1) := by decide +kernel
theorem d_Rd_readPrimary_193 : decode prog_8_method_8_code 193 = .ok (.invokevirtual 123, 3) := by decide +kernel
theorem d_Rd_readPrimary_196 : decode prog_8_method_8_code 196 = .ok (.iload_n 1, 1) := by decide +kernel
theorem d_Rd_readPrimary_197 : decode prog_8_method_8_code 197 = .ok (.invokevirtual 127, 3) := by decide +kernel
theorem d_Rd_readPrimary_200 : decode prog_8_method_8_code 200 = .ok (.goto 25, 3) := by decide +kernel
theorem d_Rd_readPrimary_163 : decode prog_8_method_8_code 163 = .ok (.aload_n 0, 1) := by decide +kernel
theorem d_Rd_readPrimary_164 : decode prog_8_method_8_code 164 = .ok (.getfield 19, 3) := by decide +kernel
theorem d_Rd_readPrimary_167 : decode prog_8_method_8_code 167 = .ok (.iconst 2, 1) := by decide +kernel
theorem d_Rd_readPrimary_168 : decode prog_8_method_8_code 168 = .ok (.lconst 1, 1) := by decide +kernel
theorem d_Rd_readPrimary_169 : decode prog_8_method_8_code 169 = .ok (.invokevirtual 59, 3) := by decide +kernel
theorem d_Rd_readPrimary_172 : decode prog_8_method_8_code 172 = .ok (.goto 53, 3) := by decide +kernel
theorem d_Rd_readPrimary_175 : decode prog_8_method_8_code 175 = .ok (.aload_n 0, 1) := by decide +kernel
theorem d_Rd_readPrimary_176 : decode prog_8_method_8_code 176 = .ok (.getfield 19, 3) := by decide +kernel
theorem d_Rd_readPrimary_179 : decode prog_8_method_8_code 179 = .ok (.iconst 2, 1) := by decide +kernel
theorem d_Rd_readPrimary_180 : decode prog_8_method_8_code 180 = .ok (.lconst 0, 1) := by decide +kernel
theorem d_Rd_readPrimary_181 : decode prog_8_method_8_code 181 = .ok (.invokevirtual 59, 3) := by decide +kernel
theorem d_Rd_readPrimary_184 : decode prog_8_method_8_code 184 = .ok (.goto 41, 3) := by decide +kernel
set_option maxHeartbeats 4000000 in
theorem w_Rd_readPrimary_0 {l : Launch} {G : gG} {d : Nat} {X : gX} {M : gM} {k : gM → Prop} {c : Nat} (hX : glX X c) {x1 : Int} (hx1 : g32 x1)  (T : g32 (M (c + 14) 4) → (g32 (M (c + 14) 4) → (((0 : Int) ≤ M (c + 14) 4 ∧ M (c + 14) 4 < 104) ∧ (g32 ((gUp M (c + 14) 4 (w32 ((M (c + 14) 4) + 1))) (c + 17) (Int.toNat (M (c + 14) 4))) → (((gUp M (c + 14) 4 (w32 ((M (c + 14) 4) + 1))) (c + 17) (Int.toNat (M (c + 14) 4)) = 13 → (cV l G y_Rd_readExpression (gRm d) true [gR G (c + 14), gI 1, gI (x1 + 1)] X (gUp M (c + 14) 4 (w32 ((M (c + 14) 4) + 1))) (fun M4 => (cV l G y_Rd_expect (gRm d) true [gR G (c + 14), gI 14] X M4 (fun M5 => (k M5)))))) ∧ ((gUp M (c + 14) 4 (w32 ((M (c + 14) 4) + 1))) (c + 17) (Int.toNat (M (c + 14) 4)) = 14 → (k (gUp (gUp M (c + 14) 4 (w32 ((M (c + 14) 4) + 1))) (c + 14) 5 1))) ∧ ((gUp M (c + 14) 4 (w32 ((M (c + 14) 4) + 1))) (c + 17) (Int.toNat (M (c + 14) 4)) = 15 → (k (gUp (gUp M (c + 14) 4 (w32 ((M (c + 14) 4) + 1))) (c + 14) 5 1))) ∧ ((gUp M (c + 14) 4 (w32 ((M (c + 14) 4) + 1))) (c + 17) (Int.toNat (M (c + 14) 4)) = 16 → (k (gUp (gUp M (c + 14) 4 (w32 ((M (c + 14) 4) + 1))) (c + 14) 5 1))) ∧ ((gUp M (c + 14) 4 (w32 ((M (c + 14) 4) + 1))) (c + 17) (Int.toNat (M (c + 14) 4)) = 17 → (cL l G y_Tk_numberOf (gRm d) false [gR G (c + 16), gI (M (c + 14) 4)] X (gUp M (c + 14) 4 (w32 ((M (c + 14) 4) + 1))) (fun v7 M6 => (cV l G y_Cn_emit (gRm d) true [gR G (c + 2), gI 0, gL v7] X M6 (fun M9 => (k M9)))))) ∧ ((gUp M (c + 14) 4 (w32 ((M (c + 14) 4) + 1))) (c + 17) (Int.toNat (M (c + 14) 4)) = 18 → (((0 : Int) ≤ M (c + 14) 4 ∧ M (c + 14) 4 < 104) ∧ (g32 ((gUp M (c + 14) 4 (w32 ((M (c + 14) 4) + 1))) (c + 18) (Int.toNat (M (c + 14) 4))) → (((0 : Int) ≤ M (c + 14) 4 ∧ M (c + 14) 4 < 104) ∧ (g32 ((gUp M (c + 14) 4 (w32 ((M (c + 14) 4) + 1))) (c + 19) (Int.toNat (M (c + 14) 4))) → (((0 : Int) ≤ M (c + 14) 4 ∧ M (c + 14) 4 < 104) ∧ (g32 ((gUp M (c + 14) 4 (w32 ((M (c + 14) 4) + 1))) (c + 18) (Int.toNat (M (c + 14) 4))) → (cV l G y_Cn_emitText (gRm d) true [gR G (c + 2), gR G (c + 1), gI (((gUp M (c + 14) 4 (w32 ((M (c + 14) 4) + 1))) (c + 18) (Int.toNat (M (c + 14) 4))) + 1), gI ((((gUp M (c + 14) 4 (w32 ((M (c + 14) 4) + 1))) (c + 19) (Int.toNat (M (c + 14) 4))) - ((gUp M (c + 14) 4 (w32 ((M (c + 14) 4) + 1))) (c + 18) (Int.toNat (M (c + 14) 4)))) - 2)] X (gUp M (c + 14) 4 (w32 ((M (c + 14) 4) + 1))) (fun M13 => (k M13)))))))))) ∧ ((gUp M (c + 14) 4 (w32 ((M (c + 14) 4) + 1))) (c + 17) (Int.toNat (M (c + 14) 4)) = 19 → (cI l G y_Rd_addRef (gRm d) true [gR G (c + 14), gI (M (c + 14) 4), gI 0] X (gUp M (c + 14) 4 (w32 ((M (c + 14) 4) + 1))) (fun v15 M14 => (cV l G y_Cn_emit (gRm d) true [gR G (c + 2), gI 4, gL v15] X M14 (fun M17 => (k M17)))))) ∧ ((gUp M (c + 14) 4 (w32 ((M (c + 14) 4) + 1))) (c + 17) (Int.toNat (M (c + 14) 4)) = 20 → (cI l G y_Tk_workOf (gRm d) false [gR G (c + 16), gI (M (c + 14) 4)] X (gUp M (c + 14) 4 (w32 ((M (c + 14) 4) + 1))) (fun v19 M18 => (cV l G y_Rd_readCall (gRm d) true [gR G (c + 14), gI v19, gI x1] X M18 (fun M21 => (k M21)))))) ∧ ((gUp M (c + 14) 4 (w32 ((M (c + 14) 4) + 1))) (c + 17) (Int.toNat (M (c + 14) 4)) = 21 → (cV l G y_Cn_emit (gRm d) true [gR G (c + 2), gI 2, gL 1] X (gUp M (c + 14) 4 (w32 ((M (c + 14) 4) + 1))) (fun M22 => (k M22)))) ∧ ((gUp M (c + 14) 4 (w32 ((M (c + 14) 4) + 1))) (c + 17) (Int.toNat (M (c + 14) 4)) = 22 → (cV l G y_Cn_emit (gRm d) true [gR G (c + 2), gI 2, gL 0] X (gUp M (c + 14) 4 (w32 ((M (c + 14) 4) + 1))) (fun M23 => (k M23)))) ∧ ((¬ (gUp M (c + 14) 4 (w32 ((M (c + 14) 4) + 1))) (c + 17) (Int.toNat (M (c + 14) 4)) = 13 ∧ ¬ (gUp M (c + 14) 4 (w32 ((M (c + 14) 4) + 1))) (c + 17) (Int.toNat (M (c + 14) 4)) = 14 ∧ ¬ (gUp M (c + 14) 4 (w32 ((M (c + 14) 4) + 1))) (c + 17) (Int.toNat (M (c + 14) 4)) = 15 ∧ ¬ (gUp M (c + 14) 4 (w32 ((M (c + 14) 4) + 1))) (c + 17) (Int.toNat (M (c + 14) 4)) = 16 ∧ ¬ (gUp M (c + 14) 4 (w32 ((M (c + 14) 4) + 1))) (c + 17) (Int.toNat (M (c + 14) 4)) = 17 ∧ ¬ (gUp M (c + 14) 4 (w32 ((M (c + 14) 4) + 1))) (c + 17) (Int.toNat (M (c + 14) 4)) = 18 ∧ ¬ (gUp M (c + 14) 4 (w32 ((M (c + 14) 4) + 1))) (c + 17) (Int.toNat (M (c + 14) 4)) = 19 ∧ ¬ (gUp M (c + 14) 4 (w32 ((M (c + 14) 4) + 1))) (c + 17) (Int.toNat (M (c + 14) 4)) = 20 ∧ ¬ (gUp M (c + 14) 4 (w32 ((M (c + 14) 4) + 1))) (c + 17) (Int.toNat (M (c + 14) 4)) = 21 ∧ ¬ (gUp M (c + 14) 4 (w32 ((M (c + 14) 4) + 1))) (c + 17) (Int.toNat (M (c + 14) 4)) = 22) → (k (gUp (gUp M (c + 14) 4 (w32 ((M (c + 14) 4) + 1))) (c + 14) 5 1)))))))) : wp l G y_Rd_readPrimary (gRm (d + 1)) true (kkV X k) false 0 [.val (gR G (c + 14)), .val (gI x1), .unset] [] X M 0 0 := by
  refine wp_aload_n d_Rd_readPrimary_0 rfl rfl (g_nz (gl_1 hX 14)) ?_
  refine xgetI d_Rd_readPrimary_1 gc_Rd f_Rd_71.1 f_Rd_71.2.1 f_Rd_71.2.2.1 (gl_1 hX 14) (gl_2 hX (a := 14) (by decide)) (gl_s hX 14 rfl) f_Rd_71.2.2.2.2.1 (fun h1 => ?_)
  have T := T h1
  refine wp_istore_n (L' := [.val (gR G (c + 14)), .val (gI x1), .val (gI (M (c + 14) 4))]) d_Rd_readPrimary_4 rfl (by decide) rfl ?_
  refine wp_aload_n d_Rd_readPrimary_5 rfl rfl (g_nz (gl_1 hX 14)) ?_
  refine wp_dup d_Rd_readPrimary_6 (gR_cat _) ?_
  refine xgetI d_Rd_readPrimary_7 gc_Rd f_Rd_71.1 f_Rd_71.2.1 f_Rd_71.2.2.1 (gl_1 hX 14) (gl_2 hX (a := 14) (by decide)) (gl_s hX 14 rfl) f_Rd_71.2.2.2.2.1 (fun h2 => ?_)
  have T := T h2
  refine wp_iconst d_Rd_readPrimary_10 ?_
  refine wp_iadd d_Rd_readPrimary_11 ?_
  refine xputI d_Rd_readPrimary_12 gc_Rd f_Rd_71.1 f_Rd_71.2.1 f_Rd_71.2.2.1 (gl_1 hX 14) (gl_2 hX (a := 14) (by decide)) (gl_s hX 14 rfl) f_Rd_71.2.2.2.1 f_Rd_71.2.2.2.2.1 f_Rd_71.2.2.2.2.2 rfl ?_
  refine wp_aload_n d_Rd_readPrimary_15 rfl rfl (g_nz (gl_1 hX 14)) ?_
  refine xgetR d_Rd_readPrimary_16 gc_Rd f_Rd_28.1 f_Rd_28.2.1 f_Rd_28.2.2.1 (gl_1 hX 14) (gl_2 hX (a := 14) (by decide)) (gl_s hX 14 rfl) f_Rd_28.2.2.2.2.1 (gl_f hX 17 rfl) ?_
  refine xgetR d_Rd_readPrimary_19 gc_Tk f_Rd_93.1 f_Rd_93.2.1 f_Rd_93.2.2.1 (gl_1 hX 16) (gl_2 hX (a := 16) (by decide)) (gl_s hX 16 rfl) f_Rd_93.2.2.2.2.1 (gl_f hX 18 rfl) ?_
  refine wp_iload_n d_Rd_readPrimary_22 rfl rfl ?_
  refine wp_iaload d_Rd_readPrimary_23 (gl_1 hX 17) (gl_2 hX (a := 17) (by decide)) (gl_s hX 17 rfl) (g32_n T.1 (by decide)) T.1.1 T.1.2 (fun h3 => ?_)
  have T := T.2 h3
  obtain ⟨T0, T1, T2, T3, T4, T5, T6, T7, T8, T9, T10⟩ := T
  by_cases hc0 : (gUp M (c + 14) 4 (w32 ((M (c + 14) 4) + 1))) (c + 17) (Int.toNat (M (c + 14) 4)) = 13
  · refine xtabIn (tgt := 203) d_Rd_readPrimary_24 (w32_id h3) 13 hc0 rfl rfl (by decide) ?_
    have T := T0 hc0
    refine wp_aload_n d_Rd_readPrimary_203 rfl rfl (g_nz (gl_1 hX 14)) ?_
    refine wp_iconst d_Rd_readPrimary_204 ?_
    refine wp_iload_n d_Rd_readPrimary_205 rfl rfl ?_
    refine wp_iconst d_Rd_readPrimary_206 ?_
    refine wp_iadd d_Rd_readPrimary_207 ?_
    refine xcV_V (md' := true) (As := [gI 1, gI (x1 + 1)]) (st := []) d_Rd_readPrimary_208 ca_Rd_readExpression ml_Rd_83 im_Rd_readExpression se_Rd_readExpression gc_Rd (gl_1 hX 14) (gl_2 hX (a := 14) (by decide)) (gl_s hX 14 rfl) rfl (by decide) (by decide) rfl (fun _ => rfl) (fun _ => rfl) T (fun M4 T => ?_)
    refine wp_aload_n d_Rd_readPrimary_211 rfl rfl (g_nz (gl_1 hX 14)) ?_
    refine wp_bipush d_Rd_readPrimary_212 ⟨by decide, by decide⟩ ?_
    refine xcV_V (md' := true) (As := [gI 14]) (st := []) d_Rd_readPrimary_214 ca_Rd_expect ml_Rd_87 im_Rd_expect se_Rd_expect gc_Rd (gl_1 hX 14) (gl_2 hX (a := 14) (by decide)) (gl_s hX 14 rfl) rfl (by decide) (by decide) rfl (fun _ => rfl) (fun _ => rfl) T (fun M5 T => ?_)
    refine wp_goto (tgt := 225) d_Rd_readPrimary_217 (by decide) ?_
    exact wp_return d_Rd_readPrimary_225 rfl (fun _ => rfl) (Nat.zero_le _) (Nat.zero_le _) (kV_mk T)
  by_cases hc1 : (gUp M (c + 14) 4 (w32 ((M (c + 14) 4) + 1))) (c + 17) (Int.toNat (M (c + 14) 4)) = 14
  · refine xtabIn (tgt := 220) d_Rd_readPrimary_24 (w32_id h3) 14 hc1 rfl rfl (by decide) ?_
    have T := T1 hc1
    refine wp_aload_n d_Rd_readPrimary_220 rfl rfl (g_nz (gl_1 hX 14)) ?_
    refine wp_iconst d_Rd_readPrimary_221 ?_
    refine xputZ d_Rd_readPrimary_222 gc_Rd f_Rd_79.1 f_Rd_79.2.1 f_Rd_79.2.2.1 (gl_1 hX 14) (gl_2 hX (a := 14) (by decide)) (gl_s hX 14 rfl) f_Rd_79.2.2.2.1 f_Rd_79.2.2.2.2.1 f_Rd_79.2.2.2.2.2 (⟨by decide, by decide⟩ : (0 : Int) ≤ 1 ∧ (1 : Int) ≤ 1) ?_
    exact wp_return d_Rd_readPrimary_225 rfl (fun _ => rfl) (Nat.zero_le _) (Nat.zero_le _) (kV_mk T)
  by_cases hc2 : (gUp M (c + 14) 4 (w32 ((M (c + 14) 4) + 1))) (c + 17) (Int.toNat (M (c + 14) 4)) = 15
  · refine xtabIn (tgt := 220) d_Rd_readPrimary_24 (w32_id h3) 15 hc2 rfl rfl (by decide) ?_
    have T := T2 hc2
    refine wp_aload_n d_Rd_readPrimary_220 rfl rfl (g_nz (gl_1 hX 14)) ?_
    refine wp_iconst d_Rd_readPrimary_221 ?_
    refine xputZ d_Rd_readPrimary_222 gc_Rd f_Rd_79.1 f_Rd_79.2.1 f_Rd_79.2.2.1 (gl_1 hX 14) (gl_2 hX (a := 14) (by decide)) (gl_s hX 14 rfl) f_Rd_79.2.2.2.1 f_Rd_79.2.2.2.2.1 f_Rd_79.2.2.2.2.2 (⟨by decide, by decide⟩ : (0 : Int) ≤ 1 ∧ (1 : Int) ≤ 1) ?_
    exact wp_return d_Rd_readPrimary_225 rfl (fun _ => rfl) (Nat.zero_le _) (Nat.zero_le _) (kV_mk T)
  by_cases hc3 : (gUp M (c + 14) 4 (w32 ((M (c + 14) 4) + 1))) (c + 17) (Int.toNat (M (c + 14) 4)) = 16
  · refine xtabIn (tgt := 220) d_Rd_readPrimary_24 (w32_id h3) 16 hc3 rfl rfl (by decide) ?_
    have T := T3 hc3
    refine wp_aload_n d_Rd_readPrimary_220 rfl rfl (g_nz (gl_1 hX 14)) ?_
    refine wp_iconst d_Rd_readPrimary_221 ?_
    refine xputZ d_Rd_readPrimary_222 gc_Rd f_Rd_79.1 f_Rd_79.2.1 f_Rd_79.2.2.1 (gl_1 hX 14) (gl_2 hX (a := 14) (by decide)) (gl_s hX 14 rfl) f_Rd_79.2.2.2.1 f_Rd_79.2.2.2.2.1 f_Rd_79.2.2.2.2.2 (⟨by decide, by decide⟩ : (0 : Int) ≤ 1 ∧ (1 : Int) ≤ 1) ?_
    exact wp_return d_Rd_readPrimary_225 rfl (fun _ => rfl) (Nat.zero_le _) (Nat.zero_le _) (kV_mk T)
  by_cases hc4 : (gUp M (c + 14) 4 (w32 ((M (c + 14) 4) + 1))) (c + 17) (Int.toNat (M (c + 14) 4)) = 17
  · refine xtabIn (tgt := 80) d_Rd_readPrimary_24 (w32_id h3) 17 hc4 rfl rfl (by decide) ?_
    have T := T4 hc4
    refine wp_aload_n d_Rd_readPrimary_80 rfl rfl (g_nz (gl_1 hX 14)) ?_
    refine xgetR d_Rd_readPrimary_81 gc_Rd f_Rd_19.1 f_Rd_19.2.1 f_Rd_19.2.2.1 (gl_1 hX 14) (gl_2 hX (a := 14) (by decide)) (gl_s hX 14 rfl) f_Rd_19.2.2.2.2.1 (gl_f hX 16 rfl) ?_
    refine wp_iconst d_Rd_readPrimary_84 ?_
    refine wp_aload_n d_Rd_readPrimary_85 rfl rfl (g_nz (gl_1 hX 14)) ?_
    refine xgetR d_Rd_readPrimary_86 gc_Rd f_Rd_28.1 f_Rd_28.2.1 f_Rd_28.2.2.1 (gl_1 hX 14) (gl_2 hX (a := 14) (by decide)) (gl_s hX 14 rfl) f_Rd_28.2.2.2.2.1 (gl_f hX 17 rfl) ?_
    refine wp_iload_n d_Rd_readPrimary_89 rfl rfl ?_
    refine xcV_L (md' := true) (As := [gI (M (c + 14) 4)]) (st := [gI 0, gR G (c + 2)]) d_Rd_readPrimary_90 ca_Tk_numberOf ml_Rd_109 im_Tk_numberOf se_Tk_numberOf gc_Tk (gl_1 hX 16) (gl_2 hX (a := 16) (by decide)) (gl_s hX 16 rfl) rfl (by decide) (by simp only [List.map, gR_cat, gI_cat, gL_cat, List.sum_cons, List.sum_nil]; decide) rfl (fun _ => rfl) (fun _ => rfl) T (fun v7 M6 h8 T => ?_)
    refine xcV_V (md' := true) (As := [gI 0, gL v7]) (st := []) d_Rd_readPrimary_93 ca_Cn_emit ml_Rd_59 im_Cn_emit se_Cn_emit gc_Cn (gl_1 hX 2) (gl_2 hX (a := 2) (by decide)) (gl_s hX 2 rfl) rfl (by decide) (by decide) rfl (fun _ => rfl) (fun _ => rfl) T (fun M9 T => ?_)
    refine wp_goto (tgt := 225) d_Rd_readPrimary_96 (by decide) ?_
    exact wp_return d_Rd_readPrimary_225 rfl (fun _ => rfl) (Nat.zero_le _) (Nat.zero_le _) (kV_mk T)
  by_cases hc5 : (gUp M (c + 14) 4 (w32 ((M (c + 14) 4) + 1))) (c + 17) (Int.toNat (M (c + 14) 4)) = 18
  · refine xtabIn (tgt := 99) d_Rd_readPrimary_24 (w32_id h3) 18 hc5 rfl rfl (by decide) ?_
    have T := T5 hc5
    refine wp_aload_n d_Rd_readPrimary_99 rfl rfl (g_nz (gl_1 hX 14)) ?_
    refine xgetR d_Rd_readPrimary_100 gc_Rd f_Rd_19.1 f_Rd_19.2.1 f_Rd_19.2.2.1 (gl_1 hX 14) (gl_2 hX (a := 14) (by decide)) (gl_s hX 14 rfl) f_Rd_19.2.2.2.2.1 (gl_f hX 16 rfl) ?_
    refine wp_aload_n d_Rd_readPrimary_103 rfl rfl (g_nz (gl_1 hX 14)) ?_
    refine xgetR d_Rd_readPrimary_104 gc_Rd f_Rd_15.1 f_Rd_15.2.1 f_Rd_15.2.2.1 (gl_1 hX 14) (gl_2 hX (a := 14) (by decide)) (gl_s hX 14 rfl) f_Rd_15.2.2.2.2.1 (gl_f hX 15 rfl) ?_
    refine wp_aload_n d_Rd_readPrimary_107 rfl rfl (g_nz (gl_1 hX 14)) ?_
    refine xgetR d_Rd_readPrimary_108 gc_Rd f_Rd_28.1 f_Rd_28.2.1 f_Rd_28.2.2.1 (gl_1 hX 14) (gl_2 hX (a := 14) (by decide)) (gl_s hX 14 rfl) f_Rd_28.2.2.2.2.1 (gl_f hX 17 rfl) ?_
    refine xgetR d_Rd_readPrimary_111 gc_Tk f_Rd_113.1 f_Rd_113.2.1 f_Rd_113.2.2.1 (gl_1 hX 16) (gl_2 hX (a := 16) (by decide)) (gl_s hX 16 rfl) f_Rd_113.2.2.2.2.1 (gl_f hX 19 rfl) ?_
    refine wp_iload_n d_Rd_readPrimary_114 rfl rfl ?_
    refine wp_iaload d_Rd_readPrimary_115 (gl_1 hX 18) (gl_2 hX (a := 18) (by decide)) (gl_s hX 18 rfl) (g32_n T.1 (by decide)) T.1.1 T.1.2 (fun h10 => ?_)
    have T := T.2 h10
    refine wp_iconst d_Rd_readPrimary_116 ?_
    refine wp_iadd d_Rd_readPrimary_117 ?_
    refine wp_aload_n d_Rd_readPrimary_118 rfl rfl (g_nz (gl_1 hX 14)) ?_
    refine xgetR d_Rd_readPrimary_119 gc_Rd f_Rd_28.1 f_Rd_28.2.1 f_Rd_28.2.2.1 (gl_1 hX 14) (gl_2 hX (a := 14) (by decide)) (gl_s hX 14 rfl) f_Rd_28.2.2.2.2.1 (gl_f hX 17 rfl) ?_
    refine xgetR d_Rd_readPrimary_122 gc_Tk f_Rd_116.1 f_Rd_116.2.1 f_Rd_116.2.2.1 (gl_1 hX 16) (gl_2 hX (a := 16) (by decide)) (gl_s hX 16 rfl) f_Rd_116.2.2.2.2.1 (gl_f hX 20 rfl) ?_
    refine wp_iload_n d_Rd_readPrimary_125 rfl rfl ?_
    refine wp_iaload d_Rd_readPrimary_126 (gl_1 hX 19) (gl_2 hX (a := 19) (by decide)) (gl_s hX 19 rfl) (g32_n T.1 (by decide)) T.1.1 T.1.2 (fun h11 => ?_)
    have T := T.2 h11
    refine wp_aload_n d_Rd_readPrimary_127 rfl rfl (g_nz (gl_1 hX 14)) ?_
    refine xgetR d_Rd_readPrimary_128 gc_Rd f_Rd_28.1 f_Rd_28.2.1 f_Rd_28.2.2.1 (gl_1 hX 14) (gl_2 hX (a := 14) (by decide)) (gl_s hX 14 rfl) f_Rd_28.2.2.2.2.1 (gl_f hX 17 rfl) ?_
    refine xgetR d_Rd_readPrimary_131 gc_Tk f_Rd_113.1 f_Rd_113.2.1 f_Rd_113.2.2.1 (gl_1 hX 16) (gl_2 hX (a := 16) (by decide)) (gl_s hX 16 rfl) f_Rd_113.2.2.2.2.1 (gl_f hX 19 rfl) ?_
    refine wp_iload_n d_Rd_readPrimary_134 rfl rfl ?_
    refine wp_iaload d_Rd_readPrimary_135 (gl_1 hX 18) (gl_2 hX (a := 18) (by decide)) (gl_s hX 18 rfl) (g32_n T.1 (by decide)) T.1.1 T.1.2 (fun h12 => ?_)
    have T := T.2 h12
    refine wp_isub d_Rd_readPrimary_136 ?_
    refine wp_iconst d_Rd_readPrimary_137 ?_
    refine wp_isub d_Rd_readPrimary_138 ?_
    refine xcV_V (md' := true) (As := [gR G (c + 1), gI (((gUp M (c + 14) 4 (w32 ((M (c + 14) 4) + 1))) (c + 18) (Int.toNat (M (c + 14) 4))) + 1), gI ((((gUp M (c + 14) 4 (w32 ((M (c + 14) 4) + 1))) (c + 19) (Int.toNat (M (c + 14) 4))) - ((gUp M (c + 14) 4 (w32 ((M (c + 14) 4) + 1))) (c + 18) (Int.toNat (M (c + 14) 4)))) - 2)]) (st := []) d_Rd_readPrimary_139 ca_Cn_emitText ml_Rd_63 im_Cn_emitText se_Cn_emitText gc_Cn (gl_1 hX 2) (gl_2 hX (a := 2) (by decide)) (gl_s hX 2 rfl) rfl (by decide) (by decide) rfl (fun _ => rfl) (fun _ => rfl) T (fun M13 T => ?_)
    refine wp_goto (tgt := 225) d_Rd_readPrimary_142 (by decide) ?_
    exact wp_return d_Rd_readPrimary_225 rfl (fun _ => rfl) (Nat.zero_le _) (Nat.zero_le _) (kV_mk T)
  by_cases hc6 : (gUp M (c + 14) 4 (w32 ((M (c + 14) 4) + 1))) (c + 17) (Int.toNat (M (c + 14) 4)) = 19
  · refine xtabIn (tgt := 145) d_Rd_readPrimary_24 (w32_id h3) 19 hc6 rfl rfl (by decide) ?_
    have T := T6 hc6
    refine wp_aload_n d_Rd_readPrimary_145 rfl rfl (g_nz (gl_1 hX 14)) ?_
    refine xgetR d_Rd_readPrimary_146 gc_Rd f_Rd_19.1 f_Rd_19.2.1 f_Rd_19.2.2.1 (gl_1 hX 14) (gl_2 hX (a := 14) (by decide)) (gl_s hX 14 rfl) f_Rd_19.2.2.2.2.1 (gl_f hX 16 rfl) ?_
    refine wp_iconst d_Rd_readPrimary_149 ?_
    refine wp_aload_n d_Rd_readPrimary_150 rfl rfl (g_nz (gl_1 hX 14)) ?_
    refine wp_iload_n d_Rd_readPrimary_151 rfl rfl ?_
    refine wp_iconst d_Rd_readPrimary_152 ?_
    refine xcV_I (md' := true) (As := [gI (M (c + 14) 4), gI 0]) (st := [gI 4, gR G (c + 2)]) d_Rd_readPrimary_153 ca_Rd_addRef ml_Rd_119 im_Rd_addRef se_Rd_addRef gc_Rd (gl_1 hX 14) (gl_2 hX (a := 14) (by decide)) (gl_s hX 14 rfl) rfl (by decide) (by simp only [List.map, gR_cat, gI_cat, gL_cat, List.sum_cons, List.sum_nil]; decide) rfl (fun _ => rfl) (fun _ => rfl) T (fun v15 M14 h16 T => ?_)
    refine xi2l d_Rd_readPrimary_156 (w32_id h16) ?_
    refine xcV_V (md' := true) (As := [gI 4, gL v15]) (st := []) d_Rd_readPrimary_157 ca_Cn_emit ml_Rd_59 im_Cn_emit se_Cn_emit gc_Cn (gl_1 hX 2) (gl_2 hX (a := 2) (by decide)) (gl_s hX 2 rfl) rfl (by decide) (by decide) rfl (fun _ => rfl) (fun _ => rfl) T (fun M17 T => ?_)
    refine wp_goto (tgt := 225) d_Rd_readPrimary_160 (by decide) ?_
    exact wp_return d_Rd_readPrimary_225 rfl (fun _ => rfl) (Nat.zero_le _) (Nat.zero_le _) (kV_mk T)
  by_cases hc7 : (gUp M (c + 14) 4 (w32 ((M (c + 14) 4) + 1))) (c + 17) (Int.toNat (M (c + 14) 4)) = 20
  · refine xtabIn (tgt := 187) d_Rd_readPrimary_24 (w32_id h3) 20 hc7 rfl rfl (by decide) ?_
    have T := T7 hc7
    refine wp_aload_n d_Rd_readPrimary_187 rfl rfl (g_nz (gl_1 hX 14)) ?_
    refine wp_aload_n d_Rd_readPrimary_188 rfl rfl (g_nz (gl_1 hX 14)) ?_
    refine xgetR d_Rd_readPrimary_189 gc_Rd f_Rd_28.1 f_Rd_28.2.1 f_Rd_28.2.2.1 (gl_1 hX 14) (gl_2 hX (a := 14) (by decide)) (gl_s hX 14 rfl) f_Rd_28.2.2.2.2.1 (gl_f hX 17 rfl) ?_
    refine wp_iload_n d_Rd_readPrimary_192 rfl rfl ?_
    refine xcV_I (md' := true) (As := [gI (M (c + 14) 4)]) (st := [gR G (c + 14)]) d_Rd_readPrimary_193 ca_Tk_workOf ml_Rd_123 im_Tk_workOf se_Tk_workOf gc_Tk (gl_1 hX 16) (gl_2 hX (a := 16) (by decide)) (gl_s hX 16 rfl) rfl (by decide) (by simp only [List.map, gR_cat, gI_cat, gL_cat, List.sum_cons, List.sum_nil]; decide) rfl (fun _ => rfl) (fun _ => rfl) T (fun v19 M18 h20 T => ?_)
    refine wp_iload_n d_Rd_readPrimary_196 rfl rfl ?_
    refine xcV_V (md' := true) (As := [gI v19, gI x1]) (st := []) d_Rd_readPrimary_197 ca_Rd_readCall ml_Rd_127 im_Rd_readCall se_Rd_readCall gc_Rd (gl_1 hX 14) (gl_2 hX (a := 14) (by decide)) (gl_s hX 14 rfl) rfl (by decide) (by decide) rfl (fun _ => rfl) (fun _ => rfl) T (fun M21 T => ?_)
    refine wp_goto (tgt := 225) d_Rd_readPrimary_200 (by decide) ?_
    exact wp_return d_Rd_readPrimary_225 rfl (fun _ => rfl) (Nat.zero_le _) (Nat.zero_le _) (kV_mk T)
  by_cases hc8 : (gUp M (c + 14) 4 (w32 ((M (c + 14) 4) + 1))) (c + 17) (Int.toNat (M (c + 14) 4)) = 21
  · refine xtabIn (tgt := 163) d_Rd_readPrimary_24 (w32_id h3) 21 hc8 rfl rfl (by decide) ?_
    have T := T8 hc8
    refine wp_aload_n d_Rd_readPrimary_163 rfl rfl (g_nz (gl_1 hX 14)) ?_
    refine xgetR d_Rd_readPrimary_164 gc_Rd f_Rd_19.1 f_Rd_19.2.1 f_Rd_19.2.2.1 (gl_1 hX 14) (gl_2 hX (a := 14) (by decide)) (gl_s hX 14 rfl) f_Rd_19.2.2.2.2.1 (gl_f hX 16 rfl) ?_
    refine wp_iconst d_Rd_readPrimary_167 ?_
    refine wp_lconst1 d_Rd_readPrimary_168 ?_
    refine xcV_V (md' := true) (As := [gI 2, gL 1]) (st := []) d_Rd_readPrimary_169 ca_Cn_emit ml_Rd_59 im_Cn_emit se_Cn_emit gc_Cn (gl_1 hX 2) (gl_2 hX (a := 2) (by decide)) (gl_s hX 2 rfl) rfl (by decide) (by decide) rfl (fun _ => rfl) (fun _ => rfl) T (fun M22 T => ?_)
    refine wp_goto (tgt := 225) d_Rd_readPrimary_172 (by decide) ?_
    exact wp_return d_Rd_readPrimary_225 rfl (fun _ => rfl) (Nat.zero_le _) (Nat.zero_le _) (kV_mk T)
  by_cases hc9 : (gUp M (c + 14) 4 (w32 ((M (c + 14) 4) + 1))) (c + 17) (Int.toNat (M (c + 14) 4)) = 22
  · refine xtabIn (tgt := 175) d_Rd_readPrimary_24 (w32_id h3) 22 hc9 rfl rfl (by decide) ?_
    have T := T9 hc9
    refine wp_aload_n d_Rd_readPrimary_175 rfl rfl (g_nz (gl_1 hX 14)) ?_
    refine xgetR d_Rd_readPrimary_176 gc_Rd f_Rd_19.1 f_Rd_19.2.1 f_Rd_19.2.2.1 (gl_1 hX 14) (gl_2 hX (a := 14) (by decide)) (gl_s hX 14 rfl) f_Rd_19.2.2.2.2.1 (gl_f hX 16 rfl) ?_
    refine wp_iconst d_Rd_readPrimary_179 ?_
    refine wp_lconst0 d_Rd_readPrimary_180 ?_
    refine xcV_V (md' := true) (As := [gI 2, gL 0]) (st := []) d_Rd_readPrimary_181 ca_Cn_emit ml_Rd_59 im_Cn_emit se_Cn_emit gc_Cn (gl_1 hX 2) (gl_2 hX (a := 2) (by decide)) (gl_s hX 2 rfl) rfl (by decide) (by decide) rfl (fun _ => rfl) (fun _ => rfl) T (fun M23 T => ?_)
    refine wp_goto (tgt := 225) d_Rd_readPrimary_184 (by decide) ?_
    exact wp_return d_Rd_readPrimary_225 rfl (fun _ => rfl) (Nat.zero_le _) (Nat.zero_le _) (kV_mk T)
  refine xtabOut (tgt := 220) d_Rd_readPrimary_24 (w32_id h3) (by omega) (by decide) ?_
  have T := T10 ⟨hc0, hc1, hc2, hc3, hc4, hc5, hc6, hc7, hc8, hc9⟩
  refine wp_aload_n d_Rd_readPrimary_220 rfl rfl (g_nz (gl_1 hX 14)) ?_
  refine wp_iconst d_Rd_readPrimary_221 ?_
  refine xputZ d_Rd_readPrimary_222 gc_Rd f_Rd_79.1 f_Rd_79.2.1 f_Rd_79.2.2.1 (gl_1 hX 14) (gl_2 hX (a := 14) (by decide)) (gl_s hX 14 rfl) f_Rd_79.2.2.2.1 f_Rd_79.2.2.2.2.1 f_Rd_79.2.2.2.2.2 (⟨by decide, by decide⟩ : (0 : Int) ≤ 1 ∧ (1 : Int) ≤ 1) ?_
  exact wp_return d_Rd_readPrimary_225 rfl (fun _ => rfl) (Nat.zero_le _) (Nat.zero_le _) (kV_mk T)
theorem e_Rd_readPrimary {l : Launch} {G : gG} {d : Nat} {X : gX} {M : gM} {k : gM → Prop} {c : Nat} {x1 : Int} (T : wp l G y_Rd_readPrimary (gRm (d + 1)) true (kkV X k) false 0 [.val (gR G (c + 14)), .val (gI x1), .unset] [] X M 0 0) : cV l G y_Rd_readPrimary (gRm (d + 1)) true [gR G (c + 14), gI x1] X M k := cen_V (plainFor_of_name rfl) (by simp only [lg_sl_R, lg_sl_I, lg_sl_L, lg_sl_N, List.length_cons, List.length_nil]; decide) (by unfold gEn; simp only [lg_sl_R, lg_sl_I, lg_sl_L, lg_sl_N]; exact wpt T (And.intro rfl (And.intro rfl True.intro)))
theorem d_Rd_addRef_0 : decode prog_8_method_9_code 0 = .ok (.aload_n 0, 1) := by decide +kernel
theorem d_Rd_addRef_1 : decode prog_8_method_9_code 1 = .ok (.getfield 19, 3) := by decide +kernel
theorem d_Rd_addRef_4 : decode prog_8_method_9_code 4 = .ok (.aload_n 0, 1) := by decide +kernel
theorem d_Rd_addRef_5 : decode prog_8_method_9_code 5 = .ok (.getfield 28, 3) := by decide +kernel
theorem d_Rd_addRef_8 : decode prog_8_method_9_code 8 = .ok (.getfield 130, 3) := by decide +kernel
theorem d_Rd_addRef_11 : decode prog_8_method_9_code 11 = .ok (.iload_n 1, 1) := by decide +kernel
theorem d_Rd_addRef_12 : decode prog_8_method_9_code 12 = .ok (.iaload, 1) := by decide +kernel
theorem d_Rd_addRef_13 : decode prog_8_method_9_code 13 = .ok (.aload_n 0, 1) := by decide +kernel
theorem d_Rd_addRef_14 : decode prog_8_method_9_code 14 = .ok (.getfield 28, 3) := by decide +kernel
theorem d_Rd_addRef_17 : decode prog_8_method_9_code 17 = .ok (.iload_n 1, 1) := by decide +kernel
theorem d_Rd_addRef_18 : decode prog_8_method_9_code 18 = .ok (.invokevirtual 133, 3) := by decide +kernel
theorem d_Rd_addRef_21 : decode prog_8_method_9_code 21 = .ok (.iload_n 2, 1) := by decide +kernel
theorem d_Rd_addRef_22 : decode prog_8_method_9_code 22 = .ok (.ior, 1) := by decide +kernel
theorem d_Rd_addRef_23 : decode prog_8_method_9_code 23 = .ok (.invokevirtual 136, 3) := by decide +kernel
theorem d_Rd_addRef_26 : decode prog_8_method_9_code 26 = .ok (.ireturn, 1) := by decide +kernel
set_option maxHeartbeats 4000000 in
theorem w_Rd_addRef_0 {l : Launch} {G : gG} {d : Nat} {X : gX} {M : gM} {k : Int → gM → Prop} {c : Nat} (hX : glX X c) {x1 : Int} (hx1 : g32 x1) {x2 : Int} (hx2 : g32 x2)  (T : ((0 : Int) ≤ x1 ∧ x1 < 104) ∧ (g32 (M (c + 20) (Int.toNat x1)) → (cI l G y_Tk_fixedOf (gRm d) false [gR G (c + 16), gI x1] X M (fun v3 M2 => (cI l G y_Cn_addRef (gRm d) true [gR G (c + 2), gI (M (c + 20) (Int.toNat x1)), gI (gOr v3 x2)] X M2 (fun v6 M5 => (k v6 M5))))))) : wp l G y_Rd_addRef (gRm (d + 1)) true (kkI X k) false 0 [.val (gR G (c + 14)), .val (gI x1), .val (gI x2)] [] X M 0 0 := by
  refine wp_aload_n d_Rd_addRef_0 rfl rfl (g_nz (gl_1 hX 14)) ?_
  refine xgetR d_Rd_addRef_1 gc_Rd f_Rd_19.1 f_Rd_19.2.1 f_Rd_19.2.2.1 (gl_1 hX 14) (gl_2 hX (a := 14) (by decide)) (gl_s hX 14 rfl) f_Rd_19.2.2.2.2.1 (gl_f hX 16 rfl) ?_
  refine wp_aload_n d_Rd_addRef_4 rfl rfl (g_nz (gl_1 hX 14)) ?_
  refine xgetR d_Rd_addRef_5 gc_Rd f_Rd_28.1 f_Rd_28.2.1 f_Rd_28.2.2.1 (gl_1 hX 14) (gl_2 hX (a := 14) (by decide)) (gl_s hX 14 rfl) f_Rd_28.2.2.2.2.1 (gl_f hX 17 rfl) ?_
  refine xgetR d_Rd_addRef_8 gc_Tk f_Rd_130.1 f_Rd_130.2.1 f_Rd_130.2.2.1 (gl_1 hX 16) (gl_2 hX (a := 16) (by decide)) (gl_s hX 16 rfl) f_Rd_130.2.2.2.2.1 (gl_f hX 21 rfl) ?_
  refine wp_iload_n d_Rd_addRef_11 rfl rfl ?_
  refine wp_iaload d_Rd_addRef_12 (gl_1 hX 20) (gl_2 hX (a := 20) (by decide)) (gl_s hX 20 rfl) (g32_n T.1 (by decide)) T.1.1 T.1.2 (fun h1 => ?_)
  have T := T.2 h1
  refine wp_aload_n d_Rd_addRef_13 rfl rfl (g_nz (gl_1 hX 14)) ?_
  refine xgetR d_Rd_addRef_14 gc_Rd f_Rd_28.1 f_Rd_28.2.1 f_Rd_28.2.2.1 (gl_1 hX 14) (gl_2 hX (a := 14) (by decide)) (gl_s hX 14 rfl) f_Rd_28.2.2.2.2.1 (gl_f hX 17 rfl) ?_
  refine wp_iload_n d_Rd_addRef_17 rfl rfl ?_
  refine xcV_I (md' := false) (As := [gI x1]) (st := [gI (M (c + 20) (Int.toNat x1)), gR G (c + 2)]) d_Rd_addRef_18 ca_Tk_fixedOf ml_Rd_133 im_Tk_fixedOf se_Tk_fixedOf gc_Tk (gl_1 hX 16) (gl_2 hX (a := 16) (by decide)) (gl_s hX 16 rfl) rfl (by decide) (by simp only [List.map, gR_cat, gI_cat, gL_cat, List.sum_cons, List.sum_nil]; decide) rfl id id T (fun v3 M2 h4 T => ?_)
  refine wp_iload_n d_Rd_addRef_21 rfl rfl ?_
  refine wp_ior d_Rd_addRef_22 ?_
  refine xcV_I (md' := true) (As := [gI (M (c + 20) (Int.toNat x1)), gI (gOr v3 x2)]) (st := []) d_Rd_addRef_23 ca_Cn_addRef ml_Rd_136 im_Cn_addRef se_Cn_addRef gc_Cn (gl_1 hX 2) (gl_2 hX (a := 2) (by decide)) (gl_s hX 2 rfl) rfl (by decide) (by decide) rfl (fun _ => rfl) (fun _ => rfl) T (fun v6 M5 h7 T => ?_)
  exact wp_ireturn d_Rd_addRef_26 rfl (fun _ => rfl) (Nat.zero_le _) (Nat.zero_le _) (kI_mk h7 T)
theorem e_Rd_addRef {l : Launch} {G : gG} {d : Nat} {X : gX} {M : gM} {k : Int → gM → Prop} {c : Nat} {x1 : Int} {x2 : Int} (T : wp l G y_Rd_addRef (gRm (d + 1)) true (kkI X k) false 0 [.val (gR G (c + 14)), .val (gI x1), .val (gI x2)] [] X M 0 0) : cI l G y_Rd_addRef (gRm (d + 1)) true [gR G (c + 14), gI x1, gI x2] X M k := cen_I (plainFor_of_name rfl) (by simp only [lg_sl_R, lg_sl_I, lg_sl_L, lg_sl_N, List.length_cons, List.length_nil]; decide) (by unfold gEn; simp only [lg_sl_R, lg_sl_I, lg_sl_L, lg_sl_N]; exact wpt T (And.intro rfl (And.intro rfl (And.intro rfl True.intro))))
theorem d_Rd_replaceCode_0 : decode prog_8_method_11_code 0 = .ok (.aload_n 0, 1) := by decide +kernel
theorem d_Rd_replaceCode_1 : decode prog_8_method_11_code 1 = .ok (.getfield 19, 3) := by decide +kernel
theorem d_Rd_replaceCode_4 : decode prog_8_method_11_code 4 = .ok (.iload_n 1, 1) := by decide +kernel
theorem d_Rd_replaceCode_5 : decode prog_8_method_11_code 5 = .ok (.putfield 137, 3) := by decide +kernel
theorem d_Rd_replaceCode_8 : decode prog_8_method_11_code 8 = .ok (.aload_n 0, 1) := by decide +kernel
theorem d_Rd_replaceCode_9 : decode prog_8_method_11_code 9 = .ok (.getfield 19, 3) := by decide +kernel
theorem d_Rd_replaceCode_12 : decode prog_8_method_11_code 12 = .ok (.iconst 3, 1) := by decide +kernel
theorem d_Rd_replaceCode_13 : decode prog_8_method_11_code 13 = .ok (.iload_n 2, 1) := by decide +kernel
theorem d_Rd_replaceCode_14 : decode prog_8_method_11_code 14 = .ok (.i2l, 1) := by decide +kernel
theorem d_Rd_replaceCode_15 : decode prog_8_method_11_code 15 = .ok (.invokevirtual 59, 3) := by decide +kernel
theorem d_Rd_replaceCode_18 : decode prog_8_method_11_code 18 = .ok (.return_, 1) := by decide +kernel
set_option maxHeartbeats 4000000 in
theorem w_Rd_replaceCode_0 {l : Launch} {G : gG} {d : Nat} {X : gX} {M : gM} {k : gM → Prop} {c : Nat} (hX : glX X c) {x1 : Int} (hx1 : g32 x1) {x2 : Int} (hx2 : g32 x2)  (T : cV l G y_Cn_emit (gRm d) true [gR G (c + 2), gI 3, gL x2] X (gUp M (c + 2) 12 x1) (fun M1 => (k M1))) : wp l G y_Rd_replaceCode (gRm (d + 1)) true (kkV X k) false 0 [.val (gR G (c + 14)), .val (gI x1), .val (gI x2)] [] X M 0 0 := by
  refine wp_aload_n d_Rd_replaceCode_0 rfl rfl (g_nz (gl_1 hX 14)) ?_
  refine xgetR d_Rd_replaceCode_1 gc_Rd f_Rd_19.1 f_Rd_19.2.1 f_Rd_19.2.2.1 (gl_1 hX 14) (gl_2 hX (a := 14) (by decide)) (gl_s hX 14 rfl) f_Rd_19.2.2.2.2.1 (gl_f hX 16 rfl) ?_
  refine wp_iload_n d_Rd_replaceCode_4 rfl rfl ?_
  refine xputI d_Rd_replaceCode_5 gc_Cn f_Rd_137.1 f_Rd_137.2.1 f_Rd_137.2.2.1 (gl_1 hX 2) (gl_2 hX (a := 2) (by decide)) (gl_s hX 2 rfl) f_Rd_137.2.2.2.1 f_Rd_137.2.2.2.2.1 f_Rd_137.2.2.2.2.2 (w32_id hx1) ?_
  refine wp_aload_n d_Rd_replaceCode_8 rfl rfl (g_nz (gl_1 hX 14)) ?_
  refine xgetR d_Rd_replaceCode_9 gc_Rd f_Rd_19.1 f_Rd_19.2.1 f_Rd_19.2.2.1 (gl_1 hX 14) (gl_2 hX (a := 14) (by decide)) (gl_s hX 14 rfl) f_Rd_19.2.2.2.2.1 (gl_f hX 16 rfl) ?_
  refine wp_iconst d_Rd_replaceCode_12 ?_
  refine wp_iload_n d_Rd_replaceCode_13 rfl rfl ?_
  refine xi2l d_Rd_replaceCode_14 (w32_id hx2) ?_
  refine xcV_V (md' := true) (As := [gI 3, gL x2]) (st := []) d_Rd_replaceCode_15 ca_Cn_emit ml_Rd_59 im_Cn_emit se_Cn_emit gc_Cn (gl_1 hX 2) (gl_2 hX (a := 2) (by decide)) (gl_s hX 2 rfl) rfl (by decide) (by decide) rfl (fun _ => rfl) (fun _ => rfl) T (fun M1 T => ?_)
  exact wp_return d_Rd_replaceCode_18 rfl (fun _ => rfl) (Nat.zero_le _) (Nat.zero_le _) (kV_mk T)
theorem e_Rd_replaceCode {l : Launch} {G : gG} {d : Nat} {X : gX} {M : gM} {k : gM → Prop} {c : Nat} {x1 : Int} {x2 : Int} (T : wp l G y_Rd_replaceCode (gRm (d + 1)) true (kkV X k) false 0 [.val (gR G (c + 14)), .val (gI x1), .val (gI x2)] [] X M 0 0) : cV l G y_Rd_replaceCode (gRm (d + 1)) true [gR G (c + 14), gI x1, gI x2] X M k := cen_V (plainFor_of_name rfl) (by simp only [lg_sl_R, lg_sl_I, lg_sl_L, lg_sl_N, List.length_cons, List.length_nil]; decide) (by unfold gEn; simp only [lg_sl_R, lg_sl_I, lg_sl_L, lg_sl_N]; exact wpt T (And.intro rfl (And.intro rfl (And.intro rfl True.intro))))
