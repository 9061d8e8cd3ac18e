/-! Walks of the class's methods, written by wip/whole/gen_class.py -/
theorem d_Bx_open_0 : decode prog_3_method_2_code 0 = .ok (.aload_n 0, 1) := by decide +kernel
theorem d_Bx_open_1 : decode prog_3_method_2_code 1 = .ok (.getfield 9, 3) := by decide +kernel
theorem d_Bx_open_4 : decode prog_3_method_2_code 4 = .ok (.getfield 22, 3) := by decide +kernel
theorem d_Bx_open_7 : decode prog_3_method_2_code 7 = .ok (.iload_n 1, 1) := by decide +kernel
theorem d_Bx_open_8 : decode prog_3_method_2_code 8 = .ok (.laload, 1) := by decide +kernel
theorem d_Bx_open_9 : decode prog_3_method_2_code 9 = .ok (.ldc2_w 28, 3) := by decide +kernel
theorem d_Bx_open_12 : decode prog_3_method_2_code 12 = .ok (.ldiv, 1) := by decide +kernel
theorem d_Bx_open_13 : decode prog_3_method_2_code 13 = .ok (.l2i, 1) := by decide +kernel
theorem d_Bx_open_14 : decode prog_3_method_2_code 14 = .ok (.istore_n 2, 1) := by decide +kernel
theorem d_Bx_open_15 : decode prog_3_method_2_code 15 = .ok (.aload_n 0, 1) := by decide +kernel
theorem d_Bx_open_16 : decode prog_3_method_2_code 16 = .ok (.getfield 9, 3) := by decide +kernel
theorem d_Bx_open_19 : decode prog_3_method_2_code 19 = .ok (.getfield 22, 3) := by decide +kernel
theorem d_Bx_open_22 : decode prog_3_method_2_code 22 = .ok (.iload_n 1, 1) := by decide +kernel
theorem d_Bx_open_23 : decode prog_3_method_2_code 23 = .ok (.laload, 1) := by decide +kernel
theorem d_Bx_open_24 : decode prog_3_method_2_code 24 = .ok (.ldc2_w 28, 3) := by decide +kernel
theorem d_Bx_open_27 : decode prog_3_method_2_code 27 = .ok (.lrem, 1) := by decide +kernel
theorem d_Bx_open_28 : decode prog_3_method_2_code 28 = .ok (.l2i, 1) := by decide +kernel
theorem d_Bx_open_29 : decode prog_3_method_2_code 29 = .ok (.istore_n 3, 1) := by decide +kernel
theorem d_Bx_open_30 : decode prog_3_method_2_code 30 = .ok (.aload_n 0, 1) := by decide +kernel
theorem d_Bx_open_31 : decode prog_3_method_2_code 31 = .ok (.iload_n 2, 1) := by decide +kernel
theorem d_Bx_open_32 : decode prog_3_method_2_code 32 = .ok (.bipush 26, 2) := by decide +kernel
theorem d_Bx_open_34 : decode prog_3_method_2_code 34 = .ok (.irem, 1) := by decide +kernel
theorem d_Bx_open_35 : decode prog_3_method_2_code 35 = .ok (.iload_n 3, 1) := by decide +kernel
theorem d_Bx_open_36 : decode prog_3_method_2_code 36 = .ok (.bipush 26, 2) := by decide +kernel
theorem d_Bx_open_38 : decode prog_3_method_2_code 38 = .ok (.irem, 1) := by decide +kernel
theorem d_Bx_open_39 : decode prog_3_method_2_code 39 = .ok (.invokestatic 30, 3) := by decide +kernel
theorem d_Bx_open_42 : decode prog_3_method_2_code 42 = .ok (.putfield 36, 3) := by decide +kernel
theorem d_Bx_open_45 : decode prog_3_method_2_code 45 = .ok (.aload_n 0, 1) := by decide +kernel
theorem d_Bx_open_46 : decode prog_3_method_2_code 46 = .ok (.iload_n 2, 1) := by decide +kernel
theorem d_Bx_open_47 : decode prog_3_method_2_code 47 = .ok (.bipush 26, 2) := by decide +kernel
theorem d_Bx_open_49 : decode prog_3_method_2_code 49 = .ok (.irem, 1) := by decide +kernel
theorem d_Bx_open_50 : decode prog_3_method_2_code 50 = .ok (.iload_n 3, 1) := by decide +kernel
theorem d_Bx_open_51 : decode prog_3_method_2_code 51 = .ok (.bipush 26, 2) := by decide +kernel
theorem d_Bx_open_53 : decode prog_3_method_2_code 53 = .ok (.irem, 1) := by decide +kernel
theorem d_Bx_open_54 : decode prog_3_method_2_code 54 = .ok (.invokestatic 40, 3) := by decide +kernel
theorem d_Bx_open_57 : decode prog_3_method_2_code 57 = .ok (.putfield 43, 3) := by decide +kernel
theorem d_Bx_open_60 : decode prog_3_method_2_code 60 = .ok (.aload_n 0, 1) := by decide +kernel
theorem d_Bx_open_61 : decode prog_3_method_2_code 61 = .ok (.iload_n 2, 1) := by decide +kernel
theorem d_Bx_open_62 : decode prog_3_method_2_code 62 = .ok (.bipush 26, 2) := by decide +kernel
theorem d_Bx_open_64 : decode prog_3_method_2_code 64 = .ok (.idiv, 1) := by decide +kernel
theorem d_Bx_open_65 : decode prog_3_method_2_code 65 = .ok (.iload_n 3, 1) := by decide +kernel
theorem d_Bx_open_66 : decode prog_3_method_2_code 66 = .ok (.bipush 26, 2) := by decide +kernel
theorem d_Bx_open_68 : decode prog_3_method_2_code 68 = .ok (.idiv, 1) := by decide +kernel
theorem d_Bx_open_69 : decode prog_3_method_2_code 69 = .ok (.invokestatic 30, 3) := by decide +kernel
theorem d_Bx_open_72 : decode prog_3_method_2_code 72 = .ok (.putfield 46, 3) := by decide +kernel
theorem d_Bx_open_75 : decode prog_3_method_2_code 75 = .ok (.aload_n 0, 1) := by decide +kernel
theorem d_Bx_open_76 : decode prog_3_method_2_code 76 = .ok (.iload_n 2, 1) := by decide +kernel
theorem d_Bx_open_77 : decode prog_3_method_2_code 77 = .ok (.bipush 26, 2) := by decide +kernel
theorem d_Bx_open_79 : decode prog_3_method_2_code 79 = .ok (.idiv, 1) := by decide +kernel
theorem d_Bx_open_80 : decode prog_3_method_2_code 80 = .ok (.iload_n 3, 1) := by decide +kernel
theorem d_Bx_open_81 : decode prog_3_method_2_code 81 = .ok (.bipush 26, 2) := by decide +kernel
theorem d_Bx_open_83 : decode prog_3_method_2_code 83 = .ok (.idiv, 1) := by decide +kernel
theorem d_Bx_open_84 : decode prog_3_method_2_code 84 = .ok (.invokestatic 40, 3) := by decide +kernel
theorem d_Bx_open_87 : decode prog_3_method_2_code 87 = .ok (.putfield 49, 3) := by decide +kernel
theorem d_Bx_open_90 : decode prog_3_method_2_code 90 = .ok (.return_, 1) := by decide +kernel
set_option maxHeartbeats 4000000 in
theorem w_Bx_open_0 {l : Launch} {G : gG} {d : Nat} {X : gX} {M : gM} {k : gM → Prop} {c : Nat} (hX : glX X c) {x1 : Int} (hx1 : g32 x1)  (T : ((0 : Int) ≤ x1 ∧ x1 < 104) ∧ (g64 (M ((c + 1058) + 2) (Int.toNat x1)) → (((0 : Int) ≤ x1 ∧ x1 < 104) ∧ (g64 (M ((c + 1058) + 2) (Int.toNat x1)) → (cI l G y_jMath_min (gRm d) false [gI ((w32 ((M ((c + 1058) + 2) (Int.toNat x1)).tdiv 5200)).tmod 26), gI ((w32 ((M ((c + 1058) + 2) (Int.toNat x1)).tmod 5200)).tmod 26)] X M (fun v4 M3 => (cI l G y_jMath_max (gRm d) false [gI ((w32 ((M ((c + 1058) + 2) (Int.toNat x1)).tdiv 5200)).tmod 26), gI ((w32 ((M ((c + 1058) + 2) (Int.toNat x1)).tmod 5200)).tmod 26)] X (gUp M3 (c + 1167) 3 v4) (fun v7 M6 => (cI l G y_jMath_min (gRm d) false [gI ((w32 ((M ((c + 1058) + 2) (Int.toNat x1)).tdiv 5200)).tdiv 26), gI ((w32 ((M ((c + 1058) + 2) (Int.toNat x1)).tmod 5200)).tdiv 26)] X (gUp M6 (c + 1167) 4 v7) (fun v10 M9 => (cI l G y_jMath_max (gRm d) false [gI ((w32 ((M ((c + 1058) + 2) (Int.toNat x1)).tdiv 5200)).tdiv 26), gI ((w32 ((M ((c + 1058) + 2) (Int.toNat x1)).tmod 5200)).tdiv 26)] X (gUp M9 (c + 1167) 5 v10) (fun v13 M12 => (k (gUp M12 (c + 1167) 6 v13)))))))))))))) : wp l G y_Bx_open (gRm (d + 1)) true (kkV X k) false 0 [.val (gR G (c + 1167)), .val (gI x1), .unset, .unset] [] X M 0 0 := by
  refine wp_aload_n d_Bx_open_0 rfl rfl (g_nz (gl_1 hX 1167)) ?_
  refine xgetR d_Bx_open_1 gc_Bx f_Bx_9.1 f_Bx_9.2.1 f_Bx_9.2.2.1 (gl_1 hX 1167) (gl_2 hX (a := 1167) (by decide)) (gl_s hX 39 rfl) f_Bx_9.2.2.2.2.1 (gl_f hX 46 rfl) ?_
  refine xgetR d_Bx_open_4 gc_Vl f_Bx_22.1 f_Bx_22.2.1 f_Bx_22.2.2.1 (gl_stk hX).1 (gv_2 (gl_stk hX)) (gl_stk hX).2.2.1 f_Bx_22.2.2.2.2.1 (gv_r2 (gl_stk hX)).1 ?_
  refine wp_iload_n d_Bx_open_7 rfl rfl ?_
  refine wp_laload d_Bx_open_8 (gv_r2 (gl_stk hX)).2.2.1 (gv_r2 (gl_stk hX)).2.2.2 (gv_r2 (gl_stk hX)).2.1 (g32_n T.1 (gv_n (gl_stk hX))) T.1.1 T.1.2 (fun h1 => ?_)
  have T := T.2 h1
  refine wp_ldc2 (n := 5200) d_Bx_open_9 c_Bx_28 rfl ?_
  refine xldiv d_Bx_open_12 (w64_id h1) (w64_id (g64_c (x := 5200) rfl)) (by decide) ?_
  refine wp_l2i d_Bx_open_13 ?_
  refine wp_istore_n (L' := [.val (gR G (c + 1167)), .val (gI x1), .val (gI ((M ((c + 1058) + 2) (Int.toNat x1)).tdiv 5200)), .unset]) d_Bx_open_14 rfl (by decide) rfl ?_
  refine wp_aload_n d_Bx_open_15 rfl rfl (g_nz (gl_1 hX 1167)) ?_
  refine xgetR d_Bx_open_16 gc_Bx f_Bx_9.1 f_Bx_9.2.1 f_Bx_9.2.2.1 (gl_1 hX 1167) (gl_2 hX (a := 1167) (by decide)) (gl_s hX 39 rfl) f_Bx_9.2.2.2.2.1 (gl_f hX 46 rfl) ?_
  refine xgetR d_Bx_open_19 gc_Vl f_Bx_22.1 f_Bx_22.2.1 f_Bx_22.2.2.1 (gl_stk hX).1 (gv_2 (gl_stk hX)) (gl_stk hX).2.2.1 f_Bx_22.2.2.2.2.1 (gv_r2 (gl_stk hX)).1 ?_
  refine wp_iload_n d_Bx_open_22 rfl rfl ?_
  refine wp_laload d_Bx_open_23 (gv_r2 (gl_stk hX)).2.2.1 (gv_r2 (gl_stk hX)).2.2.2 (gv_r2 (gl_stk hX)).2.1 (g32_n T.1 (gv_n (gl_stk hX))) T.1.1 T.1.2 (fun h2 => ?_)
  have T := T.2 h2
  refine wp_ldc2 (n := 5200) d_Bx_open_24 c_Bx_28 rfl ?_
  refine xlrem d_Bx_open_27 (w64_id h2) (w64_id (g64_c (x := 5200) rfl)) (by decide) ?_
  refine wp_l2i d_Bx_open_28 ?_
  refine wp_istore_n (L' := [.val (gR G (c + 1167)), .val (gI x1), .val (gI ((M ((c + 1058) + 2) (Int.toNat x1)).tdiv 5200)), .val (gI ((M ((c + 1058) + 2) (Int.toNat x1)).tmod 5200))]) d_Bx_open_29 rfl (by decide) rfl ?_
  refine wp_aload_n d_Bx_open_30 rfl rfl (g_nz (gl_1 hX 1167)) ?_
  refine wp_iload_n d_Bx_open_31 rfl rfl ?_
  refine wp_bipush d_Bx_open_32 ⟨by decide, by decide⟩ ?_
  refine xirem d_Bx_open_34 rfl (w32_id (g32_c (x := 26) rfl)) (by decide) ?_
  refine wp_iload_n d_Bx_open_35 rfl rfl ?_
  refine wp_bipush d_Bx_open_36 ⟨by decide, by decide⟩ ?_
  refine xirem d_Bx_open_38 rfl (w32_id (g32_c (x := 26) rfl)) (by decide) ?_
  refine xcS_I (md' := false) (As := [gI ((w32 ((M ((c + 1058) + 2) (Int.toNat x1)).tdiv 5200)).tmod 26), gI ((w32 ((M ((c + 1058) + 2) (Int.toNat x1)).tmod 5200)).tmod 26)]) (st := [gR G (c + 1167)]) d_Bx_open_39 ca_jMath_min ml_Bx_30 sm_jMath_min rfl (by decide) (by simp only [List.map, gR_cat, gI_cat, gL_cat, List.sum_cons, List.sum_nil]; decide) rfl id id T (fun v4 M3 h5 T => ?_)
  refine xputI d_Bx_open_42 gc_Bx f_Bx_36.1 f_Bx_36.2.1 f_Bx_36.2.2.1 (gl_1 hX 1167) (gl_2 hX (a := 1167) (by decide)) (gl_s hX 39 rfl) f_Bx_36.2.2.2.1 f_Bx_36.2.2.2.2.1 f_Bx_36.2.2.2.2.2 (w32_id h5) ?_
  refine wp_aload_n d_Bx_open_45 rfl rfl (g_nz (gl_1 hX 1167)) ?_
  refine wp_iload_n d_Bx_open_46 rfl rfl ?_
  refine wp_bipush d_Bx_open_47 ⟨by decide, by decide⟩ ?_
  refine xirem d_Bx_open_49 rfl (w32_id (g32_c (x := 26) rfl)) (by decide) ?_
  refine wp_iload_n d_Bx_open_50 rfl rfl ?_
  refine wp_bipush d_Bx_open_51 ⟨by decide, by decide⟩ ?_
  refine xirem d_Bx_open_53 rfl (w32_id (g32_c (x := 26) rfl)) (by decide) ?_
  refine xcS_I (md' := true) (As := [gI ((w32 ((M ((c + 1058) + 2) (Int.toNat x1)).tdiv 5200)).tmod 26), gI ((w32 ((M ((c + 1058) + 2) (Int.toNat x1)).tmod 5200)).tmod 26)]) (st := [gR G (c + 1167)]) d_Bx_open_54 ca_jMath_max ml_Bx_40 sm_jMath_max rfl (by decide) (by simp only [List.map, gR_cat, gI_cat, gL_cat, List.sum_cons, List.sum_nil]; decide) rfl (fun _ => rfl) (fun _ => rfl) T (fun v7 M6 h8 T => ?_)
  refine xputI d_Bx_open_57 gc_Bx f_Bx_43.1 f_Bx_43.2.1 f_Bx_43.2.2.1 (gl_1 hX 1167) (gl_2 hX (a := 1167) (by decide)) (gl_s hX 39 rfl) f_Bx_43.2.2.2.1 f_Bx_43.2.2.2.2.1 f_Bx_43.2.2.2.2.2 (w32_id h8) ?_
  refine wp_aload_n d_Bx_open_60 rfl rfl (g_nz (gl_1 hX 1167)) ?_
  refine wp_iload_n d_Bx_open_61 rfl rfl ?_
  refine wp_bipush d_Bx_open_62 ⟨by decide, by decide⟩ ?_
  refine xidiv d_Bx_open_64 rfl (w32_id (g32_c (x := 26) rfl)) (by decide) ?_
  refine wp_iload_n d_Bx_open_65 rfl rfl ?_
  refine wp_bipush d_Bx_open_66 ⟨by decide, by decide⟩ ?_
  refine xidiv d_Bx_open_68 rfl (w32_id (g32_c (x := 26) rfl)) (by decide) ?_
  refine xcS_I (md' := true) (As := [gI ((w32 ((M ((c + 1058) + 2) (Int.toNat x1)).tdiv 5200)).tdiv 26), gI ((w32 ((M ((c + 1058) + 2) (Int.toNat x1)).tmod 5200)).tdiv 26)]) (st := [gR G (c + 1167)]) d_Bx_open_69 ca_jMath_min ml_Bx_30 sm_jMath_min rfl (by decide) (by simp only [List.map, gR_cat, gI_cat, gL_cat, List.sum_cons, List.sum_nil]; decide) rfl (fun _ => rfl) (fun _ => rfl) T (fun v10 M9 h11 T => ?_)
  refine xputI d_Bx_open_72 gc_Bx f_Bx_46.1 f_Bx_46.2.1 f_Bx_46.2.2.1 (gl_1 hX 1167) (gl_2 hX (a := 1167) (by decide)) (gl_s hX 39 rfl) f_Bx_46.2.2.2.1 f_Bx_46.2.2.2.2.1 f_Bx_46.2.2.2.2.2 (w32_id h11) ?_
  refine wp_aload_n d_Bx_open_75 rfl rfl (g_nz (gl_1 hX 1167)) ?_
  refine wp_iload_n d_Bx_open_76 rfl rfl ?_
  refine wp_bipush d_Bx_open_77 ⟨by decide, by decide⟩ ?_
  refine xidiv d_Bx_open_79 rfl (w32_id (g32_c (x := 26) rfl)) (by decide) ?_
  refine wp_iload_n d_Bx_open_80 rfl rfl ?_
  refine wp_bipush d_Bx_open_81 ⟨by decide, by decide⟩ ?_
  refine xidiv d_Bx_open_83 rfl (w32_id (g32_c (x := 26) rfl)) (by decide) ?_
  refine xcS_I (md' := true) (As := [gI ((w32 ((M ((c + 1058) + 2) (Int.toNat x1)).tdiv 5200)).tdiv 26), gI ((w32 ((M ((c + 1058) + 2) (Int.toNat x1)).tmod 5200)).tdiv 26)]) (st := [gR G (c + 1167)]) d_Bx_open_84 ca_jMath_max ml_Bx_40 sm_jMath_max rfl (by decide) (by simp only [List.map, gR_cat, gI_cat, gL_cat, List.sum_cons, List.sum_nil]; decide) rfl (fun _ => rfl) (fun _ => rfl) T (fun v13 M12 h14 T => ?_)
  refine xputI d_Bx_open_87 gc_Bx f_Bx_49.1 f_Bx_49.2.1 f_Bx_49.2.2.1 (gl_1 hX 1167) (gl_2 hX (a := 1167) (by decide)) (gl_s hX 39 rfl) f_Bx_49.2.2.2.1 f_Bx_49.2.2.2.2.1 f_Bx_49.2.2.2.2.2 (w32_id h14) ?_
  exact wp_return d_Bx_open_90 rfl (fun _ => rfl) (Nat.zero_le _) (Nat.zero_le _) (kV_mk T)
theorem e_Bx_open {l : Launch} {G : gG} {d : Nat} {X : gX} {M : gM} {k : gM → Prop} {c : Nat} {x1 : Int} (T : wp l G y_Bx_open (gRm (d + 1)) true (kkV X k) false 0 [.val (gR G (c + 1167)), .val (gI x1), .unset, .unset] [] X M 0 0) : cV l G y_Bx_open (gRm (d + 1)) true [gR G (c + 1167), gI x1] X M k := cen_V (plainFor_of_name rfl) (by simp only [lg_sl_R, lg_sl_I, lg_sl_L, lg_sl_N, List.length_cons, List.length_nil]; decide) (by unfold gEn; simp only [lg_sl_R, lg_sl_I, lg_sl_L, lg_sl_N]; exact wpt T (And.intro rfl (And.intro rfl True.intro)))
theorem d_Bx_firstError_0 : decode prog_3_method_4_code 0 = .ok (.aload_n 0, 1) := by decide +kernel
theorem d_Bx_firstError_1 : decode prog_3_method_4_code 1 = .ok (.getfield 46, 3) := by decide +kernel
theorem d_Bx_firstError_4 : decode prog_3_method_4_code 4 = .ok (.istore_n 1, 1) := by decide +kernel
theorem d_Bx_firstError_5 : decode prog_3_method_4_code 5 = .ok (.iload_n 1, 1) := by decide +kernel
theorem d_Bx_firstError_6 : decode prog_3_method_4_code 6 = .ok (.aload_n 0, 1) := by decide +kernel
theorem d_Bx_firstError_7 : decode prog_3_method_4_code 7 = .ok (.getfield 49, 3) := by decide +kernel
theorem d_Bx_firstError_10 : decode prog_3_method_4_code 10 = .ok (.if_icmp .gt 54, 3) := by decide +kernel
theorem d_Bx_firstError_64 : decode prog_3_method_4_code 64 = .ok (.iconst (-1), 1) := by decide +kernel
theorem d_Bx_firstError_65 : decode prog_3_method_4_code 65 = .ok (.ireturn, 1) := by decide +kernel
theorem d_Bx_firstError_13 : decode prog_3_method_4_code 13 = .ok (.aload_n 0, 1) := by decide +kernel
theorem d_Bx_firstError_14 : decode prog_3_method_4_code 14 = .ok (.getfield 36, 3) := by decide +kernel
theorem d_Bx_firstError_17 : decode prog_3_method_4_code 17 = .ok (.istore_n 2, 1) := by decide +kernel
theorem d_Bx_firstError_18 : decode prog_3_method_4_code 18 = .ok (.iload_n 2, 1) := by decide +kernel
theorem d_Bx_firstError_19 : decode prog_3_method_4_code 19 = .ok (.aload_n 0, 1) := by decide +kernel
theorem d_Bx_firstError_20 : decode prog_3_method_4_code 20 = .ok (.getfield 43, 3) := by decide +kernel
theorem d_Bx_firstError_23 : decode prog_3_method_4_code 23 = .ok (.if_icmp .gt 35, 3) := by decide +kernel
theorem d_Bx_firstError_58 : decode prog_3_method_4_code 58 = .ok (.iinc 1 1, 3) := by decide +kernel
theorem d_Bx_firstError_61 : decode prog_3_method_4_code 61 = .ok (.goto (-56), 3) := by decide +kernel
theorem d_Bx_firstError_26 : decode prog_3_method_4_code 26 = .ok (.aload_n 0, 1) := by decide +kernel
theorem d_Bx_firstError_27 : decode prog_3_method_4_code 27 = .ok (.getfield 15, 3) := by decide +kernel
theorem d_Bx_firstError_30 : decode prog_3_method_4_code 30 = .ok (.iload_n 2, 1) := by decide +kernel
theorem d_Bx_firstError_31 : decode prog_3_method_4_code 31 = .ok (.iload_n 1, 1) := by decide +kernel
theorem d_Bx_firstError_32 : decode prog_3_method_4_code 32 = .ok (.invokestatic 70, 3) := by decide +kernel
theorem d_Bx_firstError_35 : decode prog_3_method_4_code 35 = .ok (.iaload, 1) := by decide +kernel
theorem d_Bx_firstError_36 : decode prog_3_method_4_code 36 = .ok (.istore_n 3, 1) := by decide +kernel
theorem d_Bx_firstError_37 : decode prog_3_method_4_code 37 = .ok (.aload_n 0, 1) := by decide +kernel
theorem d_Bx_firstError_38 : decode prog_3_method_4_code 38 = .ok (.getfield 19, 3) := by decide +kernel
theorem d_Bx_firstError_41 : decode prog_3_method_4_code 41 = .ok (.getfield 73, 3) := by decide +kernel
theorem d_Bx_firstError_44 : decode prog_3_method_4_code 44 = .ok (.iload_n 3, 1) := by decide +kernel
theorem d_Bx_firstError_45 : decode prog_3_method_4_code 45 = .ok (.iaload, 1) := by decide +kernel
theorem d_Bx_firstError_46 : decode prog_3_method_4_code 46 = .ok (.iconst 4, 1) := by decide +kernel
theorem d_Bx_firstError_47 : decode prog_3_method_4_code 47 = .ok (.if_icmp .ne 5, 3) := by decide +kernel
theorem d_Bx_firstError_52 : decode prog_3_method_4_code 52 = .ok (.iinc 2 1, 3) := by decide +kernel
theorem d_Bx_firstError_55 : decode prog_3_method_4_code 55 = .ok (.goto (-37), 3) := by decide +kernel
theorem d_Bx_firstError_50 : decode prog_3_method_4_code 50 = .ok (.iload_n 3, 1) := by decide +kernel
theorem d_Bx_firstError_51 : decode prog_3_method_4_code 51 = .ok (.ireturn, 1) := by decide +kernel
set_option maxHeartbeats 4000000 in
theorem w_Bx_firstError_0 {l : Launch} {G : gG} {d : Nat} {X : gX} {M : gM} {k : Int → gM → Prop} {c : Nat} (hX : glX X c)   (T : g32 (M (c + 1167) 5) → (wp l G y_Bx_firstError (gRm (d + 1)) false (kkI X k) false 5 [.val (gR G (c + 1167)), .val (gI (M (c + 1167) 5)), .unset, .unset] [] X M 0 0)) : wp l G y_Bx_firstError (gRm (d + 1)) false (kkI X k) false 0 [.val (gR G (c + 1167)), .unset, .unset, .unset] [] X M 0 0 := by
  refine wp_aload_n d_Bx_firstError_0 rfl rfl (g_nz (gl_1 hX 1167)) ?_
  refine xgetI d_Bx_firstError_1 gc_Bx f_Bx_46.1 f_Bx_46.2.1 f_Bx_46.2.2.1 (gl_1 hX 1167) (gl_2 hX (a := 1167) (by decide)) (gl_s hX 39 rfl) f_Bx_46.2.2.2.2.1 (fun h1 => ?_)
  have T := T h1
  refine wp_istore_n (L' := [.val (gR G (c + 1167)), .val (gI (M (c + 1167) 5)), .unset, .unset]) d_Bx_firstError_4 rfl (by decide) (gS1_R rfl rfl) ?_
  exact (wpt T (And.intro rfl (And.intro rfl True.intro)))
set_option maxHeartbeats 4000000 in
theorem w_Bx_firstError_5 {l : Launch} {G : gG} {d : Nat} {X : gX} {M : gM} {k : Int → gM → Prop} {c : Nat} (hX : glX X c) {x1 : Int} (hx1 : g32 x1)  (T : g32 (M (c + 1167) 6) → ((M (c + 1167) 6 < x1 → (k (-1) M)) ∧ (¬ M (c + 1167) 6 < x1 → (g32 (M (c + 1167) 3) → (wp l G y_Bx_firstError (gRm (d + 1)) false (kkI X k) false 18 [.val (gR G (c + 1167)), .val (gI x1), .val (gI (M (c + 1167) 3)), .unset] [] X M 0 0))))) : wp l G y_Bx_firstError (gRm (d + 1)) false (kkI X k) false 5 [.val (gR G (c + 1167)), .val (gI x1), .unset, .unset] [] X M 0 0 := by
  refine wp_iload_n d_Bx_firstError_5 rfl rfl ?_
  refine wp_aload_n d_Bx_firstError_6 rfl rfl (g_nz (gl_1 hX 1167)) ?_
  refine xgetI d_Bx_firstError_7 gc_Bx f_Bx_49.1 f_Bx_49.2.1 f_Bx_49.2.2.1 (gl_1 hX 1167) (gl_2 hX (a := 1167) (by decide)) (gl_s hX 39 rfl) f_Bx_49.2.2.2.2.1 (fun h2 => ?_)
  have T := T h2
  refine xi_gt (tgt := 64) d_Bx_firstError_10 (by decide) (w32_id hx1) (w32_id h2) (fun h4 => ?_) (fun h4 => ?_)
  · have T := T.1 h4
    refine wp_iconst d_Bx_firstError_64 ?_
    exact wp_ireturn d_Bx_firstError_65 rfl id (Nat.zero_le _) (Nat.zero_le _) (kI_mk (g32_c (x := (-1)) rfl) T)
  · have T := T.2 h4
    refine wp_aload_n d_Bx_firstError_13 rfl rfl (g_nz (gl_1 hX 1167)) ?_
    refine xgetI d_Bx_firstError_14 gc_Bx f_Bx_36.1 f_Bx_36.2.1 f_Bx_36.2.2.1 (gl_1 hX 1167) (gl_2 hX (a := 1167) (by decide)) (gl_s hX 39 rfl) f_Bx_36.2.2.2.2.1 (fun h3 => ?_)
    have T := T h3
    refine wp_istore_n (L' := [.val (gR G (c + 1167)), .val (gI x1), .val (gI (M (c + 1167) 3)), .unset]) d_Bx_firstError_17 rfl (by decide) rfl ?_
    exact (wpt T (And.intro rfl (And.intro rfl (And.intro rfl True.intro))))
set_option maxHeartbeats 4000000 in
theorem w_Bx_firstError_18 {l : Launch} {G : gG} {d : Nat} {X : gX} {M : gM} {k : Int → gM → Prop} {c : Nat} (hX : glX X c) {x1 : Int} (hx1 : g32 x1) {x2 : Int} (hx2 : g32 x2) {v0 : Nat} (hv0 : X.2.2 (c + 1167) 2 = v0 ∧ gvX X v0 401) (T : g32 (M (c + 1167) 4) → ((M (c + 1167) 4 < x2 → (wp l G y_Bx_firstError (gRm (d + 1)) false (kkI X k) false 5 [.val (gR G (c + 1167)), .val (gI (w32 (x1 + 1))), .unset, .unset] [] X M 0 0)) ∧ (¬ M (c + 1167) 4 < x2 → (cI l G y_GL_place (gRm d) false [gI x2, gI x1] X M (fun v7 M6 => (((0 : Int) ≤ v7 ∧ v7 < 5200) ∧ (g32 (M6 (c + 235) (Int.toNat v7)) → (((0 : Int) ≤ M6 (c + 235) (Int.toNat v7) ∧ M6 (c + 235) (Int.toNat v7) < 401) ∧ (g32 (M6 (v0 + 1) (Int.toNat (M6 (c + 235) (Int.toNat v7)))) → ((¬ M6 (v0 + 1) (Int.toNat (M6 (c + 235) (Int.toNat v7))) = 4 → (wp l G y_Bx_firstError (gRm (d + 1)) false (kkI X k) false 18 [.val (gR G (c + 1167)), .val (gI x1), .val (gI (w32 (x2 + 1))), .unset] [] X M6 0 0)) ∧ (M6 (v0 + 1) (Int.toNat (M6 (c + 235) (Int.toNat v7))) = 4 → (k (M6 (c + 235) (Int.toNat v7)) M6)))))))))))) : wp l G y_Bx_firstError (gRm (d + 1)) false (kkI X k) false 18 [.val (gR G (c + 1167)), .val (gI x1), .val (gI x2), .unset] [] X M 0 0 := by
  refine wp_iload_n d_Bx_firstError_18 rfl rfl ?_
  refine wp_aload_n d_Bx_firstError_19 rfl rfl (g_nz (gl_1 hX 1167)) ?_
  refine xgetI d_Bx_firstError_20 gc_Bx f_Bx_43.1 f_Bx_43.2.1 f_Bx_43.2.2.1 (gl_1 hX 1167) (gl_2 hX (a := 1167) (by decide)) (gl_s hX 39 rfl) f_Bx_43.2.2.2.2.1 (fun h5 => ?_)
  have T := T h5
  refine xi_gt (tgt := 58) d_Bx_firstError_23 (by decide) (w32_id hx2) (w32_id h5) (fun h12 => ?_) (fun h12 => ?_)
  · have T := T.1 h12
    refine wp_iinc (L' := [.val (gR G (c + 1167)), .val (gI (x1 + 1)), .val (gI x2), .unset]) d_Bx_firstError_58 rfl (by decide) (gS1_R rfl rfl) ?_
    refine wp_goto (tgt := 5) d_Bx_firstError_61 (by decide) ?_
    exact (wpt T (And.intro rfl (And.intro (gI_w _) True.intro)))
  · have T := T.2 h12
    refine wp_aload_n d_Bx_firstError_26 rfl rfl (g_nz (gl_1 hX 1167)) ?_
    refine xgetR d_Bx_firstError_27 gc_Bx f_Bx_15.1 f_Bx_15.2.1 f_Bx_15.2.2.1 (gl_1 hX 1167) (gl_2 hX (a := 1167) (by decide)) (gl_s hX 39 rfl) f_Bx_15.2.2.2.2.1 (gl_f hX 47 rfl) ?_
    refine wp_iload_n d_Bx_firstError_30 rfl rfl ?_
    refine wp_iload_n d_Bx_firstError_31 rfl rfl ?_
    refine xcN_I (md' := false) (As := [gI x2, gI x1]) (st := [gR G (c + 235)]) d_Bx_firstError_32 ca_GL_place ml_Bx_70 sm_GL_place rfl (by decide) (by simp only [List.map, gR_cat, gI_cat, gL_cat, List.sum_cons, List.sum_nil]; decide) rfl id id T (fun v7 M6 h8 T => ?_)
    refine wp_iaload d_Bx_firstError_35 (gl_1 hX 235) (gl_2 hX (a := 235) (by decide)) (gl_s hX 25 rfl) (g32_n T.1 (by decide)) T.1.1 T.1.2 (fun h9 => ?_)
    have T := T.2 h9
    refine wp_istore_n (L' := [.val (gR G (c + 1167)), .val (gI x1), .val (gI x2), .val (gI (M6 (c + 235) (Int.toNat v7)))]) d_Bx_firstError_36 rfl (by decide) rfl ?_
    refine wp_aload_n d_Bx_firstError_37 rfl rfl (g_nz (gl_1 hX 1167)) ?_
    refine xgetR d_Bx_firstError_38 gc_Bx f_Bx_19.1 f_Bx_19.2.1 f_Bx_19.2.2.1 (gl_1 hX 1167) (gl_2 hX (a := 1167) (by decide)) (gl_s hX 39 rfl) f_Bx_19.2.2.2.2.1 hv0.1 ?_
    refine xgetR d_Bx_firstError_41 gc_Vl f_Bx_73.1 f_Bx_73.2.1 f_Bx_73.2.2.1 hv0.2.1 (gv_2 hv0.2) hv0.2.2.2.1 f_Bx_73.2.2.2.2.1 (gv_r1 hv0.2).1 ?_
    refine wp_iload_n d_Bx_firstError_44 rfl rfl ?_
    refine wp_iaload d_Bx_firstError_45 (gv_r1 hv0.2).2.2.1 (gv_r1 hv0.2).2.2.2 (gv_r1 hv0.2).2.1 (g32_n T.1 (gv_n hv0.2)) T.1.1 T.1.2 (fun h10 => ?_)
    have T := T.2 h10
    refine wp_iconst d_Bx_firstError_46 ?_
    refine xi_ne (tgt := 52) d_Bx_firstError_47 (by decide) (w32_id h10) (w32_id (g32_c (x := 4) rfl)) (fun h11 => ?_) (fun h11 => ?_)
    · have T := T.1 h11
      refine wp_iinc (L' := [.val (gR G (c + 1167)), .val (gI x1), .val (gI (x2 + 1)), .val (gI (M6 (c + 235) (Int.toNat v7)))]) d_Bx_firstError_52 rfl (by decide) rfl ?_
      refine wp_goto (tgt := 18) d_Bx_firstError_55 (by decide) ?_
      exact (wpt T (And.intro rfl (And.intro rfl (And.intro (gI_w _) True.intro))))
    · have T := T.2 h11
      refine wp_iload_n d_Bx_firstError_50 rfl rfl ?_
      exact wp_ireturn d_Bx_firstError_51 rfl id (Nat.zero_le _) (Nat.zero_le _) (kI_mk h9 T)
theorem e_Bx_firstError {l : Launch} {G : gG} {d : Nat} {X : gX} {M : gM} {k : Int → gM → Prop} {c : Nat} (T : wp l G y_Bx_firstError (gRm (d + 1)) false (kkI X k) false 0 [.val (gR G (c + 1167)), .unset, .unset, .unset] [] X M 0 0) : cI l G y_Bx_firstError (gRm (d + 1)) false [gR G (c + 1167)] X M k := cen_I (plainFor_of_name rfl) (by simp only [lg_sl_R, lg_sl_I, lg_sl_L, lg_sl_N, List.length_cons, List.length_nil]; decide) (by unfold gEn; simp only [lg_sl_R, lg_sl_I, lg_sl_L, lg_sl_N]; exact wpt T (And.intro rfl True.intro))
theorem d_Bx_average_0 : decode prog_3_method_7_code 0 = .ok (.iload 4, 2) := by decide +kernel
theorem d_Bx_average_2 : decode prog_3_method_7_code 2 = .ok (.ifCond .ne 18, 3) := by decide +kernel
theorem d_Bx_average_20 : decode prog_3_method_7_code 20 = .ok (.aload_n 0, 1) := by decide +kernel
theorem d_Bx_average_21 : decode prog_3_method_7_code 21 = .ok (.getfield 9, 3) := by decide +kernel
theorem d_Bx_average_24 : decode prog_3_method_7_code 24 = .ok (.iload_n 1, 1) := by decide +kernel
theorem d_Bx_average_25 : decode prog_3_method_7_code 25 = .ok (.iconst 1, 1) := by decide +kernel
theorem d_Bx_average_26 : decode prog_3_method_7_code 26 = .ok (.lload_n 2, 1) := by decide +kernel
theorem d_Bx_average_27 : decode prog_3_method_7_code 27 = .ok (.iload 4, 2) := by decide +kernel
theorem d_Bx_average_29 : decode prog_3_method_7_code 29 = .ok (.i2l, 1) := by decide +kernel
theorem d_Bx_average_30 : decode prog_3_method_7_code 30 = .ok (.ldiv, 1) := by decide +kernel
theorem d_Bx_average_31 : decode prog_3_method_7_code 31 = .ok (.invokevirtual 60, 3) := by decide +kernel
theorem d_Bx_average_34 : decode prog_3_method_7_code 34 = .ok (.return_, 1) := by decide +kernel
theorem d_Bx_average_5 : decode prog_3_method_7_code 5 = .ok (.aload_n 0, 1) := by decide +kernel
theorem d_Bx_average_6 : decode prog_3_method_7_code 6 = .ok (.getfield 9, 3) := by decide +kernel
theorem d_Bx_average_9 : decode prog_3_method_7_code 9 = .ok (.iload_n 1, 1) := by decide +kernel
theorem d_Bx_average_10 : decode prog_3_method_7_code 10 = .ok (.iconst 4, 1) := by decide +kernel
theorem d_Bx_average_11 : decode prog_3_method_7_code 11 = .ok (.ldc2_w 113, 3) := by decide +kernel
theorem d_Bx_average_14 : decode prog_3_method_7_code 14 = .ok (.invokevirtual 60, 3) := by decide +kernel
theorem d_Bx_average_17 : decode prog_3_method_7_code 17 = .ok (.goto 17, 3) := by decide +kernel
set_option maxHeartbeats 4000000 in
theorem w_Bx_average_0 {l : Launch} {G : gG} {d : Nat} {X : gX} {M : gM} {k : gM → Prop} {c : Nat} (hX : glX X c) {x1 : Int} (hx1 : g32 x1) {x2 : Int} (hx2 : g64 x2) {x4 : Int} (hx4 : g32 x4)  (T : (¬ x4 = 0 → ((x4 ≠ 0) ∧ (cV l G y_Vl_set (gRm d) true [gR G (c + 1058), gI x1, gI 1, gL (x2.tdiv x4)] X M (fun M1 => (k M1))))) ∧ (x4 = 0 → (cV l G y_Vl_set (gRm d) true [gR G (c + 1058), gI x1, gI 4, gL 5] X M (fun M2 => (k M2))))) : wp l G y_Bx_average (gRm (d + 1)) true (kkV X k) false 0 [.val (gR G (c + 1167)), .val (gI x1), .val (gL x2), .unset, .val (gI x4)] [] X M 0 0 := by
  refine wp_iload d_Bx_average_0 rfl ?_
  refine xz_ne (tgt := 20) d_Bx_average_2 (by decide) (w32_id hx4) (fun h3 => ?_) (fun h3 => ?_)
  · have T := T.1 h3
    refine wp_aload_n d_Bx_average_20 rfl rfl (g_nz (gl_1 hX 1167)) ?_
    refine xgetR d_Bx_average_21 gc_Bx f_Bx_9.1 f_Bx_9.2.1 f_Bx_9.2.2.1 (gl_1 hX 1167) (gl_2 hX (a := 1167) (by decide)) (gl_s hX 39 rfl) f_Bx_9.2.2.2.2.1 (gl_f hX 46 rfl) ?_
    refine wp_iload_n d_Bx_average_24 rfl rfl ?_
    refine wp_iconst d_Bx_average_25 ?_
    refine wp_lload_n d_Bx_average_26 rfl rfl ?_
    refine wp_iload d_Bx_average_27 rfl ?_
    refine xi2l d_Bx_average_29 (w32_id hx4) ?_
    refine xldiv d_Bx_average_30 (w64_id hx2) (w64_id (g64_32 hx4)) T.1 ?_
    have T := T.2
    refine xcV_V (md' := true) (As := [gI x1, gI 1, gL (x2.tdiv x4)]) (st := []) d_Bx_average_31 ca_Vl_set ml_Bx_60 im_Vl_set se_Vl_set gc_Vl (gl_stk hX).1 (gv_2 (gl_stk hX)) (gl_stk hX).2.2.1 rfl (by decide) (by decide) rfl (fun _ => rfl) (fun _ => rfl) T (fun M1 T => ?_)
    exact wp_return d_Bx_average_34 rfl (fun _ => rfl) (Nat.zero_le _) (Nat.zero_le _) (kV_mk T)
  · have T := T.2 h3
    refine wp_aload_n d_Bx_average_5 rfl rfl (g_nz (gl_1 hX 1167)) ?_
    refine xgetR d_Bx_average_6 gc_Bx f_Bx_9.1 f_Bx_9.2.1 f_Bx_9.2.2.1 (gl_1 hX 1167) (gl_2 hX (a := 1167) (by decide)) (gl_s hX 39 rfl) f_Bx_9.2.2.2.2.1 (gl_f hX 46 rfl) ?_
    refine wp_iload_n d_Bx_average_9 rfl rfl ?_
    refine wp_iconst d_Bx_average_10 ?_
    refine wp_ldc2 (n := 5) d_Bx_average_11 c_Bx_113 rfl ?_
    refine xcV_V (md' := true) (As := [gI x1, gI 4, gL 5]) (st := []) d_Bx_average_14 ca_Vl_set ml_Bx_60 im_Vl_set se_Vl_set gc_Vl (gl_stk hX).1 (gv_2 (gl_stk hX)) (gl_stk hX).2.2.1 rfl (by decide) (by decide) rfl (fun _ => rfl) (fun _ => rfl) T (fun M2 T => ?_)
    refine wp_goto (tgt := 34) d_Bx_average_17 (by decide) ?_
    exact wp_return d_Bx_average_34 rfl (fun _ => rfl) (Nat.zero_le _) (Nat.zero_le _) (kV_mk T)
theorem e_Bx_average {l : Launch} {G : gG} {d : Nat} {X : gX} {M : gM} {k : gM → Prop} {c : Nat} {x1 : Int} {x2 : Int} {x4 : Int} (T : wp l G y_Bx_average (gRm (d + 1)) true (kkV X k) false 0 [.val (gR G (c + 1167)), .val (gI x1), .val (gL x2), .unset, .val (gI x4)] [] X M 0 0) : cV l G y_Bx_average (gRm (d + 1)) true [gR G (c + 1167), gI x1, gL x2, gI x4] X M k := cen_V (plainFor_of_name rfl) (by simp only [lg_sl_R, lg_sl_I, lg_sl_L, lg_sl_N, List.length_cons, List.length_nil]; decide) (by unfold gEn; simp only [lg_sl_R, lg_sl_I, lg_sl_L, lg_sl_N]; exact wpt T (And.intro rfl (And.intro rfl (And.intro rfl (And.intro rfl True.intro)))))
theorem d_Bx_ofKind_0 : decode prog_3_method_10_code 0 = .ok (.iconst 0, 1) := by decide +kernel
theorem d_Bx_ofKind_1 : decode prog_3_method_10_code 1 = .ok (.istore_n 2, 1) := by decide +kernel
theorem d_Bx_ofKind_2 : decode prog_3_method_10_code 2 = .ok (.aload_n 0, 1) := by decide +kernel
theorem d_Bx_ofKind_3 : decode prog_3_method_10_code 3 = .ok (.getfield 46, 3) := by decide +kernel
theorem d_Bx_ofKind_6 : decode prog_3_method_10_code 6 = .ok (.istore_n 3, 1) := by decide +kernel
theorem d_Bx_ofKind_7 : decode prog_3_method_10_code 7 = .ok (.iload_n 3, 1) := by decide +kernel
theorem d_Bx_ofKind_8 : decode prog_3_method_10_code 8 = .ok (.aload_n 0, 1) := by decide +kernel
theorem d_Bx_ofKind_9 : decode prog_3_method_10_code 9 = .ok (.getfield 49, 3) := by decide +kernel
theorem d_Bx_ofKind_12 : decode prog_3_method_10_code 12 = .ok (.if_icmp .gt 56, 3) := by decide +kernel
theorem d_Bx_ofKind_68 : decode prog_3_method_10_code 68 = .ok (.iload_n 2, 1) := by decide +kernel
theorem d_Bx_ofKind_69 : decode prog_3_method_10_code 69 = .ok (.ireturn, 1) := by decide +kernel
theorem d_Bx_ofKind_15 : decode prog_3_method_10_code 15 = .ok (.aload_n 0, 1) := by decide +kernel
theorem d_Bx_ofKind_16 : decode prog_3_method_10_code 16 = .ok (.getfield 36, 3) := by decide +kernel
theorem d_Bx_ofKind_19 : decode prog_3_method_10_code 19 = .ok (.istore 4, 2) := by decide +kernel
theorem d_Bx_ofKind_21 : decode prog_3_method_10_code 21 = .ok (.iload 4, 2) := by decide +kernel
theorem d_Bx_ofKind_23 : decode prog_3_method_10_code 23 = .ok (.aload_n 0, 1) := by decide +kernel
theorem d_Bx_ofKind_24 : decode prog_3_method_10_code 24 = .ok (.getfield 43, 3) := by decide +kernel
theorem d_Bx_ofKind_27 : decode prog_3_method_10_code 27 = .ok (.if_icmp .gt 35, 3) := by decide +kernel
theorem d_Bx_ofKind_62 : decode prog_3_method_10_code 62 = .ok (.iinc 3 1, 3) := by decide +kernel
theorem d_Bx_ofKind_65 : decode prog_3_method_10_code 65 = .ok (.goto (-58), 3) := by decide +kernel
theorem d_Bx_ofKind_30 : decode prog_3_method_10_code 30 = .ok (.aload_n 0, 1) := by decide +kernel
theorem d_Bx_ofKind_31 : decode prog_3_method_10_code 31 = .ok (.getfield 19, 3) := by decide +kernel
theorem d_Bx_ofKind_34 : decode prog_3_method_10_code 34 = .ok (.getfield 73, 3) := by decide +kernel
theorem d_Bx_ofKind_37 : decode prog_3_method_10_code 37 = .ok (.aload_n 0, 1) := by decide +kernel
theorem d_Bx_ofKind_38 : decode prog_3_method_10_code 38 = .ok (.getfield 15, 3) := by decide +kernel
theorem d_Bx_ofKind_41 : decode prog_3_method_10_code 41 = .ok (.iload 4, 2) := by decide +kernel
theorem d_Bx_ofKind_43 : decode prog_3_method_10_code 43 = .ok (.iload_n 3, 1) := by decide +kernel
theorem d_Bx_ofKind_44 : decode prog_3_method_10_code 44 = .ok (.invokestatic 70, 3) := by decide +kernel
theorem d_Bx_ofKind_47 : decode prog_3_method_10_code 47 = .ok (.iaload, 1) := by decide +kernel
theorem d_Bx_ofKind_48 : decode prog_3_method_10_code 48 = .ok (.iaload, 1) := by decide +kernel
theorem d_Bx_ofKind_49 : decode prog_3_method_10_code 49 = .ok (.iload_n 1, 1) := by decide +kernel
theorem d_Bx_ofKind_50 : decode prog_3_method_10_code 50 = .ok (.if_icmp .ne 6, 3) := by decide +kernel
theorem d_Bx_ofKind_56 : decode prog_3_method_10_code 56 = .ok (.iinc 4 1, 3) := by decide +kernel
theorem d_Bx_ofKind_59 : decode prog_3_method_10_code 59 = .ok (.goto (-38), 3) := by decide +kernel
theorem d_Bx_ofKind_53 : decode prog_3_method_10_code 53 = .ok (.iinc 2 1, 3) := by decide +kernel
set_option maxHeartbeats 4000000 in
theorem w_Bx_ofKind_0 {l : Launch} {G : gG} {d : Nat} {X : gX} {M : gM} {k : Int → gM → Prop} {c : Nat} (hX : glX X c) {x1 : Int} (hx1 : g32 x1)  (T : g32 (M (c + 1167) 5) → (wp l G y_Bx_ofKind (gRm (d + 1)) false (kkI X k) false 7 [.val (gR G (c + 1167)), .val (gI x1), .val (gI 0), .val (gI (M (c + 1167) 5)), .unset] [] X M 0 0)) : wp l G y_Bx_ofKind (gRm (d + 1)) false (kkI X k) false 0 [.val (gR G (c + 1167)), .val (gI x1), .unset, .unset, .unset] [] X M 0 0 := by
  refine wp_iconst d_Bx_ofKind_0 ?_
  refine wp_istore_n (L' := [.val (gR G (c + 1167)), .val (gI x1), .val (gI 0), .unset, .unset]) d_Bx_ofKind_1 rfl (by decide) rfl ?_
  refine wp_aload_n d_Bx_ofKind_2 rfl rfl (g_nz (gl_1 hX 1167)) ?_
  refine xgetI d_Bx_ofKind_3 gc_Bx f_Bx_46.1 f_Bx_46.2.1 f_Bx_46.2.2.1 (gl_1 hX 1167) (gl_2 hX (a := 1167) (by decide)) (gl_s hX 39 rfl) f_Bx_46.2.2.2.2.1 (fun h1 => ?_)
  have T := T h1
  refine wp_istore_n (L' := [.val (gR G (c + 1167)), .val (gI x1), .val (gI 0), .val (gI (M (c + 1167) 5)), .unset]) d_Bx_ofKind_6 rfl (by decide) rfl ?_
  exact (wpt T (And.intro rfl (And.intro rfl (And.intro rfl (And.intro rfl True.intro)))))
set_option maxHeartbeats 4000000 in
theorem w_Bx_ofKind_7 {l : Launch} {G : gG} {d : Nat} {X : gX} {M : gM} {k : Int → gM → Prop} {c : Nat} (hX : glX X c) {x1 : Int} (hx1 : g32 x1) {x2 : Int} (hx2 : g32 x2) {x3 : Int} (hx3 : g32 x3)  (T : g32 (M (c + 1167) 6) → ((M (c + 1167) 6 < x3 → (k x2 M)) ∧ (¬ M (c + 1167) 6 < x3 → (g32 (M (c + 1167) 3) → (wp l G y_Bx_ofKind (gRm (d + 1)) false (kkI X k) false 21 [.val (gR G (c + 1167)), .val (gI x1), .val (gI x2), .val (gI x3), .val (gI (M (c + 1167) 3))] [] X M 0 0))))) : wp l G y_Bx_ofKind (gRm (d + 1)) false (kkI X k) false 7 [.val (gR G (c + 1167)), .val (gI x1), .val (gI x2), .val (gI x3), .unset] [] X M 0 0 := by
  refine wp_iload_n d_Bx_ofKind_7 rfl rfl ?_
  refine wp_aload_n d_Bx_ofKind_8 rfl rfl (g_nz (gl_1 hX 1167)) ?_
  refine xgetI d_Bx_ofKind_9 gc_Bx f_Bx_49.1 f_Bx_49.2.1 f_Bx_49.2.2.1 (gl_1 hX 1167) (gl_2 hX (a := 1167) (by decide)) (gl_s hX 39 rfl) f_Bx_49.2.2.2.2.1 (fun h2 => ?_)
  have T := T h2
  refine xi_gt (tgt := 68) d_Bx_ofKind_12 (by decide) (w32_id hx3) (w32_id h2) (fun h4 => ?_) (fun h4 => ?_)
  · have T := T.1 h4
    refine wp_iload_n d_Bx_ofKind_68 rfl rfl ?_
    exact wp_ireturn d_Bx_ofKind_69 rfl id (Nat.zero_le _) (Nat.zero_le _) (kI_mk hx2 T)
  · have T := T.2 h4
    refine wp_aload_n d_Bx_ofKind_15 rfl rfl (g_nz (gl_1 hX 1167)) ?_
    refine xgetI d_Bx_ofKind_16 gc_Bx f_Bx_36.1 f_Bx_36.2.1 f_Bx_36.2.2.1 (gl_1 hX 1167) (gl_2 hX (a := 1167) (by decide)) (gl_s hX 39 rfl) f_Bx_36.2.2.2.2.1 (fun h3 => ?_)
    have T := T h3
    refine wp_istore (L' := [.val (gR G (c + 1167)), .val (gI x1), .val (gI x2), .val (gI x3), .val (gI (M (c + 1167) 3))]) d_Bx_ofKind_19 (by decide) rfl ?_
    exact (wpt T (And.intro rfl (And.intro rfl (And.intro rfl (And.intro rfl (And.intro rfl True.intro))))))
set_option maxHeartbeats 4000000 in
theorem w_Bx_ofKind_21 {l : Launch} {G : gG} {d : Nat} {X : gX} {M : gM} {k : Int → gM → Prop} {c : Nat} (hX : glX X c) {x1 : Int} (hx1 : g32 x1) {x2 : Int} (hx2 : g32 x2) {x3 : Int} (hx3 : g32 x3) {x4 : Int} (hx4 : g32 x4) {v0 : Nat} (hv0 : X.2.2 (c + 1167) 2 = v0 ∧ gvX X v0 401) (T : g32 (M (c + 1167) 4) → ((M (c + 1167) 4 < x4 → (wp l G y_Bx_ofKind (gRm (d + 1)) false (kkI X k) false 7 [.val (gR G (c + 1167)), .val (gI x1), .val (gI x2), .val (gI (w32 (x3 + 1))), .unset] [] X M 0 0)) ∧ (¬ M (c + 1167) 4 < x4 → (cI l G y_GL_place (gRm d) false [gI x4, gI x3] X M (fun v7 M6 => (((0 : Int) ≤ v7 ∧ v7 < 5200) ∧ (g32 (M6 (c + 235) (Int.toNat v7)) → (((0 : Int) ≤ M6 (c + 235) (Int.toNat v7) ∧ M6 (c + 235) (Int.toNat v7) < 401) ∧ (g32 (M6 (v0 + 1) (Int.toNat (M6 (c + 235) (Int.toNat v7)))) → ((¬ M6 (v0 + 1) (Int.toNat (M6 (c + 235) (Int.toNat v7))) = x1 → (wp l G y_Bx_ofKind (gRm (d + 1)) false (kkI X k) false 21 [.val (gR G (c + 1167)), .val (gI x1), .val (gI x2), .val (gI x3), .val (gI (w32 (x4 + 1)))] [] X M6 0 0)) ∧ (M6 (v0 + 1) (Int.toNat (M6 (c + 235) (Int.toNat v7))) = x1 → (wp l G y_Bx_ofKind (gRm (d + 1)) false (kkI X k) false 21 [.val (gR G (c + 1167)), .val (gI x1), .val (gI (w32 (x2 + 1))), .val (gI x3), .val (gI (w32 (x4 + 1)))] [] X M6 0 0)))))))))))) : wp l G y_Bx_ofKind (gRm (d + 1)) false (kkI X k) false 21 [.val (gR G (c + 1167)), .val (gI x1), .val (gI x2), .val (gI x3), .val (gI x4)] [] X M 0 0 := by
  refine wp_iload d_Bx_ofKind_21 rfl ?_
  refine wp_aload_n d_Bx_ofKind_23 rfl rfl (g_nz (gl_1 hX 1167)) ?_
  refine xgetI d_Bx_ofKind_24 gc_Bx f_Bx_43.1 f_Bx_43.2.1 f_Bx_43.2.2.1 (gl_1 hX 1167) (gl_2 hX (a := 1167) (by decide)) (gl_s hX 39 rfl) f_Bx_43.2.2.2.2.1 (fun h5 => ?_)
  have T := T h5
  refine xi_gt (tgt := 62) d_Bx_ofKind_27 (by decide) (w32_id hx4) (w32_id h5) (fun h12 => ?_) (fun h12 => ?_)
  · have T := T.1 h12
    refine wp_iinc (L' := [.val (gR G (c + 1167)), .val (gI x1), .val (gI x2), .val (gI (x3 + 1)), .val (gI x4)]) d_Bx_ofKind_62 rfl (by decide) rfl ?_
    refine wp_goto (tgt := 7) d_Bx_ofKind_65 (by decide) ?_
    exact (wpt T (And.intro rfl (And.intro rfl (And.intro rfl (And.intro (gI_w _) True.intro)))))
  · have T := T.2 h12
    refine wp_aload_n d_Bx_ofKind_30 rfl rfl (g_nz (gl_1 hX 1167)) ?_
    refine xgetR d_Bx_ofKind_31 gc_Bx f_Bx_19.1 f_Bx_19.2.1 f_Bx_19.2.2.1 (gl_1 hX 1167) (gl_2 hX (a := 1167) (by decide)) (gl_s hX 39 rfl) f_Bx_19.2.2.2.2.1 hv0.1 ?_
    refine xgetR d_Bx_ofKind_34 gc_Vl f_Bx_73.1 f_Bx_73.2.1 f_Bx_73.2.2.1 hv0.2.1 (gv_2 hv0.2) hv0.2.2.2.1 f_Bx_73.2.2.2.2.1 (gv_r1 hv0.2).1 ?_
    refine wp_aload_n d_Bx_ofKind_37 rfl rfl (g_nz (gl_1 hX 1167)) ?_
    refine xgetR d_Bx_ofKind_38 gc_Bx f_Bx_15.1 f_Bx_15.2.1 f_Bx_15.2.2.1 (gl_1 hX 1167) (gl_2 hX (a := 1167) (by decide)) (gl_s hX 39 rfl) f_Bx_15.2.2.2.2.1 (gl_f hX 47 rfl) ?_
    refine wp_iload d_Bx_ofKind_41 rfl ?_
    refine wp_iload_n d_Bx_ofKind_43 rfl rfl ?_
    refine xcN_I (md' := false) (As := [gI x4, gI x3]) (st := [gR G (c + 235), gR G (v0 + 1)]) d_Bx_ofKind_44 ca_GL_place ml_Bx_70 sm_GL_place rfl (by decide) (by simp only [List.map, gR_cat, gI_cat, gL_cat, List.sum_cons, List.sum_nil]; decide) rfl id id T (fun v7 M6 h8 T => ?_)
    refine wp_iaload d_Bx_ofKind_47 (gl_1 hX 235) (gl_2 hX (a := 235) (by decide)) (gl_s hX 25 rfl) (g32_n T.1 (by decide)) T.1.1 T.1.2 (fun h9 => ?_)
    have T := T.2 h9
    refine wp_iaload d_Bx_ofKind_48 (gv_r1 hv0.2).2.2.1 (gv_r1 hv0.2).2.2.2 (gv_r1 hv0.2).2.1 (g32_n T.1 (gv_n hv0.2)) T.1.1 T.1.2 (fun h10 => ?_)
    have T := T.2 h10
    refine wp_iload_n d_Bx_ofKind_49 rfl rfl ?_
    refine xi_ne (tgt := 56) d_Bx_ofKind_50 (by decide) (w32_id h10) (w32_id hx1) (fun h11 => ?_) (fun h11 => ?_)
    · have T := T.1 h11
      refine wp_iinc (L' := [.val (gR G (c + 1167)), .val (gI x1), .val (gI x2), .val (gI x3), .val (gI (x4 + 1))]) d_Bx_ofKind_56 rfl (by decide) rfl ?_
      refine wp_goto (tgt := 21) d_Bx_ofKind_59 (by decide) ?_
      exact (wpt T (And.intro rfl (And.intro rfl (And.intro rfl (And.intro rfl (And.intro (gI_w _) True.intro))))))
    · have T := T.2 h11
      refine wp_iinc (L' := [.val (gR G (c + 1167)), .val (gI x1), .val (gI (x2 + 1)), .val (gI x3), .val (gI x4)]) d_Bx_ofKind_53 rfl (by decide) rfl ?_
      refine wp_iinc (L' := [.val (gR G (c + 1167)), .val (gI x1), .val (gI (x2 + 1)), .val (gI x3), .val (gI (x4 + 1))]) d_Bx_ofKind_56 rfl (by decide) rfl ?_
      refine wp_goto (tgt := 21) d_Bx_ofKind_59 (by decide) ?_
      exact (wpt T (And.intro rfl (And.intro rfl (And.intro (gI_w _) (And.intro rfl (And.intro (gI_w _) True.intro))))))
theorem e_Bx_ofKind {l : Launch} {G : gG} {d : Nat} {X : gX} {M : gM} {k : Int → gM → Prop} {c : Nat} {x1 : Int} (T : wp l G y_Bx_ofKind (gRm (d + 1)) false (kkI X k) false 0 [.val (gR G (c + 1167)), .val (gI x1), .unset, .unset, .unset] [] X M 0 0) : cI l G y_Bx_ofKind (gRm (d + 1)) false [gR G (c + 1167), gI x1] X M k := cen_I (plainFor_of_name rfl) (by simp only [lg_sl_R, lg_sl_I, lg_sl_L, lg_sl_N, List.length_cons, List.length_nil]; decide) (by unfold gEn; simp only [lg_sl_R, lg_sl_I, lg_sl_L, lg_sl_N]; exact wpt T (And.intro rfl (And.intro rfl True.intro)))
theorem d_Bx_show_0 : decode prog_3_method_12_code 0 = .ok (.lload_n 2, 1) := by decide +kernel
theorem d_Bx_show_1 : decode prog_3_method_12_code 1 = .ok (.lconst 1, 1) := by decide +kernel
theorem d_Bx_show_2 : decode prog_3_method_12_code 2 = .ok (.lcmp, 1) := by decide +kernel
theorem d_Bx_show_3 : decode prog_3_method_12_code 3 = .ok (.ifCond .lt 49, 3) := by decide +kernel
theorem d_Bx_show_52 : decode prog_3_method_12_code 52 = .ok (.iconst 0, 1) := by decide +kernel
theorem d_Bx_show_53 : decode prog_3_method_12_code 53 = .ok (.istore 6, 2) := by decide +kernel
theorem d_Bx_show_55 : decode prog_3_method_12_code 55 = .ok (.iload 6, 2) := by decide +kernel
theorem d_Bx_show_57 : decode prog_3_method_12_code 57 = .ok (.ifCond .eq 49, 3) := by decide +kernel
theorem d_Bx_show_106 : decode prog_3_method_12_code 106 = .ok (.aload_n 0, 1) := by decide +kernel
theorem d_Bx_show_107 : decode prog_3_method_12_code 107 = .ok (.getfield 9, 3) := by decide +kernel
theorem d_Bx_show_110 : decode prog_3_method_12_code 110 = .ok (.iload_n 1, 1) := by decide +kernel
theorem d_Bx_show_111 : decode prog_3_method_12_code 111 = .ok (.iconst 4, 1) := by decide +kernel
theorem d_Bx_show_112 : decode prog_3_method_12_code 112 = .ok (.ldc2_w 141, 3) := by decide +kernel
theorem d_Bx_show_115 : decode prog_3_method_12_code 115 = .ok (.invokevirtual 60, 3) := by decide +kernel
theorem d_Bx_show_118 : decode prog_3_method_12_code 118 = .ok (.return_, 1) := by decide +kernel
theorem d_Bx_show_60 : decode prog_3_method_12_code 60 = .ok (.aload_n 0, 1) := by decide +kernel
theorem d_Bx_show_61 : decode prog_3_method_12_code 61 = .ok (.getfield 36, 3) := by decide +kernel
theorem d_Bx_show_64 : decode prog_3_method_12_code 64 = .ok (.lload 4, 2) := by decide +kernel
theorem d_Bx_show_66 : decode prog_3_method_12_code 66 = .ok (.l2i, 1) := by decide +kernel
theorem d_Bx_show_67 : decode prog_3_method_12_code 67 = .ok (.iadd, 1) := by decide +kernel
theorem d_Bx_show_68 : decode prog_3_method_12_code 68 = .ok (.iconst 1, 1) := by decide +kernel
theorem d_Bx_show_69 : decode prog_3_method_12_code 69 = .ok (.isub, 1) := by decide +kernel
theorem d_Bx_show_70 : decode prog_3_method_12_code 70 = .ok (.aload_n 0, 1) := by decide +kernel
theorem d_Bx_show_71 : decode prog_3_method_12_code 71 = .ok (.getfield 46, 3) := by decide +kernel
theorem d_Bx_show_74 : decode prog_3_method_12_code 74 = .ok (.lload_n 2, 1) := by decide +kernel
theorem d_Bx_show_75 : decode prog_3_method_12_code 75 = .ok (.l2i, 1) := by decide +kernel
theorem d_Bx_show_76 : decode prog_3_method_12_code 76 = .ok (.iadd, 1) := by decide +kernel
theorem d_Bx_show_77 : decode prog_3_method_12_code 77 = .ok (.iconst 1, 1) := by decide +kernel
theorem d_Bx_show_78 : decode prog_3_method_12_code 78 = .ok (.isub, 1) := by decide +kernel
theorem d_Bx_show_79 : decode prog_3_method_12_code 79 = .ok (.invokestatic 70, 3) := by decide +kernel
theorem d_Bx_show_82 : decode prog_3_method_12_code 82 = .ok (.istore 7, 2) := by decide +kernel
theorem d_Bx_show_84 : decode prog_3_method_12_code 84 = .ok (.aload_n 0, 1) := by decide +kernel
theorem d_Bx_show_85 : decode prog_3_method_12_code 85 = .ok (.getfield 9, 3) := by decide +kernel
theorem d_Bx_show_88 : decode prog_3_method_12_code 88 = .ok (.iload_n 1, 1) := by decide +kernel
theorem d_Bx_show_89 : decode prog_3_method_12_code 89 = .ok (.aload_n 0, 1) := by decide +kernel
theorem d_Bx_show_90 : decode prog_3_method_12_code 90 = .ok (.getfield 19, 3) := by decide +kernel
theorem d_Bx_show_93 : decode prog_3_method_12_code 93 = .ok (.aload_n 0, 1) := by decide +kernel
theorem d_Bx_show_94 : decode prog_3_method_12_code 94 = .ok (.getfield 15, 3) := by decide +kernel
theorem d_Bx_show_97 : decode prog_3_method_12_code 97 = .ok (.iload 7, 2) := by decide +kernel
theorem d_Bx_show_99 : decode prog_3_method_12_code 99 = .ok (.iaload, 1) := by decide +kernel
theorem d_Bx_show_100 : decode prog_3_method_12_code 100 = .ok (.invokevirtual 137, 3) := by decide +kernel
theorem d_Bx_show_103 : decode prog_3_method_12_code 103 = .ok (.goto 15, 3) := by decide +kernel
theorem d_Bx_show_6 : decode prog_3_method_12_code 6 = .ok (.lload_n 2, 1) := by decide +kernel
theorem d_Bx_show_7 : decode prog_3_method_12_code 7 = .ok (.aload_n 0, 1) := by decide +kernel
theorem d_Bx_show_8 : decode prog_3_method_12_code 8 = .ok (.getfield 49, 3) := by decide +kernel
theorem d_Bx_show_11 : decode prog_3_method_12_code 11 = .ok (.aload_n 0, 1) := by decide +kernel
theorem d_Bx_show_12 : decode prog_3_method_12_code 12 = .ok (.getfield 46, 3) := by decide +kernel
theorem d_Bx_show_15 : decode prog_3_method_12_code 15 = .ok (.isub, 1) := by decide +kernel
theorem d_Bx_show_16 : decode prog_3_method_12_code 16 = .ok (.iconst 1, 1) := by decide +kernel
theorem d_Bx_show_17 : decode prog_3_method_12_code 17 = .ok (.iadd, 1) := by decide +kernel
theorem d_Bx_show_18 : decode prog_3_method_12_code 18 = .ok (.i2l, 1) := by decide +kernel
theorem d_Bx_show_19 : decode prog_3_method_12_code 19 = .ok (.lcmp, 1) := by decide +kernel
theorem d_Bx_show_20 : decode prog_3_method_12_code 20 = .ok (.ifCond .gt 32, 3) := by decide +kernel
theorem d_Bx_show_23 : decode prog_3_method_12_code 23 = .ok (.lload 4, 2) := by decide +kernel
theorem d_Bx_show_25 : decode prog_3_method_12_code 25 = .ok (.lconst 1, 1) := by decide +kernel
theorem d_Bx_show_26 : decode prog_3_method_12_code 26 = .ok (.lcmp, 1) := by decide +kernel
theorem d_Bx_show_27 : decode prog_3_method_12_code 27 = .ok (.ifCond .lt 25, 3) := by decide +kernel
theorem d_Bx_show_30 : decode prog_3_method_12_code 30 = .ok (.lload 4, 2) := by decide +kernel
theorem d_Bx_show_32 : decode prog_3_method_12_code 32 = .ok (.aload_n 0, 1) := by decide +kernel
theorem d_Bx_show_33 : decode prog_3_method_12_code 33 = .ok (.getfield 43, 3) := by decide +kernel
theorem d_Bx_show_36 : decode prog_3_method_12_code 36 = .ok (.aload_n 0, 1) := by decide +kernel
theorem d_Bx_show_37 : decode prog_3_method_12_code 37 = .ok (.getfield 36, 3) := by decide +kernel
theorem d_Bx_show_40 : decode prog_3_method_12_code 40 = .ok (.isub, 1) := by decide +kernel
theorem d_Bx_show_41 : decode prog_3_method_12_code 41 = .ok (.iconst 1, 1) := by decide +kernel
theorem d_Bx_show_42 : decode prog_3_method_12_code 42 = .ok (.iadd, 1) := by decide +kernel
theorem d_Bx_show_43 : decode prog_3_method_12_code 43 = .ok (.i2l, 1) := by decide +kernel
theorem d_Bx_show_44 : decode prog_3_method_12_code 44 = .ok (.lcmp, 1) := by decide +kernel
theorem d_Bx_show_45 : decode prog_3_method_12_code 45 = .ok (.ifCond .gt 7, 3) := by decide +kernel
theorem d_Bx_show_48 : decode prog_3_method_12_code 48 = .ok (.iconst 1, 1) := by decide +kernel
theorem d_Bx_show_49 : decode prog_3_method_12_code 49 = .ok (.goto 4, 3) := by decide +kernel
set_option maxHeartbeats 4000000 in
theorem w_Bx_show_0 {l : Launch} {G : gG} {d : Nat} {X : gX} {M : gM} {k : gM → Prop} {c : Nat} (hX : glX X c) {x1 : Int} (hx1 : g32 x1) {x2 : Int} (hx2 : g64 x2) {x4 : Int} (hx4 : g64 x4) {v0 : Nat} (hv0 : X.2.2 (c + 1167) 2 = v0 ∧ gvX X v0 401) (T : (x2 < 1 → (((0 : Int) = 0 → (cV l G y_Vl_set (gRm d) true [gR G (c + 1058), gI x1, gI 4, gL 2] X M (fun M1 => (k M1)))) ∧ (¬ (0 : Int) = 0 → (g32 (M (c + 1167) 3) → (g32 (M (c + 1167) 5) → (cI l G y_GL_place (gRm d) false [gI (((M (c + 1167) 3) + x4) - 1), gI (((M (c + 1167) 5) + x2) - 1)] X M (fun v5 M4 => (((0 : Int) ≤ v5 ∧ v5 < 5200) ∧ (g32 (M4 (c + 235) (Int.toNat v5)) → (cV l G y_Vl_setFrom (gRm d) true [gR G (c + 1058), gI x1, gR G v0, gI (M4 (c + 235) (Int.toNat v5))] X M4 (fun M8 => (k M8)))))))))))) ∧ (¬ x2 < 1 → (g32 (M (c + 1167) 6) → (g32 (M (c + 1167) 5) → (((w32 (((M (c + 1167) 6) - (M (c + 1167) 5)) + 1)) < x2 → (((0 : Int) = 0 → (cV l G y_Vl_set (gRm d) true [gR G (c + 1058), gI x1, gI 4, gL 2] X M (fun M12 => (k M12)))) ∧ (¬ (0 : Int) = 0 → (g32 (M (c + 1167) 3) → (g32 (M (c + 1167) 5) → (cI l G y_GL_place (gRm d) false [gI (((M (c + 1167) 3) + x4) - 1), gI (((M (c + 1167) 5) + x2) - 1)] X M (fun v16 M15 => (((0 : Int) ≤ v16 ∧ v16 < 5200) ∧ (g32 (M15 (c + 235) (Int.toNat v16)) → (cV l G y_Vl_setFrom (gRm d) true [gR G (c + 1058), gI x1, gR G v0, gI (M15 (c + 235) (Int.toNat v16))] X M15 (fun M19 => (k M19)))))))))))) ∧ (¬ (w32 (((M (c + 1167) 6) - (M (c + 1167) 5)) + 1)) < x2 → ((x4 < 1 → (((0 : Int) = 0 → (cV l G y_Vl_set (gRm d) true [gR G (c + 1058), gI x1, gI 4, gL 2] X M (fun M21 => (k M21)))) ∧ (¬ (0 : Int) = 0 → (g32 (M (c + 1167) 3) → (g32 (M (c + 1167) 5) → (cI l G y_GL_place (gRm d) false [gI (((M (c + 1167) 3) + x4) - 1), gI (((M (c + 1167) 5) + x2) - 1)] X M (fun v25 M24 => (((0 : Int) ≤ v25 ∧ v25 < 5200) ∧ (g32 (M24 (c + 235) (Int.toNat v25)) → (cV l G y_Vl_setFrom (gRm d) true [gR G (c + 1058), gI x1, gR G v0, gI (M24 (c + 235) (Int.toNat v25))] X M24 (fun M28 => (k M28)))))))))))) ∧ (¬ x4 < 1 → (g32 (M (c + 1167) 4) → (g32 (M (c + 1167) 3) → (((w32 (((M (c + 1167) 4) - (M (c + 1167) 3)) + 1)) < x4 → (((0 : Int) = 0 → (cV l G y_Vl_set (gRm d) true [gR G (c + 1058), gI x1, gI 4, gL 2] X M (fun M32 => (k M32)))) ∧ (¬ (0 : Int) = 0 → (g32 (M (c + 1167) 3) → (g32 (M (c + 1167) 5) → (cI l G y_GL_place (gRm d) false [gI (((M (c + 1167) 3) + x4) - 1), gI (((M (c + 1167) 5) + x2) - 1)] X M (fun v36 M35 => (((0 : Int) ≤ v36 ∧ v36 < 5200) ∧ (g32 (M35 (c + 235) (Int.toNat v36)) → (cV l G y_Vl_setFrom (gRm d) true [gR G (c + 1058), gI x1, gR G v0, gI (M35 (c + 235) (Int.toNat v36))] X M35 (fun M39 => (k M39)))))))))))) ∧ (¬ (w32 (((M (c + 1167) 4) - (M (c + 1167) 3)) + 1)) < x4 → (((1 : Int) = 0 → (cV l G y_Vl_set (gRm d) true [gR G (c + 1058), gI x1, gI 4, gL 2] X M (fun M41 => (k M41)))) ∧ (¬ (1 : Int) = 0 → (g32 (M (c + 1167) 3) → (g32 (M (c + 1167) 5) → (cI l G y_GL_place (gRm d) false [gI (((M (c + 1167) 3) + x4) - 1), gI (((M (c + 1167) 5) + x2) - 1)] X M (fun v45 M44 => (((0 : Int) ≤ v45 ∧ v45 < 5200) ∧ (g32 (M44 (c + 235) (Int.toNat v45)) → (cV l G y_Vl_setFrom (gRm d) true [gR G (c + 1058), gI x1, gR G v0, gI (M44 (c + 235) (Int.toNat v45))] X M44 (fun M48 => (k M48))))))))))))))))))))))) : wp l G y_Bx_show (gRm (d + 1)) true (kkV X k) false 0 [.val (gR G (c + 1167)), .val (gI x1), .val (gL x2), .unset, .val (gL x4), .unset, .unset, .unset] [] X M 0 0 := by
  refine wp_lload_n d_Bx_show_0 rfl rfl ?_
  refine wp_lconst1 d_Bx_show_1 ?_
  refine xl_lt (tgt := 52) d_Bx_show_2 d_Bx_show_3 (by decide) (w64_id hx2) (w64_id (g64_c (x := 1) rfl)) (fun h53 => ?_) (fun h53 => ?_)
  · have T := T.1 h53
    refine wp_iconst d_Bx_show_52 ?_
    refine wp_istore (L' := [.val (gR G (c + 1167)), .val (gI x1), .val (gL x2), .unset, .val (gL x4), .unset, .val (gI 0), .unset]) d_Bx_show_53 (by decide) rfl ?_
    refine wp_iload d_Bx_show_55 rfl ?_
    refine xz_eq (tgt := 106) d_Bx_show_57 (by decide) (w32_id (g32_c (x := 0) rfl)) (fun h9 => ?_) (fun h9 => ?_)
    · have T := T.1 h9
      refine wp_aload_n d_Bx_show_106 rfl rfl (g_nz (gl_1 hX 1167)) ?_
      refine xgetR d_Bx_show_107 gc_Bx f_Bx_9.1 f_Bx_9.2.1 f_Bx_9.2.2.1 (gl_1 hX 1167) (gl_2 hX (a := 1167) (by decide)) (gl_s hX 39 rfl) f_Bx_9.2.2.2.2.1 (gl_f hX 46 rfl) ?_
      refine wp_iload_n d_Bx_show_110 rfl rfl ?_
      refine wp_iconst d_Bx_show_111 ?_
      refine wp_ldc2 (n := 2) d_Bx_show_112 c_Bx_141 rfl ?_
      refine xcV_V (md' := true) (As := [gI x1, gI 4, gL 2]) (st := []) d_Bx_show_115 ca_Vl_set ml_Bx_60 im_Vl_set se_Vl_set gc_Vl (gl_stk hX).1 (gv_2 (gl_stk hX)) (gl_stk hX).2.2.1 rfl (by decide) (by decide) rfl (fun _ => rfl) (fun _ => rfl) T (fun M1 T => ?_)
      exact wp_return d_Bx_show_118 rfl (fun _ => rfl) (Nat.zero_le _) (Nat.zero_le _) (kV_mk T)
    · have T := T.2 h9
      refine wp_aload_n d_Bx_show_60 rfl rfl (g_nz (gl_1 hX 1167)) ?_
      refine xgetI d_Bx_show_61 gc_Bx f_Bx_36.1 f_Bx_36.2.1 f_Bx_36.2.2.1 (gl_1 hX 1167) (gl_2 hX (a := 1167) (by decide)) (gl_s hX 39 rfl) f_Bx_36.2.2.2.2.1 (fun h2 => ?_)
      have T := T h2
      refine wp_lload d_Bx_show_64 rfl ?_
      refine wp_l2i d_Bx_show_66 ?_
      refine wp_iadd d_Bx_show_67 ?_
      refine wp_iconst d_Bx_show_68 ?_
      refine wp_isub d_Bx_show_69 ?_
      refine wp_aload_n d_Bx_show_70 rfl rfl (g_nz (gl_1 hX 1167)) ?_
      refine xgetI d_Bx_show_71 gc_Bx f_Bx_46.1 f_Bx_46.2.1 f_Bx_46.2.2.1 (gl_1 hX 1167) (gl_2 hX (a := 1167) (by decide)) (gl_s hX 39 rfl) f_Bx_46.2.2.2.2.1 (fun h3 => ?_)
      have T := T h3
      refine wp_lload_n d_Bx_show_74 rfl rfl ?_
      refine wp_l2i d_Bx_show_75 ?_
      refine wp_iadd d_Bx_show_76 ?_
      refine wp_iconst d_Bx_show_77 ?_
      refine wp_isub d_Bx_show_78 ?_
      refine xcN_I (md' := false) (As := [gI (((M (c + 1167) 3) + x4) - 1), gI (((M (c + 1167) 5) + x2) - 1)]) (st := []) d_Bx_show_79 ca_GL_place ml_Bx_70 sm_GL_place rfl (by decide) (by decide) rfl id id T (fun v5 M4 h6 T => ?_)
      refine wp_istore (L' := [.val (gR G (c + 1167)), .val (gI x1), .val (gL x2), .unset, .val (gL x4), .unset, .val (gI 0), .val (gI v5)]) d_Bx_show_82 (by decide) rfl ?_
      refine wp_aload_n d_Bx_show_84 rfl rfl (g_nz (gl_1 hX 1167)) ?_
      refine xgetR d_Bx_show_85 gc_Bx f_Bx_9.1 f_Bx_9.2.1 f_Bx_9.2.2.1 (gl_1 hX 1167) (gl_2 hX (a := 1167) (by decide)) (gl_s hX 39 rfl) f_Bx_9.2.2.2.2.1 (gl_f hX 46 rfl) ?_
      refine wp_iload_n d_Bx_show_88 rfl rfl ?_
      refine wp_aload_n d_Bx_show_89 rfl rfl (g_nz (gl_1 hX 1167)) ?_
      refine xgetR d_Bx_show_90 gc_Bx f_Bx_19.1 f_Bx_19.2.1 f_Bx_19.2.2.1 (gl_1 hX 1167) (gl_2 hX (a := 1167) (by decide)) (gl_s hX 39 rfl) f_Bx_19.2.2.2.2.1 hv0.1 ?_
      refine wp_aload_n d_Bx_show_93 rfl rfl (g_nz (gl_1 hX 1167)) ?_
      refine xgetR d_Bx_show_94 gc_Bx f_Bx_15.1 f_Bx_15.2.1 f_Bx_15.2.2.1 (gl_1 hX 1167) (gl_2 hX (a := 1167) (by decide)) (gl_s hX 39 rfl) f_Bx_15.2.2.2.2.1 (gl_f hX 47 rfl) ?_
      refine wp_iload d_Bx_show_97 rfl ?_
      refine wp_iaload d_Bx_show_99 (gl_1 hX 235) (gl_2 hX (a := 235) (by decide)) (gl_s hX 25 rfl) (g32_n T.1 (by decide)) T.1.1 T.1.2 (fun h7 => ?_)
      have T := T.2 h7
      refine xcV_V (md' := true) (As := [gI x1, gR G v0, gI (M4 (c + 235) (Int.toNat v5))]) (st := []) d_Bx_show_100 ca_Vl_setFrom ml_Bx_137 im_Vl_setFrom se_Vl_setFrom gc_Vl (gl_stk hX).1 (gv_2 (gl_stk hX)) (gl_stk hX).2.2.1 rfl (by decide) (by decide) rfl (fun _ => rfl) (fun _ => rfl) T (fun M8 T => ?_)
      refine wp_goto (tgt := 118) d_Bx_show_103 (by decide) ?_
      exact wp_return d_Bx_show_118 rfl (fun _ => rfl) (Nat.zero_le _) (Nat.zero_le _) (kV_mk T)
  · have T := T.2 h53
    refine wp_lload_n d_Bx_show_6 rfl rfl ?_
    refine wp_aload_n d_Bx_show_7 rfl rfl (g_nz (gl_1 hX 1167)) ?_
    refine xgetI d_Bx_show_8 gc_Bx f_Bx_49.1 f_Bx_49.2.1 f_Bx_49.2.2.1 (gl_1 hX 1167) (gl_2 hX (a := 1167) (by decide)) (gl_s hX 39 rfl) f_Bx_49.2.2.2.2.1 (fun h10 => ?_)
    have T := T h10
    refine wp_aload_n d_Bx_show_11 rfl rfl (g_nz (gl_1 hX 1167)) ?_
    refine xgetI d_Bx_show_12 gc_Bx f_Bx_46.1 f_Bx_46.2.1 f_Bx_46.2.2.1 (gl_1 hX 1167) (gl_2 hX (a := 1167) (by decide)) (gl_s hX 39 rfl) f_Bx_46.2.2.2.2.1 (fun h11 => ?_)
    have T := T h11
    refine wp_isub d_Bx_show_15 ?_
    refine wp_iconst d_Bx_show_16 ?_
    refine wp_iadd d_Bx_show_17 ?_
    refine xi2l d_Bx_show_18 rfl ?_
    refine xl_gt (tgt := 52) d_Bx_show_19 d_Bx_show_20 (by decide) (w64_id hx2) (w64_id (g64_32 (w32_ok _))) (fun h52 => ?_) (fun h52 => ?_)
    · have T := T.1 h52
      refine wp_iconst d_Bx_show_52 ?_
      refine wp_istore (L' := [.val (gR G (c + 1167)), .val (gI x1), .val (gL x2), .unset, .val (gL x4), .unset, .val (gI 0), .unset]) d_Bx_show_53 (by decide) rfl ?_
      refine wp_iload d_Bx_show_55 rfl ?_
      refine xz_eq (tgt := 106) d_Bx_show_57 (by decide) (w32_id (g32_c (x := 0) rfl)) (fun h20 => ?_) (fun h20 => ?_)
      · have T := T.1 h20
        refine wp_aload_n d_Bx_show_106 rfl rfl (g_nz (gl_1 hX 1167)) ?_
        refine xgetR d_Bx_show_107 gc_Bx f_Bx_9.1 f_Bx_9.2.1 f_Bx_9.2.2.1 (gl_1 hX 1167) (gl_2 hX (a := 1167) (by decide)) (gl_s hX 39 rfl) f_Bx_9.2.2.2.2.1 (gl_f hX 46 rfl) ?_
        refine wp_iload_n d_Bx_show_110 rfl rfl ?_
        refine wp_iconst d_Bx_show_111 ?_
        refine wp_ldc2 (n := 2) d_Bx_show_112 c_Bx_141 rfl ?_
        refine xcV_V (md' := true) (As := [gI x1, gI 4, gL 2]) (st := []) d_Bx_show_115 ca_Vl_set ml_Bx_60 im_Vl_set se_Vl_set gc_Vl (gl_stk hX).1 (gv_2 (gl_stk hX)) (gl_stk hX).2.2.1 rfl (by decide) (by decide) rfl (fun _ => rfl) (fun _ => rfl) T (fun M12 T => ?_)
        exact wp_return d_Bx_show_118 rfl (fun _ => rfl) (Nat.zero_le _) (Nat.zero_le _) (kV_mk T)
      · have T := T.2 h20
        refine wp_aload_n d_Bx_show_60 rfl rfl (g_nz (gl_1 hX 1167)) ?_
        refine xgetI d_Bx_show_61 gc_Bx f_Bx_36.1 f_Bx_36.2.1 f_Bx_36.2.2.1 (gl_1 hX 1167) (gl_2 hX (a := 1167) (by decide)) (gl_s hX 39 rfl) f_Bx_36.2.2.2.2.1 (fun h13 => ?_)
        have T := T h13
        refine wp_lload d_Bx_show_64 rfl ?_
        refine wp_l2i d_Bx_show_66 ?_
        refine wp_iadd d_Bx_show_67 ?_
        refine wp_iconst d_Bx_show_68 ?_
        refine wp_isub d_Bx_show_69 ?_
        refine wp_aload_n d_Bx_show_70 rfl rfl (g_nz (gl_1 hX 1167)) ?_
        refine xgetI d_Bx_show_71 gc_Bx f_Bx_46.1 f_Bx_46.2.1 f_Bx_46.2.2.1 (gl_1 hX 1167) (gl_2 hX (a := 1167) (by decide)) (gl_s hX 39 rfl) f_Bx_46.2.2.2.2.1 (fun h14 => ?_)
        have T := T h14
        refine wp_lload_n d_Bx_show_74 rfl rfl ?_
        refine wp_l2i d_Bx_show_75 ?_
        refine wp_iadd d_Bx_show_76 ?_
        refine wp_iconst d_Bx_show_77 ?_
        refine wp_isub d_Bx_show_78 ?_
        refine xcN_I (md' := false) (As := [gI (((M (c + 1167) 3) + x4) - 1), gI (((M (c + 1167) 5) + x2) - 1)]) (st := []) d_Bx_show_79 ca_GL_place ml_Bx_70 sm_GL_place rfl (by decide) (by decide) rfl id id T (fun v16 M15 h17 T => ?_)
        refine wp_istore (L' := [.val (gR G (c + 1167)), .val (gI x1), .val (gL x2), .unset, .val (gL x4), .unset, .val (gI 0), .val (gI v16)]) d_Bx_show_82 (by decide) rfl ?_
        refine wp_aload_n d_Bx_show_84 rfl rfl (g_nz (gl_1 hX 1167)) ?_
        refine xgetR d_Bx_show_85 gc_Bx f_Bx_9.1 f_Bx_9.2.1 f_Bx_9.2.2.1 (gl_1 hX 1167) (gl_2 hX (a := 1167) (by decide)) (gl_s hX 39 rfl) f_Bx_9.2.2.2.2.1 (gl_f hX 46 rfl) ?_
        refine wp_iload_n d_Bx_show_88 rfl rfl ?_
        refine wp_aload_n d_Bx_show_89 rfl rfl (g_nz (gl_1 hX 1167)) ?_
        refine xgetR d_Bx_show_90 gc_Bx f_Bx_19.1 f_Bx_19.2.1 f_Bx_19.2.2.1 (gl_1 hX 1167) (gl_2 hX (a := 1167) (by decide)) (gl_s hX 39 rfl) f_Bx_19.2.2.2.2.1 hv0.1 ?_
        refine wp_aload_n d_Bx_show_93 rfl rfl (g_nz (gl_1 hX 1167)) ?_
        refine xgetR d_Bx_show_94 gc_Bx f_Bx_15.1 f_Bx_15.2.1 f_Bx_15.2.2.1 (gl_1 hX 1167) (gl_2 hX (a := 1167) (by decide)) (gl_s hX 39 rfl) f_Bx_15.2.2.2.2.1 (gl_f hX 47 rfl) ?_
        refine wp_iload d_Bx_show_97 rfl ?_
        refine wp_iaload d_Bx_show_99 (gl_1 hX 235) (gl_2 hX (a := 235) (by decide)) (gl_s hX 25 rfl) (g32_n T.1 (by decide)) T.1.1 T.1.2 (fun h18 => ?_)
        have T := T.2 h18
        refine xcV_V (md' := true) (As := [gI x1, gR G v0, gI (M15 (c + 235) (Int.toNat v16))]) (st := []) d_Bx_show_100 ca_Vl_setFrom ml_Bx_137 im_Vl_setFrom se_Vl_setFrom gc_Vl (gl_stk hX).1 (gv_2 (gl_stk hX)) (gl_stk hX).2.2.1 rfl (by decide) (by decide) rfl (fun _ => rfl) (fun _ => rfl) T (fun M19 T => ?_)
        refine wp_goto (tgt := 118) d_Bx_show_103 (by decide) ?_
        exact wp_return d_Bx_show_118 rfl (fun _ => rfl) (Nat.zero_le _) (Nat.zero_le _) (kV_mk T)
    · have T := T.2 h52
      refine wp_lload d_Bx_show_23 rfl ?_
      refine wp_lconst1 d_Bx_show_25 ?_
      refine xl_lt (tgt := 52) d_Bx_show_26 d_Bx_show_27 (by decide) (w64_id hx4) (w64_id (g64_c (x := 1) rfl)) (fun h51 => ?_) (fun h51 => ?_)
      · have T := T.1 h51
        refine wp_iconst d_Bx_show_52 ?_
        refine wp_istore (L' := [.val (gR G (c + 1167)), .val (gI x1), .val (gL x2), .unset, .val (gL x4), .unset, .val (gI 0), .unset]) d_Bx_show_53 (by decide) rfl ?_
        refine wp_iload d_Bx_show_55 rfl ?_
        refine xz_eq (tgt := 106) d_Bx_show_57 (by decide) (w32_id (g32_c (x := 0) rfl)) (fun h29 => ?_) (fun h29 => ?_)
        · have T := T.1 h29
          refine wp_aload_n d_Bx_show_106 rfl rfl (g_nz (gl_1 hX 1167)) ?_
          refine xgetR d_Bx_show_107 gc_Bx f_Bx_9.1 f_Bx_9.2.1 f_Bx_9.2.2.1 (gl_1 hX 1167) (gl_2 hX (a := 1167) (by decide)) (gl_s hX 39 rfl) f_Bx_9.2.2.2.2.1 (gl_f hX 46 rfl) ?_
          refine wp_iload_n d_Bx_show_110 rfl rfl ?_
          refine wp_iconst d_Bx_show_111 ?_
          refine wp_ldc2 (n := 2) d_Bx_show_112 c_Bx_141 rfl ?_
          refine xcV_V (md' := true) (As := [gI x1, gI 4, gL 2]) (st := []) d_Bx_show_115 ca_Vl_set ml_Bx_60 im_Vl_set se_Vl_set gc_Vl (gl_stk hX).1 (gv_2 (gl_stk hX)) (gl_stk hX).2.2.1 rfl (by decide) (by decide) rfl (fun _ => rfl) (fun _ => rfl) T (fun M21 T => ?_)
          exact wp_return d_Bx_show_118 rfl (fun _ => rfl) (Nat.zero_le _) (Nat.zero_le _) (kV_mk T)
        · have T := T.2 h29
          refine wp_aload_n d_Bx_show_60 rfl rfl (g_nz (gl_1 hX 1167)) ?_
          refine xgetI d_Bx_show_61 gc_Bx f_Bx_36.1 f_Bx_36.2.1 f_Bx_36.2.2.1 (gl_1 hX 1167) (gl_2 hX (a := 1167) (by decide)) (gl_s hX 39 rfl) f_Bx_36.2.2.2.2.1 (fun h22 => ?_)
          have T := T h22
          refine wp_lload d_Bx_show_64 rfl ?_
          refine wp_l2i d_Bx_show_66 ?_
          refine wp_iadd d_Bx_show_67 ?_
          refine wp_iconst d_Bx_show_68 ?_
          refine wp_isub d_Bx_show_69 ?_
          refine wp_aload_n d_Bx_show_70 rfl rfl (g_nz (gl_1 hX 1167)) ?_
          refine xgetI d_Bx_show_71 gc_Bx f_Bx_46.1 f_Bx_46.2.1 f_Bx_46.2.2.1 (gl_1 hX 1167) (gl_2 hX (a := 1167) (by decide)) (gl_s hX 39 rfl) f_Bx_46.2.2.2.2.1 (fun h23 => ?_)
          have T := T h23
          refine wp_lload_n d_Bx_show_74 rfl rfl ?_
          refine wp_l2i d_Bx_show_75 ?_
          refine wp_iadd d_Bx_show_76 ?_
          refine wp_iconst d_Bx_show_77 ?_
          refine wp_isub d_Bx_show_78 ?_
          refine xcN_I (md' := false) (As := [gI (((M (c + 1167) 3) + x4) - 1), gI (((M (c + 1167) 5) + x2) - 1)]) (st := []) d_Bx_show_79 ca_GL_place ml_Bx_70 sm_GL_place rfl (by decide) (by decide) rfl id id T (fun v25 M24 h26 T => ?_)
          refine wp_istore (L' := [.val (gR G (c + 1167)), .val (gI x1), .val (gL x2), .unset, .val (gL x4), .unset, .val (gI 0), .val (gI v25)]) d_Bx_show_82 (by decide) rfl ?_
          refine wp_aload_n d_Bx_show_84 rfl rfl (g_nz (gl_1 hX 1167)) ?_
          refine xgetR d_Bx_show_85 gc_Bx f_Bx_9.1 f_Bx_9.2.1 f_Bx_9.2.2.1 (gl_1 hX 1167) (gl_2 hX (a := 1167) (by decide)) (gl_s hX 39 rfl) f_Bx_9.2.2.2.2.1 (gl_f hX 46 rfl) ?_
          refine wp_iload_n d_Bx_show_88 rfl rfl ?_
          refine wp_aload_n d_Bx_show_89 rfl rfl (g_nz (gl_1 hX 1167)) ?_
          refine xgetR d_Bx_show_90 gc_Bx f_Bx_19.1 f_Bx_19.2.1 f_Bx_19.2.2.1 (gl_1 hX 1167) (gl_2 hX (a := 1167) (by decide)) (gl_s hX 39 rfl) f_Bx_19.2.2.2.2.1 hv0.1 ?_
          refine wp_aload_n d_Bx_show_93 rfl rfl (g_nz (gl_1 hX 1167)) ?_
          refine xgetR d_Bx_show_94 gc_Bx f_Bx_15.1 f_Bx_15.2.1 f_Bx_15.2.2.1 (gl_1 hX 1167) (gl_2 hX (a := 1167) (by decide)) (gl_s hX 39 rfl) f_Bx_15.2.2.2.2.1 (gl_f hX 47 rfl) ?_
          refine wp_iload d_Bx_show_97 rfl ?_
          refine wp_iaload d_Bx_show_99 (gl_1 hX 235) (gl_2 hX (a := 235) (by decide)) (gl_s hX 25 rfl) (g32_n T.1 (by decide)) T.1.1 T.1.2 (fun h27 => ?_)
          have T := T.2 h27
          refine xcV_V (md' := true) (As := [gI x1, gR G v0, gI (M24 (c + 235) (Int.toNat v25))]) (st := []) d_Bx_show_100 ca_Vl_setFrom ml_Bx_137 im_Vl_setFrom se_Vl_setFrom gc_Vl (gl_stk hX).1 (gv_2 (gl_stk hX)) (gl_stk hX).2.2.1 rfl (by decide) (by decide) rfl (fun _ => rfl) (fun _ => rfl) T (fun M28 T => ?_)
          refine wp_goto (tgt := 118) d_Bx_show_103 (by decide) ?_
          exact wp_return d_Bx_show_118 rfl (fun _ => rfl) (Nat.zero_le _) (Nat.zero_le _) (kV_mk T)
      · have T := T.2 h51
        refine wp_lload d_Bx_show_30 rfl ?_
        refine wp_aload_n d_Bx_show_32 rfl rfl (g_nz (gl_1 hX 1167)) ?_
        refine xgetI d_Bx_show_33 gc_Bx f_Bx_43.1 f_Bx_43.2.1 f_Bx_43.2.2.1 (gl_1 hX 1167) (gl_2 hX (a := 1167) (by decide)) (gl_s hX 39 rfl) f_Bx_43.2.2.2.2.1 (fun h30 => ?_)
        have T := T h30
        refine wp_aload_n d_Bx_show_36 rfl rfl (g_nz (gl_1 hX 1167)) ?_
        refine xgetI d_Bx_show_37 gc_Bx f_Bx_36.1 f_Bx_36.2.1 f_Bx_36.2.2.1 (gl_1 hX 1167) (gl_2 hX (a := 1167) (by decide)) (gl_s hX 39 rfl) f_Bx_36.2.2.2.2.1 (fun h31 => ?_)
        have T := T h31
        refine wp_isub d_Bx_show_40 ?_
        refine wp_iconst d_Bx_show_41 ?_
        refine wp_iadd d_Bx_show_42 ?_
        refine xi2l d_Bx_show_43 rfl ?_
        refine xl_gt (tgt := 52) d_Bx_show_44 d_Bx_show_45 (by decide) (w64_id hx4) (w64_id (g64_32 (w32_ok _))) (fun h50 => ?_) (fun h50 => ?_)
        · have T := T.1 h50
          refine wp_iconst d_Bx_show_52 ?_
          refine wp_istore (L' := [.val (gR G (c + 1167)), .val (gI x1), .val (gL x2), .unset, .val (gL x4), .unset, .val (gI 0), .unset]) d_Bx_show_53 (by decide) rfl ?_
          refine wp_iload d_Bx_show_55 rfl ?_
          refine xz_eq (tgt := 106) d_Bx_show_57 (by decide) (w32_id (g32_c (x := 0) rfl)) (fun h40 => ?_) (fun h40 => ?_)
          · have T := T.1 h40
            refine wp_aload_n d_Bx_show_106 rfl rfl (g_nz (gl_1 hX 1167)) ?_
            refine xgetR d_Bx_show_107 gc_Bx f_Bx_9.1 f_Bx_9.2.1 f_Bx_9.2.2.1 (gl_1 hX 1167) (gl_2 hX (a := 1167) (by decide)) (gl_s hX 39 rfl) f_Bx_9.2.2.2.2.1 (gl_f hX 46 rfl) ?_
            refine wp_iload_n d_Bx_show_110 rfl rfl ?_
            refine wp_iconst d_Bx_show_111 ?_
            refine wp_ldc2 (n := 2) d_Bx_show_112 c_Bx_141 rfl ?_
            refine xcV_V (md' := true) (As := [gI x1, gI 4, gL 2]) (st := []) d_Bx_show_115 ca_Vl_set ml_Bx_60 im_Vl_set se_Vl_set gc_Vl (gl_stk hX).1 (gv_2 (gl_stk hX)) (gl_stk hX).2.2.1 rfl (by decide) (by decide) rfl (fun _ => rfl) (fun _ => rfl) T (fun M32 T => ?_)
            exact wp_return d_Bx_show_118 rfl (fun _ => rfl) (Nat.zero_le _) (Nat.zero_le _) (kV_mk T)
          · have T := T.2 h40
            refine wp_aload_n d_Bx_show_60 rfl rfl (g_nz (gl_1 hX 1167)) ?_
            refine xgetI d_Bx_show_61 gc_Bx f_Bx_36.1 f_Bx_36.2.1 f_Bx_36.2.2.1 (gl_1 hX 1167) (gl_2 hX (a := 1167) (by decide)) (gl_s hX 39 rfl) f_Bx_36.2.2.2.2.1 (fun h33 => ?_)
            have T := T h33
            refine wp_lload d_Bx_show_64 rfl ?_
            refine wp_l2i d_Bx_show_66 ?_
            refine wp_iadd d_Bx_show_67 ?_
            refine wp_iconst d_Bx_show_68 ?_
            refine wp_isub d_Bx_show_69 ?_
            refine wp_aload_n d_Bx_show_70 rfl rfl (g_nz (gl_1 hX 1167)) ?_
            refine xgetI d_Bx_show_71 gc_Bx f_Bx_46.1 f_Bx_46.2.1 f_Bx_46.2.2.1 (gl_1 hX 1167) (gl_2 hX (a := 1167) (by decide)) (gl_s hX 39 rfl) f_Bx_46.2.2.2.2.1 (fun h34 => ?_)
            have T := T h34
            refine wp_lload_n d_Bx_show_74 rfl rfl ?_
            refine wp_l2i d_Bx_show_75 ?_
            refine wp_iadd d_Bx_show_76 ?_
            refine wp_iconst d_Bx_show_77 ?_
            refine wp_isub d_Bx_show_78 ?_
            refine xcN_I (md' := false) (As := [gI (((M (c + 1167) 3) + x4) - 1), gI (((M (c + 1167) 5) + x2) - 1)]) (st := []) d_Bx_show_79 ca_GL_place ml_Bx_70 sm_GL_place rfl (by decide) (by decide) rfl id id T (fun v36 M35 h37 T => ?_)
            refine wp_istore (L' := [.val (gR G (c + 1167)), .val (gI x1), .val (gL x2), .unset, .val (gL x4), .unset, .val (gI 0), .val (gI v36)]) d_Bx_show_82 (by decide) rfl ?_
            refine wp_aload_n d_Bx_show_84 rfl rfl (g_nz (gl_1 hX 1167)) ?_
            refine xgetR d_Bx_show_85 gc_Bx f_Bx_9.1 f_Bx_9.2.1 f_Bx_9.2.2.1 (gl_1 hX 1167) (gl_2 hX (a := 1167) (by decide)) (gl_s hX 39 rfl) f_Bx_9.2.2.2.2.1 (gl_f hX 46 rfl) ?_
            refine wp_iload_n d_Bx_show_88 rfl rfl ?_
            refine wp_aload_n d_Bx_show_89 rfl rfl (g_nz (gl_1 hX 1167)) ?_
            refine xgetR d_Bx_show_90 gc_Bx f_Bx_19.1 f_Bx_19.2.1 f_Bx_19.2.2.1 (gl_1 hX 1167) (gl_2 hX (a := 1167) (by decide)) (gl_s hX 39 rfl) f_Bx_19.2.2.2.2.1 hv0.1 ?_
            refine wp_aload_n d_Bx_show_93 rfl rfl (g_nz (gl_1 hX 1167)) ?_
            refine xgetR d_Bx_show_94 gc_Bx f_Bx_15.1 f_Bx_15.2.1 f_Bx_15.2.2.1 (gl_1 hX 1167) (gl_2 hX (a := 1167) (by decide)) (gl_s hX 39 rfl) f_Bx_15.2.2.2.2.1 (gl_f hX 47 rfl) ?_
            refine wp_iload d_Bx_show_97 rfl ?_
            refine wp_iaload d_Bx_show_99 (gl_1 hX 235) (gl_2 hX (a := 235) (by decide)) (gl_s hX 25 rfl) (g32_n T.1 (by decide)) T.1.1 T.1.2 (fun h38 => ?_)
            have T := T.2 h38
            refine xcV_V (md' := true) (As := [gI x1, gR G v0, gI (M35 (c + 235) (Int.toNat v36))]) (st := []) d_Bx_show_100 ca_Vl_setFrom ml_Bx_137 im_Vl_setFrom se_Vl_setFrom gc_Vl (gl_stk hX).1 (gv_2 (gl_stk hX)) (gl_stk hX).2.2.1 rfl (by decide) (by decide) rfl (fun _ => rfl) (fun _ => rfl) T (fun M39 T => ?_)
            refine wp_goto (tgt := 118) d_Bx_show_103 (by decide) ?_
            exact wp_return d_Bx_show_118 rfl (fun _ => rfl) (Nat.zero_le _) (Nat.zero_le _) (kV_mk T)
        · have T := T.2 h50
          refine wp_iconst d_Bx_show_48 ?_
          refine wp_goto (tgt := 53) d_Bx_show_49 (by decide) ?_
          refine wp_istore (L' := [.val (gR G (c + 1167)), .val (gI x1), .val (gL x2), .unset, .val (gL x4), .unset, .val (gI 1), .unset]) d_Bx_show_53 (by decide) rfl ?_
          refine wp_iload d_Bx_show_55 rfl ?_
          refine xz_eq (tgt := 106) d_Bx_show_57 (by decide) (w32_id (g32_c (x := 1) rfl)) (fun h49 => ?_) (fun h49 => ?_)
          · have T := T.1 h49
            refine wp_aload_n d_Bx_show_106 rfl rfl (g_nz (gl_1 hX 1167)) ?_
            refine xgetR d_Bx_show_107 gc_Bx f_Bx_9.1 f_Bx_9.2.1 f_Bx_9.2.2.1 (gl_1 hX 1167) (gl_2 hX (a := 1167) (by decide)) (gl_s hX 39 rfl) f_Bx_9.2.2.2.2.1 (gl_f hX 46 rfl) ?_
            refine wp_iload_n d_Bx_show_110 rfl rfl ?_
            refine wp_iconst d_Bx_show_111 ?_
            refine wp_ldc2 (n := 2) d_Bx_show_112 c_Bx_141 rfl ?_
            refine xcV_V (md' := true) (As := [gI x1, gI 4, gL 2]) (st := []) d_Bx_show_115 ca_Vl_set ml_Bx_60 im_Vl_set se_Vl_set gc_Vl (gl_stk hX).1 (gv_2 (gl_stk hX)) (gl_stk hX).2.2.1 rfl (by decide) (by decide) rfl (fun _ => rfl) (fun _ => rfl) T (fun M41 T => ?_)
            exact wp_return d_Bx_show_118 rfl (fun _ => rfl) (Nat.zero_le _) (Nat.zero_le _) (kV_mk T)
          · have T := T.2 h49
            refine wp_aload_n d_Bx_show_60 rfl rfl (g_nz (gl_1 hX 1167)) ?_
            refine xgetI d_Bx_show_61 gc_Bx f_Bx_36.1 f_Bx_36.2.1 f_Bx_36.2.2.1 (gl_1 hX 1167) (gl_2 hX (a := 1167) (by decide)) (gl_s hX 39 rfl) f_Bx_36.2.2.2.2.1 (fun h42 => ?_)
            have T := T h42
            refine wp_lload d_Bx_show_64 rfl ?_
            refine wp_l2i d_Bx_show_66 ?_
            refine wp_iadd d_Bx_show_67 ?_
            refine wp_iconst d_Bx_show_68 ?_
            refine wp_isub d_Bx_show_69 ?_
            refine wp_aload_n d_Bx_show_70 rfl rfl (g_nz (gl_1 hX 1167)) ?_
            refine xgetI d_Bx_show_71 gc_Bx f_Bx_46.1 f_Bx_46.2.1 f_Bx_46.2.2.1 (gl_1 hX 1167) (gl_2 hX (a := 1167) (by decide)) (gl_s hX 39 rfl) f_Bx_46.2.2.2.2.1 (fun h43 => ?_)
            have T := T h43
            refine wp_lload_n d_Bx_show_74 rfl rfl ?_
            refine wp_l2i d_Bx_show_75 ?_
            refine wp_iadd d_Bx_show_76 ?_
            refine wp_iconst d_Bx_show_77 ?_
            refine wp_isub d_Bx_show_78 ?_
            refine xcN_I (md' := false) (As := [gI (((M (c + 1167) 3) + x4) - 1), gI (((M (c + 1167) 5) + x2) - 1)]) (st := []) d_Bx_show_79 ca_GL_place ml_Bx_70 sm_GL_place rfl (by decide) (by decide) rfl id id T (fun v45 M44 h46 T => ?_)
            refine wp_istore (L' := [.val (gR G (c + 1167)), .val (gI x1), .val (gL x2), .unset, .val (gL x4), .unset, .val (gI 1), .val (gI v45)]) d_Bx_show_82 (by decide) rfl ?_
            refine wp_aload_n d_Bx_show_84 rfl rfl (g_nz (gl_1 hX 1167)) ?_
            refine xgetR d_Bx_show_85 gc_Bx f_Bx_9.1 f_Bx_9.2.1 f_Bx_9.2.2.1 (gl_1 hX 1167) (gl_2 hX (a := 1167) (by decide)) (gl_s hX 39 rfl) f_Bx_9.2.2.2.2.1 (gl_f hX 46 rfl) ?_
            refine wp_iload_n d_Bx_show_88 rfl rfl ?_
            refine wp_aload_n d_Bx_show_89 rfl rfl (g_nz (gl_1 hX 1167)) ?_
            refine xgetR d_Bx_show_90 gc_Bx f_Bx_19.1 f_Bx_19.2.1 f_Bx_19.2.2.1 (gl_1 hX 1167) (gl_2 hX (a := 1167) (by decide)) (gl_s hX 39 rfl) f_Bx_19.2.2.2.2.1 hv0.1 ?_
            refine wp_aload_n d_Bx_show_93 rfl rfl (g_nz (gl_1 hX 1167)) ?_
            refine xgetR d_Bx_show_94 gc_Bx f_Bx_15.1 f_Bx_15.2.1 f_Bx_15.2.2.1 (gl_1 hX 1167) (gl_2 hX (a := 1167) (by decide)) (gl_s hX 39 rfl) f_Bx_15.2.2.2.2.1 (gl_f hX 47 rfl) ?_
            refine wp_iload d_Bx_show_97 rfl ?_
            refine wp_iaload d_Bx_show_99 (gl_1 hX 235) (gl_2 hX (a := 235) (by decide)) (gl_s hX 25 rfl) (g32_n T.1 (by decide)) T.1.1 T.1.2 (fun h47 => ?_)
            have T := T.2 h47
            refine xcV_V (md' := true) (As := [gI x1, gR G v0, gI (M44 (c + 235) (Int.toNat v45))]) (st := []) d_Bx_show_100 ca_Vl_setFrom ml_Bx_137 im_Vl_setFrom se_Vl_setFrom gc_Vl (gl_stk hX).1 (gv_2 (gl_stk hX)) (gl_stk hX).2.2.1 rfl (by decide) (by decide) rfl (fun _ => rfl) (fun _ => rfl) T (fun M48 T => ?_)
            refine wp_goto (tgt := 118) d_Bx_show_103 (by decide) ?_
            exact wp_return d_Bx_show_118 rfl (fun _ => rfl) (Nat.zero_le _) (Nat.zero_le _) (kV_mk T)
theorem e_Bx_show {l : Launch} {G : gG} {d : Nat} {X : gX} {M : gM} {k : gM → Prop} {c : Nat} {x1 : Int} {x2 : Int} {x4 : Int} (T : wp l G y_Bx_show (gRm (d + 1)) true (kkV X k) false 0 [.val (gR G (c + 1167)), .val (gI x1), .val (gL x2), .unset, .val (gL x4), .unset, .unset, .unset] [] X M 0 0) : cV l G y_Bx_show (gRm (d + 1)) true [gR G (c + 1167), gI x1, gL x2, gL x4] X M k := cen_V (plainFor_of_name rfl) (by simp only [lg_sl_R, lg_sl_I, lg_sl_L, lg_sl_N, List.length_cons, List.length_nil]; decide) (by unfold gEn; simp only [lg_sl_R, lg_sl_I, lg_sl_L, lg_sl_N]; exact wpt T (And.intro rfl (And.intro rfl (And.intro rfl (And.intro rfl True.intro)))))
theorem d_Bx_isSo_0 : decode prog_3_method_13_code 0 = .ok (.aload_n 0, 1) := by decide +kernel
theorem d_Bx_isSo_1 : decode prog_3_method_13_code 1 = .ok (.getfield 15, 3) := by decide +kernel
theorem d_Bx_isSo_4 : decode prog_3_method_13_code 4 = .ok (.iload_n 1, 1) := by decide +kernel
theorem d_Bx_isSo_5 : decode prog_3_method_13_code 5 = .ok (.iload_n 2, 1) := by decide +kernel
theorem d_Bx_isSo_6 : decode prog_3_method_13_code 6 = .ok (.invokestatic 70, 3) := by decide +kernel
theorem d_Bx_isSo_9 : decode prog_3_method_13_code 9 = .ok (.iaload, 1) := by decide +kernel
theorem d_Bx_isSo_10 : decode prog_3_method_13_code 10 = .ok (.istore 4, 2) := by decide +kernel
theorem d_Bx_isSo_12 : decode prog_3_method_13_code 12 = .ok (.aload_n 0, 1) := by decide +kernel
theorem d_Bx_isSo_13 : decode prog_3_method_13_code 13 = .ok (.getfield 19, 3) := by decide +kernel
theorem d_Bx_isSo_16 : decode prog_3_method_13_code 16 = .ok (.getfield 73, 3) := by decide +kernel
theorem d_Bx_isSo_19 : decode prog_3_method_13_code 19 = .ok (.iload 4, 2) := by decide +kernel
theorem d_Bx_isSo_21 : decode prog_3_method_13_code 21 = .ok (.iaload, 1) := by decide +kernel
theorem d_Bx_isSo_22 : decode prog_3_method_13_code 22 = .ok (.iconst 4, 1) := by decide +kernel
theorem d_Bx_isSo_23 : decode prog_3_method_13_code 23 = .ok (.if_icmp .eq 24, 3) := by decide +kernel
theorem d_Bx_isSo_47 : decode prog_3_method_13_code 47 = .ok (.iconst 0, 1) := by decide +kernel
theorem d_Bx_isSo_48 : decode prog_3_method_13_code 48 = .ok (.ireturn, 1) := by decide +kernel
theorem d_Bx_isSo_26 : decode prog_3_method_13_code 26 = .ok (.aload_n 0, 1) := by decide +kernel
theorem d_Bx_isSo_27 : decode prog_3_method_13_code 27 = .ok (.getfield 19, 3) := by decide +kernel
theorem d_Bx_isSo_30 : decode prog_3_method_13_code 30 = .ok (.iload 4, 2) := by decide +kernel
theorem d_Bx_isSo_32 : decode prog_3_method_13_code 32 = .ok (.aload_n 0, 1) := by decide +kernel
theorem d_Bx_isSo_33 : decode prog_3_method_13_code 33 = .ok (.getfield 9, 3) := by decide +kernel
theorem d_Bx_isSo_36 : decode prog_3_method_13_code 36 = .ok (.iload_n 3, 1) := by decide +kernel
theorem d_Bx_isSo_37 : decode prog_3_method_13_code 37 = .ok (.invokevirtual 143, 3) := by decide +kernel
theorem d_Bx_isSo_40 : decode prog_3_method_13_code 40 = .ok (.ifCond .ne 7, 3) := by decide +kernel
theorem d_Bx_isSo_43 : decode prog_3_method_13_code 43 = .ok (.iconst 1, 1) := by decide +kernel
theorem d_Bx_isSo_44 : decode prog_3_method_13_code 44 = .ok (.goto 4, 3) := by decide +kernel
set_option maxHeartbeats 4000000 in
theorem w_Bx_isSo_0 {l : Launch} {G : gG} {d : Nat} {X : gX} {M : gM} {k : Int → gM → Prop} {c : Nat} (hX : glX X c) {x1 : Int} (hx1 : g32 x1) {x2 : Int} (hx2 : g32 x2) {x3 : Int} (hx3 : g32 x3) {v0 : Nat} (hv0 : X.2.2 (c + 1167) 2 = v0 ∧ gvX X v0 401) (T : cI l G y_GL_place (gRm d) false [gI x1, gI x2] X M (fun v2 M1 => (((0 : Int) ≤ v2 ∧ v2 < 5200) ∧ (g32 (M1 (c + 235) (Int.toNat v2)) → (((0 : Int) ≤ M1 (c + 235) (Int.toNat v2) ∧ M1 (c + 235) (Int.toNat v2) < 401) ∧ (g32 (M1 (v0 + 1) (Int.toNat (M1 (c + 235) (Int.toNat v2)))) → ((M1 (v0 + 1) (Int.toNat (M1 (c + 235) (Int.toNat v2))) = 4 → (k 0 M1)) ∧ (¬ M1 (v0 + 1) (Int.toNat (M1 (c + 235) (Int.toNat v2))) = 4 → (cI l G y_Vl_compare (gRm d) false [gR G v0, gI (M1 (c + 235) (Int.toNat v2)), gR G (c + 1058), gI x3] X M1 (fun v7 M6 => ((¬ v7 = 0 → (k 0 M6)) ∧ (v7 = 0 → (k 1 M6))))))))))))) : wp l G y_Bx_isSo (gRm (d + 1)) false (kkZ X k) false 0 [.val (gR G (c + 1167)), .val (gI x1), .val (gI x2), .val (gI x3), .unset] [] X M 0 0 := by
  refine wp_aload_n d_Bx_isSo_0 rfl rfl (g_nz (gl_1 hX 1167)) ?_
  refine xgetR d_Bx_isSo_1 gc_Bx f_Bx_15.1 f_Bx_15.2.1 f_Bx_15.2.2.1 (gl_1 hX 1167) (gl_2 hX (a := 1167) (by decide)) (gl_s hX 39 rfl) f_Bx_15.2.2.2.2.1 (gl_f hX 47 rfl) ?_
  refine wp_iload_n d_Bx_isSo_4 rfl rfl ?_
  refine wp_iload_n d_Bx_isSo_5 rfl rfl ?_
  refine xcN_I (md' := false) (As := [gI x1, gI x2]) (st := [gR G (c + 235)]) d_Bx_isSo_6 ca_GL_place ml_Bx_70 sm_GL_place rfl (by decide) (by simp only [List.map, gR_cat, gI_cat, gL_cat, List.sum_cons, List.sum_nil]; decide) rfl id id T (fun v2 M1 h3 T => ?_)
  refine wp_iaload d_Bx_isSo_9 (gl_1 hX 235) (gl_2 hX (a := 235) (by decide)) (gl_s hX 25 rfl) (g32_n T.1 (by decide)) T.1.1 T.1.2 (fun h4 => ?_)
  have T := T.2 h4
  refine wp_istore (L' := [.val (gR G (c + 1167)), .val (gI x1), .val (gI x2), .val (gI x3), .val (gI (M1 (c + 235) (Int.toNat v2)))]) d_Bx_isSo_10 (by decide) rfl ?_
  refine wp_aload_n d_Bx_isSo_12 rfl rfl (g_nz (gl_1 hX 1167)) ?_
  refine xgetR d_Bx_isSo_13 gc_Bx f_Bx_19.1 f_Bx_19.2.1 f_Bx_19.2.2.1 (gl_1 hX 1167) (gl_2 hX (a := 1167) (by decide)) (gl_s hX 39 rfl) f_Bx_19.2.2.2.2.1 hv0.1 ?_
  refine xgetR d_Bx_isSo_16 gc_Vl f_Bx_73.1 f_Bx_73.2.1 f_Bx_73.2.2.1 hv0.2.1 (gv_2 hv0.2) hv0.2.2.2.1 f_Bx_73.2.2.2.2.1 (gv_r1 hv0.2).1 ?_
  refine wp_iload d_Bx_isSo_19 rfl ?_
  refine wp_iaload d_Bx_isSo_21 (gv_r1 hv0.2).2.2.1 (gv_r1 hv0.2).2.2.2 (gv_r1 hv0.2).2.1 (g32_n T.1 (gv_n hv0.2)) T.1.1 T.1.2 (fun h5 => ?_)
  have T := T.2 h5
  refine wp_iconst d_Bx_isSo_22 ?_
  refine xi_eq (tgt := 47) d_Bx_isSo_23 (by decide) (w32_id h5) (w32_id (g32_c (x := 4) rfl)) (fun h10 => ?_) (fun h10 => ?_)
  · have T := T.1 h10
    refine wp_iconst d_Bx_isSo_47 ?_
    exact wp_zreturn d_Bx_isSo_48 rfl (g_narz (⟨by decide, by decide⟩ : (0 : Int) ≤ 0 ∧ (0 : Int) ≤ 1)) id (Nat.zero_le _) (Nat.zero_le _) (kZ_mk (⟨by decide, by decide⟩ : (0 : Int) ≤ 0 ∧ (0 : Int) ≤ 1) T)
  · have T := T.2 h10
    refine wp_aload_n d_Bx_isSo_26 rfl rfl (g_nz (gl_1 hX 1167)) ?_
    refine xgetR d_Bx_isSo_27 gc_Bx f_Bx_19.1 f_Bx_19.2.1 f_Bx_19.2.2.1 (gl_1 hX 1167) (gl_2 hX (a := 1167) (by decide)) (gl_s hX 39 rfl) f_Bx_19.2.2.2.2.1 hv0.1 ?_
    refine wp_iload d_Bx_isSo_30 rfl ?_
    refine wp_aload_n d_Bx_isSo_32 rfl rfl (g_nz (gl_1 hX 1167)) ?_
    refine xgetR d_Bx_isSo_33 gc_Bx f_Bx_9.1 f_Bx_9.2.1 f_Bx_9.2.2.1 (gl_1 hX 1167) (gl_2 hX (a := 1167) (by decide)) (gl_s hX 39 rfl) f_Bx_9.2.2.2.2.1 (gl_f hX 46 rfl) ?_
    refine wp_iload_n d_Bx_isSo_36 rfl rfl ?_
    refine xcV_I (md' := false) (As := [gI (M1 (c + 235) (Int.toNat v2)), gR G (c + 1058), gI x3]) (st := []) d_Bx_isSo_37 ca_Vl_compare ml_Bx_143 im_Vl_compare se_Vl_compare gc_Vl hv0.2.1 (gv_2 hv0.2) hv0.2.2.2.1 rfl (by decide) (by decide) rfl id id T (fun v7 M6 h8 T => ?_)
    refine xz_ne (tgt := 47) d_Bx_isSo_40 (by decide) (w32_id h8) (fun h9 => ?_) (fun h9 => ?_)
    · have T := T.1 h9
      refine wp_iconst d_Bx_isSo_47 ?_
      exact wp_zreturn d_Bx_isSo_48 rfl (g_narz (⟨by decide, by decide⟩ : (0 : Int) ≤ 0 ∧ (0 : Int) ≤ 1)) id (Nat.zero_le _) (Nat.zero_le _) (kZ_mk (⟨by decide, by decide⟩ : (0 : Int) ≤ 0 ∧ (0 : Int) ≤ 1) T)
    · have T := T.2 h9
      refine wp_iconst d_Bx_isSo_43 ?_
      refine wp_goto (tgt := 48) d_Bx_isSo_44 (by decide) ?_
      exact wp_zreturn d_Bx_isSo_48 rfl (g_narz (⟨by decide, by decide⟩ : (0 : Int) ≤ 1 ∧ (1 : Int) ≤ 1)) id (Nat.zero_le _) (Nat.zero_le _) (kZ_mk (⟨by decide, by decide⟩ : (0 : Int) ≤ 1 ∧ (1 : Int) ≤ 1) T)
theorem e_Bx_isSo {l : Launch} {G : gG} {d : Nat} {X : gX} {M : gM} {k : Int → gM → Prop} {c : Nat} {x1 : Int} {x2 : Int} {x3 : Int} (T : wp l G y_Bx_isSo (gRm (d + 1)) false (kkZ X k) false 0 [.val (gR G (c + 1167)), .val (gI x1), .val (gI x2), .val (gI x3), .unset] [] X M 0 0) : cZ l G y_Bx_isSo (gRm (d + 1)) false [gR G (c + 1167), gI x1, gI x2, gI x3] X M k := cen_Z (plainFor_of_name rfl) (by simp only [lg_sl_R, lg_sl_I, lg_sl_L, lg_sl_N, List.length_cons, List.length_nil]; decide) (by unfold gEn; simp only [lg_sl_R, lg_sl_I, lg_sl_L, lg_sl_N]; exact wpt T (And.intro rfl (And.intro rfl (And.intro rfl (And.intro rfl True.intro)))))
theorem d_Bx_match_0 : decode prog_3_method_14_code 0 = .ok (.iconst 0, 1) := by decide +kernel
theorem d_Bx_match_1 : decode prog_3_method_14_code 1 = .ok (.istore_n 2, 1) := by decide +kernel
theorem d_Bx_match_2 : decode prog_3_method_14_code 2 = .ok (.aload_n 0, 1) := by decide +kernel
theorem d_Bx_match_3 : decode prog_3_method_14_code 3 = .ok (.getfield 46, 3) := by decide +kernel
theorem d_Bx_match_6 : decode prog_3_method_14_code 6 = .ok (.istore_n 3, 1) := by decide +kernel
theorem d_Bx_match_7 : decode prog_3_method_14_code 7 = .ok (.iload_n 3, 1) := by decide +kernel
theorem d_Bx_match_8 : decode prog_3_method_14_code 8 = .ok (.aload_n 0, 1) := by decide +kernel
theorem d_Bx_match_9 : decode prog_3_method_14_code 9 = .ok (.getfield 49, 3) := by decide +kernel
theorem d_Bx_match_12 : decode prog_3_method_14_code 12 = .ok (.if_icmp .gt 56, 3) := by decide +kernel
theorem d_Bx_match_68 : decode prog_3_method_14_code 68 = .ok (.aload_n 0, 1) := by decide +kernel
theorem d_Bx_match_69 : decode prog_3_method_14_code 69 = .ok (.getfield 9, 3) := by decide +kernel
theorem d_Bx_match_72 : decode prog_3_method_14_code 72 = .ok (.iload_n 1, 1) := by decide +kernel
theorem d_Bx_match_73 : decode prog_3_method_14_code 73 = .ok (.iconst 4, 1) := by decide +kernel
theorem d_Bx_match_74 : decode prog_3_method_14_code 74 = .ok (.ldc2_w 151, 3) := by decide +kernel
theorem d_Bx_match_77 : decode prog_3_method_14_code 77 = .ok (.invokevirtual 60, 3) := by decide +kernel
theorem d_Bx_match_80 : decode prog_3_method_14_code 80 = .ok (.return_, 1) := by decide +kernel
theorem d_Bx_match_15 : decode prog_3_method_14_code 15 = .ok (.aload_n 0, 1) := by decide +kernel
theorem d_Bx_match_16 : decode prog_3_method_14_code 16 = .ok (.getfield 36, 3) := by decide +kernel
theorem d_Bx_match_19 : decode prog_3_method_14_code 19 = .ok (.istore 4, 2) := by decide +kernel
theorem d_Bx_match_21 : decode prog_3_method_14_code 21 = .ok (.iload 4, 2) := by decide +kernel
theorem d_Bx_match_23 : decode prog_3_method_14_code 23 = .ok (.aload_n 0, 1) := by decide +kernel
theorem d_Bx_match_24 : decode prog_3_method_14_code 24 = .ok (.getfield 43, 3) := by decide +kernel
theorem d_Bx_match_27 : decode prog_3_method_14_code 27 = .ok (.if_icmp .gt 35, 3) := by decide +kernel
theorem d_Bx_match_62 : decode prog_3_method_14_code 62 = .ok (.iinc 3 1, 3) := by decide +kernel
theorem d_Bx_match_65 : decode prog_3_method_14_code 65 = .ok (.goto (-58), 3) := by decide +kernel
theorem d_Bx_match_30 : decode prog_3_method_14_code 30 = .ok (.iinc 2 1, 3) := by decide +kernel
theorem d_Bx_match_33 : decode prog_3_method_14_code 33 = .ok (.aload_n 0, 1) := by decide +kernel
theorem d_Bx_match_34 : decode prog_3_method_14_code 34 = .ok (.iload 4, 2) := by decide +kernel
theorem d_Bx_match_36 : decode prog_3_method_14_code 36 = .ok (.iload_n 3, 1) := by decide +kernel
theorem d_Bx_match_37 : decode prog_3_method_14_code 37 = .ok (.iload_n 1, 1) := by decide +kernel
theorem d_Bx_match_38 : decode prog_3_method_14_code 38 = .ok (.invokevirtual 147, 3) := by decide +kernel
theorem d_Bx_match_41 : decode prog_3_method_14_code 41 = .ok (.ifCond .eq 15, 3) := by decide +kernel
theorem d_Bx_match_56 : decode prog_3_method_14_code 56 = .ok (.iinc 4 1, 3) := by decide +kernel
theorem d_Bx_match_59 : decode prog_3_method_14_code 59 = .ok (.goto (-38), 3) := by decide +kernel
theorem d_Bx_match_44 : decode prog_3_method_14_code 44 = .ok (.aload_n 0, 1) := by decide +kernel
theorem d_Bx_match_45 : decode prog_3_method_14_code 45 = .ok (.getfield 9, 3) := by decide +kernel
theorem d_Bx_match_48 : decode prog_3_method_14_code 48 = .ok (.iload_n 1, 1) := by decide +kernel
theorem d_Bx_match_49 : decode prog_3_method_14_code 49 = .ok (.iconst 1, 1) := by decide +kernel
theorem d_Bx_match_50 : decode prog_3_method_14_code 50 = .ok (.iload_n 2, 1) := by decide +kernel
theorem d_Bx_match_51 : decode prog_3_method_14_code 51 = .ok (.i2l, 1) := by decide +kernel
theorem d_Bx_match_52 : decode prog_3_method_14_code 52 = .ok (.invokevirtual 60, 3) := by decide +kernel
theorem d_Bx_match_55 : decode prog_3_method_14_code 55 = .ok (.return_, 1) := by decide +kernel
set_option maxHeartbeats 4000000 in
theorem w_Bx_match_0 {l : Launch} {G : gG} {d : Nat} {X : gX} {M : gM} {k : gM → Prop} {c : Nat} (hX : glX X c) {x1 : Int} (hx1 : g32 x1)  (T : g32 (M (c + 1167) 5) → (wp l G y_Bx_match (gRm (d + 1)) true (kkV X k) true 7 [.val (gR G (c + 1167)), .val (gI x1), .val (gI 0), .val (gI (M (c + 1167) 5)), .unset] [] X M 0 0)) : wp l G y_Bx_match (gRm (d + 1)) true (kkV X k) false 0 [.val (gR G (c + 1167)), .val (gI x1), .unset, .unset, .unset] [] X M 0 0 := by
  refine wp_iconst d_Bx_match_0 ?_
  refine wp_istore_n (L' := [.val (gR G (c + 1167)), .val (gI x1), .val (gI 0), .unset, .unset]) d_Bx_match_1 rfl (by decide) rfl ?_
  refine wp_aload_n d_Bx_match_2 rfl rfl (g_nz (gl_1 hX 1167)) ?_
  refine xgetI d_Bx_match_3 gc_Bx f_Bx_46.1 f_Bx_46.2.1 f_Bx_46.2.2.1 (gl_1 hX 1167) (gl_2 hX (a := 1167) (by decide)) (gl_s hX 39 rfl) f_Bx_46.2.2.2.2.1 (fun h1 => ?_)
  have T := T h1
  refine wp_istore_n (L' := [.val (gR G (c + 1167)), .val (gI x1), .val (gI 0), .val (gI (M (c + 1167) 5)), .unset]) d_Bx_match_6 rfl (by decide) rfl ?_
  exact wp_md (wpt T (And.intro rfl (And.intro rfl (And.intro rfl (And.intro rfl True.intro)))))
set_option maxHeartbeats 4000000 in
theorem w_Bx_match_7 {l : Launch} {G : gG} {d : Nat} {X : gX} {M : gM} {k : gM → Prop} {c : Nat} (hX : glX X c) {x1 : Int} (hx1 : g32 x1) {x2 : Int} (hx2 : g32 x2) {x3 : Int} (hx3 : g32 x3)  (T : g32 (M (c + 1167) 6) → ((M (c + 1167) 6 < x3 → (cV l G y_Vl_set (gRm d) true [gR G (c + 1058), gI x1, gI 4, gL 7] X M (fun M3 => (k M3)))) ∧ (¬ M (c + 1167) 6 < x3 → (g32 (M (c + 1167) 3) → (wp l G y_Bx_match (gRm (d + 1)) true (kkV X k) true 21 [.val (gR G (c + 1167)), .val (gI x1), .val (gI x2), .val (gI x3), .val (gI (M (c + 1167) 3))] [] X M 0 0))))) : wp l G y_Bx_match (gRm (d + 1)) true (kkV X k) true 7 [.val (gR G (c + 1167)), .val (gI x1), .val (gI x2), .val (gI x3), .unset] [] X M 0 0 := by
  refine wp_iload_n d_Bx_match_7 rfl rfl ?_
  refine wp_aload_n d_Bx_match_8 rfl rfl (g_nz (gl_1 hX 1167)) ?_
  refine xgetI d_Bx_match_9 gc_Bx f_Bx_49.1 f_Bx_49.2.1 f_Bx_49.2.2.1 (gl_1 hX 1167) (gl_2 hX (a := 1167) (by decide)) (gl_s hX 39 rfl) f_Bx_49.2.2.2.2.1 (fun h2 => ?_)
  have T := T h2
  refine xi_gt (tgt := 68) d_Bx_match_12 (by decide) (w32_id hx3) (w32_id h2) (fun h5 => ?_) (fun h5 => ?_)
  · have T := T.1 h5
    refine wp_aload_n d_Bx_match_68 rfl rfl (g_nz (gl_1 hX 1167)) ?_
    refine xgetR d_Bx_match_69 gc_Bx f_Bx_9.1 f_Bx_9.2.1 f_Bx_9.2.2.1 (gl_1 hX 1167) (gl_2 hX (a := 1167) (by decide)) (gl_s hX 39 rfl) f_Bx_9.2.2.2.2.1 (gl_f hX 46 rfl) ?_
    refine wp_iload_n d_Bx_match_72 rfl rfl ?_
    refine wp_iconst d_Bx_match_73 ?_
    refine wp_ldc2 (n := 7) d_Bx_match_74 c_Bx_151 rfl ?_
    refine xcV_V (md' := true) (As := [gI x1, gI 4, gL 7]) (st := []) d_Bx_match_77 ca_Vl_set ml_Bx_60 im_Vl_set se_Vl_set gc_Vl (gl_stk hX).1 (gv_2 (gl_stk hX)) (gl_stk hX).2.2.1 rfl (by decide) (by decide) rfl (fun _ => rfl) (fun _ => rfl) T (fun M3 T => ?_)
    exact wp_return d_Bx_match_80 rfl (fun _ => rfl) (Nat.zero_le _) (Nat.zero_le _) (kV_mk T)
  · have T := T.2 h5
    refine wp_aload_n d_Bx_match_15 rfl rfl (g_nz (gl_1 hX 1167)) ?_
    refine xgetI d_Bx_match_16 gc_Bx f_Bx_36.1 f_Bx_36.2.1 f_Bx_36.2.2.1 (gl_1 hX 1167) (gl_2 hX (a := 1167) (by decide)) (gl_s hX 39 rfl) f_Bx_36.2.2.2.2.1 (fun h4 => ?_)
    have T := T h4
    refine wp_istore (L' := [.val (gR G (c + 1167)), .val (gI x1), .val (gI x2), .val (gI x3), .val (gI (M (c + 1167) 3))]) d_Bx_match_19 (by decide) rfl ?_
    exact wp_md (wpt T (And.intro rfl (And.intro rfl (And.intro rfl (And.intro rfl (And.intro rfl True.intro))))))
set_option maxHeartbeats 4000000 in
theorem w_Bx_match_21 {l : Launch} {G : gG} {d : Nat} {X : gX} {M : gM} {k : gM → Prop} {c : Nat} (hX : glX X c) {x1 : Int} (hx1 : g32 x1) {x2 : Int} (hx2 : g32 x2) {x3 : Int} (hx3 : g32 x3) {x4 : Int} (hx4 : g32 x4)  (T : g32 (M (c + 1167) 4) → ((M (c + 1167) 4 < x4 → (wp l G y_Bx_match (gRm (d + 1)) true (kkV X k) true 7 [.val (gR G (c + 1167)), .val (gI x1), .val (gI x2), .val (gI (w32 (x3 + 1))), .unset] [] X M 0 0)) ∧ (¬ M (c + 1167) 4 < x4 → (cZ l G y_Bx_isSo (gRm d) false [gR G (c + 1167), gI x4, gI x3, gI x1] X M (fun v8 M7 => ((v8 = 0 → (wp l G y_Bx_match (gRm (d + 1)) true (kkV X k) true 21 [.val (gR G (c + 1167)), .val (gI x1), .val (gI (w32 (x2 + 1))), .val (gI x3), .val (gI (w32 (x4 + 1)))] [] X M7 0 0)) ∧ (¬ v8 = 0 → (cV l G y_Vl_set (gRm d) true [gR G (c + 1058), gI x1, gI 1, gL (w32 (x2 + 1))] X M7 (fun M10 => (k M10)))))))))) : wp l G y_Bx_match (gRm (d + 1)) true (kkV X k) true 21 [.val (gR G (c + 1167)), .val (gI x1), .val (gI x2), .val (gI x3), .val (gI x4)] [] X M 0 0 := by
  refine wp_iload d_Bx_match_21 rfl ?_
  refine wp_aload_n d_Bx_match_23 rfl rfl (g_nz (gl_1 hX 1167)) ?_
  refine xgetI d_Bx_match_24 gc_Bx f_Bx_43.1 f_Bx_43.2.1 f_Bx_43.2.2.1 (gl_1 hX 1167) (gl_2 hX (a := 1167) (by decide)) (gl_s hX 39 rfl) f_Bx_43.2.2.2.2.1 (fun h6 => ?_)
  have T := T h6
  refine xi_gt (tgt := 62) d_Bx_match_27 (by decide) (w32_id hx4) (w32_id h6) (fun h12 => ?_) (fun h12 => ?_)
  · have T := T.1 h12
    refine wp_iinc (L' := [.val (gR G (c + 1167)), .val (gI x1), .val (gI x2), .val (gI (x3 + 1)), .val (gI x4)]) d_Bx_match_62 rfl (by decide) rfl ?_
    refine wp_goto (tgt := 7) d_Bx_match_65 (by decide) ?_
    exact wp_md (wpt T (And.intro rfl (And.intro rfl (And.intro rfl (And.intro (gI_w _) True.intro)))))
  · have T := T.2 h12
    refine wp_iinc (L' := [.val (gR G (c + 1167)), .val (gI x1), .val (gI (x2 + 1)), .val (gI x3), .val (gI x4)]) d_Bx_match_30 rfl (by decide) rfl ?_
    refine wp_aload_n d_Bx_match_33 rfl rfl (g_nz (gl_1 hX 1167)) ?_
    refine wp_iload d_Bx_match_34 rfl ?_
    refine wp_iload_n d_Bx_match_36 rfl rfl ?_
    refine wp_iload_n d_Bx_match_37 rfl rfl ?_
    refine xcV_Z (md' := true) (As := [gI x4, gI x3, gI x1]) (st := []) d_Bx_match_38 ca_Bx_isSo ml_Bx_147 im_Bx_isSo se_Bx_isSo gc_Bx (gl_1 hX 1167) (gl_2 hX (a := 1167) (by decide)) (gl_s hX 39 rfl) rfl (by decide) (by decide) rfl (fun _ => rfl) (fun _ => rfl) T (fun v8 M7 h9 T => ?_)
    refine xz_eq (tgt := 56) d_Bx_match_41 (by decide) (w32_id (g32_z h9)) (fun h11 => ?_) (fun h11 => ?_)
    · have T := T.1 h11
      refine wp_iinc (L' := [.val (gR G (c + 1167)), .val (gI x1), .val (gI (x2 + 1)), .val (gI x3), .val (gI (x4 + 1))]) d_Bx_match_56 rfl (by decide) rfl ?_
      refine wp_goto (tgt := 21) d_Bx_match_59 (by decide) ?_
      exact wp_md (wpt T (And.intro rfl (And.intro rfl (And.intro (gI_w _) (And.intro rfl (And.intro (gI_w _) True.intro))))))
    · have T := T.2 h11
      refine wp_aload_n d_Bx_match_44 rfl rfl (g_nz (gl_1 hX 1167)) ?_
      refine xgetR d_Bx_match_45 gc_Bx f_Bx_9.1 f_Bx_9.2.1 f_Bx_9.2.2.1 (gl_1 hX 1167) (gl_2 hX (a := 1167) (by decide)) (gl_s hX 39 rfl) f_Bx_9.2.2.2.2.1 (gl_f hX 46 rfl) ?_
      refine wp_iload_n d_Bx_match_48 rfl rfl ?_
      refine wp_iconst d_Bx_match_49 ?_
      refine wp_iload_n d_Bx_match_50 rfl rfl ?_
      refine xi2l d_Bx_match_51 rfl ?_
      refine xcV_V (md' := true) (As := [gI x1, gI 1, gL (w32 (x2 + 1))]) (st := []) d_Bx_match_52 ca_Vl_set ml_Bx_60 im_Vl_set se_Vl_set gc_Vl (gl_stk hX).1 (gv_2 (gl_stk hX)) (gl_stk hX).2.2.1 rfl (by decide) (by decide) rfl (fun _ => rfl) (fun _ => rfl) T (fun M10 T => ?_)
      exact wp_return d_Bx_match_55 rfl (fun _ => rfl) (Nat.zero_le _) (Nat.zero_le _) (kV_mk T)
theorem e_Bx_match {l : Launch} {G : gG} {d : Nat} {X : gX} {M : gM} {k : gM → Prop} {c : Nat} {x1 : Int} (T : wp l G y_Bx_match (gRm (d + 1)) true (kkV X k) false 0 [.val (gR G (c + 1167)), .val (gI x1), .unset, .unset, .unset] [] X M 0 0) : cV l G y_Bx_match (gRm (d + 1)) true [gR G (c + 1167), gI x1] X M k := cen_V (plainFor_of_name rfl) (by simp only [lg_sl_R, lg_sl_I, lg_sl_L, lg_sl_N, List.length_cons, List.length_nil]; decide) (by unfold gEn; simp only [lg_sl_R, lg_sl_I, lg_sl_L, lg_sl_N]; exact wpt T (And.intro rfl (And.intro rfl True.intro)))
theorem d_Bx_lookUp_0 : decode prog_3_method_15_code 0 = .ok (.aload_n 0, 1) := by decide +kernel
theorem d_Bx_lookUp_1 : decode prog_3_method_15_code 1 = .ok (.getfield 46, 3) := by decide +kernel
theorem d_Bx_lookUp_4 : decode prog_3_method_15_code 4 = .ok (.istore_n 2, 1) := by decide +kernel
theorem d_Bx_lookUp_5 : decode prog_3_method_15_code 5 = .ok (.iload_n 2, 1) := by decide +kernel
theorem d_Bx_lookUp_6 : decode prog_3_method_15_code 6 = .ok (.aload_n 0, 1) := by decide +kernel
theorem d_Bx_lookUp_7 : decode prog_3_method_15_code 7 = .ok (.getfield 49, 3) := by decide +kernel
theorem d_Bx_lookUp_10 : decode prog_3_method_15_code 10 = .ok (.if_icmp .gt 48, 3) := by decide +kernel
theorem d_Bx_lookUp_58 : decode prog_3_method_15_code 58 = .ok (.aload_n 0, 1) := by decide +kernel
theorem d_Bx_lookUp_59 : decode prog_3_method_15_code 59 = .ok (.getfield 9, 3) := by decide +kernel
theorem d_Bx_lookUp_62 : decode prog_3_method_15_code 62 = .ok (.iload_n 1, 1) := by decide +kernel
theorem d_Bx_lookUp_63 : decode prog_3_method_15_code 63 = .ok (.iconst 4, 1) := by decide +kernel
theorem d_Bx_lookUp_64 : decode prog_3_method_15_code 64 = .ok (.ldc2_w 151, 3) := by decide +kernel
theorem d_Bx_lookUp_67 : decode prog_3_method_15_code 67 = .ok (.invokevirtual 60, 3) := by decide +kernel
theorem d_Bx_lookUp_70 : decode prog_3_method_15_code 70 = .ok (.return_, 1) := by decide +kernel
theorem d_Bx_lookUp_13 : decode prog_3_method_15_code 13 = .ok (.aload_n 0, 1) := by decide +kernel
theorem d_Bx_lookUp_14 : decode prog_3_method_15_code 14 = .ok (.aload_n 0, 1) := by decide +kernel
theorem d_Bx_lookUp_15 : decode prog_3_method_15_code 15 = .ok (.getfield 36, 3) := by decide +kernel
theorem d_Bx_lookUp_18 : decode prog_3_method_15_code 18 = .ok (.iload_n 2, 1) := by decide +kernel
theorem d_Bx_lookUp_19 : decode prog_3_method_15_code 19 = .ok (.iload_n 1, 1) := by decide +kernel
theorem d_Bx_lookUp_20 : decode prog_3_method_15_code 20 = .ok (.invokevirtual 147, 3) := by decide +kernel
theorem d_Bx_lookUp_23 : decode prog_3_method_15_code 23 = .ok (.ifCond .eq 29, 3) := by decide +kernel
theorem d_Bx_lookUp_52 : decode prog_3_method_15_code 52 = .ok (.iinc 2 1, 3) := by decide +kernel
theorem d_Bx_lookUp_55 : decode prog_3_method_15_code 55 = .ok (.goto (-50), 3) := by decide +kernel
theorem d_Bx_lookUp_26 : decode prog_3_method_15_code 26 = .ok (.aload_n 0, 1) := by decide +kernel
theorem d_Bx_lookUp_27 : decode prog_3_method_15_code 27 = .ok (.iload_n 1, 1) := by decide +kernel
theorem d_Bx_lookUp_28 : decode prog_3_method_15_code 28 = .ok (.iload_n 2, 1) := by decide +kernel
theorem d_Bx_lookUp_29 : decode prog_3_method_15_code 29 = .ok (.aload_n 0, 1) := by decide +kernel
theorem d_Bx_lookUp_30 : decode prog_3_method_15_code 30 = .ok (.getfield 46, 3) := by decide +kernel
theorem d_Bx_lookUp_33 : decode prog_3_method_15_code 33 = .ok (.isub, 1) := by decide +kernel
theorem d_Bx_lookUp_34 : decode prog_3_method_15_code 34 = .ok (.iconst 1, 1) := by decide +kernel
theorem d_Bx_lookUp_35 : decode prog_3_method_15_code 35 = .ok (.iadd, 1) := by decide +kernel
theorem d_Bx_lookUp_36 : decode prog_3_method_15_code 36 = .ok (.i2l, 1) := by decide +kernel
theorem d_Bx_lookUp_37 : decode prog_3_method_15_code 37 = .ok (.aload_n 0, 1) := by decide +kernel
theorem d_Bx_lookUp_38 : decode prog_3_method_15_code 38 = .ok (.getfield 9, 3) := by decide +kernel
theorem d_Bx_lookUp_41 : decode prog_3_method_15_code 41 = .ok (.getfield 22, 3) := by decide +kernel
theorem d_Bx_lookUp_44 : decode prog_3_method_15_code 44 = .ok (.iload_n 1, 1) := by decide +kernel
theorem d_Bx_lookUp_45 : decode prog_3_method_15_code 45 = .ok (.iconst 2, 1) := by decide +kernel
theorem d_Bx_lookUp_46 : decode prog_3_method_15_code 46 = .ok (.iadd, 1) := by decide +kernel
theorem d_Bx_lookUp_47 : decode prog_3_method_15_code 47 = .ok (.laload, 1) := by decide +kernel
theorem d_Bx_lookUp_48 : decode prog_3_method_15_code 48 = .ok (.invokevirtual 123, 3) := by decide +kernel
theorem d_Bx_lookUp_51 : decode prog_3_method_15_code 51 = .ok (.return_, 1) := by decide +kernel
set_option maxHeartbeats 4000000 in
theorem w_Bx_lookUp_0 {l : Launch} {G : gG} {d : Nat} {X : gX} {M : gM} {k : gM → Prop} {c : Nat} (hX : glX X c) {x1 : Int} (hx1 : g32 x1)  (T : g32 (M (c + 1167) 5) → (wp l G y_Bx_lookUp (gRm (d + 1)) true (kkV X k) true 5 [.val (gR G (c + 1167)), .val (gI x1), .val (gI (M (c + 1167) 5))] [] X M 0 0)) : wp l G y_Bx_lookUp (gRm (d + 1)) true (kkV X k) false 0 [.val (gR G (c + 1167)), .val (gI x1), .unset] [] X M 0 0 := by
  refine wp_aload_n d_Bx_lookUp_0 rfl rfl (g_nz (gl_1 hX 1167)) ?_
  refine xgetI d_Bx_lookUp_1 gc_Bx f_Bx_46.1 f_Bx_46.2.1 f_Bx_46.2.2.1 (gl_1 hX 1167) (gl_2 hX (a := 1167) (by decide)) (gl_s hX 39 rfl) f_Bx_46.2.2.2.2.1 (fun h1 => ?_)
  have T := T h1
  refine wp_istore_n (L' := [.val (gR G (c + 1167)), .val (gI x1), .val (gI (M (c + 1167) 5))]) d_Bx_lookUp_4 rfl (by decide) rfl ?_
  exact wp_md (wpt T (And.intro rfl (And.intro rfl (And.intro rfl True.intro))))
set_option maxHeartbeats 4000000 in
theorem w_Bx_lookUp_5 {l : Launch} {G : gG} {d : Nat} {X : gX} {M : gM} {k : gM → Prop} {c : Nat} (hX : glX X c) {x1 : Int} (hx1 : g32 x1) {x2 : Int} (hx2 : g32 x2)  (T : g32 (M (c + 1167) 6) → ((M (c + 1167) 6 < x2 → (cV l G y_Vl_set (gRm d) true [gR G (c + 1058), gI x1, gI 4, gL 7] X M (fun M3 => (k M3)))) ∧ (¬ M (c + 1167) 6 < x2 → (g32 (M (c + 1167) 3) → (cZ l G y_Bx_isSo (gRm d) false [gR G (c + 1167), gI (M (c + 1167) 3), gI x2, gI x1] X M (fun v6 M5 => ((v6 = 0 → (wp l G y_Bx_lookUp (gRm (d + 1)) true (kkV X k) true 5 [.val (gR G (c + 1167)), .val (gI x1), .val (gI (w32 (x2 + 1)))] [] X M5 0 0)) ∧ (¬ v6 = 0 → (g32 (M5 (c + 1167) 5) → (((0 : Int) ≤ x1 + 2 ∧ x1 + 2 < 104) ∧ (g64 (M5 ((c + 1058) + 2) (Int.toNat (x1 + 2))) → (cV l G y_Bx_show (gRm d) true [gR G (c + 1167), gI x1, gL (w32 ((x2 - (M5 (c + 1167) 5)) + 1)), gL (M5 ((c + 1058) + 2) (Int.toNat (x1 + 2)))] X M5 (fun M10 => (k M10)))))))))))))) : wp l G y_Bx_lookUp (gRm (d + 1)) true (kkV X k) true 5 [.val (gR G (c + 1167)), .val (gI x1), .val (gI x2)] [] X M 0 0 := by
  refine wp_iload_n d_Bx_lookUp_5 rfl rfl ?_
  refine wp_aload_n d_Bx_lookUp_6 rfl rfl (g_nz (gl_1 hX 1167)) ?_
  refine xgetI d_Bx_lookUp_7 gc_Bx f_Bx_49.1 f_Bx_49.2.1 f_Bx_49.2.2.1 (gl_1 hX 1167) (gl_2 hX (a := 1167) (by decide)) (gl_s hX 39 rfl) f_Bx_49.2.2.2.2.1 (fun h2 => ?_)
  have T := T h2
  refine xi_gt (tgt := 58) d_Bx_lookUp_10 (by decide) (w32_id hx2) (w32_id h2) (fun h12 => ?_) (fun h12 => ?_)
  · have T := T.1 h12
    refine wp_aload_n d_Bx_lookUp_58 rfl rfl (g_nz (gl_1 hX 1167)) ?_
    refine xgetR d_Bx_lookUp_59 gc_Bx f_Bx_9.1 f_Bx_9.2.1 f_Bx_9.2.2.1 (gl_1 hX 1167) (gl_2 hX (a := 1167) (by decide)) (gl_s hX 39 rfl) f_Bx_9.2.2.2.2.1 (gl_f hX 46 rfl) ?_
    refine wp_iload_n d_Bx_lookUp_62 rfl rfl ?_
    refine wp_iconst d_Bx_lookUp_63 ?_
    refine wp_ldc2 (n := 7) d_Bx_lookUp_64 c_Bx_151 rfl ?_
    refine xcV_V (md' := true) (As := [gI x1, gI 4, gL 7]) (st := []) d_Bx_lookUp_67 ca_Vl_set ml_Bx_60 im_Vl_set se_Vl_set gc_Vl (gl_stk hX).1 (gv_2 (gl_stk hX)) (gl_stk hX).2.2.1 rfl (by decide) (by decide) rfl (fun _ => rfl) (fun _ => rfl) T (fun M3 T => ?_)
    exact wp_return d_Bx_lookUp_70 rfl (fun _ => rfl) (Nat.zero_le _) (Nat.zero_le _) (kV_mk T)
  · have T := T.2 h12
    refine wp_aload_n d_Bx_lookUp_13 rfl rfl (g_nz (gl_1 hX 1167)) ?_
    refine wp_aload_n d_Bx_lookUp_14 rfl rfl (g_nz (gl_1 hX 1167)) ?_
    refine xgetI d_Bx_lookUp_15 gc_Bx f_Bx_36.1 f_Bx_36.2.1 f_Bx_36.2.2.1 (gl_1 hX 1167) (gl_2 hX (a := 1167) (by decide)) (gl_s hX 39 rfl) f_Bx_36.2.2.2.2.1 (fun h4 => ?_)
    have T := T h4
    refine wp_iload_n d_Bx_lookUp_18 rfl rfl ?_
    refine wp_iload_n d_Bx_lookUp_19 rfl rfl ?_
    refine xcV_Z (md' := true) (As := [gI (M (c + 1167) 3), gI x2, gI x1]) (st := []) d_Bx_lookUp_20 ca_Bx_isSo ml_Bx_147 im_Bx_isSo se_Bx_isSo gc_Bx (gl_1 hX 1167) (gl_2 hX (a := 1167) (by decide)) (gl_s hX 39 rfl) rfl (by decide) (by decide) rfl (fun _ => rfl) (fun _ => rfl) T (fun v6 M5 h7 T => ?_)
    refine xz_eq (tgt := 52) d_Bx_lookUp_23 (by decide) (w32_id (g32_z h7)) (fun h11 => ?_) (fun h11 => ?_)
    · have T := T.1 h11
      refine wp_iinc (L' := [.val (gR G (c + 1167)), .val (gI x1), .val (gI (x2 + 1))]) d_Bx_lookUp_52 rfl (by decide) rfl ?_
      refine wp_goto (tgt := 5) d_Bx_lookUp_55 (by decide) ?_
      exact wp_md (wpt T (And.intro rfl (And.intro rfl (And.intro (gI_w _) True.intro))))
    · have T := T.2 h11
      refine wp_aload_n d_Bx_lookUp_26 rfl rfl (g_nz (gl_1 hX 1167)) ?_
      refine wp_iload_n d_Bx_lookUp_27 rfl rfl ?_
      refine wp_iload_n d_Bx_lookUp_28 rfl rfl ?_
      refine wp_aload_n d_Bx_lookUp_29 rfl rfl (g_nz (gl_1 hX 1167)) ?_
      refine xgetI d_Bx_lookUp_30 gc_Bx f_Bx_46.1 f_Bx_46.2.1 f_Bx_46.2.2.1 (gl_1 hX 1167) (gl_2 hX (a := 1167) (by decide)) (gl_s hX 39 rfl) f_Bx_46.2.2.2.2.1 (fun h8 => ?_)
      have T := T h8
      refine wp_isub d_Bx_lookUp_33 ?_
      refine wp_iconst d_Bx_lookUp_34 ?_
      refine wp_iadd d_Bx_lookUp_35 ?_
      refine xi2l d_Bx_lookUp_36 rfl ?_
      refine wp_aload_n d_Bx_lookUp_37 rfl rfl (g_nz (gl_1 hX 1167)) ?_
      refine xgetR d_Bx_lookUp_38 gc_Bx f_Bx_9.1 f_Bx_9.2.1 f_Bx_9.2.2.1 (gl_1 hX 1167) (gl_2 hX (a := 1167) (by decide)) (gl_s hX 39 rfl) f_Bx_9.2.2.2.2.1 (gl_f hX 46 rfl) ?_
      refine xgetR d_Bx_lookUp_41 gc_Vl f_Bx_22.1 f_Bx_22.2.1 f_Bx_22.2.2.1 (gl_stk hX).1 (gv_2 (gl_stk hX)) (gl_stk hX).2.2.1 f_Bx_22.2.2.2.2.1 (gv_r2 (gl_stk hX)).1 ?_
      refine wp_iload_n d_Bx_lookUp_44 rfl rfl ?_
      refine wp_iconst d_Bx_lookUp_45 ?_
      refine wp_iadd d_Bx_lookUp_46 ?_
      refine wp_laload d_Bx_lookUp_47 (gv_r2 (gl_stk hX)).2.2.1 (gv_r2 (gl_stk hX)).2.2.2 (gv_r2 (gl_stk hX)).2.1 (g32_n T.1 (gv_n (gl_stk hX))) T.1.1 T.1.2 (fun h9 => ?_)
      have T := T.2 h9
      refine xcV_V (md' := true) (As := [gI x1, gL (w32 ((x2 - (M5 (c + 1167) 5)) + 1)), gL (M5 ((c + 1058) + 2) (Int.toNat (x1 + 2)))]) (st := []) d_Bx_lookUp_48 ca_Bx_show ml_Bx_123 im_Bx_show se_Bx_show gc_Bx (gl_1 hX 1167) (gl_2 hX (a := 1167) (by decide)) (gl_s hX 39 rfl) rfl (by decide) (by decide) rfl (fun _ => rfl) (fun _ => rfl) T (fun M10 T => ?_)
      exact wp_return d_Bx_lookUp_51 rfl (fun _ => rfl) (Nat.zero_le _) (Nat.zero_le _) (kV_mk T)
theorem e_Bx_lookUp {l : Launch} {G : gG} {d : Nat} {X : gX} {M : gM} {k : gM → Prop} {c : Nat} {x1 : Int} (T : wp l G y_Bx_lookUp (gRm (d + 1)) true (kkV X k) false 0 [.val (gR G (c + 1167)), .val (gI x1), .unset] [] X M 0 0) : cV l G y_Bx_lookUp (gRm (d + 1)) true [gR G (c + 1167), gI x1] X M k := cen_V (plainFor_of_name rfl) (by simp only [lg_sl_R, lg_sl_I, lg_sl_L, lg_sl_N, List.length_cons, List.length_nil]; decide) (by unfold gEn; simp only [lg_sl_R, lg_sl_I, lg_sl_L, lg_sl_N]; exact wpt T (And.intro rfl (And.intro rfl True.intro)))
theorem d_Cn_hasRoom_0 : decode prog_4_method_2_code 0 = .ok (.aload_n 0, 1) := by decide +kernel
theorem d_Cn_hasRoom_1 : decode prog_4_method_2_code 1 = .ok (.getfield 51, 3) := by decide +kernel
theorem d_Cn_hasRoom_4 : decode prog_4_method_2_code 4 = .ok (.aload_n 0, 1) := by decide +kernel
theorem d_Cn_hasRoom_5 : decode prog_4_method_2_code 5 = .ok (.getfield 54, 3) := by decide +kernel
theorem d_Cn_hasRoom_8 : decode prog_4_method_2_code 8 = .ok (.aload_n 0, 1) := by decide +kernel
theorem d_Cn_hasRoom_9 : decode prog_4_method_2_code 9 = .ok (.getfield 57, 3) := by decide +kernel
theorem d_Cn_hasRoom_12 : decode prog_4_method_2_code 12 = .ok (.invokestatic 60, 3) := by decide +kernel
theorem d_Cn_hasRoom_15 : decode prog_4_method_2_code 15 = .ok (.invokestatic 60, 3) := by decide +kernel
theorem d_Cn_hasRoom_18 : decode prog_4_method_2_code 18 = .ok (.istore_n 1, 1) := by decide +kernel
theorem d_Cn_hasRoom_19 : decode prog_4_method_2_code 19 = .ok (.aload_n 0, 1) := by decide +kernel
theorem d_Cn_hasRoom_20 : decode prog_4_method_2_code 20 = .ok (.getfield 47, 3) := by decide +kernel
theorem d_Cn_hasRoom_23 : decode prog_4_method_2_code 23 = .ok (.sipush 512, 3) := by decide +kernel
theorem d_Cn_hasRoom_26 : decode prog_4_method_2_code 26 = .ok (.if_icmp .gt 14, 3) := by decide +kernel
theorem d_Cn_hasRoom_40 : decode prog_4_method_2_code 40 = .ok (.iconst 0, 1) := by decide +kernel
theorem d_Cn_hasRoom_41 : decode prog_4_method_2_code 41 = .ok (.ireturn, 1) := by decide +kernel
theorem d_Cn_hasRoom_29 : decode prog_4_method_2_code 29 = .ok (.iload_n 1, 1) := by decide +kernel
theorem d_Cn_hasRoom_30 : decode prog_4_method_2_code 30 = .ok (.sipush 10240, 3) := by decide +kernel
theorem d_Cn_hasRoom_33 : decode prog_4_method_2_code 33 = .ok (.if_icmp .gt 7, 3) := by decide +kernel
theorem d_Cn_hasRoom_36 : decode prog_4_method_2_code 36 = .ok (.iconst 1, 1) := by decide +kernel
theorem d_Cn_hasRoom_37 : decode prog_4_method_2_code 37 = .ok (.goto 4, 3) := by decide +kernel
set_option maxHeartbeats 4000000 in
theorem w_Cn_hasRoom_0 {l : Launch} {G : gG} {d : Nat} {X : gX} {M : gM} {k : Int → gM → Prop} {c : Nat} (hX : glX X c)   (T : g32 (M (c + 2) 14) → (g32 (M (c + 2) 12) → (g32 (M (c + 2) 13) → (cI l G y_jMath_max (gRm d) false [gI (M (c + 2) 12), gI (M (c + 2) 13)] X M (fun v5 M4 => (cI l G y_jMath_max (gRm d) false [gI (M (c + 2) 14), gI v5] X M4 (fun v8 M7 => (g32 (M7 (c + 2) 11) → ((512 < M7 (c + 2) 11 → (k 0 M7)) ∧ (¬ 512 < M7 (c + 2) 11 → ((10240 < v8 → (k 0 M7)) ∧ (¬ 10240 < v8 → (k 1 M7))))))))))))) : wp l G y_Cn_hasRoom (gRm (d + 1)) false (kkZ X k) false 0 [.val (gR G (c + 2)), .unset] [] X M 0 0 := by
  refine wp_aload_n d_Cn_hasRoom_0 rfl rfl (g_nz (gl_1 hX 2)) ?_
  refine xgetI d_Cn_hasRoom_1 gc_Cn f_Cn_51.1 f_Cn_51.2.1 f_Cn_51.2.2.1 (gl_1 hX 2) (gl_2 hX (a := 2) (by decide)) (gl_s hX 2 rfl) f_Cn_51.2.2.2.2.1 (fun h1 => ?_)
  have T := T h1
  refine wp_aload_n d_Cn_hasRoom_4 rfl rfl (g_nz (gl_1 hX 2)) ?_
  refine xgetI d_Cn_hasRoom_5 gc_Cn f_Cn_54.1 f_Cn_54.2.1 f_Cn_54.2.2.1 (gl_1 hX 2) (gl_2 hX (a := 2) (by decide)) (gl_s hX 2 rfl) f_Cn_54.2.2.2.2.1 (fun h2 => ?_)
  have T := T h2
  refine wp_aload_n d_Cn_hasRoom_8 rfl rfl (g_nz (gl_1 hX 2)) ?_
  refine xgetI d_Cn_hasRoom_9 gc_Cn f_Cn_57.1 f_Cn_57.2.1 f_Cn_57.2.2.1 (gl_1 hX 2) (gl_2 hX (a := 2) (by decide)) (gl_s hX 2 rfl) f_Cn_57.2.2.2.2.1 (fun h3 => ?_)
  have T := T h3
  refine xcS_I (md' := false) (As := [gI (M (c + 2) 12), gI (M (c + 2) 13)]) (st := [gI (M (c + 2) 14)]) d_Cn_hasRoom_12 ca_jMath_max ml_Cn_60 sm_jMath_max rfl (by decide) (by simp only [List.map, gR_cat, gI_cat, gL_cat, List.sum_cons, List.sum_nil]; decide) rfl id id T (fun v5 M4 h6 T => ?_)
  refine xcS_I (md' := false) (As := [gI (M (c + 2) 14), gI v5]) (st := []) d_Cn_hasRoom_15 ca_jMath_max ml_Cn_60 sm_jMath_max rfl (by decide) (by decide) rfl id id T (fun v8 M7 h9 T => ?_)
  refine wp_istore_n (L' := [.val (gR G (c + 2)), .val (gI v8)]) d_Cn_hasRoom_18 rfl (by decide) (gS1_R rfl rfl) ?_
  refine wp_aload_n d_Cn_hasRoom_19 rfl rfl (g_nz (gl_1 hX 2)) ?_
  refine xgetI d_Cn_hasRoom_20 gc_Cn f_Cn_47.1 f_Cn_47.2.1 f_Cn_47.2.2.1 (gl_1 hX 2) (gl_2 hX (a := 2) (by decide)) (gl_s hX 2 rfl) f_Cn_47.2.2.2.2.1 (fun h10 => ?_)
  have T := T h10
  refine wp_sipush d_Cn_hasRoom_23 ⟨by decide, by decide⟩ ?_
  refine xi_gt (tgt := 40) d_Cn_hasRoom_26 (by decide) (w32_id h10) (w32_id (g32_c (x := 512) rfl)) (fun h12 => ?_) (fun h12 => ?_)
  · have T := T.1 h12
    refine wp_iconst d_Cn_hasRoom_40 ?_
    exact wp_zreturn d_Cn_hasRoom_41 rfl (g_narz (⟨by decide, by decide⟩ : (0 : Int) ≤ 0 ∧ (0 : Int) ≤ 1)) id (Nat.zero_le _) (Nat.zero_le _) (kZ_mk (⟨by decide, by decide⟩ : (0 : Int) ≤ 0 ∧ (0 : Int) ≤ 1) T)
  · have T := T.2 h12
    refine wp_iload_n d_Cn_hasRoom_29 rfl rfl ?_
    refine wp_sipush d_Cn_hasRoom_30 ⟨by decide, by decide⟩ ?_
    refine xi_gt (tgt := 40) d_Cn_hasRoom_33 (by decide) (w32_id h9) (w32_id (g32_c (x := 10240) rfl)) (fun h11 => ?_) (fun h11 => ?_)
    · have T := T.1 h11
      refine wp_iconst d_Cn_hasRoom_40 ?_
      exact wp_zreturn d_Cn_hasRoom_41 rfl (g_narz (⟨by decide, by decide⟩ : (0 : Int) ≤ 0 ∧ (0 : Int) ≤ 1)) id (Nat.zero_le _) (Nat.zero_le _) (kZ_mk (⟨by decide, by decide⟩ : (0 : Int) ≤ 0 ∧ (0 : Int) ≤ 1) T)
    · have T := T.2 h11
      refine wp_iconst d_Cn_hasRoom_36 ?_
      refine wp_goto (tgt := 41) d_Cn_hasRoom_37 (by decide) ?_
      exact wp_zreturn d_Cn_hasRoom_41 rfl (g_narz (⟨by decide, by decide⟩ : (0 : Int) ≤ 1 ∧ (1 : Int) ≤ 1)) id (Nat.zero_le _) (Nat.zero_le _) (kZ_mk (⟨by decide, by decide⟩ : (0 : Int) ≤ 1 ∧ (1 : Int) ≤ 1) T)
theorem e_Cn_hasRoom {l : Launch} {G : gG} {d : Nat} {X : gX} {M : gM} {k : Int → gM → Prop} {c : Nat} (T : wp l G y_Cn_hasRoom (gRm (d + 1)) false (kkZ X k) false 0 [.val (gR G (c + 2)), .unset] [] X M 0 0) : cZ l G y_Cn_hasRoom (gRm (d + 1)) false [gR G (c + 2)] X M k := cen_Z (plainFor_of_name rfl) (by simp only [lg_sl_R, lg_sl_I, lg_sl_L, lg_sl_N, List.length_cons, List.length_nil]; decide) (by unfold gEn; simp only [lg_sl_R, lg_sl_I, lg_sl_L, lg_sl_N]; exact wpt T (And.intro rfl True.intro))
theorem d_Cn_begin_0 : decode prog_4_method_3_code 0 = .ok (.aload_n 0, 1) := by decide +kernel
theorem d_Cn_begin_1 : decode prog_4_method_3_code 1 = .ok (.getfield 9, 3) := by decide +kernel
theorem d_Cn_begin_4 : decode prog_4_method_3_code 4 = .ok (.aload_n 0, 1) := by decide +kernel
theorem d_Cn_begin_5 : decode prog_4_method_3_code 5 = .ok (.getfield 47, 3) := by decide +kernel
theorem d_Cn_begin_8 : decode prog_4_method_3_code 8 = .ok (.iload_n 1, 1) := by decide +kernel
theorem d_Cn_begin_9 : decode prog_4_method_3_code 9 = .ok (.iastore, 1) := by decide +kernel
theorem d_Cn_begin_10 : decode prog_4_method_3_code 10 = .ok (.aload_n 0, 1) := by decide +kernel
theorem d_Cn_begin_11 : decode prog_4_method_3_code 11 = .ok (.getfield 15, 3) := by decide +kernel
theorem d_Cn_begin_14 : decode prog_4_method_3_code 14 = .ok (.aload_n 0, 1) := by decide +kernel
theorem d_Cn_begin_15 : decode prog_4_method_3_code 15 = .ok (.getfield 47, 3) := by decide +kernel
theorem d_Cn_begin_18 : decode prog_4_method_3_code 18 = .ok (.aload_n 0, 1) := by decide +kernel
theorem d_Cn_begin_19 : decode prog_4_method_3_code 19 = .ok (.getfield 54, 3) := by decide +kernel
theorem d_Cn_begin_22 : decode prog_4_method_3_code 22 = .ok (.iastore, 1) := by decide +kernel
theorem d_Cn_begin_23 : decode prog_4_method_3_code 23 = .ok (.aload_n 0, 1) := by decide +kernel
theorem d_Cn_begin_24 : decode prog_4_method_3_code 24 = .ok (.getfield 21, 3) := by decide +kernel
theorem d_Cn_begin_27 : decode prog_4_method_3_code 27 = .ok (.aload_n 0, 1) := by decide +kernel
theorem d_Cn_begin_28 : decode prog_4_method_3_code 28 = .ok (.getfield 47, 3) := by decide +kernel
theorem d_Cn_begin_31 : decode prog_4_method_3_code 31 = .ok (.aload_n 0, 1) := by decide +kernel
theorem d_Cn_begin_32 : decode prog_4_method_3_code 32 = .ok (.getfield 57, 3) := by decide +kernel
theorem d_Cn_begin_35 : decode prog_4_method_3_code 35 = .ok (.iastore, 1) := by decide +kernel
theorem d_Cn_begin_36 : decode prog_4_method_3_code 36 = .ok (.aload_n 0, 1) := by decide +kernel
theorem d_Cn_begin_37 : decode prog_4_method_3_code 37 = .ok (.getfield 27, 3) := by decide +kernel
theorem d_Cn_begin_40 : decode prog_4_method_3_code 40 = .ok (.aload_n 0, 1) := by decide +kernel
theorem d_Cn_begin_41 : decode prog_4_method_3_code 41 = .ok (.getfield 47, 3) := by decide +kernel
theorem d_Cn_begin_44 : decode prog_4_method_3_code 44 = .ok (.iconst 0, 1) := by decide +kernel
theorem d_Cn_begin_45 : decode prog_4_method_3_code 45 = .ok (.iastore, 1) := by decide +kernel
theorem d_Cn_begin_46 : decode prog_4_method_3_code 46 = .ok (.return_, 1) := by decide +kernel
set_option maxHeartbeats 4000000 in
theorem w_Cn_begin_0 {l : Launch} {G : gG} {d : Nat} {X : gX} {M : gM} {k : gM → Prop} {c : Nat} (hX : glX X c) {x1 : Int} (hx1 : g32 x1)  (T : g32 (M (c + 2) 11) → (((0 : Int) ≤ M (c + 2) 11 ∧ M (c + 2) 11 < 513) ∧ (g32 ((gUp M (c + 3) (Int.toNat (M (c + 2) 11)) x1) (c + 2) 11) → (g32 ((gUp M (c + 3) (Int.toNat (M (c + 2) 11)) x1) (c + 2) 12) → (((0 : Int) ≤ (gUp M (c + 3) (Int.toNat (M (c + 2) 11)) x1) (c + 2) 11 ∧ (gUp M (c + 3) (Int.toNat (M (c + 2) 11)) x1) (c + 2) 11 < 513) ∧ (g32 ((gUp (gUp M (c + 3) (Int.toNat (M (c + 2) 11)) x1) (c + 4) (Int.toNat ((gUp M (c + 3) (Int.toNat (M (c + 2) 11)) x1) (c + 2) 11)) ((gUp M (c + 3) (Int.toNat (M (c + 2) 11)) x1) (c + 2) 12)) (c + 2) 11) → (g32 ((gUp (gUp M (c + 3) (Int.toNat (M (c + 2) 11)) x1) (c + 4) (Int.toNat ((gUp M (c + 3) (Int.toNat (M (c + 2) 11)) x1) (c + 2) 11)) ((gUp M (c + 3) (Int.toNat (M (c + 2) 11)) x1) (c + 2) 12)) (c + 2) 13) → (((0 : Int) ≤ (gUp (gUp M (c + 3) (Int.toNat (M (c + 2) 11)) x1) (c + 4) (Int.toNat ((gUp M (c + 3) (Int.toNat (M (c + 2) 11)) x1) (c + 2) 11)) ((gUp M (c + 3) (Int.toNat (M (c + 2) 11)) x1) (c + 2) 12)) (c + 2) 11 ∧ (gUp (gUp M (c + 3) (Int.toNat (M (c + 2) 11)) x1) (c + 4) (Int.toNat ((gUp M (c + 3) (Int.toNat (M (c + 2) 11)) x1) (c + 2) 11)) ((gUp M (c + 3) (Int.toNat (M (c + 2) 11)) x1) (c + 2) 12)) (c + 2) 11 < 513) ∧ (g32 ((gUp (gUp (gUp M (c + 3) (Int.toNat (M (c + 2) 11)) x1) (c + 4) (Int.toNat ((gUp M (c + 3) (Int.toNat (M (c + 2) 11)) x1) (c + 2) 11)) ((gUp M (c + 3) (Int.toNat (M (c + 2) 11)) x1) (c + 2) 12)) (c + 6) (Int.toNat ((gUp (gUp M (c + 3) (Int.toNat (M (c + 2) 11)) x1) (c + 4) (Int.toNat ((gUp M (c + 3) (Int.toNat (M (c + 2) 11)) x1) (c + 2) 11)) ((gUp M (c + 3) (Int.toNat (M (c + 2) 11)) x1) (c + 2) 12)) (c + 2) 11)) ((gUp (gUp M (c + 3) (Int.toNat (M (c + 2) 11)) x1) (c + 4) (Int.toNat ((gUp M (c + 3) (Int.toNat (M (c + 2) 11)) x1) (c + 2) 11)) ((gUp M (c + 3) (Int.toNat (M (c + 2) 11)) x1) (c + 2) 12)) (c + 2) 13)) (c + 2) 11) → (((0 : Int) ≤ (gUp (gUp (gUp M (c + 3) (Int.toNat (M (c + 2) 11)) x1) (c + 4) (Int.toNat ((gUp M (c + 3) (Int.toNat (M (c + 2) 11)) x1) (c + 2) 11)) ((gUp M (c + 3) (Int.toNat (M (c + 2) 11)) x1) (c + 2) 12)) (c + 6) (Int.toNat ((gUp (gUp M (c + 3) (Int.toNat (M (c + 2) 11)) x1) (c + 4) (Int.toNat ((gUp M (c + 3) (Int.toNat (M (c + 2) 11)) x1) (c + 2) 11)) ((gUp M (c + 3) (Int.toNat (M (c + 2) 11)) x1) (c + 2) 12)) (c + 2) 11)) ((gUp (gUp M (c + 3) (Int.toNat (M (c + 2) 11)) x1) (c + 4) (Int.toNat ((gUp M (c + 3) (Int.toNat (M (c + 2) 11)) x1) (c + 2) 11)) ((gUp M (c + 3) (Int.toNat (M (c + 2) 11)) x1) (c + 2) 12)) (c + 2) 13)) (c + 2) 11 ∧ (gUp (gUp (gUp M (c + 3) (Int.toNat (M (c + 2) 11)) x1) (c + 4) (Int.toNat ((gUp M (c + 3) (Int.toNat (M (c + 2) 11)) x1) (c + 2) 11)) ((gUp M (c + 3) (Int.toNat (M (c + 2) 11)) x1) (c + 2) 12)) (c + 6) (Int.toNat ((gUp (gUp M (c + 3) (Int.toNat (M (c + 2) 11)) x1) (c + 4) (Int.toNat ((gUp M (c + 3) (Int.toNat (M (c + 2) 11)) x1) (c + 2) 11)) ((gUp M (c + 3) (Int.toNat (M (c + 2) 11)) x1) (c + 2) 12)) (c + 2) 11)) ((gUp (gUp M (c + 3) (Int.toNat (M (c + 2) 11)) x1) (c + 4) (Int.toNat ((gUp M (c + 3) (Int.toNat (M (c + 2) 11)) x1) (c + 2) 11)) ((gUp M (c + 3) (Int.toNat (M (c + 2) 11)) x1) (c + 2) 12)) (c + 2) 13)) (c + 2) 11 < 513) ∧ (k (gUp (gUp (gUp (gUp M (c + 3) (Int.toNat (M (c + 2) 11)) x1) (c + 4) (Int.toNat ((gUp M (c + 3) (Int.toNat (M (c + 2) 11)) x1) (c + 2) 11)) ((gUp M (c + 3) (Int.toNat (M (c + 2) 11)) x1) (c + 2) 12)) (c + 6) (Int.toNat ((gUp (gUp M (c + 3) (Int.toNat (M (c + 2) 11)) x1) (c + 4) (Int.toNat ((gUp M (c + 3) (Int.toNat (M (c + 2) 11)) x1) (c + 2) 11)) ((gUp M (c + 3) (Int.toNat (M (c + 2) 11)) x1) (c + 2) 12)) (c + 2) 11)) ((gUp (gUp M (c + 3) (Int.toNat (M (c + 2) 11)) x1) (c + 4) (Int.toNat ((gUp M (c + 3) (Int.toNat (M (c + 2) 11)) x1) (c + 2) 11)) ((gUp M (c + 3) (Int.toNat (M (c + 2) 11)) x1) (c + 2) 12)) (c + 2) 13)) (c + 8) (Int.toNat ((gUp (gUp (gUp M (c + 3) (Int.toNat (M (c + 2) 11)) x1) (c + 4) (Int.toNat ((gUp M (c + 3) (Int.toNat (M (c + 2) 11)) x1) (c + 2) 11)) ((gUp M (c + 3) (Int.toNat (M (c + 2) 11)) x1) (c + 2) 12)) (c + 6) (Int.toNat ((gUp (gUp M (c + 3) (Int.toNat (M (c + 2) 11)) x1) (c + 4) (Int.toNat ((gUp M (c + 3) (Int.toNat (M (c + 2) 11)) x1) (c + 2) 11)) ((gUp M (c + 3) (Int.toNat (M (c + 2) 11)) x1) (c + 2) 12)) (c + 2) 11)) ((gUp (gUp M (c + 3) (Int.toNat (M (c + 2) 11)) x1) (c + 4) (Int.toNat ((gUp M (c + 3) (Int.toNat (M (c + 2) 11)) x1) (c + 2) 11)) ((gUp M (c + 3) (Int.toNat (M (c + 2) 11)) x1) (c + 2) 12)) (c + 2) 13)) (c + 2) 11)) 0)))))))))))) : wp l G y_Cn_begin (gRm d) true (kkV X k) false 0 [.val (gR G (c + 2)), .val (gI x1)] [] X M 0 0 := by
  refine wp_aload_n d_Cn_begin_0 rfl rfl (g_nz (gl_1 hX 2)) ?_
  refine xgetR d_Cn_begin_1 gc_Cn f_Cn_9.1 f_Cn_9.2.1 f_Cn_9.2.2.1 (gl_1 hX 2) (gl_2 hX (a := 2) (by decide)) (gl_s hX 2 rfl) f_Cn_9.2.2.2.2.1 (gl_f hX 2 rfl) ?_
  refine wp_aload_n d_Cn_begin_4 rfl rfl (g_nz (gl_1 hX 2)) ?_
  refine xgetI d_Cn_begin_5 gc_Cn f_Cn_47.1 f_Cn_47.2.1 f_Cn_47.2.2.1 (gl_1 hX 2) (gl_2 hX (a := 2) (by decide)) (gl_s hX 2 rfl) f_Cn_47.2.2.2.2.1 (fun h1 => ?_)
  have T := T h1
  refine wp_iload_n d_Cn_begin_8 rfl rfl ?_
  refine xiast d_Cn_begin_9 (gl_1 hX 3) (gl_2 hX (a := 3) (by decide)) (gl_s hX 3 rfl) (by decide) T.1 (w32_id hx1) ?_
  have T := T.2
  refine wp_aload_n d_Cn_begin_10 rfl rfl (g_nz (gl_1 hX 2)) ?_
  refine xgetR d_Cn_begin_11 gc_Cn f_Cn_15.1 f_Cn_15.2.1 f_Cn_15.2.2.1 (gl_1 hX 2) (gl_2 hX (a := 2) (by decide)) (gl_s hX 2 rfl) f_Cn_15.2.2.2.2.1 (gl_f hX 3 rfl) ?_
  refine wp_aload_n d_Cn_begin_14 rfl rfl (g_nz (gl_1 hX 2)) ?_
  refine xgetI d_Cn_begin_15 gc_Cn f_Cn_47.1 f_Cn_47.2.1 f_Cn_47.2.2.1 (gl_1 hX 2) (gl_2 hX (a := 2) (by decide)) (gl_s hX 2 rfl) f_Cn_47.2.2.2.2.1 (fun h2 => ?_)
  have T := T h2
  refine wp_aload_n d_Cn_begin_18 rfl rfl (g_nz (gl_1 hX 2)) ?_
  refine xgetI d_Cn_begin_19 gc_Cn f_Cn_54.1 f_Cn_54.2.1 f_Cn_54.2.2.1 (gl_1 hX 2) (gl_2 hX (a := 2) (by decide)) (gl_s hX 2 rfl) f_Cn_54.2.2.2.2.1 (fun h3 => ?_)
  have T := T h3
  refine xiast d_Cn_begin_22 (gl_1 hX 4) (gl_2 hX (a := 4) (by decide)) (gl_s hX 4 rfl) (by decide) T.1 (w32_id h3) ?_
  have T := T.2
  refine wp_aload_n d_Cn_begin_23 rfl rfl (g_nz (gl_1 hX 2)) ?_
  refine xgetR d_Cn_begin_24 gc_Cn f_Cn_21.1 f_Cn_21.2.1 f_Cn_21.2.2.1 (gl_1 hX 2) (gl_2 hX (a := 2) (by decide)) (gl_s hX 2 rfl) f_Cn_21.2.2.2.2.1 (gl_f hX 5 rfl) ?_
  refine wp_aload_n d_Cn_begin_27 rfl rfl (g_nz (gl_1 hX 2)) ?_
  refine xgetI d_Cn_begin_28 gc_Cn f_Cn_47.1 f_Cn_47.2.1 f_Cn_47.2.2.1 (gl_1 hX 2) (gl_2 hX (a := 2) (by decide)) (gl_s hX 2 rfl) f_Cn_47.2.2.2.2.1 (fun h4 => ?_)
  have T := T h4
  refine wp_aload_n d_Cn_begin_31 rfl rfl (g_nz (gl_1 hX 2)) ?_
  refine xgetI d_Cn_begin_32 gc_Cn f_Cn_57.1 f_Cn_57.2.1 f_Cn_57.2.2.1 (gl_1 hX 2) (gl_2 hX (a := 2) (by decide)) (gl_s hX 2 rfl) f_Cn_57.2.2.2.2.1 (fun h5 => ?_)
  have T := T h5
  refine xiast d_Cn_begin_35 (gl_1 hX 6) (gl_2 hX (a := 6) (by decide)) (gl_s hX 6 rfl) (by decide) T.1 (w32_id h5) ?_
  have T := T.2
  refine wp_aload_n d_Cn_begin_36 rfl rfl (g_nz (gl_1 hX 2)) ?_
  refine xgetR d_Cn_begin_37 gc_Cn f_Cn_27.1 f_Cn_27.2.1 f_Cn_27.2.2.1 (gl_1 hX 2) (gl_2 hX (a := 2) (by decide)) (gl_s hX 2 rfl) f_Cn_27.2.2.2.2.1 (gl_f hX 7 rfl) ?_
  refine wp_aload_n d_Cn_begin_40 rfl rfl (g_nz (gl_1 hX 2)) ?_
  refine xgetI d_Cn_begin_41 gc_Cn f_Cn_47.1 f_Cn_47.2.1 f_Cn_47.2.2.1 (gl_1 hX 2) (gl_2 hX (a := 2) (by decide)) (gl_s hX 2 rfl) f_Cn_47.2.2.2.2.1 (fun h6 => ?_)
  have T := T h6
  refine wp_iconst d_Cn_begin_44 ?_
  refine xiast d_Cn_begin_45 (gl_1 hX 8) (gl_2 hX (a := 8) (by decide)) (gl_s hX 8 rfl) (by decide) T.1 (w32_id (g32_c (x := 0) rfl)) ?_
  have T := T.2
  exact wp_return d_Cn_begin_46 rfl (fun _ => rfl) (Nat.zero_le _) (Nat.zero_le _) (kV_mk T)
theorem e_Cn_begin {l : Launch} {G : gG} {d : Nat} {X : gX} {M : gM} {k : gM → Prop} {c : Nat} {x1 : Int} (T : wp l G y_Cn_begin (gRm d) true (kkV X k) false 0 [.val (gR G (c + 2)), .val (gI x1)] [] X M 0 0) : cV l G y_Cn_begin (gRm d) true [gR G (c + 2), gI x1] X M k := cen_V (plainFor_of_name rfl) (by simp only [lg_sl_R, lg_sl_I, lg_sl_L, lg_sl_N, List.length_cons, List.length_nil]; decide) (by unfold gEn; simp only [lg_sl_R, lg_sl_I, lg_sl_L, lg_sl_N]; exact wpt T (And.intro rfl (And.intro rfl True.intro)))
theorem d_Cn_finish_0 : decode prog_4_method_4_code 0 = .ok (.aload_n 0, 1) := by decide +kernel
theorem d_Cn_finish_1 : decode prog_4_method_4_code 1 = .ok (.getfield 18, 3) := by decide +kernel
theorem d_Cn_finish_4 : decode prog_4_method_4_code 4 = .ok (.aload_n 0, 1) := by decide +kernel
theorem d_Cn_finish_5 : decode prog_4_method_4_code 5 = .ok (.getfield 47, 3) := by decide +kernel
theorem d_Cn_finish_8 : decode prog_4_method_4_code 8 = .ok (.aload_n 0, 1) := by decide +kernel
theorem d_Cn_finish_9 : decode prog_4_method_4_code 9 = .ok (.getfield 54, 3) := by decide +kernel
theorem d_Cn_finish_12 : decode prog_4_method_4_code 12 = .ok (.iastore, 1) := by decide +kernel
theorem d_Cn_finish_13 : decode prog_4_method_4_code 13 = .ok (.aload_n 0, 1) := by decide +kernel
theorem d_Cn_finish_14 : decode prog_4_method_4_code 14 = .ok (.getfield 24, 3) := by decide +kernel
theorem d_Cn_finish_17 : decode prog_4_method_4_code 17 = .ok (.aload_n 0, 1) := by decide +kernel
theorem d_Cn_finish_18 : decode prog_4_method_4_code 18 = .ok (.getfield 47, 3) := by decide +kernel
theorem d_Cn_finish_21 : decode prog_4_method_4_code 21 = .ok (.aload_n 0, 1) := by decide +kernel
theorem d_Cn_finish_22 : decode prog_4_method_4_code 22 = .ok (.getfield 57, 3) := by decide +kernel
theorem d_Cn_finish_25 : decode prog_4_method_4_code 25 = .ok (.aload_n 0, 1) := by decide +kernel
theorem d_Cn_finish_26 : decode prog_4_method_4_code 26 = .ok (.getfield 21, 3) := by decide +kernel
theorem d_Cn_finish_29 : decode prog_4_method_4_code 29 = .ok (.aload_n 0, 1) := by decide +kernel
theorem d_Cn_finish_30 : decode prog_4_method_4_code 30 = .ok (.getfield 47, 3) := by decide +kernel
theorem d_Cn_finish_33 : decode prog_4_method_4_code 33 = .ok (.iaload, 1) := by decide +kernel
theorem d_Cn_finish_34 : decode prog_4_method_4_code 34 = .ok (.isub, 1) := by decide +kernel
theorem d_Cn_finish_35 : decode prog_4_method_4_code 35 = .ok (.iastore, 1) := by decide +kernel
theorem d_Cn_finish_36 : decode prog_4_method_4_code 36 = .ok (.aload_n 0, 1) := by decide +kernel
theorem d_Cn_finish_37 : decode prog_4_method_4_code 37 = .ok (.dup, 1) := by decide +kernel
theorem d_Cn_finish_38 : decode prog_4_method_4_code 38 = .ok (.getfield 47, 3) := by decide +kernel
theorem d_Cn_finish_41 : decode prog_4_method_4_code 41 = .ok (.iconst 1, 1) := by decide +kernel
theorem d_Cn_finish_42 : decode prog_4_method_4_code 42 = .ok (.iadd, 1) := by decide +kernel
theorem d_Cn_finish_43 : decode prog_4_method_4_code 43 = .ok (.putfield 47, 3) := by decide +kernel
theorem d_Cn_finish_46 : decode prog_4_method_4_code 46 = .ok (.aload_n 0, 1) := by decide +kernel
theorem d_Cn_finish_47 : decode prog_4_method_4_code 47 = .ok (.getfield 47, 3) := by decide +kernel
theorem d_Cn_finish_50 : decode prog_4_method_4_code 50 = .ok (.iconst 1, 1) := by decide +kernel
theorem d_Cn_finish_51 : decode prog_4_method_4_code 51 = .ok (.isub, 1) := by decide +kernel
theorem d_Cn_finish_52 : decode prog_4_method_4_code 52 = .ok (.ireturn, 1) := by decide +kernel
set_option maxHeartbeats 4000000 in
theorem w_Cn_finish_0 {l : Launch} {G : gG} {d : Nat} {X : gX} {M : gM} {k : Int → gM → Prop} {c : Nat} (hX : glX X c)   (T : g32 (M (c + 2) 11) → (g32 (M (c + 2) 12) → (((0 : Int) ≤ M (c + 2) 11 ∧ M (c + 2) 11 < 513) ∧ (g32 ((gUp M (c + 5) (Int.toNat (M (c + 2) 11)) (M (c + 2) 12)) (c + 2) 11) → (g32 ((gUp M (c + 5) (Int.toNat (M (c + 2) 11)) (M (c + 2) 12)) (c + 2) 13) → (g32 ((gUp M (c + 5) (Int.toNat (M (c + 2) 11)) (M (c + 2) 12)) (c + 2) 11) → (((0 : Int) ≤ (gUp M (c + 5) (Int.toNat (M (c + 2) 11)) (M (c + 2) 12)) (c + 2) 11 ∧ (gUp M (c + 5) (Int.toNat (M (c + 2) 11)) (M (c + 2) 12)) (c + 2) 11 < 513) ∧ (g32 ((gUp M (c + 5) (Int.toNat (M (c + 2) 11)) (M (c + 2) 12)) (c + 6) (Int.toNat ((gUp M (c + 5) (Int.toNat (M (c + 2) 11)) (M (c + 2) 12)) (c + 2) 11))) → (((0 : Int) ≤ (gUp M (c + 5) (Int.toNat (M (c + 2) 11)) (M (c + 2) 12)) (c + 2) 11 ∧ (gUp M (c + 5) (Int.toNat (M (c + 2) 11)) (M (c + 2) 12)) (c + 2) 11 < 513) ∧ (g32 ((gUp (gUp M (c + 5) (Int.toNat (M (c + 2) 11)) (M (c + 2) 12)) (c + 7) (Int.toNat ((gUp M (c + 5) (Int.toNat (M (c + 2) 11)) (M (c + 2) 12)) (c + 2) 11)) (w32 (((gUp M (c + 5) (Int.toNat (M (c + 2) 11)) (M (c + 2) 12)) (c + 2) 13) - ((gUp M (c + 5) (Int.toNat (M (c + 2) 11)) (M (c + 2) 12)) (c + 6) (Int.toNat ((gUp M (c + 5) (Int.toNat (M (c + 2) 11)) (M (c + 2) 12)) (c + 2) 11)))))) (c + 2) 11) → (g32 ((gUp (gUp (gUp M (c + 5) (Int.toNat (M (c + 2) 11)) (M (c + 2) 12)) (c + 7) (Int.toNat ((gUp M (c + 5) (Int.toNat (M (c + 2) 11)) (M (c + 2) 12)) (c + 2) 11)) (w32 (((gUp M (c + 5) (Int.toNat (M (c + 2) 11)) (M (c + 2) 12)) (c + 2) 13) - ((gUp M (c + 5) (Int.toNat (M (c + 2) 11)) (M (c + 2) 12)) (c + 6) (Int.toNat ((gUp M (c + 5) (Int.toNat (M (c + 2) 11)) (M (c + 2) 12)) (c + 2) 11)))))) (c + 2) 11 (w32 (((gUp (gUp M (c + 5) (Int.toNat (M (c + 2) 11)) (M (c + 2) 12)) (c + 7) (Int.toNat ((gUp M (c + 5) (Int.toNat (M (c + 2) 11)) (M (c + 2) 12)) (c + 2) 11)) (w32 (((gUp M (c + 5) (Int.toNat (M (c + 2) 11)) (M (c + 2) 12)) (c + 2) 13) - ((gUp M (c + 5) (Int.toNat (M (c + 2) 11)) (M (c + 2) 12)) (c + 6) (Int.toNat ((gUp M (c + 5) (Int.toNat (M (c + 2) 11)) (M (c + 2) 12)) (c + 2) 11)))))) (c + 2) 11) + 1))) (c + 2) 11) → (k (w32 (((gUp (gUp (gUp M (c + 5) (Int.toNat (M (c + 2) 11)) (M (c + 2) 12)) (c + 7) (Int.toNat ((gUp M (c + 5) (Int.toNat (M (c + 2) 11)) (M (c + 2) 12)) (c + 2) 11)) (w32 (((gUp M (c + 5) (Int.toNat (M (c + 2) 11)) (M (c + 2) 12)) (c + 2) 13) - ((gUp M (c + 5) (Int.toNat (M (c + 2) 11)) (M (c + 2) 12)) (c + 6) (Int.toNat ((gUp M (c + 5) (Int.toNat (M (c + 2) 11)) (M (c + 2) 12)) (c + 2) 11)))))) (c + 2) 11 (w32 (((gUp (gUp M (c + 5) (Int.toNat (M (c + 2) 11)) (M (c + 2) 12)) (c + 7) (Int.toNat ((gUp M (c + 5) (Int.toNat (M (c + 2) 11)) (M (c + 2) 12)) (c + 2) 11)) (w32 (((gUp M (c + 5) (Int.toNat (M (c + 2) 11)) (M (c + 2) 12)) (c + 2) 13) - ((gUp M (c + 5) (Int.toNat (M (c + 2) 11)) (M (c + 2) 12)) (c + 6) (Int.toNat ((gUp M (c + 5) (Int.toNat (M (c + 2) 11)) (M (c + 2) 12)) (c + 2) 11)))))) (c + 2) 11) + 1))) (c + 2) 11) - 1)) (gUp (gUp (gUp M (c + 5) (Int.toNat (M (c + 2) 11)) (M (c + 2) 12)) (c + 7) (Int.toNat ((gUp M (c + 5) (Int.toNat (M (c + 2) 11)) (M (c + 2) 12)) (c + 2) 11)) (w32 (((gUp M (c + 5) (Int.toNat (M (c + 2) 11)) (M (c + 2) 12)) (c + 2) 13) - ((gUp M (c + 5) (Int.toNat (M (c + 2) 11)) (M (c + 2) 12)) (c + 6) (Int.toNat ((gUp M (c + 5) (Int.toNat (M (c + 2) 11)) (M (c + 2) 12)) (c + 2) 11)))))) (c + 2) 11 (w32 (((gUp (gUp M (c + 5) (Int.toNat (M (c + 2) 11)) (M (c + 2) 12)) (c + 7) (Int.toNat ((gUp M (c + 5) (Int.toNat (M (c + 2) 11)) (M (c + 2) 12)) (c + 2) 11)) (w32 (((gUp M (c + 5) (Int.toNat (M (c + 2) 11)) (M (c + 2) 12)) (c + 2) 13) - ((gUp M (c + 5) (Int.toNat (M (c + 2) 11)) (M (c + 2) 12)) (c + 6) (Int.toNat ((gUp M (c + 5) (Int.toNat (M (c + 2) 11)) (M (c + 2) 12)) (c + 2) 11)))))) (c + 2) 11) + 1))))))))))))))) : wp l G y_Cn_finish (gRm d) true (kkI X k) false 0 [.val (gR G (c + 2))] [] X M 0 0 := by
  refine wp_aload_n d_Cn_finish_0 rfl rfl (g_nz (gl_1 hX 2)) ?_
  refine xgetR d_Cn_finish_1 gc_Cn f_Cn_18.1 f_Cn_18.2.1 f_Cn_18.2.2.1 (gl_1 hX 2) (gl_2 hX (a := 2) (by decide)) (gl_s hX 2 rfl) f_Cn_18.2.2.2.2.1 (gl_f hX 4 rfl) ?_
  refine wp_aload_n d_Cn_finish_4 rfl rfl (g_nz (gl_1 hX 2)) ?_
  refine xgetI d_Cn_finish_5 gc_Cn f_Cn_47.1 f_Cn_47.2.1 f_Cn_47.2.2.1 (gl_1 hX 2) (gl_2 hX (a := 2) (by decide)) (gl_s hX 2 rfl) f_Cn_47.2.2.2.2.1 (fun h1 => ?_)
  have T := T h1
  refine wp_aload_n d_Cn_finish_8 rfl rfl (g_nz (gl_1 hX 2)) ?_
  refine xgetI d_Cn_finish_9 gc_Cn f_Cn_54.1 f_Cn_54.2.1 f_Cn_54.2.2.1 (gl_1 hX 2) (gl_2 hX (a := 2) (by decide)) (gl_s hX 2 rfl) f_Cn_54.2.2.2.2.1 (fun h2 => ?_)
  have T := T h2
  refine xiast d_Cn_finish_12 (gl_1 hX 5) (gl_2 hX (a := 5) (by decide)) (gl_s hX 5 rfl) (by decide) T.1 (w32_id h2) ?_
  have T := T.2
  refine wp_aload_n d_Cn_finish_13 rfl rfl (g_nz (gl_1 hX 2)) ?_
  refine xgetR d_Cn_finish_14 gc_Cn f_Cn_24.1 f_Cn_24.2.1 f_Cn_24.2.2.1 (gl_1 hX 2) (gl_2 hX (a := 2) (by decide)) (gl_s hX 2 rfl) f_Cn_24.2.2.2.2.1 (gl_f hX 6 rfl) ?_
  refine wp_aload_n d_Cn_finish_17 rfl rfl (g_nz (gl_1 hX 2)) ?_
  refine xgetI d_Cn_finish_18 gc_Cn f_Cn_47.1 f_Cn_47.2.1 f_Cn_47.2.2.1 (gl_1 hX 2) (gl_2 hX (a := 2) (by decide)) (gl_s hX 2 rfl) f_Cn_47.2.2.2.2.1 (fun h3 => ?_)
  have T := T h3
  refine wp_aload_n d_Cn_finish_21 rfl rfl (g_nz (gl_1 hX 2)) ?_
  refine xgetI d_Cn_finish_22 gc_Cn f_Cn_57.1 f_Cn_57.2.1 f_Cn_57.2.2.1 (gl_1 hX 2) (gl_2 hX (a := 2) (by decide)) (gl_s hX 2 rfl) f_Cn_57.2.2.2.2.1 (fun h4 => ?_)
  have T := T h4
  refine wp_aload_n d_Cn_finish_25 rfl rfl (g_nz (gl_1 hX 2)) ?_
  refine xgetR d_Cn_finish_26 gc_Cn f_Cn_21.1 f_Cn_21.2.1 f_Cn_21.2.2.1 (gl_1 hX 2) (gl_2 hX (a := 2) (by decide)) (gl_s hX 2 rfl) f_Cn_21.2.2.2.2.1 (gl_f hX 5 rfl) ?_
  refine wp_aload_n d_Cn_finish_29 rfl rfl (g_nz (gl_1 hX 2)) ?_
  refine xgetI d_Cn_finish_30 gc_Cn f_Cn_47.1 f_Cn_47.2.1 f_Cn_47.2.2.1 (gl_1 hX 2) (gl_2 hX (a := 2) (by decide)) (gl_s hX 2 rfl) f_Cn_47.2.2.2.2.1 (fun h5 => ?_)
  have T := T h5
  refine wp_iaload d_Cn_finish_33 (gl_1 hX 6) (gl_2 hX (a := 6) (by decide)) (gl_s hX 6 rfl) (g32_n T.1 (by decide)) T.1.1 T.1.2 (fun h6 => ?_)
  have T := T.2 h6
  refine wp_isub d_Cn_finish_34 ?_
  refine xiast d_Cn_finish_35 (gl_1 hX 7) (gl_2 hX (a := 7) (by decide)) (gl_s hX 7 rfl) (by decide) T.1 rfl ?_
  have T := T.2
  refine wp_aload_n d_Cn_finish_36 rfl rfl (g_nz (gl_1 hX 2)) ?_
  refine wp_dup d_Cn_finish_37 (gR_cat _) ?_
  refine xgetI d_Cn_finish_38 gc_Cn f_Cn_47.1 f_Cn_47.2.1 f_Cn_47.2.2.1 (gl_1 hX 2) (gl_2 hX (a := 2) (by decide)) (gl_s hX 2 rfl) f_Cn_47.2.2.2.2.1 (fun h7 => ?_)
  have T := T h7
  refine wp_iconst d_Cn_finish_41 ?_
  refine wp_iadd d_Cn_finish_42 ?_
  refine xputI d_Cn_finish_43 gc_Cn f_Cn_47.1 f_Cn_47.2.1 f_Cn_47.2.2.1 (gl_1 hX 2) (gl_2 hX (a := 2) (by decide)) (gl_s hX 2 rfl) f_Cn_47.2.2.2.1 f_Cn_47.2.2.2.2.1 f_Cn_47.2.2.2.2.2 rfl ?_
  refine wp_aload_n d_Cn_finish_46 rfl rfl (g_nz (gl_1 hX 2)) ?_
  refine xgetI d_Cn_finish_47 gc_Cn f_Cn_47.1 f_Cn_47.2.1 f_Cn_47.2.2.1 (gl_1 hX 2) (gl_2 hX (a := 2) (by decide)) (gl_s hX 2 rfl) f_Cn_47.2.2.2.2.1 (fun h8 => ?_)
  have T := T h8
  refine wp_iconst d_Cn_finish_50 ?_
  refine wp_isub d_Cn_finish_51 ?_
  exact wp_st (st' := [gI (w32 (((gUp (gUp (gUp M (c + 5) (Int.toNat (M (c + 2) 11)) (M (c + 2) 12)) (c + 7) (Int.toNat ((gUp M (c + 5) (Int.toNat (M (c + 2) 11)) (M (c + 2) 12)) (c + 2) 11)) (w32 (((gUp M (c + 5) (Int.toNat (M (c + 2) 11)) (M (c + 2) 12)) (c + 2) 13) - ((gUp M (c + 5) (Int.toNat (M (c + 2) 11)) (M (c + 2) 12)) (c + 6) (Int.toNat ((gUp M (c + 5) (Int.toNat (M (c + 2) 11)) (M (c + 2) 12)) (c + 2) 11)))))) (c + 2) 11 (w32 (((gUp (gUp M (c + 5) (Int.toNat (M (c + 2) 11)) (M (c + 2) 12)) (c + 7) (Int.toNat ((gUp M (c + 5) (Int.toNat (M (c + 2) 11)) (M (c + 2) 12)) (c + 2) 11)) (w32 (((gUp M (c + 5) (Int.toNat (M (c + 2) 11)) (M (c + 2) 12)) (c + 2) 13) - ((gUp M (c + 5) (Int.toNat (M (c + 2) 11)) (M (c + 2) 12)) (c + 6) (Int.toNat ((gUp M (c + 5) (Int.toNat (M (c + 2) 11)) (M (c + 2) 12)) (c + 2) 11)))))) (c + 2) 11) + 1))) (c + 2) 11) - 1))]) (by rw [gI_w]) (wp_ireturn d_Cn_finish_52 rfl (fun _ => rfl) (Nat.zero_le _) (Nat.zero_le _) (kI_mk (w32_ok _) T))
theorem e_Cn_finish {l : Launch} {G : gG} {d : Nat} {X : gX} {M : gM} {k : Int → gM → Prop} {c : Nat} (T : wp l G y_Cn_finish (gRm d) true (kkI X k) false 0 [.val (gR G (c + 2))] [] X M 0 0) : cI l G y_Cn_finish (gRm d) true [gR G (c + 2)] X M k := cen_I (plainFor_of_name rfl) (by simp only [lg_sl_R, lg_sl_I, lg_sl_L, lg_sl_N, List.length_cons, List.length_nil]; decide) (by unfold gEn; simp only [lg_sl_R, lg_sl_I, lg_sl_L, lg_sl_N]; exact wpt T (And.intro rfl True.intro))
theorem d_Cn_emit_0 : decode prog_4_method_5_code 0 = .ok (.aload_n 0, 1) := by decide +kernel
theorem d_Cn_emit_1 : decode prog_4_method_5_code 1 = .ok (.getfield 30, 3) := by decide +kernel
theorem d_Cn_emit_4 : decode prog_4_method_5_code 4 = .ok (.aload_n 0, 1) := by decide +kernel
theorem d_Cn_emit_5 : decode prog_4_method_5_code 5 = .ok (.getfield 54, 3) := by decide +kernel
theorem d_Cn_emit_8 : decode prog_4_method_5_code 8 = .ok (.iload_n 1, 1) := by decide +kernel
theorem d_Cn_emit_9 : decode prog_4_method_5_code 9 = .ok (.iastore, 1) := by decide +kernel
theorem d_Cn_emit_10 : decode prog_4_method_5_code 10 = .ok (.aload_n 0, 1) := by decide +kernel
theorem d_Cn_emit_11 : decode prog_4_method_5_code 11 = .ok (.getfield 33, 3) := by decide +kernel
theorem d_Cn_emit_14 : decode prog_4_method_5_code 14 = .ok (.aload_n 0, 1) := by decide +kernel
theorem d_Cn_emit_15 : decode prog_4_method_5_code 15 = .ok (.getfield 54, 3) := by decide +kernel
theorem d_Cn_emit_18 : decode prog_4_method_5_code 18 = .ok (.lload_n 2, 1) := by decide +kernel
theorem d_Cn_emit_19 : decode prog_4_method_5_code 19 = .ok (.lastore, 1) := by decide +kernel
theorem d_Cn_emit_20 : decode prog_4_method_5_code 20 = .ok (.aload_n 0, 1) := by decide +kernel
theorem d_Cn_emit_21 : decode prog_4_method_5_code 21 = .ok (.dup, 1) := by decide +kernel
theorem d_Cn_emit_22 : decode prog_4_method_5_code 22 = .ok (.getfield 54, 3) := by decide +kernel
theorem d_Cn_emit_25 : decode prog_4_method_5_code 25 = .ok (.iconst 1, 1) := by decide +kernel
theorem d_Cn_emit_26 : decode prog_4_method_5_code 26 = .ok (.iadd, 1) := by decide +kernel
theorem d_Cn_emit_27 : decode prog_4_method_5_code 27 = .ok (.putfield 54, 3) := by decide +kernel
theorem d_Cn_emit_30 : decode prog_4_method_5_code 30 = .ok (.return_, 1) := by decide +kernel
set_option maxHeartbeats 4000000 in
theorem w_Cn_emit_0 {l : Launch} {G : gG} {d : Nat} {X : gX} {M : gM} {k : gM → Prop} {c : Nat} (hX : glX X c) {x1 : Int} (hx1 : g32 x1) {x2 : Int} (hx2 : g64 x2)  (T : g32 (M (c + 2) 12) → (((0 : Int) ≤ M (c + 2) 12 ∧ M (c + 2) 12 < 10480) ∧ (g32 ((gUp M (c + 9) (Int.toNat (M (c + 2) 12)) x1) (c + 2) 12) → (((0 : Int) ≤ (gUp M (c + 9) (Int.toNat (M (c + 2) 12)) x1) (c + 2) 12 ∧ (gUp M (c + 9) (Int.toNat (M (c + 2) 12)) x1) (c + 2) 12 < 10480) ∧ (g32 ((gUp (gUp M (c + 9) (Int.toNat (M (c + 2) 12)) x1) (c + 10) (Int.toNat ((gUp M (c + 9) (Int.toNat (M (c + 2) 12)) x1) (c + 2) 12)) x2) (c + 2) 12) → (k (gUp (gUp (gUp M (c + 9) (Int.toNat (M (c + 2) 12)) x1) (c + 10) (Int.toNat ((gUp M (c + 9) (Int.toNat (M (c + 2) 12)) x1) (c + 2) 12)) x2) (c + 2) 12 (w32 (((gUp (gUp M (c + 9) (Int.toNat (M (c + 2) 12)) x1) (c + 10) (Int.toNat ((gUp M (c + 9) (Int.toNat (M (c + 2) 12)) x1) (c + 2) 12)) x2) (c + 2) 12) + 1))))))))) : wp l G y_Cn_emit (gRm d) true (kkV X k) false 0 [.val (gR G (c + 2)), .val (gI x1), .val (gL x2), .unset] [] X M 0 0 := by
  refine wp_aload_n d_Cn_emit_0 rfl rfl (g_nz (gl_1 hX 2)) ?_
  refine xgetR d_Cn_emit_1 gc_Cn f_Cn_30.1 f_Cn_30.2.1 f_Cn_30.2.2.1 (gl_1 hX 2) (gl_2 hX (a := 2) (by decide)) (gl_s hX 2 rfl) f_Cn_30.2.2.2.2.1 (gl_f hX 8 rfl) ?_
  refine wp_aload_n d_Cn_emit_4 rfl rfl (g_nz (gl_1 hX 2)) ?_
  refine xgetI d_Cn_emit_5 gc_Cn f_Cn_54.1 f_Cn_54.2.1 f_Cn_54.2.2.1 (gl_1 hX 2) (gl_2 hX (a := 2) (by decide)) (gl_s hX 2 rfl) f_Cn_54.2.2.2.2.1 (fun h1 => ?_)
  have T := T h1
  refine wp_iload_n d_Cn_emit_8 rfl rfl ?_
  refine xiast d_Cn_emit_9 (gl_1 hX 9) (gl_2 hX (a := 9) (by decide)) (gl_s hX 9 rfl) (by decide) T.1 (w32_id hx1) ?_
  have T := T.2
  refine wp_aload_n d_Cn_emit_10 rfl rfl (g_nz (gl_1 hX 2)) ?_
  refine xgetR d_Cn_emit_11 gc_Cn f_Cn_33.1 f_Cn_33.2.1 f_Cn_33.2.2.1 (gl_1 hX 2) (gl_2 hX (a := 2) (by decide)) (gl_s hX 2 rfl) f_Cn_33.2.2.2.2.1 (gl_f hX 9 rfl) ?_
  refine wp_aload_n d_Cn_emit_14 rfl rfl (g_nz (gl_1 hX 2)) ?_
  refine xgetI d_Cn_emit_15 gc_Cn f_Cn_54.1 f_Cn_54.2.1 f_Cn_54.2.2.1 (gl_1 hX 2) (gl_2 hX (a := 2) (by decide)) (gl_s hX 2 rfl) f_Cn_54.2.2.2.2.1 (fun h2 => ?_)
  have T := T h2
  refine wp_lload_n d_Cn_emit_18 rfl rfl ?_
  refine xlast d_Cn_emit_19 (gl_1 hX 10) (gl_2 hX (a := 10) (by decide)) (gl_s hX 10 rfl) (by decide) T.1 (w64_id hx2) ?_
  have T := T.2
  refine wp_aload_n d_Cn_emit_20 rfl rfl (g_nz (gl_1 hX 2)) ?_
  refine wp_dup d_Cn_emit_21 (gR_cat _) ?_
  refine xgetI d_Cn_emit_22 gc_Cn f_Cn_54.1 f_Cn_54.2.1 f_Cn_54.2.2.1 (gl_1 hX 2) (gl_2 hX (a := 2) (by decide)) (gl_s hX 2 rfl) f_Cn_54.2.2.2.2.1 (fun h3 => ?_)
  have T := T h3
  refine wp_iconst d_Cn_emit_25 ?_
  refine wp_iadd d_Cn_emit_26 ?_
  refine xputI d_Cn_emit_27 gc_Cn f_Cn_54.1 f_Cn_54.2.1 f_Cn_54.2.2.1 (gl_1 hX 2) (gl_2 hX (a := 2) (by decide)) (gl_s hX 2 rfl) f_Cn_54.2.2.2.1 f_Cn_54.2.2.2.2.1 f_Cn_54.2.2.2.2.2 rfl ?_
  exact wp_return d_Cn_emit_30 rfl (fun _ => rfl) (Nat.zero_le _) (Nat.zero_le _) (kV_mk T)
theorem e_Cn_emit {l : Launch} {G : gG} {d : Nat} {X : gX} {M : gM} {k : gM → Prop} {c : Nat} {x1 : Int} {x2 : Int} (T : wp l G y_Cn_emit (gRm d) true (kkV X k) false 0 [.val (gR G (c + 2)), .val (gI x1), .val (gL x2), .unset] [] X M 0 0) : cV l G y_Cn_emit (gRm d) true [gR G (c + 2), gI x1, gL x2] X M k := cen_V (plainFor_of_name rfl) (by simp only [lg_sl_R, lg_sl_I, lg_sl_L, lg_sl_N, List.length_cons, List.length_nil]; decide) (by unfold gEn; simp only [lg_sl_R, lg_sl_I, lg_sl_L, lg_sl_N]; exact wpt T (And.intro rfl (And.intro rfl (And.intro rfl True.intro))))
theorem d_Cn_emitText_0 : decode prog_4_method_6_code 0 = .ok (.aload_n 1, 1) := by decide +kernel
theorem d_Cn_emitText_1 : decode prog_4_method_6_code 1 = .ok (.iload_n 2, 1) := by decide +kernel
theorem d_Cn_emitText_2 : decode prog_4_method_6_code 2 = .ok (.aload_n 0, 1) := by decide +kernel
theorem d_Cn_emitText_3 : decode prog_4_method_6_code 3 = .ok (.getfield 43, 3) := by decide +kernel
theorem d_Cn_emitText_6 : decode prog_4_method_6_code 6 = .ok (.aload_n 0, 1) := by decide +kernel
theorem d_Cn_emitText_7 : decode prog_4_method_6_code 7 = .ok (.getfield 51, 3) := by decide +kernel
theorem d_Cn_emitText_10 : decode prog_4_method_6_code 10 = .ok (.iload_n 3, 1) := by decide +kernel
theorem d_Cn_emitText_11 : decode prog_4_method_6_code 11 = .ok (.invokestatic 66, 3) := by decide +kernel
theorem d_Cn_emitText_14 : decode prog_4_method_6_code 14 = .ok (.aload_n 0, 1) := by decide +kernel
theorem d_Cn_emitText_15 : decode prog_4_method_6_code 15 = .ok (.iconst 1, 1) := by decide +kernel
theorem d_Cn_emitText_16 : decode prog_4_method_6_code 16 = .ok (.aload_n 0, 1) := by decide +kernel
theorem d_Cn_emitText_17 : decode prog_4_method_6_code 17 = .ok (.getfield 51, 3) := by decide +kernel
theorem d_Cn_emitText_20 : decode prog_4_method_6_code 20 = .ok (.i2l, 1) := by decide +kernel
theorem d_Cn_emitText_21 : decode prog_4_method_6_code 21 = .ok (.ldc2_w 72, 3) := by decide +kernel
theorem d_Cn_emitText_24 : decode prog_4_method_6_code 24 = .ok (.lmul, 1) := by decide +kernel
theorem d_Cn_emitText_25 : decode prog_4_method_6_code 25 = .ok (.iload_n 3, 1) := by decide +kernel
theorem d_Cn_emitText_26 : decode prog_4_method_6_code 26 = .ok (.i2l, 1) := by decide +kernel
theorem d_Cn_emitText_27 : decode prog_4_method_6_code 27 = .ok (.ladd, 1) := by decide +kernel
theorem d_Cn_emitText_28 : decode prog_4_method_6_code 28 = .ok (.invokevirtual 74, 3) := by decide +kernel
theorem d_Cn_emitText_31 : decode prog_4_method_6_code 31 = .ok (.aload_n 0, 1) := by decide +kernel
theorem d_Cn_emitText_32 : decode prog_4_method_6_code 32 = .ok (.dup, 1) := by decide +kernel
theorem d_Cn_emitText_33 : decode prog_4_method_6_code 33 = .ok (.getfield 51, 3) := by decide +kernel
theorem d_Cn_emitText_36 : decode prog_4_method_6_code 36 = .ok (.iload_n 3, 1) := by decide +kernel
theorem d_Cn_emitText_37 : decode prog_4_method_6_code 37 = .ok (.iadd, 1) := by decide +kernel
theorem d_Cn_emitText_38 : decode prog_4_method_6_code 38 = .ok (.putfield 51, 3) := by decide +kernel
theorem d_Cn_emitText_41 : decode prog_4_method_6_code 41 = .ok (.return_, 1) := by decide +kernel
set_option maxHeartbeats 4000000 in
theorem w_Cn_emitText_0 {l : Launch} {G : gG} {d : Nat} {X : gX} {M : gM} {k : gM → Prop} {c : Nat} (hX : glX X c) {r1 n1 : Nat} (hr1 : 1 ≤ r1 ∧ r1 ≤ X.1 ∧ X.2.1 r1 = (2, n1) ∧ n1 ≤ 2147483647) {x2 : Int} (hx2 : g32 x2) {x3 : Int} (hx3 : g32 x3)  (T : g32 (M (c + 2) 14) → (((0 : Int) ≤ x2 ∧ (0 : Int) ≤ (M (c + 2) 14) ∧ (0 : Int) ≤ x3 ∧ x2 + x3 ≤ (n1 : Int) ∧ (M (c + 2) 14) + x3 ≤ 10480) ∧ (g32 ((gCp M (c + 13) r1 (Int.toNat x2) (Int.toNat (M (c + 2) 14)) (Int.toNat x3)) (c + 2) 14) → (cV l G y_Cn_emit (gRm d) true [gR G (c + 2), gI 1, gL ((((gCp M (c + 13) r1 (Int.toNat x2) (Int.toNat (M (c + 2) 14)) (Int.toNat x3)) (c + 2) 14) * 240) + x3)] X (gCp M (c + 13) r1 (Int.toNat x2) (Int.toNat (M (c + 2) 14)) (Int.toNat x3)) (fun M3 => (g32 (M3 (c + 2) 14) → (k (gUp M3 (c + 2) 14 (w32 ((M3 (c + 2) 14) + x3)))))))))) : wp l G y_Cn_emitText (gRm (d + 1)) true (kkV X k) false 0 [.val (gR G (c + 2)), .val (gR G r1), .val (gI x2), .val (gI x3)] [] X M 0 0 := by
  refine wp_aload_n d_Cn_emitText_0 rfl rfl (g_nz hr1.1) ?_
  refine wp_iload_n d_Cn_emitText_1 rfl rfl ?_
  refine wp_aload_n d_Cn_emitText_2 rfl rfl (g_nz (gl_1 hX 2)) ?_
  refine xgetR d_Cn_emitText_3 gc_Cn f_Cn_43.1 f_Cn_43.2.1 f_Cn_43.2.2.1 (gl_1 hX 2) (gl_2 hX (a := 2) (by decide)) (gl_s hX 2 rfl) f_Cn_43.2.2.2.2.1 (gl_f hX 12 rfl) ?_
  refine wp_aload_n d_Cn_emitText_6 rfl rfl (g_nz (gl_1 hX 2)) ?_
  refine xgetI d_Cn_emitText_7 gc_Cn f_Cn_51.1 f_Cn_51.2.1 f_Cn_51.2.2.1 (gl_1 hX 2) (gl_2 hX (a := 2) (by decide)) (gl_s hX 2 rfl) f_Cn_51.2.2.2.2.1 (fun h1 => ?_)
  have T := T h1
  refine wp_iload_n d_Cn_emitText_10 rfl rfl ?_
  refine wp_copy (a := c + 13) (a0 := r1) d_Cn_emitText_11 ml_Cn_66 na_arraycopy sm_arraycopy in_System (by decide) hr1.1 hr1.2.1 hr1.2.2.1 (gl_1 hX 13) (gl_2 hX (a := 13) (by decide)) (gl_s hX 13 rfl) (by omega) (by decide) T.1 (g_cpfr d) (g_cplo d) ?_
  have T := T.2
  refine wp_aload_n d_Cn_emitText_14 rfl rfl (g_nz (gl_1 hX 2)) ?_
  refine wp_iconst d_Cn_emitText_15 ?_
  refine wp_aload_n d_Cn_emitText_16 rfl rfl (g_nz (gl_1 hX 2)) ?_
  refine xgetI d_Cn_emitText_17 gc_Cn f_Cn_51.1 f_Cn_51.2.1 f_Cn_51.2.2.1 (gl_1 hX 2) (gl_2 hX (a := 2) (by decide)) (gl_s hX 2 rfl) f_Cn_51.2.2.2.2.1 (fun h2 => ?_)
  have T := T h2
  refine xi2l d_Cn_emitText_20 (w32_id h2) ?_
  refine wp_ldc2 (n := 240) d_Cn_emitText_21 c_Cn_72 rfl ?_
  refine wp_lmul d_Cn_emitText_24 ?_
  refine wp_iload_n d_Cn_emitText_25 rfl rfl ?_
  refine xi2l d_Cn_emitText_26 (w32_id hx3) ?_
  refine wp_ladd d_Cn_emitText_27 ?_
  refine xcV_V (md' := true) (As := [gI 1, gL ((((gCp M (c + 13) r1 (Int.toNat x2) (Int.toNat (M (c + 2) 14)) (Int.toNat x3)) (c + 2) 14) * 240) + x3)]) (st := []) d_Cn_emitText_28 ca_Cn_emit ml_Cn_74 im_Cn_emit se_Cn_emit gc_Cn (gl_1 hX 2) (gl_2 hX (a := 2) (by decide)) (gl_s hX 2 rfl) rfl (by decide) (by decide) rfl (fun _ => rfl) (fun _ => rfl) T (fun M3 T => ?_)
  refine wp_aload_n d_Cn_emitText_31 rfl rfl (g_nz (gl_1 hX 2)) ?_
  refine wp_dup d_Cn_emitText_32 (gR_cat _) ?_
  refine xgetI d_Cn_emitText_33 gc_Cn f_Cn_51.1 f_Cn_51.2.1 f_Cn_51.2.2.1 (gl_1 hX 2) (gl_2 hX (a := 2) (by decide)) (gl_s hX 2 rfl) f_Cn_51.2.2.2.2.1 (fun h4 => ?_)
  have T := T h4
  refine wp_iload_n d_Cn_emitText_36 rfl rfl ?_
  refine wp_iadd d_Cn_emitText_37 ?_
  refine xputI d_Cn_emitText_38 gc_Cn f_Cn_51.1 f_Cn_51.2.1 f_Cn_51.2.2.1 (gl_1 hX 2) (gl_2 hX (a := 2) (by decide)) (gl_s hX 2 rfl) f_Cn_51.2.2.2.1 f_Cn_51.2.2.2.2.1 f_Cn_51.2.2.2.2.2 rfl ?_
  exact wp_return d_Cn_emitText_41 rfl (fun _ => rfl) (Nat.zero_le _) (Nat.zero_le _) (kV_mk T)
theorem e_Cn_emitText {l : Launch} {G : gG} {d : Nat} {X : gX} {M : gM} {k : gM → Prop} {c : Nat} {r1 : Nat} {x2 : Int} {x3 : Int} (T : wp l G y_Cn_emitText (gRm (d + 1)) true (kkV X k) false 0 [.val (gR G (c + 2)), .val (gR G r1), .val (gI x2), .val (gI x3)] [] X M 0 0) : cV l G y_Cn_emitText (gRm (d + 1)) true [gR G (c + 2), gR G r1, gI x2, gI x3] X M k := cen_V (plainFor_of_name rfl) (by simp only [lg_sl_R, lg_sl_I, lg_sl_L, lg_sl_N, List.length_cons, List.length_nil]; decide) (by unfold gEn; simp only [lg_sl_R, lg_sl_I, lg_sl_L, lg_sl_N]; exact wpt T (And.intro rfl (And.intro rfl (And.intro rfl (And.intro rfl True.intro)))))
theorem d_Cn_addRef_0 : decode prog_4_method_7_code 0 = .ok (.aload_n 0, 1) := by decide +kernel
theorem d_Cn_addRef_1 : decode prog_4_method_7_code 1 = .ok (.getfield 37, 3) := by decide +kernel
theorem d_Cn_addRef_4 : decode prog_4_method_7_code 4 = .ok (.aload_n 0, 1) := by decide +kernel
theorem d_Cn_addRef_5 : decode prog_4_method_7_code 5 = .ok (.getfield 57, 3) := by decide +kernel
theorem d_Cn_addRef_8 : decode prog_4_method_7_code 8 = .ok (.iload_n 1, 1) := by decide +kernel
theorem d_Cn_addRef_9 : decode prog_4_method_7_code 9 = .ok (.iastore, 1) := by decide +kernel
theorem d_Cn_addRef_10 : decode prog_4_method_7_code 10 = .ok (.aload_n 0, 1) := by decide +kernel
theorem d_Cn_addRef_11 : decode prog_4_method_7_code 11 = .ok (.getfield 40, 3) := by decide +kernel
theorem d_Cn_addRef_14 : decode prog_4_method_7_code 14 = .ok (.aload_n 0, 1) := by decide +kernel
theorem d_Cn_addRef_15 : decode prog_4_method_7_code 15 = .ok (.getfield 57, 3) := by decide +kernel
theorem d_Cn_addRef_18 : decode prog_4_method_7_code 18 = .ok (.iload_n 2, 1) := by decide +kernel
theorem d_Cn_addRef_19 : decode prog_4_method_7_code 19 = .ok (.iastore, 1) := by decide +kernel
theorem d_Cn_addRef_20 : decode prog_4_method_7_code 20 = .ok (.iload_n 2, 1) := by decide +kernel
theorem d_Cn_addRef_21 : decode prog_4_method_7_code 21 = .ok (.iconst 4, 1) := by decide +kernel
theorem d_Cn_addRef_22 : decode prog_4_method_7_code 22 = .ok (.iand, 1) := by decide +kernel
theorem d_Cn_addRef_23 : decode prog_4_method_7_code 23 = .ok (.ifCond .eq 16, 3) := by decide +kernel
theorem d_Cn_addRef_39 : decode prog_4_method_7_code 39 = .ok (.aload_n 0, 1) := by decide +kernel
theorem d_Cn_addRef_40 : decode prog_4_method_7_code 40 = .ok (.dup, 1) := by decide +kernel
theorem d_Cn_addRef_41 : decode prog_4_method_7_code 41 = .ok (.getfield 57, 3) := by decide +kernel
theorem d_Cn_addRef_44 : decode prog_4_method_7_code 44 = .ok (.iconst 1, 1) := by decide +kernel
theorem d_Cn_addRef_45 : decode prog_4_method_7_code 45 = .ok (.iadd, 1) := by decide +kernel
theorem d_Cn_addRef_46 : decode prog_4_method_7_code 46 = .ok (.putfield 57, 3) := by decide +kernel
theorem d_Cn_addRef_49 : decode prog_4_method_7_code 49 = .ok (.aload_n 0, 1) := by decide +kernel
theorem d_Cn_addRef_50 : decode prog_4_method_7_code 50 = .ok (.getfield 57, 3) := by decide +kernel
theorem d_Cn_addRef_53 : decode prog_4_method_7_code 53 = .ok (.iconst 1, 1) := by decide +kernel
theorem d_Cn_addRef_54 : decode prog_4_method_7_code 54 = .ok (.isub, 1) := by decide +kernel
theorem d_Cn_addRef_55 : decode prog_4_method_7_code 55 = .ok (.aload_n 0, 1) := by decide +kernel
theorem d_Cn_addRef_56 : decode prog_4_method_7_code 56 = .ok (.getfield 21, 3) := by decide +kernel
theorem d_Cn_addRef_59 : decode prog_4_method_7_code 59 = .ok (.aload_n 0, 1) := by decide +kernel
theorem d_Cn_addRef_60 : decode prog_4_method_7_code 60 = .ok (.getfield 47, 3) := by decide +kernel
theorem d_Cn_addRef_63 : decode prog_4_method_7_code 63 = .ok (.iaload, 1) := by decide +kernel
theorem d_Cn_addRef_64 : decode prog_4_method_7_code 64 = .ok (.isub, 1) := by decide +kernel
theorem d_Cn_addRef_65 : decode prog_4_method_7_code 65 = .ok (.ireturn, 1) := by decide +kernel
theorem d_Cn_addRef_26 : decode prog_4_method_7_code 26 = .ok (.aload_n 0, 1) := by decide +kernel
theorem d_Cn_addRef_27 : decode prog_4_method_7_code 27 = .ok (.getfield 27, 3) := by decide +kernel
theorem d_Cn_addRef_30 : decode prog_4_method_7_code 30 = .ok (.aload_n 0, 1) := by decide +kernel
theorem d_Cn_addRef_31 : decode prog_4_method_7_code 31 = .ok (.getfield 47, 3) := by decide +kernel
theorem d_Cn_addRef_34 : decode prog_4_method_7_code 34 = .ok (.dup2, 1) := by decide +kernel
theorem d_Cn_addRef_35 : decode prog_4_method_7_code 35 = .ok (.iaload, 1) := by decide +kernel
theorem d_Cn_addRef_36 : decode prog_4_method_7_code 36 = .ok (.iconst 1, 1) := by decide +kernel
theorem d_Cn_addRef_37 : decode prog_4_method_7_code 37 = .ok (.iadd, 1) := by decide +kernel
theorem d_Cn_addRef_38 : decode prog_4_method_7_code 38 = .ok (.iastore, 1) := by decide +kernel
set_option maxHeartbeats 4000000 in
theorem w_Cn_addRef_0 {l : Launch} {G : gG} {d : Nat} {X : gX} {M : gM} {k : Int → gM → Prop} {c : Nat} (hX : glX X c) {x1 : Int} (hx1 : g32 x1) {x2 : Int} (hx2 : g32 x2)  (T : g32 (M (c + 2) 13) → (((0 : Int) ≤ M (c + 2) 13 ∧ M (c + 2) 13 < 10480) ∧ (g32 ((gUp M (c + 11) (Int.toNat (M (c + 2) 13)) x1) (c + 2) 13) → (((0 : Int) ≤ (gUp M (c + 11) (Int.toNat (M (c + 2) 13)) x1) (c + 2) 13 ∧ (gUp M (c + 11) (Int.toNat (M (c + 2) 13)) x1) (c + 2) 13 < 10480) ∧ ((gAnd x2 4 = 0 → (g32 ((gUp (gUp M (c + 11) (Int.toNat (M (c + 2) 13)) x1) (c + 12) (Int.toNat ((gUp M (c + 11) (Int.toNat (M (c + 2) 13)) x1) (c + 2) 13)) x2) (c + 2) 13) → (g32 ((gUp (gUp (gUp M (c + 11) (Int.toNat (M (c + 2) 13)) x1) (c + 12) (Int.toNat ((gUp M (c + 11) (Int.toNat (M (c + 2) 13)) x1) (c + 2) 13)) x2) (c + 2) 13 (w32 (((gUp (gUp M (c + 11) (Int.toNat (M (c + 2) 13)) x1) (c + 12) (Int.toNat ((gUp M (c + 11) (Int.toNat (M (c + 2) 13)) x1) (c + 2) 13)) x2) (c + 2) 13) + 1))) (c + 2) 13) → (g32 ((gUp (gUp (gUp M (c + 11) (Int.toNat (M (c + 2) 13)) x1) (c + 12) (Int.toNat ((gUp M (c + 11) (Int.toNat (M (c + 2) 13)) x1) (c + 2) 13)) x2) (c + 2) 13 (w32 (((gUp (gUp M (c + 11) (Int.toNat (M (c + 2) 13)) x1) (c + 12) (Int.toNat ((gUp M (c + 11) (Int.toNat (M (c + 2) 13)) x1) (c + 2) 13)) x2) (c + 2) 13) + 1))) (c + 2) 11) → (((0 : Int) ≤ (gUp (gUp (gUp M (c + 11) (Int.toNat (M (c + 2) 13)) x1) (c + 12) (Int.toNat ((gUp M (c + 11) (Int.toNat (M (c + 2) 13)) x1) (c + 2) 13)) x2) (c + 2) 13 (w32 (((gUp (gUp M (c + 11) (Int.toNat (M (c + 2) 13)) x1) (c + 12) (Int.toNat ((gUp M (c + 11) (Int.toNat (M (c + 2) 13)) x1) (c + 2) 13)) x2) (c + 2) 13) + 1))) (c + 2) 11 ∧ (gUp (gUp (gUp M (c + 11) (Int.toNat (M (c + 2) 13)) x1) (c + 12) (Int.toNat ((gUp M (c + 11) (Int.toNat (M (c + 2) 13)) x1) (c + 2) 13)) x2) (c + 2) 13 (w32 (((gUp (gUp M (c + 11) (Int.toNat (M (c + 2) 13)) x1) (c + 12) (Int.toNat ((gUp M (c + 11) (Int.toNat (M (c + 2) 13)) x1) (c + 2) 13)) x2) (c + 2) 13) + 1))) (c + 2) 11 < 513) ∧ (g32 ((gUp (gUp (gUp M (c + 11) (Int.toNat (M (c + 2) 13)) x1) (c + 12) (Int.toNat ((gUp M (c + 11) (Int.toNat (M (c + 2) 13)) x1) (c + 2) 13)) x2) (c + 2) 13 (w32 (((gUp (gUp M (c + 11) (Int.toNat (M (c + 2) 13)) x1) (c + 12) (Int.toNat ((gUp M (c + 11) (Int.toNat (M (c + 2) 13)) x1) (c + 2) 13)) x2) (c + 2) 13) + 1))) (c + 6) (Int.toNat ((gUp (gUp (gUp M (c + 11) (Int.toNat (M (c + 2) 13)) x1) (c + 12) (Int.toNat ((gUp M (c + 11) (Int.toNat (M (c + 2) 13)) x1) (c + 2) 13)) x2) (c + 2) 13 (w32 (((gUp (gUp M (c + 11) (Int.toNat (M (c + 2) 13)) x1) (c + 12) (Int.toNat ((gUp M (c + 11) (Int.toNat (M (c + 2) 13)) x1) (c + 2) 13)) x2) (c + 2) 13) + 1))) (c + 2) 11))) → (k (w32 ((((gUp (gUp (gUp M (c + 11) (Int.toNat (M (c + 2) 13)) x1) (c + 12) (Int.toNat ((gUp M (c + 11) (Int.toNat (M (c + 2) 13)) x1) (c + 2) 13)) x2) (c + 2) 13 (w32 (((gUp (gUp M (c + 11) (Int.toNat (M (c + 2) 13)) x1) (c + 12) (Int.toNat ((gUp M (c + 11) (Int.toNat (M (c + 2) 13)) x1) (c + 2) 13)) x2) (c + 2) 13) + 1))) (c + 2) 13) - 1) - ((gUp (gUp (gUp M (c + 11) (Int.toNat (M (c + 2) 13)) x1) (c + 12) (Int.toNat ((gUp M (c + 11) (Int.toNat (M (c + 2) 13)) x1) (c + 2) 13)) x2) (c + 2) 13 (w32 (((gUp (gUp M (c + 11) (Int.toNat (M (c + 2) 13)) x1) (c + 12) (Int.toNat ((gUp M (c + 11) (Int.toNat (M (c + 2) 13)) x1) (c + 2) 13)) x2) (c + 2) 13) + 1))) (c + 6) (Int.toNat ((gUp (gUp (gUp M (c + 11) (Int.toNat (M (c + 2) 13)) x1) (c + 12) (Int.toNat ((gUp M (c + 11) (Int.toNat (M (c + 2) 13)) x1) (c + 2) 13)) x2) (c + 2) 13 (w32 (((gUp (gUp M (c + 11) (Int.toNat (M (c + 2) 13)) x1) (c + 12) (Int.toNat ((gUp M (c + 11) (Int.toNat (M (c + 2) 13)) x1) (c + 2) 13)) x2) (c + 2) 13) + 1))) (c + 2) 11))))) (gUp (gUp (gUp M (c + 11) (Int.toNat (M (c + 2) 13)) x1) (c + 12) (Int.toNat ((gUp M (c + 11) (Int.toNat (M (c + 2) 13)) x1) (c + 2) 13)) x2) (c + 2) 13 (w32 (((gUp (gUp M (c + 11) (Int.toNat (M (c + 2) 13)) x1) (c + 12) (Int.toNat ((gUp M (c + 11) (Int.toNat (M (c + 2) 13)) x1) (c + 2) 13)) x2) (c + 2) 13) + 1)))))))))) ∧ (¬ gAnd x2 4 = 0 → (g32 ((gUp (gUp M (c + 11) (Int.toNat (M (c + 2) 13)) x1) (c + 12) (Int.toNat ((gUp M (c + 11) (Int.toNat (M (c + 2) 13)) x1) (c + 2) 13)) x2) (c + 2) 11) → (((0 : Int) ≤ (gUp (gUp M (c + 11) (Int.toNat (M (c + 2) 13)) x1) (c + 12) (Int.toNat ((gUp M (c + 11) (Int.toNat (M (c + 2) 13)) x1) (c + 2) 13)) x2) (c + 2) 11 ∧ (gUp (gUp M (c + 11) (Int.toNat (M (c + 2) 13)) x1) (c + 12) (Int.toNat ((gUp M (c + 11) (Int.toNat (M (c + 2) 13)) x1) (c + 2) 13)) x2) (c + 2) 11 < 513) ∧ (g32 ((gUp (gUp M (c + 11) (Int.toNat (M (c + 2) 13)) x1) (c + 12) (Int.toNat ((gUp M (c + 11) (Int.toNat (M (c + 2) 13)) x1) (c + 2) 13)) x2) (c + 8) (Int.toNat ((gUp (gUp M (c + 11) (Int.toNat (M (c + 2) 13)) x1) (c + 12) (Int.toNat ((gUp M (c + 11) (Int.toNat (M (c + 2) 13)) x1) (c + 2) 13)) x2) (c + 2) 11))) → (((0 : Int) ≤ (gUp (gUp M (c + 11) (Int.toNat (M (c + 2) 13)) x1) (c + 12) (Int.toNat ((gUp M (c + 11) (Int.toNat (M (c + 2) 13)) x1) (c + 2) 13)) x2) (c + 2) 11 ∧ (gUp (gUp M (c + 11) (Int.toNat (M (c + 2) 13)) x1) (c + 12) (Int.toNat ((gUp M (c + 11) (Int.toNat (M (c + 2) 13)) x1) (c + 2) 13)) x2) (c + 2) 11 < 513) ∧ (g32 ((gUp (gUp (gUp M (c + 11) (Int.toNat (M (c + 2) 13)) x1) (c + 12) (Int.toNat ((gUp M (c + 11) (Int.toNat (M (c + 2) 13)) x1) (c + 2) 13)) x2) (c + 8) (Int.toNat ((gUp (gUp M (c + 11) (Int.toNat (M (c + 2) 13)) x1) (c + 12) (Int.toNat ((gUp M (c + 11) (Int.toNat (M (c + 2) 13)) x1) (c + 2) 13)) x2) (c + 2) 11)) (w32 (((gUp (gUp M (c + 11) (Int.toNat (M (c + 2) 13)) x1) (c + 12) (Int.toNat ((gUp M (c + 11) (Int.toNat (M (c + 2) 13)) x1) (c + 2) 13)) x2) (c + 8) (Int.toNat ((gUp (gUp M (c + 11) (Int.toNat (M (c + 2) 13)) x1) (c + 12) (Int.toNat ((gUp M (c + 11) (Int.toNat (M (c + 2) 13)) x1) (c + 2) 13)) x2) (c + 2) 11))) + 1))) (c + 2) 13) → (g32 ((gUp (gUp (gUp (gUp M (c + 11) (Int.toNat (M (c + 2) 13)) x1) (c + 12) (Int.toNat ((gUp M (c + 11) (Int.toNat (M (c + 2) 13)) x1) (c + 2) 13)) x2) (c + 8) (Int.toNat ((gUp (gUp M (c + 11) (Int.toNat (M (c + 2) 13)) x1) (c + 12) (Int.toNat ((gUp M (c + 11) (Int.toNat (M (c + 2) 13)) x1) (c + 2) 13)) x2) (c + 2) 11)) (w32 (((gUp (gUp M (c + 11) (Int.toNat (M (c + 2) 13)) x1) (c + 12) (Int.toNat ((gUp M (c + 11) (Int.toNat (M (c + 2) 13)) x1) (c + 2) 13)) x2) (c + 8) (Int.toNat ((gUp (gUp M (c + 11) (Int.toNat (M (c + 2) 13)) x1) (c + 12) (Int.toNat ((gUp M (c + 11) (Int.toNat (M (c + 2) 13)) x1) (c + 2) 13)) x2) (c + 2) 11))) + 1))) (c + 2) 13 (w32 (((gUp (gUp (gUp M (c + 11) (Int.toNat (M (c + 2) 13)) x1) (c + 12) (Int.toNat ((gUp M (c + 11) (Int.toNat (M (c + 2) 13)) x1) (c + 2) 13)) x2) (c + 8) (Int.toNat ((gUp (gUp M (c + 11) (Int.toNat (M (c + 2) 13)) x1) (c + 12) (Int.toNat ((gUp M (c + 11) (Int.toNat (M (c + 2) 13)) x1) (c + 2) 13)) x2) (c + 2) 11)) (w32 (((gUp (gUp M (c + 11) (Int.toNat (M (c + 2) 13)) x1) (c + 12) (Int.toNat ((gUp M (c + 11) (Int.toNat (M (c + 2) 13)) x1) (c + 2) 13)) x2) (c + 8) (Int.toNat ((gUp (gUp M (c + 11) (Int.toNat (M (c + 2) 13)) x1) (c + 12) (Int.toNat ((gUp M (c + 11) (Int.toNat (M (c + 2) 13)) x1) (c + 2) 13)) x2) (c + 2) 11))) + 1))) (c + 2) 13) + 1))) (c + 2) 13) → (g32 ((gUp (gUp (gUp (gUp M (c + 11) (Int.toNat (M (c + 2) 13)) x1) (c + 12) (Int.toNat ((gUp M (c + 11) (Int.toNat (M (c + 2) 13)) x1) (c + 2) 13)) x2) (c + 8) (Int.toNat ((gUp (gUp M (c + 11) (Int.toNat (M (c + 2) 13)) x1) (c + 12) (Int.toNat ((gUp M (c + 11) (Int.toNat (M (c + 2) 13)) x1) (c + 2) 13)) x2) (c + 2) 11)) (w32 (((gUp (gUp M (c + 11) (Int.toNat (M (c + 2) 13)) x1) (c + 12) (Int.toNat ((gUp M (c + 11) (Int.toNat (M (c + 2) 13)) x1) (c + 2) 13)) x2) (c + 8) (Int.toNat ((gUp (gUp M (c + 11) (Int.toNat (M (c + 2) 13)) x1) (c + 12) (Int.toNat ((gUp M (c + 11) (Int.toNat (M (c + 2) 13)) x1) (c + 2) 13)) x2) (c + 2) 11))) + 1))) (c + 2) 13 (w32 (((gUp (gUp (gUp M (c + 11) (Int.toNat (M (c + 2) 13)) x1) (c + 12) (Int.toNat ((gUp M (c + 11) (Int.toNat (M (c + 2) 13)) x1) (c + 2) 13)) x2) (c + 8) (Int.toNat ((gUp (gUp M (c + 11) (Int.toNat (M (c + 2) 13)) x1) (c + 12) (Int.toNat ((gUp M (c + 11) (Int.toNat (M (c + 2) 13)) x1) (c + 2) 13)) x2) (c + 2) 11)) (w32 (((gUp (gUp M (c + 11) (Int.toNat (M (c + 2) 13)) x1) (c + 12) (Int.toNat ((gUp M (c + 11) (Int.toNat (M (c + 2) 13)) x1) (c + 2) 13)) x2) (c + 8) (Int.toNat ((gUp (gUp M (c + 11) (Int.toNat (M (c + 2) 13)) x1) (c + 12) (Int.toNat ((gUp M (c + 11) (Int.toNat (M (c + 2) 13)) x1) (c + 2) 13)) x2) (c + 2) 11))) + 1))) (c + 2) 13) + 1))) (c + 2) 11) → (((0 : Int) ≤ (gUp (gUp (gUp (gUp M (c + 11) (Int.toNat (M (c + 2) 13)) x1) (c + 12) (Int.toNat ((gUp M (c + 11) (Int.toNat (M (c + 2) 13)) x1) (c + 2) 13)) x2) (c + 8) (Int.toNat ((gUp (gUp M (c + 11) (Int.toNat (M (c + 2) 13)) x1) (c + 12) (Int.toNat ((gUp M (c + 11) (Int.toNat (M (c + 2) 13)) x1) (c + 2) 13)) x2) (c + 2) 11)) (w32 (((gUp (gUp M (c + 11) (Int.toNat (M (c + 2) 13)) x1) (c + 12) (Int.toNat ((gUp M (c + 11) (Int.toNat (M (c + 2) 13)) x1) (c + 2) 13)) x2) (c + 8) (Int.toNat ((gUp (gUp M (c + 11) (Int.toNat (M (c + 2) 13)) x1) (c + 12) (Int.toNat ((gUp M (c + 11) (Int.toNat (M (c + 2) 13)) x1) (c + 2) 13)) x2) (c + 2) 11))) + 1))) (c + 2) 13 (w32 (((gUp (gUp (gUp M (c + 11) (Int.toNat (M (c + 2) 13)) x1) (c + 12) (Int.toNat ((gUp M (c + 11) (Int.toNat (M (c + 2) 13)) x1) (c + 2) 13)) x2) (c + 8) (Int.toNat ((gUp (gUp M (c + 11) (Int.toNat (M (c + 2) 13)) x1) (c + 12) (Int.toNat ((gUp M (c + 11) (Int.toNat (M (c + 2) 13)) x1) (c + 2) 13)) x2) (c + 2) 11)) (w32 (((gUp (gUp M (c + 11) (Int.toNat (M (c + 2) 13)) x1) (c + 12) (Int.toNat ((gUp M (c + 11) (Int.toNat (M (c + 2) 13)) x1) (c + 2) 13)) x2) (c + 8) (Int.toNat ((gUp (gUp M (c + 11) (Int.toNat (M (c + 2) 13)) x1) (c + 12) (Int.toNat ((gUp M (c + 11) (Int.toNat (M (c + 2) 13)) x1) (c + 2) 13)) x2) (c + 2) 11))) + 1))) (c + 2) 13) + 1))) (c + 2) 11 ∧ (gUp (gUp (gUp (gUp M (c + 11) (Int.toNat (M (c + 2) 13)) x1) (c + 12) (Int.toNat ((gUp M (c + 11) (Int.toNat (M (c + 2) 13)) x1) (c + 2) 13)) x2) (c + 8) (Int.toNat ((gUp (gUp M (c + 11) (Int.toNat (M (c + 2) 13)) x1) (c + 12) (Int.toNat ((gUp M (c + 11) (Int.toNat (M (c + 2) 13)) x1) (c + 2) 13)) x2) (c + 2) 11)) (w32 (((gUp (gUp M (c + 11) (Int.toNat (M (c + 2) 13)) x1) (c + 12) (Int.toNat ((gUp M (c + 11) (Int.toNat (M (c + 2) 13)) x1) (c + 2) 13)) x2) (c + 8) (Int.toNat ((gUp (gUp M (c + 11) (Int.toNat (M (c + 2) 13)) x1) (c + 12) (Int.toNat ((gUp M (c + 11) (Int.toNat (M (c + 2) 13)) x1) (c + 2) 13)) x2) (c + 2) 11))) + 1))) (c + 2) 13 (w32 (((gUp (gUp (gUp M (c + 11) (Int.toNat (M (c + 2) 13)) x1) (c + 12) (Int.toNat ((gUp M (c + 11) (Int.toNat (M (c + 2) 13)) x1) (c + 2) 13)) x2) (c + 8) (Int.toNat ((gUp (gUp M (c + 11) (Int.toNat (M (c + 2) 13)) x1) (c + 12) (Int.toNat ((gUp M (c + 11) (Int.toNat (M (c + 2) 13)) x1) (c + 2) 13)) x2) (c + 2) 11)) (w32 (((gUp (gUp M (c + 11) (Int.toNat (M (c + 2) 13)) x1) (c + 12) (Int.toNat ((gUp M (c + 11) (Int.toNat (M (c + 2) 13)) x1) (c + 2) 13)) x2) (c + 8) (Int.toNat ((gUp (gUp M (c + 11) (Int.toNat (M (c + 2) 13)) x1) (c + 12) (Int.toNat ((gUp M (c + 11) (Int.toNat (M (c + 2) 13)) x1) (c + 2) 13)) x2) (c + 2) 11))) + 1))) (c + 2) 13) + 1))) (c + 2) 11 < 513) ∧ (g32 ((gUp (gUp (gUp (gUp M (c + 11) (Int.toNat (M (c + 2) 13)) x1) (c + 12) (Int.toNat ((gUp M (c + 11) (Int.toNat (M (c + 2) 13)) x1) (c + 2) 13)) x2) (c + 8) (Int.toNat ((gUp (gUp M (c + 11) (Int.toNat (M (c + 2) 13)) x1) (c + 12) (Int.toNat ((gUp M (c + 11) (Int.toNat (M (c + 2) 13)) x1) (c + 2) 13)) x2) (c + 2) 11)) (w32 (((gUp (gUp M (c + 11) (Int.toNat (M (c + 2) 13)) x1) (c + 12) (Int.toNat ((gUp M (c + 11) (Int.toNat (M (c + 2) 13)) x1) (c + 2) 13)) x2) (c + 8) (Int.toNat ((gUp (gUp M (c + 11) (Int.toNat (M (c + 2) 13)) x1) (c + 12) (Int.toNat ((gUp M (c + 11) (Int.toNat (M (c + 2) 13)) x1) (c + 2) 13)) x2) (c + 2) 11))) + 1))) (c + 2) 13 (w32 (((gUp (gUp (gUp M (c + 11) (Int.toNat (M (c + 2) 13)) x1) (c + 12) (Int.toNat ((gUp M (c + 11) (Int.toNat (M (c + 2) 13)) x1) (c + 2) 13)) x2) (c + 8) (Int.toNat ((gUp (gUp M (c + 11) (Int.toNat (M (c + 2) 13)) x1) (c + 12) (Int.toNat ((gUp M (c + 11) (Int.toNat (M (c + 2) 13)) x1) (c + 2) 13)) x2) (c + 2) 11)) (w32 (((gUp (gUp M (c + 11) (Int.toNat (M (c + 2) 13)) x1) (c + 12) (Int.toNat ((gUp M (c + 11) (Int.toNat (M (c + 2) 13)) x1) (c + 2) 13)) x2) (c + 8) (Int.toNat ((gUp (gUp M (c + 11) (Int.toNat (M (c + 2) 13)) x1) (c + 12) (Int.toNat ((gUp M (c + 11) (Int.toNat (M (c + 2) 13)) x1) (c + 2) 13)) x2) (c + 2) 11))) + 1))) (c + 2) 13) + 1))) (c + 6) (Int.toNat ((gUp (gUp (gUp (gUp M (c + 11) (Int.toNat (M (c + 2) 13)) x1) (c + 12) (Int.toNat ((gUp M (c + 11) (Int.toNat (M (c + 2) 13)) x1) (c + 2) 13)) x2) (c + 8) (Int.toNat ((gUp (gUp M (c + 11) (Int.toNat (M (c + 2) 13)) x1) (c + 12) (Int.toNat ((gUp M (c + 11) (Int.toNat (M (c + 2) 13)) x1) (c + 2) 13)) x2) (c + 2) 11)) (w32 (((gUp (gUp M (c + 11) (Int.toNat (M (c + 2) 13)) x1) (c + 12) (Int.toNat ((gUp M (c + 11) (Int.toNat (M (c + 2) 13)) x1) (c + 2) 13)) x2) (c + 8) (Int.toNat ((gUp (gUp M (c + 11) (Int.toNat (M (c + 2) 13)) x1) (c + 12) (Int.toNat ((gUp M (c + 11) (Int.toNat (M (c + 2) 13)) x1) (c + 2) 13)) x2) (c + 2) 11))) + 1))) (c + 2) 13 (w32 (((gUp (gUp (gUp M (c + 11) (Int.toNat (M (c + 2) 13)) x1) (c + 12) (Int.toNat ((gUp M (c + 11) (Int.toNat (M (c + 2) 13)) x1) (c + 2) 13)) x2) (c + 8) (Int.toNat ((gUp (gUp M (c + 11) (Int.toNat (M (c + 2) 13)) x1) (c + 12) (Int.toNat ((gUp M (c + 11) (Int.toNat (M (c + 2) 13)) x1) (c + 2) 13)) x2) (c + 2) 11)) (w32 (((gUp (gUp M (c + 11) (Int.toNat (M (c + 2) 13)) x1) (c + 12) (Int.toNat ((gUp M (c + 11) (Int.toNat (M (c + 2) 13)) x1) (c + 2) 13)) x2) (c + 8) (Int.toNat ((gUp (gUp M (c + 11) (Int.toNat (M (c + 2) 13)) x1) (c + 12) (Int.toNat ((gUp M (c + 11) (Int.toNat (M (c + 2) 13)) x1) (c + 2) 13)) x2) (c + 2) 11))) + 1))) (c + 2) 13) + 1))) (c + 2) 11))) → (k (w32 ((((gUp (gUp (gUp (gUp M (c + 11) (Int.toNat (M (c + 2) 13)) x1) (c + 12) (Int.toNat ((gUp M (c + 11) (Int.toNat (M (c + 2) 13)) x1) (c + 2) 13)) x2) (c + 8) (Int.toNat ((gUp (gUp M (c + 11) (Int.toNat (M (c + 2) 13)) x1) (c + 12) (Int.toNat ((gUp M (c + 11) (Int.toNat (M (c + 2) 13)) x1) (c + 2) 13)) x2) (c + 2) 11)) (w32 (((gUp (gUp M (c + 11) (Int.toNat (M (c + 2) 13)) x1) (c + 12) (Int.toNat ((gUp M (c + 11) (Int.toNat (M (c + 2) 13)) x1) (c + 2) 13)) x2) (c + 8) (Int.toNat ((gUp (gUp M (c + 11) (Int.toNat (M (c + 2) 13)) x1) (c + 12) (Int.toNat ((gUp M (c + 11) (Int.toNat (M (c + 2) 13)) x1) (c + 2) 13)) x2) (c + 2) 11))) + 1))) (c + 2) 13 (w32 (((gUp (gUp (gUp M (c + 11) (Int.toNat (M (c + 2) 13)) x1) (c + 12) (Int.toNat ((gUp M (c + 11) (Int.toNat (M (c + 2) 13)) x1) (c + 2) 13)) x2) (c + 8) (Int.toNat ((gUp (gUp M (c + 11) (Int.toNat (M (c + 2) 13)) x1) (c + 12) (Int.toNat ((gUp M (c + 11) (Int.toNat (M (c + 2) 13)) x1) (c + 2) 13)) x2) (c + 2) 11)) (w32 (((gUp (gUp M (c + 11) (Int.toNat (M (c + 2) 13)) x1) (c + 12) (Int.toNat ((gUp M (c + 11) (Int.toNat (M (c + 2) 13)) x1) (c + 2) 13)) x2) (c + 8) (Int.toNat ((gUp (gUp M (c + 11) (Int.toNat (M (c + 2) 13)) x1) (c + 12) (Int.toNat ((gUp M (c + 11) (Int.toNat (M (c + 2) 13)) x1) (c + 2) 13)) x2) (c + 2) 11))) + 1))) (c + 2) 13) + 1))) (c + 2) 13) - 1) - ((gUp (gUp (gUp (gUp M (c + 11) (Int.toNat (M (c + 2) 13)) x1) (c + 12) (Int.toNat ((gUp M (c + 11) (Int.toNat (M (c + 2) 13)) x1) (c + 2) 13)) x2) (c + 8) (Int.toNat ((gUp (gUp M (c + 11) (Int.toNat (M (c + 2) 13)) x1) (c + 12) (Int.toNat ((gUp M (c + 11) (Int.toNat (M (c + 2) 13)) x1) (c + 2) 13)) x2) (c + 2) 11)) (w32 (((gUp (gUp M (c + 11) (Int.toNat (M (c + 2) 13)) x1) (c + 12) (Int.toNat ((gUp M (c + 11) (Int.toNat (M (c + 2) 13)) x1) (c + 2) 13)) x2) (c + 8) (Int.toNat ((gUp (gUp M (c + 11) (Int.toNat (M (c + 2) 13)) x1) (c + 12) (Int.toNat ((gUp M (c + 11) (Int.toNat (M (c + 2) 13)) x1) (c + 2) 13)) x2) (c + 2) 11))) + 1))) (c + 2) 13 (w32 (((gUp (gUp (gUp M (c + 11) (Int.toNat (M (c + 2) 13)) x1) (c + 12) (Int.toNat ((gUp M (c + 11) (Int.toNat (M (c + 2) 13)) x1) (c + 2) 13)) x2) (c + 8) (Int.toNat ((gUp (gUp M (c + 11) (Int.toNat (M (c + 2) 13)) x1) (c + 12) (Int.toNat ((gUp M (c + 11) (Int.toNat (M (c + 2) 13)) x1) (c + 2) 13)) x2) (c + 2) 11)) (w32 (((gUp (gUp M (c + 11) (Int.toNat (M (c + 2) 13)) x1) (c + 12) (Int.toNat ((gUp M (c + 11) (Int.toNat (M (c + 2) 13)) x1) (c + 2) 13)) x2) (c + 8) (Int.toNat ((gUp (gUp M (c + 11) (Int.toNat (M (c + 2) 13)) x1) (c + 12) (Int.toNat ((gUp M (c + 11) (Int.toNat (M (c + 2) 13)) x1) (c + 2) 13)) x2) (c + 2) 11))) + 1))) (c + 2) 13) + 1))) (c + 6) (Int.toNat ((gUp (gUp (gUp (gUp M (c + 11) (Int.toNat (M (c + 2) 13)) x1) (c + 12) (Int.toNat ((gUp M (c + 11) (Int.toNat (M (c + 2) 13)) x1) (c + 2) 13)) x2) (c + 8) (Int.toNat ((gUp (gUp M (c + 11) (Int.toNat (M (c + 2) 13)) x1) (c + 12) (Int.toNat ((gUp M (c + 11) (Int.toNat (M (c + 2) 13)) x1) (c + 2) 13)) x2) (c + 2) 11)) (w32 (((gUp (gUp M (c + 11) (Int.toNat (M (c + 2) 13)) x1) (c + 12) (Int.toNat ((gUp M (c + 11) (Int.toNat (M (c + 2) 13)) x1) (c + 2) 13)) x2) (c + 8) (Int.toNat ((gUp (gUp M (c + 11) (Int.toNat (M (c + 2) 13)) x1) (c + 12) (Int.toNat ((gUp M (c + 11) (Int.toNat (M (c + 2) 13)) x1) (c + 2) 13)) x2) (c + 2) 11))) + 1))) (c + 2) 13 (w32 (((gUp (gUp (gUp M (c + 11) (Int.toNat (M (c + 2) 13)) x1) (c + 12) (Int.toNat ((gUp M (c + 11) (Int.toNat (M (c + 2) 13)) x1) (c + 2) 13)) x2) (c + 8) (Int.toNat ((gUp (gUp M (c + 11) (Int.toNat (M (c + 2) 13)) x1) (c + 12) (Int.toNat ((gUp M (c + 11) (Int.toNat (M (c + 2) 13)) x1) (c + 2) 13)) x2) (c + 2) 11)) (w32 (((gUp (gUp M (c + 11) (Int.toNat (M (c + 2) 13)) x1) (c + 12) (Int.toNat ((gUp M (c + 11) (Int.toNat (M (c + 2) 13)) x1) (c + 2) 13)) x2) (c + 8) (Int.toNat ((gUp (gUp M (c + 11) (Int.toNat (M (c + 2) 13)) x1) (c + 12) (Int.toNat ((gUp M (c + 11) (Int.toNat (M (c + 2) 13)) x1) (c + 2) 13)) x2) (c + 2) 11))) + 1))) (c + 2) 13) + 1))) (c + 2) 11))))) (gUp (gUp (gUp (gUp M (c + 11) (Int.toNat (M (c + 2) 13)) x1) (c + 12) (Int.toNat ((gUp M (c + 11) (Int.toNat (M (c + 2) 13)) x1) (c + 2) 13)) x2) (c + 8) (Int.toNat ((gUp (gUp M (c + 11) (Int.toNat (M (c + 2) 13)) x1) (c + 12) (Int.toNat ((gUp M (c + 11) (Int.toNat (M (c + 2) 13)) x1) (c + 2) 13)) x2) (c + 2) 11)) (w32 (((gUp (gUp M (c + 11) (Int.toNat (M (c + 2) 13)) x1) (c + 12) (Int.toNat ((gUp M (c + 11) (Int.toNat (M (c + 2) 13)) x1) (c + 2) 13)) x2) (c + 8) (Int.toNat ((gUp (gUp M (c + 11) (Int.toNat (M (c + 2) 13)) x1) (c + 12) (Int.toNat ((gUp M (c + 11) (Int.toNat (M (c + 2) 13)) x1) (c + 2) 13)) x2) (c + 2) 11))) + 1))) (c + 2) 13 (w32 (((gUp (gUp (gUp M (c + 11) (Int.toNat (M (c + 2) 13)) x1) (c + 12) (Int.toNat ((gUp M (c + 11) (Int.toNat (M (c + 2) 13)) x1) (c + 2) 13)) x2) (c + 8) (Int.toNat ((gUp (gUp M (c + 11) (Int.toNat (M (c + 2) 13)) x1) (c + 12) (Int.toNat ((gUp M (c + 11) (Int.toNat (M (c + 2) 13)) x1) (c + 2) 13)) x2) (c + 2) 11)) (w32 (((gUp (gUp M (c + 11) (Int.toNat (M (c + 2) 13)) x1) (c + 12) (Int.toNat ((gUp M (c + 11) (Int.toNat (M (c + 2) 13)) x1) (c + 2) 13)) x2) (c + 8) (Int.toNat ((gUp (gUp M (c + 11) (Int.toNat (M (c + 2) 13)) x1) (c + 12) (Int.toNat ((gUp M (c + 11) (Int.toNat (M (c + 2) 13)) x1) (c + 2) 13)) x2) (c + 2) 11))) + 1))) (c + 2) 13) + 1))))))))))))))))))) : wp l G y_Cn_addRef (gRm d) true (kkI X k) false 0 [.val (gR G (c + 2)), .val (gI x1), .val (gI x2)] [] X M 0 0 := by
  refine wp_aload_n d_Cn_addRef_0 rfl rfl (g_nz (gl_1 hX 2)) ?_
  refine xgetR d_Cn_addRef_1 gc_Cn f_Cn_37.1 f_Cn_37.2.1 f_Cn_37.2.2.1 (gl_1 hX 2) (gl_2 hX (a := 2) (by decide)) (gl_s hX 2 rfl) f_Cn_37.2.2.2.2.1 (gl_f hX 10 rfl) ?_
  refine wp_aload_n d_Cn_addRef_4 rfl rfl (g_nz (gl_1 hX 2)) ?_
  refine xgetI d_Cn_addRef_5 gc_Cn f_Cn_57.1 f_Cn_57.2.1 f_Cn_57.2.2.1 (gl_1 hX 2) (gl_2 hX (a := 2) (by decide)) (gl_s hX 2 rfl) f_Cn_57.2.2.2.2.1 (fun h1 => ?_)
  have T := T h1
  refine wp_iload_n d_Cn_addRef_8 rfl rfl ?_
  refine xiast d_Cn_addRef_9 (gl_1 hX 11) (gl_2 hX (a := 11) (by decide)) (gl_s hX 11 rfl) (by decide) T.1 (w32_id hx1) ?_
  have T := T.2
  refine wp_aload_n d_Cn_addRef_10 rfl rfl (g_nz (gl_1 hX 2)) ?_
  refine xgetR d_Cn_addRef_11 gc_Cn f_Cn_40.1 f_Cn_40.2.1 f_Cn_40.2.2.1 (gl_1 hX 2) (gl_2 hX (a := 2) (by decide)) (gl_s hX 2 rfl) f_Cn_40.2.2.2.2.1 (gl_f hX 11 rfl) ?_
  refine wp_aload_n d_Cn_addRef_14 rfl rfl (g_nz (gl_1 hX 2)) ?_
  refine xgetI d_Cn_addRef_15 gc_Cn f_Cn_57.1 f_Cn_57.2.1 f_Cn_57.2.2.1 (gl_1 hX 2) (gl_2 hX (a := 2) (by decide)) (gl_s hX 2 rfl) f_Cn_57.2.2.2.2.1 (fun h2 => ?_)
  have T := T h2
  refine wp_iload_n d_Cn_addRef_18 rfl rfl ?_
  refine xiast d_Cn_addRef_19 (gl_1 hX 12) (gl_2 hX (a := 12) (by decide)) (gl_s hX 12 rfl) (by decide) T.1 (w32_id hx2) ?_
  have T := T.2
  refine wp_iload_n d_Cn_addRef_20 rfl rfl ?_
  refine wp_iconst d_Cn_addRef_21 ?_
  refine wp_iand d_Cn_addRef_22 ?_
  refine xz_eq (tgt := 39) d_Cn_addRef_23 (by decide) (w32_id (gAnd_ok _ _)) (fun h13 => ?_) (fun h13 => ?_)
  · have T := T.1 h13
    refine wp_aload_n d_Cn_addRef_39 rfl rfl (g_nz (gl_1 hX 2)) ?_
    refine wp_dup d_Cn_addRef_40 (gR_cat _) ?_
    refine xgetI d_Cn_addRef_41 gc_Cn f_Cn_57.1 f_Cn_57.2.1 f_Cn_57.2.2.1 (gl_1 hX 2) (gl_2 hX (a := 2) (by decide)) (gl_s hX 2 rfl) f_Cn_57.2.2.2.2.1 (fun h3 => ?_)
    have T := T h3
    refine wp_iconst d_Cn_addRef_44 ?_
    refine wp_iadd d_Cn_addRef_45 ?_
    refine xputI d_Cn_addRef_46 gc_Cn f_Cn_57.1 f_Cn_57.2.1 f_Cn_57.2.2.1 (gl_1 hX 2) (gl_2 hX (a := 2) (by decide)) (gl_s hX 2 rfl) f_Cn_57.2.2.2.1 f_Cn_57.2.2.2.2.1 f_Cn_57.2.2.2.2.2 rfl ?_
    refine wp_aload_n d_Cn_addRef_49 rfl rfl (g_nz (gl_1 hX 2)) ?_
    refine xgetI d_Cn_addRef_50 gc_Cn f_Cn_57.1 f_Cn_57.2.1 f_Cn_57.2.2.1 (gl_1 hX 2) (gl_2 hX (a := 2) (by decide)) (gl_s hX 2 rfl) f_Cn_57.2.2.2.2.1 (fun h4 => ?_)
    have T := T h4
    refine wp_iconst d_Cn_addRef_53 ?_
    refine wp_isub d_Cn_addRef_54 ?_
    refine wp_aload_n d_Cn_addRef_55 rfl rfl (g_nz (gl_1 hX 2)) ?_
    refine xgetR d_Cn_addRef_56 gc_Cn f_Cn_21.1 f_Cn_21.2.1 f_Cn_21.2.2.1 (gl_1 hX 2) (gl_2 hX (a := 2) (by decide)) (gl_s hX 2 rfl) f_Cn_21.2.2.2.2.1 (gl_f hX 5 rfl) ?_
    refine wp_aload_n d_Cn_addRef_59 rfl rfl (g_nz (gl_1 hX 2)) ?_
    refine xgetI d_Cn_addRef_60 gc_Cn f_Cn_47.1 f_Cn_47.2.1 f_Cn_47.2.2.1 (gl_1 hX 2) (gl_2 hX (a := 2) (by decide)) (gl_s hX 2 rfl) f_Cn_47.2.2.2.2.1 (fun h5 => ?_)
    have T := T h5
    refine wp_iaload d_Cn_addRef_63 (gl_1 hX 6) (gl_2 hX (a := 6) (by decide)) (gl_s hX 6 rfl) (g32_n T.1 (by decide)) T.1.1 T.1.2 (fun h6 => ?_)
    have T := T.2 h6
    refine wp_isub d_Cn_addRef_64 ?_
    exact wp_st (st' := [gI (w32 ((((gUp (gUp (gUp M (c + 11) (Int.toNat (M (c + 2) 13)) x1) (c + 12) (Int.toNat ((gUp M (c + 11) (Int.toNat (M (c + 2) 13)) x1) (c + 2) 13)) x2) (c + 2) 13 (w32 (((gUp (gUp M (c + 11) (Int.toNat (M (c + 2) 13)) x1) (c + 12) (Int.toNat ((gUp M (c + 11) (Int.toNat (M (c + 2) 13)) x1) (c + 2) 13)) x2) (c + 2) 13) + 1))) (c + 2) 13) - 1) - ((gUp (gUp (gUp M (c + 11) (Int.toNat (M (c + 2) 13)) x1) (c + 12) (Int.toNat ((gUp M (c + 11) (Int.toNat (M (c + 2) 13)) x1) (c + 2) 13)) x2) (c + 2) 13 (w32 (((gUp (gUp M (c + 11) (Int.toNat (M (c + 2) 13)) x1) (c + 12) (Int.toNat ((gUp M (c + 11) (Int.toNat (M (c + 2) 13)) x1) (c + 2) 13)) x2) (c + 2) 13) + 1))) (c + 6) (Int.toNat ((gUp (gUp (gUp M (c + 11) (Int.toNat (M (c + 2) 13)) x1) (c + 12) (Int.toNat ((gUp M (c + 11) (Int.toNat (M (c + 2) 13)) x1) (c + 2) 13)) x2) (c + 2) 13 (w32 (((gUp (gUp M (c + 11) (Int.toNat (M (c + 2) 13)) x1) (c + 12) (Int.toNat ((gUp M (c + 11) (Int.toNat (M (c + 2) 13)) x1) (c + 2) 13)) x2) (c + 2) 13) + 1))) (c + 2) 11)))))]) (by rw [gI_w]) (wp_ireturn d_Cn_addRef_65 rfl (fun _ => rfl) (Nat.zero_le _) (Nat.zero_le _) (kI_mk (w32_ok _) T))
  · have T := T.2 h13
    refine wp_aload_n d_Cn_addRef_26 rfl rfl (g_nz (gl_1 hX 2)) ?_
    refine xgetR d_Cn_addRef_27 gc_Cn f_Cn_27.1 f_Cn_27.2.1 f_Cn_27.2.2.1 (gl_1 hX 2) (gl_2 hX (a := 2) (by decide)) (gl_s hX 2 rfl) f_Cn_27.2.2.2.2.1 (gl_f hX 7 rfl) ?_
    refine wp_aload_n d_Cn_addRef_30 rfl rfl (g_nz (gl_1 hX 2)) ?_
    refine xgetI d_Cn_addRef_31 gc_Cn f_Cn_47.1 f_Cn_47.2.1 f_Cn_47.2.2.1 (gl_1 hX 2) (gl_2 hX (a := 2) (by decide)) (gl_s hX 2 rfl) f_Cn_47.2.2.2.2.1 (fun h7 => ?_)
    have T := T h7
    refine wp_dup2 d_Cn_addRef_34 (gI_cat _) (gR_cat _) ?_
    refine wp_iaload d_Cn_addRef_35 (gl_1 hX 8) (gl_2 hX (a := 8) (by decide)) (gl_s hX 8 rfl) (g32_n T.1 (by decide)) T.1.1 T.1.2 (fun h8 => ?_)
    have T := T.2 h8
    refine wp_iconst d_Cn_addRef_36 ?_
    refine wp_iadd d_Cn_addRef_37 ?_
    refine xiast d_Cn_addRef_38 (gl_1 hX 8) (gl_2 hX (a := 8) (by decide)) (gl_s hX 8 rfl) (by decide) T.1 rfl ?_
    have T := T.2
    refine wp_aload_n d_Cn_addRef_39 rfl rfl (g_nz (gl_1 hX 2)) ?_
    refine wp_dup d_Cn_addRef_40 (gR_cat _) ?_
    refine xgetI d_Cn_addRef_41 gc_Cn f_Cn_57.1 f_Cn_57.2.1 f_Cn_57.2.2.1 (gl_1 hX 2) (gl_2 hX (a := 2) (by decide)) (gl_s hX 2 rfl) f_Cn_57.2.2.2.2.1 (fun h9 => ?_)
    have T := T h9
    refine wp_iconst d_Cn_addRef_44 ?_
    refine wp_iadd d_Cn_addRef_45 ?_
    refine xputI d_Cn_addRef_46 gc_Cn f_Cn_57.1 f_Cn_57.2.1 f_Cn_57.2.2.1 (gl_1 hX 2) (gl_2 hX (a := 2) (by decide)) (gl_s hX 2 rfl) f_Cn_57.2.2.2.1 f_Cn_57.2.2.2.2.1 f_Cn_57.2.2.2.2.2 rfl ?_
    refine wp_aload_n d_Cn_addRef_49 rfl rfl (g_nz (gl_1 hX 2)) ?_
    refine xgetI d_Cn_addRef_50 gc_Cn f_Cn_57.1 f_Cn_57.2.1 f_Cn_57.2.2.1 (gl_1 hX 2) (gl_2 hX (a := 2) (by decide)) (gl_s hX 2 rfl) f_Cn_57.2.2.2.2.1 (fun h10 => ?_)
    have T := T h10
    refine wp_iconst d_Cn_addRef_53 ?_
    refine wp_isub d_Cn_addRef_54 ?_
    refine wp_aload_n d_Cn_addRef_55 rfl rfl (g_nz (gl_1 hX 2)) ?_
    refine xgetR d_Cn_addRef_56 gc_Cn f_Cn_21.1 f_Cn_21.2.1 f_Cn_21.2.2.1 (gl_1 hX 2) (gl_2 hX (a := 2) (by decide)) (gl_s hX 2 rfl) f_Cn_21.2.2.2.2.1 (gl_f hX 5 rfl) ?_
    refine wp_aload_n d_Cn_addRef_59 rfl rfl (g_nz (gl_1 hX 2)) ?_
    refine xgetI d_Cn_addRef_60 gc_Cn f_Cn_47.1 f_Cn_47.2.1 f_Cn_47.2.2.1 (gl_1 hX 2) (gl_2 hX (a := 2) (by decide)) (gl_s hX 2 rfl) f_Cn_47.2.2.2.2.1 (fun h11 => ?_)
    have T := T h11
    refine wp_iaload d_Cn_addRef_63 (gl_1 hX 6) (gl_2 hX (a := 6) (by decide)) (gl_s hX 6 rfl) (g32_n T.1 (by decide)) T.1.1 T.1.2 (fun h12 => ?_)
    have T := T.2 h12
    refine wp_isub d_Cn_addRef_64 ?_
    exact wp_st (st' := [gI (w32 ((((gUp (gUp (gUp (gUp M (c + 11) (Int.toNat (M (c + 2) 13)) x1) (c + 12) (Int.toNat ((gUp M (c + 11) (Int.toNat (M (c + 2) 13)) x1) (c + 2) 13)) x2) (c + 8) (Int.toNat ((gUp (gUp M (c + 11) (Int.toNat (M (c + 2) 13)) x1) (c + 12) (Int.toNat ((gUp M (c + 11) (Int.toNat (M (c + 2) 13)) x1) (c + 2) 13)) x2) (c + 2) 11)) (w32 (((gUp (gUp M (c + 11) (Int.toNat (M (c + 2) 13)) x1) (c + 12) (Int.toNat ((gUp M (c + 11) (Int.toNat (M (c + 2) 13)) x1) (c + 2) 13)) x2) (c + 8) (Int.toNat ((gUp (gUp M (c + 11) (Int.toNat (M (c + 2) 13)) x1) (c + 12) (Int.toNat ((gUp M (c + 11) (Int.toNat (M (c + 2) 13)) x1) (c + 2) 13)) x2) (c + 2) 11))) + 1))) (c + 2) 13 (w32 (((gUp (gUp (gUp M (c + 11) (Int.toNat (M (c + 2) 13)) x1) (c + 12) (Int.toNat ((gUp M (c + 11) (Int.toNat (M (c + 2) 13)) x1) (c + 2) 13)) x2) (c + 8) (Int.toNat ((gUp (gUp M (c + 11) (Int.toNat (M (c + 2) 13)) x1) (c + 12) (Int.toNat ((gUp M (c + 11) (Int.toNat (M (c + 2) 13)) x1) (c + 2) 13)) x2) (c + 2) 11)) (w32 (((gUp (gUp M (c + 11) (Int.toNat (M (c + 2) 13)) x1) (c + 12) (Int.toNat ((gUp M (c + 11) (Int.toNat (M (c + 2) 13)) x1) (c + 2) 13)) x2) (c + 8) (Int.toNat ((gUp (gUp M (c + 11) (Int.toNat (M (c + 2) 13)) x1) (c + 12) (Int.toNat ((gUp M (c + 11) (Int.toNat (M (c + 2) 13)) x1) (c + 2) 13)) x2) (c + 2) 11))) + 1))) (c + 2) 13) + 1))) (c + 2) 13) - 1) - ((gUp (gUp (gUp (gUp M (c + 11) (Int.toNat (M (c + 2) 13)) x1) (c + 12) (Int.toNat ((gUp M (c + 11) (Int.toNat (M (c + 2) 13)) x1) (c + 2) 13)) x2) (c + 8) (Int.toNat ((gUp (gUp M (c + 11) (Int.toNat (M (c + 2) 13)) x1) (c + 12) (Int.toNat ((gUp M (c + 11) (Int.toNat (M (c + 2) 13)) x1) (c + 2) 13)) x2) (c + 2) 11)) (w32 (((gUp (gUp M (c + 11) (Int.toNat (M (c + 2) 13)) x1) (c + 12) (Int.toNat ((gUp M (c + 11) (Int.toNat (M (c + 2) 13)) x1) (c + 2) 13)) x2) (c + 8) (Int.toNat ((gUp (gUp M (c + 11) (Int.toNat (M (c + 2) 13)) x1) (c + 12) (Int.toNat ((gUp M (c + 11) (Int.toNat (M (c + 2) 13)) x1) (c + 2) 13)) x2) (c + 2) 11))) + 1))) (c + 2) 13 (w32 (((gUp (gUp (gUp M (c + 11) (Int.toNat (M (c + 2) 13)) x1) (c + 12) (Int.toNat ((gUp M (c + 11) (Int.toNat (M (c + 2) 13)) x1) (c + 2) 13)) x2) (c + 8) (Int.toNat ((gUp (gUp M (c + 11) (Int.toNat (M (c + 2) 13)) x1) (c + 12) (Int.toNat ((gUp M (c + 11) (Int.toNat (M (c + 2) 13)) x1) (c + 2) 13)) x2) (c + 2) 11)) (w32 (((gUp (gUp M (c + 11) (Int.toNat (M (c + 2) 13)) x1) (c + 12) (Int.toNat ((gUp M (c + 11) (Int.toNat (M (c + 2) 13)) x1) (c + 2) 13)) x2) (c + 8) (Int.toNat ((gUp (gUp M (c + 11) (Int.toNat (M (c + 2) 13)) x1) (c + 12) (Int.toNat ((gUp M (c + 11) (Int.toNat (M (c + 2) 13)) x1) (c + 2) 13)) x2) (c + 2) 11))) + 1))) (c + 2) 13) + 1))) (c + 6) (Int.toNat ((gUp (gUp (gUp (gUp M (c + 11) (Int.toNat (M (c + 2) 13)) x1) (c + 12) (Int.toNat ((gUp M (c + 11) (Int.toNat (M (c + 2) 13)) x1) (c + 2) 13)) x2) (c + 8) (Int.toNat ((gUp (gUp M (c + 11) (Int.toNat (M (c + 2) 13)) x1) (c + 12) (Int.toNat ((gUp M (c + 11) (Int.toNat (M (c + 2) 13)) x1) (c + 2) 13)) x2) (c + 2) 11)) (w32 (((gUp (gUp M (c + 11) (Int.toNat (M (c + 2) 13)) x1) (c + 12) (Int.toNat ((gUp M (c + 11) (Int.toNat (M (c + 2) 13)) x1) (c + 2) 13)) x2) (c + 8) (Int.toNat ((gUp (gUp M (c + 11) (Int.toNat (M (c + 2) 13)) x1) (c + 12) (Int.toNat ((gUp M (c + 11) (Int.toNat (M (c + 2) 13)) x1) (c + 2) 13)) x2) (c + 2) 11))) + 1))) (c + 2) 13 (w32 (((gUp (gUp (gUp M (c + 11) (Int.toNat (M (c + 2) 13)) x1) (c + 12) (Int.toNat ((gUp M (c + 11) (Int.toNat (M (c + 2) 13)) x1) (c + 2) 13)) x2) (c + 8) (Int.toNat ((gUp (gUp M (c + 11) (Int.toNat (M (c + 2) 13)) x1) (c + 12) (Int.toNat ((gUp M (c + 11) (Int.toNat (M (c + 2) 13)) x1) (c + 2) 13)) x2) (c + 2) 11)) (w32 (((gUp (gUp M (c + 11) (Int.toNat (M (c + 2) 13)) x1) (c + 12) (Int.toNat ((gUp M (c + 11) (Int.toNat (M (c + 2) 13)) x1) (c + 2) 13)) x2) (c + 8) (Int.toNat ((gUp (gUp M (c + 11) (Int.toNat (M (c + 2) 13)) x1) (c + 12) (Int.toNat ((gUp M (c + 11) (Int.toNat (M (c + 2) 13)) x1) (c + 2) 13)) x2) (c + 2) 11))) + 1))) (c + 2) 13) + 1))) (c + 2) 11)))))]) (by rw [gI_w]) (wp_ireturn d_Cn_addRef_65 rfl (fun _ => rfl) (Nat.zero_le _) (Nat.zero_le _) (kI_mk (w32_ok _) T))
theorem e_Cn_addRef {l : Launch} {G : gG} {d : Nat} {X : gX} {M : gM} {k : Int → gM → Prop} {c : Nat} {x1 : Int} {x2 : Int} (T : wp l G y_Cn_addRef (gRm d) true (kkI X k) false 0 [.val (gR G (c + 2)), .val (gI x1), .val (gI x2)] [] X M 0 0) : cI l G y_Cn_addRef (gRm d) true [gR G (c + 2), gI x1, gI x2] X M k := cen_I (plainFor_of_name rfl) (by simp only [lg_sl_R, lg_sl_I, lg_sl_L, lg_sl_N, List.length_cons, List.length_nil]; decide) (by unfold gEn; simp only [lg_sl_R, lg_sl_I, lg_sl_L, lg_sl_N]; exact wpt T (And.intro rfl (And.intro rfl (And.intro rfl True.intro))))
