/-! Walks of the class's methods, written by wip/whole/gen_class.py -/
theorem d_Cn_becomeSyntaxError_0 : decode prog_4_method_8_code 0 = .ok (.aload_n 0, 1) := by decide +kernel
theorem d_Cn_becomeSyntaxError_1 : decode prog_4_method_8_code 1 = .ok (.aload_n 0, 1) := by decide +kernel
theorem d_Cn_becomeSyntaxError_2 : decode prog_4_method_8_code 2 = .ok (.getfield 15, 3) := by decide +kernel
theorem d_Cn_becomeSyntaxError_5 : decode prog_4_method_8_code 5 = .ok (.aload_n 0, 1) := by decide +kernel
theorem d_Cn_becomeSyntaxError_6 : decode prog_4_method_8_code 6 = .ok (.getfield 47, 3) := by decide +kernel
theorem d_Cn_becomeSyntaxError_9 : decode prog_4_method_8_code 9 = .ok (.iaload, 1) := by decide +kernel
theorem d_Cn_becomeSyntaxError_10 : decode prog_4_method_8_code 10 = .ok (.putfield 54, 3) := by decide +kernel
theorem d_Cn_becomeSyntaxError_13 : decode prog_4_method_8_code 13 = .ok (.aload_n 0, 1) := by decide +kernel
theorem d_Cn_becomeSyntaxError_14 : decode prog_4_method_8_code 14 = .ok (.aload_n 0, 1) := by decide +kernel
theorem d_Cn_becomeSyntaxError_15 : decode prog_4_method_8_code 15 = .ok (.getfield 21, 3) := by decide +kernel
theorem d_Cn_becomeSyntaxError_18 : decode prog_4_method_8_code 18 = .ok (.aload_n 0, 1) := by decide +kernel
theorem d_Cn_becomeSyntaxError_19 : decode prog_4_method_8_code 19 = .ok (.getfield 47, 3) := by decide +kernel
theorem d_Cn_becomeSyntaxError_22 : decode prog_4_method_8_code 22 = .ok (.iaload, 1) := by decide +kernel
theorem d_Cn_becomeSyntaxError_23 : decode prog_4_method_8_code 23 = .ok (.putfield 57, 3) := by decide +kernel
theorem d_Cn_becomeSyntaxError_26 : decode prog_4_method_8_code 26 = .ok (.aload_n 0, 1) := by decide +kernel
theorem d_Cn_becomeSyntaxError_27 : decode prog_4_method_8_code 27 = .ok (.getfield 27, 3) := by decide +kernel
theorem d_Cn_becomeSyntaxError_30 : decode prog_4_method_8_code 30 = .ok (.aload_n 0, 1) := by decide +kernel
theorem d_Cn_becomeSyntaxError_31 : decode prog_4_method_8_code 31 = .ok (.getfield 47, 3) := by decide +kernel
theorem d_Cn_becomeSyntaxError_34 : decode prog_4_method_8_code 34 = .ok (.iconst 0, 1) := by decide +kernel
theorem d_Cn_becomeSyntaxError_35 : decode prog_4_method_8_code 35 = .ok (.iastore, 1) := by decide +kernel
theorem d_Cn_becomeSyntaxError_36 : decode prog_4_method_8_code 36 = .ok (.aload_n 0, 1) := by decide +kernel
theorem d_Cn_becomeSyntaxError_37 : decode prog_4_method_8_code 37 = .ok (.iconst 3, 1) := by decide +kernel
theorem d_Cn_becomeSyntaxError_38 : decode prog_4_method_8_code 38 = .ok (.lconst 1, 1) := by decide +kernel
theorem d_Cn_becomeSyntaxError_39 : decode prog_4_method_8_code 39 = .ok (.invokevirtual 74, 3) := by decide +kernel
theorem d_Cn_becomeSyntaxError_42 : decode prog_4_method_8_code 42 = .ok (.return_, 1) := by decide +kernel
set_option maxHeartbeats 4000000 in
theorem w_Cn_becomeSyntaxError_0 {l : Launch} {G : gG} {d : Nat} {X : gX} {M : gM} {k : gM → Prop} {c : Nat} (hX : glX X c)   (T : g32 (M (c + 2) 11) → (((0 : Int) ≤ M (c + 2) 11 ∧ M (c + 2) 11 < 513) ∧ (g32 (M (c + 4) (Int.toNat (M (c + 2) 11))) → (g32 ((gUp M (c + 2) 12 (M (c + 4) (Int.toNat (M (c + 2) 11)))) (c + 2) 11) → (((0 : Int) ≤ (gUp M (c + 2) 12 (M (c + 4) (Int.toNat (M (c + 2) 11)))) (c + 2) 11 ∧ (gUp M (c + 2) 12 (M (c + 4) (Int.toNat (M (c + 2) 11)))) (c + 2) 11 < 513) ∧ (g32 ((gUp M (c + 2) 12 (M (c + 4) (Int.toNat (M (c + 2) 11)))) (c + 6) (Int.toNat ((gUp M (c + 2) 12 (M (c + 4) (Int.toNat (M (c + 2) 11)))) (c + 2) 11))) → (g32 ((gUp (gUp M (c + 2) 12 (M (c + 4) (Int.toNat (M (c + 2) 11)))) (c + 2) 13 ((gUp M (c + 2) 12 (M (c + 4) (Int.toNat (M (c + 2) 11)))) (c + 6) (Int.toNat ((gUp M (c + 2) 12 (M (c + 4) (Int.toNat (M (c + 2) 11)))) (c + 2) 11)))) (c + 2) 11) → (((0 : Int) ≤ (gUp (gUp M (c + 2) 12 (M (c + 4) (Int.toNat (M (c + 2) 11)))) (c + 2) 13 ((gUp M (c + 2) 12 (M (c + 4) (Int.toNat (M (c + 2) 11)))) (c + 6) (Int.toNat ((gUp M (c + 2) 12 (M (c + 4) (Int.toNat (M (c + 2) 11)))) (c + 2) 11)))) (c + 2) 11 ∧ (gUp (gUp M (c + 2) 12 (M (c + 4) (Int.toNat (M (c + 2) 11)))) (c + 2) 13 ((gUp M (c + 2) 12 (M (c + 4) (Int.toNat (M (c + 2) 11)))) (c + 6) (Int.toNat ((gUp M (c + 2) 12 (M (c + 4) (Int.toNat (M (c + 2) 11)))) (c + 2) 11)))) (c + 2) 11 < 513) ∧ (cV l G y_Cn_emit (gRm d) true [gR G (c + 2), gI 3, gL 1] X (gUp (gUp (gUp M (c + 2) 12 (M (c + 4) (Int.toNat (M (c + 2) 11)))) (c + 2) 13 ((gUp M (c + 2) 12 (M (c + 4) (Int.toNat (M (c + 2) 11)))) (c + 6) (Int.toNat ((gUp M (c + 2) 12 (M (c + 4) (Int.toNat (M (c + 2) 11)))) (c + 2) 11)))) (c + 8) (Int.toNat ((gUp (gUp M (c + 2) 12 (M (c + 4) (Int.toNat (M (c + 2) 11)))) (c + 2) 13 ((gUp M (c + 2) 12 (M (c + 4) (Int.toNat (M (c + 2) 11)))) (c + 6) (Int.toNat ((gUp M (c + 2) 12 (M (c + 4) (Int.toNat (M (c + 2) 11)))) (c + 2) 11)))) (c + 2) 11)) 0) (fun M6 => (k M6))))))))))) : wp l G y_Cn_becomeSyntaxError (gRm (d + 1)) true (kkV X k) false 0 [.val (gR G (c + 2))] [] X M 0 0 := by
  refine wp_aload_n d_Cn_becomeSyntaxError_0 rfl rfl (g_nz (gl_1 hX 2)) ?_
  refine wp_aload_n d_Cn_becomeSyntaxError_1 rfl rfl (g_nz (gl_1 hX 2)) ?_
  refine xgetR d_Cn_becomeSyntaxError_2 gc_Cn f_Cn_15.1 f_Cn_15.2.1 f_Cn_15.2.2.1 (gl_1 hX 2) (gl_2 hX (a := 2) (by decide)) (gl_s hX 2 rfl) f_Cn_15.2.2.2.2.1 (gl_f hX 3 rfl) ?_
  refine wp_aload_n d_Cn_becomeSyntaxError_5 rfl rfl (g_nz (gl_1 hX 2)) ?_
  refine xgetI d_Cn_becomeSyntaxError_6 gc_Cn f_Cn_47.1 f_Cn_47.2.1 f_Cn_47.2.2.1 (gl_1 hX 2) (gl_2 hX (a := 2) (by decide)) (gl_s hX 2 rfl) f_Cn_47.2.2.2.2.1 (fun h1 => ?_)
  have T := T h1
  refine wp_iaload d_Cn_becomeSyntaxError_9 (gl_1 hX 4) (gl_2 hX (a := 4) (by decide)) (gl_s hX 4 rfl) (g32_n T.1 (by decide)) T.1.1 T.1.2 (fun h2 => ?_)
  have T := T.2 h2
  refine xputI d_Cn_becomeSyntaxError_10 gc_Cn f_Cn_54.1 f_Cn_54.2.1 f_Cn_54.2.2.1 (gl_1 hX 2) (gl_2 hX (a := 2) (by decide)) (gl_s hX 2 rfl) f_Cn_54.2.2.2.1 f_Cn_54.2.2.2.2.1 f_Cn_54.2.2.2.2.2 (w32_id h2) ?_
  refine wp_aload_n d_Cn_becomeSyntaxError_13 rfl rfl (g_nz (gl_1 hX 2)) ?_
  refine wp_aload_n d_Cn_becomeSyntaxError_14 rfl rfl (g_nz (gl_1 hX 2)) ?_
  refine xgetR d_Cn_becomeSyntaxError_15 gc_Cn f_Cn_21.1 f_Cn_21.2.1 f_Cn_21.2.2.1 (gl_1 hX 2) (gl_2 hX (a := 2) (by decide)) (gl_s hX 2 rfl) f_Cn_21.2.2.2.2.1 (gl_f hX 5 rfl) ?_
  refine wp_aload_n d_Cn_becomeSyntaxError_18 rfl rfl (g_nz (gl_1 hX 2)) ?_
  refine xgetI d_Cn_becomeSyntaxError_19 gc_Cn f_Cn_47.1 f_Cn_47.2.1 f_Cn_47.2.2.1 (gl_1 hX 2) (gl_2 hX (a := 2) (by decide)) (gl_s hX 2 rfl) f_Cn_47.2.2.2.2.1 (fun h3 => ?_)
  have T := T h3
  refine wp_iaload d_Cn_becomeSyntaxError_22 (gl_1 hX 6) (gl_2 hX (a := 6) (by decide)) (gl_s hX 6 rfl) (g32_n T.1 (by decide)) T.1.1 T.1.2 (fun h4 => ?_)
  have T := T.2 h4
  refine xputI d_Cn_becomeSyntaxError_23 gc_Cn f_Cn_57.1 f_Cn_57.2.1 f_Cn_57.2.2.1 (gl_1 hX 2) (gl_2 hX (a := 2) (by decide)) (gl_s hX 2 rfl) f_Cn_57.2.2.2.1 f_Cn_57.2.2.2.2.1 f_Cn_57.2.2.2.2.2 (w32_id h4) ?_
  refine wp_aload_n d_Cn_becomeSyntaxError_26 rfl rfl (g_nz (gl_1 hX 2)) ?_
  refine xgetR d_Cn_becomeSyntaxError_27 gc_Cn f_Cn_27.1 f_Cn_27.2.1 f_Cn_27.2.2.1 (gl_1 hX 2) (gl_2 hX (a := 2) (by decide)) (gl_s hX 2 rfl) f_Cn_27.2.2.2.2.1 (gl_f hX 7 rfl) ?_
  refine wp_aload_n d_Cn_becomeSyntaxError_30 rfl rfl (g_nz (gl_1 hX 2)) ?_
  refine xgetI d_Cn_becomeSyntaxError_31 gc_Cn f_Cn_47.1 f_Cn_47.2.1 f_Cn_47.2.2.1 (gl_1 hX 2) (gl_2 hX (a := 2) (by decide)) (gl_s hX 2 rfl) f_Cn_47.2.2.2.2.1 (fun h5 => ?_)
  have T := T h5
  refine wp_iconst d_Cn_becomeSyntaxError_34 ?_
  refine xiast d_Cn_becomeSyntaxError_35 (gl_1 hX 8) (gl_2 hX (a := 8) (by decide)) (gl_s hX 8 rfl) (by decide) T.1 (w32_id (g32_c (x := 0) rfl)) ?_
  have T := T.2
  refine wp_aload_n d_Cn_becomeSyntaxError_36 rfl rfl (g_nz (gl_1 hX 2)) ?_
  refine wp_iconst d_Cn_becomeSyntaxError_37 ?_
  refine wp_lconst1 d_Cn_becomeSyntaxError_38 ?_
  refine xcV_V (md' := true) (As := [gI 3, gL 1]) (st := []) d_Cn_becomeSyntaxError_39 ca_Cn_emit ml_Cn_74 im_Cn_emit se_Cn_emit gc_Cn (gl_1 hX 2) (gl_2 hX (a := 2) (by decide)) (gl_s hX 2 rfl) rfl (by decide) (by decide) rfl (fun _ => rfl) (fun _ => rfl) T (fun M6 T => ?_)
  exact wp_return d_Cn_becomeSyntaxError_42 rfl (fun _ => rfl) (Nat.zero_le _) (Nat.zero_le _) (kV_mk T)
theorem e_Cn_becomeSyntaxError {l : Launch} {G : gG} {d : Nat} {X : gX} {M : gM} {k : gM → Prop} {c : Nat} (T : wp l G y_Cn_becomeSyntaxError (gRm (d + 1)) true (kkV X k) false 0 [.val (gR G (c + 2))] [] X M 0 0) : cV l G y_Cn_becomeSyntaxError (gRm (d + 1)) true [gR G (c + 2)] X M k := cen_V (plainFor_of_name rfl) (by simp only [lg_sl_R, lg_sl_I, lg_sl_L, lg_sl_N, List.length_cons, List.length_nil]; decide) (by unfold gEn; simp only [lg_sl_R, lg_sl_I, lg_sl_L, lg_sl_N]; exact wpt T (And.intro rfl True.intro))
theorem d_Ed_replaced_0 : decode prog_5_method_3_code 0 = .ok (.aload_n 0, 1) := by decide +kernel
theorem d_Ed_replaced_1 : decode prog_5_method_3_code 1 = .ok (.getfield 15, 3) := by decide +kernel
theorem d_Ed_replaced_4 : decode prog_5_method_3_code 4 = .ok (.getfield 32, 3) := by decide +kernel
theorem d_Ed_replaced_7 : decode prog_5_method_3_code 7 = .ok (.aload_n 0, 1) := by decide +kernel
theorem d_Ed_replaced_8 : decode prog_5_method_3_code 8 = .ok (.getfield 15, 3) := by decide +kernel
theorem d_Ed_replaced_11 : decode prog_5_method_3_code 11 = .ok (.getfield 37, 3) := by decide +kernel
theorem d_Ed_replaced_14 : decode prog_5_method_3_code 14 = .ok (.iload_n 2, 1) := by decide +kernel
theorem d_Ed_replaced_15 : decode prog_5_method_3_code 15 = .ok (.iaload, 1) := by decide +kernel
theorem d_Ed_replaced_16 : decode prog_5_method_3_code 16 = .ok (.aload_n 0, 1) := by decide +kernel
theorem d_Ed_replaced_17 : decode prog_5_method_3_code 17 = .ok (.getfield 9, 3) := by decide +kernel
theorem d_Ed_replaced_20 : decode prog_5_method_3_code 20 = .ok (.iconst 0, 1) := by decide +kernel
theorem d_Ed_replaced_21 : decode prog_5_method_3_code 21 = .ok (.aload_n 0, 1) := by decide +kernel
theorem d_Ed_replaced_22 : decode prog_5_method_3_code 22 = .ok (.getfield 15, 3) := by decide +kernel
theorem d_Ed_replaced_25 : decode prog_5_method_3_code 25 = .ok (.getfield 40, 3) := by decide +kernel
theorem d_Ed_replaced_28 : decode prog_5_method_3_code 28 = .ok (.iload_n 2, 1) := by decide +kernel
theorem d_Ed_replaced_29 : decode prog_5_method_3_code 29 = .ok (.iaload, 1) := by decide +kernel
theorem d_Ed_replaced_30 : decode prog_5_method_3_code 30 = .ok (.invokestatic 43, 3) := by decide +kernel
theorem d_Ed_replaced_33 : decode prog_5_method_3_code 33 = .ok (.iload_n 1, 1) := by decide +kernel
theorem d_Ed_replaced_34 : decode prog_5_method_3_code 34 = .ok (.bipush 26, 2) := by decide +kernel
theorem d_Ed_replaced_36 : decode prog_5_method_3_code 36 = .ok (.irem, 1) := by decide +kernel
theorem d_Ed_replaced_37 : decode prog_5_method_3_code 37 = .ok (.istore_n 3, 1) := by decide +kernel
theorem d_Ed_replaced_38 : decode prog_5_method_3_code 38 = .ok (.iload_n 1, 1) := by decide +kernel
theorem d_Ed_replaced_39 : decode prog_5_method_3_code 39 = .ok (.bipush 26, 2) := by decide +kernel
theorem d_Ed_replaced_41 : decode prog_5_method_3_code 41 = .ok (.idiv, 1) := by decide +kernel
theorem d_Ed_replaced_42 : decode prog_5_method_3_code 42 = .ok (.istore 4, 2) := by decide +kernel
theorem d_Ed_replaced_44 : decode prog_5_method_3_code 44 = .ok (.aload_n 0, 1) := by decide +kernel
theorem d_Ed_replaced_45 : decode prog_5_method_3_code 45 = .ok (.iload_n 2, 1) := by decide +kernel
theorem d_Ed_replaced_46 : decode prog_5_method_3_code 46 = .ok (.iload_n 1, 1) := by decide +kernel
theorem d_Ed_replaced_47 : decode prog_5_method_3_code 47 = .ok (.iload_n 3, 1) := by decide +kernel
theorem d_Ed_replaced_48 : decode prog_5_method_3_code 48 = .ok (.iload 4, 2) := by decide +kernel
theorem d_Ed_replaced_50 : decode prog_5_method_3_code 50 = .ok (.iload_n 3, 1) := by decide +kernel
theorem d_Ed_replaced_51 : decode prog_5_method_3_code 51 = .ok (.iload 4, 2) := by decide +kernel
theorem d_Ed_replaced_53 : decode prog_5_method_3_code 53 = .ok (.invokevirtual 49, 3) := by decide +kernel
theorem d_Ed_replaced_56 : decode prog_5_method_3_code 56 = .ok (.ireturn, 1) := by decide +kernel
set_option maxHeartbeats 4000000 in
theorem w_Ed_replaced_0 {l : Launch} {G : gG} {d : Nat} {X : gX} {M : gM} {k : Int → gM → Prop} {c : Nat} (hX : glX X c) {x1 : Int} (hx1 : g32 x1) {x2 : Int} (hx2 : g32 x2)  (T : ((0 : Int) ≤ x2 ∧ x2 < 513) ∧ (g32 (M (c + 6) (Int.toNat x2)) → (((0 : Int) ≤ x2 ∧ x2 < 513) ∧ (g32 (M (c + 7) (Int.toNat x2)) → (((0 : Int) ≤ (M (c + 6) (Int.toNat x2)) ∧ (0 : Int) ≤ (0 : Int) ∧ (0 : Int) ≤ (M (c + 7) (Int.toNat x2)) ∧ (M (c + 6) (Int.toNat x2)) + (M (c + 7) (Int.toNat x2)) ≤ 10480 ∧ (0 : Int) + (M (c + 7) (Int.toNat x2)) ≤ 50) ∧ (cZ l G y_Ed_written (gRm d) true [gR G (c + 21), gI x2, gI x1, gI (x1.tmod 26), gI (x1.tdiv 26), gI (x1.tmod 26), gI (x1.tdiv 26)] X (gCp M (c + 22) (c + 11) (Int.toNat (M (c + 6) (Int.toNat x2))) (Int.toNat 0) (Int.toNat (M (c + 7) (Int.toNat x2)))) (fun v4 M3 => (k v4 M3)))))))) : wp l G y_Ed_replaced (gRm (d + 1)) true (kkZ X k) false 0 [.val (gR G (c + 21)), .val (gI x1), .val (gI x2), .unset, .unset] [] X M 0 0 := by
  refine wp_aload_n d_Ed_replaced_0 rfl rfl (g_nz (gl_1 hX 21)) ?_
  refine xgetR d_Ed_replaced_1 gc_Ed f_Ed_15.1 f_Ed_15.2.1 f_Ed_15.2.2.1 (gl_1 hX 21) (gl_2 hX (a := 21) (by decide)) (gl_s hX 21 rfl) f_Ed_15.2.2.2.2.1 (gl_f hX 25 rfl) ?_
  refine xgetR d_Ed_replaced_4 gc_Cn f_Ed_32.1 f_Ed_32.2.1 f_Ed_32.2.2.1 (gl_1 hX 2) (gl_2 hX (a := 2) (by decide)) (gl_s hX 2 rfl) f_Ed_32.2.2.2.2.1 (gl_f hX 10 rfl) ?_
  refine wp_aload_n d_Ed_replaced_7 rfl rfl (g_nz (gl_1 hX 21)) ?_
  refine xgetR d_Ed_replaced_8 gc_Ed f_Ed_15.1 f_Ed_15.2.1 f_Ed_15.2.2.1 (gl_1 hX 21) (gl_2 hX (a := 21) (by decide)) (gl_s hX 21 rfl) f_Ed_15.2.2.2.2.1 (gl_f hX 25 rfl) ?_
  refine xgetR d_Ed_replaced_11 gc_Cn f_Ed_37.1 f_Ed_37.2.1 f_Ed_37.2.2.1 (gl_1 hX 2) (gl_2 hX (a := 2) (by decide)) (gl_s hX 2 rfl) f_Ed_37.2.2.2.2.1 (gl_f hX 5 rfl) ?_
  refine wp_iload_n d_Ed_replaced_14 rfl rfl ?_
  refine wp_iaload d_Ed_replaced_15 (gl_1 hX 6) (gl_2 hX (a := 6) (by decide)) (gl_s hX 6 rfl) (g32_n T.1 (by decide)) T.1.1 T.1.2 (fun h1 => ?_)
  have T := T.2 h1
  refine wp_aload_n d_Ed_replaced_16 rfl rfl (g_nz (gl_1 hX 21)) ?_
  refine xgetR d_Ed_replaced_17 gc_Ed f_Ed_9.1 f_Ed_9.2.1 f_Ed_9.2.2.1 (gl_1 hX 21) (gl_2 hX (a := 21) (by decide)) (gl_s hX 21 rfl) f_Ed_9.2.2.2.2.1 (gl_f hX 24 rfl) ?_
  refine wp_iconst d_Ed_replaced_20 ?_
  refine wp_aload_n d_Ed_replaced_21 rfl rfl (g_nz (gl_1 hX 21)) ?_
  refine xgetR d_Ed_replaced_22 gc_Ed f_Ed_15.1 f_Ed_15.2.1 f_Ed_15.2.2.1 (gl_1 hX 21) (gl_2 hX (a := 21) (by decide)) (gl_s hX 21 rfl) f_Ed_15.2.2.2.2.1 (gl_f hX 25 rfl) ?_
  refine xgetR d_Ed_replaced_25 gc_Cn f_Ed_40.1 f_Ed_40.2.1 f_Ed_40.2.2.1 (gl_1 hX 2) (gl_2 hX (a := 2) (by decide)) (gl_s hX 2 rfl) f_Ed_40.2.2.2.2.1 (gl_f hX 6 rfl) ?_
  refine wp_iload_n d_Ed_replaced_28 rfl rfl ?_
  refine wp_iaload d_Ed_replaced_29 (gl_1 hX 7) (gl_2 hX (a := 7) (by decide)) (gl_s hX 7 rfl) (g32_n T.1 (by decide)) T.1.1 T.1.2 (fun h2 => ?_)
  have T := T.2 h2
  refine wp_copy (a := c + 22) (a0 := c + 11) d_Ed_replaced_30 ml_Ed_43 na_arraycopy sm_arraycopy in_System (by decide) (gl_1 hX 11) (gl_2 hX (a := 11) (by decide)) (gl_s hX 11 rfl) (gl_1 hX 22) (gl_2 hX (a := 22) (by decide)) (gl_s hX 22 rfl) (by decide) (by decide) T.1 (g_cpfr d) (g_cplo d) ?_
  have T := T.2
  refine wp_iload_n d_Ed_replaced_33 rfl rfl ?_
  refine wp_bipush d_Ed_replaced_34 ⟨by decide, by decide⟩ ?_
  refine xirem d_Ed_replaced_36 (w32_id hx1) (w32_id (g32_c (x := 26) rfl)) (by decide) ?_
  refine wp_istore_n (L' := [.val (gR G (c + 21)), .val (gI x1), .val (gI x2), .val (gI (x1.tmod 26)), .unset]) d_Ed_replaced_37 rfl (by decide) rfl ?_
  refine wp_iload_n d_Ed_replaced_38 rfl rfl ?_
  refine wp_bipush d_Ed_replaced_39 ⟨by decide, by decide⟩ ?_
  refine xidiv d_Ed_replaced_41 (w32_id hx1) (w32_id (g32_c (x := 26) rfl)) (by decide) ?_
  refine wp_istore (L' := [.val (gR G (c + 21)), .val (gI x1), .val (gI x2), .val (gI (x1.tmod 26)), .val (gI (x1.tdiv 26))]) d_Ed_replaced_42 (by decide) rfl ?_
  refine wp_aload_n d_Ed_replaced_44 rfl rfl (g_nz (gl_1 hX 21)) ?_
  refine wp_iload_n d_Ed_replaced_45 rfl rfl ?_
  refine wp_iload_n d_Ed_replaced_46 rfl rfl ?_
  refine wp_iload_n d_Ed_replaced_47 rfl rfl ?_
  refine wp_iload d_Ed_replaced_48 rfl ?_
  refine wp_iload_n d_Ed_replaced_50 rfl rfl ?_
  refine wp_iload d_Ed_replaced_51 rfl ?_
  refine xcV_Z (md' := true) (As := [gI x2, gI x1, gI (x1.tmod 26), gI (x1.tdiv 26), gI (x1.tmod 26), gI (x1.tdiv 26)]) (st := []) d_Ed_replaced_53 ca_Ed_written ml_Ed_49 im_Ed_written se_Ed_written gc_Ed (gl_1 hX 21) (gl_2 hX (a := 21) (by decide)) (gl_s hX 21 rfl) rfl (by decide) (by decide) rfl (fun _ => rfl) (fun _ => rfl) T (fun v4 M3 h5 T => ?_)
  exact wp_zreturn d_Ed_replaced_56 rfl (g_narz h5) (fun _ => rfl) (Nat.zero_le _) (Nat.zero_le _) (kZ_mk h5 T)
theorem e_Ed_replaced {l : Launch} {G : gG} {d : Nat} {X : gX} {M : gM} {k : Int → gM → Prop} {c : Nat} {x1 : Int} {x2 : Int} (T : wp l G y_Ed_replaced (gRm (d + 1)) true (kkZ X k) false 0 [.val (gR G (c + 21)), .val (gI x1), .val (gI x2), .unset, .unset] [] X M 0 0) : cZ l G y_Ed_replaced (gRm (d + 1)) true [gR G (c + 21), gI x1, gI x2] X M k := cen_Z (plainFor_of_name rfl) (by simp only [lg_sl_R, lg_sl_I, lg_sl_L, lg_sl_N, List.length_cons, List.length_nil]; decide) (by unfold gEn; simp only [lg_sl_R, lg_sl_I, lg_sl_L, lg_sl_N]; exact wpt T (And.intro rfl (And.intro rfl (And.intro rfl True.intro))))
theorem d_Ed_filled_0 : decode prog_5_method_4_code 0 = .ok (.aload_n 0, 1) := by decide +kernel
theorem d_Ed_filled_1 : decode prog_5_method_4_code 1 = .ok (.getfield 19, 3) := by decide +kernel
theorem d_Ed_filled_4 : decode prog_5_method_4_code 4 = .ok (.iload_n 1, 1) := by decide +kernel
theorem d_Ed_filled_5 : decode prog_5_method_4_code 5 = .ok (.invokevirtual 53, 3) := by decide +kernel
theorem d_Ed_filled_8 : decode prog_5_method_4_code 8 = .ok (.istore 6, 2) := by decide +kernel
theorem d_Ed_filled_10 : decode prog_5_method_4_code 10 = .ok (.iconst 0, 1) := by decide +kernel
theorem d_Ed_filled_11 : decode prog_5_method_4_code 11 = .ok (.istore 7, 2) := by decide +kernel
theorem d_Ed_filled_13 : decode prog_5_method_4_code 13 = .ok (.iload 6, 2) := by decide +kernel
theorem d_Ed_filled_15 : decode prog_5_method_4_code 15 = .ok (.aload_n 0, 1) := by decide +kernel
theorem d_Ed_filled_16 : decode prog_5_method_4_code 16 = .ok (.getfield 19, 3) := by decide +kernel
theorem d_Ed_filled_19 : decode prog_5_method_4_code 19 = .ok (.getfield 26, 3) := by decide +kernel
theorem d_Ed_filled_22 : decode prog_5_method_4_code 22 = .ok (.if_icmp .ge 63, 3) := by decide +kernel
theorem d_Ed_filled_85 : decode prog_5_method_4_code 85 = .ok (.aload_n 0, 1) := by decide +kernel
theorem d_Ed_filled_86 : decode prog_5_method_4_code 86 = .ok (.iload 7, 2) := by decide +kernel
theorem d_Ed_filled_88 : decode prog_5_method_4_code 88 = .ok (.iload_n 1, 1) := by decide +kernel
theorem d_Ed_filled_89 : decode prog_5_method_4_code 89 = .ok (.iload_n 2, 1) := by decide +kernel
theorem d_Ed_filled_90 : decode prog_5_method_4_code 90 = .ok (.iload_n 3, 1) := by decide +kernel
theorem d_Ed_filled_91 : decode prog_5_method_4_code 91 = .ok (.iload 4, 2) := by decide +kernel
theorem d_Ed_filled_93 : decode prog_5_method_4_code 93 = .ok (.iload 5, 2) := by decide +kernel
theorem d_Ed_filled_95 : decode prog_5_method_4_code 95 = .ok (.invokevirtual 49, 3) := by decide +kernel
theorem d_Ed_filled_98 : decode prog_5_method_4_code 98 = .ok (.ireturn, 1) := by decide +kernel
theorem d_Ed_filled_25 : decode prog_5_method_4_code 25 = .ok (.aload_n 0, 1) := by decide +kernel
theorem d_Ed_filled_26 : decode prog_5_method_4_code 26 = .ok (.getfield 19, 3) := by decide +kernel
theorem d_Ed_filled_29 : decode prog_5_method_4_code 29 = .ok (.getfield 57, 3) := by decide +kernel
theorem d_Ed_filled_32 : decode prog_5_method_4_code 32 = .ok (.iload 6, 2) := by decide +kernel
theorem d_Ed_filled_34 : decode prog_5_method_4_code 34 = .ok (.iaload, 1) := by decide +kernel
theorem d_Ed_filled_35 : decode prog_5_method_4_code 35 = .ok (.iload_n 1, 1) := by decide +kernel
theorem d_Ed_filled_36 : decode prog_5_method_4_code 36 = .ok (.if_icmp .ne 49, 3) := by decide +kernel
theorem d_Ed_filled_39 : decode prog_5_method_4_code 39 = .ok (.aload_n 0, 1) := by decide +kernel
theorem d_Ed_filled_40 : decode prog_5_method_4_code 40 = .ok (.getfield 19, 3) := by decide +kernel
theorem d_Ed_filled_43 : decode prog_5_method_4_code 43 = .ok (.getfield 60, 3) := by decide +kernel
theorem d_Ed_filled_46 : decode prog_5_method_4_code 46 = .ok (.iload 6, 2) := by decide +kernel
theorem d_Ed_filled_48 : decode prog_5_method_4_code 48 = .ok (.iaload, 1) := by decide +kernel
theorem d_Ed_filled_49 : decode prog_5_method_4_code 49 = .ok (.istore 7, 2) := by decide +kernel
theorem d_Ed_filled_51 : decode prog_5_method_4_code 51 = .ok (.aload_n 0, 1) := by decide +kernel
theorem d_Ed_filled_52 : decode prog_5_method_4_code 52 = .ok (.getfield 19, 3) := by decide +kernel
theorem d_Ed_filled_55 : decode prog_5_method_4_code 55 = .ok (.getfield 63, 3) := by decide +kernel
theorem d_Ed_filled_58 : decode prog_5_method_4_code 58 = .ok (.aload_n 0, 1) := by decide +kernel
theorem d_Ed_filled_59 : decode prog_5_method_4_code 59 = .ok (.getfield 19, 3) := by decide +kernel
theorem d_Ed_filled_62 : decode prog_5_method_4_code 62 = .ok (.getfield 64, 3) := by decide +kernel
theorem d_Ed_filled_65 : decode prog_5_method_4_code 65 = .ok (.iload 6, 2) := by decide +kernel
theorem d_Ed_filled_67 : decode prog_5_method_4_code 67 = .ok (.iaload, 1) := by decide +kernel
theorem d_Ed_filled_68 : decode prog_5_method_4_code 68 = .ok (.aload_n 0, 1) := by decide +kernel
theorem d_Ed_filled_69 : decode prog_5_method_4_code 69 = .ok (.getfield 9, 3) := by decide +kernel
theorem d_Ed_filled_72 : decode prog_5_method_4_code 72 = .ok (.iconst 0, 1) := by decide +kernel
theorem d_Ed_filled_73 : decode prog_5_method_4_code 73 = .ok (.aload_n 0, 1) := by decide +kernel
theorem d_Ed_filled_74 : decode prog_5_method_4_code 74 = .ok (.getfield 19, 3) := by decide +kernel
theorem d_Ed_filled_77 : decode prog_5_method_4_code 77 = .ok (.iload 6, 2) := by decide +kernel
theorem d_Ed_filled_79 : decode prog_5_method_4_code 79 = .ok (.invokevirtual 67, 3) := by decide +kernel
theorem d_Ed_filled_82 : decode prog_5_method_4_code 82 = .ok (.invokestatic 43, 3) := by decide +kernel
set_option maxHeartbeats 4000000 in
theorem w_Ed_filled_0 {l : Launch} {G : gG} {d : Nat} {X : gX} {M : gM} {k : Int → gM → Prop} {c : Nat} (hX : glX X c) {x1 : Int} (hx1 : g32 x1) {x2 : Int} (hx2 : g32 x2) {x3 : Int} (hx3 : g32 x3) {x4 : Int} (hx4 : g32 x4) {x5 : Int} (hx5 : g32 x5) {s2 : Nat} (hs2 : X.2.2 (c + 21) 2 = s2 ∧ gsX X s2) (T : cI l G y_St_entryFrom (gRm d) false [gR G s2, gI x1] X M (fun v2 M1 => (g32 (M1 s2 0) → ((M1 s2 0 ≤ v2 → (cZ l G y_Ed_written (gRm d) true [gR G (c + 21), gI 0, gI x1, gI x2, gI x3, gI x4, gI x5] X M1 (fun v6 M5 => (k v6 M5)))) ∧ (¬ M1 s2 0 ≤ v2 → (((0 : Int) ≤ v2 ∧ v2 < 400) ∧ (g32 (M1 (s2 + 1) (Int.toNat v2)) → ((¬ M1 (s2 + 1) (Int.toNat v2) = x1 → (cZ l G y_Ed_written (gRm d) true [gR G (c + 21), gI 0, gI x1, gI x2, gI x3, gI x4, gI x5] X M1 (fun v10 M9 => (k v10 M9)))) ∧ (M1 (s2 + 1) (Int.toNat v2) = x1 → (((0 : Int) ≤ v2 ∧ v2 < 400) ∧ (g32 (M1 (s2 + 2) (Int.toNat v2)) → (((0 : Int) ≤ v2 ∧ v2 < 401) ∧ (g32 (M1 (s2 + 3) (Int.toNat v2)) → (cI l G y_St_refs (gRm d) false [gR G s2, gI v2] X M1 (fun v15 M14 => (((0 : Int) ≤ (M1 (s2 + 3) (Int.toNat v2)) ∧ (0 : Int) ≤ (0 : Int) ∧ (0 : Int) ≤ v15 ∧ (M1 (s2 + 3) (Int.toNat v2)) + v15 ≤ 20000 ∧ (0 : Int) + v15 ≤ 50) ∧ (cZ l G y_Ed_written (gRm d) true [gR G (c + 21), gI (M1 (s2 + 2) (Int.toNat v2)), gI x1, gI x2, gI x3, gI x4, gI x5] X (gCp M14 (c + 22) (s2 + 4) (Int.toNat (M1 (s2 + 3) (Int.toNat v2))) (Int.toNat 0) (Int.toNat v15)) (fun v18 M17 => (k v18 M17))))))))))))))))))) : wp l G y_Ed_filled (gRm (d + 1)) true (kkZ X k) false 0 [.val (gR G (c + 21)), .val (gI x1), .val (gI x2), .val (gI x3), .val (gI x4), .val (gI x5), .unset, .unset] [] X M 0 0 := by
  refine wp_aload_n d_Ed_filled_0 rfl rfl (g_nz (gl_1 hX 21)) ?_
  refine xgetR d_Ed_filled_1 gc_Ed f_Ed_19.1 f_Ed_19.2.1 f_Ed_19.2.2.1 (gl_1 hX 21) (gl_2 hX (a := 21) (by decide)) (gl_s hX 21 rfl) f_Ed_19.2.2.2.2.1 hs2.1 ?_
  refine wp_iload_n d_Ed_filled_4 rfl rfl ?_
  refine xcV_I (md' := false) (As := [gI x1]) (st := []) d_Ed_filled_5 ca_St_entryFrom ml_Ed_53 im_St_entryFrom se_St_entryFrom gc_St hs2.2.1 (gs_2 hs2.2) hs2.2.2.2.1 rfl (by decide) (by decide) rfl id id T (fun v2 M1 h3 T => ?_)
  refine wp_istore (L' := [.val (gR G (c + 21)), .val (gI x1), .val (gI x2), .val (gI x3), .val (gI x4), .val (gI x5), .val (gI v2), .unset]) d_Ed_filled_8 (by decide) rfl ?_
  refine wp_iconst d_Ed_filled_10 ?_
  refine wp_istore (L' := [.val (gR G (c + 21)), .val (gI x1), .val (gI x2), .val (gI x3), .val (gI x4), .val (gI x5), .val (gI v2), .val (gI 0)]) d_Ed_filled_11 (by decide) rfl ?_
  refine wp_iload d_Ed_filled_13 rfl ?_
  refine wp_aload_n d_Ed_filled_15 rfl rfl (g_nz (gl_1 hX 21)) ?_
  refine xgetR d_Ed_filled_16 gc_Ed f_Ed_19.1 f_Ed_19.2.1 f_Ed_19.2.2.1 (gl_1 hX 21) (gl_2 hX (a := 21) (by decide)) (gl_s hX 21 rfl) f_Ed_19.2.2.2.2.1 hs2.1 ?_
  refine xgetI d_Ed_filled_19 gc_St f_Ed_26.1 f_Ed_26.2.1 f_Ed_26.2.2.1 hs2.2.1 (gs_2 hs2.2) hs2.2.2.2.1 f_Ed_26.2.2.2.2.1 (fun h4 => ?_)
  have T := T h4
  refine xi_ge (tgt := 85) d_Ed_filled_22 (by decide) (w32_id h3) (w32_id h4) (fun h21 => ?_) (fun h21 => ?_)
  · have T := T.1 h21
    refine wp_aload_n d_Ed_filled_85 rfl rfl (g_nz (gl_1 hX 21)) ?_
    refine wp_iload d_Ed_filled_86 rfl ?_
    refine wp_iload_n d_Ed_filled_88 rfl rfl ?_
    refine wp_iload_n d_Ed_filled_89 rfl rfl ?_
    refine wp_iload_n d_Ed_filled_90 rfl rfl ?_
    refine wp_iload d_Ed_filled_91 rfl ?_
    refine wp_iload d_Ed_filled_93 rfl ?_
    refine xcV_Z (md' := true) (As := [gI 0, gI x1, gI x2, gI x3, gI x4, gI x5]) (st := []) d_Ed_filled_95 ca_Ed_written ml_Ed_49 im_Ed_written se_Ed_written gc_Ed (gl_1 hX 21) (gl_2 hX (a := 21) (by decide)) (gl_s hX 21 rfl) rfl (by decide) (by decide) rfl (fun _ => rfl) (fun _ => rfl) T (fun v6 M5 h7 T => ?_)
    exact wp_zreturn d_Ed_filled_98 rfl (g_narz h7) (fun _ => rfl) (Nat.zero_le _) (Nat.zero_le _) (kZ_mk h7 T)
  · have T := T.2 h21
    refine wp_aload_n d_Ed_filled_25 rfl rfl (g_nz (gl_1 hX 21)) ?_
    refine xgetR d_Ed_filled_26 gc_Ed f_Ed_19.1 f_Ed_19.2.1 f_Ed_19.2.2.1 (gl_1 hX 21) (gl_2 hX (a := 21) (by decide)) (gl_s hX 21 rfl) f_Ed_19.2.2.2.2.1 hs2.1 ?_
    refine xgetR d_Ed_filled_29 gc_St f_Ed_57.1 f_Ed_57.2.1 f_Ed_57.2.2.1 hs2.2.1 (gs_2 hs2.2) hs2.2.2.2.1 f_Ed_57.2.2.2.2.1 (gs_r hs2.2 0 rfl).1 ?_
    refine wp_iload d_Ed_filled_32 rfl ?_
    refine wp_iaload d_Ed_filled_34 (gs_r hs2.2 0 rfl).2.2.1 (gs_r hs2.2 0 rfl).2.2.2 (gs_r hs2.2 0 rfl).2.1 (g32_n T.1 (by decide)) T.1.1 T.1.2 (fun h8 => ?_)
    have T := T.2 h8
    refine wp_iload_n d_Ed_filled_35 rfl rfl ?_
    refine xi_ne (tgt := 85) d_Ed_filled_36 (by decide) (w32_id h8) (w32_id hx1) (fun h20 => ?_) (fun h20 => ?_)
    · have T := T.1 h20
      refine wp_aload_n d_Ed_filled_85 rfl rfl (g_nz (gl_1 hX 21)) ?_
      refine wp_iload d_Ed_filled_86 rfl ?_
      refine wp_iload_n d_Ed_filled_88 rfl rfl ?_
      refine wp_iload_n d_Ed_filled_89 rfl rfl ?_
      refine wp_iload_n d_Ed_filled_90 rfl rfl ?_
      refine wp_iload d_Ed_filled_91 rfl ?_
      refine wp_iload d_Ed_filled_93 rfl ?_
      refine xcV_Z (md' := true) (As := [gI 0, gI x1, gI x2, gI x3, gI x4, gI x5]) (st := []) d_Ed_filled_95 ca_Ed_written ml_Ed_49 im_Ed_written se_Ed_written gc_Ed (gl_1 hX 21) (gl_2 hX (a := 21) (by decide)) (gl_s hX 21 rfl) rfl (by decide) (by decide) rfl (fun _ => rfl) (fun _ => rfl) T (fun v10 M9 h11 T => ?_)
      exact wp_zreturn d_Ed_filled_98 rfl (g_narz h11) (fun _ => rfl) (Nat.zero_le _) (Nat.zero_le _) (kZ_mk h11 T)
    · have T := T.2 h20
      refine wp_aload_n d_Ed_filled_39 rfl rfl (g_nz (gl_1 hX 21)) ?_
      refine xgetR d_Ed_filled_40 gc_Ed f_Ed_19.1 f_Ed_19.2.1 f_Ed_19.2.2.1 (gl_1 hX 21) (gl_2 hX (a := 21) (by decide)) (gl_s hX 21 rfl) f_Ed_19.2.2.2.2.1 hs2.1 ?_
      refine xgetR d_Ed_filled_43 gc_St f_Ed_60.1 f_Ed_60.2.1 f_Ed_60.2.2.1 hs2.2.1 (gs_2 hs2.2) hs2.2.2.2.1 f_Ed_60.2.2.2.2.1 (gs_r hs2.2 1 rfl).1 ?_
      refine wp_iload d_Ed_filled_46 rfl ?_
      refine wp_iaload d_Ed_filled_48 (gs_r hs2.2 1 rfl).2.2.1 (gs_r hs2.2 1 rfl).2.2.2 (gs_r hs2.2 1 rfl).2.1 (g32_n T.1 (by decide)) T.1.1 T.1.2 (fun h12 => ?_)
      have T := T.2 h12
      refine wp_istore (L' := [.val (gR G (c + 21)), .val (gI x1), .val (gI x2), .val (gI x3), .val (gI x4), .val (gI x5), .val (gI v2), .val (gI (M1 (s2 + 2) (Int.toNat v2)))]) d_Ed_filled_49 (by decide) rfl ?_
      refine wp_aload_n d_Ed_filled_51 rfl rfl (g_nz (gl_1 hX 21)) ?_
      refine xgetR d_Ed_filled_52 gc_Ed f_Ed_19.1 f_Ed_19.2.1 f_Ed_19.2.2.1 (gl_1 hX 21) (gl_2 hX (a := 21) (by decide)) (gl_s hX 21 rfl) f_Ed_19.2.2.2.2.1 hs2.1 ?_
      refine xgetR d_Ed_filled_55 gc_St f_Ed_63.1 f_Ed_63.2.1 f_Ed_63.2.2.1 hs2.2.1 (gs_2 hs2.2) hs2.2.2.2.1 f_Ed_63.2.2.2.2.1 (gs_r hs2.2 3 rfl).1 ?_
      refine wp_aload_n d_Ed_filled_58 rfl rfl (g_nz (gl_1 hX 21)) ?_
      refine xgetR d_Ed_filled_59 gc_Ed f_Ed_19.1 f_Ed_19.2.1 f_Ed_19.2.2.1 (gl_1 hX 21) (gl_2 hX (a := 21) (by decide)) (gl_s hX 21 rfl) f_Ed_19.2.2.2.2.1 hs2.1 ?_
      refine xgetR d_Ed_filled_62 gc_St f_Ed_64.1 f_Ed_64.2.1 f_Ed_64.2.2.1 hs2.2.1 (gs_2 hs2.2) hs2.2.2.2.1 f_Ed_64.2.2.2.2.1 (gs_r hs2.2 2 rfl).1 ?_
      refine wp_iload d_Ed_filled_65 rfl ?_
      refine wp_iaload d_Ed_filled_67 (gs_r hs2.2 2 rfl).2.2.1 (gs_r hs2.2 2 rfl).2.2.2 (gs_r hs2.2 2 rfl).2.1 (g32_n T.1 (by decide)) T.1.1 T.1.2 (fun h13 => ?_)
      have T := T.2 h13
      refine wp_aload_n d_Ed_filled_68 rfl rfl (g_nz (gl_1 hX 21)) ?_
      refine xgetR d_Ed_filled_69 gc_Ed f_Ed_9.1 f_Ed_9.2.1 f_Ed_9.2.2.1 (gl_1 hX 21) (gl_2 hX (a := 21) (by decide)) (gl_s hX 21 rfl) f_Ed_9.2.2.2.2.1 (gl_f hX 24 rfl) ?_
      refine wp_iconst d_Ed_filled_72 ?_
      refine wp_aload_n d_Ed_filled_73 rfl rfl (g_nz (gl_1 hX 21)) ?_
      refine xgetR d_Ed_filled_74 gc_Ed f_Ed_19.1 f_Ed_19.2.1 f_Ed_19.2.2.1 (gl_1 hX 21) (gl_2 hX (a := 21) (by decide)) (gl_s hX 21 rfl) f_Ed_19.2.2.2.2.1 hs2.1 ?_
      refine wp_iload d_Ed_filled_77 rfl ?_
      refine xcV_I (md' := false) (As := [gI v2]) (st := [gI 0, gR G (c + 22), gI (M1 (s2 + 3) (Int.toNat v2)), gR G (s2 + 4)]) d_Ed_filled_79 ca_St_refs ml_Ed_67 im_St_refs se_St_refs gc_St hs2.2.1 (gs_2 hs2.2) hs2.2.2.2.1 rfl (by decide) (by simp only [List.map, gR_cat, gI_cat, gL_cat, List.sum_cons, List.sum_nil]; decide) rfl id id T (fun v15 M14 h16 T => ?_)
      refine wp_copy (a := c + 22) (a0 := s2 + 4) d_Ed_filled_82 ml_Ed_43 na_arraycopy sm_arraycopy in_System (by decide) (gs_r hs2.2 3 rfl).2.2.1 (gs_r hs2.2 3 rfl).2.2.2 (gs_r hs2.2 3 rfl).2.1 (gl_1 hX 22) (gl_2 hX (a := 22) (by decide)) (gl_s hX 22 rfl) (by decide) (by decide) T.1 (g_cpfr d) (g_cplo d) ?_
      have T := T.2
      refine wp_aload_n d_Ed_filled_85 rfl rfl (g_nz (gl_1 hX 21)) ?_
      refine wp_iload d_Ed_filled_86 rfl ?_
      refine wp_iload_n d_Ed_filled_88 rfl rfl ?_
      refine wp_iload_n d_Ed_filled_89 rfl rfl ?_
      refine wp_iload_n d_Ed_filled_90 rfl rfl ?_
      refine wp_iload d_Ed_filled_91 rfl ?_
      refine wp_iload d_Ed_filled_93 rfl ?_
      refine xcV_Z (md' := true) (As := [gI (M1 (s2 + 2) (Int.toNat v2)), gI x1, gI x2, gI x3, gI x4, gI x5]) (st := []) d_Ed_filled_95 ca_Ed_written ml_Ed_49 im_Ed_written se_Ed_written gc_Ed (gl_1 hX 21) (gl_2 hX (a := 21) (by decide)) (gl_s hX 21 rfl) rfl (by decide) (by decide) rfl (fun _ => rfl) (fun _ => rfl) T (fun v18 M17 h19 T => ?_)
      exact wp_zreturn d_Ed_filled_98 rfl (g_narz h19) (fun _ => rfl) (Nat.zero_le _) (Nat.zero_le _) (kZ_mk h19 T)
theorem e_Ed_filled {l : Launch} {G : gG} {d : Nat} {X : gX} {M : gM} {k : Int → gM → Prop} {c : Nat} {x1 : Int} {x2 : Int} {x3 : Int} {x4 : Int} {x5 : Int} (T : wp l G y_Ed_filled (gRm (d + 1)) true (kkZ X k) false 0 [.val (gR G (c + 21)), .val (gI x1), .val (gI x2), .val (gI x3), .val (gI x4), .val (gI x5), .unset, .unset] [] X M 0 0) : cZ l G y_Ed_filled (gRm (d + 1)) true [gR G (c + 21), gI x1, gI x2, gI x3, gI x4, gI x5] X M k := cen_Z (plainFor_of_name rfl) (by simp only [lg_sl_R, lg_sl_I, lg_sl_L, lg_sl_N, List.length_cons, List.length_nil]; decide) (by unfold gEn; simp only [lg_sl_R, lg_sl_I, lg_sl_L, lg_sl_N]; exact wpt T (And.intro rfl (And.intro rfl (And.intro rfl (And.intro rfl (And.intro rfl (And.intro rfl True.intro)))))))
theorem d_Ed_written_0 : decode prog_5_method_5_code 0 = .ok (.iconst 0, 1) := by decide +kernel
theorem d_Ed_written_1 : decode prog_5_method_5_code 1 = .ok (.istore 7, 2) := by decide +kernel
theorem d_Ed_written_3 : decode prog_5_method_5_code 3 = .ok (.iload 4, 2) := by decide +kernel
theorem d_Ed_written_5 : decode prog_5_method_5_code 5 = .ok (.istore 8, 2) := by decide +kernel
theorem d_Ed_written_7 : decode prog_5_method_5_code 7 = .ok (.iload 8, 2) := by decide +kernel
theorem d_Ed_written_9 : decode prog_5_method_5_code 9 = .ok (.iload 6, 2) := by decide +kernel
theorem d_Ed_written_11 : decode prog_5_method_5_code 11 = .ok (.if_icmp .gt 119, 3) := by decide +kernel
theorem d_Ed_written_130 : decode prog_5_method_5_code 130 = .ok (.aload_n 0, 1) := by decide +kernel
theorem d_Ed_written_131 : decode prog_5_method_5_code 131 = .ok (.getfield 23, 3) := by decide +kernel
theorem d_Ed_written_134 : decode prog_5_method_5_code 134 = .ok (.aload_n 0, 1) := by decide +kernel
theorem d_Ed_written_135 : decode prog_5_method_5_code 135 = .ok (.getfield 19, 3) := by decide +kernel
theorem d_Ed_written_138 : decode prog_5_method_5_code 138 = .ok (.iload 7, 2) := by decide +kernel
theorem d_Ed_written_140 : decode prog_5_method_5_code 140 = .ok (.aload_n 0, 1) := by decide +kernel
theorem d_Ed_written_141 : decode prog_5_method_5_code 141 = .ok (.getfield 19, 3) := by decide +kernel
theorem d_Ed_written_144 : decode prog_5_method_5_code 144 = .ok (.getfield 26, 3) := by decide +kernel
theorem d_Ed_written_147 : decode prog_5_method_5_code 147 = .ok (.invokevirtual 72, 3) := by decide +kernel
theorem d_Ed_written_150 : decode prog_5_method_5_code 150 = .ok (.ifCond .eq 14, 3) := by decide +kernel
theorem d_Ed_written_164 : decode prog_5_method_5_code 164 = .ok (.iconst 0, 1) := by decide +kernel
theorem d_Ed_written_165 : decode prog_5_method_5_code 165 = .ok (.ireturn, 1) := by decide +kernel
theorem d_Ed_written_153 : decode prog_5_method_5_code 153 = .ok (.aload_n 0, 1) := by decide +kernel
theorem d_Ed_written_154 : decode prog_5_method_5_code 154 = .ok (.invokevirtual 80, 3) := by decide +kernel
theorem d_Ed_written_157 : decode prog_5_method_5_code 157 = .ok (.ifCond .eq 7, 3) := by decide +kernel
theorem d_Ed_written_160 : decode prog_5_method_5_code 160 = .ok (.iconst 1, 1) := by decide +kernel
theorem d_Ed_written_161 : decode prog_5_method_5_code 161 = .ok (.goto 4, 3) := by decide +kernel
theorem d_Ed_written_14 : decode prog_5_method_5_code 14 = .ok (.aload_n 0, 1) := by decide +kernel
theorem d_Ed_written_15 : decode prog_5_method_5_code 15 = .ok (.getfield 23, 3) := by decide +kernel
theorem d_Ed_written_18 : decode prog_5_method_5_code 18 = .ok (.aload_n 0, 1) := by decide +kernel
theorem d_Ed_written_19 : decode prog_5_method_5_code 19 = .ok (.getfield 19, 3) := by decide +kernel
theorem d_Ed_written_22 : decode prog_5_method_5_code 22 = .ok (.iload 7, 2) := by decide +kernel
theorem d_Ed_written_24 : decode prog_5_method_5_code 24 = .ok (.aload_n 0, 1) := by decide +kernel
theorem d_Ed_written_25 : decode prog_5_method_5_code 25 = .ok (.getfield 19, 3) := by decide +kernel
theorem d_Ed_written_28 : decode prog_5_method_5_code 28 = .ok (.iload_n 3, 1) := by decide +kernel
theorem d_Ed_written_29 : decode prog_5_method_5_code 29 = .ok (.iload 8, 2) := by decide +kernel
theorem d_Ed_written_31 : decode prog_5_method_5_code 31 = .ok (.invokestatic 69, 3) := by decide +kernel
theorem d_Ed_written_34 : decode prog_5_method_5_code 34 = .ok (.invokevirtual 53, 3) := by decide +kernel
theorem d_Ed_written_37 : decode prog_5_method_5_code 37 = .ok (.invokevirtual 72, 3) := by decide +kernel
theorem d_Ed_written_40 : decode prog_5_method_5_code 40 = .ok (.ifCond .ne 5, 3) := by decide +kernel
theorem d_Ed_written_45 : decode prog_5_method_5_code 45 = .ok (.aload_n 0, 1) := by decide +kernel
theorem d_Ed_written_46 : decode prog_5_method_5_code 46 = .ok (.getfield 19, 3) := by decide +kernel
theorem d_Ed_written_49 : decode prog_5_method_5_code 49 = .ok (.iload 5, 2) := by decide +kernel
theorem d_Ed_written_51 : decode prog_5_method_5_code 51 = .ok (.iload 8, 2) := by decide +kernel
theorem d_Ed_written_53 : decode prog_5_method_5_code 53 = .ok (.invokestatic 69, 3) := by decide +kernel
theorem d_Ed_written_56 : decode prog_5_method_5_code 56 = .ok (.iconst 1, 1) := by decide +kernel
theorem d_Ed_written_57 : decode prog_5_method_5_code 57 = .ok (.iadd, 1) := by decide +kernel
theorem d_Ed_written_58 : decode prog_5_method_5_code 58 = .ok (.invokevirtual 53, 3) := by decide +kernel
theorem d_Ed_written_61 : decode prog_5_method_5_code 61 = .ok (.istore 7, 2) := by decide +kernel
theorem d_Ed_written_63 : decode prog_5_method_5_code 63 = .ok (.iload_n 3, 1) := by decide +kernel
theorem d_Ed_written_64 : decode prog_5_method_5_code 64 = .ok (.istore 9, 2) := by decide +kernel
theorem d_Ed_written_43 : decode prog_5_method_5_code 43 = .ok (.iconst 0, 1) := by decide +kernel
theorem d_Ed_written_44 : decode prog_5_method_5_code 44 = .ok (.ireturn, 1) := by decide +kernel
theorem d_Ed_written_66 : decode prog_5_method_5_code 66 = .ok (.iload 9, 2) := by decide +kernel
theorem d_Ed_written_68 : decode prog_5_method_5_code 68 = .ok (.iload 5, 2) := by decide +kernel
theorem d_Ed_written_70 : decode prog_5_method_5_code 70 = .ok (.if_icmp .gt 54, 3) := by decide +kernel
theorem d_Ed_written_124 : decode prog_5_method_5_code 124 = .ok (.iinc 8 1, 3) := by decide +kernel
theorem d_Ed_written_127 : decode prog_5_method_5_code 127 = .ok (.goto (-120), 3) := by decide +kernel
theorem d_Ed_written_73 : decode prog_5_method_5_code 73 = .ok (.iload_n 1, 1) := by decide +kernel
theorem d_Ed_written_74 : decode prog_5_method_5_code 74 = .ok (.ifCond .eq 50, 3) := by decide +kernel
theorem d_Ed_written_77 : decode prog_5_method_5_code 77 = .ok (.aload_n 0, 1) := by decide +kernel
theorem d_Ed_written_78 : decode prog_5_method_5_code 78 = .ok (.getfield 23, 3) := by decide +kernel
theorem d_Ed_written_81 : decode prog_5_method_5_code 81 = .ok (.getfield 26, 3) := by decide +kernel
theorem d_Ed_written_84 : decode prog_5_method_5_code 84 = .ok (.sipush 400, 3) := by decide +kernel
theorem d_Ed_written_87 : decode prog_5_method_5_code 87 = .ok (.if_icmp .ne 5, 3) := by decide +kernel
theorem d_Ed_written_92 : decode prog_5_method_5_code 92 = .ok (.aload_n 0, 1) := by decide +kernel
theorem d_Ed_written_93 : decode prog_5_method_5_code 93 = .ok (.iload_n 1, 1) := by decide +kernel
theorem d_Ed_written_94 : decode prog_5_method_5_code 94 = .ok (.iload 9, 2) := by decide +kernel
theorem d_Ed_written_96 : decode prog_5_method_5_code 96 = .ok (.iload 8, 2) := by decide +kernel
theorem d_Ed_written_98 : decode prog_5_method_5_code 98 = .ok (.invokestatic 69, 3) := by decide +kernel
theorem d_Ed_written_101 : decode prog_5_method_5_code 101 = .ok (.iload 9, 2) := by decide +kernel
theorem d_Ed_written_103 : decode prog_5_method_5_code 103 = .ok (.iload_n 2, 1) := by decide +kernel
theorem d_Ed_written_104 : decode prog_5_method_5_code 104 = .ok (.bipush 26, 2) := by decide +kernel
theorem d_Ed_written_106 : decode prog_5_method_5_code 106 = .ok (.irem, 1) := by decide +kernel
theorem d_Ed_written_107 : decode prog_5_method_5_code 107 = .ok (.isub, 1) := by decide +kernel
theorem d_Ed_written_108 : decode prog_5_method_5_code 108 = .ok (.iload 8, 2) := by decide +kernel
theorem d_Ed_written_110 : decode prog_5_method_5_code 110 = .ok (.iload_n 2, 1) := by decide +kernel
theorem d_Ed_written_111 : decode prog_5_method_5_code 111 = .ok (.bipush 26, 2) := by decide +kernel
theorem d_Ed_written_113 : decode prog_5_method_5_code 113 = .ok (.idiv, 1) := by decide +kernel
theorem d_Ed_written_114 : decode prog_5_method_5_code 114 = .ok (.isub, 1) := by decide +kernel
theorem d_Ed_written_115 : decode prog_5_method_5_code 115 = .ok (.invokevirtual 76, 3) := by decide +kernel
theorem d_Ed_written_118 : decode prog_5_method_5_code 118 = .ok (.iinc 9 1, 3) := by decide +kernel
theorem d_Ed_written_121 : decode prog_5_method_5_code 121 = .ok (.goto (-55), 3) := by decide +kernel
theorem d_Ed_written_90 : decode prog_5_method_5_code 90 = .ok (.iconst 0, 1) := by decide +kernel
theorem d_Ed_written_91 : decode prog_5_method_5_code 91 = .ok (.ireturn, 1) := by decide +kernel
set_option maxHeartbeats 4000000 in
theorem w_Ed_written_0 {l : Launch} {G : gG} {d : Nat} {X : gX} {M : gM} {k : Int → gM → Prop} {c : Nat} (hX : glX X c) {x1 : Int} (hx1 : g32 x1) {x2 : Int} (hx2 : g32 x2) {x3 : Int} (hx3 : g32 x3) {x4 : Int} (hx4 : g32 x4) {x5 : Int} (hx5 : g32 x5) {x6 : Int} (hx6 : g32 x6)  (T : wp l G y_Ed_written (gRm (d + 1)) true (kkZ X k) true 7 [.val (gR G (c + 21)), .val (gI x1), .val (gI x2), .val (gI x3), .unset, .val (gI x5), .val (gI x6), .val (gI 0), .val (gI x4), .unset] [] X M 0 0) : wp l G y_Ed_written (gRm (d + 1)) true (kkZ X k) false 0 [.val (gR G (c + 21)), .val (gI x1), .val (gI x2), .val (gI x3), .val (gI x4), .val (gI x5), .val (gI x6), .unset, .unset, .unset] [] X M 0 0 := by
  refine wp_iconst d_Ed_written_0 ?_
  refine wp_istore (L' := [.val (gR G (c + 21)), .val (gI x1), .val (gI x2), .val (gI x3), .val (gI x4), .val (gI x5), .val (gI x6), .val (gI 0), .unset, .unset]) d_Ed_written_1 (by decide) rfl ?_
  refine wp_iload d_Ed_written_3 rfl ?_
  refine wp_istore (L' := [.val (gR G (c + 21)), .val (gI x1), .val (gI x2), .val (gI x3), .val (gI x4), .val (gI x5), .val (gI x6), .val (gI 0), .val (gI x4), .unset]) d_Ed_written_5 (by decide) rfl ?_
  exact wp_md (wpt T (And.intro rfl (And.intro rfl (And.intro rfl (And.intro rfl (And.intro rfl (And.intro rfl (And.intro rfl (And.intro rfl True.intro)))))))))
set_option maxHeartbeats 4000000 in
theorem w_Ed_written_7 {l : Launch} {G : gG} {d : Nat} {X : gX} {M : gM} {k : Int → gM → Prop} {c : Nat} (hX : glX X c) {x1 : Int} (hx1 : g32 x1) {x2 : Int} (hx2 : g32 x2) {x3 : Int} (hx3 : g32 x3) {x5 : Int} (hx5 : g32 x5) {x6 : Int} (hx6 : g32 x6) {x7 : Int} (hx7 : g32 x7) {x8 : Int} (hx8 : g32 x8) {s3 : Nat} (hs3 : X.2.2 (c + 21) 3 = s3 ∧ gsX X s3) {s2 : Nat} (hs2 : X.2.2 (c + 21) 2 = s2 ∧ gsX X s2) (T : (x6 < x8 → (g32 (M s2 0) → (cZ l G y_St_addRun (gRm d) true [gR G s3, gR G s2, gI x7, gI (M s2 0)] X M (fun v3 M2 => ((v3 = 0 → (k 0 M2)) ∧ (¬ v3 = 0 → (cZ l G y_Ed_rangesFit (gRm d) false [gR G (c + 21)] X M2 (fun v6 M5 => ((v6 = 0 → (k 0 M5)) ∧ (¬ v6 = 0 → (k 1 M5))))))))))) ∧ (¬ x6 < x8 → (cI l G y_GL_place (gRm d) false [gI x3, gI x8] X M (fun v11 M10 => (cI l G y_St_entryFrom (gRm d) false [gR G s2, gI v11] X M10 (fun v14 M13 => (cZ l G y_St_addRun (gRm d) true [gR G s3, gR G s2, gI x7, gI v14] X M13 (fun v17 M16 => ((¬ v17 = 0 → (cI l G y_GL_place (gRm d) false [gI x5, gI x8] X M16 (fun v20 M19 => (cI l G y_St_entryFrom (gRm d) false [gR G s2, gI (v20 + 1)] X M19 (fun v23 M22 => (wp l G y_Ed_written (gRm (d + 1)) true (kkZ X k) true 66 [.val (gR G (c + 21)), .val (gI x1), .val (gI x2), .val (gI x3), .unset, .val (gI x5), .val (gI x6), .val (gI v23), .val (gI x8), .val (gI x3)] [] X M22 0 0)))))) ∧ (v17 = 0 → (k 0 M16))))))))))) : wp l G y_Ed_written (gRm (d + 1)) true (kkZ X k) true 7 [.val (gR G (c + 21)), .val (gI x1), .val (gI x2), .val (gI x3), .unset, .val (gI x5), .val (gI x6), .val (gI x7), .val (gI x8), .unset] [] X M 0 0 := by
  refine wp_iload d_Ed_written_7 rfl ?_
  refine wp_iload d_Ed_written_9 rfl ?_
  refine xi_gt (tgt := 130) d_Ed_written_11 (by decide) (w32_id hx8) (w32_id hx6) (fun h26 => ?_) (fun h26 => ?_)
  · have T := T.1 h26
    refine wp_aload_n d_Ed_written_130 rfl rfl (g_nz (gl_1 hX 21)) ?_
    refine xgetR d_Ed_written_131 gc_Ed f_Ed_23.1 f_Ed_23.2.1 f_Ed_23.2.2.1 (gl_1 hX 21) (gl_2 hX (a := 21) (by decide)) (gl_s hX 21 rfl) f_Ed_23.2.2.2.2.1 hs3.1 ?_
    refine wp_aload_n d_Ed_written_134 rfl rfl (g_nz (gl_1 hX 21)) ?_
    refine xgetR d_Ed_written_135 gc_Ed f_Ed_19.1 f_Ed_19.2.1 f_Ed_19.2.2.1 (gl_1 hX 21) (gl_2 hX (a := 21) (by decide)) (gl_s hX 21 rfl) f_Ed_19.2.2.2.2.1 hs2.1 ?_
    refine wp_iload d_Ed_written_138 rfl ?_
    refine wp_aload_n d_Ed_written_140 rfl rfl (g_nz (gl_1 hX 21)) ?_
    refine xgetR d_Ed_written_141 gc_Ed f_Ed_19.1 f_Ed_19.2.1 f_Ed_19.2.2.1 (gl_1 hX 21) (gl_2 hX (a := 21) (by decide)) (gl_s hX 21 rfl) f_Ed_19.2.2.2.2.1 hs2.1 ?_
    refine xgetI d_Ed_written_144 gc_St f_Ed_26.1 f_Ed_26.2.1 f_Ed_26.2.2.1 hs2.2.1 (gs_2 hs2.2) hs2.2.2.2.1 f_Ed_26.2.2.2.2.1 (fun h1 => ?_)
    have T := T h1
    refine xcV_Z (md' := true) (As := [gR G s2, gI x7, gI (M s2 0)]) (st := []) d_Ed_written_147 ca_St_addRun ml_Ed_72 im_St_addRun se_St_addRun gc_St hs3.2.1 (gs_2 hs3.2) hs3.2.2.2.1 rfl (by decide) (by decide) rfl (fun _ => rfl) (fun _ => rfl) T (fun v3 M2 h4 T => ?_)
    refine xz_eq (tgt := 164) d_Ed_written_150 (by decide) (w32_id (g32_z h4)) (fun h9 => ?_) (fun h9 => ?_)
    · have T := T.1 h9
      refine wp_iconst d_Ed_written_164 ?_
      exact wp_zreturn d_Ed_written_165 rfl (g_narz (⟨by decide, by decide⟩ : (0 : Int) ≤ 0 ∧ (0 : Int) ≤ 1)) (fun _ => rfl) (Nat.zero_le _) (Nat.zero_le _) (kZ_mk (⟨by decide, by decide⟩ : (0 : Int) ≤ 0 ∧ (0 : Int) ≤ 1) T)
    · have T := T.2 h9
      refine wp_aload_n d_Ed_written_153 rfl rfl (g_nz (gl_1 hX 21)) ?_
      refine xcV_Z (md' := true) (As := []) (st := []) d_Ed_written_154 ca_Ed_rangesFit ml_Ed_80 im_Ed_rangesFit se_Ed_rangesFit gc_Ed (gl_1 hX 21) (gl_2 hX (a := 21) (by decide)) (gl_s hX 21 rfl) rfl (by decide) (by decide) rfl (fun _ => rfl) (fun _ => rfl) T (fun v6 M5 h7 T => ?_)
      refine xz_eq (tgt := 164) d_Ed_written_157 (by decide) (w32_id (g32_z h7)) (fun h8 => ?_) (fun h8 => ?_)
      · have T := T.1 h8
        refine wp_iconst d_Ed_written_164 ?_
        exact wp_zreturn d_Ed_written_165 rfl (g_narz (⟨by decide, by decide⟩ : (0 : Int) ≤ 0 ∧ (0 : Int) ≤ 1)) (fun _ => rfl) (Nat.zero_le _) (Nat.zero_le _) (kZ_mk (⟨by decide, by decide⟩ : (0 : Int) ≤ 0 ∧ (0 : Int) ≤ 1) T)
      · have T := T.2 h8
        refine wp_iconst d_Ed_written_160 ?_
        refine wp_goto (tgt := 165) d_Ed_written_161 (by decide) ?_
        exact wp_zreturn d_Ed_written_165 rfl (g_narz (⟨by decide, by decide⟩ : (0 : Int) ≤ 1 ∧ (1 : Int) ≤ 1)) (fun _ => rfl) (Nat.zero_le _) (Nat.zero_le _) (kZ_mk (⟨by decide, by decide⟩ : (0 : Int) ≤ 1 ∧ (1 : Int) ≤ 1) T)
  · have T := T.2 h26
    refine wp_aload_n d_Ed_written_14 rfl rfl (g_nz (gl_1 hX 21)) ?_
    refine xgetR d_Ed_written_15 gc_Ed f_Ed_23.1 f_Ed_23.2.1 f_Ed_23.2.2.1 (gl_1 hX 21) (gl_2 hX (a := 21) (by decide)) (gl_s hX 21 rfl) f_Ed_23.2.2.2.2.1 hs3.1 ?_
    refine wp_aload_n d_Ed_written_18 rfl rfl (g_nz (gl_1 hX 21)) ?_
    refine xgetR d_Ed_written_19 gc_Ed f_Ed_19.1 f_Ed_19.2.1 f_Ed_19.2.2.1 (gl_1 hX 21) (gl_2 hX (a := 21) (by decide)) (gl_s hX 21 rfl) f_Ed_19.2.2.2.2.1 hs2.1 ?_
    refine wp_iload d_Ed_written_22 rfl ?_
    refine wp_aload_n d_Ed_written_24 rfl rfl (g_nz (gl_1 hX 21)) ?_
    refine xgetR d_Ed_written_25 gc_Ed f_Ed_19.1 f_Ed_19.2.1 f_Ed_19.2.2.1 (gl_1 hX 21) (gl_2 hX (a := 21) (by decide)) (gl_s hX 21 rfl) f_Ed_19.2.2.2.2.1 hs2.1 ?_
    refine wp_iload_n d_Ed_written_28 rfl rfl ?_
    refine wp_iload d_Ed_written_29 rfl ?_
    refine xcN_I (md' := true) (As := [gI x3, gI x8]) (st := [gR G s2, gI x7, gR G s2, gR G s3]) d_Ed_written_31 ca_GL_place ml_Ed_69 sm_GL_place rfl (by decide) (by simp only [List.map, gR_cat, gI_cat, gL_cat, List.sum_cons, List.sum_nil]; decide) rfl (fun _ => rfl) (fun _ => rfl) T (fun v11 M10 h12 T => ?_)
    refine xcV_I (md' := true) (As := [gI v11]) (st := [gI x7, gR G s2, gR G s3]) d_Ed_written_34 ca_St_entryFrom ml_Ed_53 im_St_entryFrom se_St_entryFrom gc_St hs2.2.1 (gs_2 hs2.2) hs2.2.2.2.1 rfl (by decide) (by simp only [List.map, gR_cat, gI_cat, gL_cat, List.sum_cons, List.sum_nil]; decide) rfl (fun _ => rfl) (fun _ => rfl) T (fun v14 M13 h15 T => ?_)
    refine xcV_Z (md' := true) (As := [gR G s2, gI x7, gI v14]) (st := []) d_Ed_written_37 ca_St_addRun ml_Ed_72 im_St_addRun se_St_addRun gc_St hs3.2.1 (gs_2 hs3.2) hs3.2.2.2.1 rfl (by decide) (by decide) rfl (fun _ => rfl) (fun _ => rfl) T (fun v17 M16 h18 T => ?_)
    refine xz_ne (tgt := 45) d_Ed_written_40 (by decide) (w32_id (g32_z h18)) (fun h25 => ?_) (fun h25 => ?_)
    · have T := T.1 h25
      refine wp_aload_n d_Ed_written_45 rfl rfl (g_nz (gl_1 hX 21)) ?_
      refine xgetR d_Ed_written_46 gc_Ed f_Ed_19.1 f_Ed_19.2.1 f_Ed_19.2.2.1 (gl_1 hX 21) (gl_2 hX (a := 21) (by decide)) (gl_s hX 21 rfl) f_Ed_19.2.2.2.2.1 hs2.1 ?_
      refine wp_iload d_Ed_written_49 rfl ?_
      refine wp_iload d_Ed_written_51 rfl ?_
      refine xcN_I (md' := true) (As := [gI x5, gI x8]) (st := [gR G s2]) d_Ed_written_53 ca_GL_place ml_Ed_69 sm_GL_place rfl (by decide) (by simp only [List.map, gR_cat, gI_cat, gL_cat, List.sum_cons, List.sum_nil]; decide) rfl (fun _ => rfl) (fun _ => rfl) T (fun v20 M19 h21 T => ?_)
      refine wp_iconst d_Ed_written_56 ?_
      refine wp_iadd d_Ed_written_57 ?_
      refine xcV_I (md' := true) (As := [gI (v20 + 1)]) (st := []) d_Ed_written_58 ca_St_entryFrom ml_Ed_53 im_St_entryFrom se_St_entryFrom gc_St hs2.2.1 (gs_2 hs2.2) hs2.2.2.2.1 rfl (by decide) (by decide) rfl (fun _ => rfl) (fun _ => rfl) T (fun v23 M22 h24 T => ?_)
      refine wp_istore (L' := [.val (gR G (c + 21)), .val (gI x1), .val (gI x2), .val (gI x3), .unset, .val (gI x5), .val (gI x6), .val (gI v23), .val (gI x8), .unset]) d_Ed_written_61 (by decide) rfl ?_
      refine wp_iload_n d_Ed_written_63 rfl rfl ?_
      refine wp_istore (L' := [.val (gR G (c + 21)), .val (gI x1), .val (gI x2), .val (gI x3), .unset, .val (gI x5), .val (gI x6), .val (gI v23), .val (gI x8), .val (gI x3)]) d_Ed_written_64 (by decide) rfl ?_
      exact wp_md (wpt T (And.intro rfl (And.intro rfl (And.intro rfl (And.intro rfl (And.intro rfl (And.intro rfl (And.intro rfl (And.intro rfl (And.intro rfl True.intro))))))))))
    · have T := T.2 h25
      refine wp_iconst d_Ed_written_43 ?_
      exact wp_zreturn d_Ed_written_44 rfl (g_narz (⟨by decide, by decide⟩ : (0 : Int) ≤ 0 ∧ (0 : Int) ≤ 1)) (fun _ => rfl) (Nat.zero_le _) (Nat.zero_le _) (kZ_mk (⟨by decide, by decide⟩ : (0 : Int) ≤ 0 ∧ (0 : Int) ≤ 1) T)
set_option maxHeartbeats 4000000 in
theorem w_Ed_written_66 {l : Launch} {G : gG} {d : Nat} {X : gX} {M : gM} {k : Int → gM → Prop} {c : Nat} (hX : glX X c) {x1 : Int} (hx1 : g32 x1) {x2 : Int} (hx2 : g32 x2) {x3 : Int} (hx3 : g32 x3) {x5 : Int} (hx5 : g32 x5) {x6 : Int} (hx6 : g32 x6) {x7 : Int} (hx7 : g32 x7) {x8 : Int} (hx8 : g32 x8) {x9 : Int} (hx9 : g32 x9) {s3 : Nat} (hs3 : X.2.2 (c + 21) 3 = s3 ∧ gsX X s3) {s2 : Nat} (hs2 : X.2.2 (c + 21) 2 = s2 ∧ gsX X s2) (T : (x5 < x9 → (wp l G y_Ed_written (gRm (d + 1)) true (kkZ X k) true 7 [.val (gR G (c + 21)), .val (gI x1), .val (gI x2), .val (gI x3), .unset, .val (gI x5), .val (gI x6), .val (gI x7), .val (gI (w32 (x8 + 1))), .unset] [] X M 0 0)) ∧ (¬ x5 < x9 → ((x1 = 0 → (wp l G y_Ed_written (gRm (d + 1)) true (kkZ X k) true 7 [.val (gR G (c + 21)), .val (gI x1), .val (gI x2), .val (gI x3), .unset, .val (gI x5), .val (gI x6), .val (gI x7), .val (gI (w32 (x8 + 1))), .unset] [] X M 0 0)) ∧ (¬ x1 = 0 → (g32 (M s3 0) → ((¬ M s3 0 = 400 → (cI l G y_GL_place (gRm d) false [gI x9, gI x8] X M (fun v29 M28 => (cV l G y_Ed_addMoved (gRm d) true [gR G (c + 21), gI x1, gI v29, gI (x9 - (x2.tmod 26)), gI (x8 - (x2.tdiv 26))] X M28 (fun M31 => (wp l G y_Ed_written (gRm (d + 1)) true (kkZ X k) true 66 [.val (gR G (c + 21)), .val (gI x1), .val (gI x2), .val (gI x3), .unset, .val (gI x5), .val (gI x6), .val (gI x7), .val (gI x8), .val (gI (w32 (x9 + 1)))] [] X M31 0 0)))))) ∧ (M s3 0 = 400 → (k 0 M)))))))) : wp l G y_Ed_written (gRm (d + 1)) true (kkZ X k) true 66 [.val (gR G (c + 21)), .val (gI x1), .val (gI x2), .val (gI x3), .unset, .val (gI x5), .val (gI x6), .val (gI x7), .val (gI x8), .val (gI x9)] [] X M 0 0 := by
  refine wp_iload d_Ed_written_66 rfl ?_
  refine wp_iload d_Ed_written_68 rfl ?_
  refine xi_gt (tgt := 124) d_Ed_written_70 (by decide) (w32_id hx9) (w32_id hx5) (fun h34 => ?_) (fun h34 => ?_)
  · have T := T.1 h34
    refine wp_iinc (L' := [.val (gR G (c + 21)), .val (gI x1), .val (gI x2), .val (gI x3), .unset, .val (gI x5), .val (gI x6), .val (gI x7), .val (gI (x8 + 1)), .val (gI x9)]) d_Ed_written_124 rfl (by decide) rfl ?_
    refine wp_goto (tgt := 7) d_Ed_written_127 (by decide) ?_
    exact wp_md (wpt T (And.intro rfl (And.intro rfl (And.intro rfl (And.intro rfl (And.intro rfl (And.intro rfl (And.intro rfl (And.intro (gI_w _) True.intro)))))))))
  · have T := T.2 h34
    refine wp_iload_n d_Ed_written_73 rfl rfl ?_
    refine xz_eq (tgt := 124) d_Ed_written_74 (by decide) (w32_id hx1) (fun h33 => ?_) (fun h33 => ?_)
    · have T := T.1 h33
      refine wp_iinc (L' := [.val (gR G (c + 21)), .val (gI x1), .val (gI x2), .val (gI x3), .unset, .val (gI x5), .val (gI x6), .val (gI x7), .val (gI (x8 + 1)), .val (gI x9)]) d_Ed_written_124 rfl (by decide) rfl ?_
      refine wp_goto (tgt := 7) d_Ed_written_127 (by decide) ?_
      exact wp_md (wpt T (And.intro rfl (And.intro rfl (And.intro rfl (And.intro rfl (And.intro rfl (And.intro rfl (And.intro rfl (And.intro (gI_w _) True.intro)))))))))
    · have T := T.2 h33
      refine wp_aload_n d_Ed_written_77 rfl rfl (g_nz (gl_1 hX 21)) ?_
      refine xgetR d_Ed_written_78 gc_Ed f_Ed_23.1 f_Ed_23.2.1 f_Ed_23.2.2.1 (gl_1 hX 21) (gl_2 hX (a := 21) (by decide)) (gl_s hX 21 rfl) f_Ed_23.2.2.2.2.1 hs3.1 ?_
      refine xgetI d_Ed_written_81 gc_St f_Ed_26.1 f_Ed_26.2.1 f_Ed_26.2.2.1 hs3.2.1 (gs_2 hs3.2) hs3.2.2.2.1 f_Ed_26.2.2.2.2.1 (fun h27 => ?_)
      have T := T h27
      refine wp_sipush d_Ed_written_84 ⟨by decide, by decide⟩ ?_
      refine xi_ne (tgt := 92) d_Ed_written_87 (by decide) (w32_id h27) (w32_id (g32_c (x := 400) rfl)) (fun h32 => ?_) (fun h32 => ?_)
      · have T := T.1 h32
        refine wp_aload_n d_Ed_written_92 rfl rfl (g_nz (gl_1 hX 21)) ?_
        refine wp_iload_n d_Ed_written_93 rfl rfl ?_
        refine wp_iload d_Ed_written_94 rfl ?_
        refine wp_iload d_Ed_written_96 rfl ?_
        refine xcN_I (md' := true) (As := [gI x9, gI x8]) (st := [gI x1, gR G (c + 21)]) d_Ed_written_98 ca_GL_place ml_Ed_69 sm_GL_place rfl (by decide) (by simp only [List.map, gR_cat, gI_cat, gL_cat, List.sum_cons, List.sum_nil]; decide) rfl (fun _ => rfl) (fun _ => rfl) T (fun v29 M28 h30 T => ?_)
        refine wp_iload d_Ed_written_101 rfl ?_
        refine wp_iload_n d_Ed_written_103 rfl rfl ?_
        refine wp_bipush d_Ed_written_104 ⟨by decide, by decide⟩ ?_
        refine xirem d_Ed_written_106 (w32_id hx2) (w32_id (g32_c (x := 26) rfl)) (by decide) ?_
        refine wp_isub d_Ed_written_107 ?_
        refine wp_iload d_Ed_written_108 rfl ?_
        refine wp_iload_n d_Ed_written_110 rfl rfl ?_
        refine wp_bipush d_Ed_written_111 ⟨by decide, by decide⟩ ?_
        refine xidiv d_Ed_written_113 (w32_id hx2) (w32_id (g32_c (x := 26) rfl)) (by decide) ?_
        refine wp_isub d_Ed_written_114 ?_
        refine xcV_V (md' := true) (As := [gI x1, gI v29, gI (x9 - (x2.tmod 26)), gI (x8 - (x2.tdiv 26))]) (st := []) d_Ed_written_115 ca_Ed_addMoved ml_Ed_76 im_Ed_addMoved se_Ed_addMoved gc_Ed (gl_1 hX 21) (gl_2 hX (a := 21) (by decide)) (gl_s hX 21 rfl) rfl (by decide) (by decide) rfl (fun _ => rfl) (fun _ => rfl) T (fun M31 T => ?_)
        refine wp_iinc (L' := [.val (gR G (c + 21)), .val (gI x1), .val (gI x2), .val (gI x3), .unset, .val (gI x5), .val (gI x6), .val (gI x7), .val (gI x8), .val (gI (x9 + 1))]) d_Ed_written_118 rfl (by decide) rfl ?_
        refine wp_goto (tgt := 66) d_Ed_written_121 (by decide) ?_
        exact wp_md (wpt T (And.intro rfl (And.intro rfl (And.intro rfl (And.intro rfl (And.intro rfl (And.intro rfl (And.intro rfl (And.intro rfl (And.intro (gI_w _) True.intro))))))))))
      · have T := T.2 h32
        refine wp_iconst d_Ed_written_90 ?_
        exact wp_zreturn d_Ed_written_91 rfl (g_narz (⟨by decide, by decide⟩ : (0 : Int) ≤ 0 ∧ (0 : Int) ≤ 1)) (fun _ => rfl) (Nat.zero_le _) (Nat.zero_le _) (kZ_mk (⟨by decide, by decide⟩ : (0 : Int) ≤ 0 ∧ (0 : Int) ≤ 1) T)
theorem e_Ed_written {l : Launch} {G : gG} {d : Nat} {X : gX} {M : gM} {k : Int → gM → Prop} {c : Nat} {x1 : Int} {x2 : Int} {x3 : Int} {x4 : Int} {x5 : Int} {x6 : Int} (T : wp l G y_Ed_written (gRm (d + 1)) true (kkZ X k) false 0 [.val (gR G (c + 21)), .val (gI x1), .val (gI x2), .val (gI x3), .val (gI x4), .val (gI x5), .val (gI x6), .unset, .unset, .unset] [] X M 0 0) : cZ l G y_Ed_written (gRm (d + 1)) true [gR G (c + 21), gI x1, gI x2, gI x3, gI x4, gI x5, gI x6] X M k := cen_Z (plainFor_of_name rfl) (by simp only [lg_sl_R, lg_sl_I, lg_sl_L, lg_sl_N, List.length_cons, List.length_nil]; decide) (by unfold gEn; simp only [lg_sl_R, lg_sl_I, lg_sl_L, lg_sl_N]; exact wpt T (And.intro rfl (And.intro rfl (And.intro rfl (And.intro rfl (And.intro rfl (And.intro rfl (And.intro rfl True.intro))))))))
theorem d_Ed_addMoved_0 : decode prog_5_method_6_code 0 = .ok (.aload_n 0, 1) := by decide +kernel
theorem d_Ed_addMoved_1 : decode prog_5_method_6_code 1 = .ok (.getfield 23, 3) := by decide +kernel
theorem d_Ed_addMoved_4 : decode prog_5_method_6_code 4 = .ok (.iload_n 2, 1) := by decide +kernel
theorem d_Ed_addMoved_5 : decode prog_5_method_6_code 5 = .ok (.iload_n 1, 1) := by decide +kernel
theorem d_Ed_addMoved_6 : decode prog_5_method_6_code 6 = .ok (.invokevirtual 84, 3) := by decide +kernel
theorem d_Ed_addMoved_9 : decode prog_5_method_6_code 9 = .ok (.aload_n 0, 1) := by decide +kernel
theorem d_Ed_addMoved_10 : decode prog_5_method_6_code 10 = .ok (.getfield 15, 3) := by decide +kernel
theorem d_Ed_addMoved_13 : decode prog_5_method_6_code 13 = .ok (.getfield 37, 3) := by decide +kernel
theorem d_Ed_addMoved_16 : decode prog_5_method_6_code 16 = .ok (.iload_n 1, 1) := by decide +kernel
theorem d_Ed_addMoved_17 : decode prog_5_method_6_code 17 = .ok (.iaload, 1) := by decide +kernel
theorem d_Ed_addMoved_18 : decode prog_5_method_6_code 18 = .ok (.istore 5, 2) := by decide +kernel
theorem d_Ed_addMoved_20 : decode prog_5_method_6_code 20 = .ok (.iconst 0, 1) := by decide +kernel
theorem d_Ed_addMoved_21 : decode prog_5_method_6_code 21 = .ok (.istore 6, 2) := by decide +kernel
theorem d_Ed_addMoved_23 : decode prog_5_method_6_code 23 = .ok (.iload 6, 2) := by decide +kernel
theorem d_Ed_addMoved_25 : decode prog_5_method_6_code 25 = .ok (.aload_n 0, 1) := by decide +kernel
theorem d_Ed_addMoved_26 : decode prog_5_method_6_code 26 = .ok (.getfield 15, 3) := by decide +kernel
theorem d_Ed_addMoved_29 : decode prog_5_method_6_code 29 = .ok (.getfield 40, 3) := by decide +kernel
theorem d_Ed_addMoved_32 : decode prog_5_method_6_code 32 = .ok (.iload_n 1, 1) := by decide +kernel
theorem d_Ed_addMoved_33 : decode prog_5_method_6_code 33 = .ok (.iaload, 1) := by decide +kernel
theorem d_Ed_addMoved_34 : decode prog_5_method_6_code 34 = .ok (.if_icmp .ge 131, 3) := by decide +kernel
theorem d_Ed_addMoved_165 : decode prog_5_method_6_code 165 = .ok (.return_, 1) := by decide +kernel
theorem d_Ed_addMoved_37 : decode prog_5_method_6_code 37 = .ok (.aload_n 0, 1) := by decide +kernel
theorem d_Ed_addMoved_38 : decode prog_5_method_6_code 38 = .ok (.getfield 15, 3) := by decide +kernel
theorem d_Ed_addMoved_41 : decode prog_5_method_6_code 41 = .ok (.getfield 88, 3) := by decide +kernel
theorem d_Ed_addMoved_44 : decode prog_5_method_6_code 44 = .ok (.iload 5, 2) := by decide +kernel
theorem d_Ed_addMoved_46 : decode prog_5_method_6_code 46 = .ok (.iload 6, 2) := by decide +kernel
theorem d_Ed_addMoved_48 : decode prog_5_method_6_code 48 = .ok (.iadd, 1) := by decide +kernel
theorem d_Ed_addMoved_49 : decode prog_5_method_6_code 49 = .ok (.iaload, 1) := by decide +kernel
theorem d_Ed_addMoved_50 : decode prog_5_method_6_code 50 = .ok (.istore 7, 2) := by decide +kernel
theorem d_Ed_addMoved_52 : decode prog_5_method_6_code 52 = .ok (.aload_n 0, 1) := by decide +kernel
theorem d_Ed_addMoved_53 : decode prog_5_method_6_code 53 = .ok (.getfield 9, 3) := by decide +kernel
theorem d_Ed_addMoved_56 : decode prog_5_method_6_code 56 = .ok (.iload 6, 2) := by decide +kernel
theorem d_Ed_addMoved_58 : decode prog_5_method_6_code 58 = .ok (.iaload, 1) := by decide +kernel
theorem d_Ed_addMoved_59 : decode prog_5_method_6_code 59 = .ok (.iload 7, 2) := by decide +kernel
theorem d_Ed_addMoved_61 : decode prog_5_method_6_code 61 = .ok (.iload_n 3, 1) := by decide +kernel
theorem d_Ed_addMoved_62 : decode prog_5_method_6_code 62 = .ok (.iload 4, 2) := by decide +kernel
theorem d_Ed_addMoved_64 : decode prog_5_method_6_code 64 = .ok (.invokestatic 91, 3) := by decide +kernel
theorem d_Ed_addMoved_67 : decode prog_5_method_6_code 67 = .ok (.istore 8, 2) := by decide +kernel
theorem d_Ed_addMoved_69 : decode prog_5_method_6_code 69 = .ok (.iload 7, 2) := by decide +kernel
theorem d_Ed_addMoved_71 : decode prog_5_method_6_code 71 = .ok (.bipush 8, 2) := by decide +kernel
theorem d_Ed_addMoved_73 : decode prog_5_method_6_code 73 = .ok (.iand, 1) := by decide +kernel
theorem d_Ed_addMoved_74 : decode prog_5_method_6_code 74 = .ok (.ifCond .eq 7, 3) := by decide +kernel
theorem d_Ed_addMoved_81 : decode prog_5_method_6_code 81 = .ok (.iconst 0, 1) := by decide +kernel
theorem d_Ed_addMoved_82 : decode prog_5_method_6_code 82 = .ok (.istore 9, 2) := by decide +kernel
theorem d_Ed_addMoved_84 : decode prog_5_method_6_code 84 = .ok (.aload_n 0, 1) := by decide +kernel
theorem d_Ed_addMoved_85 : decode prog_5_method_6_code 85 = .ok (.getfield 23, 3) := by decide +kernel
theorem d_Ed_addMoved_88 : decode prog_5_method_6_code 88 = .ok (.getfield 64, 3) := by decide +kernel
theorem d_Ed_addMoved_91 : decode prog_5_method_6_code 91 = .ok (.aload_n 0, 1) := by decide +kernel
theorem d_Ed_addMoved_92 : decode prog_5_method_6_code 92 = .ok (.getfield 23, 3) := by decide +kernel
theorem d_Ed_addMoved_95 : decode prog_5_method_6_code 95 = .ok (.getfield 26, 3) := by decide +kernel
theorem d_Ed_addMoved_98 : decode prog_5_method_6_code 98 = .ok (.iaload, 1) := by decide +kernel
theorem d_Ed_addMoved_99 : decode prog_5_method_6_code 99 = .ok (.iconst 1, 1) := by decide +kernel
theorem d_Ed_addMoved_100 : decode prog_5_method_6_code 100 = .ok (.isub, 1) := by decide +kernel
theorem d_Ed_addMoved_101 : decode prog_5_method_6_code 101 = .ok (.istore 10, 2) := by decide +kernel
theorem d_Ed_addMoved_103 : decode prog_5_method_6_code 103 = .ok (.iload 9, 2) := by decide +kernel
theorem d_Ed_addMoved_105 : decode prog_5_method_6_code 105 = .ok (.ifCond .eq 23, 3) := by decide +kernel
theorem d_Ed_addMoved_108 : decode prog_5_method_6_code 108 = .ok (.aload_n 0, 1) := by decide +kernel
theorem d_Ed_addMoved_109 : decode prog_5_method_6_code 109 = .ok (.getfield 23, 3) := by decide +kernel
theorem d_Ed_addMoved_112 : decode prog_5_method_6_code 112 = .ok (.getfield 63, 3) := by decide +kernel
theorem d_Ed_addMoved_115 : decode prog_5_method_6_code 115 = .ok (.iload 10, 2) := by decide +kernel
theorem d_Ed_addMoved_117 : decode prog_5_method_6_code 117 = .ok (.iaload, 1) := by decide +kernel
theorem d_Ed_addMoved_118 : decode prog_5_method_6_code 118 = .ok (.iconst (-1), 1) := by decide +kernel
theorem d_Ed_addMoved_119 : decode prog_5_method_6_code 119 = .ok (.if_icmp .ne 9, 3) := by decide +kernel
theorem d_Ed_addMoved_122 : decode prog_5_method_6_code 122 = .ok (.iconst (-1), 1) := by decide +kernel
theorem d_Ed_addMoved_123 : decode prog_5_method_6_code 123 = .ok (.istore 8, 2) := by decide +kernel
theorem d_Ed_addMoved_125 : decode prog_5_method_6_code 125 = .ok (.goto 25, 3) := by decide +kernel
theorem d_Ed_addMoved_150 : decode prog_5_method_6_code 150 = .ok (.aload_n 0, 1) := by decide +kernel
theorem d_Ed_addMoved_151 : decode prog_5_method_6_code 151 = .ok (.getfield 23, 3) := by decide +kernel
theorem d_Ed_addMoved_154 : decode prog_5_method_6_code 154 = .ok (.iload 8, 2) := by decide +kernel
theorem d_Ed_addMoved_156 : decode prog_5_method_6_code 156 = .ok (.invokevirtual 95, 3) := by decide +kernel
theorem d_Ed_addMoved_159 : decode prog_5_method_6_code 159 = .ok (.iinc 6 1, 3) := by decide +kernel
theorem d_Ed_addMoved_162 : decode prog_5_method_6_code 162 = .ok (.goto (-139), 3) := by decide +kernel
theorem d_Ed_addMoved_77 : decode prog_5_method_6_code 77 = .ok (.iconst 1, 1) := by decide +kernel
theorem d_Ed_addMoved_78 : decode prog_5_method_6_code 78 = .ok (.goto 4, 3) := by decide +kernel
theorem d_Ed_addMoved_128 : decode prog_5_method_6_code 128 = .ok (.iload 9, 2) := by decide +kernel
theorem d_Ed_addMoved_130 : decode prog_5_method_6_code 130 = .ok (.ifCond .eq 20, 3) := by decide +kernel
theorem d_Ed_addMoved_133 : decode prog_5_method_6_code 133 = .ok (.iload 8, 2) := by decide +kernel
theorem d_Ed_addMoved_135 : decode prog_5_method_6_code 135 = .ok (.iconst (-1), 1) := by decide +kernel
theorem d_Ed_addMoved_136 : decode prog_5_method_6_code 136 = .ok (.if_icmp .ne 14, 3) := by decide +kernel
theorem d_Ed_addMoved_139 : decode prog_5_method_6_code 139 = .ok (.aload_n 0, 1) := by decide +kernel
theorem d_Ed_addMoved_140 : decode prog_5_method_6_code 140 = .ok (.getfield 23, 3) := by decide +kernel
theorem d_Ed_addMoved_143 : decode prog_5_method_6_code 143 = .ok (.getfield 63, 3) := by decide +kernel
theorem d_Ed_addMoved_146 : decode prog_5_method_6_code 146 = .ok (.iload 10, 2) := by decide +kernel
theorem d_Ed_addMoved_148 : decode prog_5_method_6_code 148 = .ok (.iconst (-1), 1) := by decide +kernel
theorem d_Ed_addMoved_149 : decode prog_5_method_6_code 149 = .ok (.iastore, 1) := by decide +kernel
set_option maxHeartbeats 4000000 in
theorem w_Ed_addMoved_0 {l : Launch} {G : gG} {d : Nat} {X : gX} {M : gM} {k : gM → Prop} {c : Nat} (hX : glX X c) {x1 : Int} (hx1 : g32 x1) {x2 : Int} (hx2 : g32 x2) {x3 : Int} (hx3 : g32 x3) {x4 : Int} (hx4 : g32 x4) {s3 : Nat} (hs3 : X.2.2 (c + 21) 3 = s3 ∧ gsX X s3) (T : cV l G y_St_addEntry (gRm d) true [gR G s3, gI x2, gI x1] X M (fun M1 => (((0 : Int) ≤ x1 ∧ x1 < 513) ∧ (g32 (M1 (c + 6) (Int.toNat x1)) → (wp l G y_Ed_addMoved (gRm (d + 1)) true (kkV X k) true 23 [.val (gR G (c + 21)), .val (gI x1), .unset, .val (gI x3), .val (gI x4), .val (gI (M1 (c + 6) (Int.toNat x1))), .val (gI 0), .unset, .unset, .unset, .unset] [] X M1 0 0))))) : wp l G y_Ed_addMoved (gRm (d + 1)) true (kkV X k) false 0 [.val (gR G (c + 21)), .val (gI x1), .val (gI x2), .val (gI x3), .val (gI x4), .unset, .unset, .unset, .unset, .unset, .unset] [] X M 0 0 := by
  refine wp_aload_n d_Ed_addMoved_0 rfl rfl (g_nz (gl_1 hX 21)) ?_
  refine xgetR d_Ed_addMoved_1 gc_Ed f_Ed_23.1 f_Ed_23.2.1 f_Ed_23.2.2.1 (gl_1 hX 21) (gl_2 hX (a := 21) (by decide)) (gl_s hX 21 rfl) f_Ed_23.2.2.2.2.1 hs3.1 ?_
  refine wp_iload_n d_Ed_addMoved_4 rfl rfl ?_
  refine wp_iload_n d_Ed_addMoved_5 rfl rfl ?_
  refine xcV_V (md' := true) (As := [gI x2, gI x1]) (st := []) d_Ed_addMoved_6 ca_St_addEntry ml_Ed_84 im_St_addEntry se_St_addEntry gc_St hs3.2.1 (gs_2 hs3.2) hs3.2.2.2.1 rfl (by decide) (by decide) rfl (fun _ => rfl) (fun _ => rfl) T (fun M1 T => ?_)
  refine wp_aload_n d_Ed_addMoved_9 rfl rfl (g_nz (gl_1 hX 21)) ?_
  refine xgetR d_Ed_addMoved_10 gc_Ed f_Ed_15.1 f_Ed_15.2.1 f_Ed_15.2.2.1 (gl_1 hX 21) (gl_2 hX (a := 21) (by decide)) (gl_s hX 21 rfl) f_Ed_15.2.2.2.2.1 (gl_f hX 25 rfl) ?_
  refine xgetR d_Ed_addMoved_13 gc_Cn f_Ed_37.1 f_Ed_37.2.1 f_Ed_37.2.2.1 (gl_1 hX 2) (gl_2 hX (a := 2) (by decide)) (gl_s hX 2 rfl) f_Ed_37.2.2.2.2.1 (gl_f hX 5 rfl) ?_
  refine wp_iload_n d_Ed_addMoved_16 rfl rfl ?_
  refine wp_iaload d_Ed_addMoved_17 (gl_1 hX 6) (gl_2 hX (a := 6) (by decide)) (gl_s hX 6 rfl) (g32_n T.1 (by decide)) T.1.1 T.1.2 (fun h2 => ?_)
  have T := T.2 h2
  refine wp_istore (L' := [.val (gR G (c + 21)), .val (gI x1), .val (gI x2), .val (gI x3), .val (gI x4), .val (gI (M1 (c + 6) (Int.toNat x1))), .unset, .unset, .unset, .unset, .unset]) d_Ed_addMoved_18 (by decide) rfl ?_
  refine wp_iconst d_Ed_addMoved_20 ?_
  refine wp_istore (L' := [.val (gR G (c + 21)), .val (gI x1), .val (gI x2), .val (gI x3), .val (gI x4), .val (gI (M1 (c + 6) (Int.toNat x1))), .val (gI 0), .unset, .unset, .unset, .unset]) d_Ed_addMoved_21 (by decide) rfl ?_
  exact wp_md (wpt T (And.intro rfl (And.intro rfl (And.intro rfl (And.intro rfl (And.intro rfl (And.intro rfl True.intro)))))))
set_option maxHeartbeats 4000000 in
theorem w_Ed_addMoved_23 {l : Launch} {G : gG} {d : Nat} {X : gX} {M : gM} {k : gM → Prop} {c : Nat} (hX : glX X c) {x1 : Int} (hx1 : g32 x1) {x3 : Int} (hx3 : g32 x3) {x4 : Int} (hx4 : g32 x4) {x5 : Int} (hx5 : g32 x5) {x6 : Int} (hx6 : g32 x6) {s3 : Nat} (hs3 : X.2.2 (c + 21) 3 = s3 ∧ gsX X s3) (T : ((0 : Int) ≤ x1 ∧ x1 < 513) ∧ (g32 (M (c + 7) (Int.toNat x1)) → ((M (c + 7) (Int.toNat x1) ≤ x6 → (k M)) ∧ (¬ M (c + 7) (Int.toNat x1) ≤ x6 → (((0 : Int) ≤ x5 + x6 ∧ x5 + x6 < 10480) ∧ (g32 (M (c + 12) (Int.toNat (x5 + x6))) → (((0 : Int) ≤ x6 ∧ x6 < 50) ∧ (g32 (M (c + 22) (Int.toNat x6)) → (cI l G y_Ed_moved (gRm d) false [gI (M (c + 22) (Int.toNat x6)), gI (M (c + 12) (Int.toNat (x5 + x6))), gI x3, gI x4] X M (fun v7 M6 => ((gAnd (M (c + 12) (Int.toNat (x5 + x6))) 8 = 0 → (g32 (M6 s3 0) → (((0 : Int) ≤ M6 s3 0 ∧ M6 s3 0 < 401) ∧ (g32 (M6 (s3 + 3) (Int.toNat (M6 s3 0))) → (((0 : Int) = 0 → (wp l G y_Ed_addMoved (gRm (d + 1)) true (kkV X k) true 128 [.val (gR G (c + 21)), .val (gI x1), .unset, .val (gI x3), .val (gI x4), .val (gI x5), .val (gI x6), .unset, .val (gI v7), .val (gI 0), .val (gI (w32 ((M6 (s3 + 3) (Int.toNat (M6 s3 0))) - 1)))] [] X M6 0 0)) ∧ (¬ (0 : Int) = 0 → (((0 : Int) ≤ (M6 (s3 + 3) (Int.toNat (M6 s3 0))) - 1 ∧ (M6 (s3 + 3) (Int.toNat (M6 s3 0))) - 1 < 20000) ∧ (g32 (M6 (s3 + 4) (Int.toNat ((M6 (s3 + 3) (Int.toNat (M6 s3 0))) - 1))) → ((¬ M6 (s3 + 4) (Int.toNat ((M6 (s3 + 3) (Int.toNat (M6 s3 0))) - 1)) = (-1) → (wp l G y_Ed_addMoved (gRm (d + 1)) true (kkV X k) true 128 [.val (gR G (c + 21)), .val (gI x1), .unset, .val (gI x3), .val (gI x4), .val (gI x5), .val (gI x6), .unset, .val (gI v7), .val (gI 0), .val (gI (w32 ((M6 (s3 + 3) (Int.toNat (M6 s3 0))) - 1)))] [] X M6 0 0)) ∧ (M6 (s3 + 4) (Int.toNat ((M6 (s3 + 3) (Int.toNat (M6 s3 0))) - 1)) = (-1) → (cV l G y_St_addTarget (gRm d) true [gR G s3, gI (-1)] X M6 (fun M12 => (wp l G y_Ed_addMoved (gRm (d + 1)) true (kkV X k) true 23 [.val (gR G (c + 21)), .val (gI x1), .unset, .val (gI x3), .val (gI x4), .val (gI x5), .val (gI (w32 (x6 + 1))), .unset, .unset, .unset, .unset] [] X M12 0 0))))))))))))) ∧ (¬ gAnd (M (c + 12) (Int.toNat (x5 + x6))) 8 = 0 → (g32 (M6 s3 0) → (((0 : Int) ≤ M6 s3 0 ∧ M6 s3 0 < 401) ∧ (g32 (M6 (s3 + 3) (Int.toNat (M6 s3 0))) → (((1 : Int) = 0 → (wp l G y_Ed_addMoved (gRm (d + 1)) true (kkV X k) true 128 [.val (gR G (c + 21)), .val (gI x1), .unset, .val (gI x3), .val (gI x4), .val (gI x5), .val (gI x6), .unset, .val (gI v7), .val (gI 1), .val (gI (w32 ((M6 (s3 + 3) (Int.toNat (M6 s3 0))) - 1)))] [] X M6 0 0)) ∧ (¬ (1 : Int) = 0 → (((0 : Int) ≤ (M6 (s3 + 3) (Int.toNat (M6 s3 0))) - 1 ∧ (M6 (s3 + 3) (Int.toNat (M6 s3 0))) - 1 < 20000) ∧ (g32 (M6 (s3 + 4) (Int.toNat ((M6 (s3 + 3) (Int.toNat (M6 s3 0))) - 1))) → ((¬ M6 (s3 + 4) (Int.toNat ((M6 (s3 + 3) (Int.toNat (M6 s3 0))) - 1)) = (-1) → (wp l G y_Ed_addMoved (gRm (d + 1)) true (kkV X k) true 128 [.val (gR G (c + 21)), .val (gI x1), .unset, .val (gI x3), .val (gI x4), .val (gI x5), .val (gI x6), .unset, .val (gI v7), .val (gI 1), .val (gI (w32 ((M6 (s3 + 3) (Int.toNat (M6 s3 0))) - 1)))] [] X M6 0 0)) ∧ (M6 (s3 + 4) (Int.toNat ((M6 (s3 + 3) (Int.toNat (M6 s3 0))) - 1)) = (-1) → (cV l G y_St_addTarget (gRm d) true [gR G s3, gI (-1)] X M6 (fun M18 => (wp l G y_Ed_addMoved (gRm (d + 1)) true (kkV X k) true 23 [.val (gR G (c + 21)), .val (gI x1), .unset, .val (gI x3), .val (gI x4), .val (gI x5), .val (gI (w32 (x6 + 1))), .unset, .unset, .unset, .unset] [] X M18 0 0)))))))))))))))))))))))) : wp l G y_Ed_addMoved (gRm (d + 1)) true (kkV X k) true 23 [.val (gR G (c + 21)), .val (gI x1), .unset, .val (gI x3), .val (gI x4), .val (gI x5), .val (gI x6), .unset, .unset, .unset, .unset] [] X M 0 0 := by
  refine wp_iload d_Ed_addMoved_23 rfl ?_
  refine wp_aload_n d_Ed_addMoved_25 rfl rfl (g_nz (gl_1 hX 21)) ?_
  refine xgetR d_Ed_addMoved_26 gc_Ed f_Ed_15.1 f_Ed_15.2.1 f_Ed_15.2.2.1 (gl_1 hX 21) (gl_2 hX (a := 21) (by decide)) (gl_s hX 21 rfl) f_Ed_15.2.2.2.2.1 (gl_f hX 25 rfl) ?_
  refine xgetR d_Ed_addMoved_29 gc_Cn f_Ed_40.1 f_Ed_40.2.1 f_Ed_40.2.2.1 (gl_1 hX 2) (gl_2 hX (a := 2) (by decide)) (gl_s hX 2 rfl) f_Ed_40.2.2.2.2.1 (gl_f hX 6 rfl) ?_
  refine wp_iload_n d_Ed_addMoved_32 rfl rfl ?_
  refine wp_iaload d_Ed_addMoved_33 (gl_1 hX 7) (gl_2 hX (a := 7) (by decide)) (gl_s hX 7 rfl) (g32_n T.1 (by decide)) T.1.1 T.1.2 (fun h3 => ?_)
  have T := T.2 h3
  refine xi_ge (tgt := 165) d_Ed_addMoved_34 (by decide) (w32_id hx6) (w32_id h3) (fun h22 => ?_) (fun h22 => ?_)
  · have T := T.1 h22
    exact wp_return d_Ed_addMoved_165 rfl (fun _ => rfl) (Nat.zero_le _) (Nat.zero_le _) (kV_mk T)
  · have T := T.2 h22
    refine wp_aload_n d_Ed_addMoved_37 rfl rfl (g_nz (gl_1 hX 21)) ?_
    refine xgetR d_Ed_addMoved_38 gc_Ed f_Ed_15.1 f_Ed_15.2.1 f_Ed_15.2.2.1 (gl_1 hX 21) (gl_2 hX (a := 21) (by decide)) (gl_s hX 21 rfl) f_Ed_15.2.2.2.2.1 (gl_f hX 25 rfl) ?_
    refine xgetR d_Ed_addMoved_41 gc_Cn f_Ed_88.1 f_Ed_88.2.1 f_Ed_88.2.2.1 (gl_1 hX 2) (gl_2 hX (a := 2) (by decide)) (gl_s hX 2 rfl) f_Ed_88.2.2.2.2.1 (gl_f hX 11 rfl) ?_
    refine wp_iload d_Ed_addMoved_44 rfl ?_
    refine wp_iload d_Ed_addMoved_46 rfl ?_
    refine wp_iadd d_Ed_addMoved_48 ?_
    refine wp_iaload d_Ed_addMoved_49 (gl_1 hX 12) (gl_2 hX (a := 12) (by decide)) (gl_s hX 12 rfl) (g32_n T.1 (by decide)) T.1.1 T.1.2 (fun h4 => ?_)
    have T := T.2 h4
    refine wp_istore (L' := [.val (gR G (c + 21)), .val (gI x1), .unset, .val (gI x3), .val (gI x4), .val (gI x5), .val (gI x6), .val (gI (M (c + 12) (Int.toNat (x5 + x6)))), .unset, .unset, .unset]) d_Ed_addMoved_50 (by decide) rfl ?_
    refine wp_aload_n d_Ed_addMoved_52 rfl rfl (g_nz (gl_1 hX 21)) ?_
    refine xgetR d_Ed_addMoved_53 gc_Ed f_Ed_9.1 f_Ed_9.2.1 f_Ed_9.2.2.1 (gl_1 hX 21) (gl_2 hX (a := 21) (by decide)) (gl_s hX 21 rfl) f_Ed_9.2.2.2.2.1 (gl_f hX 24 rfl) ?_
    refine wp_iload d_Ed_addMoved_56 rfl ?_
    refine wp_iaload d_Ed_addMoved_58 (gl_1 hX 22) (gl_2 hX (a := 22) (by decide)) (gl_s hX 22 rfl) (g32_n T.1 (by decide)) T.1.1 T.1.2 (fun h5 => ?_)
    have T := T.2 h5
    refine wp_iload d_Ed_addMoved_59 rfl ?_
    refine wp_iload_n d_Ed_addMoved_61 rfl rfl ?_
    refine wp_iload d_Ed_addMoved_62 rfl ?_
    refine xcS_I (md' := true) (As := [gI (M (c + 22) (Int.toNat x6)), gI (M (c + 12) (Int.toNat (x5 + x6))), gI x3, gI x4]) (st := []) d_Ed_addMoved_64 ca_Ed_moved ml_Ed_91 sm_Ed_moved rfl (by decide) (by decide) rfl (fun _ => rfl) (fun _ => rfl) T (fun v7 M6 h8 T => ?_)
    refine wp_istore (L' := [.val (gR G (c + 21)), .val (gI x1), .unset, .val (gI x3), .val (gI x4), .val (gI x5), .val (gI x6), .val (gI (M (c + 12) (Int.toNat (x5 + x6)))), .val (gI v7), .unset, .unset]) d_Ed_addMoved_67 (by decide) rfl ?_
    refine wp_iload d_Ed_addMoved_69 rfl ?_
    refine wp_bipush d_Ed_addMoved_71 ⟨by decide, by decide⟩ ?_
    refine wp_iand d_Ed_addMoved_73 ?_
    refine xz_eq (tgt := 81) d_Ed_addMoved_74 (by decide) (w32_id (gAnd_ok _ _)) (fun h21 => ?_) (fun h21 => ?_)
    · have T := T.1 h21
      refine wp_iconst d_Ed_addMoved_81 ?_
      refine wp_istore (L' := [.val (gR G (c + 21)), .val (gI x1), .unset, .val (gI x3), .val (gI x4), .val (gI x5), .val (gI x6), .val (gI (M (c + 12) (Int.toNat (x5 + x6)))), .val (gI v7), .val (gI 0), .unset]) d_Ed_addMoved_82 (by decide) rfl ?_
      refine wp_aload_n d_Ed_addMoved_84 rfl rfl (g_nz (gl_1 hX 21)) ?_
      refine xgetR d_Ed_addMoved_85 gc_Ed f_Ed_23.1 f_Ed_23.2.1 f_Ed_23.2.2.1 (gl_1 hX 21) (gl_2 hX (a := 21) (by decide)) (gl_s hX 21 rfl) f_Ed_23.2.2.2.2.1 hs3.1 ?_
      refine xgetR d_Ed_addMoved_88 gc_St f_Ed_64.1 f_Ed_64.2.1 f_Ed_64.2.2.1 hs3.2.1 (gs_2 hs3.2) hs3.2.2.2.1 f_Ed_64.2.2.2.2.1 (gs_r hs3.2 2 rfl).1 ?_
      refine wp_aload_n d_Ed_addMoved_91 rfl rfl (g_nz (gl_1 hX 21)) ?_
      refine xgetR d_Ed_addMoved_92 gc_Ed f_Ed_23.1 f_Ed_23.2.1 f_Ed_23.2.2.1 (gl_1 hX 21) (gl_2 hX (a := 21) (by decide)) (gl_s hX 21 rfl) f_Ed_23.2.2.2.2.1 hs3.1 ?_
      refine xgetI d_Ed_addMoved_95 gc_St f_Ed_26.1 f_Ed_26.2.1 f_Ed_26.2.2.1 hs3.2.1 (gs_2 hs3.2) hs3.2.2.2.1 f_Ed_26.2.2.2.2.1 (fun h9 => ?_)
      have T := T h9
      refine wp_iaload d_Ed_addMoved_98 (gs_r hs3.2 2 rfl).2.2.1 (gs_r hs3.2 2 rfl).2.2.2 (gs_r hs3.2 2 rfl).2.1 (g32_n T.1 (by decide)) T.1.1 T.1.2 (fun h10 => ?_)
      have T := T.2 h10
      refine wp_iconst d_Ed_addMoved_99 ?_
      refine wp_isub d_Ed_addMoved_100 ?_
      refine wp_istore (L' := [.val (gR G (c + 21)), .val (gI x1), .unset, .val (gI x3), .val (gI x4), .val (gI x5), .val (gI x6), .val (gI (M (c + 12) (Int.toNat (x5 + x6)))), .val (gI v7), .val (gI 0), .val (gI ((M6 (s3 + 3) (Int.toNat (M6 s3 0))) - 1))]) d_Ed_addMoved_101 (by decide) rfl ?_
      refine wp_iload d_Ed_addMoved_103 rfl ?_
      refine xz_eq (tgt := 128) d_Ed_addMoved_105 (by decide) (w32_id (g32_c (x := 0) rfl)) (fun h14 => ?_) (fun h14 => ?_)
      · have T := T.1 h14
        exact wp_md (wpt T (And.intro rfl (And.intro rfl (And.intro rfl (And.intro rfl (And.intro rfl (And.intro rfl (And.intro rfl (And.intro rfl (And.intro (gI_w _) True.intro))))))))))
      · have T := T.2 h14
        refine wp_aload_n d_Ed_addMoved_108 rfl rfl (g_nz (gl_1 hX 21)) ?_
        refine xgetR d_Ed_addMoved_109 gc_Ed f_Ed_23.1 f_Ed_23.2.1 f_Ed_23.2.2.1 (gl_1 hX 21) (gl_2 hX (a := 21) (by decide)) (gl_s hX 21 rfl) f_Ed_23.2.2.2.2.1 hs3.1 ?_
        refine xgetR d_Ed_addMoved_112 gc_St f_Ed_63.1 f_Ed_63.2.1 f_Ed_63.2.2.1 hs3.2.1 (gs_2 hs3.2) hs3.2.2.2.1 f_Ed_63.2.2.2.2.1 (gs_r hs3.2 3 rfl).1 ?_
        refine wp_iload d_Ed_addMoved_115 rfl ?_
        refine wp_iaload d_Ed_addMoved_117 (gs_r hs3.2 3 rfl).2.2.1 (gs_r hs3.2 3 rfl).2.2.2 (gs_r hs3.2 3 rfl).2.1 (g32_n T.1 (by decide)) T.1.1 T.1.2 (fun h11 => ?_)
        have T := T.2 h11
        refine wp_iconst d_Ed_addMoved_118 ?_
        refine xi_ne (tgt := 128) d_Ed_addMoved_119 (by decide) (w32_id h11) (w32_id (g32_c (x := (-1)) rfl)) (fun h13 => ?_) (fun h13 => ?_)
        · have T := T.1 h13
          exact wp_md (wpt T (And.intro rfl (And.intro rfl (And.intro rfl (And.intro rfl (And.intro rfl (And.intro rfl (And.intro rfl (And.intro rfl (And.intro (gI_w _) True.intro))))))))))
        · have T := T.2 h13
          refine wp_iconst d_Ed_addMoved_122 ?_
          refine wp_istore (L' := [.val (gR G (c + 21)), .val (gI x1), .unset, .val (gI x3), .val (gI x4), .val (gI x5), .val (gI x6), .val (gI (M (c + 12) (Int.toNat (x5 + x6)))), .val (gI (-1)), .val (gI 0), .val (gI ((M6 (s3 + 3) (Int.toNat (M6 s3 0))) - 1))]) d_Ed_addMoved_123 (by decide) rfl ?_
          refine wp_goto (tgt := 150) d_Ed_addMoved_125 (by decide) ?_
          refine wp_aload_n d_Ed_addMoved_150 rfl rfl (g_nz (gl_1 hX 21)) ?_
          refine xgetR d_Ed_addMoved_151 gc_Ed f_Ed_23.1 f_Ed_23.2.1 f_Ed_23.2.2.1 (gl_1 hX 21) (gl_2 hX (a := 21) (by decide)) (gl_s hX 21 rfl) f_Ed_23.2.2.2.2.1 hs3.1 ?_
          refine wp_iload d_Ed_addMoved_154 rfl ?_
          refine xcV_V (md' := true) (As := [gI (-1)]) (st := []) d_Ed_addMoved_156 ca_St_addTarget ml_Ed_95 im_St_addTarget se_St_addTarget gc_St hs3.2.1 (gs_2 hs3.2) hs3.2.2.2.1 rfl (by decide) (by decide) rfl (fun _ => rfl) (fun _ => rfl) T (fun M12 T => ?_)
          refine wp_iinc (L' := [.val (gR G (c + 21)), .val (gI x1), .unset, .val (gI x3), .val (gI x4), .val (gI x5), .val (gI (x6 + 1)), .val (gI (M (c + 12) (Int.toNat (x5 + x6)))), .val (gI (-1)), .val (gI 0), .val (gI ((M6 (s3 + 3) (Int.toNat (M6 s3 0))) - 1))]) d_Ed_addMoved_159 rfl (by decide) rfl ?_
          refine wp_goto (tgt := 23) d_Ed_addMoved_162 (by decide) ?_
          exact wp_md (wpt T (And.intro rfl (And.intro rfl (And.intro rfl (And.intro rfl (And.intro rfl (And.intro (gI_w _) True.intro)))))))
    · have T := T.2 h21
      refine wp_iconst d_Ed_addMoved_77 ?_
      refine wp_goto (tgt := 82) d_Ed_addMoved_78 (by decide) ?_
      refine wp_istore (L' := [.val (gR G (c + 21)), .val (gI x1), .unset, .val (gI x3), .val (gI x4), .val (gI x5), .val (gI x6), .val (gI (M (c + 12) (Int.toNat (x5 + x6)))), .val (gI v7), .val (gI 1), .unset]) d_Ed_addMoved_82 (by decide) rfl ?_
      refine wp_aload_n d_Ed_addMoved_84 rfl rfl (g_nz (gl_1 hX 21)) ?_
      refine xgetR d_Ed_addMoved_85 gc_Ed f_Ed_23.1 f_Ed_23.2.1 f_Ed_23.2.2.1 (gl_1 hX 21) (gl_2 hX (a := 21) (by decide)) (gl_s hX 21 rfl) f_Ed_23.2.2.2.2.1 hs3.1 ?_
      refine xgetR d_Ed_addMoved_88 gc_St f_Ed_64.1 f_Ed_64.2.1 f_Ed_64.2.2.1 hs3.2.1 (gs_2 hs3.2) hs3.2.2.2.1 f_Ed_64.2.2.2.2.1 (gs_r hs3.2 2 rfl).1 ?_
      refine wp_aload_n d_Ed_addMoved_91 rfl rfl (g_nz (gl_1 hX 21)) ?_
      refine xgetR d_Ed_addMoved_92 gc_Ed f_Ed_23.1 f_Ed_23.2.1 f_Ed_23.2.2.1 (gl_1 hX 21) (gl_2 hX (a := 21) (by decide)) (gl_s hX 21 rfl) f_Ed_23.2.2.2.2.1 hs3.1 ?_
      refine xgetI d_Ed_addMoved_95 gc_St f_Ed_26.1 f_Ed_26.2.1 f_Ed_26.2.2.1 hs3.2.1 (gs_2 hs3.2) hs3.2.2.2.1 f_Ed_26.2.2.2.2.1 (fun h15 => ?_)
      have T := T h15
      refine wp_iaload d_Ed_addMoved_98 (gs_r hs3.2 2 rfl).2.2.1 (gs_r hs3.2 2 rfl).2.2.2 (gs_r hs3.2 2 rfl).2.1 (g32_n T.1 (by decide)) T.1.1 T.1.2 (fun h16 => ?_)
      have T := T.2 h16
      refine wp_iconst d_Ed_addMoved_99 ?_
      refine wp_isub d_Ed_addMoved_100 ?_
      refine wp_istore (L' := [.val (gR G (c + 21)), .val (gI x1), .unset, .val (gI x3), .val (gI x4), .val (gI x5), .val (gI x6), .val (gI (M (c + 12) (Int.toNat (x5 + x6)))), .val (gI v7), .val (gI 1), .val (gI ((M6 (s3 + 3) (Int.toNat (M6 s3 0))) - 1))]) d_Ed_addMoved_101 (by decide) rfl ?_
      refine wp_iload d_Ed_addMoved_103 rfl ?_
      refine xz_eq (tgt := 128) d_Ed_addMoved_105 (by decide) (w32_id (g32_c (x := 1) rfl)) (fun h20 => ?_) (fun h20 => ?_)
      · have T := T.1 h20
        exact wp_md (wpt T (And.intro rfl (And.intro rfl (And.intro rfl (And.intro rfl (And.intro rfl (And.intro rfl (And.intro rfl (And.intro rfl (And.intro (gI_w _) True.intro))))))))))
      · have T := T.2 h20
        refine wp_aload_n d_Ed_addMoved_108 rfl rfl (g_nz (gl_1 hX 21)) ?_
        refine xgetR d_Ed_addMoved_109 gc_Ed f_Ed_23.1 f_Ed_23.2.1 f_Ed_23.2.2.1 (gl_1 hX 21) (gl_2 hX (a := 21) (by decide)) (gl_s hX 21 rfl) f_Ed_23.2.2.2.2.1 hs3.1 ?_
        refine xgetR d_Ed_addMoved_112 gc_St f_Ed_63.1 f_Ed_63.2.1 f_Ed_63.2.2.1 hs3.2.1 (gs_2 hs3.2) hs3.2.2.2.1 f_Ed_63.2.2.2.2.1 (gs_r hs3.2 3 rfl).1 ?_
        refine wp_iload d_Ed_addMoved_115 rfl ?_
        refine wp_iaload d_Ed_addMoved_117 (gs_r hs3.2 3 rfl).2.2.1 (gs_r hs3.2 3 rfl).2.2.2 (gs_r hs3.2 3 rfl).2.1 (g32_n T.1 (by decide)) T.1.1 T.1.2 (fun h17 => ?_)
        have T := T.2 h17
        refine wp_iconst d_Ed_addMoved_118 ?_
        refine xi_ne (tgt := 128) d_Ed_addMoved_119 (by decide) (w32_id h17) (w32_id (g32_c (x := (-1)) rfl)) (fun h19 => ?_) (fun h19 => ?_)
        · have T := T.1 h19
          exact wp_md (wpt T (And.intro rfl (And.intro rfl (And.intro rfl (And.intro rfl (And.intro rfl (And.intro rfl (And.intro rfl (And.intro rfl (And.intro (gI_w _) True.intro))))))))))
        · have T := T.2 h19
          refine wp_iconst d_Ed_addMoved_122 ?_
          refine wp_istore (L' := [.val (gR G (c + 21)), .val (gI x1), .unset, .val (gI x3), .val (gI x4), .val (gI x5), .val (gI x6), .val (gI (M (c + 12) (Int.toNat (x5 + x6)))), .val (gI (-1)), .val (gI 1), .val (gI ((M6 (s3 + 3) (Int.toNat (M6 s3 0))) - 1))]) d_Ed_addMoved_123 (by decide) rfl ?_
          refine wp_goto (tgt := 150) d_Ed_addMoved_125 (by decide) ?_
          refine wp_aload_n d_Ed_addMoved_150 rfl rfl (g_nz (gl_1 hX 21)) ?_
          refine xgetR d_Ed_addMoved_151 gc_Ed f_Ed_23.1 f_Ed_23.2.1 f_Ed_23.2.2.1 (gl_1 hX 21) (gl_2 hX (a := 21) (by decide)) (gl_s hX 21 rfl) f_Ed_23.2.2.2.2.1 hs3.1 ?_
          refine wp_iload d_Ed_addMoved_154 rfl ?_
          refine xcV_V (md' := true) (As := [gI (-1)]) (st := []) d_Ed_addMoved_156 ca_St_addTarget ml_Ed_95 im_St_addTarget se_St_addTarget gc_St hs3.2.1 (gs_2 hs3.2) hs3.2.2.2.1 rfl (by decide) (by decide) rfl (fun _ => rfl) (fun _ => rfl) T (fun M18 T => ?_)
          refine wp_iinc (L' := [.val (gR G (c + 21)), .val (gI x1), .unset, .val (gI x3), .val (gI x4), .val (gI x5), .val (gI (x6 + 1)), .val (gI (M (c + 12) (Int.toNat (x5 + x6)))), .val (gI (-1)), .val (gI 1), .val (gI ((M6 (s3 + 3) (Int.toNat (M6 s3 0))) - 1))]) d_Ed_addMoved_159 rfl (by decide) rfl ?_
          refine wp_goto (tgt := 23) d_Ed_addMoved_162 (by decide) ?_
          exact wp_md (wpt T (And.intro rfl (And.intro rfl (And.intro rfl (And.intro rfl (And.intro rfl (And.intro (gI_w _) True.intro)))))))
set_option maxHeartbeats 4000000 in
theorem w_Ed_addMoved_128 {l : Launch} {G : gG} {d : Nat} {X : gX} {M : gM} {k : gM → Prop} {c : Nat} (hX : glX X c) {x1 : Int} (hx1 : g32 x1) {x3 : Int} (hx3 : g32 x3) {x4 : Int} (hx4 : g32 x4) {x5 : Int} (hx5 : g32 x5) {x6 : Int} (hx6 : g32 x6) {x8 : Int} (hx8 : g32 x8) {x9 : Int} (hx9 : g32 x9) {x10 : Int} (hx10 : g32 x10) {s3 : Nat} (hs3 : X.2.2 (c + 21) 3 = s3 ∧ gsX X s3) (T : (x9 = 0 → (cV l G y_St_addTarget (gRm d) true [gR G s3, gI x8] X M (fun M23 => (wp l G y_Ed_addMoved (gRm (d + 1)) true (kkV X k) true 23 [.val (gR G (c + 21)), .val (gI x1), .unset, .val (gI x3), .val (gI x4), .val (gI x5), .val (gI (w32 (x6 + 1))), .unset, .unset, .unset, .unset] [] X M23 0 0)))) ∧ (¬ x9 = 0 → ((¬ x8 = (-1) → (cV l G y_St_addTarget (gRm d) true [gR G s3, gI x8] X M (fun M24 => (wp l G y_Ed_addMoved (gRm (d + 1)) true (kkV X k) true 23 [.val (gR G (c + 21)), .val (gI x1), .unset, .val (gI x3), .val (gI x4), .val (gI x5), .val (gI (w32 (x6 + 1))), .unset, .unset, .unset, .unset] [] X M24 0 0)))) ∧ (x8 = (-1) → (((0 : Int) ≤ x10 ∧ x10 < 20000) ∧ (cV l G y_St_addTarget (gRm d) true [gR G s3, gI x8] X (gUp M (s3 + 4) (Int.toNat x10) (-1)) (fun M25 => (wp l G y_Ed_addMoved (gRm (d + 1)) true (kkV X k) true 23 [.val (gR G (c + 21)), .val (gI x1), .unset, .val (gI x3), .val (gI x4), .val (gI x5), .val (gI (w32 (x6 + 1))), .unset, .unset, .unset, .unset] [] X M25 0 0)))))))) : wp l G y_Ed_addMoved (gRm (d + 1)) true (kkV X k) true 128 [.val (gR G (c + 21)), .val (gI x1), .unset, .val (gI x3), .val (gI x4), .val (gI x5), .val (gI x6), .unset, .val (gI x8), .val (gI x9), .val (gI x10)] [] X M 0 0 := by
  refine wp_iload d_Ed_addMoved_128 rfl ?_
  refine xz_eq (tgt := 150) d_Ed_addMoved_130 (by decide) (w32_id hx9) (fun h27 => ?_) (fun h27 => ?_)
  · have T := T.1 h27
    refine wp_aload_n d_Ed_addMoved_150 rfl rfl (g_nz (gl_1 hX 21)) ?_
    refine xgetR d_Ed_addMoved_151 gc_Ed f_Ed_23.1 f_Ed_23.2.1 f_Ed_23.2.2.1 (gl_1 hX 21) (gl_2 hX (a := 21) (by decide)) (gl_s hX 21 rfl) f_Ed_23.2.2.2.2.1 hs3.1 ?_
    refine wp_iload d_Ed_addMoved_154 rfl ?_
    refine xcV_V (md' := true) (As := [gI x8]) (st := []) d_Ed_addMoved_156 ca_St_addTarget ml_Ed_95 im_St_addTarget se_St_addTarget gc_St hs3.2.1 (gs_2 hs3.2) hs3.2.2.2.1 rfl (by decide) (by decide) rfl (fun _ => rfl) (fun _ => rfl) T (fun M23 T => ?_)
    refine wp_iinc (L' := [.val (gR G (c + 21)), .val (gI x1), .unset, .val (gI x3), .val (gI x4), .val (gI x5), .val (gI (x6 + 1)), .unset, .val (gI x8), .val (gI x9), .val (gI x10)]) d_Ed_addMoved_159 rfl (by decide) rfl ?_
    refine wp_goto (tgt := 23) d_Ed_addMoved_162 (by decide) ?_
    exact wp_md (wpt T (And.intro rfl (And.intro rfl (And.intro rfl (And.intro rfl (And.intro rfl (And.intro (gI_w _) True.intro)))))))
  · have T := T.2 h27
    refine wp_iload d_Ed_addMoved_133 rfl ?_
    refine wp_iconst d_Ed_addMoved_135 ?_
    refine xi_ne (tgt := 150) d_Ed_addMoved_136 (by decide) (w32_id hx8) (w32_id (g32_c (x := (-1)) rfl)) (fun h26 => ?_) (fun h26 => ?_)
    · have T := T.1 h26
      refine wp_aload_n d_Ed_addMoved_150 rfl rfl (g_nz (gl_1 hX 21)) ?_
      refine xgetR d_Ed_addMoved_151 gc_Ed f_Ed_23.1 f_Ed_23.2.1 f_Ed_23.2.2.1 (gl_1 hX 21) (gl_2 hX (a := 21) (by decide)) (gl_s hX 21 rfl) f_Ed_23.2.2.2.2.1 hs3.1 ?_
      refine wp_iload d_Ed_addMoved_154 rfl ?_
      refine xcV_V (md' := true) (As := [gI x8]) (st := []) d_Ed_addMoved_156 ca_St_addTarget ml_Ed_95 im_St_addTarget se_St_addTarget gc_St hs3.2.1 (gs_2 hs3.2) hs3.2.2.2.1 rfl (by decide) (by decide) rfl (fun _ => rfl) (fun _ => rfl) T (fun M24 T => ?_)
      refine wp_iinc (L' := [.val (gR G (c + 21)), .val (gI x1), .unset, .val (gI x3), .val (gI x4), .val (gI x5), .val (gI (x6 + 1)), .unset, .val (gI x8), .val (gI x9), .val (gI x10)]) d_Ed_addMoved_159 rfl (by decide) rfl ?_
      refine wp_goto (tgt := 23) d_Ed_addMoved_162 (by decide) ?_
      exact wp_md (wpt T (And.intro rfl (And.intro rfl (And.intro rfl (And.intro rfl (And.intro rfl (And.intro (gI_w _) True.intro)))))))
    · have T := T.2 h26
      refine wp_aload_n d_Ed_addMoved_139 rfl rfl (g_nz (gl_1 hX 21)) ?_
      refine xgetR d_Ed_addMoved_140 gc_Ed f_Ed_23.1 f_Ed_23.2.1 f_Ed_23.2.2.1 (gl_1 hX 21) (gl_2 hX (a := 21) (by decide)) (gl_s hX 21 rfl) f_Ed_23.2.2.2.2.1 hs3.1 ?_
      refine xgetR d_Ed_addMoved_143 gc_St f_Ed_63.1 f_Ed_63.2.1 f_Ed_63.2.2.1 hs3.2.1 (gs_2 hs3.2) hs3.2.2.2.1 f_Ed_63.2.2.2.2.1 (gs_r hs3.2 3 rfl).1 ?_
      refine wp_iload d_Ed_addMoved_146 rfl ?_
      refine wp_iconst d_Ed_addMoved_148 ?_
      refine xiast d_Ed_addMoved_149 (gs_r hs3.2 3 rfl).2.2.1 (gs_r hs3.2 3 rfl).2.2.2 (gs_r hs3.2 3 rfl).2.1 (by decide) T.1 (w32_id (g32_c (x := (-1)) rfl)) ?_
      have T := T.2
      refine wp_aload_n d_Ed_addMoved_150 rfl rfl (g_nz (gl_1 hX 21)) ?_
      refine xgetR d_Ed_addMoved_151 gc_Ed f_Ed_23.1 f_Ed_23.2.1 f_Ed_23.2.2.1 (gl_1 hX 21) (gl_2 hX (a := 21) (by decide)) (gl_s hX 21 rfl) f_Ed_23.2.2.2.2.1 hs3.1 ?_
      refine wp_iload d_Ed_addMoved_154 rfl ?_
      refine xcV_V (md' := true) (As := [gI x8]) (st := []) d_Ed_addMoved_156 ca_St_addTarget ml_Ed_95 im_St_addTarget se_St_addTarget gc_St hs3.2.1 (gs_2 hs3.2) hs3.2.2.2.1 rfl (by decide) (by decide) rfl (fun _ => rfl) (fun _ => rfl) T (fun M25 T => ?_)
      refine wp_iinc (L' := [.val (gR G (c + 21)), .val (gI x1), .unset, .val (gI x3), .val (gI x4), .val (gI x5), .val (gI (x6 + 1)), .unset, .val (gI x8), .val (gI x9), .val (gI x10)]) d_Ed_addMoved_159 rfl (by decide) rfl ?_
      refine wp_goto (tgt := 23) d_Ed_addMoved_162 (by decide) ?_
      exact wp_md (wpt T (And.intro rfl (And.intro rfl (And.intro rfl (And.intro rfl (And.intro rfl (And.intro (gI_w _) True.intro)))))))
theorem e_Ed_addMoved {l : Launch} {G : gG} {d : Nat} {X : gX} {M : gM} {k : gM → Prop} {c : Nat} {x1 : Int} {x2 : Int} {x3 : Int} {x4 : Int} (T : wp l G y_Ed_addMoved (gRm (d + 1)) true (kkV X k) false 0 [.val (gR G (c + 21)), .val (gI x1), .val (gI x2), .val (gI x3), .val (gI x4), .unset, .unset, .unset, .unset, .unset, .unset] [] X M 0 0) : cV l G y_Ed_addMoved (gRm (d + 1)) true [gR G (c + 21), gI x1, gI x2, gI x3, gI x4] X M k := cen_V (plainFor_of_name rfl) (by simp only [lg_sl_R, lg_sl_I, lg_sl_L, lg_sl_N, List.length_cons, List.length_nil]; decide) (by unfold gEn; simp only [lg_sl_R, lg_sl_I, lg_sl_L, lg_sl_N]; exact wpt T (And.intro rfl (And.intro rfl (And.intro rfl (And.intro rfl (And.intro rfl True.intro))))))
theorem d_Ed_moved_0 : decode prog_5_method_7_code 0 = .ok (.iload_n 0, 1) := by decide +kernel
theorem d_Ed_moved_1 : decode prog_5_method_7_code 1 = .ok (.iconst (-1), 1) := by decide +kernel
theorem d_Ed_moved_2 : decode prog_5_method_7_code 2 = .ok (.if_icmp .ne 5, 3) := by decide +kernel
theorem d_Ed_moved_7 : decode prog_5_method_7_code 7 = .ok (.iload_n 0, 1) := by decide +kernel
theorem d_Ed_moved_8 : decode prog_5_method_7_code 8 = .ok (.bipush 26, 2) := by decide +kernel
theorem d_Ed_moved_10 : decode prog_5_method_7_code 10 = .ok (.irem, 1) := by decide +kernel
theorem d_Ed_moved_11 : decode prog_5_method_7_code 11 = .ok (.iload_n 1, 1) := by decide +kernel
theorem d_Ed_moved_12 : decode prog_5_method_7_code 12 = .ok (.iconst 1, 1) := by decide +kernel
theorem d_Ed_moved_13 : decode prog_5_method_7_code 13 = .ok (.iand, 1) := by decide +kernel
theorem d_Ed_moved_14 : decode prog_5_method_7_code 14 = .ok (.ifCond .eq 7, 3) := by decide +kernel
theorem d_Ed_moved_21 : decode prog_5_method_7_code 21 = .ok (.iload_n 2, 1) := by decide +kernel
theorem d_Ed_moved_17 : decode prog_5_method_7_code 17 = .ok (.iconst 0, 1) := by decide +kernel
theorem d_Ed_moved_18 : decode prog_5_method_7_code 18 = .ok (.goto 4, 3) := by decide +kernel
theorem d_Ed_moved_5 : decode prog_5_method_7_code 5 = .ok (.iconst (-1), 1) := by decide +kernel
theorem d_Ed_moved_6 : decode prog_5_method_7_code 6 = .ok (.ireturn, 1) := by decide +kernel
theorem d_Ed_moved_22 : decode prog_5_method_7_code 22 = .ok (.iadd, 1) := by decide +kernel
theorem d_Ed_moved_23 : decode prog_5_method_7_code 23 = .ok (.istore 4, 2) := by decide +kernel
theorem d_Ed_moved_25 : decode prog_5_method_7_code 25 = .ok (.iload_n 0, 1) := by decide +kernel
theorem d_Ed_moved_26 : decode prog_5_method_7_code 26 = .ok (.bipush 26, 2) := by decide +kernel
theorem d_Ed_moved_28 : decode prog_5_method_7_code 28 = .ok (.idiv, 1) := by decide +kernel
theorem d_Ed_moved_29 : decode prog_5_method_7_code 29 = .ok (.iload_n 1, 1) := by decide +kernel
theorem d_Ed_moved_30 : decode prog_5_method_7_code 30 = .ok (.iconst 2, 1) := by decide +kernel
theorem d_Ed_moved_31 : decode prog_5_method_7_code 31 = .ok (.iand, 1) := by decide +kernel
theorem d_Ed_moved_32 : decode prog_5_method_7_code 32 = .ok (.ifCond .eq 7, 3) := by decide +kernel
theorem d_Ed_moved_39 : decode prog_5_method_7_code 39 = .ok (.iload_n 3, 1) := by decide +kernel
theorem d_Ed_moved_40 : decode prog_5_method_7_code 40 = .ok (.iadd, 1) := by decide +kernel
theorem d_Ed_moved_41 : decode prog_5_method_7_code 41 = .ok (.istore 5, 2) := by decide +kernel
theorem d_Ed_moved_43 : decode prog_5_method_7_code 43 = .ok (.iload 4, 2) := by decide +kernel
theorem d_Ed_moved_45 : decode prog_5_method_7_code 45 = .ok (.ifCond .lt 27, 3) := by decide +kernel
theorem d_Ed_moved_48 : decode prog_5_method_7_code 48 = .ok (.iload 4, 2) := by decide +kernel
theorem d_Ed_moved_50 : decode prog_5_method_7_code 50 = .ok (.bipush 26, 2) := by decide +kernel
theorem d_Ed_moved_52 : decode prog_5_method_7_code 52 = .ok (.if_icmp .ge 20, 3) := by decide +kernel
theorem d_Ed_moved_55 : decode prog_5_method_7_code 55 = .ok (.iload 5, 2) := by decide +kernel
theorem d_Ed_moved_57 : decode prog_5_method_7_code 57 = .ok (.ifCond .lt 15, 3) := by decide +kernel
theorem d_Ed_moved_60 : decode prog_5_method_7_code 60 = .ok (.iload 5, 2) := by decide +kernel
theorem d_Ed_moved_62 : decode prog_5_method_7_code 62 = .ok (.sipush 200, 3) := by decide +kernel
theorem d_Ed_moved_65 : decode prog_5_method_7_code 65 = .ok (.if_icmp .ge 7, 3) := by decide +kernel
theorem d_Ed_moved_68 : decode prog_5_method_7_code 68 = .ok (.iconst 1, 1) := by decide +kernel
theorem d_Ed_moved_69 : decode prog_5_method_7_code 69 = .ok (.goto 4, 3) := by decide +kernel
theorem d_Ed_moved_73 : decode prog_5_method_7_code 73 = .ok (.istore 6, 2) := by decide +kernel
theorem d_Ed_moved_75 : decode prog_5_method_7_code 75 = .ok (.iload 6, 2) := by decide +kernel
theorem d_Ed_moved_77 : decode prog_5_method_7_code 77 = .ok (.ifCond .eq 13, 3) := by decide +kernel
theorem d_Ed_moved_90 : decode prog_5_method_7_code 90 = .ok (.iconst (-1), 1) := by decide +kernel
theorem d_Ed_moved_91 : decode prog_5_method_7_code 91 = .ok (.ireturn, 1) := by decide +kernel
theorem d_Ed_moved_80 : decode prog_5_method_7_code 80 = .ok (.iload 4, 2) := by decide +kernel
theorem d_Ed_moved_82 : decode prog_5_method_7_code 82 = .ok (.iload 5, 2) := by decide +kernel
theorem d_Ed_moved_84 : decode prog_5_method_7_code 84 = .ok (.invokestatic 69, 3) := by decide +kernel
theorem d_Ed_moved_87 : decode prog_5_method_7_code 87 = .ok (.goto 4, 3) := by decide +kernel
theorem d_Ed_moved_35 : decode prog_5_method_7_code 35 = .ok (.iconst 0, 1) := by decide +kernel
theorem d_Ed_moved_36 : decode prog_5_method_7_code 36 = .ok (.goto 4, 3) := by decide +kernel
theorem d_Ed_moved_72 : decode prog_5_method_7_code 72 = .ok (.iconst 0, 1) := by decide +kernel
set_option maxHeartbeats 4000000 in
theorem w_Ed_moved_0 {l : Launch} {G : gG} {d : Nat} {X : gX} {M : gM} {k : Int → gM → Prop}  {x0 : Int} (hx0 : g32 x0) {x1 : Int} (hx1 : g32 x1) {x2 : Int} (hx2 : g32 x2) {x3 : Int} (hx3 : g32 x3)  (T : (¬ x0 = (-1) → ((gAnd x1 1 = 0 → (wp l G y_Ed_moved (gRm (d + 1)) false (kkI X k) false 22 [.val (gI x0), .val (gI x1), .unset, .val (gI x3), .unset, .unset, .unset] [gI x2, gI (w32 (x0.tmod 26))] X M 0 0)) ∧ (¬ gAnd x1 1 = 0 → (wp l G y_Ed_moved (gRm (d + 1)) false (kkI X k) false 22 [.val (gI x0), .val (gI x1), .unset, .val (gI x3), .unset, .unset, .unset] [gI 0, gI (w32 (x0.tmod 26))] X M 0 0)))) ∧ (x0 = (-1) → (k (-1) M))) : wp l G y_Ed_moved (gRm (d + 1)) false (kkI X k) false 0 [.val (gI x0), .val (gI x1), .val (gI x2), .val (gI x3), .unset, .unset, .unset] [] X M 0 0 := by
  refine wp_iload_n d_Ed_moved_0 rfl rfl ?_
  refine wp_iconst d_Ed_moved_1 ?_
  refine xi_ne (tgt := 7) d_Ed_moved_2 (by decide) (w32_id hx0) (w32_id (g32_c (x := (-1)) rfl)) (fun h2 => ?_) (fun h2 => ?_)
  · have T := T.1 h2
    refine wp_iload_n d_Ed_moved_7 rfl rfl ?_
    refine wp_bipush d_Ed_moved_8 ⟨by decide, by decide⟩ ?_
    refine xirem d_Ed_moved_10 (w32_id hx0) (w32_id (g32_c (x := 26) rfl)) (by decide) ?_
    refine wp_iload_n d_Ed_moved_11 rfl rfl ?_
    refine wp_iconst d_Ed_moved_12 ?_
    refine wp_iand d_Ed_moved_13 ?_
    refine xz_eq (tgt := 21) d_Ed_moved_14 (by decide) (w32_id (gAnd_ok _ _)) (fun h1 => ?_) (fun h1 => ?_)
    · have T := T.1 h1
      refine wp_iload_n d_Ed_moved_21 rfl rfl ?_
      exact (wp_st (st' := [gI x2, gI (w32 (x0.tmod 26))]) (by simp only [gI_w, gL_w]) (wpt T (And.intro rfl (And.intro rfl (And.intro rfl True.intro)))))
    · have T := T.2 h1
      refine wp_iconst d_Ed_moved_17 ?_
      refine wp_goto (tgt := 22) d_Ed_moved_18 (by decide) ?_
      exact (wp_st (st' := [gI 0, gI (w32 (x0.tmod 26))]) (by simp only [gI_w, gL_w]) (wpt T (And.intro rfl (And.intro rfl (And.intro rfl True.intro)))))
  · have T := T.2 h2
    refine wp_iconst d_Ed_moved_5 ?_
    exact wp_ireturn d_Ed_moved_6 rfl id (Nat.zero_le _) (Nat.zero_le _) (kI_mk (g32_c (x := (-1)) rfl) T)
set_option maxHeartbeats 4000000 in
theorem w_Ed_moved_22 {l : Launch} {G : gG} {d : Nat} {X : gX} {M : gM} {k : Int → gM → Prop}  {x0 : Int} (hx0 : g32 x0) {x1 : Int} (hx1 : g32 x1) {x3 : Int} (hx3 : g32 x3) {s0 : Int} (hs0 : g32 s0) {s1 : Int} (hs1 : g32 s1)  (T : (gAnd x1 2 = 0 → (((w32 (s1 + s0)) < 0 → (wp l G y_Ed_moved (gRm (d + 1)) false (kkI X k) false 72 [.unset, .unset, .unset, .unset, .val (gI (w32 (s1 + s0))), .val (gI (w32 ((x0.tdiv 26) + x3))), .unset] [] X M 0 0)) ∧ (¬ (w32 (s1 + s0)) < 0 → ((26 ≤ (w32 (s1 + s0)) → (wp l G y_Ed_moved (gRm (d + 1)) false (kkI X k) false 72 [.unset, .unset, .unset, .unset, .val (gI (w32 (s1 + s0))), .val (gI (w32 ((x0.tdiv 26) + x3))), .unset] [] X M 0 0)) ∧ (¬ 26 ≤ (w32 (s1 + s0)) → (((w32 ((x0.tdiv 26) + x3)) < 0 → (wp l G y_Ed_moved (gRm (d + 1)) false (kkI X k) false 72 [.unset, .unset, .unset, .unset, .val (gI (w32 (s1 + s0))), .val (gI (w32 ((x0.tdiv 26) + x3))), .unset] [] X M 0 0)) ∧ (¬ (w32 ((x0.tdiv 26) + x3)) < 0 → ((200 ≤ (w32 ((x0.tdiv 26) + x3)) → (wp l G y_Ed_moved (gRm (d + 1)) false (kkI X k) false 72 [.unset, .unset, .unset, .unset, .val (gI (w32 (s1 + s0))), .val (gI (w32 ((x0.tdiv 26) + x3))), .unset] [] X M 0 0)) ∧ (¬ 200 ≤ (w32 ((x0.tdiv 26) + x3)) → (((1 : Int) = 0 → (k (-1) M)) ∧ (¬ (1 : Int) = 0 → (cI l G y_GL_place (gRm d) false [gI (s1 + s0), gI ((x0.tdiv 26) + x3)] X M (fun v4 M3 => (k v4 M3)))))))))))))) ∧ (¬ gAnd x1 2 = 0 → (((w32 (s1 + s0)) < 0 → (wp l G y_Ed_moved (gRm (d + 1)) false (kkI X k) false 72 [.unset, .unset, .unset, .unset, .val (gI (w32 (s1 + s0))), .val (gI (w32 ((x0.tdiv 26) + 0))), .unset] [] X M 0 0)) ∧ (¬ (w32 (s1 + s0)) < 0 → ((26 ≤ (w32 (s1 + s0)) → (wp l G y_Ed_moved (gRm (d + 1)) false (kkI X k) false 72 [.unset, .unset, .unset, .unset, .val (gI (w32 (s1 + s0))), .val (gI (w32 ((x0.tdiv 26) + 0))), .unset] [] X M 0 0)) ∧ (¬ 26 ≤ (w32 (s1 + s0)) → (((w32 ((x0.tdiv 26) + 0)) < 0 → (wp l G y_Ed_moved (gRm (d + 1)) false (kkI X k) false 72 [.unset, .unset, .unset, .unset, .val (gI (w32 (s1 + s0))), .val (gI (w32 ((x0.tdiv 26) + 0))), .unset] [] X M 0 0)) ∧ (¬ (w32 ((x0.tdiv 26) + 0)) < 0 → ((200 ≤ (w32 ((x0.tdiv 26) + 0)) → (wp l G y_Ed_moved (gRm (d + 1)) false (kkI X k) false 72 [.unset, .unset, .unset, .unset, .val (gI (w32 (s1 + s0))), .val (gI (w32 ((x0.tdiv 26) + 0))), .unset] [] X M 0 0)) ∧ (¬ 200 ≤ (w32 ((x0.tdiv 26) + 0)) → (((1 : Int) = 0 → (k (-1) M)) ∧ (¬ (1 : Int) = 0 → (cI l G y_GL_place (gRm d) false [gI (s1 + s0), gI ((x0.tdiv 26) + 0)] X M (fun v12 M11 => (k v12 M11))))))))))))))) : wp l G y_Ed_moved (gRm (d + 1)) false (kkI X k) false 22 [.val (gI x0), .val (gI x1), .unset, .val (gI x3), .unset, .unset, .unset] [gI s0, gI s1] X M 0 0 := by
  refine wp_iadd d_Ed_moved_22 ?_
  refine wp_istore (L' := [.val (gI x0), .val (gI x1), .unset, .val (gI x3), .val (gI (s1 + s0)), .unset, .unset]) d_Ed_moved_23 (by decide) rfl ?_
  refine wp_iload_n d_Ed_moved_25 rfl rfl ?_
  refine wp_bipush d_Ed_moved_26 ⟨by decide, by decide⟩ ?_
  refine xidiv d_Ed_moved_28 (w32_id hx0) (w32_id (g32_c (x := 26) rfl)) (by decide) ?_
  refine wp_iload_n d_Ed_moved_29 rfl rfl ?_
  refine wp_iconst d_Ed_moved_30 ?_
  refine wp_iand d_Ed_moved_31 ?_
  refine xz_eq (tgt := 39) d_Ed_moved_32 (by decide) (w32_id (gAnd_ok _ _)) (fun h19 => ?_) (fun h19 => ?_)
  · have T := T.1 h19
    refine wp_iload_n d_Ed_moved_39 rfl rfl ?_
    refine wp_iadd d_Ed_moved_40 ?_
    refine wp_istore (L' := [.val (gI x0), .val (gI x1), .unset, .val (gI x3), .val (gI (s1 + s0)), .val (gI ((x0.tdiv 26) + x3)), .unset]) d_Ed_moved_41 (by decide) rfl ?_
    refine wp_iload d_Ed_moved_43 rfl ?_
    refine xz_lt (tgt := 72) d_Ed_moved_45 (by decide) rfl (fun h10 => ?_) (fun h10 => ?_)
    · have T := T.1 h10
      exact (wpt T (And.intro (gI_w _) (And.intro (gI_w _) True.intro)))
    · have T := T.2 h10
      refine wp_iload d_Ed_moved_48 rfl ?_
      refine wp_bipush d_Ed_moved_50 ⟨by decide, by decide⟩ ?_
      refine xi_ge (tgt := 72) d_Ed_moved_52 (by decide) rfl (w32_id (g32_c (x := 26) rfl)) (fun h9 => ?_) (fun h9 => ?_)
      · have T := T.1 h9
        exact (wpt T (And.intro (gI_w _) (And.intro (gI_w _) True.intro)))
      · have T := T.2 h9
        refine wp_iload d_Ed_moved_55 rfl ?_
        refine xz_lt (tgt := 72) d_Ed_moved_57 (by decide) rfl (fun h8 => ?_) (fun h8 => ?_)
        · have T := T.1 h8
          exact (wpt T (And.intro (gI_w _) (And.intro (gI_w _) True.intro)))
        · have T := T.2 h8
          refine wp_iload d_Ed_moved_60 rfl ?_
          refine wp_sipush d_Ed_moved_62 ⟨by decide, by decide⟩ ?_
          refine xi_ge (tgt := 72) d_Ed_moved_65 (by decide) rfl (w32_id (g32_c (x := 200) rfl)) (fun h7 => ?_) (fun h7 => ?_)
          · have T := T.1 h7
            exact (wpt T (And.intro (gI_w _) (And.intro (gI_w _) True.intro)))
          · have T := T.2 h7
            refine wp_iconst d_Ed_moved_68 ?_
            refine wp_goto (tgt := 73) d_Ed_moved_69 (by decide) ?_
            refine wp_istore (L' := [.val (gI x0), .val (gI x1), .unset, .val (gI x3), .val (gI (s1 + s0)), .val (gI ((x0.tdiv 26) + x3)), .val (gI 1)]) d_Ed_moved_73 (by decide) rfl ?_
            refine wp_iload d_Ed_moved_75 rfl ?_
            refine xz_eq (tgt := 90) d_Ed_moved_77 (by decide) (w32_id (g32_c (x := 1) rfl)) (fun h6 => ?_) (fun h6 => ?_)
            · have T := T.1 h6
              refine wp_iconst d_Ed_moved_90 ?_
              exact wp_ireturn d_Ed_moved_91 rfl id (Nat.zero_le _) (Nat.zero_le _) (kI_mk (g32_c (x := (-1)) rfl) T)
            · have T := T.2 h6
              refine wp_iload d_Ed_moved_80 rfl ?_
              refine wp_iload d_Ed_moved_82 rfl ?_
              refine xcN_I (md' := false) (As := [gI (s1 + s0), gI ((x0.tdiv 26) + x3)]) (st := []) d_Ed_moved_84 ca_GL_place ml_Ed_69 sm_GL_place rfl (by decide) (by decide) rfl id id T (fun v4 M3 h5 T => ?_)
              refine wp_goto (tgt := 91) d_Ed_moved_87 (by decide) ?_
              exact wp_ireturn d_Ed_moved_91 rfl id (Nat.zero_le _) (Nat.zero_le _) (kI_mk h5 T)
  · have T := T.2 h19
    refine wp_iconst d_Ed_moved_35 ?_
    refine wp_goto (tgt := 40) d_Ed_moved_36 (by decide) ?_
    refine wp_iadd d_Ed_moved_40 ?_
    refine wp_istore (L' := [.val (gI x0), .val (gI x1), .unset, .val (gI x3), .val (gI (s1 + s0)), .val (gI ((x0.tdiv 26) + 0)), .unset]) d_Ed_moved_41 (by decide) rfl ?_
    refine wp_iload d_Ed_moved_43 rfl ?_
    refine xz_lt (tgt := 72) d_Ed_moved_45 (by decide) rfl (fun h18 => ?_) (fun h18 => ?_)
    · have T := T.1 h18
      exact (wpt T (And.intro (gI_w _) (And.intro (gI_w _) True.intro)))
    · have T := T.2 h18
      refine wp_iload d_Ed_moved_48 rfl ?_
      refine wp_bipush d_Ed_moved_50 ⟨by decide, by decide⟩ ?_
      refine xi_ge (tgt := 72) d_Ed_moved_52 (by decide) rfl (w32_id (g32_c (x := 26) rfl)) (fun h17 => ?_) (fun h17 => ?_)
      · have T := T.1 h17
        exact (wpt T (And.intro (gI_w _) (And.intro (gI_w _) True.intro)))
      · have T := T.2 h17
        refine wp_iload d_Ed_moved_55 rfl ?_
        refine xz_lt (tgt := 72) d_Ed_moved_57 (by decide) rfl (fun h16 => ?_) (fun h16 => ?_)
        · have T := T.1 h16
          exact (wpt T (And.intro (gI_w _) (And.intro (gI_w _) True.intro)))
        · have T := T.2 h16
          refine wp_iload d_Ed_moved_60 rfl ?_
          refine wp_sipush d_Ed_moved_62 ⟨by decide, by decide⟩ ?_
          refine xi_ge (tgt := 72) d_Ed_moved_65 (by decide) rfl (w32_id (g32_c (x := 200) rfl)) (fun h15 => ?_) (fun h15 => ?_)
          · have T := T.1 h15
            exact (wpt T (And.intro (gI_w _) (And.intro (gI_w _) True.intro)))
          · have T := T.2 h15
            refine wp_iconst d_Ed_moved_68 ?_
            refine wp_goto (tgt := 73) d_Ed_moved_69 (by decide) ?_
            refine wp_istore (L' := [.val (gI x0), .val (gI x1), .unset, .val (gI x3), .val (gI (s1 + s0)), .val (gI ((x0.tdiv 26) + 0)), .val (gI 1)]) d_Ed_moved_73 (by decide) rfl ?_
            refine wp_iload d_Ed_moved_75 rfl ?_
            refine xz_eq (tgt := 90) d_Ed_moved_77 (by decide) (w32_id (g32_c (x := 1) rfl)) (fun h14 => ?_) (fun h14 => ?_)
            · have T := T.1 h14
              refine wp_iconst d_Ed_moved_90 ?_
              exact wp_ireturn d_Ed_moved_91 rfl id (Nat.zero_le _) (Nat.zero_le _) (kI_mk (g32_c (x := (-1)) rfl) T)
            · have T := T.2 h14
              refine wp_iload d_Ed_moved_80 rfl ?_
              refine wp_iload d_Ed_moved_82 rfl ?_
              refine xcN_I (md' := false) (As := [gI (s1 + s0), gI ((x0.tdiv 26) + 0)]) (st := []) d_Ed_moved_84 ca_GL_place ml_Ed_69 sm_GL_place rfl (by decide) (by decide) rfl id id T (fun v12 M11 h13 T => ?_)
              refine wp_goto (tgt := 91) d_Ed_moved_87 (by decide) ?_
              exact wp_ireturn d_Ed_moved_91 rfl id (Nat.zero_le _) (Nat.zero_le _) (kI_mk h13 T)
set_option maxHeartbeats 4000000 in
theorem w_Ed_moved_72 {l : Launch} {G : gG} {d : Nat} {X : gX} {M : gM} {k : Int → gM → Prop}  {x4 : Int} (hx4 : g32 x4) {x5 : Int} (hx5 : g32 x5)  (T : ((0 : Int) = 0 → (k (-1) M)) ∧ (¬ (0 : Int) = 0 → (cI l G y_GL_place (gRm d) false [gI x4, gI x5] X M (fun v21 M20 => (k v21 M20))))) : wp l G y_Ed_moved (gRm (d + 1)) false (kkI X k) false 72 [.unset, .unset, .unset, .unset, .val (gI x4), .val (gI x5), .unset] [] X M 0 0 := by
  refine wp_iconst d_Ed_moved_72 ?_
  refine wp_istore (L' := [.unset, .unset, .unset, .unset, .val (gI x4), .val (gI x5), .val (gI 0)]) d_Ed_moved_73 (by decide) rfl ?_
  refine wp_iload d_Ed_moved_75 rfl ?_
  refine xz_eq (tgt := 90) d_Ed_moved_77 (by decide) (w32_id (g32_c (x := 0) rfl)) (fun h23 => ?_) (fun h23 => ?_)
  · have T := T.1 h23
    refine wp_iconst d_Ed_moved_90 ?_
    exact wp_ireturn d_Ed_moved_91 rfl id (Nat.zero_le _) (Nat.zero_le _) (kI_mk (g32_c (x := (-1)) rfl) T)
  · have T := T.2 h23
    refine wp_iload d_Ed_moved_80 rfl ?_
    refine wp_iload d_Ed_moved_82 rfl ?_
    refine xcN_I (md' := false) (As := [gI x4, gI x5]) (st := []) d_Ed_moved_84 ca_GL_place ml_Ed_69 sm_GL_place rfl (by decide) (by decide) rfl id id T (fun v21 M20 h22 T => ?_)
    refine wp_goto (tgt := 91) d_Ed_moved_87 (by decide) ?_
    exact wp_ireturn d_Ed_moved_91 rfl id (Nat.zero_le _) (Nat.zero_le _) (kI_mk h22 T)
theorem e_Ed_moved {l : Launch} {G : gG} {d : Nat} {X : gX} {M : gM} {k : Int → gM → Prop}  {x0 : Int} {x1 : Int} {x2 : Int} {x3 : Int} (T : wp l G y_Ed_moved (gRm (d + 1)) false (kkI X k) false 0 [.val (gI x0), .val (gI x1), .val (gI x2), .val (gI x3), .unset, .unset, .unset] [] X M 0 0) : cI l G y_Ed_moved (gRm (d + 1)) false [gI x0, gI x1, gI x2, gI x3] X M k := cen_I (plainFor_of_name rfl) (by simp only [lg_sl_R, lg_sl_I, lg_sl_L, lg_sl_N, List.length_cons, List.length_nil]; decide) (by unfold gEn; simp only [lg_sl_R, lg_sl_I, lg_sl_L, lg_sl_N]; exact wpt T (And.intro rfl (And.intro rfl (And.intro rfl (And.intro rfl True.intro)))))
theorem d_Ed_shifted_0 : decode prog_5_method_8_code 0 = .ok (.aload_n 0, 1) := by decide +kernel
theorem d_Ed_shifted_1 : decode prog_5_method_8_code 1 = .ok (.iload_n 1, 1) := by decide +kernel
theorem d_Ed_shifted_2 : decode prog_5_method_8_code 2 = .ok (.putfield 99, 3) := by decide +kernel
theorem d_Ed_shifted_5 : decode prog_5_method_8_code 5 = .ok (.aload_n 0, 1) := by decide +kernel
theorem d_Ed_shifted_6 : decode prog_5_method_8_code 6 = .ok (.iload_n 2, 1) := by decide +kernel
theorem d_Ed_shifted_7 : decode prog_5_method_8_code 7 = .ok (.putfield 103, 3) := by decide +kernel
theorem d_Ed_shifted_10 : decode prog_5_method_8_code 10 = .ok (.aload_n 0, 1) := by decide +kernel
theorem d_Ed_shifted_11 : decode prog_5_method_8_code 11 = .ok (.iload_n 3, 1) := by decide +kernel
theorem d_Ed_shifted_12 : decode prog_5_method_8_code 12 = .ok (.putfield 106, 3) := by decide +kernel
theorem d_Ed_shifted_15 : decode prog_5_method_8_code 15 = .ok (.aload_n 0, 1) := by decide +kernel
theorem d_Ed_shifted_16 : decode prog_5_method_8_code 16 = .ok (.iload 4, 2) := by decide +kernel
theorem d_Ed_shifted_18 : decode prog_5_method_8_code 18 = .ok (.putfield 109, 3) := by decide +kernel
theorem d_Ed_shifted_21 : decode prog_5_method_8_code 21 = .ok (.iconst 0, 1) := by decide +kernel
theorem d_Ed_shifted_22 : decode prog_5_method_8_code 22 = .ok (.istore 5, 2) := by decide +kernel
theorem d_Ed_shifted_24 : decode prog_5_method_8_code 24 = .ok (.iload 5, 2) := by decide +kernel
theorem d_Ed_shifted_26 : decode prog_5_method_8_code 26 = .ok (.aload_n 0, 1) := by decide +kernel
theorem d_Ed_shifted_27 : decode prog_5_method_8_code 27 = .ok (.getfield 19, 3) := by decide +kernel
theorem d_Ed_shifted_30 : decode prog_5_method_8_code 30 = .ok (.getfield 26, 3) := by decide +kernel
theorem d_Ed_shifted_33 : decode prog_5_method_8_code 33 = .ok (.if_icmp .ge 68, 3) := by decide +kernel
theorem d_Ed_shifted_101 : decode prog_5_method_8_code 101 = .ok (.aload_n 0, 1) := by decide +kernel
theorem d_Ed_shifted_102 : decode prog_5_method_8_code 102 = .ok (.invokevirtual 80, 3) := by decide +kernel
theorem d_Ed_shifted_105 : decode prog_5_method_8_code 105 = .ok (.ireturn, 1) := by decide +kernel
theorem d_Ed_shifted_36 : decode prog_5_method_8_code 36 = .ok (.aload_n 0, 1) := by decide +kernel
theorem d_Ed_shifted_37 : decode prog_5_method_8_code 37 = .ok (.aload_n 0, 1) := by decide +kernel
theorem d_Ed_shifted_38 : decode prog_5_method_8_code 38 = .ok (.getfield 19, 3) := by decide +kernel
theorem d_Ed_shifted_41 : decode prog_5_method_8_code 41 = .ok (.getfield 57, 3) := by decide +kernel
theorem d_Ed_shifted_44 : decode prog_5_method_8_code 44 = .ok (.iload 5, 2) := by decide +kernel
theorem d_Ed_shifted_46 : decode prog_5_method_8_code 46 = .ok (.iaload, 1) := by decide +kernel
theorem d_Ed_shifted_47 : decode prog_5_method_8_code 47 = .ok (.invokevirtual 112, 3) := by decide +kernel
theorem d_Ed_shifted_50 : decode prog_5_method_8_code 50 = .ok (.istore 6, 2) := by decide +kernel
theorem d_Ed_shifted_52 : decode prog_5_method_8_code 52 = .ok (.iload 6, 2) := by decide +kernel
theorem d_Ed_shifted_54 : decode prog_5_method_8_code 54 = .ok (.iconst (-1), 1) := by decide +kernel
theorem d_Ed_shifted_55 : decode prog_5_method_8_code 55 = .ok (.if_icmp .eq 31, 3) := by decide +kernel
theorem d_Ed_shifted_86 : decode prog_5_method_8_code 86 = .ok (.aload_n 0, 1) := by decide +kernel
theorem d_Ed_shifted_87 : decode prog_5_method_8_code 87 = .ok (.getfield 103, 3) := by decide +kernel
theorem d_Ed_shifted_90 : decode prog_5_method_8_code 90 = .ok (.ifCond .eq 5, 3) := by decide +kernel
theorem d_Ed_shifted_95 : decode prog_5_method_8_code 95 = .ok (.iinc 5 1, 3) := by decide +kernel
theorem d_Ed_shifted_98 : decode prog_5_method_8_code 98 = .ok (.goto (-74), 3) := by decide +kernel
theorem d_Ed_shifted_93 : decode prog_5_method_8_code 93 = .ok (.iconst 0, 1) := by decide +kernel
theorem d_Ed_shifted_94 : decode prog_5_method_8_code 94 = .ok (.ireturn, 1) := by decide +kernel
theorem d_Ed_shifted_58 : decode prog_5_method_8_code 58 = .ok (.aload_n 0, 1) := by decide +kernel
theorem d_Ed_shifted_59 : decode prog_5_method_8_code 59 = .ok (.getfield 23, 3) := by decide +kernel
theorem d_Ed_shifted_62 : decode prog_5_method_8_code 62 = .ok (.iload 6, 2) := by decide +kernel
theorem d_Ed_shifted_64 : decode prog_5_method_8_code 64 = .ok (.aload_n 0, 1) := by decide +kernel
theorem d_Ed_shifted_65 : decode prog_5_method_8_code 65 = .ok (.getfield 19, 3) := by decide +kernel
theorem d_Ed_shifted_68 : decode prog_5_method_8_code 68 = .ok (.getfield 60, 3) := by decide +kernel
theorem d_Ed_shifted_71 : decode prog_5_method_8_code 71 = .ok (.iload 5, 2) := by decide +kernel
theorem d_Ed_shifted_73 : decode prog_5_method_8_code 73 = .ok (.iaload, 1) := by decide +kernel
theorem d_Ed_shifted_74 : decode prog_5_method_8_code 74 = .ok (.invokevirtual 84, 3) := by decide +kernel
theorem d_Ed_shifted_77 : decode prog_5_method_8_code 77 = .ok (.aload_n 0, 1) := by decide +kernel
theorem d_Ed_shifted_78 : decode prog_5_method_8_code 78 = .ok (.iload 5, 2) := by decide +kernel
theorem d_Ed_shifted_80 : decode prog_5_method_8_code 80 = .ok (.invokevirtual 115, 3) := by decide +kernel
theorem d_Ed_shifted_83 : decode prog_5_method_8_code 83 = .ok (.goto 12, 3) := by decide +kernel
set_option maxHeartbeats 4000000 in
theorem w_Ed_shifted_0 {l : Launch} {G : gG} {d : Nat} {X : gX} {M : gM} {k : Int → gM → Prop} {c : Nat} (hX : glX X c) {x1 : Int} (hx1 : 0 ≤ x1 ∧ x1 ≤ 1) {x2 : Int} (hx2 : 0 ≤ x2 ∧ x2 ≤ 1) {x3 : Int} (hx3 : g32 x3) {x4 : Int} (hx4 : g32 x4)  (T : wp l G y_Ed_shifted (gRm (d + 1)) true (kkZ X k) true 24 [.val (gR G (c + 21)), .unset, .unset, .unset, .unset, .val (gI 0), .unset] [] X (gUp (gUp (gUp (gUp M (c + 21) 4 x1) (c + 21) 5 x2) (c + 21) 6 x3) (c + 21) 7 x4) 0 0) : wp l G y_Ed_shifted (gRm (d + 1)) true (kkZ X k) false 0 [.val (gR G (c + 21)), .val (gI x1), .val (gI x2), .val (gI x3), .val (gI x4), .unset, .unset] [] X M 0 0 := by
  refine wp_aload_n d_Ed_shifted_0 rfl rfl (g_nz (gl_1 hX 21)) ?_
  refine wp_iload_n d_Ed_shifted_1 rfl rfl ?_
  refine xputZ d_Ed_shifted_2 gc_Ed f_Ed_99.1 f_Ed_99.2.1 f_Ed_99.2.2.1 (gl_1 hX 21) (gl_2 hX (a := 21) (by decide)) (gl_s hX 21 rfl) f_Ed_99.2.2.2.1 f_Ed_99.2.2.2.2.1 f_Ed_99.2.2.2.2.2 hx1 ?_
  refine wp_aload_n d_Ed_shifted_5 rfl rfl (g_nz (gl_1 hX 21)) ?_
  refine wp_iload_n d_Ed_shifted_6 rfl rfl ?_
  refine xputZ d_Ed_shifted_7 gc_Ed f_Ed_103.1 f_Ed_103.2.1 f_Ed_103.2.2.1 (gl_1 hX 21) (gl_2 hX (a := 21) (by decide)) (gl_s hX 21 rfl) f_Ed_103.2.2.2.1 f_Ed_103.2.2.2.2.1 f_Ed_103.2.2.2.2.2 hx2 ?_
  refine wp_aload_n d_Ed_shifted_10 rfl rfl (g_nz (gl_1 hX 21)) ?_
  refine wp_iload_n d_Ed_shifted_11 rfl rfl ?_
  refine xputI d_Ed_shifted_12 gc_Ed f_Ed_106.1 f_Ed_106.2.1 f_Ed_106.2.2.1 (gl_1 hX 21) (gl_2 hX (a := 21) (by decide)) (gl_s hX 21 rfl) f_Ed_106.2.2.2.1 f_Ed_106.2.2.2.2.1 f_Ed_106.2.2.2.2.2 (w32_id hx3) ?_
  refine wp_aload_n d_Ed_shifted_15 rfl rfl (g_nz (gl_1 hX 21)) ?_
  refine wp_iload d_Ed_shifted_16 rfl ?_
  refine xputI d_Ed_shifted_18 gc_Ed f_Ed_109.1 f_Ed_109.2.1 f_Ed_109.2.2.1 (gl_1 hX 21) (gl_2 hX (a := 21) (by decide)) (gl_s hX 21 rfl) f_Ed_109.2.2.2.1 f_Ed_109.2.2.2.2.1 f_Ed_109.2.2.2.2.2 (w32_id hx4) ?_
  refine wp_iconst d_Ed_shifted_21 ?_
  refine wp_istore (L' := [.val (gR G (c + 21)), .val (gI x1), .val (gI x2), .val (gI x3), .val (gI x4), .val (gI 0), .unset]) d_Ed_shifted_22 (by decide) rfl ?_
  exact wp_md (wpt T (And.intro rfl (And.intro rfl True.intro)))
set_option maxHeartbeats 4000000 in
theorem w_Ed_shifted_24 {l : Launch} {G : gG} {d : Nat} {X : gX} {M : gM} {k : Int → gM → Prop} {c : Nat} (hX : glX X c) {x5 : Int} (hx5 : g32 x5) {s3 : Nat} (hs3 : X.2.2 (c + 21) 3 = s3 ∧ gsX X s3) {s2 : Nat} (hs2 : X.2.2 (c + 21) 2 = s2 ∧ gsX X s2) (T : g32 (M s2 0) → ((M s2 0 ≤ x5 → (cZ l G y_Ed_rangesFit (gRm d) false [gR G (c + 21)] X M (fun v3 M2 => (k v3 M2)))) ∧ (¬ M s2 0 ≤ x5 → (((0 : Int) ≤ x5 ∧ x5 < 400) ∧ (g32 (M (s2 + 1) (Int.toNat x5)) → (cI l G y_Ed_followed (gRm d) false [gR G (c + 21), gI (M (s2 + 1) (Int.toNat x5))] X M (fun v7 M6 => ((v7 = (-1) → ((0 ≤ M6 (c + 21) 5 ∧ M6 (c + 21) 5 ≤ 1) → ((M6 (c + 21) 5 = 0 → (wp l G y_Ed_shifted (gRm (d + 1)) true (kkZ X k) true 24 [.val (gR G (c + 21)), .unset, .unset, .unset, .unset, .val (gI (w32 (x5 + 1))), .unset] [] X M6 0 0)) ∧ (¬ M6 (c + 21) 5 = 0 → (k 0 M6))))) ∧ (¬ v7 = (-1) → (((0 : Int) ≤ x5 ∧ x5 < 400) ∧ (g32 (M6 (s2 + 2) (Int.toNat x5)) → (cV l G y_St_addEntry (gRm d) true [gR G s3, gI v7, gI (M6 (s2 + 2) (Int.toNat x5))] X M6 (fun M12 => (cV l G y_Ed_addFollowed (gRm d) true [gR G (c + 21), gI x5] X M12 (fun M13 => (wp l G y_Ed_shifted (gRm (d + 1)) true (kkZ X k) true 24 [.val (gR G (c + 21)), .unset, .unset, .unset, .unset, .val (gI (w32 (x5 + 1))), .unset] [] X M13 0 0)))))))))))))))) : wp l G y_Ed_shifted (gRm (d + 1)) true (kkZ X k) true 24 [.val (gR G (c + 21)), .unset, .unset, .unset, .unset, .val (gI x5), .unset] [] X M 0 0 := by
  refine wp_iload d_Ed_shifted_24 rfl ?_
  refine wp_aload_n d_Ed_shifted_26 rfl rfl (g_nz (gl_1 hX 21)) ?_
  refine xgetR d_Ed_shifted_27 gc_Ed f_Ed_19.1 f_Ed_19.2.1 f_Ed_19.2.2.1 (gl_1 hX 21) (gl_2 hX (a := 21) (by decide)) (gl_s hX 21 rfl) f_Ed_19.2.2.2.2.1 hs2.1 ?_
  refine xgetI d_Ed_shifted_30 gc_St f_Ed_26.1 f_Ed_26.2.1 f_Ed_26.2.2.1 hs2.2.1 (gs_2 hs2.2) hs2.2.2.2.1 f_Ed_26.2.2.2.2.1 (fun h1 => ?_)
  have T := T h1
  refine xi_ge (tgt := 101) d_Ed_shifted_33 (by decide) (w32_id hx5) (w32_id h1) (fun h15 => ?_) (fun h15 => ?_)
  · have T := T.1 h15
    refine wp_aload_n d_Ed_shifted_101 rfl rfl (g_nz (gl_1 hX 21)) ?_
    refine xcV_Z (md' := true) (As := []) (st := []) d_Ed_shifted_102 ca_Ed_rangesFit ml_Ed_80 im_Ed_rangesFit se_Ed_rangesFit gc_Ed (gl_1 hX 21) (gl_2 hX (a := 21) (by decide)) (gl_s hX 21 rfl) rfl (by decide) (by decide) rfl (fun _ => rfl) (fun _ => rfl) T (fun v3 M2 h4 T => ?_)
    exact wp_zreturn d_Ed_shifted_105 rfl (g_narz h4) (fun _ => rfl) (Nat.zero_le _) (Nat.zero_le _) (kZ_mk h4 T)
  · have T := T.2 h15
    refine wp_aload_n d_Ed_shifted_36 rfl rfl (g_nz (gl_1 hX 21)) ?_
    refine wp_aload_n d_Ed_shifted_37 rfl rfl (g_nz (gl_1 hX 21)) ?_
    refine xgetR d_Ed_shifted_38 gc_Ed f_Ed_19.1 f_Ed_19.2.1 f_Ed_19.2.2.1 (gl_1 hX 21) (gl_2 hX (a := 21) (by decide)) (gl_s hX 21 rfl) f_Ed_19.2.2.2.2.1 hs2.1 ?_
    refine xgetR d_Ed_shifted_41 gc_St f_Ed_57.1 f_Ed_57.2.1 f_Ed_57.2.2.1 hs2.2.1 (gs_2 hs2.2) hs2.2.2.2.1 f_Ed_57.2.2.2.2.1 (gs_r hs2.2 0 rfl).1 ?_
    refine wp_iload d_Ed_shifted_44 rfl ?_
    refine wp_iaload d_Ed_shifted_46 (gs_r hs2.2 0 rfl).2.2.1 (gs_r hs2.2 0 rfl).2.2.2 (gs_r hs2.2 0 rfl).2.1 (g32_n T.1 (by decide)) T.1.1 T.1.2 (fun h5 => ?_)
    have T := T.2 h5
    refine xcV_I (md' := true) (As := [gI (M (s2 + 1) (Int.toNat x5))]) (st := []) d_Ed_shifted_47 ca_Ed_followed ml_Ed_112 im_Ed_followed se_Ed_followed gc_Ed (gl_1 hX 21) (gl_2 hX (a := 21) (by decide)) (gl_s hX 21 rfl) rfl (by decide) (by decide) rfl (fun _ => rfl) (fun _ => rfl) T (fun v7 M6 h8 T => ?_)
    refine wp_istore (L' := [.val (gR G (c + 21)), .unset, .unset, .unset, .unset, .val (gI x5), .val (gI v7)]) d_Ed_shifted_50 (by decide) rfl ?_
    refine wp_iload d_Ed_shifted_52 rfl ?_
    refine wp_iconst d_Ed_shifted_54 ?_
    refine xi_eq (tgt := 86) d_Ed_shifted_55 (by decide) (w32_id h8) (w32_id (g32_c (x := (-1)) rfl)) (fun h14 => ?_) (fun h14 => ?_)
    · have T := T.1 h14
      refine wp_aload_n d_Ed_shifted_86 rfl rfl (g_nz (gl_1 hX 21)) ?_
      refine xgetZ d_Ed_shifted_87 gc_Ed f_Ed_103.1 f_Ed_103.2.1 f_Ed_103.2.2.1 (gl_1 hX 21) (gl_2 hX (a := 21) (by decide)) (gl_s hX 21 rfl) f_Ed_103.2.2.2.2.1 (fun h9 => ?_)
      have T := T h9
      refine xz_eq (tgt := 95) d_Ed_shifted_90 (by decide) (w32_id (g32_z h9)) (fun h10 => ?_) (fun h10 => ?_)
      · have T := T.1 h10
        refine wp_iinc (L' := [.val (gR G (c + 21)), .unset, .unset, .unset, .unset, .val (gI (x5 + 1)), .val (gI v7)]) d_Ed_shifted_95 rfl (by decide) rfl ?_
        refine wp_goto (tgt := 24) d_Ed_shifted_98 (by decide) ?_
        exact wp_md (wpt T (And.intro rfl (And.intro (gI_w _) True.intro)))
      · have T := T.2 h10
        refine wp_iconst d_Ed_shifted_93 ?_
        exact wp_zreturn d_Ed_shifted_94 rfl (g_narz (⟨by decide, by decide⟩ : (0 : Int) ≤ 0 ∧ (0 : Int) ≤ 1)) (fun _ => rfl) (Nat.zero_le _) (Nat.zero_le _) (kZ_mk (⟨by decide, by decide⟩ : (0 : Int) ≤ 0 ∧ (0 : Int) ≤ 1) T)
    · have T := T.2 h14
      refine wp_aload_n d_Ed_shifted_58 rfl rfl (g_nz (gl_1 hX 21)) ?_
      refine xgetR d_Ed_shifted_59 gc_Ed f_Ed_23.1 f_Ed_23.2.1 f_Ed_23.2.2.1 (gl_1 hX 21) (gl_2 hX (a := 21) (by decide)) (gl_s hX 21 rfl) f_Ed_23.2.2.2.2.1 hs3.1 ?_
      refine wp_iload d_Ed_shifted_62 rfl ?_
      refine wp_aload_n d_Ed_shifted_64 rfl rfl (g_nz (gl_1 hX 21)) ?_
      refine xgetR d_Ed_shifted_65 gc_Ed f_Ed_19.1 f_Ed_19.2.1 f_Ed_19.2.2.1 (gl_1 hX 21) (gl_2 hX (a := 21) (by decide)) (gl_s hX 21 rfl) f_Ed_19.2.2.2.2.1 hs2.1 ?_
      refine xgetR d_Ed_shifted_68 gc_St f_Ed_60.1 f_Ed_60.2.1 f_Ed_60.2.2.1 hs2.2.1 (gs_2 hs2.2) hs2.2.2.2.1 f_Ed_60.2.2.2.2.1 (gs_r hs2.2 1 rfl).1 ?_
      refine wp_iload d_Ed_shifted_71 rfl ?_
      refine wp_iaload d_Ed_shifted_73 (gs_r hs2.2 1 rfl).2.2.1 (gs_r hs2.2 1 rfl).2.2.2 (gs_r hs2.2 1 rfl).2.1 (g32_n T.1 (by decide)) T.1.1 T.1.2 (fun h11 => ?_)
      have T := T.2 h11
      refine xcV_V (md' := true) (As := [gI v7, gI (M6 (s2 + 2) (Int.toNat x5))]) (st := []) d_Ed_shifted_74 ca_St_addEntry ml_Ed_84 im_St_addEntry se_St_addEntry gc_St hs3.2.1 (gs_2 hs3.2) hs3.2.2.2.1 rfl (by decide) (by decide) rfl (fun _ => rfl) (fun _ => rfl) T (fun M12 T => ?_)
      refine wp_aload_n d_Ed_shifted_77 rfl rfl (g_nz (gl_1 hX 21)) ?_
      refine wp_iload d_Ed_shifted_78 rfl ?_
      refine xcV_V (md' := true) (As := [gI x5]) (st := []) d_Ed_shifted_80 ca_Ed_addFollowed ml_Ed_115 im_Ed_addFollowed se_Ed_addFollowed gc_Ed (gl_1 hX 21) (gl_2 hX (a := 21) (by decide)) (gl_s hX 21 rfl) rfl (by decide) (by decide) rfl (fun _ => rfl) (fun _ => rfl) T (fun M13 T => ?_)
      refine wp_goto (tgt := 95) d_Ed_shifted_83 (by decide) ?_
      refine wp_iinc (L' := [.val (gR G (c + 21)), .unset, .unset, .unset, .unset, .val (gI (x5 + 1)), .val (gI v7)]) d_Ed_shifted_95 rfl (by decide) rfl ?_
      refine wp_goto (tgt := 24) d_Ed_shifted_98 (by decide) ?_
      exact wp_md (wpt T (And.intro rfl (And.intro (gI_w _) True.intro)))
theorem e_Ed_shifted {l : Launch} {G : gG} {d : Nat} {X : gX} {M : gM} {k : Int → gM → Prop} {c : Nat} {x1 : Int} {x2 : Int} {x3 : Int} {x4 : Int} (T : wp l G y_Ed_shifted (gRm (d + 1)) true (kkZ X k) false 0 [.val (gR G (c + 21)), .val (gI x1), .val (gI x2), .val (gI x3), .val (gI x4), .unset, .unset] [] X M 0 0) : cZ l G y_Ed_shifted (gRm (d + 1)) true [gR G (c + 21), gI x1, gI x2, gI x3, gI x4] X M k := cen_Z (plainFor_of_name rfl) (by simp only [lg_sl_R, lg_sl_I, lg_sl_L, lg_sl_N, List.length_cons, List.length_nil]; decide) (by unfold gEn; simp only [lg_sl_R, lg_sl_I, lg_sl_L, lg_sl_N]; exact wpt T (And.intro rfl (And.intro rfl (And.intro rfl (And.intro rfl (And.intro rfl True.intro))))))
theorem d_Ed_addFollowed_0 : decode prog_5_method_9_code 0 = .ok (.aload_n 0, 1) := by decide +kernel
theorem d_Ed_addFollowed_1 : decode prog_5_method_9_code 1 = .ok (.getfield 15, 3) := by decide +kernel
theorem d_Ed_addFollowed_4 : decode prog_5_method_9_code 4 = .ok (.getfield 37, 3) := by decide +kernel
theorem d_Ed_addFollowed_7 : decode prog_5_method_9_code 7 = .ok (.aload_n 0, 1) := by decide +kernel
theorem d_Ed_addFollowed_8 : decode prog_5_method_9_code 8 = .ok (.getfield 19, 3) := by decide +kernel
theorem d_Ed_addFollowed_11 : decode prog_5_method_9_code 11 = .ok (.getfield 60, 3) := by decide +kernel
theorem d_Ed_addFollowed_14 : decode prog_5_method_9_code 14 = .ok (.iload_n 1, 1) := by decide +kernel
theorem d_Ed_addFollowed_15 : decode prog_5_method_9_code 15 = .ok (.iaload, 1) := by decide +kernel
theorem d_Ed_addFollowed_16 : decode prog_5_method_9_code 16 = .ok (.iaload, 1) := by decide +kernel
theorem d_Ed_addFollowed_17 : decode prog_5_method_9_code 17 = .ok (.aload_n 0, 1) := by decide +kernel
theorem d_Ed_addFollowed_18 : decode prog_5_method_9_code 18 = .ok (.getfield 19, 3) := by decide +kernel
theorem d_Ed_addFollowed_21 : decode prog_5_method_9_code 21 = .ok (.getfield 64, 3) := by decide +kernel
theorem d_Ed_addFollowed_24 : decode prog_5_method_9_code 24 = .ok (.iload_n 1, 1) := by decide +kernel
theorem d_Ed_addFollowed_25 : decode prog_5_method_9_code 25 = .ok (.iaload, 1) := by decide +kernel
theorem d_Ed_addFollowed_26 : decode prog_5_method_9_code 26 = .ok (.isub, 1) := by decide +kernel
theorem d_Ed_addFollowed_27 : decode prog_5_method_9_code 27 = .ok (.istore_n 2, 1) := by decide +kernel
theorem d_Ed_addFollowed_28 : decode prog_5_method_9_code 28 = .ok (.aload_n 0, 1) := by decide +kernel
theorem d_Ed_addFollowed_29 : decode prog_5_method_9_code 29 = .ok (.getfield 19, 3) := by decide +kernel
theorem d_Ed_addFollowed_32 : decode prog_5_method_9_code 32 = .ok (.getfield 64, 3) := by decide +kernel
theorem d_Ed_addFollowed_35 : decode prog_5_method_9_code 35 = .ok (.iload_n 1, 1) := by decide +kernel
theorem d_Ed_addFollowed_36 : decode prog_5_method_9_code 36 = .ok (.iaload, 1) := by decide +kernel
theorem d_Ed_addFollowed_37 : decode prog_5_method_9_code 37 = .ok (.istore_n 3, 1) := by decide +kernel
theorem d_Ed_addFollowed_38 : decode prog_5_method_9_code 38 = .ok (.iload_n 3, 1) := by decide +kernel
theorem d_Ed_addFollowed_39 : decode prog_5_method_9_code 39 = .ok (.aload_n 0, 1) := by decide +kernel
theorem d_Ed_addFollowed_40 : decode prog_5_method_9_code 40 = .ok (.getfield 19, 3) := by decide +kernel
theorem d_Ed_addFollowed_43 : decode prog_5_method_9_code 43 = .ok (.getfield 64, 3) := by decide +kernel
theorem d_Ed_addFollowed_46 : decode prog_5_method_9_code 46 = .ok (.iload_n 1, 1) := by decide +kernel
theorem d_Ed_addFollowed_47 : decode prog_5_method_9_code 47 = .ok (.iconst 1, 1) := by decide +kernel
theorem d_Ed_addFollowed_48 : decode prog_5_method_9_code 48 = .ok (.iadd, 1) := by decide +kernel
theorem d_Ed_addFollowed_49 : decode prog_5_method_9_code 49 = .ok (.iaload, 1) := by decide +kernel
theorem d_Ed_addFollowed_50 : decode prog_5_method_9_code 50 = .ok (.if_icmp .ge 100, 3) := by decide +kernel
theorem d_Ed_addFollowed_150 : decode prog_5_method_9_code 150 = .ok (.return_, 1) := by decide +kernel
theorem d_Ed_addFollowed_53 : decode prog_5_method_9_code 53 = .ok (.aload_n 0, 1) := by decide +kernel
theorem d_Ed_addFollowed_54 : decode prog_5_method_9_code 54 = .ok (.getfield 15, 3) := by decide +kernel
theorem d_Ed_addFollowed_57 : decode prog_5_method_9_code 57 = .ok (.getfield 88, 3) := by decide +kernel
theorem d_Ed_addFollowed_60 : decode prog_5_method_9_code 60 = .ok (.iload_n 2, 1) := by decide +kernel
theorem d_Ed_addFollowed_61 : decode prog_5_method_9_code 61 = .ok (.iload_n 3, 1) := by decide +kernel
theorem d_Ed_addFollowed_62 : decode prog_5_method_9_code 62 = .ok (.iadd, 1) := by decide +kernel
theorem d_Ed_addFollowed_63 : decode prog_5_method_9_code 63 = .ok (.iaload, 1) := by decide +kernel
theorem d_Ed_addFollowed_64 : decode prog_5_method_9_code 64 = .ok (.iconst 4, 1) := by decide +kernel
theorem d_Ed_addFollowed_65 : decode prog_5_method_9_code 65 = .ok (.iand, 1) := by decide +kernel
theorem d_Ed_addFollowed_66 : decode prog_5_method_9_code 66 = .ok (.ifCond .eq 7, 3) := by decide +kernel
theorem d_Ed_addFollowed_73 : decode prog_5_method_9_code 73 = .ok (.iconst 0, 1) := by decide +kernel
theorem d_Ed_addFollowed_74 : decode prog_5_method_9_code 74 = .ok (.istore 4, 2) := by decide +kernel
theorem d_Ed_addFollowed_76 : decode prog_5_method_9_code 76 = .ok (.iload 4, 2) := by decide +kernel
theorem d_Ed_addFollowed_78 : decode prog_5_method_9_code 78 = .ok (.ifCond .eq 46, 3) := by decide +kernel
theorem d_Ed_addFollowed_124 : decode prog_5_method_9_code 124 = .ok (.aload_n 0, 1) := by decide +kernel
theorem d_Ed_addFollowed_125 : decode prog_5_method_9_code 125 = .ok (.getfield 23, 3) := by decide +kernel
theorem d_Ed_addFollowed_128 : decode prog_5_method_9_code 128 = .ok (.aload_n 0, 1) := by decide +kernel
theorem d_Ed_addFollowed_129 : decode prog_5_method_9_code 129 = .ok (.aload_n 0, 1) := by decide +kernel
theorem d_Ed_addFollowed_130 : decode prog_5_method_9_code 130 = .ok (.getfield 19, 3) := by decide +kernel
theorem d_Ed_addFollowed_133 : decode prog_5_method_9_code 133 = .ok (.getfield 63, 3) := by decide +kernel
theorem d_Ed_addFollowed_136 : decode prog_5_method_9_code 136 = .ok (.iload_n 3, 1) := by decide +kernel
theorem d_Ed_addFollowed_137 : decode prog_5_method_9_code 137 = .ok (.iaload, 1) := by decide +kernel
theorem d_Ed_addFollowed_138 : decode prog_5_method_9_code 138 = .ok (.invokevirtual 112, 3) := by decide +kernel
theorem d_Ed_addFollowed_141 : decode prog_5_method_9_code 141 = .ok (.invokevirtual 95, 3) := by decide +kernel
theorem d_Ed_addFollowed_144 : decode prog_5_method_9_code 144 = .ok (.iinc 3 1, 3) := by decide +kernel
theorem d_Ed_addFollowed_147 : decode prog_5_method_9_code 147 = .ok (.goto (-109), 3) := by decide +kernel
theorem d_Ed_addFollowed_81 : decode prog_5_method_9_code 81 = .ok (.aload_n 0, 1) := by decide +kernel
theorem d_Ed_addFollowed_82 : decode prog_5_method_9_code 82 = .ok (.getfield 19, 3) := by decide +kernel
theorem d_Ed_addFollowed_85 : decode prog_5_method_9_code 85 = .ok (.getfield 63, 3) := by decide +kernel
theorem d_Ed_addFollowed_88 : decode prog_5_method_9_code 88 = .ok (.iload_n 3, 1) := by decide +kernel
theorem d_Ed_addFollowed_89 : decode prog_5_method_9_code 89 = .ok (.iaload, 1) := by decide +kernel
theorem d_Ed_addFollowed_90 : decode prog_5_method_9_code 90 = .ok (.iconst (-1), 1) := by decide +kernel
theorem d_Ed_addFollowed_91 : decode prog_5_method_9_code 91 = .ok (.if_icmp .eq 33, 3) := by decide +kernel
theorem d_Ed_addFollowed_94 : decode prog_5_method_9_code 94 = .ok (.aload_n 0, 1) := by decide +kernel
theorem d_Ed_addFollowed_95 : decode prog_5_method_9_code 95 = .ok (.aload_n 0, 1) := by decide +kernel
theorem d_Ed_addFollowed_96 : decode prog_5_method_9_code 96 = .ok (.getfield 19, 3) := by decide +kernel
theorem d_Ed_addFollowed_99 : decode prog_5_method_9_code 99 = .ok (.getfield 63, 3) := by decide +kernel
theorem d_Ed_addFollowed_102 : decode prog_5_method_9_code 102 = .ok (.iload_n 3, 1) := by decide +kernel
theorem d_Ed_addFollowed_103 : decode prog_5_method_9_code 103 = .ok (.iaload, 1) := by decide +kernel
theorem d_Ed_addFollowed_104 : decode prog_5_method_9_code 104 = .ok (.aload_n 0, 1) := by decide +kernel
theorem d_Ed_addFollowed_105 : decode prog_5_method_9_code 105 = .ok (.getfield 19, 3) := by decide +kernel
theorem d_Ed_addFollowed_108 : decode prog_5_method_9_code 108 = .ok (.getfield 63, 3) := by decide +kernel
theorem d_Ed_addFollowed_111 : decode prog_5_method_9_code 111 = .ok (.iload_n 3, 1) := by decide +kernel
theorem d_Ed_addFollowed_112 : decode prog_5_method_9_code 112 = .ok (.iconst 1, 1) := by decide +kernel
theorem d_Ed_addFollowed_113 : decode prog_5_method_9_code 113 = .ok (.iadd, 1) := by decide +kernel
theorem d_Ed_addFollowed_114 : decode prog_5_method_9_code 114 = .ok (.iaload, 1) := by decide +kernel
theorem d_Ed_addFollowed_115 : decode prog_5_method_9_code 115 = .ok (.invokevirtual 118, 3) := by decide +kernel
theorem d_Ed_addFollowed_118 : decode prog_5_method_9_code 118 = .ok (.iinc 3 1, 3) := by decide +kernel
theorem d_Ed_addFollowed_121 : decode prog_5_method_9_code 121 = .ok (.goto 23, 3) := by decide +kernel
theorem d_Ed_addFollowed_69 : decode prog_5_method_9_code 69 = .ok (.iconst 1, 1) := by decide +kernel
theorem d_Ed_addFollowed_70 : decode prog_5_method_9_code 70 = .ok (.goto 4, 3) := by decide +kernel
set_option maxHeartbeats 4000000 in
theorem w_Ed_addFollowed_0 {l : Launch} {G : gG} {d : Nat} {X : gX} {M : gM} {k : gM → Prop} {c : Nat} (hX : glX X c) {x1 : Int} (hx1 : g32 x1) {s2 : Nat} (hs2 : X.2.2 (c + 21) 2 = s2 ∧ gsX X s2) (T : ((0 : Int) ≤ x1 ∧ x1 < 400) ∧ (g32 (M (s2 + 2) (Int.toNat x1)) → (((0 : Int) ≤ M (s2 + 2) (Int.toNat x1) ∧ M (s2 + 2) (Int.toNat x1) < 513) ∧ (g32 (M (c + 6) (Int.toNat (M (s2 + 2) (Int.toNat x1)))) → (((0 : Int) ≤ x1 ∧ x1 < 401) ∧ (g32 (M (s2 + 3) (Int.toNat x1)) → (((0 : Int) ≤ x1 ∧ x1 < 401) ∧ (g32 (M (s2 + 3) (Int.toNat x1)) → (wp l G y_Ed_addFollowed (gRm (d + 1)) true (kkV X k) true 38 [.val (gR G (c + 21)), .val (gI x1), .val (gI (w32 ((M (c + 6) (Int.toNat (M (s2 + 2) (Int.toNat x1)))) - (M (s2 + 3) (Int.toNat x1))))), .val (gI (M (s2 + 3) (Int.toNat x1))), .unset] [] X M 0 0))))))))) : wp l G y_Ed_addFollowed (gRm (d + 1)) true (kkV X k) false 0 [.val (gR G (c + 21)), .val (gI x1), .unset, .unset, .unset] [] X M 0 0 := by
  refine wp_aload_n d_Ed_addFollowed_0 rfl rfl (g_nz (gl_1 hX 21)) ?_
  refine xgetR d_Ed_addFollowed_1 gc_Ed f_Ed_15.1 f_Ed_15.2.1 f_Ed_15.2.2.1 (gl_1 hX 21) (gl_2 hX (a := 21) (by decide)) (gl_s hX 21 rfl) f_Ed_15.2.2.2.2.1 (gl_f hX 25 rfl) ?_
  refine xgetR d_Ed_addFollowed_4 gc_Cn f_Ed_37.1 f_Ed_37.2.1 f_Ed_37.2.2.1 (gl_1 hX 2) (gl_2 hX (a := 2) (by decide)) (gl_s hX 2 rfl) f_Ed_37.2.2.2.2.1 (gl_f hX 5 rfl) ?_
  refine wp_aload_n d_Ed_addFollowed_7 rfl rfl (g_nz (gl_1 hX 21)) ?_
  refine xgetR d_Ed_addFollowed_8 gc_Ed f_Ed_19.1 f_Ed_19.2.1 f_Ed_19.2.2.1 (gl_1 hX 21) (gl_2 hX (a := 21) (by decide)) (gl_s hX 21 rfl) f_Ed_19.2.2.2.2.1 hs2.1 ?_
  refine xgetR d_Ed_addFollowed_11 gc_St f_Ed_60.1 f_Ed_60.2.1 f_Ed_60.2.2.1 hs2.2.1 (gs_2 hs2.2) hs2.2.2.2.1 f_Ed_60.2.2.2.2.1 (gs_r hs2.2 1 rfl).1 ?_
  refine wp_iload_n d_Ed_addFollowed_14 rfl rfl ?_
  refine wp_iaload d_Ed_addFollowed_15 (gs_r hs2.2 1 rfl).2.2.1 (gs_r hs2.2 1 rfl).2.2.2 (gs_r hs2.2 1 rfl).2.1 (g32_n T.1 (by decide)) T.1.1 T.1.2 (fun h1 => ?_)
  have T := T.2 h1
  refine wp_iaload d_Ed_addFollowed_16 (gl_1 hX 6) (gl_2 hX (a := 6) (by decide)) (gl_s hX 6 rfl) (g32_n T.1 (by decide)) T.1.1 T.1.2 (fun h2 => ?_)
  have T := T.2 h2
  refine wp_aload_n d_Ed_addFollowed_17 rfl rfl (g_nz (gl_1 hX 21)) ?_
  refine xgetR d_Ed_addFollowed_18 gc_Ed f_Ed_19.1 f_Ed_19.2.1 f_Ed_19.2.2.1 (gl_1 hX 21) (gl_2 hX (a := 21) (by decide)) (gl_s hX 21 rfl) f_Ed_19.2.2.2.2.1 hs2.1 ?_
  refine xgetR d_Ed_addFollowed_21 gc_St f_Ed_64.1 f_Ed_64.2.1 f_Ed_64.2.2.1 hs2.2.1 (gs_2 hs2.2) hs2.2.2.2.1 f_Ed_64.2.2.2.2.1 (gs_r hs2.2 2 rfl).1 ?_
  refine wp_iload_n d_Ed_addFollowed_24 rfl rfl ?_
  refine wp_iaload d_Ed_addFollowed_25 (gs_r hs2.2 2 rfl).2.2.1 (gs_r hs2.2 2 rfl).2.2.2 (gs_r hs2.2 2 rfl).2.1 (g32_n T.1 (by decide)) T.1.1 T.1.2 (fun h3 => ?_)
  have T := T.2 h3
  refine wp_isub d_Ed_addFollowed_26 ?_
  refine wp_istore_n (L' := [.val (gR G (c + 21)), .val (gI x1), .val (gI ((M (c + 6) (Int.toNat (M (s2 + 2) (Int.toNat x1)))) - (M (s2 + 3) (Int.toNat x1)))), .unset, .unset]) d_Ed_addFollowed_27 rfl (by decide) rfl ?_
  refine wp_aload_n d_Ed_addFollowed_28 rfl rfl (g_nz (gl_1 hX 21)) ?_
  refine xgetR d_Ed_addFollowed_29 gc_Ed f_Ed_19.1 f_Ed_19.2.1 f_Ed_19.2.2.1 (gl_1 hX 21) (gl_2 hX (a := 21) (by decide)) (gl_s hX 21 rfl) f_Ed_19.2.2.2.2.1 hs2.1 ?_
  refine xgetR d_Ed_addFollowed_32 gc_St f_Ed_64.1 f_Ed_64.2.1 f_Ed_64.2.2.1 hs2.2.1 (gs_2 hs2.2) hs2.2.2.2.1 f_Ed_64.2.2.2.2.1 (gs_r hs2.2 2 rfl).1 ?_
  refine wp_iload_n d_Ed_addFollowed_35 rfl rfl ?_
  refine wp_iaload d_Ed_addFollowed_36 (gs_r hs2.2 2 rfl).2.2.1 (gs_r hs2.2 2 rfl).2.2.2 (gs_r hs2.2 2 rfl).2.1 (g32_n T.1 (by decide)) T.1.1 T.1.2 (fun h4 => ?_)
  have T := T.2 h4
  refine wp_istore_n (L' := [.val (gR G (c + 21)), .val (gI x1), .val (gI ((M (c + 6) (Int.toNat (M (s2 + 2) (Int.toNat x1)))) - (M (s2 + 3) (Int.toNat x1)))), .val (gI (M (s2 + 3) (Int.toNat x1))), .unset]) d_Ed_addFollowed_37 rfl (by decide) rfl ?_
  exact wp_md (wpt T (And.intro rfl (And.intro rfl (And.intro (gI_w _) (And.intro rfl True.intro)))))
set_option maxHeartbeats 4000000 in
theorem w_Ed_addFollowed_38 {l : Launch} {G : gG} {d : Nat} {X : gX} {M : gM} {k : gM → Prop} {c : Nat} (hX : glX X c) {x1 : Int} (hx1 : g32 x1) {x2 : Int} (hx2 : g32 x2) {x3 : Int} (hx3 : g32 x3) {s3 : Nat} (hs3 : X.2.2 (c + 21) 3 = s3 ∧ gsX X s3) {s2 : Nat} (hs2 : X.2.2 (c + 21) 2 = s2 ∧ gsX X s2) (T : ((0 : Int) ≤ x1 + 1 ∧ x1 + 1 < 401) ∧ (g32 (M (s2 + 3) (Int.toNat (x1 + 1))) → ((M (s2 + 3) (Int.toNat (x1 + 1)) ≤ x3 → (k M)) ∧ (¬ M (s2 + 3) (Int.toNat (x1 + 1)) ≤ x3 → (((0 : Int) ≤ x2 + x3 ∧ x2 + x3 < 10480) ∧ (g32 (M (c + 12) (Int.toNat (x2 + x3))) → ((gAnd (M (c + 12) (Int.toNat (x2 + x3))) 4 = 0 → (((0 : Int) = 0 → (((0 : Int) ≤ x3 ∧ x3 < 20000) ∧ (g32 (M (s2 + 4) (Int.toNat x3)) → (cI l G y_Ed_followed (gRm d) false [gR G (c + 21), gI (M (s2 + 4) (Int.toNat x3))] X M (fun v9 M8 => (cV l G y_St_addTarget (gRm d) true [gR G s3, gI v9] X M8 (fun M11 => (wp l G y_Ed_addFollowed (gRm (d + 1)) true (kkV X k) true 38 [.val (gR G (c + 21)), .val (gI x1), .val (gI x2), .val (gI (w32 (x3 + 1))), .unset] [] X M11 0 0)))))))) ∧ (¬ (0 : Int) = 0 → (((0 : Int) ≤ x3 ∧ x3 < 20000) ∧ (g32 (M (s2 + 4) (Int.toNat x3)) → ((M (s2 + 4) (Int.toNat x3) = (-1) → (((0 : Int) ≤ x3 ∧ x3 < 20000) ∧ (g32 (M (s2 + 4) (Int.toNat x3)) → (cI l G y_Ed_followed (gRm d) false [gR G (c + 21), gI (M (s2 + 4) (Int.toNat x3))] X M (fun v15 M14 => (cV l G y_St_addTarget (gRm d) true [gR G s3, gI v15] X M14 (fun M17 => (wp l G y_Ed_addFollowed (gRm (d + 1)) true (kkV X k) true 38 [.val (gR G (c + 21)), .val (gI x1), .val (gI x2), .val (gI (w32 (x3 + 1))), .unset] [] X M17 0 0)))))))) ∧ (¬ M (s2 + 4) (Int.toNat x3) = (-1) → (((0 : Int) ≤ x3 ∧ x3 < 20000) ∧ (g32 (M (s2 + 4) (Int.toNat x3)) → (((0 : Int) ≤ x3 + 1 ∧ x3 + 1 < 20000) ∧ (g32 (M (s2 + 4) (Int.toNat (x3 + 1))) → (cV l G y_Ed_addFollowedRange (gRm d) true [gR G (c + 21), gI (M (s2 + 4) (Int.toNat x3)), gI (M (s2 + 4) (Int.toNat (x3 + 1)))] X M (fun M20 => (wp l G y_Ed_addFollowed (gRm (d + 1)) true (kkV X k) true 38 [.val (gR G (c + 21)), .val (gI x1), .val (gI x2), .val (gI (w32 (x3 + 1 + 1))), .unset] [] X M20 0 0)))))))))))))) ∧ (¬ gAnd (M (c + 12) (Int.toNat (x2 + x3))) 4 = 0 → (((1 : Int) = 0 → (((0 : Int) ≤ x3 ∧ x3 < 20000) ∧ (g32 (M (s2 + 4) (Int.toNat x3)) → (cI l G y_Ed_followed (gRm d) false [gR G (c + 21), gI (M (s2 + 4) (Int.toNat x3))] X M (fun v25 M24 => (cV l G y_St_addTarget (gRm d) true [gR G s3, gI v25] X M24 (fun M27 => (wp l G y_Ed_addFollowed (gRm (d + 1)) true (kkV X k) true 38 [.val (gR G (c + 21)), .val (gI x1), .val (gI x2), .val (gI (w32 (x3 + 1))), .unset] [] X M27 0 0)))))))) ∧ (¬ (1 : Int) = 0 → (((0 : Int) ≤ x3 ∧ x3 < 20000) ∧ (g32 (M (s2 + 4) (Int.toNat x3)) → ((M (s2 + 4) (Int.toNat x3) = (-1) → (((0 : Int) ≤ x3 ∧ x3 < 20000) ∧ (g32 (M (s2 + 4) (Int.toNat x3)) → (cI l G y_Ed_followed (gRm d) false [gR G (c + 21), gI (M (s2 + 4) (Int.toNat x3))] X M (fun v31 M30 => (cV l G y_St_addTarget (gRm d) true [gR G s3, gI v31] X M30 (fun M33 => (wp l G y_Ed_addFollowed (gRm (d + 1)) true (kkV X k) true 38 [.val (gR G (c + 21)), .val (gI x1), .val (gI x2), .val (gI (w32 (x3 + 1))), .unset] [] X M33 0 0)))))))) ∧ (¬ M (s2 + 4) (Int.toNat x3) = (-1) → (((0 : Int) ≤ x3 ∧ x3 < 20000) ∧ (g32 (M (s2 + 4) (Int.toNat x3)) → (((0 : Int) ≤ x3 + 1 ∧ x3 + 1 < 20000) ∧ (g32 (M (s2 + 4) (Int.toNat (x3 + 1))) → (cV l G y_Ed_addFollowedRange (gRm d) true [gR G (c + 21), gI (M (s2 + 4) (Int.toNat x3)), gI (M (s2 + 4) (Int.toNat (x3 + 1)))] X M (fun M36 => (wp l G y_Ed_addFollowed (gRm (d + 1)) true (kkV X k) true 38 [.val (gR G (c + 21)), .val (gI x1), .val (gI x2), .val (gI (w32 (x3 + 1 + 1))), .unset] [] X M36 0 0))))))))))))))))))))) : wp l G y_Ed_addFollowed (gRm (d + 1)) true (kkV X k) true 38 [.val (gR G (c + 21)), .val (gI x1), .val (gI x2), .val (gI x3), .unset] [] X M 0 0 := by
  refine wp_iload_n d_Ed_addFollowed_38 rfl rfl ?_
  refine wp_aload_n d_Ed_addFollowed_39 rfl rfl (g_nz (gl_1 hX 21)) ?_
  refine xgetR d_Ed_addFollowed_40 gc_Ed f_Ed_19.1 f_Ed_19.2.1 f_Ed_19.2.2.1 (gl_1 hX 21) (gl_2 hX (a := 21) (by decide)) (gl_s hX 21 rfl) f_Ed_19.2.2.2.2.1 hs2.1 ?_
  refine xgetR d_Ed_addFollowed_43 gc_St f_Ed_64.1 f_Ed_64.2.1 f_Ed_64.2.2.1 hs2.2.1 (gs_2 hs2.2) hs2.2.2.2.1 f_Ed_64.2.2.2.2.1 (gs_r hs2.2 2 rfl).1 ?_
  refine wp_iload_n d_Ed_addFollowed_46 rfl rfl ?_
  refine wp_iconst d_Ed_addFollowed_47 ?_
  refine wp_iadd d_Ed_addFollowed_48 ?_
  refine wp_iaload d_Ed_addFollowed_49 (gs_r hs2.2 2 rfl).2.2.1 (gs_r hs2.2 2 rfl).2.2.2 (gs_r hs2.2 2 rfl).2.1 (g32_n T.1 (by decide)) T.1.1 T.1.2 (fun h5 => ?_)
  have T := T.2 h5
  refine xi_ge (tgt := 150) d_Ed_addFollowed_50 (by decide) (w32_id hx3) (w32_id h5) (fun h40 => ?_) (fun h40 => ?_)
  · have T := T.1 h40
    exact wp_return d_Ed_addFollowed_150 rfl (fun _ => rfl) (Nat.zero_le _) (Nat.zero_le _) (kV_mk T)
  · have T := T.2 h40
    refine wp_aload_n d_Ed_addFollowed_53 rfl rfl (g_nz (gl_1 hX 21)) ?_
    refine xgetR d_Ed_addFollowed_54 gc_Ed f_Ed_15.1 f_Ed_15.2.1 f_Ed_15.2.2.1 (gl_1 hX 21) (gl_2 hX (a := 21) (by decide)) (gl_s hX 21 rfl) f_Ed_15.2.2.2.2.1 (gl_f hX 25 rfl) ?_
    refine xgetR d_Ed_addFollowed_57 gc_Cn f_Ed_88.1 f_Ed_88.2.1 f_Ed_88.2.2.1 (gl_1 hX 2) (gl_2 hX (a := 2) (by decide)) (gl_s hX 2 rfl) f_Ed_88.2.2.2.2.1 (gl_f hX 11 rfl) ?_
    refine wp_iload_n d_Ed_addFollowed_60 rfl rfl ?_
    refine wp_iload_n d_Ed_addFollowed_61 rfl rfl ?_
    refine wp_iadd d_Ed_addFollowed_62 ?_
    refine wp_iaload d_Ed_addFollowed_63 (gl_1 hX 12) (gl_2 hX (a := 12) (by decide)) (gl_s hX 12 rfl) (g32_n T.1 (by decide)) T.1.1 T.1.2 (fun h6 => ?_)
    have T := T.2 h6
    refine wp_iconst d_Ed_addFollowed_64 ?_
    refine wp_iand d_Ed_addFollowed_65 ?_
    refine xz_eq (tgt := 73) d_Ed_addFollowed_66 (by decide) (w32_id (gAnd_ok _ _)) (fun h39 => ?_) (fun h39 => ?_)
    · have T := T.1 h39
      refine wp_iconst d_Ed_addFollowed_73 ?_
      refine wp_istore (L' := [.val (gR G (c + 21)), .val (gI x1), .val (gI x2), .val (gI x3), .val (gI 0)]) d_Ed_addFollowed_74 (by decide) rfl ?_
      refine wp_iload d_Ed_addFollowed_76 rfl ?_
      refine xz_eq (tgt := 124) d_Ed_addFollowed_78 (by decide) (w32_id (g32_c (x := 0) rfl)) (fun h22 => ?_) (fun h22 => ?_)
      · have T := T.1 h22
        refine wp_aload_n d_Ed_addFollowed_124 rfl rfl (g_nz (gl_1 hX 21)) ?_
        refine xgetR d_Ed_addFollowed_125 gc_Ed f_Ed_23.1 f_Ed_23.2.1 f_Ed_23.2.2.1 (gl_1 hX 21) (gl_2 hX (a := 21) (by decide)) (gl_s hX 21 rfl) f_Ed_23.2.2.2.2.1 hs3.1 ?_
        refine wp_aload_n d_Ed_addFollowed_128 rfl rfl (g_nz (gl_1 hX 21)) ?_
        refine wp_aload_n d_Ed_addFollowed_129 rfl rfl (g_nz (gl_1 hX 21)) ?_
        refine xgetR d_Ed_addFollowed_130 gc_Ed f_Ed_19.1 f_Ed_19.2.1 f_Ed_19.2.2.1 (gl_1 hX 21) (gl_2 hX (a := 21) (by decide)) (gl_s hX 21 rfl) f_Ed_19.2.2.2.2.1 hs2.1 ?_
        refine xgetR d_Ed_addFollowed_133 gc_St f_Ed_63.1 f_Ed_63.2.1 f_Ed_63.2.2.1 hs2.2.1 (gs_2 hs2.2) hs2.2.2.2.1 f_Ed_63.2.2.2.2.1 (gs_r hs2.2 3 rfl).1 ?_
        refine wp_iload_n d_Ed_addFollowed_136 rfl rfl ?_
        refine wp_iaload d_Ed_addFollowed_137 (gs_r hs2.2 3 rfl).2.2.1 (gs_r hs2.2 3 rfl).2.2.2 (gs_r hs2.2 3 rfl).2.1 (g32_n T.1 (by decide)) T.1.1 T.1.2 (fun h7 => ?_)
        have T := T.2 h7
        refine xcV_I (md' := true) (As := [gI (M (s2 + 4) (Int.toNat x3))]) (st := [gR G s3]) d_Ed_addFollowed_138 ca_Ed_followed ml_Ed_112 im_Ed_followed se_Ed_followed gc_Ed (gl_1 hX 21) (gl_2 hX (a := 21) (by decide)) (gl_s hX 21 rfl) rfl (by decide) (by simp only [List.map, gR_cat, gI_cat, gL_cat, List.sum_cons, List.sum_nil]; decide) rfl (fun _ => rfl) (fun _ => rfl) T (fun v9 M8 h10 T => ?_)
        refine xcV_V (md' := true) (As := [gI v9]) (st := []) d_Ed_addFollowed_141 ca_St_addTarget ml_Ed_95 im_St_addTarget se_St_addTarget gc_St hs3.2.1 (gs_2 hs3.2) hs3.2.2.2.1 rfl (by decide) (by decide) rfl (fun _ => rfl) (fun _ => rfl) T (fun M11 T => ?_)
        refine wp_iinc (L' := [.val (gR G (c + 21)), .val (gI x1), .val (gI x2), .val (gI (x3 + 1)), .val (gI 0)]) d_Ed_addFollowed_144 rfl (by decide) rfl ?_
        refine wp_goto (tgt := 38) d_Ed_addFollowed_147 (by decide) ?_
        exact wp_md (wpt T (And.intro rfl (And.intro rfl (And.intro rfl (And.intro (gI_w _) True.intro)))))
      · have T := T.2 h22
        refine wp_aload_n d_Ed_addFollowed_81 rfl rfl (g_nz (gl_1 hX 21)) ?_
        refine xgetR d_Ed_addFollowed_82 gc_Ed f_Ed_19.1 f_Ed_19.2.1 f_Ed_19.2.2.1 (gl_1 hX 21) (gl_2 hX (a := 21) (by decide)) (gl_s hX 21 rfl) f_Ed_19.2.2.2.2.1 hs2.1 ?_
        refine xgetR d_Ed_addFollowed_85 gc_St f_Ed_63.1 f_Ed_63.2.1 f_Ed_63.2.2.1 hs2.2.1 (gs_2 hs2.2) hs2.2.2.2.1 f_Ed_63.2.2.2.2.1 (gs_r hs2.2 3 rfl).1 ?_
        refine wp_iload_n d_Ed_addFollowed_88 rfl rfl ?_
        refine wp_iaload d_Ed_addFollowed_89 (gs_r hs2.2 3 rfl).2.2.1 (gs_r hs2.2 3 rfl).2.2.2 (gs_r hs2.2 3 rfl).2.1 (g32_n T.1 (by decide)) T.1.1 T.1.2 (fun h12 => ?_)
        have T := T.2 h12
        refine wp_iconst d_Ed_addFollowed_90 ?_
        refine xi_eq (tgt := 124) d_Ed_addFollowed_91 (by decide) (w32_id h12) (w32_id (g32_c (x := (-1)) rfl)) (fun h21 => ?_) (fun h21 => ?_)
        · have T := T.1 h21
          refine wp_aload_n d_Ed_addFollowed_124 rfl rfl (g_nz (gl_1 hX 21)) ?_
          refine xgetR d_Ed_addFollowed_125 gc_Ed f_Ed_23.1 f_Ed_23.2.1 f_Ed_23.2.2.1 (gl_1 hX 21) (gl_2 hX (a := 21) (by decide)) (gl_s hX 21 rfl) f_Ed_23.2.2.2.2.1 hs3.1 ?_
          refine wp_aload_n d_Ed_addFollowed_128 rfl rfl (g_nz (gl_1 hX 21)) ?_
          refine wp_aload_n d_Ed_addFollowed_129 rfl rfl (g_nz (gl_1 hX 21)) ?_
          refine xgetR d_Ed_addFollowed_130 gc_Ed f_Ed_19.1 f_Ed_19.2.1 f_Ed_19.2.2.1 (gl_1 hX 21) (gl_2 hX (a := 21) (by decide)) (gl_s hX 21 rfl) f_Ed_19.2.2.2.2.1 hs2.1 ?_
          refine xgetR d_Ed_addFollowed_133 gc_St f_Ed_63.1 f_Ed_63.2.1 f_Ed_63.2.2.1 hs2.2.1 (gs_2 hs2.2) hs2.2.2.2.1 f_Ed_63.2.2.2.2.1 (gs_r hs2.2 3 rfl).1 ?_
          refine wp_iload_n d_Ed_addFollowed_136 rfl rfl ?_
          refine wp_iaload d_Ed_addFollowed_137 (gs_r hs2.2 3 rfl).2.2.1 (gs_r hs2.2 3 rfl).2.2.2 (gs_r hs2.2 3 rfl).2.1 (g32_n T.1 (by decide)) T.1.1 T.1.2 (fun h13 => ?_)
          have T := T.2 h13
          refine xcV_I (md' := true) (As := [gI (M (s2 + 4) (Int.toNat x3))]) (st := [gR G s3]) d_Ed_addFollowed_138 ca_Ed_followed ml_Ed_112 im_Ed_followed se_Ed_followed gc_Ed (gl_1 hX 21) (gl_2 hX (a := 21) (by decide)) (gl_s hX 21 rfl) rfl (by decide) (by simp only [List.map, gR_cat, gI_cat, gL_cat, List.sum_cons, List.sum_nil]; decide) rfl (fun _ => rfl) (fun _ => rfl) T (fun v15 M14 h16 T => ?_)
          refine xcV_V (md' := true) (As := [gI v15]) (st := []) d_Ed_addFollowed_141 ca_St_addTarget ml_Ed_95 im_St_addTarget se_St_addTarget gc_St hs3.2.1 (gs_2 hs3.2) hs3.2.2.2.1 rfl (by decide) (by decide) rfl (fun _ => rfl) (fun _ => rfl) T (fun M17 T => ?_)
          refine wp_iinc (L' := [.val (gR G (c + 21)), .val (gI x1), .val (gI x2), .val (gI (x3 + 1)), .val (gI 0)]) d_Ed_addFollowed_144 rfl (by decide) rfl ?_
          refine wp_goto (tgt := 38) d_Ed_addFollowed_147 (by decide) ?_
          exact wp_md (wpt T (And.intro rfl (And.intro rfl (And.intro rfl (And.intro (gI_w _) True.intro)))))
        · have T := T.2 h21
          refine wp_aload_n d_Ed_addFollowed_94 rfl rfl (g_nz (gl_1 hX 21)) ?_
          refine wp_aload_n d_Ed_addFollowed_95 rfl rfl (g_nz (gl_1 hX 21)) ?_
          refine xgetR d_Ed_addFollowed_96 gc_Ed f_Ed_19.1 f_Ed_19.2.1 f_Ed_19.2.2.1 (gl_1 hX 21) (gl_2 hX (a := 21) (by decide)) (gl_s hX 21 rfl) f_Ed_19.2.2.2.2.1 hs2.1 ?_
          refine xgetR d_Ed_addFollowed_99 gc_St f_Ed_63.1 f_Ed_63.2.1 f_Ed_63.2.2.1 hs2.2.1 (gs_2 hs2.2) hs2.2.2.2.1 f_Ed_63.2.2.2.2.1 (gs_r hs2.2 3 rfl).1 ?_
          refine wp_iload_n d_Ed_addFollowed_102 rfl rfl ?_
          refine wp_iaload d_Ed_addFollowed_103 (gs_r hs2.2 3 rfl).2.2.1 (gs_r hs2.2 3 rfl).2.2.2 (gs_r hs2.2 3 rfl).2.1 (g32_n T.1 (by decide)) T.1.1 T.1.2 (fun h18 => ?_)
          have T := T.2 h18
          refine wp_aload_n d_Ed_addFollowed_104 rfl rfl (g_nz (gl_1 hX 21)) ?_
          refine xgetR d_Ed_addFollowed_105 gc_Ed f_Ed_19.1 f_Ed_19.2.1 f_Ed_19.2.2.1 (gl_1 hX 21) (gl_2 hX (a := 21) (by decide)) (gl_s hX 21 rfl) f_Ed_19.2.2.2.2.1 hs2.1 ?_
          refine xgetR d_Ed_addFollowed_108 gc_St f_Ed_63.1 f_Ed_63.2.1 f_Ed_63.2.2.1 hs2.2.1 (gs_2 hs2.2) hs2.2.2.2.1 f_Ed_63.2.2.2.2.1 (gs_r hs2.2 3 rfl).1 ?_
          refine wp_iload_n d_Ed_addFollowed_111 rfl rfl ?_
          refine wp_iconst d_Ed_addFollowed_112 ?_
          refine wp_iadd d_Ed_addFollowed_113 ?_
          refine wp_iaload d_Ed_addFollowed_114 (gs_r hs2.2 3 rfl).2.2.1 (gs_r hs2.2 3 rfl).2.2.2 (gs_r hs2.2 3 rfl).2.1 (g32_n T.1 (by decide)) T.1.1 T.1.2 (fun h19 => ?_)
          have T := T.2 h19
          refine xcV_V (md' := true) (As := [gI (M (s2 + 4) (Int.toNat x3)), gI (M (s2 + 4) (Int.toNat (x3 + 1)))]) (st := []) d_Ed_addFollowed_115 ca_Ed_addFollowedRange ml_Ed_118 im_Ed_addFollowedRange se_Ed_addFollowedRange gc_Ed (gl_1 hX 21) (gl_2 hX (a := 21) (by decide)) (gl_s hX 21 rfl) rfl (by decide) (by decide) rfl (fun _ => rfl) (fun _ => rfl) T (fun M20 T => ?_)
          refine wp_iinc (L' := [.val (gR G (c + 21)), .val (gI x1), .val (gI x2), .val (gI (x3 + 1)), .val (gI 0)]) d_Ed_addFollowed_118 rfl (by decide) rfl ?_
          refine wp_goto (tgt := 144) d_Ed_addFollowed_121 (by decide) ?_
          refine wp_iinc (L' := [.val (gR G (c + 21)), .val (gI x1), .val (gI x2), .val (gI (x3 + 1 + 1)), .val (gI 0)]) d_Ed_addFollowed_144 rfl (by decide) rfl ?_
          refine wp_goto (tgt := 38) d_Ed_addFollowed_147 (by decide) ?_
          exact wp_md (wpt T (And.intro rfl (And.intro rfl (And.intro rfl (And.intro (gI_w _) True.intro)))))
    · have T := T.2 h39
      refine wp_iconst d_Ed_addFollowed_69 ?_
      refine wp_goto (tgt := 74) d_Ed_addFollowed_70 (by decide) ?_
      refine wp_istore (L' := [.val (gR G (c + 21)), .val (gI x1), .val (gI x2), .val (gI x3), .val (gI 1)]) d_Ed_addFollowed_74 (by decide) rfl ?_
      refine wp_iload d_Ed_addFollowed_76 rfl ?_
      refine xz_eq (tgt := 124) d_Ed_addFollowed_78 (by decide) (w32_id (g32_c (x := 1) rfl)) (fun h38 => ?_) (fun h38 => ?_)
      · have T := T.1 h38
        refine wp_aload_n d_Ed_addFollowed_124 rfl rfl (g_nz (gl_1 hX 21)) ?_
        refine xgetR d_Ed_addFollowed_125 gc_Ed f_Ed_23.1 f_Ed_23.2.1 f_Ed_23.2.2.1 (gl_1 hX 21) (gl_2 hX (a := 21) (by decide)) (gl_s hX 21 rfl) f_Ed_23.2.2.2.2.1 hs3.1 ?_
        refine wp_aload_n d_Ed_addFollowed_128 rfl rfl (g_nz (gl_1 hX 21)) ?_
        refine wp_aload_n d_Ed_addFollowed_129 rfl rfl (g_nz (gl_1 hX 21)) ?_
        refine xgetR d_Ed_addFollowed_130 gc_Ed f_Ed_19.1 f_Ed_19.2.1 f_Ed_19.2.2.1 (gl_1 hX 21) (gl_2 hX (a := 21) (by decide)) (gl_s hX 21 rfl) f_Ed_19.2.2.2.2.1 hs2.1 ?_
        refine xgetR d_Ed_addFollowed_133 gc_St f_Ed_63.1 f_Ed_63.2.1 f_Ed_63.2.2.1 hs2.2.1 (gs_2 hs2.2) hs2.2.2.2.1 f_Ed_63.2.2.2.2.1 (gs_r hs2.2 3 rfl).1 ?_
        refine wp_iload_n d_Ed_addFollowed_136 rfl rfl ?_
        refine wp_iaload d_Ed_addFollowed_137 (gs_r hs2.2 3 rfl).2.2.1 (gs_r hs2.2 3 rfl).2.2.2 (gs_r hs2.2 3 rfl).2.1 (g32_n T.1 (by decide)) T.1.1 T.1.2 (fun h23 => ?_)
        have T := T.2 h23
        refine xcV_I (md' := true) (As := [gI (M (s2 + 4) (Int.toNat x3))]) (st := [gR G s3]) d_Ed_addFollowed_138 ca_Ed_followed ml_Ed_112 im_Ed_followed se_Ed_followed gc_Ed (gl_1 hX 21) (gl_2 hX (a := 21) (by decide)) (gl_s hX 21 rfl) rfl (by decide) (by simp only [List.map, gR_cat, gI_cat, gL_cat, List.sum_cons, List.sum_nil]; decide) rfl (fun _ => rfl) (fun _ => rfl) T (fun v25 M24 h26 T => ?_)
        refine xcV_V (md' := true) (As := [gI v25]) (st := []) d_Ed_addFollowed_141 ca_St_addTarget ml_Ed_95 im_St_addTarget se_St_addTarget gc_St hs3.2.1 (gs_2 hs3.2) hs3.2.2.2.1 rfl (by decide) (by decide) rfl (fun _ => rfl) (fun _ => rfl) T (fun M27 T => ?_)
        refine wp_iinc (L' := [.val (gR G (c + 21)), .val (gI x1), .val (gI x2), .val (gI (x3 + 1)), .val (gI 1)]) d_Ed_addFollowed_144 rfl (by decide) rfl ?_
        refine wp_goto (tgt := 38) d_Ed_addFollowed_147 (by decide) ?_
        exact wp_md (wpt T (And.intro rfl (And.intro rfl (And.intro rfl (And.intro (gI_w _) True.intro)))))
      · have T := T.2 h38
        refine wp_aload_n d_Ed_addFollowed_81 rfl rfl (g_nz (gl_1 hX 21)) ?_
        refine xgetR d_Ed_addFollowed_82 gc_Ed f_Ed_19.1 f_Ed_19.2.1 f_Ed_19.2.2.1 (gl_1 hX 21) (gl_2 hX (a := 21) (by decide)) (gl_s hX 21 rfl) f_Ed_19.2.2.2.2.1 hs2.1 ?_
        refine xgetR d_Ed_addFollowed_85 gc_St f_Ed_63.1 f_Ed_63.2.1 f_Ed_63.2.2.1 hs2.2.1 (gs_2 hs2.2) hs2.2.2.2.1 f_Ed_63.2.2.2.2.1 (gs_r hs2.2 3 rfl).1 ?_
        refine wp_iload_n d_Ed_addFollowed_88 rfl rfl ?_
        refine wp_iaload d_Ed_addFollowed_89 (gs_r hs2.2 3 rfl).2.2.1 (gs_r hs2.2 3 rfl).2.2.2 (gs_r hs2.2 3 rfl).2.1 (g32_n T.1 (by decide)) T.1.1 T.1.2 (fun h28 => ?_)
        have T := T.2 h28
        refine wp_iconst d_Ed_addFollowed_90 ?_
        refine xi_eq (tgt := 124) d_Ed_addFollowed_91 (by decide) (w32_id h28) (w32_id (g32_c (x := (-1)) rfl)) (fun h37 => ?_) (fun h37 => ?_)
        · have T := T.1 h37
          refine wp_aload_n d_Ed_addFollowed_124 rfl rfl (g_nz (gl_1 hX 21)) ?_
          refine xgetR d_Ed_addFollowed_125 gc_Ed f_Ed_23.1 f_Ed_23.2.1 f_Ed_23.2.2.1 (gl_1 hX 21) (gl_2 hX (a := 21) (by decide)) (gl_s hX 21 rfl) f_Ed_23.2.2.2.2.1 hs3.1 ?_
          refine wp_aload_n d_Ed_addFollowed_128 rfl rfl (g_nz (gl_1 hX 21)) ?_
          refine wp_aload_n d_Ed_addFollowed_129 rfl rfl (g_nz (gl_1 hX 21)) ?_
          refine xgetR d_Ed_addFollowed_130 gc_Ed f_Ed_19.1 f_Ed_19.2.1 f_Ed_19.2.2.1 (gl_1 hX 21) (gl_2 hX (a := 21) (by decide)) (gl_s hX 21 rfl) f_Ed_19.2.2.2.2.1 hs2.1 ?_
          refine xgetR d_Ed_addFollowed_133 gc_St f_Ed_63.1 f_Ed_63.2.1 f_Ed_63.2.2.1 hs2.2.1 (gs_2 hs2.2) hs2.2.2.2.1 f_Ed_63.2.2.2.2.1 (gs_r hs2.2 3 rfl).1 ?_
          refine wp_iload_n d_Ed_addFollowed_136 rfl rfl ?_
          refine wp_iaload d_Ed_addFollowed_137 (gs_r hs2.2 3 rfl).2.2.1 (gs_r hs2.2 3 rfl).2.2.2 (gs_r hs2.2 3 rfl).2.1 (g32_n T.1 (by decide)) T.1.1 T.1.2 (fun h29 => ?_)
          have T := T.2 h29
          refine xcV_I (md' := true) (As := [gI (M (s2 + 4) (Int.toNat x3))]) (st := [gR G s3]) d_Ed_addFollowed_138 ca_Ed_followed ml_Ed_112 im_Ed_followed se_Ed_followed gc_Ed (gl_1 hX 21) (gl_2 hX (a := 21) (by decide)) (gl_s hX 21 rfl) rfl (by decide) (by simp only [List.map, gR_cat, gI_cat, gL_cat, List.sum_cons, List.sum_nil]; decide) rfl (fun _ => rfl) (fun _ => rfl) T (fun v31 M30 h32 T => ?_)
          refine xcV_V (md' := true) (As := [gI v31]) (st := []) d_Ed_addFollowed_141 ca_St_addTarget ml_Ed_95 im_St_addTarget se_St_addTarget gc_St hs3.2.1 (gs_2 hs3.2) hs3.2.2.2.1 rfl (by decide) (by decide) rfl (fun _ => rfl) (fun _ => rfl) T (fun M33 T => ?_)
          refine wp_iinc (L' := [.val (gR G (c + 21)), .val (gI x1), .val (gI x2), .val (gI (x3 + 1)), .val (gI 1)]) d_Ed_addFollowed_144 rfl (by decide) rfl ?_
          refine wp_goto (tgt := 38) d_Ed_addFollowed_147 (by decide) ?_
          exact wp_md (wpt T (And.intro rfl (And.intro rfl (And.intro rfl (And.intro (gI_w _) True.intro)))))
        · have T := T.2 h37
          refine wp_aload_n d_Ed_addFollowed_94 rfl rfl (g_nz (gl_1 hX 21)) ?_
          refine wp_aload_n d_Ed_addFollowed_95 rfl rfl (g_nz (gl_1 hX 21)) ?_
          refine xgetR d_Ed_addFollowed_96 gc_Ed f_Ed_19.1 f_Ed_19.2.1 f_Ed_19.2.2.1 (gl_1 hX 21) (gl_2 hX (a := 21) (by decide)) (gl_s hX 21 rfl) f_Ed_19.2.2.2.2.1 hs2.1 ?_
          refine xgetR d_Ed_addFollowed_99 gc_St f_Ed_63.1 f_Ed_63.2.1 f_Ed_63.2.2.1 hs2.2.1 (gs_2 hs2.2) hs2.2.2.2.1 f_Ed_63.2.2.2.2.1 (gs_r hs2.2 3 rfl).1 ?_
          refine wp_iload_n d_Ed_addFollowed_102 rfl rfl ?_
          refine wp_iaload d_Ed_addFollowed_103 (gs_r hs2.2 3 rfl).2.2.1 (gs_r hs2.2 3 rfl).2.2.2 (gs_r hs2.2 3 rfl).2.1 (g32_n T.1 (by decide)) T.1.1 T.1.2 (fun h34 => ?_)
          have T := T.2 h34
          refine wp_aload_n d_Ed_addFollowed_104 rfl rfl (g_nz (gl_1 hX 21)) ?_
          refine xgetR d_Ed_addFollowed_105 gc_Ed f_Ed_19.1 f_Ed_19.2.1 f_Ed_19.2.2.1 (gl_1 hX 21) (gl_2 hX (a := 21) (by decide)) (gl_s hX 21 rfl) f_Ed_19.2.2.2.2.1 hs2.1 ?_
          refine xgetR d_Ed_addFollowed_108 gc_St f_Ed_63.1 f_Ed_63.2.1 f_Ed_63.2.2.1 hs2.2.1 (gs_2 hs2.2) hs2.2.2.2.1 f_Ed_63.2.2.2.2.1 (gs_r hs2.2 3 rfl).1 ?_
          refine wp_iload_n d_Ed_addFollowed_111 rfl rfl ?_
          refine wp_iconst d_Ed_addFollowed_112 ?_
          refine wp_iadd d_Ed_addFollowed_113 ?_
          refine wp_iaload d_Ed_addFollowed_114 (gs_r hs2.2 3 rfl).2.2.1 (gs_r hs2.2 3 rfl).2.2.2 (gs_r hs2.2 3 rfl).2.1 (g32_n T.1 (by decide)) T.1.1 T.1.2 (fun h35 => ?_)
          have T := T.2 h35
          refine xcV_V (md' := true) (As := [gI (M (s2 + 4) (Int.toNat x3)), gI (M (s2 + 4) (Int.toNat (x3 + 1)))]) (st := []) d_Ed_addFollowed_115 ca_Ed_addFollowedRange ml_Ed_118 im_Ed_addFollowedRange se_Ed_addFollowedRange gc_Ed (gl_1 hX 21) (gl_2 hX (a := 21) (by decide)) (gl_s hX 21 rfl) rfl (by decide) (by decide) rfl (fun _ => rfl) (fun _ => rfl) T (fun M36 T => ?_)
          refine wp_iinc (L' := [.val (gR G (c + 21)), .val (gI x1), .val (gI x2), .val (gI (x3 + 1)), .val (gI 1)]) d_Ed_addFollowed_118 rfl (by decide) rfl ?_
          refine wp_goto (tgt := 144) d_Ed_addFollowed_121 (by decide) ?_
          refine wp_iinc (L' := [.val (gR G (c + 21)), .val (gI x1), .val (gI x2), .val (gI (x3 + 1 + 1)), .val (gI 1)]) d_Ed_addFollowed_144 rfl (by decide) rfl ?_
          refine wp_goto (tgt := 38) d_Ed_addFollowed_147 (by decide) ?_
          exact wp_md (wpt T (And.intro rfl (And.intro rfl (And.intro rfl (And.intro (gI_w _) True.intro)))))
theorem e_Ed_addFollowed {l : Launch} {G : gG} {d : Nat} {X : gX} {M : gM} {k : gM → Prop} {c : Nat} {x1 : Int} (T : wp l G y_Ed_addFollowed (gRm (d + 1)) true (kkV X k) false 0 [.val (gR G (c + 21)), .val (gI x1), .unset, .unset, .unset] [] X M 0 0) : cV l G y_Ed_addFollowed (gRm (d + 1)) true [gR G (c + 21), gI x1] X M k := cen_V (plainFor_of_name rfl) (by simp only [lg_sl_R, lg_sl_I, lg_sl_L, lg_sl_N, List.length_cons, List.length_nil]; decide) (by unfold gEn; simp only [lg_sl_R, lg_sl_I, lg_sl_L, lg_sl_N]; exact wpt T (And.intro rfl (And.intro rfl True.intro)))
