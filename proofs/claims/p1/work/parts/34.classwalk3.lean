/-! Walks of the class's methods, written by wip/whole/gen_class.py -/
theorem d_Ed_replaced_0 : decode prog_5_method_3_code 0 = .ok (.aload_n 0, 1) := by decide +kernel
theorem d_Ed_replaced_1 : decode prog_5_method_3_code 1 = .ok (.getfield 15, 3) := by decide +kernel
theorem d_Ed_replaced_4 : decode prog_5_method_3_code 4 = .ok (.getfield 32, 3) := by decide +kernel
theorem d_Ed_replaced_7 : decode prog_5_method_3_code 7 = .ok (.aload_n 0, 1) := by decide +kernel
theorem d_Ed_replaced_8 : decode prog_5_method_3_code 8 = .ok (.getfield 15, 3) := by decide +kernel
theorem d_Ed_replaced_11 : decode prog_5_method_3_code 11 = .ok (.getfield 37, 3) := by decide +kernel
theorem d_Ed_replaced_14 : decode prog_5_method_3_code 14 = .ok (.iload_n 2, 1) := by decide +kernel
theorem d_Ed_replaced_15 : decode prog_5_method_3_code 15 = .ok (.iaload, 1) := by decide +kernel
theorem d_Ed_replaced_16 : decode prog_5_method_3_code 16 = .ok (.aload_n 0, 1) := by decide +kernel
theorem d_Ed_replaced_17 : decode prog_5_method_3_code 17 = .ok (.getfield 9, 3) := by decide +kernel
theorem d_Ed_replaced_20 : decode prog_5_method_3_code 20 = .ok (.iconst 0, 1) := by decide +kernel
theorem d_Ed_replaced_21 : decode prog_5_method_3_code 21 = .ok (.aload_n 0, 1) := by decide +kernel
theorem d_Ed_replaced_22 : decode prog_5_method_3_code 22 = .ok (.getfield 15, 3) := by decide +kernel
theorem d_Ed_replaced_25 : decode prog_5_method_3_code 25 = .ok (.getfield 40, 3) := by decide +kernel
theorem d_Ed_replaced_28 : decode prog_5_method_3_code 28 = .ok (.iload_n 2, 1) := by decide +kernel
theorem d_Ed_replaced_29 : decode prog_5_method_3_code 29 = .ok (.iaload, 1) := by decide +kernel
theorem d_Ed_replaced_30 : decode prog_5_method_3_code 30 = .ok (.invokestatic 43, 3) := by decide +kernel
theorem d_Ed_replaced_33 : decode prog_5_method_3_code 33 = .ok (.iload_n 1, 1) := by decide +kernel
theorem d_Ed_replaced_34 : decode prog_5_method_3_code 34 = .ok (.bipush 26, 2) := by decide +kernel
theorem d_Ed_replaced_36 : decode prog_5_method_3_code 36 = .ok (.irem, 1) := by decide +kernel
theorem d_Ed_replaced_37 : decode prog_5_method_3_code 37 = .ok (.istore_n 3, 1) := by decide +kernel
theorem d_Ed_replaced_38 : decode prog_5_method_3_code 38 = .ok (.iload_n 1, 1) := by decide +kernel
theorem d_Ed_replaced_39 : decode prog_5_method_3_code 39 = .ok (.bipush 26, 2) := by decide +kernel
theorem d_Ed_replaced_41 : decode prog_5_method_3_code 41 = .ok (.idiv, 1) := by decide +kernel
theorem d_Ed_replaced_42 : decode prog_5_method_3_code 42 = .ok (.istore 4, 2) := by decide +kernel
theorem d_Ed_replaced_44 : decode prog_5_method_3_code 44 = .ok (.aload_n 0, 1) := by decide +kernel
theorem d_Ed_replaced_45 : decode prog_5_method_3_code 45 = .ok (.iload_n 2, 1) := by decide +kernel
theorem d_Ed_replaced_46 : decode prog_5_method_3_code 46 = .ok (.iload_n 1, 1) := by decide +kernel
theorem d_Ed_replaced_47 : decode prog_5_method_3_code 47 = .ok (.iload_n 3, 1) := by decide +kernel
theorem d_Ed_replaced_48 : decode prog_5_method_3_code 48 = .ok (.iload 4, 2) := by decide +kernel
theorem d_Ed_replaced_50 : decode prog_5_method_3_code 50 = .ok (.iload_n 3, 1) := by decide +kernel
theorem d_Ed_replaced_51 : decode prog_5_method_3_code 51 = .ok (.iload 4, 2) := by decide +kernel
theorem d_Ed_replaced_53 : decode prog_5_method_3_code 53 = .ok (.invokevirtual 49, 3) := by decide +kernel
theorem d_Ed_replaced_56 : decode prog_5_method_3_code 56 = .ok (.ireturn, 1) := by decide +kernel
set_option maxHeartbeats 4000000 in
theorem w_Ed_replaced_0 {l : Launch} {G : gG} {d : Nat} {X : gX} {M : gM} {k : Int → gM → Prop} {c : Nat} (hX : glX X c) {x1 : Int} (hx1 : g32 x1) {x2 : Int} (hx2 : g32 x2)  (T : ((0 : Int) ≤ x2 ∧ x2 < 513) ∧ (g32 (M (c + 6) (Int.toNat x2)) → (((0 : Int) ≤ x2 ∧ x2 < 513) ∧ (g32 (M (c + 7) (Int.toNat x2)) → (((0 : Int) ≤ (M (c + 6) (Int.toNat x2)) ∧ (0 : Int) ≤ (0 : Int) ∧ (0 : Int) ≤ (M (c + 7) (Int.toNat x2)) ∧ (M (c + 6) (Int.toNat x2)) + (M (c + 7) (Int.toNat x2)) ≤ 10480 ∧ (0 : Int) + (M (c + 7) (Int.toNat x2)) ≤ 50) ∧ (cZ l G y_Ed_written (gRm d) true [gR G (c + 21), gI x2, gI x1, gI (x1.tmod 26), gI (x1.tdiv 26), gI (x1.tmod 26), gI (x1.tdiv 26)] X (gCp M (c + 22) (c + 11) (Int.toNat (M (c + 6) (Int.toNat x2))) (Int.toNat 0) (Int.toNat (M (c + 7) (Int.toNat x2)))) (fun v4 M3 => (k v4 M3)))))))) : wp l G y_Ed_replaced (gRm (d + 1)) true (kkZ X k) false 0 [.val (gR G (c + 21)), .val (gI x1), .val (gI x2), .unset, .unset] [] X M 0 0 := by
  refine wp_aload_n d_Ed_replaced_0 rfl rfl (g_nz (gl_1 hX 21)) ?_
  refine xgetR d_Ed_replaced_1 gc_Ed f_Ed_15.1 f_Ed_15.2.1 f_Ed_15.2.2.1 (gl_1 hX 21) (gl_2 hX (a := 21) (by decide)) (gl_s hX 21 rfl) f_Ed_15.2.2.2.2.1 (gl_f hX 25 rfl) ?_
  refine xgetR d_Ed_replaced_4 gc_Cn f_Ed_32.1 f_Ed_32.2.1 f_Ed_32.2.2.1 (gl_1 hX 2) (gl_2 hX (a := 2) (by decide)) (gl_s hX 2 rfl) f_Ed_32.2.2.2.2.1 (gl_f hX 10 rfl) ?_
  refine wp_aload_n d_Ed_replaced_7 rfl rfl (g_nz (gl_1 hX 21)) ?_
  refine xgetR d_Ed_replaced_8 gc_Ed f_Ed_15.1 f_Ed_15.2.1 f_Ed_15.2.2.1 (gl_1 hX 21) (gl_2 hX (a := 21) (by decide)) (gl_s hX 21 rfl) f_Ed_15.2.2.2.2.1 (gl_f hX 25 rfl) ?_
  refine xgetR d_Ed_replaced_11 gc_Cn f_Ed_37.1 f_Ed_37.2.1 f_Ed_37.2.2.1 (gl_1 hX 2) (gl_2 hX (a := 2) (by decide)) (gl_s hX 2 rfl) f_Ed_37.2.2.2.2.1 (gl_f hX 5 rfl) ?_
  refine wp_iload_n d_Ed_replaced_14 rfl rfl ?_
  refine wp_iaload d_Ed_replaced_15 (gl_1 hX 6) (gl_2 hX (a := 6) (by decide)) (gl_s hX 6 rfl) (g32_n T.1 (by decide)) T.1.1 T.1.2 (fun h1 => ?_)
  have T := T.2 h1
  refine wp_aload_n d_Ed_replaced_16 rfl rfl (g_nz (gl_1 hX 21)) ?_
  refine xgetR d_Ed_replaced_17 gc_Ed f_Ed_9.1 f_Ed_9.2.1 f_Ed_9.2.2.1 (gl_1 hX 21) (gl_2 hX (a := 21) (by decide)) (gl_s hX 21 rfl) f_Ed_9.2.2.2.2.1 (gl_f hX 24 rfl) ?_
  refine wp_iconst d_Ed_replaced_20 ?_
  refine wp_aload_n d_Ed_replaced_21 rfl rfl (g_nz (gl_1 hX 21)) ?_
  refine xgetR d_Ed_replaced_22 gc_Ed f_Ed_15.1 f_Ed_15.2.1 f_Ed_15.2.2.1 (gl_1 hX 21) (gl_2 hX (a := 21) (by decide)) (gl_s hX 21 rfl) f_Ed_15.2.2.2.2.1 (gl_f hX 25 rfl) ?_
  refine xgetR d_Ed_replaced_25 gc_Cn f_Ed_40.1 f_Ed_40.2.1 f_Ed_40.2.2.1 (gl_1 hX 2) (gl_2 hX (a := 2) (by decide)) (gl_s hX 2 rfl) f_Ed_40.2.2.2.2.1 (gl_f hX 6 rfl) ?_
  refine wp_iload_n d_Ed_replaced_28 rfl rfl ?_
  refine wp_iaload d_Ed_replaced_29 (gl_1 hX 7) (gl_2 hX (a := 7) (by decide)) (gl_s hX 7 rfl) (g32_n T.1 (by decide)) T.1.1 T.1.2 (fun h2 => ?_)
  have T := T.2 h2
  refine wp_copy (a := c + 22) (a0 := c + 11) d_Ed_replaced_30 ml_Ed_43 na_arraycopy sm_arraycopy in_System (by decide) (gl_1 hX 11) (gl_2 hX (a := 11) (by decide)) (gl_s hX 11 rfl) (gl_1 hX 22) (gl_2 hX (a := 22) (by decide)) (gl_s hX 22 rfl) (by decide) (by decide) T.1 (g_cpfr d) (g_cplo d) ?_
  have T := T.2
  refine wp_iload_n d_Ed_replaced_33 rfl rfl ?_
  refine wp_bipush d_Ed_replaced_34 ⟨by decide, by decide⟩ ?_
  refine xirem d_Ed_replaced_36 (w32_id hx1) (w32_id (g32_c (x := 26) rfl)) (by decide) ?_
  refine wp_istore_n (L' := [.val (gR G (c + 21)), .val (gI x1), .val (gI x2), .val (gI (x1.tmod 26)), .unset]) d_Ed_replaced_37 rfl (by decide) rfl ?_
  refine wp_iload_n d_Ed_replaced_38 rfl rfl ?_
  refine wp_bipush d_Ed_replaced_39 ⟨by decide, by decide⟩ ?_
  refine xidiv d_Ed_replaced_41 (w32_id hx1) (w32_id (g32_c (x := 26) rfl)) (by decide) ?_
  refine wp_istore (L' := [.val (gR G (c + 21)), .val (gI x1), .val (gI x2), .val (gI (x1.tmod 26)), .val (gI (x1.tdiv 26))]) d_Ed_replaced_42 (by decide) rfl ?_
  refine wp_aload_n d_Ed_replaced_44 rfl rfl (g_nz (gl_1 hX 21)) ?_
  refine wp_iload_n d_Ed_replaced_45 rfl rfl ?_
  refine wp_iload_n d_Ed_replaced_46 rfl rfl ?_
  refine wp_iload_n d_Ed_replaced_47 rfl rfl ?_
  refine wp_iload d_Ed_replaced_48 rfl ?_
  refine wp_iload_n d_Ed_replaced_50 rfl rfl ?_
  refine wp_iload d_Ed_replaced_51 rfl ?_
  refine xcV_Z (md' := true) (As := [gI x2, gI x1, gI (x1.tmod 26), gI (x1.tdiv 26), gI (x1.tmod 26), gI (x1.tdiv 26)]) (st := []) d_Ed_replaced_53 ca_Ed_written ml_Ed_49 im_Ed_written se_Ed_written gc_Ed (gl_1 hX 21) (gl_2 hX (a := 21) (by decide)) (gl_s hX 21 rfl) rfl (by decide) (by decide) rfl (fun _ => rfl) (fun _ => rfl) T (fun v4 M3 h5 T => ?_)
  exact wp_zreturn d_Ed_replaced_56 rfl (g_narz h5) (fun _ => rfl) (Nat.zero_le _) (Nat.zero_le _) (kZ_mk h5 T)
theorem e_Ed_replaced {l : Launch} {G : gG} {d : Nat} {X : gX} {M : gM} {k : Int → gM → Prop} {c : Nat} {x1 : Int} {x2 : Int} (T : wp l G y_Ed_replaced (gRm (d + 1)) true (kkZ X k) false 0 [.val (gR G (c + 21)), .val (gI x1), .val (gI x2), .unset, .unset] [] X M 0 0) : cZ l G y_Ed_replaced (gRm (d + 1)) true [gR G (c + 21), gI x1, gI x2] X M k := cen_Z (plainFor_of_name rfl) (by simp only [lg_sl_R, lg_sl_I, lg_sl_L, lg_sl_N, List.length_cons, List.length_nil]; decide) (by unfold gEn; simp only [lg_sl_R, lg_sl_I, lg_sl_L, lg_sl_N]; exact wpt T (And.intro rfl (And.intro rfl (And.intro rfl True.intro))))
theorem d_Ed_filled_0 : decode prog_5_method_4_code 0 = .ok (.aload_n 0, 1) := by decide +kernel
theorem d_Ed_filled_1 : decode prog_5_method_4_code 1 = .ok (.getfield 19, 3) := by decide +kernel
theorem d_Ed_filled_4 : decode prog_5_method_4_code 4 = .ok (.iload_n 1, 1) := by decide +kernel
theorem d_Ed_filled_5 : decode prog_5_method_4_code 5 = .ok (.invokevirtual 53, 3) := by decide +kernel
theorem d_Ed_filled_8 : decode prog_5_method_4_code 8 = .ok (.istore 6, 2) := by decide +kernel
theorem d_Ed_filled_10 : decode prog_5_method_4_code 10 = .ok (.iconst 0, 1) := by decide +kernel
theorem d_Ed_filled_11 : decode prog_5_method_4_code 11 = .ok (.istore 7, 2) := by decide +kernel
theorem d_Ed_filled_13 : decode prog_5_method_4_code 13 = .ok (.iload 6, 2) := by decide +kernel
theorem d_Ed_filled_15 : decode prog_5_method_4_code 15 = .ok (.aload_n 0, 1) := by decide +kernel
theorem d_Ed_filled_16 : decode prog_5_method_4_code 16 = .ok (.getfield 19, 3) := by decide +kernel
theorem d_Ed_filled_19 : decode prog_5_method_4_code 19 = .ok (.getfield 26, 3) := by decide +kernel
theorem d_Ed_filled_22 : decode prog_5_method_4_code 22 = .ok (.if_icmp .ge 63, 3) := by decide +kernel
theorem d_Ed_filled_85 : decode prog_5_method_4_code 85 = .ok (.aload_n 0, 1) := by decide +kernel
theorem d_Ed_filled_86 : decode prog_5_method_4_code 86 = .ok (.iload 7, 2) := by decide +kernel
theorem d_Ed_filled_88 : decode prog_5_method_4_code 88 = .ok (.iload_n 1, 1) := by decide +kernel
theorem d_Ed_filled_89 : decode prog_5_method_4_code 89 = .ok (.iload_n 2, 1) := by decide +kernel
theorem d_Ed_filled_90 : decode prog_5_method_4_code 90 = .ok (.iload_n 3, 1) := by decide +kernel
theorem d_Ed_filled_91 : decode prog_5_method_4_code 91 = .ok (.iload 4, 2) := by decide +kernel
theorem d_Ed_filled_93 : decode prog_5_method_4_code 93 = .ok (.iload 5, 2) := by decide +kernel
theorem d_Ed_filled_95 : decode prog_5_method_4_code 95 = .ok (.invokevirtual 49, 3) := by decide +kernel
theorem d_Ed_filled_98 : decode prog_5_method_4_code 98 = .ok (.ireturn, 1) := by decide +kernel
theorem d_Ed_filled_25 : decode prog_5_method_4_code 25 = .ok (.aload_n 0, 1) := by decide +kernel
theorem d_Ed_filled_26 : decode prog_5_method_4_code 26 = .ok (.getfield 19, 3) := by decide +kernel
theorem d_Ed_filled_29 : decode prog_5_method_4_code 29 = .ok (.getfield 57, 3) := by decide +kernel
theorem d_Ed_filled_32 : decode prog_5_method_4_code 32 = .ok (.iload 6, 2) := by decide +kernel
theorem d_Ed_filled_34 : decode prog_5_method_4_code 34 = .ok (.iaload, 1) := by decide +kernel
theorem d_Ed_filled_35 : decode prog_5_method_4_code 35 = .ok (.iload_n 1, 1) := by decide +kernel
theorem d_Ed_filled_36 : decode prog_5_method_4_code 36 = .ok (.if_icmp .ne 49, 3) := by decide +kernel
theorem d_Ed_filled_39 : decode prog_5_method_4_code 39 = .ok (.aload_n 0, 1) := by decide +kernel
theorem d_Ed_filled_40 : decode prog_5_method_4_code 40 = .ok (.getfield 19, 3) := by decide +kernel
theorem d_Ed_filled_43 : decode prog_5_method_4_code 43 = .ok (.getfield 60, 3) := by decide +kernel
theorem d_Ed_filled_46 : decode prog_5_method_4_code 46 = .ok (.iload 6, 2) := by decide +kernel
theorem d_Ed_filled_48 : decode prog_5_method_4_code 48 = .ok (.iaload, 1) := by decide +kernel
theorem d_Ed_filled_49 : decode prog_5_method_4_code 49 = .ok (.istore 7, 2) := by decide +kernel
theorem d_Ed_filled_51 : decode prog_5_method_4_code 51 = .ok (.aload_n 0, 1) := by decide +kernel
theorem d_Ed_filled_52 : decode prog_5_method_4_code 52 = .ok (.getfield 19, 3) := by decide +kernel
theorem d_Ed_filled_55 : decode prog_5_method_4_code 55 = .ok (.getfield 63, 3) := by decide +kernel
theorem d_Ed_filled_58 : decode prog_5_method_4_code 58 = .ok (.aload_n 0, 1) := by decide +kernel
theorem d_Ed_filled_59 : decode prog_5_method_4_code 59 = .ok (.getfield 19, 3) := by decide +kernel
theorem d_Ed_filled_62 : decode prog_5_method_4_code 62 = .ok (.getfield 64, 3) := by decide +kernel
theorem d_Ed_filled_65 : decode prog_5_method_4_code 65 = .ok (.iload 6, 2) := by decide +kernel
theorem d_Ed_filled_67 : decode prog_5_method_4_code 67 = .ok (.iaload, 1) := by decide +kernel
theorem d_Ed_filled_68 : decode prog_5_method_4_code 68 = .ok (.aload_n 0, 1) := by decide +kernel
theorem d_Ed_filled_69 : decode prog_5_method_4_code 69 = .ok (.getfield 9, 3) := by decide +kernel
theorem d_Ed_filled_72 : decode prog_5_method_4_code 72 = .ok (.iconst 0, 1) := by decide +kernel
theorem d_Ed_filled_73 : decode prog_5_method_4_code 73 = .ok (.aload_n 0, 1) := by decide +kernel
theorem d_Ed_filled_74 : decode prog_5_method_4_code 74 = .ok (.getfield 19, 3) := by decide +kernel
theorem d_Ed_filled_77 : decode prog_5_method_4_code 77 = .ok (.iload 6, 2) := by decide +kernel
theorem d_Ed_filled_79 : decode prog_5_method_4_code 79 = .ok (.invokevirtual 67, 3) := by decide +kernel
theorem d_Ed_filled_82 : decode prog_5_method_4_code 82 = .ok (.invokestatic 43, 3) := by decide +kernel
set_option maxHeartbeats 4000000 in
theorem w_Ed_filled_0 {l : Launch} {G : gG} {d : Nat} {X : gX} {M : gM} {k : Int → gM → Prop} {c : Nat} (hX : glX X c) {x1 : Int} (hx1 : g32 x1) {x2 : Int} (hx2 : g32 x2) {x3 : Int} (hx3 : g32 x3) {x4 : Int} (hx4 : g32 x4) {x5 : Int} (hx5 : g32 x5) {s2 : Nat} (hs2 : X.2.2 (c + 21) 2 = s2 ∧ gsX X s2) (T : cI l G y_St_entryFrom (gRm d) false [gR G s2, gI x1] X M (fun v2 M1 => (g32 (M1 s2 0) → ((M1 s2 0 ≤ v2 → (cZ l G y_Ed_written (gRm d) true [gR G (c + 21), gI 0, gI x1, gI x2, gI x3, gI x4, gI x5] X M1 (fun v6 M5 => (k v6 M5)))) ∧ (¬ M1 s2 0 ≤ v2 → (((0 : Int) ≤ v2 ∧ v2 < 400) ∧ (g32 (M1 (s2 + 1) (Int.toNat v2)) → ((¬ M1 (s2 + 1) (Int.toNat v2) = x1 → (cZ l G y_Ed_written (gRm d) true [gR G (c + 21), gI 0, gI x1, gI x2, gI x3, gI x4, gI x5] X M1 (fun v10 M9 => (k v10 M9)))) ∧ (M1 (s2 + 1) (Int.toNat v2) = x1 → (((0 : Int) ≤ v2 ∧ v2 < 400) ∧ (g32 (M1 (s2 + 2) (Int.toNat v2)) → (((0 : Int) ≤ v2 ∧ v2 < 401) ∧ (g32 (M1 (s2 + 3) (Int.toNat v2)) → (cI l G y_St_refs (gRm d) false [gR G s2, gI v2] X M1 (fun v15 M14 => (((0 : Int) ≤ (M1 (s2 + 3) (Int.toNat v2)) ∧ (0 : Int) ≤ (0 : Int) ∧ (0 : Int) ≤ v15 ∧ (M1 (s2 + 3) (Int.toNat v2)) + v15 ≤ 20000 ∧ (0 : Int) + v15 ≤ 50) ∧ (cZ l G y_Ed_written (gRm d) true [gR G (c + 21), gI (M1 (s2 + 2) (Int.toNat v2)), gI x1, gI x2, gI x3, gI x4, gI x5] X (gCp M14 (c + 22) (s2 + 4) (Int.toNat (M1 (s2 + 3) (Int.toNat v2))) (Int.toNat 0) (Int.toNat v15)) (fun v18 M17 => (k v18 M17))))))))))))))))))) : wp l G y_Ed_filled (gRm (d + 1)) true (kkZ X k) false 0 [.val (gR G (c + 21)), .val (gI x1), .val (gI x2), .val (gI x3), .val (gI x4), .val (gI x5), .unset, .unset] [] X M 0 0 := by
  refine wp_aload_n d_Ed_filled_0 rfl rfl (g_nz (gl_1 hX 21)) ?_
  refine xgetR d_Ed_filled_1 gc_Ed f_Ed_19.1 f_Ed_19.2.1 f_Ed_19.2.2.1 (gl_1 hX 21) (gl_2 hX (a := 21) (by decide)) (gl_s hX 21 rfl) f_Ed_19.2.2.2.2.1 hs2.1 ?_
  refine wp_iload_n d_Ed_filled_4 rfl rfl ?_
  refine xcV_I (md' := false) (As := [gI x1]) (st := []) d_Ed_filled_5 ca_St_entryFrom ml_Ed_53 im_St_entryFrom se_St_entryFrom gc_St hs2.2.1 (gs_2 hs2.2) hs2.2.2.2.1 rfl (by decide) (by decide) rfl id id T (fun v2 M1 h3 T => ?_)
  refine wp_istore (L' := [.val (gR G (c + 21)), .val (gI x1), .val (gI x2), .val (gI x3), .val (gI x4), .val (gI x5), .val (gI v2), .unset]) d_Ed_filled_8 (by decide) rfl ?_
  refine wp_iconst d_Ed_filled_10 ?_
  refine wp_istore (L' := [.val (gR G (c + 21)), .val (gI x1), .val (gI x2), .val (gI x3), .val (gI x4), .val (gI x5), .val (gI v2), .val (gI 0)]) d_Ed_filled_11 (by decide) rfl ?_
  refine wp_iload d_Ed_filled_13 rfl ?_
  refine wp_aload_n d_Ed_filled_15 rfl rfl (g_nz (gl_1 hX 21)) ?_
  refine xgetR d_Ed_filled_16 gc_Ed f_Ed_19.1 f_Ed_19.2.1 f_Ed_19.2.2.1 (gl_1 hX 21) (gl_2 hX (a := 21) (by decide)) (gl_s hX 21 rfl) f_Ed_19.2.2.2.2.1 hs2.1 ?_
  refine xgetI d_Ed_filled_19 gc_St f_Ed_26.1 f_Ed_26.2.1 f_Ed_26.2.2.1 hs2.2.1 (gs_2 hs2.2) hs2.2.2.2.1 f_Ed_26.2.2.2.2.1 (fun h4 => ?_)
  have T := T h4
  refine xi_ge (tgt := 85) d_Ed_filled_22 (by decide) (w32_id h3) (w32_id h4) (fun h21 => ?_) (fun h21 => ?_)
  · have T := T.1 h21
    refine wp_aload_n d_Ed_filled_85 rfl rfl (g_nz (gl_1 hX 21)) ?_
    refine wp_iload d_Ed_filled_86 rfl ?_
    refine wp_iload_n d_Ed_filled_88 rfl rfl ?_
    refine wp_iload_n d_Ed_filled_89 rfl rfl ?_
    refine wp_iload_n d_Ed_filled_90 rfl rfl ?_
    refine wp_iload d_Ed_filled_91 rfl ?_
    refine wp_iload d_Ed_filled_93 rfl ?_
    refine xcV_Z (md' := true) (As := [gI 0, gI x1, gI x2, gI x3, gI x4, gI x5]) (st := []) d_Ed_filled_95 ca_Ed_written ml_Ed_49 im_Ed_written se_Ed_written gc_Ed (gl_1 hX 21) (gl_2 hX (a := 21) (by decide)) (gl_s hX 21 rfl) rfl (by decide) (by decide) rfl (fun _ => rfl) (fun _ => rfl) T (fun v6 M5 h7 T => ?_)
    exact wp_zreturn d_Ed_filled_98 rfl (g_narz h7) (fun _ => rfl) (Nat.zero_le _) (Nat.zero_le _) (kZ_mk h7 T)
  · have T := T.2 h21
    refine wp_aload_n d_Ed_filled_25 rfl rfl (g_nz (gl_1 hX 21)) ?_
    refine xgetR d_Ed_filled_26 gc_Ed f_Ed_19.1 f_Ed_19.2.1 f_Ed_19.2.2.1 (gl_1 hX 21) (gl_2 hX (a := 21) (by decide)) (gl_s hX 21 rfl) f_Ed_19.2.2.2.2.1 hs2.1 ?_
    refine xgetR d_Ed_filled_29 gc_St f_Ed_57.1 f_Ed_57.2.1 f_Ed_57.2.2.1 hs2.2.1 (gs_2 hs2.2) hs2.2.2.2.1 f_Ed_57.2.2.2.2.1 (gs_r hs2.2 0 rfl).1 ?_
    refine wp_iload d_Ed_filled_32 rfl ?_
    refine wp_iaload d_Ed_filled_34 (gs_r hs2.2 0 rfl).2.2.1 (gs_r hs2.2 0 rfl).2.2.2 (gs_r hs2.2 0 rfl).2.1 (g32_n T.1 (by decide)) T.1.1 T.1.2 (fun h8 => ?_)
    have T := T.2 h8
    refine wp_iload_n d_Ed_filled_35 rfl rfl ?_
    refine xi_ne (tgt := 85) d_Ed_filled_36 (by decide) (w32_id h8) (w32_id hx1) (fun h20 => ?_) (fun h20 => ?_)
    · have T := T.1 h20
      refine wp_aload_n d_Ed_filled_85 rfl rfl (g_nz (gl_1 hX 21)) ?_
      refine wp_iload d_Ed_filled_86 rfl ?_
      refine wp_iload_n d_Ed_filled_88 rfl rfl ?_
      refine wp_iload_n d_Ed_filled_89 rfl rfl ?_
      refine wp_iload_n d_Ed_filled_90 rfl rfl ?_
      refine wp_iload d_Ed_filled_91 rfl ?_
      refine wp_iload d_Ed_filled_93 rfl ?_
      refine xcV_Z (md' := true) (As := [gI 0, gI x1, gI x2, gI x3, gI x4, gI x5]) (st := []) d_Ed_filled_95 ca_Ed_written ml_Ed_49 im_Ed_written se_Ed_written gc_Ed (gl_1 hX 21) (gl_2 hX (a := 21) (by decide)) (gl_s hX 21 rfl) rfl (by decide) (by decide) rfl (fun _ => rfl) (fun _ => rfl) T (fun v10 M9 h11 T => ?_)
      exact wp_zreturn d_Ed_filled_98 rfl (g_narz h11) (fun _ => rfl) (Nat.zero_le _) (Nat.zero_le _) (kZ_mk h11 T)
    · have T := T.2 h20
      refine wp_aload_n d_Ed_filled_39 rfl rfl (g_nz (gl_1 hX 21)) ?_
      refine xgetR d_Ed_filled_40 gc_Ed f_Ed_19.1 f_Ed_19.2.1 f_Ed_19.2.2.1 (gl_1 hX 21) (gl_2 hX (a := 21) (by decide)) (gl_s hX 21 rfl) f_Ed_19.2.2.2.2.1 hs2.1 ?_
      refine xgetR d_Ed_filled_43 gc_St f_Ed_60.1 f_Ed_60.2.1 f_Ed_60.2.2.1 hs2.2.1 (gs_2 hs2.2) hs2.2.2.2.1 f_Ed_60.2.2.2.2.1 (gs_r hs2.2 1 rfl).1 ?_
      refine wp_iload d_Ed_filled_46 rfl ?_
      refine wp_iaload d_Ed_filled_48 (gs_r hs2.2 1 rfl).2.2.1 (gs_r hs2.2 1 rfl).2.2.2 (gs_r hs2.2 1 rfl).2.1 (g32_n T.1 (by decide)) T.1.1 T.1.2 (fun h12 => ?_)
      have T := T.2 h12
      refine wp_istore (L' := [.val (gR G (c + 21)), .val (gI x1), .val (gI x2), .val (gI x3), .val (gI x4), .val (gI x5), .val (gI v2), .val (gI (M1 (s2 + 2) (Int.toNat v2)))]) d_Ed_filled_49 (by decide) rfl ?_
      refine wp_aload_n d_Ed_filled_51 rfl rfl (g_nz (gl_1 hX 21)) ?_
      refine xgetR d_Ed_filled_52 gc_Ed f_Ed_19.1 f_Ed_19.2.1 f_Ed_19.2.2.1 (gl_1 hX 21) (gl_2 hX (a := 21) (by decide)) (gl_s hX 21 rfl) f_Ed_19.2.2.2.2.1 hs2.1 ?_
      refine xgetR d_Ed_filled_55 gc_St f_Ed_63.1 f_Ed_63.2.1 f_Ed_63.2.2.1 hs2.2.1 (gs_2 hs2.2) hs2.2.2.2.1 f_Ed_63.2.2.2.2.1 (gs_r hs2.2 3 rfl).1 ?_
      refine wp_aload_n d_Ed_filled_58 rfl rfl (g_nz (gl_1 hX 21)) ?_
      refine xgetR d_Ed_filled_59 gc_Ed f_Ed_19.1 f_Ed_19.2.1 f_Ed_19.2.2.1 (gl_1 hX 21) (gl_2 hX (a := 21) (by decide)) (gl_s hX 21 rfl) f_Ed_19.2.2.2.2.1 hs2.1 ?_
      refine xgetR d_Ed_filled_62 gc_St f_Ed_64.1 f_Ed_64.2.1 f_Ed_64.2.2.1 hs2.2.1 (gs_2 hs2.2) hs2.2.2.2.1 f_Ed_64.2.2.2.2.1 (gs_r hs2.2 2 rfl).1 ?_
      refine wp_iload d_Ed_filled_65 rfl ?_
      refine wp_iaload d_Ed_filled_67 (gs_r hs2.2 2 rfl).2.2.1 (gs_r hs2.2 2 rfl).2.2.2 (gs_r hs2.2 2 rfl).2.1 (g32_n T.1 (by decide)) T.1.1 T.1.2 (fun h13 => ?_)
      have T := T.2 h13
      refine wp_aload_n d_Ed_filled_68 rfl rfl (g_nz (gl_1 hX 21)) ?_
      refine xgetR d_Ed_filled_69 gc_Ed f_Ed_9.1 f_Ed_9.2.1 f_Ed_9.2.2.1 (gl_1 hX 21) (gl_2 hX (a := 21) (by decide)) (gl_s hX 21 rfl) f_Ed_9.2.2.2.2.1 (gl_f hX 24 rfl) ?_
      refine wp_iconst d_Ed_filled_72 ?_
      refine wp_aload_n d_Ed_filled_73 rfl rfl (g_nz (gl_1 hX 21)) ?_
      refine xgetR d_Ed_filled_74 gc_Ed f_Ed_19.1 f_Ed_19.2.1 f_Ed_19.2.2.1 (gl_1 hX 21) (gl_2 hX (a := 21) (by decide)) (gl_s hX 21 rfl) f_Ed_19.2.2.2.2.1 hs2.1 ?_
      refine wp_iload d_Ed_filled_77 rfl ?_
      refine xcV_I (md' := false) (As := [gI v2]) (st := [gI 0, gR G (c + 22), gI (M1 (s2 + 3) (Int.toNat v2)), gR G (s2 + 4)]) d_Ed_filled_79 ca_St_refs ml_Ed_67 im_St_refs se_St_refs gc_St hs2.2.1 (gs_2 hs2.2) hs2.2.2.2.1 rfl (by decide) (by simp only [List.map, gR_cat, gI_cat, gL_cat, List.sum_cons, List.sum_nil]; decide) rfl id id T (fun v15 M14 h16 T => ?_)
      refine wp_copy (a := c + 22) (a0 := s2 + 4) d_Ed_filled_82 ml_Ed_43 na_arraycopy sm_arraycopy in_System (by decide) (gs_r hs2.2 3 rfl).2.2.1 (gs_r hs2.2 3 rfl).2.2.2 (gs_r hs2.2 3 rfl).2.1 (gl_1 hX 22) (gl_2 hX (a := 22) (by decide)) (gl_s hX 22 rfl) (by decide) (by decide) T.1 (g_cpfr d) (g_cplo d) ?_
      have T := T.2
      refine wp_aload_n d_Ed_filled_85 rfl rfl (g_nz (gl_1 hX 21)) ?_
      refine wp_iload d_Ed_filled_86 rfl ?_
      refine wp_iload_n d_Ed_filled_88 rfl rfl ?_
      refine wp_iload_n d_Ed_filled_89 rfl rfl ?_
      refine wp_iload_n d_Ed_filled_90 rfl rfl ?_
      refine wp_iload d_Ed_filled_91 rfl ?_
      refine wp_iload d_Ed_filled_93 rfl ?_
      refine xcV_Z (md' := true) (As := [gI (M1 (s2 + 2) (Int.toNat v2)), gI x1, gI x2, gI x3, gI x4, gI x5]) (st := []) d_Ed_filled_95 ca_Ed_written ml_Ed_49 im_Ed_written se_Ed_written gc_Ed (gl_1 hX 21) (gl_2 hX (a := 21) (by decide)) (gl_s hX 21 rfl) rfl (by decide) (by decide) rfl (fun _ => rfl) (fun _ => rfl) T (fun v18 M17 h19 T => ?_)
      exact wp_zreturn d_Ed_filled_98 rfl (g_narz h19) (fun _ => rfl) (Nat.zero_le _) (Nat.zero_le _) (kZ_mk h19 T)
theorem e_Ed_filled {l : Launch} {G : gG} {d : Nat} {X : gX} {M : gM} {k : Int → gM → Prop} {c : Nat} {x1 : Int} {x2 : Int} {x3 : Int} {x4 : Int} {x5 : Int} (T : wp l G y_Ed_filled (gRm (d + 1)) true (kkZ X k) false 0 [.val (gR G (c + 21)), .val (gI x1), .val (gI x2), .val (gI x3), .val (gI x4), .val (gI x5), .unset, .unset] [] X M 0 0) : cZ l G y_Ed_filled (gRm (d + 1)) true [gR G (c + 21), gI x1, gI x2, gI x3, gI x4, gI x5] X M k := cen_Z (plainFor_of_name rfl) (by simp only [lg_sl_R, lg_sl_I, lg_sl_L, lg_sl_N, List.length_cons, List.length_nil]; decide) (by unfold gEn; simp only [lg_sl_R, lg_sl_I, lg_sl_L, lg_sl_N]; exact wpt T (And.intro rfl (And.intro rfl (And.intro rfl (And.intro rfl (And.intro rfl (And.intro rfl True.intro)))))))
theorem d_Ed_written_0 : decode prog_5_method_5_code 0 = .ok (.iconst 0, 1) := by decide +kernel
theorem d_Ed_written_1 : decode prog_5_method_5_code 1 = .ok (.istore 7, 2) := by decide +kernel
theorem d_Ed_written_3 : decode prog_5_method_5_code 3 = .ok (.iload 4, 2) := by decide +kernel
theorem d_Ed_written_5 : decode prog_5_method_5_code 5 = .ok (.istore 8, 2) := by decide +kernel
theorem d_Ed_written_7 : decode prog_5_method_5_code 7 = .ok (.iload 8, 2) := by decide +kernel
theorem d_Ed_written_9 : decode prog_5_method_5_code 9 = .ok (.iload 6, 2) := by decide +kernel
theorem d_Ed_written_11 : decode prog_5_method_5_code 11 = .ok (.if_icmp .gt 119, 3) := by decide +kernel
theorem d_Ed_written_130 : decode prog_5_method_5_code 130 = .ok (.aload_n 0, 1) := by decide +kernel
theorem d_Ed_written_131 : decode prog_5_method_5_code 131 = .ok (.getfield 23, 3) := by decide +kernel
theorem d_Ed_written_134 : decode prog_5_method_5_code 134 = .ok (.aload_n 0, 1) := by decide +kernel
theorem d_Ed_written_135 : decode prog_5_method_5_code 135 = .ok (.getfield 19, 3) := by decide +kernel
theorem d_Ed_written_138 : decode prog_5_method_5_code 138 = .ok (.iload 7, 2) := by decide +kernel
theorem d_Ed_written_140 : decode prog_5_method_5_code 140 = .ok (.aload_n 0, 1) := by decide +kernel
theorem d_Ed_written_141 : decode prog_5_method_5_code 141 = .ok (.getfield 19, 3) := by decide +kernel
theorem d_Ed_written_144 : decode prog_5_method_5_code 144 = .ok (.getfield 26, 3) := by decide +kernel
theorem d_Ed_written_147 : decode prog_5_method_5_code 147 = .ok (.invokevirtual 72, 3) := by decide +kernel
theorem d_Ed_written_150 : decode prog_5_method_5_code 150 = .ok (.ifCond .eq 14, 3) := by decide +kernel
theorem d_Ed_written_164 : decode prog_5_method_5_code 164 = .ok (.iconst 0, 1) := by decide +kernel
theorem d_Ed_written_165 : decode prog_5_method_5_code 165 = .ok (.ireturn, 1) := by decide +kernel
theorem d_Ed_written_153 : decode prog_5_method_5_code 153 = .ok (.aload_n 0, 1) := by decide +kernel
theorem d_Ed_written_154 : decode prog_5_method_5_code 154 = .ok (.invokevirtual 80, 3) := by decide +kernel
theorem d_Ed_written_157 : decode prog_5_method_5_code 157 = .ok (.ifCond .eq 7, 3) := by decide +kernel
theorem d_Ed_written_160 : decode prog_5_method_5_code 160 = .ok (.iconst 1, 1) := by decide +kernel
theorem d_Ed_written_161 : decode prog_5_method_5_code 161 = .ok (.goto 4, 3) := by decide +kernel
theorem d_Ed_written_14 : decode prog_5_method_5_code 14 = .ok (.aload_n 0, 1) := by decide +kernel
theorem d_Ed_written_15 : decode prog_5_method_5_code 15 = .ok (.getfield 23, 3) := by decide +kernel
theorem d_Ed_written_18 : decode prog_5_method_5_code 18 = .ok (.aload_n 0, 1) := by decide +kernel
theorem d_Ed_written_19 : decode prog_5_method_5_code 19 = .ok (.getfield 19, 3) := by decide +kernel
theorem d_Ed_written_22 : decode prog_5_method_5_code 22 = .ok (.iload 7, 2) := by decide +kernel
theorem d_Ed_written_24 : decode prog_5_method_5_code 24 = .ok (.aload_n 0, 1) := by decide +kernel
theorem d_Ed_written_25 : decode prog_5_method_5_code 25 = .ok (.getfield 19, 3) := by decide +kernel
theorem d_Ed_written_28 : decode prog_5_method_5_code 28 = .ok (.iload_n 3, 1) := by decide +kernel
theorem d_Ed_written_29 : decode prog_5_method_5_code 29 = .ok (.iload 8, 2) := by decide +kernel
theorem d_Ed_written_31 : decode prog_5_method_5_code 31 = .ok (.invokestatic 69, 3) := by decide +kernel
theorem d_Ed_written_34 : decode prog_5_method_5_code 34 = .ok (.invokevirtual 53, 3) := by decide +kernel
theorem d_Ed_written_37 : decode prog_5_method_5_code 37 = .ok (.invokevirtual 72, 3) := by decide +kernel
theorem d_Ed_written_40 : decode prog_5_method_5_code 40 = .ok (.ifCond .ne 5, 3) := by decide +kernel
theorem d_Ed_written_45 : decode prog_5_method_5_code 45 = .ok (.aload_n 0, 1) := by decide +kernel
theorem d_Ed_written_46 : decode prog_5_method_5_code 46 = .ok (.getfield 19, 3) := by decide +kernel
theorem d_Ed_written_49 : decode prog_5_method_5_code 49 = .ok (.iload 5, 2) := by decide +kernel
theorem d_Ed_written_51 : decode prog_5_method_5_code 51 = .ok (.iload 8, 2) := by decide +kernel
theorem d_Ed_written_53 : decode prog_5_method_5_code 53 = .ok (.invokestatic 69, 3) := by decide +kernel
theorem d_Ed_written_56 : decode prog_5_method_5_code 56 = .ok (.iconst 1, 1) := by decide +kernel
theorem d_Ed_written_57 : decode prog_5_method_5_code 57 = .ok (.iadd, 1) := by decide +kernel
theorem d_Ed_written_58 : decode prog_5_method_5_code 58 = .ok (.invokevirtual 53, 3) := by decide +kernel
theorem d_Ed_written_61 : decode prog_5_method_5_code 61 = .ok (.istore 7, 2) := by decide +kernel
theorem d_Ed_written_63 : decode prog_5_method_5_code 63 = .ok (.iload_n 3, 1) := by decide +kernel
theorem d_Ed_written_64 : decode prog_5_method_5_code 64 = .ok (.istore 9, 2) := by decide +kernel
theorem d_Ed_written_43 : decode prog_5_method_5_code 43 = .ok (.iconst 0, 1) := by decide +kernel
theorem d_Ed_written_44 : decode prog_5_method_5_code 44 = .ok (.ireturn, 1) := by decide +kernel
theorem d_Ed_written_66 : decode prog_5_method_5_code 66 = .ok (.iload 9, 2) := by decide +kernel
theorem d_Ed_written_68 : decode prog_5_method_5_code 68 = .ok (.iload 5, 2) := by decide +kernel
theorem d_Ed_written_70 : decode prog_5_method_5_code 70 = .ok (.if_icmp .gt 54, 3) := by decide +kernel
theorem d_Ed_written_124 : decode prog_5_method_5_code 124 = .ok (.iinc 8 1, 3) := by decide +kernel
theorem d_Ed_written_127 : decode prog_5_method_5_code 127 = .ok (.goto (-120), 3) := by decide +kernel
theorem d_Ed_written_73 : decode prog_5_method_5_code 73 = .ok (.iload_n 1, 1) := by decide +kernel
theorem d_Ed_written_74 : decode prog_5_method_5_code 74 = .ok (.ifCond .eq 50, 3) := by decide +kernel
theorem d_Ed_written_77 : decode prog_5_method_5_code 77 = .ok (.aload_n 0, 1) := by decide +kernel
theorem d_Ed_written_78 : decode prog_5_method_5_code 78 = .ok (.getfield 23, 3) := by decide +kernel
theorem d_Ed_written_81 : decode prog_5_method_5_code 81 = .ok (.getfield 26, 3) := by decide +kernel
theorem d_Ed_written_84 : decode prog_5_method_5_code 84 = .ok (.sipush 400, 3) := by decide +kernel
theorem d_Ed_written_87 : decode prog_5_method_5_code 87 = .ok (.if_icmp .ne 5, 3) := by decide +kernel
theorem d_Ed_written_92 : decode prog_5_method_5_code 92 = .ok (.aload_n 0, 1) := by decide +kernel
theorem d_Ed_written_93 : decode prog_5_method_5_code 93 = .ok (.iload_n 1, 1) := by decide +kernel
theorem d_Ed_written_94 : decode prog_5_method_5_code 94 = .ok (.iload 9, 2) := by decide +kernel
theorem d_Ed_written_96 : decode prog_5_method_5_code 96 = .ok (.iload 8, 2) := by decide +kernel
theorem d_Ed_written_98 : decode prog_5_method_5_code 98 = .ok (.invokestatic 69, 3) := by decide +kernel
theorem d_Ed_written_101 : decode prog_5_method_5_code 101 = .ok (.iload 9, 2) := by decide +kernel
theorem d_Ed_written_103 : decode prog_5_method_5_code 103 = .ok (.iload_n 2, 1) := by decide +kernel
theorem d_Ed_written_104 : decode prog_5_method_5_code 104 = .ok (.bipush 26, 2) := by decide +kernel
theorem d_Ed_written_106 : decode prog_5_method_5_code 106 = .ok (.irem, 1) := by decide +kernel
theorem d_Ed_written_107 : decode prog_5_method_5_code 107 = .ok (.isub, 1) := by decide +kernel
theorem d_Ed_written_108 : decode prog_5_method_5_code 108 = .ok (.iload 8, 2) := by decide +kernel
theorem d_Ed_written_110 : decode prog_5_method_5_code 110 = .ok (.iload_n 2, 1) := by decide +kernel
theorem d_Ed_written_111 : decode prog_5_method_5_code 111 = .ok (.bipush 26, 2) := by decide +kernel
theorem d_Ed_written_113 : decode prog_5_method_5_code 113 = .ok (.idiv, 1) := by decide +kernel
theorem d_Ed_written_114 : decode prog_5_method_5_code 114 = .ok (.isub, 1) := by decide +kernel
theorem d_Ed_written_115 : decode prog_5_method_5_code 115 = .ok (.invokevirtual 76, 3) := by decide +kernel
theorem d_Ed_written_118 : decode prog_5_method_5_code 118 = .ok (.iinc 9 1, 3) := by decide +kernel
theorem d_Ed_written_121 : decode prog_5_method_5_code 121 = .ok (.goto (-55), 3) := by decide +kernel
theorem d_Ed_written_90 : decode prog_5_method_5_code 90 = .ok (.iconst 0, 1) := by decide +kernel
theorem d_Ed_written_91 : decode prog_5_method_5_code 91 = .ok (.ireturn, 1) := by decide +kernel
set_option maxHeartbeats 4000000 in
theorem w_Ed_written_0 {l : Launch} {G : gG} {d : Nat} {X : gX} {M : gM} {k : Int → gM → Prop} {c : Nat} (hX : glX X c) {x1 : Int} (hx1 : g32 x1) {x2 : Int} (hx2 : g32 x2) {x3 : Int} (hx3 : g32 x3) {x4 : Int} (hx4 : g32 x4) {x5 : Int} (hx5 : g32 x5) {x6 : Int} (hx6 : g32 x6)  (T : wp l G y_Ed_written (gRm (d + 1)) true (kkZ X k) true 7 [.val (gR G (c + 21)), .val (gI x1), .val (gI x2), .val (gI x3), .unset, .val (gI x5), .val (gI x6), .val (gI 0), .val (gI x4), .unset] [] X M 0 0) : wp l G y_Ed_written (gRm (d + 1)) true (kkZ X k) false 0 [.val (gR G (c + 21)), .val (gI x1), .val (gI x2), .val (gI x3), .val (gI x4), .val (gI x5), .val (gI x6), .unset, .unset, .unset] [] X M 0 0 := by
  refine wp_iconst d_Ed_written_0 ?_
  refine wp_istore (L' := [.val (gR G (c + 21)), .val (gI x1), .val (gI x2), .val (gI x3), .val (gI x4), .val (gI x5), .val (gI x6), .val (gI 0), .unset, .unset]) d_Ed_written_1 (by decide) rfl ?_
  refine wp_iload d_Ed_written_3 rfl ?_
  refine wp_istore (L' := [.val (gR G (c + 21)), .val (gI x1), .val (gI x2), .val (gI x3), .val (gI x4), .val (gI x5), .val (gI x6), .val (gI 0), .val (gI x4), .unset]) d_Ed_written_5 (by decide) rfl ?_
  exact wp_md (wpt T (And.intro rfl (And.intro rfl (And.intro rfl (And.intro rfl (And.intro rfl (And.intro rfl (And.intro rfl (And.intro rfl True.intro)))))))))
set_option maxHeartbeats 4000000 in
theorem w_Ed_written_7 {l : Launch} {G : gG} {d : Nat} {X : gX} {M : gM} {k : Int → gM → Prop} {c : Nat} (hX : glX X c) {x1 : Int} (hx1 : g32 x1) {x2 : Int} (hx2 : g32 x2) {x3 : Int} (hx3 : g32 x3) {x5 : Int} (hx5 : g32 x5) {x6 : Int} (hx6 : g32 x6) {x7 : Int} (hx7 : g32 x7) {x8 : Int} (hx8 : g32 x8) {s3 : Nat} (hs3 : X.2.2 (c + 21) 3 = s3 ∧ gsX X s3) {s2 : Nat} (hs2 : X.2.2 (c + 21) 2 = s2 ∧ gsX X s2) (T : (x6 < x8 → (g32 (M s2 0) → (cZ l G y_St_addRun (gRm d) true [gR G s3, gR G s2, gI x7, gI (M s2 0)] X M (fun v3 M2 => ((v3 = 0 → (k 0 M2)) ∧ (¬ v3 = 0 → (cZ l G y_Ed_rangesFit (gRm d) false [gR G (c + 21)] X M2 (fun v6 M5 => ((v6 = 0 → (k 0 M5)) ∧ (¬ v6 = 0 → (k 1 M5))))))))))) ∧ (¬ x6 < x8 → (cI l G y_GL_place (gRm d) false [gI x3, gI x8] X M (fun v11 M10 => (cI l G y_St_entryFrom (gRm d) false [gR G s2, gI v11] X M10 (fun v14 M13 => (cZ l G y_St_addRun (gRm d) true [gR G s3, gR G s2, gI x7, gI v14] X M13 (fun v17 M16 => ((¬ v17 = 0 → (cI l G y_GL_place (gRm d) false [gI x5, gI x8] X M16 (fun v20 M19 => (cI l G y_St_entryFrom (gRm d) false [gR G s2, gI (v20 + 1)] X M19 (fun v23 M22 => (wp l G y_Ed_written (gRm (d + 1)) true (kkZ X k) true 66 [.val (gR G (c + 21)), .val (gI x1), .val (gI x2), .val (gI x3), .unset, .val (gI x5), .val (gI x6), .val (gI v23), .val (gI x8), .val (gI x3)] [] X M22 0 0)))))) ∧ (v17 = 0 → (k 0 M16))))))))))) : wp l G y_Ed_written (gRm (d + 1)) true (kkZ X k) true 7 [.val (gR G (c + 21)), .val (gI x1), .val (gI x2), .val (gI x3), .unset, .val (gI x5), .val (gI x6), .val (gI x7), .val (gI x8), .unset] [] X M 0 0 := by
  refine wp_iload d_Ed_written_7 rfl ?_
  refine wp_iload d_Ed_written_9 rfl ?_
  refine xi_gt (tgt := 130) d_Ed_written_11 (by decide) (w32_id hx8) (w32_id hx6) (fun h26 => ?_) (fun h26 => ?_)
  · have T := T.1 h26
    refine wp_aload_n d_Ed_written_130 rfl rfl (g_nz (gl_1 hX 21)) ?_
    refine xgetR d_Ed_written_131 gc_Ed f_Ed_23.1 f_Ed_23.2.1 f_Ed_23.2.2.1 (gl_1 hX 21) (gl_2 hX (a := 21) (by decide)) (gl_s hX 21 rfl) f_Ed_23.2.2.2.2.1 hs3.1 ?_
    refine wp_aload_n d_Ed_written_134 rfl rfl (g_nz (gl_1 hX 21)) ?_
    refine xgetR d_Ed_written_135 gc_Ed f_Ed_19.1 f_Ed_19.2.1 f_Ed_19.2.2.1 (gl_1 hX 21) (gl_2 hX (a := 21) (by decide)) (gl_s hX 21 rfl) f_Ed_19.2.2.2.2.1 hs2.1 ?_
    refine wp_iload d_Ed_written_138 rfl ?_
    refine wp_aload_n d_Ed_written_140 rfl rfl (g_nz (gl_1 hX 21)) ?_
    refine xgetR d_Ed_written_141 gc_Ed f_Ed_19.1 f_Ed_19.2.1 f_Ed_19.2.2.1 (gl_1 hX 21) (gl_2 hX (a := 21) (by decide)) (gl_s hX 21 rfl) f_Ed_19.2.2.2.2.1 hs2.1 ?_
    refine xgetI d_Ed_written_144 gc_St f_Ed_26.1 f_Ed_26.2.1 f_Ed_26.2.2.1 hs2.2.1 (gs_2 hs2.2) hs2.2.2.2.1 f_Ed_26.2.2.2.2.1 (fun h1 => ?_)
    have T := T h1
    refine xcV_Z (md' := true) (As := [gR G s2, gI x7, gI (M s2 0)]) (st := []) d_Ed_written_147 ca_St_addRun ml_Ed_72 im_St_addRun se_St_addRun gc_St hs3.2.1 (gs_2 hs3.2) hs3.2.2.2.1 rfl (by decide) (by decide) rfl (fun _ => rfl) (fun _ => rfl) T (fun v3 M2 h4 T => ?_)
    refine xz_eq (tgt := 164) d_Ed_written_150 (by decide) (w32_id (g32_z h4)) (fun h9 => ?_) (fun h9 => ?_)
    · have T := T.1 h9
      refine wp_iconst d_Ed_written_164 ?_
      exact wp_zreturn d_Ed_written_165 rfl (g_narz (⟨by decide, by decide⟩ : (0 : Int) ≤ 0 ∧ (0 : Int) ≤ 1)) (fun _ => rfl) (Nat.zero_le _) (Nat.zero_le _) (kZ_mk (⟨by decide, by decide⟩ : (0 : Int) ≤ 0 ∧ (0 : Int) ≤ 1) T)
    · have T := T.2 h9
      refine wp_aload_n d_Ed_written_153 rfl rfl (g_nz (gl_1 hX 21)) ?_
      refine xcV_Z (md' := true) (As := []) (st := []) d_Ed_written_154 ca_Ed_rangesFit ml_Ed_80 im_Ed_rangesFit se_Ed_rangesFit gc_Ed (gl_1 hX 21) (gl_2 hX (a := 21) (by decide)) (gl_s hX 21 rfl) rfl (by decide) (by decide) rfl (fun _ => rfl) (fun _ => rfl) T (fun v6 M5 h7 T => ?_)
      refine xz_eq (tgt := 164) d_Ed_written_157 (by decide) (w32_id (g32_z h7)) (fun h8 => ?_) (fun h8 => ?_)
      · have T := T.1 h8
        refine wp_iconst d_Ed_written_164 ?_
        exact wp_zreturn d_Ed_written_165 rfl (g_narz (⟨by decide, by decide⟩ : (0 : Int) ≤ 0 ∧ (0 : Int) ≤ 1)) (fun _ => rfl) (Nat.zero_le _) (Nat.zero_le _) (kZ_mk (⟨by decide, by decide⟩ : (0 : Int) ≤ 0 ∧ (0 : Int) ≤ 1) T)
      · have T := T.2 h8
        refine wp_iconst d_Ed_written_160 ?_
        refine wp_goto (tgt := 165) d_Ed_written_161 (by decide) ?_
        exact wp_zreturn d_Ed_written_165 rfl (g_narz (⟨by decide, by decide⟩ : (0 : Int) ≤ 1 ∧ (1 : Int) ≤ 1)) (fun _ => rfl) (Nat.zero_le _) (Nat.zero_le _) (kZ_mk (⟨by decide, by decide⟩ : (0 : Int) ≤ 1 ∧ (1 : Int) ≤ 1) T)
  · have T := T.2 h26
    refine wp_aload_n d_Ed_written_14 rfl rfl (g_nz (gl_1 hX 21)) ?_
    refine xgetR d_Ed_written_15 gc_Ed f_Ed_23.1 f_Ed_23.2.1 f_Ed_23.2.2.1 (gl_1 hX 21) (gl_2 hX (a := 21) (by decide)) (gl_s hX 21 rfl) f_Ed_23.2.2.2.2.1 hs3.1 ?_
    refine wp_aload_n d_Ed_written_18 rfl rfl (g_nz (gl_1 hX 21)) ?_
    refine xgetR d_Ed_written_19 gc_Ed f_Ed_19.1 f_Ed_19.2.1 f_Ed_19.2.2.1 (gl_1 hX 21) (gl_2 hX (a := 21) (by decide)) (gl_s hX 21 rfl) f_Ed_19.2.2.2.2.1 hs2.1 ?_
    refine wp_iload d_Ed_written_22 rfl ?_
    refine wp_aload_n d_Ed_written_24 rfl rfl (g_nz (gl_1 hX 21)) ?_
    refine xgetR d_Ed_written_25 gc_Ed f_Ed_19.1 f_Ed_19.2.1 f_Ed_19.2.2.1 (gl_1 hX 21) (gl_2 hX (a := 21) (by decide)) (gl_s hX 21 rfl) f_Ed_19.2.2.2.2.1 hs2.1 ?_
    refine wp_iload_n d_Ed_written_28 rfl rfl ?_
    refine wp_iload d_Ed_written_29 rfl ?_
    refine xcN_I (md' := true) (As := [gI x3, gI x8]) (st := [gR G s2, gI x7, gR G s2, gR G s3]) d_Ed_written_31 ca_GL_place ml_Ed_69 sm_GL_place rfl (by decide) (by simp only [List.map, gR_cat, gI_cat, gL_cat, List.sum_cons, List.sum_nil]; decide) rfl (fun _ => rfl) (fun _ => rfl) T (fun v11 M10 h12 T => ?_)
    refine xcV_I (md' := true) (As := [gI v11]) (st := [gI x7, gR G s2, gR G s3]) d_Ed_written_34 ca_St_entryFrom ml_Ed_53 im_St_entryFrom se_St_entryFrom gc_St hs2.2.1 (gs_2 hs2.2) hs2.2.2.2.1 rfl (by decide) (by simp only [List.map, gR_cat, gI_cat, gL_cat, List.sum_cons, List.sum_nil]; decide) rfl (fun _ => rfl) (fun _ => rfl) T (fun v14 M13 h15 T => ?_)
    refine xcV_Z (md' := true) (As := [gR G s2, gI x7, gI v14]) (st := []) d_Ed_written_37 ca_St_addRun ml_Ed_72 im_St_addRun se_St_addRun gc_St hs3.2.1 (gs_2 hs3.2) hs3.2.2.2.1 rfl (by decide) (by decide) rfl (fun _ => rfl) (fun _ => rfl) T (fun v17 M16 h18 T => ?_)
    refine xz_ne (tgt := 45) d_Ed_written_40 (by decide) (w32_id (g32_z h18)) (fun h25 => ?_) (fun h25 => ?_)
    · have T := T.1 h25
      refine wp_aload_n d_Ed_written_45 rfl rfl (g_nz (gl_1 hX 21)) ?_
      refine xgetR d_Ed_written_46 gc_Ed f_Ed_19.1 f_Ed_19.2.1 f_Ed_19.2.2.1 (gl_1 hX 21) (gl_2 hX (a := 21) (by decide)) (gl_s hX 21 rfl) f_Ed_19.2.2.2.2.1 hs2.1 ?_
      refine wp_iload d_Ed_written_49 rfl ?_
      refine wp_iload d_Ed_written_51 rfl ?_
      refine xcN_I (md' := true) (As := [gI x5, gI x8]) (st := [gR G s2]) d_Ed_written_53 ca_GL_place ml_Ed_69 sm_GL_place rfl (by decide) (by simp only [List.map, gR_cat, gI_cat, gL_cat, List.sum_cons, List.sum_nil]; decide) rfl (fun _ => rfl) (fun _ => rfl) T (fun v20 M19 h21 T => ?_)
      refine wp_iconst d_Ed_written_56 ?_
      refine wp_iadd d_Ed_written_57 ?_
      refine xcV_I (md' := true) (As := [gI (v20 + 1)]) (st := []) d_Ed_written_58 ca_St_entryFrom ml_Ed_53 im_St_entryFrom se_St_entryFrom gc_St hs2.2.1 (gs_2 hs2.2) hs2.2.2.2.1 rfl (by decide) (by decide) rfl (fun _ => rfl) (fun _ => rfl) T (fun v23 M22 h24 T => ?_)
      refine wp_istore (L' := [.val (gR G (c + 21)), .val (gI x1), .val (gI x2), .val (gI x3), .unset, .val (gI x5), .val (gI x6), .val (gI v23), .val (gI x8), .unset]) d_Ed_written_61 (by decide) rfl ?_
      refine wp_iload_n d_Ed_written_63 rfl rfl ?_
      refine wp_istore (L' := [.val (gR G (c + 21)), .val (gI x1), .val (gI x2), .val (gI x3), .unset, .val (gI x5), .val (gI x6), .val (gI v23), .val (gI x8), .val (gI x3)]) d_Ed_written_64 (by decide) rfl ?_
      exact wp_md (wpt T (And.intro rfl (And.intro rfl (And.intro rfl (And.intro rfl (And.intro rfl (And.intro rfl (And.intro rfl (And.intro rfl (And.intro rfl True.intro))))))))))
    · have T := T.2 h25
      refine wp_iconst d_Ed_written_43 ?_
      exact wp_zreturn d_Ed_written_44 rfl (g_narz (⟨by decide, by decide⟩ : (0 : Int) ≤ 0 ∧ (0 : Int) ≤ 1)) (fun _ => rfl) (Nat.zero_le _) (Nat.zero_le _) (kZ_mk (⟨by decide, by decide⟩ : (0 : Int) ≤ 0 ∧ (0 : Int) ≤ 1) T)
set_option maxHeartbeats 4000000 in
theorem w_Ed_written_66 {l : Launch} {G : gG} {d : Nat} {X : gX} {M : gM} {k : Int → gM → Prop} {c : Nat} (hX : glX X c) {x1 : Int} (hx1 : g32 x1) {x2 : Int} (hx2 : g32 x2) {x3 : Int} (hx3 : g32 x3) {x5 : Int} (hx5 : g32 x5) {x6 : Int} (hx6 : g32 x6) {x7 : Int} (hx7 : g32 x7) {x8 : Int} (hx8 : g32 x8) {x9 : Int} (hx9 : g32 x9) {s3 : Nat} (hs3 : X.2.2 (c + 21) 3 = s3 ∧ gsX X s3) {s2 : Nat} (hs2 : X.2.2 (c + 21) 2 = s2 ∧ gsX X s2) (T : (x5 < x9 → (wp l G y_Ed_written (gRm (d + 1)) true (kkZ X k) true 7 [.val (gR G (c + 21)), .val (gI x1), .val (gI x2), .val (gI x3), .unset, .val (gI x5), .val (gI x6), .val (gI x7), .val (gI (w32 (x8 + 1))), .unset] [] X M 0 0)) ∧ (¬ x5 < x9 → ((x1 = 0 → (wp l G y_Ed_written (gRm (d + 1)) true (kkZ X k) true 7 [.val (gR G (c + 21)), .val (gI x1), .val (gI x2), .val (gI x3), .unset, .val (gI x5), .val (gI x6), .val (gI x7), .val (gI (w32 (x8 + 1))), .unset] [] X M 0 0)) ∧ (¬ x1 = 0 → (g32 (M s3 0) → ((¬ M s3 0 = 400 → (cI l G y_GL_place (gRm d) false [gI x9, gI x8] X M (fun v29 M28 => (cV l G y_Ed_addMoved (gRm d) true [gR G (c + 21), gI x1, gI v29, gI (x9 - (x2.tmod 26)), gI (x8 - (x2.tdiv 26))] X M28 (fun M31 => (wp l G y_Ed_written (gRm (d + 1)) true (kkZ X k) true 66 [.val (gR G (c + 21)), .val (gI x1), .val (gI x2), .val (gI x3), .unset, .val (gI x5), .val (gI x6), .val (gI x7), .val (gI x8), .val (gI (w32 (x9 + 1)))] [] X M31 0 0)))))) ∧ (M s3 0 = 400 → (k 0 M)))))))) : wp l G y_Ed_written (gRm (d + 1)) true (kkZ X k) true 66 [.val (gR G (c + 21)), .val (gI x1), .val (gI x2), .val (gI x3), .unset, .val (gI x5), .val (gI x6), .val (gI x7), .val (gI x8), .val (gI x9)] [] X M 0 0 := by
  refine wp_iload d_Ed_written_66 rfl ?_
  refine wp_iload d_Ed_written_68 rfl ?_
  refine xi_gt (tgt := 124) d_Ed_written_70 (by decide) (w32_id hx9) (w32_id hx5) (fun h34 => ?_) (fun h34 => ?_)
  · have T := T.1 h34
    refine wp_iinc (L' := [.val (gR G (c + 21)), .val (gI x1), .val (gI x2), .val (gI x3), .unset, .val (gI x5), .val (gI x6), .val (gI x7), .val (gI (x8 + 1)), .val (gI x9)]) d_Ed_written_124 rfl (by decide) rfl ?_
    refine wp_goto (tgt := 7) d_Ed_written_127 (by decide) ?_
    exact wp_md (wpt T (And.intro rfl (And.intro rfl (And.intro rfl (And.intro rfl (And.intro rfl (And.intro rfl (And.intro rfl (And.intro (gI_w _) True.intro)))))))))
  · have T := T.2 h34
    refine wp_iload_n d_Ed_written_73 rfl rfl ?_
    refine xz_eq (tgt := 124) d_Ed_written_74 (by decide) (w32_id hx1) (fun h33 => ?_) (fun h33 => ?_)
    · have T := T.1 h33
      refine wp_iinc (L' := [.val (gR G (c + 21)), .val (gI x1), .val (gI x2), .val (gI x3), .unset, .val (gI x5), .val (gI x6), .val (gI x7), .val (gI (x8 + 1)), .val (gI x9)]) d_Ed_written_124 rfl (by decide) rfl ?_
      refine wp_goto (tgt := 7) d_Ed_written_127 (by decide) ?_
      exact wp_md (wpt T (And.intro rfl (And.intro rfl (And.intro rfl (And.intro rfl (And.intro rfl (And.intro rfl (And.intro rfl (And.intro (gI_w _) True.intro)))))))))
    · have T := T.2 h33
      refine wp_aload_n d_Ed_written_77 rfl rfl (g_nz (gl_1 hX 21)) ?_
      refine xgetR d_Ed_written_78 gc_Ed f_Ed_23.1 f_Ed_23.2.1 f_Ed_23.2.2.1 (gl_1 hX 21) (gl_2 hX (a := 21) (by decide)) (gl_s hX 21 rfl) f_Ed_23.2.2.2.2.1 hs3.1 ?_
      refine xgetI d_Ed_written_81 gc_St f_Ed_26.1 f_Ed_26.2.1 f_Ed_26.2.2.1 hs3.2.1 (gs_2 hs3.2) hs3.2.2.2.1 f_Ed_26.2.2.2.2.1 (fun h27 => ?_)
      have T := T h27
      refine wp_sipush d_Ed_written_84 ⟨by decide, by decide⟩ ?_
      refine xi_ne (tgt := 92) d_Ed_written_87 (by decide) (w32_id h27) (w32_id (g32_c (x := 400) rfl)) (fun h32 => ?_) (fun h32 => ?_)
      · have T := T.1 h32
        refine wp_aload_n d_Ed_written_92 rfl rfl (g_nz (gl_1 hX 21)) ?_
        refine wp_iload_n d_Ed_written_93 rfl rfl ?_
        refine wp_iload d_Ed_written_94 rfl ?_
        refine wp_iload d_Ed_written_96 rfl ?_
        refine xcN_I (md' := true) (As := [gI x9, gI x8]) (st := [gI x1, gR G (c + 21)]) d_Ed_written_98 ca_GL_place ml_Ed_69 sm_GL_place rfl (by decide) (by simp only [List.map, gR_cat, gI_cat, gL_cat, List.sum_cons, List.sum_nil]; decide) rfl (fun _ => rfl) (fun _ => rfl) T (fun v29 M28 h30 T => ?_)
        refine wp_iload d_Ed_written_101 rfl ?_
        refine wp_iload_n d_Ed_written_103 rfl rfl ?_
        refine wp_bipush d_Ed_written_104 ⟨by decide, by decide⟩ ?_
        refine xirem d_Ed_written_106 (w32_id hx2) (w32_id (g32_c (x := 26) rfl)) (by decide) ?_
        refine wp_isub d_Ed_written_107 ?_
        refine wp_iload d_Ed_written_108 rfl ?_
        refine wp_iload_n d_Ed_written_110 rfl rfl ?_
        refine wp_bipush d_Ed_written_111 ⟨by decide, by decide⟩ ?_
        refine xidiv d_Ed_written_113 (w32_id hx2) (w32_id (g32_c (x := 26) rfl)) (by decide) ?_
        refine wp_isub d_Ed_written_114 ?_
        refine xcV_V (md' := true) (As := [gI x1, gI v29, gI (x9 - (x2.tmod 26)), gI (x8 - (x2.tdiv 26))]) (st := []) d_Ed_written_115 ca_Ed_addMoved ml_Ed_76 im_Ed_addMoved se_Ed_addMoved gc_Ed (gl_1 hX 21) (gl_2 hX (a := 21) (by decide)) (gl_s hX 21 rfl) rfl (by decide) (by decide) rfl (fun _ => rfl) (fun _ => rfl) T (fun M31 T => ?_)
        refine wp_iinc (L' := [.val (gR G (c + 21)), .val (gI x1), .val (gI x2), .val (gI x3), .unset, .val (gI x5), .val (gI x6), .val (gI x7), .val (gI x8), .val (gI (x9 + 1))]) d_Ed_written_118 rfl (by decide) rfl ?_
        refine wp_goto (tgt := 66) d_Ed_written_121 (by decide) ?_
        exact wp_md (wpt T (And.intro rfl (And.intro rfl (And.intro rfl (And.intro rfl (And.intro rfl (And.intro rfl (And.intro rfl (And.intro rfl (And.intro (gI_w _) True.intro))))))))))
      · have T := T.2 h32
        refine wp_iconst d_Ed_written_90 ?_
        exact wp_zreturn d_Ed_written_91 rfl (g_narz (⟨by decide, by decide⟩ : (0 : Int) ≤ 0 ∧ (0 : Int) ≤ 1)) (fun _ => rfl) (Nat.zero_le _) (Nat.zero_le _) (kZ_mk (⟨by decide, by decide⟩ : (0 : Int) ≤ 0 ∧ (0 : Int) ≤ 1) T)
theorem e_Ed_written {l : Launch} {G : gG} {d : Nat} {X : gX} {M : gM} {k : Int → gM → Prop} {c : Nat} {x1 : Int} {x2 : Int} {x3 : Int} {x4 : Int} {x5 : Int} {x6 : Int} (T : wp l G y_Ed_written (gRm (d + 1)) true (kkZ X k) false 0 [.val (gR G (c + 21)), .val (gI x1), .val (gI x2), .val (gI x3), .val (gI x4), .val (gI x5), .val (gI x6), .unset, .unset, .unset] [] X M 0 0) : cZ l G y_Ed_written (gRm (d + 1)) true [gR G (c + 21), gI x1, gI x2, gI x3, gI x4, gI x5, gI x6] X M k := cen_Z (plainFor_of_name rfl) (by simp only [lg_sl_R, lg_sl_I, lg_sl_L, lg_sl_N, List.length_cons, List.length_nil]; decide) (by unfold gEn; simp only [lg_sl_R, lg_sl_I, lg_sl_L, lg_sl_N]; exact wpt T (And.intro rfl (And.intro rfl (And.intro rfl (And.intro rfl (And.intro rfl (And.intro rfl (And.intro rfl True.intro))))))))
theorem d_Ed_shifted_0 : decode prog_5_method_8_code 0 = .ok (.aload_n 0, 1) := by decide +kernel
theorem d_Ed_shifted_1 : decode prog_5_method_8_code 1 = .ok (.iload_n 1, 1) := by decide +kernel
theorem d_Ed_shifted_2 : decode prog_5_method_8_code 2 = .ok (.putfield 99, 3) := by decide +kernel
theorem d_Ed_shifted_5 : decode prog_5_method_8_code 5 = .ok (.aload_n 0, 1) := by decide +kernel
theorem d_Ed_shifted_6 : decode prog_5_method_8_code 6 = .ok (.iload_n 2, 1) := by decide +kernel
theorem d_Ed_shifted_7 : decode prog_5_method_8_code 7 = .ok (.putfield 103, 3) := by decide +kernel
theorem d_Ed_shifted_10 : decode prog_5_method_8_code 10 = .ok (.aload_n 0, 1) := by decide +kernel
theorem d_Ed_shifted_11 : decode prog_5_method_8_code 11 = .ok (.iload_n 3, 1) := by decide +kernel
theorem d_Ed_shifted_12 : decode prog_5_method_8_code 12 = .ok (.putfield 106, 3) := by decide +kernel
theorem d_Ed_shifted_15 : decode prog_5_method_8_code 15 = .ok (.aload_n 0, 1) := by decide +kernel
theorem d_Ed_shifted_16 : decode prog_5_method_8_code 16 = .ok (.iload 4, 2) := by decide +kernel
theorem d_Ed_shifted_18 : decode prog_5_method_8_code 18 = .ok (.putfield 109, 3) := by decide +kernel
theorem d_Ed_shifted_21 : decode prog_5_method_8_code 21 = .ok (.iconst 0, 1) := by decide +kernel
theorem d_Ed_shifted_22 : decode prog_5_method_8_code 22 = .ok (.istore 5, 2) := by decide +kernel
theorem d_Ed_shifted_24 : decode prog_5_method_8_code 24 = .ok (.iload 5, 2) := by decide +kernel
theorem d_Ed_shifted_26 : decode prog_5_method_8_code 26 = .ok (.aload_n 0, 1) := by decide +kernel
theorem d_Ed_shifted_27 : decode prog_5_method_8_code 27 = .ok (.getfield 19, 3) := by decide +kernel
theorem d_Ed_shifted_30 : decode prog_5_method_8_code 30 = .ok (.getfield 26, 3) := by decide +kernel
theorem d_Ed_shifted_33 : decode prog_5_method_8_code 33 = .ok (.if_icmp .ge 68, 3) := by decide +kernel
theorem d_Ed_shifted_101 : decode prog_5_method_8_code 101 = .ok (.aload_n 0, 1) := by decide +kernel
theorem d_Ed_shifted_102 : decode prog_5_method_8_code 102 = .ok (.invokevirtual 80, 3) := by decide +kernel
theorem d_Ed_shifted_105 : decode prog_5_method_8_code 105 = .ok (.ireturn, 1) := by decide +kernel
theorem d_Ed_shifted_36 : decode prog_5_method_8_code 36 = .ok (.aload_n 0, 1) := by decide +kernel
theorem d_Ed_shifted_37 : decode prog_5_method_8_code 37 = .ok (.aload_n 0, 1) := by decide +kernel
theorem d_Ed_shifted_38 : decode prog_5_method_8_code 38 = .ok (.getfield 19, 3) := by decide +kernel
theorem d_Ed_shifted_41 : decode prog_5_method_8_code 41 = .ok (.getfield 57, 3) := by decide +kernel
theorem d_Ed_shifted_44 : decode prog_5_method_8_code 44 = .ok (.iload 5, 2) := by decide +kernel
theorem d_Ed_shifted_46 : decode prog_5_method_8_code 46 = .ok (.iaload, 1) := by decide +kernel
theorem d_Ed_shifted_47 : decode prog_5_method_8_code 47 = .ok (.invokevirtual 112, 3) := by decide +kernel
theorem d_Ed_shifted_50 : decode prog_5_method_8_code 50 = .ok (.istore 6, 2) := by decide +kernel
theorem d_Ed_shifted_52 : decode prog_5_method_8_code 52 = .ok (.iload 6, 2) := by decide +kernel
theorem d_Ed_shifted_54 : decode prog_5_method_8_code 54 = .ok (.iconst (-1), 1) := by decide +kernel
theorem d_Ed_shifted_55 : decode prog_5_method_8_code 55 = .ok (.if_icmp .eq 31, 3) := by decide +kernel
theorem d_Ed_shifted_86 : decode prog_5_method_8_code 86 = .ok (.aload_n 0, 1) := by decide +kernel
theorem d_Ed_shifted_87 : decode prog_5_method_8_code 87 = .ok (.getfield 103, 3) := by decide +kernel
theorem d_Ed_shifted_90 : decode prog_5_method_8_code 90 = .ok (.ifCond .eq 5, 3) := by decide +kernel
theorem d_Ed_shifted_95 : decode prog_5_method_8_code 95 = .ok (.iinc 5 1, 3) := by decide +kernel
theorem d_Ed_shifted_98 : decode prog_5_method_8_code 98 = .ok (.goto (-74), 3) := by decide +kernel
theorem d_Ed_shifted_93 : decode prog_5_method_8_code 93 = .ok (.iconst 0, 1) := by decide +kernel
theorem d_Ed_shifted_94 : decode prog_5_method_8_code 94 = .ok (.ireturn, 1) := by decide +kernel
theorem d_Ed_shifted_58 : decode prog_5_method_8_code 58 = .ok (.aload_n 0, 1) := by decide +kernel
theorem d_Ed_shifted_59 : decode prog_5_method_8_code 59 = .ok (.getfield 23, 3) := by decide +kernel
theorem d_Ed_shifted_62 : decode prog_5_method_8_code 62 = .ok (.iload 6, 2) := by decide +kernel
theorem d_Ed_shifted_64 : decode prog_5_method_8_code 64 = .ok (.aload_n 0, 1) := by decide +kernel
theorem d_Ed_shifted_65 : decode prog_5_method_8_code 65 = .ok (.getfield 19, 3) := by decide +kernel
theorem d_Ed_shifted_68 : decode prog_5_method_8_code 68 = .ok (.getfield 60, 3) := by decide +kernel
theorem d_Ed_shifted_71 : decode prog_5_method_8_code 71 = .ok (.iload 5, 2) := by decide +kernel
theorem d_Ed_shifted_73 : decode prog_5_method_8_code 73 = .ok (.iaload, 1) := by decide +kernel
theorem d_Ed_shifted_74 : decode prog_5_method_8_code 74 = .ok (.invokevirtual 84, 3) := by decide +kernel
theorem d_Ed_shifted_77 : decode prog_5_method_8_code 77 = .ok (.aload_n 0, 1) := by decide +kernel
theorem d_Ed_shifted_78 : decode prog_5_method_8_code 78 = .ok (.iload 5, 2) := by decide +kernel
theorem d_Ed_shifted_80 : decode prog_5_method_8_code 80 = .ok (.invokevirtual 115, 3) := by decide +kernel
theorem d_Ed_shifted_83 : decode prog_5_method_8_code 83 = .ok (.goto 12, 3) := by decide +kernel
set_option maxHeartbeats 4000000 in
theorem w_Ed_shifted_0 {l : Launch} {G : gG} {d : Nat} {X : gX} {M : gM} {k : Int → gM → Prop} {c : Nat} (hX : glX X c) {x1 : Int} (hx1 : 0 ≤ x1 ∧ x1 ≤ 1) {x2 : Int} (hx2 : 0 ≤ x2 ∧ x2 ≤ 1) {x3 : Int} (hx3 : g32 x3) {x4 : Int} (hx4 : g32 x4)  (T : wp l G y_Ed_shifted (gRm (d + 1)) true (kkZ X k) true 24 [.val (gR G (c + 21)), .unset, .unset, .unset, .unset, .val (gI 0), .unset] [] X (gUp (gUp (gUp (gUp M (c + 21) 4 x1) (c + 21) 5 x2) (c + 21) 6 x3) (c + 21) 7 x4) 0 0) : wp l G y_Ed_shifted (gRm (d + 1)) true (kkZ X k) false 0 [.val (gR G (c + 21)), .val (gI x1), .val (gI x2), .val (gI x3), .val (gI x4), .unset, .unset] [] X M 0 0 := by
  refine wp_aload_n d_Ed_shifted_0 rfl rfl (g_nz (gl_1 hX 21)) ?_
  refine wp_iload_n d_Ed_shifted_1 rfl rfl ?_
  refine xputZ d_Ed_shifted_2 gc_Ed f_Ed_99.1 f_Ed_99.2.1 f_Ed_99.2.2.1 (gl_1 hX 21) (gl_2 hX (a := 21) (by decide)) (gl_s hX 21 rfl) f_Ed_99.2.2.2.1 f_Ed_99.2.2.2.2.1 f_Ed_99.2.2.2.2.2 hx1 ?_
  refine wp_aload_n d_Ed_shifted_5 rfl rfl (g_nz (gl_1 hX 21)) ?_
  refine wp_iload_n d_Ed_shifted_6 rfl rfl ?_
  refine xputZ d_Ed_shifted_7 gc_Ed f_Ed_103.1 f_Ed_103.2.1 f_Ed_103.2.2.1 (gl_1 hX 21) (gl_2 hX (a := 21) (by decide)) (gl_s hX 21 rfl) f_Ed_103.2.2.2.1 f_Ed_103.2.2.2.2.1 f_Ed_103.2.2.2.2.2 hx2 ?_
  refine wp_aload_n d_Ed_shifted_10 rfl rfl (g_nz (gl_1 hX 21)) ?_
  refine wp_iload_n d_Ed_shifted_11 rfl rfl ?_
  refine xputI d_Ed_shifted_12 gc_Ed f_Ed_106.1 f_Ed_106.2.1 f_Ed_106.2.2.1 (gl_1 hX 21) (gl_2 hX (a := 21) (by decide)) (gl_s hX 21 rfl) f_Ed_106.2.2.2.1 f_Ed_106.2.2.2.2.1 f_Ed_106.2.2.2.2.2 (w32_id hx3) ?_
  refine wp_aload_n d_Ed_shifted_15 rfl rfl (g_nz (gl_1 hX 21)) ?_
  refine wp_iload d_Ed_shifted_16 rfl ?_
  refine xputI d_Ed_shifted_18 gc_Ed f_Ed_109.1 f_Ed_109.2.1 f_Ed_109.2.2.1 (gl_1 hX 21) (gl_2 hX (a := 21) (by decide)) (gl_s hX 21 rfl) f_Ed_109.2.2.2.1 f_Ed_109.2.2.2.2.1 f_Ed_109.2.2.2.2.2 (w32_id hx4) ?_
  refine wp_iconst d_Ed_shifted_21 ?_
  refine wp_istore (L' := [.val (gR G (c + 21)), .val (gI x1), .val (gI x2), .val (gI x3), .val (gI x4), .val (gI 0), .unset]) d_Ed_shifted_22 (by decide) rfl ?_
  exact wp_md (wpt T (And.intro rfl (And.intro rfl True.intro)))
set_option maxHeartbeats 4000000 in
theorem w_Ed_shifted_24 {l : Launch} {G : gG} {d : Nat} {X : gX} {M : gM} {k : Int → gM → Prop} {c : Nat} (hX : glX X c) {x5 : Int} (hx5 : g32 x5) {s3 : Nat} (hs3 : X.2.2 (c + 21) 3 = s3 ∧ gsX X s3) {s2 : Nat} (hs2 : X.2.2 (c + 21) 2 = s2 ∧ gsX X s2) (T : g32 (M s2 0) → ((M s2 0 ≤ x5 → (cZ l G y_Ed_rangesFit (gRm d) false [gR G (c + 21)] X M (fun v3 M2 => (k v3 M2)))) ∧ (¬ M s2 0 ≤ x5 → (((0 : Int) ≤ x5 ∧ x5 < 400) ∧ (g32 (M (s2 + 1) (Int.toNat x5)) → (cI l G y_Ed_followed (gRm d) false [gR G (c + 21), gI (M (s2 + 1) (Int.toNat x5))] X M (fun v7 M6 => ((v7 = (-1) → ((0 ≤ M6 (c + 21) 5 ∧ M6 (c + 21) 5 ≤ 1) → ((M6 (c + 21) 5 = 0 → (wp l G y_Ed_shifted (gRm (d + 1)) true (kkZ X k) true 24 [.val (gR G (c + 21)), .unset, .unset, .unset, .unset, .val (gI (w32 (x5 + 1))), .unset] [] X M6 0 0)) ∧ (¬ M6 (c + 21) 5 = 0 → (k 0 M6))))) ∧ (¬ v7 = (-1) → (((0 : Int) ≤ x5 ∧ x5 < 400) ∧ (g32 (M6 (s2 + 2) (Int.toNat x5)) → (cV l G y_St_addEntry (gRm d) true [gR G s3, gI v7, gI (M6 (s2 + 2) (Int.toNat x5))] X M6 (fun M12 => (cV l G y_Ed_addFollowed (gRm d) true [gR G (c + 21), gI x5] X M12 (fun M13 => (wp l G y_Ed_shifted (gRm (d + 1)) true (kkZ X k) true 24 [.val (gR G (c + 21)), .unset, .unset, .unset, .unset, .val (gI (w32 (x5 + 1))), .unset] [] X M13 0 0)))))))))))))))) : wp l G y_Ed_shifted (gRm (d + 1)) true (kkZ X k) true 24 [.val (gR G (c + 21)), .unset, .unset, .unset, .unset, .val (gI x5), .unset] [] X M 0 0 := by
  refine wp_iload d_Ed_shifted_24 rfl ?_
  refine wp_aload_n d_Ed_shifted_26 rfl rfl (g_nz (gl_1 hX 21)) ?_
  refine xgetR d_Ed_shifted_27 gc_Ed f_Ed_19.1 f_Ed_19.2.1 f_Ed_19.2.2.1 (gl_1 hX 21) (gl_2 hX (a := 21) (by decide)) (gl_s hX 21 rfl) f_Ed_19.2.2.2.2.1 hs2.1 ?_
  refine xgetI d_Ed_shifted_30 gc_St f_Ed_26.1 f_Ed_26.2.1 f_Ed_26.2.2.1 hs2.2.1 (gs_2 hs2.2) hs2.2.2.2.1 f_Ed_26.2.2.2.2.1 (fun h1 => ?_)
  have T := T h1
  refine xi_ge (tgt := 101) d_Ed_shifted_33 (by decide) (w32_id hx5) (w32_id h1) (fun h15 => ?_) (fun h15 => ?_)
  · have T := T.1 h15
    refine wp_aload_n d_Ed_shifted_101 rfl rfl (g_nz (gl_1 hX 21)) ?_
    refine xcV_Z (md' := true) (As := []) (st := []) d_Ed_shifted_102 ca_Ed_rangesFit ml_Ed_80 im_Ed_rangesFit se_Ed_rangesFit gc_Ed (gl_1 hX 21) (gl_2 hX (a := 21) (by decide)) (gl_s hX 21 rfl) rfl (by decide) (by decide) rfl (fun _ => rfl) (fun _ => rfl) T (fun v3 M2 h4 T => ?_)
    exact wp_zreturn d_Ed_shifted_105 rfl (g_narz h4) (fun _ => rfl) (Nat.zero_le _) (Nat.zero_le _) (kZ_mk h4 T)
  · have T := T.2 h15
    refine wp_aload_n d_Ed_shifted_36 rfl rfl (g_nz (gl_1 hX 21)) ?_
    refine wp_aload_n d_Ed_shifted_37 rfl rfl (g_nz (gl_1 hX 21)) ?_
    refine xgetR d_Ed_shifted_38 gc_Ed f_Ed_19.1 f_Ed_19.2.1 f_Ed_19.2.2.1 (gl_1 hX 21) (gl_2 hX (a := 21) (by decide)) (gl_s hX 21 rfl) f_Ed_19.2.2.2.2.1 hs2.1 ?_
    refine xgetR d_Ed_shifted_41 gc_St f_Ed_57.1 f_Ed_57.2.1 f_Ed_57.2.2.1 hs2.2.1 (gs_2 hs2.2) hs2.2.2.2.1 f_Ed_57.2.2.2.2.1 (gs_r hs2.2 0 rfl).1 ?_
    refine wp_iload d_Ed_shifted_44 rfl ?_
    refine wp_iaload d_Ed_shifted_46 (gs_r hs2.2 0 rfl).2.2.1 (gs_r hs2.2 0 rfl).2.2.2 (gs_r hs2.2 0 rfl).2.1 (g32_n T.1 (by decide)) T.1.1 T.1.2 (fun h5 => ?_)
    have T := T.2 h5
    refine xcV_I (md' := true) (As := [gI (M (s2 + 1) (Int.toNat x5))]) (st := []) d_Ed_shifted_47 ca_Ed_followed ml_Ed_112 im_Ed_followed se_Ed_followed gc_Ed (gl_1 hX 21) (gl_2 hX (a := 21) (by decide)) (gl_s hX 21 rfl) rfl (by decide) (by decide) rfl (fun _ => rfl) (fun _ => rfl) T (fun v7 M6 h8 T => ?_)
    refine wp_istore (L' := [.val (gR G (c + 21)), .unset, .unset, .unset, .unset, .val (gI x5), .val (gI v7)]) d_Ed_shifted_50 (by decide) rfl ?_
    refine wp_iload d_Ed_shifted_52 rfl ?_
    refine wp_iconst d_Ed_shifted_54 ?_
    refine xi_eq (tgt := 86) d_Ed_shifted_55 (by decide) (w32_id h8) (w32_id (g32_c (x := (-1)) rfl)) (fun h14 => ?_) (fun h14 => ?_)
    · have T := T.1 h14
      refine wp_aload_n d_Ed_shifted_86 rfl rfl (g_nz (gl_1 hX 21)) ?_
      refine xgetZ d_Ed_shifted_87 gc_Ed f_Ed_103.1 f_Ed_103.2.1 f_Ed_103.2.2.1 (gl_1 hX 21) (gl_2 hX (a := 21) (by decide)) (gl_s hX 21 rfl) f_Ed_103.2.2.2.2.1 (fun h9 => ?_)
      have T := T h9
      refine xz_eq (tgt := 95) d_Ed_shifted_90 (by decide) (w32_id (g32_z h9)) (fun h10 => ?_) (fun h10 => ?_)
      · have T := T.1 h10
        refine wp_iinc (L' := [.val (gR G (c + 21)), .unset, .unset, .unset, .unset, .val (gI (x5 + 1)), .val (gI v7)]) d_Ed_shifted_95 rfl (by decide) rfl ?_
        refine wp_goto (tgt := 24) d_Ed_shifted_98 (by decide) ?_
        exact wp_md (wpt T (And.intro rfl (And.intro (gI_w _) True.intro)))
      · have T := T.2 h10
        refine wp_iconst d_Ed_shifted_93 ?_
        exact wp_zreturn d_Ed_shifted_94 rfl (g_narz (⟨by decide, by decide⟩ : (0 : Int) ≤ 0 ∧ (0 : Int) ≤ 1)) (fun _ => rfl) (Nat.zero_le _) (Nat.zero_le _) (kZ_mk (⟨by decide, by decide⟩ : (0 : Int) ≤ 0 ∧ (0 : Int) ≤ 1) T)
    · have T := T.2 h14
      refine wp_aload_n d_Ed_shifted_58 rfl rfl (g_nz (gl_1 hX 21)) ?_
      refine xgetR d_Ed_shifted_59 gc_Ed f_Ed_23.1 f_Ed_23.2.1 f_Ed_23.2.2.1 (gl_1 hX 21) (gl_2 hX (a := 21) (by decide)) (gl_s hX 21 rfl) f_Ed_23.2.2.2.2.1 hs3.1 ?_
      refine wp_iload d_Ed_shifted_62 rfl ?_
      refine wp_aload_n d_Ed_shifted_64 rfl rfl (g_nz (gl_1 hX 21)) ?_
      refine xgetR d_Ed_shifted_65 gc_Ed f_Ed_19.1 f_Ed_19.2.1 f_Ed_19.2.2.1 (gl_1 hX 21) (gl_2 hX (a := 21) (by decide)) (gl_s hX 21 rfl) f_Ed_19.2.2.2.2.1 hs2.1 ?_
      refine xgetR d_Ed_shifted_68 gc_St f_Ed_60.1 f_Ed_60.2.1 f_Ed_60.2.2.1 hs2.2.1 (gs_2 hs2.2) hs2.2.2.2.1 f_Ed_60.2.2.2.2.1 (gs_r hs2.2 1 rfl).1 ?_
      refine wp_iload d_Ed_shifted_71 rfl ?_
      refine wp_iaload d_Ed_shifted_73 (gs_r hs2.2 1 rfl).2.2.1 (gs_r hs2.2 1 rfl).2.2.2 (gs_r hs2.2 1 rfl).2.1 (g32_n T.1 (by decide)) T.1.1 T.1.2 (fun h11 => ?_)
      have T := T.2 h11
      refine xcV_V (md' := true) (As := [gI v7, gI (M6 (s2 + 2) (Int.toNat x5))]) (st := []) d_Ed_shifted_74 ca_St_addEntry ml_Ed_84 im_St_addEntry se_St_addEntry gc_St hs3.2.1 (gs_2 hs3.2) hs3.2.2.2.1 rfl (by decide) (by decide) rfl (fun _ => rfl) (fun _ => rfl) T (fun M12 T => ?_)
      refine wp_aload_n d_Ed_shifted_77 rfl rfl (g_nz (gl_1 hX 21)) ?_
      refine wp_iload d_Ed_shifted_78 rfl ?_
      refine xcV_V (md' := true) (As := [gI x5]) (st := []) d_Ed_shifted_80 ca_Ed_addFollowed ml_Ed_115 im_Ed_addFollowed se_Ed_addFollowed gc_Ed (gl_1 hX 21) (gl_2 hX (a := 21) (by decide)) (gl_s hX 21 rfl) rfl (by decide) (by decide) rfl (fun _ => rfl) (fun _ => rfl) T (fun M13 T => ?_)
      refine wp_goto (tgt := 95) d_Ed_shifted_83 (by decide) ?_
      refine wp_iinc (L' := [.val (gR G (c + 21)), .unset, .unset, .unset, .unset, .val (gI (x5 + 1)), .val (gI v7)]) d_Ed_shifted_95 rfl (by decide) rfl ?_
      refine wp_goto (tgt := 24) d_Ed_shifted_98 (by decide) ?_
      exact wp_md (wpt T (And.intro rfl (And.intro (gI_w _) True.intro)))
theorem e_Ed_shifted {l : Launch} {G : gG} {d : Nat} {X : gX} {M : gM} {k : Int → gM → Prop} {c : Nat} {x1 : Int} {x2 : Int} {x3 : Int} {x4 : Int} (T : wp l G y_Ed_shifted (gRm (d + 1)) true (kkZ X k) false 0 [.val (gR G (c + 21)), .val (gI x1), .val (gI x2), .val (gI x3), .val (gI x4), .unset, .unset] [] X M 0 0) : cZ l G y_Ed_shifted (gRm (d + 1)) true [gR G (c + 21), gI x1, gI x2, gI x3, gI x4] X M k := cen_Z (plainFor_of_name rfl) (by simp only [lg_sl_R, lg_sl_I, lg_sl_L, lg_sl_N, List.length_cons, List.length_nil]; decide) (by unfold gEn; simp only [lg_sl_R, lg_sl_I, lg_sl_L, lg_sl_N]; exact wpt T (And.intro rfl (And.intro rfl (And.intro rfl (And.intro rfl (And.intro rfl True.intro))))))
