/-! Walks of the reference's methods, written by wip/whole/gen_model.py -/
theorem d_GM_find_0 : decode prog_15_method_66_code 0 = .ok (.iload_n 3, 1) := by decide +kernel
theorem d_GM_find_1 : decode prog_15_method_66_code 1 = .ok (.istore 4, 2) := by decide +kernel
theorem d_GM_find_3 : decode prog_15_method_66_code 3 = .ok (.iload 4, 2) := by decide +kernel
theorem d_GM_find_5 : decode prog_15_method_66_code 5 = .ok (.aload_n 0, 1) := by decide +kernel
theorem d_GM_find_6 : decode prog_15_method_66_code 6 = .ok (.getfield 119, 3) := by decide +kernel
theorem d_GM_find_9 : decode prog_15_method_66_code 9 = .ok (.iload_n 1, 1) := by decide +kernel
theorem d_GM_find_10 : decode prog_15_method_66_code 10 = .ok (.iaload, 1) := by decide +kernel
theorem d_GM_find_11 : decode prog_15_method_66_code 11 = .ok (.iadd, 1) := by decide +kernel
theorem d_GM_find_12 : decode prog_15_method_66_code 12 = .ok (.aload_n 0, 1) := by decide +kernel
theorem d_GM_find_13 : decode prog_15_method_66_code 13 = .ok (.getfield 119, 3) := by decide +kernel
theorem d_GM_find_16 : decode prog_15_method_66_code 16 = .ok (.iload_n 2, 1) := by decide +kernel
theorem d_GM_find_17 : decode prog_15_method_66_code 17 = .ok (.iaload, 1) := by decide +kernel
theorem d_GM_find_18 : decode prog_15_method_66_code 18 = .ok (.if_icmp .gt 72, 3) := by decide +kernel
theorem d_GM_find_90 : decode prog_15_method_66_code 90 = .ok (.iconst (-1), 1) := by decide +kernel
theorem d_GM_find_91 : decode prog_15_method_66_code 91 = .ok (.ireturn, 1) := by decide +kernel
theorem d_GM_find_21 : decode prog_15_method_66_code 21 = .ok (.iconst 1, 1) := by decide +kernel
theorem d_GM_find_22 : decode prog_15_method_66_code 22 = .ok (.istore 5, 2) := by decide +kernel
theorem d_GM_find_24 : decode prog_15_method_66_code 24 = .ok (.iconst 0, 1) := by decide +kernel
theorem d_GM_find_25 : decode prog_15_method_66_code 25 = .ok (.istore 6, 2) := by decide +kernel
theorem d_GM_find_27 : decode prog_15_method_66_code 27 = .ok (.iload 5, 2) := by decide +kernel
theorem d_GM_find_29 : decode prog_15_method_66_code 29 = .ok (.ifCond .eq 47, 3) := by decide +kernel
theorem d_GM_find_76 : decode prog_15_method_66_code 76 = .ok (.iload 5, 2) := by decide +kernel
theorem d_GM_find_78 : decode prog_15_method_66_code 78 = .ok (.ifCond .eq 6, 3) := by decide +kernel
theorem d_GM_find_84 : decode prog_15_method_66_code 84 = .ok (.iinc 4 1, 3) := by decide +kernel
theorem d_GM_find_87 : decode prog_15_method_66_code 87 = .ok (.goto (-84), 3) := by decide +kernel
theorem d_GM_find_81 : decode prog_15_method_66_code 81 = .ok (.iload 4, 2) := by decide +kernel
theorem d_GM_find_83 : decode prog_15_method_66_code 83 = .ok (.ireturn, 1) := by decide +kernel
theorem d_GM_find_32 : decode prog_15_method_66_code 32 = .ok (.iload 6, 2) := by decide +kernel
theorem d_GM_find_34 : decode prog_15_method_66_code 34 = .ok (.aload_n 0, 1) := by decide +kernel
theorem d_GM_find_35 : decode prog_15_method_66_code 35 = .ok (.getfield 119, 3) := by decide +kernel
theorem d_GM_find_38 : decode prog_15_method_66_code 38 = .ok (.iload_n 1, 1) := by decide +kernel
theorem d_GM_find_39 : decode prog_15_method_66_code 39 = .ok (.iaload, 1) := by decide +kernel
theorem d_GM_find_40 : decode prog_15_method_66_code 40 = .ok (.if_icmp .ge 36, 3) := by decide +kernel
theorem d_GM_find_43 : decode prog_15_method_66_code 43 = .ok (.aload_n 0, 1) := by decide +kernel
theorem d_GM_find_44 : decode prog_15_method_66_code 44 = .ok (.iload_n 1, 1) := by decide +kernel
theorem d_GM_find_45 : decode prog_15_method_66_code 45 = .ok (.iload 6, 2) := by decide +kernel
theorem d_GM_find_47 : decode prog_15_method_66_code 47 = .ok (.invokevirtual 459, 3) := by decide +kernel
theorem d_GM_find_50 : decode prog_15_method_66_code 50 = .ok (.aload_n 0, 1) := by decide +kernel
theorem d_GM_find_51 : decode prog_15_method_66_code 51 = .ok (.iload_n 2, 1) := by decide +kernel
theorem d_GM_find_52 : decode prog_15_method_66_code 52 = .ok (.iload 4, 2) := by decide +kernel
theorem d_GM_find_54 : decode prog_15_method_66_code 54 = .ok (.iload 6, 2) := by decide +kernel
theorem d_GM_find_56 : decode prog_15_method_66_code 56 = .ok (.iadd, 1) := by decide +kernel
theorem d_GM_find_57 : decode prog_15_method_66_code 57 = .ok (.invokevirtual 459, 3) := by decide +kernel
theorem d_GM_find_60 : decode prog_15_method_66_code 60 = .ok (.if_icmp .ne 7, 3) := by decide +kernel
theorem d_GM_find_67 : decode prog_15_method_66_code 67 = .ok (.iconst 0, 1) := by decide +kernel
theorem d_GM_find_68 : decode prog_15_method_66_code 68 = .ok (.istore 5, 2) := by decide +kernel
theorem d_GM_find_70 : decode prog_15_method_66_code 70 = .ok (.iinc 6 1, 3) := by decide +kernel
theorem d_GM_find_73 : decode prog_15_method_66_code 73 = .ok (.goto (-46), 3) := by decide +kernel
theorem d_GM_find_63 : decode prog_15_method_66_code 63 = .ok (.iconst 1, 1) := by decide +kernel
theorem d_GM_find_64 : decode prog_15_method_66_code 64 = .ok (.goto 4, 3) := by decide +kernel
set_option maxHeartbeats 4000000 in
theorem w_GM_find_0 {l : Launch} {G : gG} {d : Nat} {X : gX} {M : gM} {k : Int → gM → Prop} {o : Nat} (hX : gmX X o) {x1 : Int} (hx1 : g32 x1) {x2 : Int} (hx2 : g32 x2) {x3 : Int} (hx3 : g32 x3) (T : wp l G y_GM_find (gRm (d + 1)) false (kkI X k) false 3 [.val (gR G o), .val (gI x1), .val (gI x2), .unset, .val (gI x3), .unset, .unset] [] X M 0 0) : wp l G y_GM_find (gRm (d + 1)) false (kkI X k) false 0 [.val (gR G o), .val (gI x1), .val (gI x2), .val (gI x3), .unset, .unset, .unset] [] X M 0 0 := by
  refine wp_iload_n d_GM_find_0 rfl rfl ?_
  refine wp_istore (L' := [.val (gR G o), .val (gI x1), .val (gI x2), .val (gI x3), .val (gI x3), .unset, .unset]) d_GM_find_1 (by decide) rfl ?_
  exact (wpt T (And.intro rfl (And.intro rfl (And.intro rfl (And.intro rfl True.intro)))))
set_option maxHeartbeats 4000000 in
theorem w_GM_find_3 {l : Launch} {G : gG} {d : Nat} {X : gX} {M : gM} {k : Int → gM → Prop} {o : Nat} (hX : gmX X o) {x1 : Int} (hx1 : g32 x1) {x2 : Int} (hx2 : g32 x2) {x4 : Int} (hx4 : g32 x4) (T : ((0 : Int) ≤ x1 ∧ x1 < 1200) ∧ (g32 (M (o + 35) (Int.toNat x1)) → (((0 : Int) ≤ x2 ∧ x2 < 1200) ∧ (g32 (M (o + 35) (Int.toNat x2)) → ((M (o + 35) (Int.toNat x2) < (w32 (x4 + (M (o + 35) (Int.toNat x1)))) → (k (-1) M)) ∧ (¬ M (o + 35) (Int.toNat x2) < (w32 (x4 + (M (o + 35) (Int.toNat x1)))) → (wp l G y_GM_find (gRm (d + 1)) false (kkI X k) false 27 [.val (gR G o), .val (gI x1), .val (gI x2), .unset, .val (gI x4), .val (gI 1), .val (gI 0)] [] X M 0 0))))))) : wp l G y_GM_find (gRm (d + 1)) false (kkI X k) false 3 [.val (gR G o), .val (gI x1), .val (gI x2), .unset, .val (gI x4), .unset, .unset] [] X M 0 0 := by
  refine wp_iload d_GM_find_3 rfl ?_
  refine wp_aload_n d_GM_find_5 rfl rfl (g_nz hX.1) ?_
  refine xgetR d_GM_find_6 gc_GM f_GM_119.1 f_GM_119.2.1 f_GM_119.2.2.1 hX.1 (gm_o2 hX) hX.2.2.1 f_GM_119.2.2.2.2.1 (gm_row hX 34 rfl).1 ?_
  refine wp_iload_n d_GM_find_9 rfl rfl ?_
  refine wp_iaload d_GM_find_10 (gm_row hX 34 rfl).2.2.1 (gm_row hX 34 rfl).2.2.2 (gm_row hX 34 rfl).2.1 (g32_n T.1 (by decide)) T.1.1 T.1.2 (fun h1 => ?_)
  have T := T.2 h1
  refine wp_iadd d_GM_find_11 ?_
  refine wp_aload_n d_GM_find_12 rfl rfl (g_nz hX.1) ?_
  refine xgetR d_GM_find_13 gc_GM f_GM_119.1 f_GM_119.2.1 f_GM_119.2.2.1 hX.1 (gm_o2 hX) hX.2.2.1 f_GM_119.2.2.2.2.1 (gm_row hX 34 rfl).1 ?_
  refine wp_iload_n d_GM_find_16 rfl rfl ?_
  refine wp_iaload d_GM_find_17 (gm_row hX 34 rfl).2.2.1 (gm_row hX 34 rfl).2.2.2 (gm_row hX 34 rfl).2.1 (g32_n T.1 (by decide)) T.1.1 T.1.2 (fun h2 => ?_)
  have T := T.2 h2
  refine xi_gt (tgt := 90) d_GM_find_18 (by decide) rfl (w32_id h2) (fun h3 => ?_) (fun h3 => ?_)
  · have T := T.1 h3
    refine wp_iconst d_GM_find_90 ?_
    exact wp_ireturn d_GM_find_91 rfl id (Nat.zero_le _) (Nat.zero_le _) (kI_mk (g32_c (x := (-1)) rfl) T)
  · have T := T.2 h3
    refine wp_iconst d_GM_find_21 ?_
    refine wp_istore (L' := [.val (gR G o), .val (gI x1), .val (gI x2), .unset, .val (gI x4), .val (gI 1), .unset]) d_GM_find_22 (by decide) rfl ?_
    refine wp_iconst d_GM_find_24 ?_
    refine wp_istore (L' := [.val (gR G o), .val (gI x1), .val (gI x2), .unset, .val (gI x4), .val (gI 1), .val (gI 0)]) d_GM_find_25 (by decide) rfl ?_
    exact (wpt T (And.intro rfl (And.intro rfl (And.intro rfl (And.intro rfl (And.intro rfl (And.intro rfl True.intro)))))))
set_option maxHeartbeats 4000000 in
theorem w_GM_find_27 {l : Launch} {G : gG} {d : Nat} {X : gX} {M : gM} {k : Int → gM → Prop} {o : Nat} (hX : gmX X o) {x1 : Int} (hx1 : g32 x1) {x2 : Int} (hx2 : g32 x2) {x4 : Int} (hx4 : g32 x4) {x5 : Int} (hx5 : g32 x5) {x6 : Int} (hx6 : g32 x6) (T : (x5 = 0 → ((x5 = 0 → (wp l G y_GM_find (gRm (d + 1)) false (kkI X k) false 3 [.val (gR G o), .val (gI x1), .val (gI x2), .unset, .val (gI (w32 (x4 + 1))), .unset, .unset] [] X M 0 0)) ∧ (¬ x5 = 0 → (k x4 M)))) ∧ (¬ x5 = 0 → (((0 : Int) ≤ x1 ∧ x1 < 1200) ∧ (g32 (M (o + 35) (Int.toNat x1)) → ((M (o + 35) (Int.toNat x1) ≤ x6 → ((x5 = 0 → (wp l G y_GM_find (gRm (d + 1)) false (kkI X k) false 3 [.val (gR G o), .val (gI x1), .val (gI x2), .unset, .val (gI (w32 (x4 + 1))), .unset, .unset] [] X M 0 0)) ∧ (¬ x5 = 0 → (k x4 M)))) ∧ (¬ M (o + 35) (Int.toNat x1) ≤ x6 → (cI l G y_GM_byteAt (gRm d) false [gR G o, gI x1, gI x6] X M (fun v8 M7 => (cI l G y_GM_byteAt (gRm d) false [gR G o, gI x2, gI (x4 + x6)] X M7 (fun v11 M10 => ((¬ v8 = v11 → (wp l G y_GM_find (gRm (d + 1)) false (kkI X k) false 27 [.val (gR G o), .val (gI x1), .val (gI x2), .unset, .val (gI x4), .val (gI 0), .val (gI (w32 (x6 + 1)))] [] X M10 0 0)) ∧ (v8 = v11 → (wp l G y_GM_find (gRm (d + 1)) false (kkI X k) false 27 [.val (gR G o), .val (gI x1), .val (gI x2), .unset, .val (gI x4), .val (gI 1), .val (gI (w32 (x6 + 1)))] [] X M10 0 0))))))))))))) : wp l G y_GM_find (gRm (d + 1)) false (kkI X k) false 27 [.val (gR G o), .val (gI x1), .val (gI x2), .unset, .val (gI x4), .val (gI x5), .val (gI x6)] [] X M 0 0 := by
  refine wp_iload d_GM_find_27 rfl ?_
  refine xz_eq (tgt := 76) d_GM_find_29 (by decide) (w32_id hx5) (fun h15 => ?_) (fun h15 => ?_)
  · have T := T.1 h15
    refine wp_iload d_GM_find_76 rfl ?_
    refine xz_eq (tgt := 84) d_GM_find_78 (by decide) (w32_id hx5) (fun h4 => ?_) (fun h4 => ?_)
    · have T := T.1 h4
      refine wp_iinc (L' := [.val (gR G o), .val (gI x1), .val (gI x2), .unset, .val (gI (x4 + 1)), .val (gI x5), .val (gI x6)]) d_GM_find_84 rfl (by decide) rfl ?_
      refine wp_goto (tgt := 3) d_GM_find_87 (by decide) ?_
      exact (wpt T (And.intro rfl (And.intro rfl (And.intro rfl (And.intro (gI_w _) True.intro)))))
    · have T := T.2 h4
      refine wp_iload d_GM_find_81 rfl ?_
      exact wp_ireturn d_GM_find_83 rfl id (Nat.zero_le _) (Nat.zero_le _) (kI_mk hx4 T)
  · have T := T.2 h15
    refine wp_iload d_GM_find_32 rfl ?_
    refine wp_aload_n d_GM_find_34 rfl rfl (g_nz hX.1) ?_
    refine xgetR d_GM_find_35 gc_GM f_GM_119.1 f_GM_119.2.1 f_GM_119.2.2.1 hX.1 (gm_o2 hX) hX.2.2.1 f_GM_119.2.2.2.2.1 (gm_row hX 34 rfl).1 ?_
    refine wp_iload_n d_GM_find_38 rfl rfl ?_
    refine wp_iaload d_GM_find_39 (gm_row hX 34 rfl).2.2.1 (gm_row hX 34 rfl).2.2.2 (gm_row hX 34 rfl).2.1 (g32_n T.1 (by decide)) T.1.1 T.1.2 (fun h5 => ?_)
    have T := T.2 h5
    refine xi_ge (tgt := 76) d_GM_find_40 (by decide) (w32_id hx6) (w32_id h5) (fun h14 => ?_) (fun h14 => ?_)
    · have T := T.1 h14
      refine wp_iload d_GM_find_76 rfl ?_
      refine xz_eq (tgt := 84) d_GM_find_78 (by decide) (w32_id hx5) (fun h6 => ?_) (fun h6 => ?_)
      · have T := T.1 h6
        refine wp_iinc (L' := [.val (gR G o), .val (gI x1), .val (gI x2), .unset, .val (gI (x4 + 1)), .val (gI x5), .val (gI x6)]) d_GM_find_84 rfl (by decide) rfl ?_
        refine wp_goto (tgt := 3) d_GM_find_87 (by decide) ?_
        exact (wpt T (And.intro rfl (And.intro rfl (And.intro rfl (And.intro (gI_w _) True.intro)))))
      · have T := T.2 h6
        refine wp_iload d_GM_find_81 rfl ?_
        exact wp_ireturn d_GM_find_83 rfl id (Nat.zero_le _) (Nat.zero_le _) (kI_mk hx4 T)
    · have T := T.2 h14
      refine wp_aload_n d_GM_find_43 rfl rfl (g_nz hX.1) ?_
      refine wp_iload_n d_GM_find_44 rfl rfl ?_
      refine wp_iload d_GM_find_45 rfl ?_
      refine xcV_I (md' := false) (As := [gI x1, gI x6]) (st := []) d_GM_find_47 ca_GM_byteAt ml_GM_459 im_GM_byteAt se_GM_byteAt gc_GM hX.1 (gm_o2 hX) hX.2.2.1 rfl (by decide) (by decide) rfl id id T (fun v8 M7 h9 T => ?_)
      refine wp_aload_n d_GM_find_50 rfl rfl (g_nz hX.1) ?_
      refine wp_iload_n d_GM_find_51 rfl rfl ?_
      refine wp_iload d_GM_find_52 rfl ?_
      refine wp_iload d_GM_find_54 rfl ?_
      refine wp_iadd d_GM_find_56 ?_
      refine xcV_I (md' := false) (As := [gI x2, gI (x4 + x6)]) (st := [gI v8]) d_GM_find_57 ca_GM_byteAt ml_GM_459 im_GM_byteAt se_GM_byteAt gc_GM hX.1 (gm_o2 hX) hX.2.2.1 rfl (by decide) (by simp only [List.map, gR_cat, gI_cat, gL_cat, List.sum_cons, List.sum_nil]; decide) rfl id id T (fun v11 M10 h12 T => ?_)
      refine xi_ne (tgt := 67) d_GM_find_60 (by decide) (w32_id h9) (w32_id h12) (fun h13 => ?_) (fun h13 => ?_)
      · have T := T.1 h13
        refine wp_iconst d_GM_find_67 ?_
        refine wp_istore (L' := [.val (gR G o), .val (gI x1), .val (gI x2), .unset, .val (gI x4), .val (gI 0), .val (gI x6)]) d_GM_find_68 (by decide) rfl ?_
        refine wp_iinc (L' := [.val (gR G o), .val (gI x1), .val (gI x2), .unset, .val (gI x4), .val (gI 0), .val (gI (x6 + 1))]) d_GM_find_70 rfl (by decide) rfl ?_
        refine wp_goto (tgt := 27) d_GM_find_73 (by decide) ?_
        exact (wpt T (And.intro rfl (And.intro rfl (And.intro rfl (And.intro rfl (And.intro rfl (And.intro (gI_w _) True.intro)))))))
      · have T := T.2 h13
        refine wp_iconst d_GM_find_63 ?_
        refine wp_goto (tgt := 68) d_GM_find_64 (by decide) ?_
        refine wp_istore (L' := [.val (gR G o), .val (gI x1), .val (gI x2), .unset, .val (gI x4), .val (gI 1), .val (gI x6)]) d_GM_find_68 (by decide) rfl ?_
        refine wp_iinc (L' := [.val (gR G o), .val (gI x1), .val (gI x2), .unset, .val (gI x4), .val (gI 1), .val (gI (x6 + 1))]) d_GM_find_70 rfl (by decide) rfl ?_
        refine wp_goto (tgt := 27) d_GM_find_73 (by decide) ?_
        exact (wpt T (And.intro rfl (And.intro rfl (And.intro rfl (And.intro rfl (And.intro rfl (And.intro (gI_w _) True.intro)))))))
theorem e_GM_find {l : Launch} {G : gG} {d : Nat} {X : gX} {M : gM} {k : Int → gM → Prop} {o : Nat} {x1 : Int} {x2 : Int} {x3 : Int} (T : wp l G y_GM_find (gRm (d + 1)) false (kkI X k) false 0 [.val (gR G o), .val (gI x1), .val (gI x2), .val (gI x3), .unset, .unset, .unset] [] X M 0 0) : cI l G y_GM_find (gRm (d + 1)) false [gR G o, gI x1, gI x2, gI x3] X M k := cen_I (plainFor_of_name rfl) (by simp only [lg_sl_R, lg_sl_I, lg_sl_L, lg_sl_N, List.length_cons, List.length_nil]; decide) (by unfold gEn; simp only [lg_sl_R, lg_sl_I, lg_sl_L, lg_sl_N]; exact wpt T (And.intro rfl (And.intro rfl (And.intro rfl (And.intro rfl True.intro)))))
theorem d_GM_replace_0 : decode prog_15_method_67_code 0 = .ok (.iconst 0, 1) := by decide +kernel
theorem d_GM_replace_1 : decode prog_15_method_67_code 1 = .ok (.istore_n 2, 1) := by decide +kernel
theorem d_GM_replace_2 : decode prog_15_method_67_code 2 = .ok (.iconst 0, 1) := by decide +kernel
theorem d_GM_replace_3 : decode prog_15_method_67_code 3 = .ok (.istore_n 3, 1) := by decide +kernel
theorem d_GM_replace_4 : decode prog_15_method_67_code 4 = .ok (.iload_n 3, 1) := by decide +kernel
theorem d_GM_replace_5 : decode prog_15_method_67_code 5 = .ok (.aload_n 0, 1) := by decide +kernel
theorem d_GM_replace_6 : decode prog_15_method_67_code 6 = .ok (.getfield 119, 3) := by decide +kernel
theorem d_GM_replace_9 : decode prog_15_method_67_code 9 = .ok (.iload_n 1, 1) := by decide +kernel
theorem d_GM_replace_10 : decode prog_15_method_67_code 10 = .ok (.iaload, 1) := by decide +kernel
theorem d_GM_replace_11 : decode prog_15_method_67_code 11 = .ok (.if_icmp .ge 135, 3) := by decide +kernel
theorem d_GM_replace_146 : decode prog_15_method_67_code 146 = .ok (.iload_n 2, 1) := by decide +kernel
theorem d_GM_replace_147 : decode prog_15_method_67_code 147 = .ok (.bipush 64, 2) := by decide +kernel
theorem d_GM_replace_149 : decode prog_15_method_67_code 149 = .ok (.if_icmp .le 9, 3) := by decide +kernel
theorem d_GM_replace_158 : decode prog_15_method_67_code 158 = .ok (.aload_n 0, 1) := by decide +kernel
theorem d_GM_replace_159 : decode prog_15_method_67_code 159 = .ok (.iconst 2, 1) := by decide +kernel
theorem d_GM_replace_160 : decode prog_15_method_67_code 160 = .ok (.lconst 0, 1) := by decide +kernel
theorem d_GM_replace_161 : decode prog_15_method_67_code 161 = .ok (.invokevirtual 307, 3) := by decide +kernel
theorem d_GM_replace_164 : decode prog_15_method_67_code 164 = .ok (.aload_n 0, 1) := by decide +kernel
theorem d_GM_replace_165 : decode prog_15_method_67_code 165 = .ok (.getfield 119, 3) := by decide +kernel
theorem d_GM_replace_168 : decode prog_15_method_67_code 168 = .ok (.aload_n 0, 1) := by decide +kernel
theorem d_GM_replace_169 : decode prog_15_method_67_code 169 = .ok (.getfield 304, 3) := by decide +kernel
theorem d_GM_replace_172 : decode prog_15_method_67_code 172 = .ok (.iconst 1, 1) := by decide +kernel
theorem d_GM_replace_173 : decode prog_15_method_67_code 173 = .ok (.isub, 1) := by decide +kernel
theorem d_GM_replace_174 : decode prog_15_method_67_code 174 = .ok (.iload_n 2, 1) := by decide +kernel
theorem d_GM_replace_175 : decode prog_15_method_67_code 175 = .ok (.iastore, 1) := by decide +kernel
theorem d_GM_replace_176 : decode prog_15_method_67_code 176 = .ok (.iconst 0, 1) := by decide +kernel
theorem d_GM_replace_177 : decode prog_15_method_67_code 177 = .ok (.istore 4, 2) := by decide +kernel
theorem d_GM_replace_152 : decode prog_15_method_67_code 152 = .ok (.aload_n 0, 1) := by decide +kernel
theorem d_GM_replace_153 : decode prog_15_method_67_code 153 = .ok (.iconst 4, 1) := by decide +kernel
theorem d_GM_replace_154 : decode prog_15_method_67_code 154 = .ok (.invokevirtual 314, 3) := by decide +kernel
theorem d_GM_replace_157 : decode prog_15_method_67_code 157 = .ok (.return_, 1) := by decide +kernel
theorem d_GM_replace_14 : decode prog_15_method_67_code 14 = .ok (.aload_n 0, 1) := by decide +kernel
theorem d_GM_replace_15 : decode prog_15_method_67_code 15 = .ok (.getfield 119, 3) := by decide +kernel
theorem d_GM_replace_18 : decode prog_15_method_67_code 18 = .ok (.iload_n 1, 1) := by decide +kernel
theorem d_GM_replace_19 : decode prog_15_method_67_code 19 = .ok (.iconst 1, 1) := by decide +kernel
theorem d_GM_replace_20 : decode prog_15_method_67_code 20 = .ok (.iadd, 1) := by decide +kernel
theorem d_GM_replace_21 : decode prog_15_method_67_code 21 = .ok (.iaload, 1) := by decide +kernel
theorem d_GM_replace_22 : decode prog_15_method_67_code 22 = .ok (.ifCond .le 20, 3) := by decide +kernel
theorem d_GM_replace_42 : decode prog_15_method_67_code 42 = .ok (.iconst 0, 1) := by decide +kernel
theorem d_GM_replace_43 : decode prog_15_method_67_code 43 = .ok (.istore 4, 2) := by decide +kernel
theorem d_GM_replace_45 : decode prog_15_method_67_code 45 = .ok (.iload 4, 2) := by decide +kernel
theorem d_GM_replace_47 : decode prog_15_method_67_code 47 = .ok (.ifCond .eq 73, 3) := by decide +kernel
theorem d_GM_replace_120 : decode prog_15_method_67_code 120 = .ok (.aload_n 0, 1) := by decide +kernel
theorem d_GM_replace_121 : decode prog_15_method_67_code 121 = .ok (.getfield 132, 3) := by decide +kernel
theorem d_GM_replace_124 : decode prog_15_method_67_code 124 = .ok (.iload_n 2, 1) := by decide +kernel
theorem d_GM_replace_125 : decode prog_15_method_67_code 125 = .ok (.aload_n 0, 1) := by decide +kernel
theorem d_GM_replace_126 : decode prog_15_method_67_code 126 = .ok (.getfield 126, 3) := by decide +kernel
theorem d_GM_replace_129 : decode prog_15_method_67_code 129 = .ok (.bipush 64, 2) := by decide +kernel
theorem d_GM_replace_131 : decode prog_15_method_67_code 131 = .ok (.iload_n 1, 1) := by decide +kernel
theorem d_GM_replace_132 : decode prog_15_method_67_code 132 = .ok (.imul, 1) := by decide +kernel
theorem d_GM_replace_133 : decode prog_15_method_67_code 133 = .ok (.iload_n 3, 1) := by decide +kernel
theorem d_GM_replace_134 : decode prog_15_method_67_code 134 = .ok (.iadd, 1) := by decide +kernel
theorem d_GM_replace_135 : decode prog_15_method_67_code 135 = .ok (.baload, 1) := by decide +kernel
theorem d_GM_replace_136 : decode prog_15_method_67_code 136 = .ok (.bastore, 1) := by decide +kernel
theorem d_GM_replace_137 : decode prog_15_method_67_code 137 = .ok (.iinc 2 1, 3) := by decide +kernel
theorem d_GM_replace_140 : decode prog_15_method_67_code 140 = .ok (.iinc 3 1, 3) := by decide +kernel
theorem d_GM_replace_143 : decode prog_15_method_67_code 143 = .ok (.goto (-139), 3) := by decide +kernel
theorem d_GM_replace_50 : decode prog_15_method_67_code 50 = .ok (.iconst 0, 1) := by decide +kernel
theorem d_GM_replace_51 : decode prog_15_method_67_code 51 = .ok (.istore 5, 2) := by decide +kernel
theorem d_GM_replace_25 : decode prog_15_method_67_code 25 = .ok (.aload_n 0, 1) := by decide +kernel
theorem d_GM_replace_26 : decode prog_15_method_67_code 26 = .ok (.iload_n 1, 1) := by decide +kernel
theorem d_GM_replace_27 : decode prog_15_method_67_code 27 = .ok (.iconst 1, 1) := by decide +kernel
theorem d_GM_replace_28 : decode prog_15_method_67_code 28 = .ok (.iadd, 1) := by decide +kernel
theorem d_GM_replace_29 : decode prog_15_method_67_code 29 = .ok (.iload_n 1, 1) := by decide +kernel
theorem d_GM_replace_30 : decode prog_15_method_67_code 30 = .ok (.iload_n 3, 1) := by decide +kernel
theorem d_GM_replace_31 : decode prog_15_method_67_code 31 = .ok (.invokevirtual 466, 3) := by decide +kernel
theorem d_GM_replace_34 : decode prog_15_method_67_code 34 = .ok (.iload_n 3, 1) := by decide +kernel
theorem d_GM_replace_35 : decode prog_15_method_67_code 35 = .ok (.if_icmp .ne 7, 3) := by decide +kernel
theorem d_GM_replace_38 : decode prog_15_method_67_code 38 = .ok (.iconst 1, 1) := by decide +kernel
theorem d_GM_replace_39 : decode prog_15_method_67_code 39 = .ok (.goto 4, 3) := by decide +kernel
theorem d_GM_replace_179 : decode prog_15_method_67_code 179 = .ok (.iload 4, 2) := by decide +kernel
theorem d_GM_replace_181 : decode prog_15_method_67_code 181 = .ok (.iload_n 2, 1) := by decide +kernel
theorem d_GM_replace_182 : decode prog_15_method_67_code 182 = .ok (.if_icmp .ge 33, 3) := by decide +kernel
theorem d_GM_replace_215 : decode prog_15_method_67_code 215 = .ok (.return_, 1) := by decide +kernel
theorem d_GM_replace_185 : decode prog_15_method_67_code 185 = .ok (.aload_n 0, 1) := by decide +kernel
theorem d_GM_replace_186 : decode prog_15_method_67_code 186 = .ok (.getfield 126, 3) := by decide +kernel
theorem d_GM_replace_189 : decode prog_15_method_67_code 189 = .ok (.bipush 64, 2) := by decide +kernel
theorem d_GM_replace_191 : decode prog_15_method_67_code 191 = .ok (.aload_n 0, 1) := by decide +kernel
theorem d_GM_replace_192 : decode prog_15_method_67_code 192 = .ok (.getfield 304, 3) := by decide +kernel
theorem d_GM_replace_195 : decode prog_15_method_67_code 195 = .ok (.iconst 1, 1) := by decide +kernel
theorem d_GM_replace_196 : decode prog_15_method_67_code 196 = .ok (.isub, 1) := by decide +kernel
theorem d_GM_replace_197 : decode prog_15_method_67_code 197 = .ok (.imul, 1) := by decide +kernel
theorem d_GM_replace_198 : decode prog_15_method_67_code 198 = .ok (.iload 4, 2) := by decide +kernel
theorem d_GM_replace_200 : decode prog_15_method_67_code 200 = .ok (.iadd, 1) := by decide +kernel
theorem d_GM_replace_201 : decode prog_15_method_67_code 201 = .ok (.aload_n 0, 1) := by decide +kernel
theorem d_GM_replace_202 : decode prog_15_method_67_code 202 = .ok (.getfield 132, 3) := by decide +kernel
theorem d_GM_replace_205 : decode prog_15_method_67_code 205 = .ok (.iload 4, 2) := by decide +kernel
theorem d_GM_replace_207 : decode prog_15_method_67_code 207 = .ok (.baload, 1) := by decide +kernel
theorem d_GM_replace_208 : decode prog_15_method_67_code 208 = .ok (.bastore, 1) := by decide +kernel
theorem d_GM_replace_209 : decode prog_15_method_67_code 209 = .ok (.iinc 4 1, 3) := by decide +kernel
theorem d_GM_replace_212 : decode prog_15_method_67_code 212 = .ok (.goto (-33), 3) := by decide +kernel
theorem d_GM_replace_53 : decode prog_15_method_67_code 53 = .ok (.iload 5, 2) := by decide +kernel
theorem d_GM_replace_55 : decode prog_15_method_67_code 55 = .ok (.aload_n 0, 1) := by decide +kernel
theorem d_GM_replace_56 : decode prog_15_method_67_code 56 = .ok (.getfield 119, 3) := by decide +kernel
theorem d_GM_replace_59 : decode prog_15_method_67_code 59 = .ok (.iload_n 1, 1) := by decide +kernel
theorem d_GM_replace_60 : decode prog_15_method_67_code 60 = .ok (.iconst 2, 1) := by decide +kernel
theorem d_GM_replace_61 : decode prog_15_method_67_code 61 = .ok (.iadd, 1) := by decide +kernel
theorem d_GM_replace_62 : decode prog_15_method_67_code 62 = .ok (.iaload, 1) := by decide +kernel
theorem d_GM_replace_63 : decode prog_15_method_67_code 63 = .ok (.if_icmp .ge 32, 3) := by decide +kernel
theorem d_GM_replace_95 : decode prog_15_method_67_code 95 = .ok (.iload_n 2, 1) := by decide +kernel
theorem d_GM_replace_96 : decode prog_15_method_67_code 96 = .ok (.aload_n 0, 1) := by decide +kernel
theorem d_GM_replace_97 : decode prog_15_method_67_code 97 = .ok (.getfield 119, 3) := by decide +kernel
theorem d_GM_replace_100 : decode prog_15_method_67_code 100 = .ok (.iload_n 1, 1) := by decide +kernel
theorem d_GM_replace_101 : decode prog_15_method_67_code 101 = .ok (.iconst 2, 1) := by decide +kernel
theorem d_GM_replace_102 : decode prog_15_method_67_code 102 = .ok (.iadd, 1) := by decide +kernel
theorem d_GM_replace_103 : decode prog_15_method_67_code 103 = .ok (.iaload, 1) := by decide +kernel
theorem d_GM_replace_104 : decode prog_15_method_67_code 104 = .ok (.iadd, 1) := by decide +kernel
theorem d_GM_replace_105 : decode prog_15_method_67_code 105 = .ok (.istore_n 2, 1) := by decide +kernel
theorem d_GM_replace_106 : decode prog_15_method_67_code 106 = .ok (.iload_n 3, 1) := by decide +kernel
theorem d_GM_replace_107 : decode prog_15_method_67_code 107 = .ok (.aload_n 0, 1) := by decide +kernel
theorem d_GM_replace_108 : decode prog_15_method_67_code 108 = .ok (.getfield 119, 3) := by decide +kernel
theorem d_GM_replace_111 : decode prog_15_method_67_code 111 = .ok (.iload_n 1, 1) := by decide +kernel
theorem d_GM_replace_112 : decode prog_15_method_67_code 112 = .ok (.iconst 1, 1) := by decide +kernel
theorem d_GM_replace_113 : decode prog_15_method_67_code 113 = .ok (.iadd, 1) := by decide +kernel
theorem d_GM_replace_114 : decode prog_15_method_67_code 114 = .ok (.iaload, 1) := by decide +kernel
theorem d_GM_replace_115 : decode prog_15_method_67_code 115 = .ok (.iadd, 1) := by decide +kernel
theorem d_GM_replace_116 : decode prog_15_method_67_code 116 = .ok (.istore_n 3, 1) := by decide +kernel
theorem d_GM_replace_117 : decode prog_15_method_67_code 117 = .ok (.goto 26, 3) := by decide +kernel
theorem d_GM_replace_66 : decode prog_15_method_67_code 66 = .ok (.aload_n 0, 1) := by decide +kernel
theorem d_GM_replace_67 : decode prog_15_method_67_code 67 = .ok (.getfield 132, 3) := by decide +kernel
theorem d_GM_replace_70 : decode prog_15_method_67_code 70 = .ok (.iload_n 2, 1) := by decide +kernel
theorem d_GM_replace_71 : decode prog_15_method_67_code 71 = .ok (.iload 5, 2) := by decide +kernel
theorem d_GM_replace_73 : decode prog_15_method_67_code 73 = .ok (.iadd, 1) := by decide +kernel
theorem d_GM_replace_74 : decode prog_15_method_67_code 74 = .ok (.aload_n 0, 1) := by decide +kernel
theorem d_GM_replace_75 : decode prog_15_method_67_code 75 = .ok (.getfield 126, 3) := by decide +kernel
theorem d_GM_replace_78 : decode prog_15_method_67_code 78 = .ok (.bipush 64, 2) := by decide +kernel
theorem d_GM_replace_80 : decode prog_15_method_67_code 80 = .ok (.iload_n 1, 1) := by decide +kernel
theorem d_GM_replace_81 : decode prog_15_method_67_code 81 = .ok (.iconst 2, 1) := by decide +kernel
theorem d_GM_replace_82 : decode prog_15_method_67_code 82 = .ok (.iadd, 1) := by decide +kernel
theorem d_GM_replace_83 : decode prog_15_method_67_code 83 = .ok (.imul, 1) := by decide +kernel
theorem d_GM_replace_84 : decode prog_15_method_67_code 84 = .ok (.iload 5, 2) := by decide +kernel
theorem d_GM_replace_86 : decode prog_15_method_67_code 86 = .ok (.iadd, 1) := by decide +kernel
theorem d_GM_replace_87 : decode prog_15_method_67_code 87 = .ok (.baload, 1) := by decide +kernel
theorem d_GM_replace_88 : decode prog_15_method_67_code 88 = .ok (.bastore, 1) := by decide +kernel
theorem d_GM_replace_89 : decode prog_15_method_67_code 89 = .ok (.iinc 5 1, 3) := by decide +kernel
theorem d_GM_replace_92 : decode prog_15_method_67_code 92 = .ok (.goto (-39), 3) := by decide +kernel
set_option maxHeartbeats 4000000 in
theorem w_GM_replace_0 {l : Launch} {G : gG} {d : Nat} {X : gX} {M : gM} {k : gM → Prop} {o : Nat} (hX : gmX X o) {x1 : Int} (hx1 : g32 x1) (T : wp l G y_GM_replace (gRm (d + 1)) true (kkV X k) true 4 [.val (gR G o), .val (gI x1), .val (gI 0), .val (gI 0), .unset, .unset] [] X M 0 0) : wp l G y_GM_replace (gRm (d + 1)) true (kkV X k) false 0 [.val (gR G o), .val (gI x1), .unset, .unset, .unset, .unset] [] X M 0 0 := by
  refine wp_iconst d_GM_replace_0 ?_
  refine wp_istore_n (L' := [.val (gR G o), .val (gI x1), .val (gI 0), .unset, .unset, .unset]) d_GM_replace_1 rfl (by decide) rfl ?_
  refine wp_iconst d_GM_replace_2 ?_
  refine wp_istore_n (L' := [.val (gR G o), .val (gI x1), .val (gI 0), .val (gI 0), .unset, .unset]) d_GM_replace_3 rfl (by decide) rfl ?_
  exact wp_md (wpt T (And.intro rfl (And.intro rfl (And.intro rfl (And.intro rfl True.intro)))))
set_option maxHeartbeats 4000000 in
theorem w_GM_replace_4 {l : Launch} {G : gG} {d : Nat} {X : gX} {M : gM} {k : gM → Prop} {o : Nat} (hX : gmX X o) {x1 : Int} (hx1 : g32 x1) {x2 : Int} (hx2 : g32 x2) {x3 : Int} (hx3 : g32 x3) (T : ((0 : Int) ≤ x1 ∧ x1 < 1200) ∧ (g32 (M (o + 35) (Int.toNat x1)) → ((M (o + 35) (Int.toNat x1) ≤ x3 → ((x2 ≤ 64 → (cV l G y_GM_push (gRm d) true [gR G o, gI 2, gL 0] X M (fun M2 => (g32 (M2 o 50) → (((0 : Int) ≤ (M2 o 50) - 1 ∧ (M2 o 50) - 1 < 1200) ∧ (wp l G y_GM_replace (gRm (d + 1)) true (kkV X k) true 179 [.val (gR G o), .unset, .val (gI x2), .unset, .val (gI 0), .unset] [] X (gUp M2 (o + 35) (Int.toNat ((M2 o 50) - 1)) x2) 0 0)))))) ∧ (¬ x2 ≤ 64 → (cV l G y_GM_fault (gRm d) true [gR G o, gI 4] X M (fun M4 => (k M4)))))) ∧ (¬ M (o + 35) (Int.toNat x1) ≤ x3 → (((0 : Int) ≤ x1 + 1 ∧ x1 + 1 < 1200) ∧ (g32 (M (o + 35) (Int.toNat (x1 + 1))) → ((M (o + 35) (Int.toNat (x1 + 1)) ≤ 0 → (((0 : Int) = 0 → (((0 : Int) ≤ (64 * x1) + x3 ∧ (64 * x1) + x3 < 76800) ∧ ((-128 ≤ M (o + 37) (Int.toNat ((64 * x1) + x3)) ∧ M (o + 37) (Int.toNat ((64 * x1) + x3)) < 128) → (((0 : Int) ≤ x2 ∧ x2 < 4200) ∧ (wp l G y_GM_replace (gRm (d + 1)) true (kkV X k) true 4 [.val (gR G o), .val (gI x1), .val (gI (w32 (x2 + 1))), .val (gI (w32 (x3 + 1))), .unset, .unset] [] X (gUp M (o + 39) (Int.toNat x2) (gByte (M (o + 37) (Int.toNat ((64 * x1) + x3))))) 0 0))))) ∧ (¬ (0 : Int) = 0 → (wp l G y_GM_replace (gRm (d + 1)) true (kkV X k) true 53 [.val (gR G o), .val (gI x1), .val (gI x2), .val (gI x3), .unset, .val (gI 0)] [] X M 0 0)))) ∧ (¬ M (o + 35) (Int.toNat (x1 + 1)) ≤ 0 → (cI l G y_GM_find (gRm d) false [gR G o, gI (x1 + 1), gI x1, gI x3] X M (fun v10 M9 => ((¬ v10 = x3 → (((0 : Int) = 0 → (((0 : Int) ≤ (64 * x1) + x3 ∧ (64 * x1) + x3 < 76800) ∧ ((-128 ≤ M9 (o + 37) (Int.toNat ((64 * x1) + x3)) ∧ M9 (o + 37) (Int.toNat ((64 * x1) + x3)) < 128) → (((0 : Int) ≤ x2 ∧ x2 < 4200) ∧ (wp l G y_GM_replace (gRm (d + 1)) true (kkV X k) true 4 [.val (gR G o), .val (gI x1), .val (gI (w32 (x2 + 1))), .val (gI (w32 (x3 + 1))), .unset, .unset] [] X (gUp M9 (o + 39) (Int.toNat x2) (gByte (M9 (o + 37) (Int.toNat ((64 * x1) + x3))))) 0 0))))) ∧ (¬ (0 : Int) = 0 → (wp l G y_GM_replace (gRm (d + 1)) true (kkV X k) true 53 [.val (gR G o), .val (gI x1), .val (gI x2), .val (gI x3), .unset, .val (gI 0)] [] X M9 0 0)))) ∧ (v10 = x3 → (((1 : Int) = 0 → (((0 : Int) ≤ (64 * x1) + x3 ∧ (64 * x1) + x3 < 76800) ∧ ((-128 ≤ M9 (o + 37) (Int.toNat ((64 * x1) + x3)) ∧ M9 (o + 37) (Int.toNat ((64 * x1) + x3)) < 128) → (((0 : Int) ≤ x2 ∧ x2 < 4200) ∧ (wp l G y_GM_replace (gRm (d + 1)) true (kkV X k) true 4 [.val (gR G o), .val (gI x1), .val (gI (w32 (x2 + 1))), .val (gI (w32 (x3 + 1))), .unset, .unset] [] X (gUp M9 (o + 39) (Int.toNat x2) (gByte (M9 (o + 37) (Int.toNat ((64 * x1) + x3))))) 0 0))))) ∧ (¬ (1 : Int) = 0 → (wp l G y_GM_replace (gRm (d + 1)) true (kkV X k) true 53 [.val (gR G o), .val (gI x1), .val (gI x2), .val (gI x3), .unset, .val (gI 0)] [] X M9 0 0))))))))))))))) : wp l G y_GM_replace (gRm (d + 1)) true (kkV X k) true 4 [.val (gR G o), .val (gI x1), .val (gI x2), .val (gI x3), .unset, .unset] [] X M 0 0 := by
  refine wp_iload_n d_GM_replace_4 rfl rfl ?_
  refine wp_aload_n d_GM_replace_5 rfl rfl (g_nz hX.1) ?_
  refine xgetR d_GM_replace_6 gc_GM f_GM_119.1 f_GM_119.2.1 f_GM_119.2.2.1 hX.1 (gm_o2 hX) hX.2.2.1 f_GM_119.2.2.2.2.1 (gm_row hX 34 rfl).1 ?_
  refine wp_iload_n d_GM_replace_9 rfl rfl ?_
  refine wp_iaload d_GM_replace_10 (gm_row hX 34 rfl).2.2.1 (gm_row hX 34 rfl).2.2.2 (gm_row hX 34 rfl).2.1 (g32_n T.1 (by decide)) T.1.1 T.1.2 (fun h1 => ?_)
  have T := T.2 h1
  refine xi_ge (tgt := 146) d_GM_replace_11 (by decide) (w32_id hx3) (w32_id h1) (fun h18 => ?_) (fun h18 => ?_)
  · have T := T.1 h18
    refine wp_iload_n d_GM_replace_146 rfl rfl ?_
    refine wp_bipush d_GM_replace_147 ⟨by decide, by decide⟩ ?_
    refine xi_le (tgt := 158) d_GM_replace_149 (by decide) (w32_id hx2) (w32_id (g32_c (x := 64) rfl)) (fun h5 => ?_) (fun h5 => ?_)
    · have T := T.1 h5
      refine wp_aload_n d_GM_replace_158 rfl rfl (g_nz hX.1) ?_
      refine wp_iconst d_GM_replace_159 ?_
      refine wp_lconst0 d_GM_replace_160 ?_
      refine xcV_V (md' := true) (As := [gI 2, gL 0]) (st := []) d_GM_replace_161 ca_GM_push ml_GM_307 im_GM_push se_GM_push gc_GM hX.1 (gm_o2 hX) hX.2.2.1 rfl (by decide) (by decide) rfl (fun _ => rfl) (fun _ => rfl) T (fun M2 T => ?_)
      refine wp_aload_n d_GM_replace_164 rfl rfl (g_nz hX.1) ?_
      refine xgetR d_GM_replace_165 gc_GM f_GM_119.1 f_GM_119.2.1 f_GM_119.2.2.1 hX.1 (gm_o2 hX) hX.2.2.1 f_GM_119.2.2.2.2.1 (gm_row hX 34 rfl).1 ?_
      refine wp_aload_n d_GM_replace_168 rfl rfl (g_nz hX.1) ?_
      refine xgetI d_GM_replace_169 gc_GM f_GM_304.1 f_GM_304.2.1 f_GM_304.2.2.1 hX.1 (gm_o2 hX) hX.2.2.1 f_GM_304.2.2.2.2.1 (fun h3 => ?_)
      have T := T h3
      refine wp_iconst d_GM_replace_172 ?_
      refine wp_isub d_GM_replace_173 ?_
      refine wp_iload_n d_GM_replace_174 rfl rfl ?_
      refine xiast d_GM_replace_175 (gm_row hX 34 rfl).2.2.1 (gm_row hX 34 rfl).2.2.2 (gm_row hX 34 rfl).2.1 (by decide) T.1 (w32_id hx2) ?_
      have T := T.2
      refine wp_iconst d_GM_replace_176 ?_
      refine wp_istore (L' := [.val (gR G o), .val (gI x1), .val (gI x2), .val (gI x3), .val (gI 0), .unset]) d_GM_replace_177 (by decide) rfl ?_
      exact wp_md (wpt T (And.intro rfl (And.intro rfl (And.intro rfl True.intro))))
    · have T := T.2 h5
      refine wp_aload_n d_GM_replace_152 rfl rfl (g_nz hX.1) ?_
      refine wp_iconst d_GM_replace_153 ?_
      refine xcV_V (md' := true) (As := [gI 4]) (st := []) d_GM_replace_154 ca_GM_fault ml_GM_314 im_GM_fault se_GM_fault gc_GM hX.1 (gm_o2 hX) hX.2.2.1 rfl (by decide) (by decide) rfl (fun _ => rfl) (fun _ => rfl) T (fun M4 T => ?_)
      exact wp_return d_GM_replace_157 rfl (fun _ => rfl) (Nat.zero_le _) (Nat.zero_le _) (kV_mk T)
  · have T := T.2 h18
    refine wp_aload_n d_GM_replace_14 rfl rfl (g_nz hX.1) ?_
    refine xgetR d_GM_replace_15 gc_GM f_GM_119.1 f_GM_119.2.1 f_GM_119.2.2.1 hX.1 (gm_o2 hX) hX.2.2.1 f_GM_119.2.2.2.2.1 (gm_row hX 34 rfl).1 ?_
    refine wp_iload_n d_GM_replace_18 rfl rfl ?_
    refine wp_iconst d_GM_replace_19 ?_
    refine wp_iadd d_GM_replace_20 ?_
    refine wp_iaload d_GM_replace_21 (gm_row hX 34 rfl).2.2.1 (gm_row hX 34 rfl).2.2.2 (gm_row hX 34 rfl).2.1 (g32_n T.1 (by decide)) T.1.1 T.1.2 (fun h6 => ?_)
    have T := T.2 h6
    refine xz_le (tgt := 42) d_GM_replace_22 (by decide) (w32_id h6) (fun h17 => ?_) (fun h17 => ?_)
    · have T := T.1 h17
      refine wp_iconst d_GM_replace_42 ?_
      refine wp_istore (L' := [.val (gR G o), .val (gI x1), .val (gI x2), .val (gI x3), .val (gI 0), .unset]) d_GM_replace_43 (by decide) rfl ?_
      refine wp_iload d_GM_replace_45 rfl ?_
      refine xz_eq (tgt := 120) d_GM_replace_47 (by decide) (w32_id (g32_c (x := 0) rfl)) (fun h8 => ?_) (fun h8 => ?_)
      · have T := T.1 h8
        refine wp_aload_n d_GM_replace_120 rfl rfl (g_nz hX.1) ?_
        refine xgetR d_GM_replace_121 gc_GM f_GM_132.1 f_GM_132.2.1 f_GM_132.2.2.1 hX.1 (gm_o2 hX) hX.2.2.1 f_GM_132.2.2.2.2.1 (gm_row hX 38 rfl).1 ?_
        refine wp_iload_n d_GM_replace_124 rfl rfl ?_
        refine wp_aload_n d_GM_replace_125 rfl rfl (g_nz hX.1) ?_
        refine xgetR d_GM_replace_126 gc_GM f_GM_126.1 f_GM_126.2.1 f_GM_126.2.2.1 hX.1 (gm_o2 hX) hX.2.2.1 f_GM_126.2.2.2.2.1 (gm_row hX 36 rfl).1 ?_
        refine wp_bipush d_GM_replace_129 ⟨by decide, by decide⟩ ?_
        refine wp_iload_n d_GM_replace_131 rfl rfl ?_
        refine wp_imul d_GM_replace_132 ?_
        refine wp_iload_n d_GM_replace_133 rfl rfl ?_
        refine wp_iadd d_GM_replace_134 ?_
        refine wp_baload d_GM_replace_135 (gm_row hX 36 rfl).2.2.1 (gm_row hX 36 rfl).2.2.2 (gm_row hX 36 rfl).2.1 (g32_n T.1 (by decide)) T.1.1 T.1.2 (fun h7 => ?_)
        have T := T.2 h7
        refine xbast d_GM_replace_136 (gm_row hX 38 rfl).2.2.1 (gm_row hX 38 rfl).2.2.2 (gm_row hX 38 rfl).2.1 (by decide) T.1 ?_
        have T := T.2
        refine wp_iinc (L' := [.val (gR G o), .val (gI x1), .val (gI (x2 + 1)), .val (gI x3), .val (gI 0), .unset]) d_GM_replace_137 rfl (by decide) rfl ?_
        refine wp_iinc (L' := [.val (gR G o), .val (gI x1), .val (gI (x2 + 1)), .val (gI (x3 + 1)), .val (gI 0), .unset]) d_GM_replace_140 rfl (by decide) rfl ?_
        refine wp_goto (tgt := 4) d_GM_replace_143 (by decide) ?_
        exact wp_md (wpt T (And.intro rfl (And.intro rfl (And.intro (gI_w _) (And.intro (gI_w _) True.intro)))))
      · have T := T.2 h8
        refine wp_iconst d_GM_replace_50 ?_
        refine wp_istore (L' := [.val (gR G o), .val (gI x1), .val (gI x2), .val (gI x3), .val (gI 0), .val (gI 0)]) d_GM_replace_51 (by decide) rfl ?_
        exact wp_md (wpt T (And.intro rfl (And.intro rfl (And.intro rfl (And.intro rfl (And.intro rfl True.intro))))))
    · have T := T.2 h17
      refine wp_aload_n d_GM_replace_25 rfl rfl (g_nz hX.1) ?_
      refine wp_iload_n d_GM_replace_26 rfl rfl ?_
      refine wp_iconst d_GM_replace_27 ?_
      refine wp_iadd d_GM_replace_28 ?_
      refine wp_iload_n d_GM_replace_29 rfl rfl ?_
      refine wp_iload_n d_GM_replace_30 rfl rfl ?_
      refine xcV_I (md' := true) (As := [gI (x1 + 1), gI x1, gI x3]) (st := []) d_GM_replace_31 ca_GM_find ml_GM_466 im_GM_find se_GM_find gc_GM hX.1 (gm_o2 hX) hX.2.2.1 rfl (by decide) (by decide) rfl (fun _ => rfl) (fun _ => rfl) T (fun v10 M9 h11 T => ?_)
      refine wp_iload_n d_GM_replace_34 rfl rfl ?_
      refine xi_ne (tgt := 42) d_GM_replace_35 (by decide) (w32_id h11) (w32_id hx3) (fun h16 => ?_) (fun h16 => ?_)
      · have T := T.1 h16
        refine wp_iconst d_GM_replace_42 ?_
        refine wp_istore (L' := [.val (gR G o), .val (gI x1), .val (gI x2), .val (gI x3), .val (gI 0), .unset]) d_GM_replace_43 (by decide) rfl ?_
        refine wp_iload d_GM_replace_45 rfl ?_
        refine xz_eq (tgt := 120) d_GM_replace_47 (by decide) (w32_id (g32_c (x := 0) rfl)) (fun h13 => ?_) (fun h13 => ?_)
        · have T := T.1 h13
          refine wp_aload_n d_GM_replace_120 rfl rfl (g_nz hX.1) ?_
          refine xgetR d_GM_replace_121 gc_GM f_GM_132.1 f_GM_132.2.1 f_GM_132.2.2.1 hX.1 (gm_o2 hX) hX.2.2.1 f_GM_132.2.2.2.2.1 (gm_row hX 38 rfl).1 ?_
          refine wp_iload_n d_GM_replace_124 rfl rfl ?_
          refine wp_aload_n d_GM_replace_125 rfl rfl (g_nz hX.1) ?_
          refine xgetR d_GM_replace_126 gc_GM f_GM_126.1 f_GM_126.2.1 f_GM_126.2.2.1 hX.1 (gm_o2 hX) hX.2.2.1 f_GM_126.2.2.2.2.1 (gm_row hX 36 rfl).1 ?_
          refine wp_bipush d_GM_replace_129 ⟨by decide, by decide⟩ ?_
          refine wp_iload_n d_GM_replace_131 rfl rfl ?_
          refine wp_imul d_GM_replace_132 ?_
          refine wp_iload_n d_GM_replace_133 rfl rfl ?_
          refine wp_iadd d_GM_replace_134 ?_
          refine wp_baload d_GM_replace_135 (gm_row hX 36 rfl).2.2.1 (gm_row hX 36 rfl).2.2.2 (gm_row hX 36 rfl).2.1 (g32_n T.1 (by decide)) T.1.1 T.1.2 (fun h12 => ?_)
          have T := T.2 h12
          refine xbast d_GM_replace_136 (gm_row hX 38 rfl).2.2.1 (gm_row hX 38 rfl).2.2.2 (gm_row hX 38 rfl).2.1 (by decide) T.1 ?_
          have T := T.2
          refine wp_iinc (L' := [.val (gR G o), .val (gI x1), .val (gI (x2 + 1)), .val (gI x3), .val (gI 0), .unset]) d_GM_replace_137 rfl (by decide) rfl ?_
          refine wp_iinc (L' := [.val (gR G o), .val (gI x1), .val (gI (x2 + 1)), .val (gI (x3 + 1)), .val (gI 0), .unset]) d_GM_replace_140 rfl (by decide) rfl ?_
          refine wp_goto (tgt := 4) d_GM_replace_143 (by decide) ?_
          exact wp_md (wpt T (And.intro rfl (And.intro rfl (And.intro (gI_w _) (And.intro (gI_w _) True.intro)))))
        · have T := T.2 h13
          refine wp_iconst d_GM_replace_50 ?_
          refine wp_istore (L' := [.val (gR G o), .val (gI x1), .val (gI x2), .val (gI x3), .val (gI 0), .val (gI 0)]) d_GM_replace_51 (by decide) rfl ?_
          exact wp_md (wpt T (And.intro rfl (And.intro rfl (And.intro rfl (And.intro rfl (And.intro rfl True.intro))))))
      · have T := T.2 h16
        refine wp_iconst d_GM_replace_38 ?_
        refine wp_goto (tgt := 43) d_GM_replace_39 (by decide) ?_
        refine wp_istore (L' := [.val (gR G o), .val (gI x1), .val (gI x2), .val (gI x3), .val (gI 1), .unset]) d_GM_replace_43 (by decide) rfl ?_
        refine wp_iload d_GM_replace_45 rfl ?_
        refine xz_eq (tgt := 120) d_GM_replace_47 (by decide) (w32_id (g32_c (x := 1) rfl)) (fun h15 => ?_) (fun h15 => ?_)
        · have T := T.1 h15
          refine wp_aload_n d_GM_replace_120 rfl rfl (g_nz hX.1) ?_
          refine xgetR d_GM_replace_121 gc_GM f_GM_132.1 f_GM_132.2.1 f_GM_132.2.2.1 hX.1 (gm_o2 hX) hX.2.2.1 f_GM_132.2.2.2.2.1 (gm_row hX 38 rfl).1 ?_
          refine wp_iload_n d_GM_replace_124 rfl rfl ?_
          refine wp_aload_n d_GM_replace_125 rfl rfl (g_nz hX.1) ?_
          refine xgetR d_GM_replace_126 gc_GM f_GM_126.1 f_GM_126.2.1 f_GM_126.2.2.1 hX.1 (gm_o2 hX) hX.2.2.1 f_GM_126.2.2.2.2.1 (gm_row hX 36 rfl).1 ?_
          refine wp_bipush d_GM_replace_129 ⟨by decide, by decide⟩ ?_
          refine wp_iload_n d_GM_replace_131 rfl rfl ?_
          refine wp_imul d_GM_replace_132 ?_
          refine wp_iload_n d_GM_replace_133 rfl rfl ?_
          refine wp_iadd d_GM_replace_134 ?_
          refine wp_baload d_GM_replace_135 (gm_row hX 36 rfl).2.2.1 (gm_row hX 36 rfl).2.2.2 (gm_row hX 36 rfl).2.1 (g32_n T.1 (by decide)) T.1.1 T.1.2 (fun h14 => ?_)
          have T := T.2 h14
          refine xbast d_GM_replace_136 (gm_row hX 38 rfl).2.2.1 (gm_row hX 38 rfl).2.2.2 (gm_row hX 38 rfl).2.1 (by decide) T.1 ?_
          have T := T.2
          refine wp_iinc (L' := [.val (gR G o), .val (gI x1), .val (gI (x2 + 1)), .val (gI x3), .val (gI 1), .unset]) d_GM_replace_137 rfl (by decide) rfl ?_
          refine wp_iinc (L' := [.val (gR G o), .val (gI x1), .val (gI (x2 + 1)), .val (gI (x3 + 1)), .val (gI 1), .unset]) d_GM_replace_140 rfl (by decide) rfl ?_
          refine wp_goto (tgt := 4) d_GM_replace_143 (by decide) ?_
          exact wp_md (wpt T (And.intro rfl (And.intro rfl (And.intro (gI_w _) (And.intro (gI_w _) True.intro)))))
        · have T := T.2 h15
          refine wp_iconst d_GM_replace_50 ?_
          refine wp_istore (L' := [.val (gR G o), .val (gI x1), .val (gI x2), .val (gI x3), .val (gI 1), .val (gI 0)]) d_GM_replace_51 (by decide) rfl ?_
          exact wp_md (wpt T (And.intro rfl (And.intro rfl (And.intro rfl (And.intro rfl (And.intro rfl True.intro))))))
set_option maxHeartbeats 4000000 in
theorem w_GM_replace_179 {l : Launch} {G : gG} {d : Nat} {X : gX} {M : gM} {k : gM → Prop} {o : Nat} (hX : gmX X o) {x2 : Int} (hx2 : g32 x2) {x4 : Int} (hx4 : g32 x4) (T : (x2 ≤ x4 → (k M)) ∧ (¬ x2 ≤ x4 → (g32 (M o 50) → (((0 : Int) ≤ x4 ∧ x4 < 4200) ∧ ((-128 ≤ M (o + 39) (Int.toNat x4) ∧ M (o + 39) (Int.toNat x4) < 128) → (((0 : Int) ≤ (64 * ((M o 50) - 1)) + x4 ∧ (64 * ((M o 50) - 1)) + x4 < 76800) ∧ (wp l G y_GM_replace (gRm (d + 1)) true (kkV X k) true 179 [.val (gR G o), .unset, .val (gI x2), .unset, .val (gI (w32 (x4 + 1))), .unset] [] X (gUp M (o + 37) (Int.toNat ((64 * ((M o 50) - 1)) + x4)) (gByte (M (o + 39) (Int.toNat x4)))) 0 0))))))) : wp l G y_GM_replace (gRm (d + 1)) true (kkV X k) true 179 [.val (gR G o), .unset, .val (gI x2), .unset, .val (gI x4), .unset] [] X M 0 0 := by
  refine wp_iload d_GM_replace_179 rfl ?_
  refine wp_iload_n d_GM_replace_181 rfl rfl ?_
  refine xi_ge (tgt := 215) d_GM_replace_182 (by decide) (w32_id hx4) (w32_id hx2) (fun h21 => ?_) (fun h21 => ?_)
  · have T := T.1 h21
    exact wp_return d_GM_replace_215 rfl (fun _ => rfl) (Nat.zero_le _) (Nat.zero_le _) (kV_mk T)
  · have T := T.2 h21
    refine wp_aload_n d_GM_replace_185 rfl rfl (g_nz hX.1) ?_
    refine xgetR d_GM_replace_186 gc_GM f_GM_126.1 f_GM_126.2.1 f_GM_126.2.2.1 hX.1 (gm_o2 hX) hX.2.2.1 f_GM_126.2.2.2.2.1 (gm_row hX 36 rfl).1 ?_
    refine wp_bipush d_GM_replace_189 ⟨by decide, by decide⟩ ?_
    refine wp_aload_n d_GM_replace_191 rfl rfl (g_nz hX.1) ?_
    refine xgetI d_GM_replace_192 gc_GM f_GM_304.1 f_GM_304.2.1 f_GM_304.2.2.1 hX.1 (gm_o2 hX) hX.2.2.1 f_GM_304.2.2.2.2.1 (fun h19 => ?_)
    have T := T h19
    refine wp_iconst d_GM_replace_195 ?_
    refine wp_isub d_GM_replace_196 ?_
    refine wp_imul d_GM_replace_197 ?_
    refine wp_iload d_GM_replace_198 rfl ?_
    refine wp_iadd d_GM_replace_200 ?_
    refine wp_aload_n d_GM_replace_201 rfl rfl (g_nz hX.1) ?_
    refine xgetR d_GM_replace_202 gc_GM f_GM_132.1 f_GM_132.2.1 f_GM_132.2.2.1 hX.1 (gm_o2 hX) hX.2.2.1 f_GM_132.2.2.2.2.1 (gm_row hX 38 rfl).1 ?_
    refine wp_iload d_GM_replace_205 rfl ?_
    refine wp_baload d_GM_replace_207 (gm_row hX 38 rfl).2.2.1 (gm_row hX 38 rfl).2.2.2 (gm_row hX 38 rfl).2.1 (g32_n T.1 (by decide)) T.1.1 T.1.2 (fun h20 => ?_)
    have T := T.2 h20
    refine xbast d_GM_replace_208 (gm_row hX 36 rfl).2.2.1 (gm_row hX 36 rfl).2.2.2 (gm_row hX 36 rfl).2.1 (by decide) T.1 ?_
    have T := T.2
    refine wp_iinc (L' := [.val (gR G o), .unset, .val (gI x2), .unset, .val (gI (x4 + 1)), .unset]) d_GM_replace_209 rfl (by decide) rfl ?_
    refine wp_goto (tgt := 179) d_GM_replace_212 (by decide) ?_
    exact wp_md (wpt T (And.intro rfl (And.intro rfl (And.intro (gI_w _) True.intro))))
set_option maxHeartbeats 4000000 in
theorem w_GM_replace_53 {l : Launch} {G : gG} {d : Nat} {X : gX} {M : gM} {k : gM → Prop} {o : Nat} (hX : gmX X o) {x1 : Int} (hx1 : g32 x1) {x2 : Int} (hx2 : g32 x2) {x3 : Int} (hx3 : g32 x3) {x5 : Int} (hx5 : g32 x5) (T : ((0 : Int) ≤ x1 + 2 ∧ x1 + 2 < 1200) ∧ (g32 (M (o + 35) (Int.toNat (x1 + 2))) → ((M (o + 35) (Int.toNat (x1 + 2)) ≤ x5 → (((0 : Int) ≤ x1 + 2 ∧ x1 + 2 < 1200) ∧ (g32 (M (o + 35) (Int.toNat (x1 + 2))) → (((0 : Int) ≤ x1 + 1 ∧ x1 + 1 < 1200) ∧ (g32 (M (o + 35) (Int.toNat (x1 + 1))) → (wp l G y_GM_replace (gRm (d + 1)) true (kkV X k) true 4 [.val (gR G o), .val (gI x1), .val (gI (w32 (x2 + (M (o + 35) (Int.toNat (x1 + 2)))))), .val (gI (w32 (x3 + (M (o + 35) (Int.toNat (x1 + 1)))))), .unset, .unset] [] X M 0 0)))))) ∧ (¬ M (o + 35) (Int.toNat (x1 + 2)) ≤ x5 → (((0 : Int) ≤ (64 * (x1 + 2)) + x5 ∧ (64 * (x1 + 2)) + x5 < 76800) ∧ ((-128 ≤ M (o + 37) (Int.toNat ((64 * (x1 + 2)) + x5)) ∧ M (o + 37) (Int.toNat ((64 * (x1 + 2)) + x5)) < 128) → (((0 : Int) ≤ x2 + x5 ∧ x2 + x5 < 4200) ∧ (wp l G y_GM_replace (gRm (d + 1)) true (kkV X k) true 53 [.val (gR G o), .val (gI x1), .val (gI x2), .val (gI x3), .unset, .val (gI (w32 (x5 + 1)))] [] X (gUp M (o + 39) (Int.toNat (x2 + x5)) (gByte (M (o + 37) (Int.toNat ((64 * (x1 + 2)) + x5))))) 0 0)))))))) : wp l G y_GM_replace (gRm (d + 1)) true (kkV X k) true 53 [.val (gR G o), .val (gI x1), .val (gI x2), .val (gI x3), .unset, .val (gI x5)] [] X M 0 0 := by
  refine wp_iload d_GM_replace_53 rfl ?_
  refine wp_aload_n d_GM_replace_55 rfl rfl (g_nz hX.1) ?_
  refine xgetR d_GM_replace_56 gc_GM f_GM_119.1 f_GM_119.2.1 f_GM_119.2.2.1 hX.1 (gm_o2 hX) hX.2.2.1 f_GM_119.2.2.2.2.1 (gm_row hX 34 rfl).1 ?_
  refine wp_iload_n d_GM_replace_59 rfl rfl ?_
  refine wp_iconst d_GM_replace_60 ?_
  refine wp_iadd d_GM_replace_61 ?_
  refine wp_iaload d_GM_replace_62 (gm_row hX 34 rfl).2.2.1 (gm_row hX 34 rfl).2.2.2 (gm_row hX 34 rfl).2.1 (g32_n T.1 (by decide)) T.1.1 T.1.2 (fun h22 => ?_)
  have T := T.2 h22
  refine xi_ge (tgt := 95) d_GM_replace_63 (by decide) (w32_id hx5) (w32_id h22) (fun h26 => ?_) (fun h26 => ?_)
  · have T := T.1 h26
    refine wp_iload_n d_GM_replace_95 rfl rfl ?_
    refine wp_aload_n d_GM_replace_96 rfl rfl (g_nz hX.1) ?_
    refine xgetR d_GM_replace_97 gc_GM f_GM_119.1 f_GM_119.2.1 f_GM_119.2.2.1 hX.1 (gm_o2 hX) hX.2.2.1 f_GM_119.2.2.2.2.1 (gm_row hX 34 rfl).1 ?_
    refine wp_iload_n d_GM_replace_100 rfl rfl ?_
    refine wp_iconst d_GM_replace_101 ?_
    refine wp_iadd d_GM_replace_102 ?_
    refine wp_iaload d_GM_replace_103 (gm_row hX 34 rfl).2.2.1 (gm_row hX 34 rfl).2.2.2 (gm_row hX 34 rfl).2.1 (g32_n T.1 (by decide)) T.1.1 T.1.2 (fun h23 => ?_)
    have T := T.2 h23
    refine wp_iadd d_GM_replace_104 ?_
    refine wp_istore_n (L' := [.val (gR G o), .val (gI x1), .val (gI (x2 + (M (o + 35) (Int.toNat (x1 + 2))))), .val (gI x3), .unset, .val (gI x5)]) d_GM_replace_105 rfl (by decide) rfl ?_
    refine wp_iload_n d_GM_replace_106 rfl rfl ?_
    refine wp_aload_n d_GM_replace_107 rfl rfl (g_nz hX.1) ?_
    refine xgetR d_GM_replace_108 gc_GM f_GM_119.1 f_GM_119.2.1 f_GM_119.2.2.1 hX.1 (gm_o2 hX) hX.2.2.1 f_GM_119.2.2.2.2.1 (gm_row hX 34 rfl).1 ?_
    refine wp_iload_n d_GM_replace_111 rfl rfl ?_
    refine wp_iconst d_GM_replace_112 ?_
    refine wp_iadd d_GM_replace_113 ?_
    refine wp_iaload d_GM_replace_114 (gm_row hX 34 rfl).2.2.1 (gm_row hX 34 rfl).2.2.2 (gm_row hX 34 rfl).2.1 (g32_n T.1 (by decide)) T.1.1 T.1.2 (fun h24 => ?_)
    have T := T.2 h24
    refine wp_iadd d_GM_replace_115 ?_
    refine wp_istore_n (L' := [.val (gR G o), .val (gI x1), .val (gI (x2 + (M (o + 35) (Int.toNat (x1 + 2))))), .val (gI (x3 + (M (o + 35) (Int.toNat (x1 + 1))))), .unset, .val (gI x5)]) d_GM_replace_116 rfl (by decide) rfl ?_
    refine wp_goto (tgt := 143) d_GM_replace_117 (by decide) ?_
    refine wp_goto (tgt := 4) d_GM_replace_143 (by decide) ?_
    exact wp_md (wpt T (And.intro rfl (And.intro rfl (And.intro (gI_w _) (And.intro (gI_w _) True.intro)))))
  · have T := T.2 h26
    refine wp_aload_n d_GM_replace_66 rfl rfl (g_nz hX.1) ?_
    refine xgetR d_GM_replace_67 gc_GM f_GM_132.1 f_GM_132.2.1 f_GM_132.2.2.1 hX.1 (gm_o2 hX) hX.2.2.1 f_GM_132.2.2.2.2.1 (gm_row hX 38 rfl).1 ?_
    refine wp_iload_n d_GM_replace_70 rfl rfl ?_
    refine wp_iload d_GM_replace_71 rfl ?_
    refine wp_iadd d_GM_replace_73 ?_
    refine wp_aload_n d_GM_replace_74 rfl rfl (g_nz hX.1) ?_
    refine xgetR d_GM_replace_75 gc_GM f_GM_126.1 f_GM_126.2.1 f_GM_126.2.2.1 hX.1 (gm_o2 hX) hX.2.2.1 f_GM_126.2.2.2.2.1 (gm_row hX 36 rfl).1 ?_
    refine wp_bipush d_GM_replace_78 ⟨by decide, by decide⟩ ?_
    refine wp_iload_n d_GM_replace_80 rfl rfl ?_
    refine wp_iconst d_GM_replace_81 ?_
    refine wp_iadd d_GM_replace_82 ?_
    refine wp_imul d_GM_replace_83 ?_
    refine wp_iload d_GM_replace_84 rfl ?_
    refine wp_iadd d_GM_replace_86 ?_
    refine wp_baload d_GM_replace_87 (gm_row hX 36 rfl).2.2.1 (gm_row hX 36 rfl).2.2.2 (gm_row hX 36 rfl).2.1 (g32_n T.1 (by decide)) T.1.1 T.1.2 (fun h25 => ?_)
    have T := T.2 h25
    refine xbast d_GM_replace_88 (gm_row hX 38 rfl).2.2.1 (gm_row hX 38 rfl).2.2.2 (gm_row hX 38 rfl).2.1 (by decide) T.1 ?_
    have T := T.2
    refine wp_iinc (L' := [.val (gR G o), .val (gI x1), .val (gI x2), .val (gI x3), .unset, .val (gI (x5 + 1))]) d_GM_replace_89 rfl (by decide) rfl ?_
    refine wp_goto (tgt := 53) d_GM_replace_92 (by decide) ?_
    exact wp_md (wpt T (And.intro rfl (And.intro rfl (And.intro rfl (And.intro rfl (And.intro (gI_w _) True.intro))))))
theorem e_GM_replace {l : Launch} {G : gG} {d : Nat} {X : gX} {M : gM} {k : gM → Prop} {o : Nat} {x1 : Int} (T : wp l G y_GM_replace (gRm (d + 1)) true (kkV X k) false 0 [.val (gR G o), .val (gI x1), .unset, .unset, .unset, .unset] [] X M 0 0) : cV l G y_GM_replace (gRm (d + 1)) true [gR G o, gI x1] X M k := cen_V (plainFor_of_name rfl) (by simp only [lg_sl_R, lg_sl_I, lg_sl_L, lg_sl_N, List.length_cons, List.length_nil]; decide) (by unfold gEn; simp only [lg_sl_R, lg_sl_I, lg_sl_L, lg_sl_N]; exact wpt T (And.intro rfl (And.intro rfl True.intro)))
theorem d_GM_same_0 : decode prog_15_method_68_code 0 = .ok (.aload_n 0, 1) := by decide +kernel
theorem d_GM_same_1 : decode prog_15_method_68_code 1 = .ok (.getfield 91, 3) := by decide +kernel
theorem d_GM_same_4 : decode prog_15_method_68_code 4 = .ok (.iload_n 1, 1) := by decide +kernel
theorem d_GM_same_5 : decode prog_15_method_68_code 5 = .ok (.iaload, 1) := by decide +kernel
theorem d_GM_same_6 : decode prog_15_method_68_code 6 = .ok (.iconst 4, 1) := by decide +kernel
theorem d_GM_same_7 : decode prog_15_method_68_code 7 = .ok (.if_icmp .ne 5, 3) := by decide +kernel
theorem d_GM_same_12 : decode prog_15_method_68_code 12 = .ok (.aload_n 0, 1) := by decide +kernel
theorem d_GM_same_13 : decode prog_15_method_68_code 13 = .ok (.iload_n 1, 1) := by decide +kernel
theorem d_GM_same_14 : decode prog_15_method_68_code 14 = .ok (.invokevirtual 377, 3) := by decide +kernel
theorem d_GM_same_17 : decode prog_15_method_68_code 17 = .ok (.aload_n 0, 1) := by decide +kernel
theorem d_GM_same_18 : decode prog_15_method_68_code 18 = .ok (.aload_n 0, 1) := by decide +kernel
theorem d_GM_same_19 : decode prog_15_method_68_code 19 = .ok (.getfield 304, 3) := by decide +kernel
theorem d_GM_same_22 : decode prog_15_method_68_code 22 = .ok (.iconst 1, 1) := by decide +kernel
theorem d_GM_same_23 : decode prog_15_method_68_code 23 = .ok (.isub, 1) := by decide +kernel
theorem d_GM_same_24 : decode prog_15_method_68_code 24 = .ok (.iload_n 2, 1) := by decide +kernel
theorem d_GM_same_25 : decode prog_15_method_68_code 25 = .ok (.invokevirtual 344, 3) := by decide +kernel
theorem d_GM_same_28 : decode prog_15_method_68_code 28 = .ok (.ifCond .ne 7, 3) := by decide +kernel
theorem d_GM_same_35 : decode prog_15_method_68_code 35 = .ok (.iconst 0, 1) := by decide +kernel
theorem d_GM_same_36 : decode prog_15_method_68_code 36 = .ok (.istore_n 3, 1) := by decide +kernel
theorem d_GM_same_37 : decode prog_15_method_68_code 37 = .ok (.aload_n 0, 1) := by decide +kernel
theorem d_GM_same_38 : decode prog_15_method_68_code 38 = .ok (.dup, 1) := by decide +kernel
theorem d_GM_same_39 : decode prog_15_method_68_code 39 = .ok (.getfield 304, 3) := by decide +kernel
theorem d_GM_same_42 : decode prog_15_method_68_code 42 = .ok (.iconst 1, 1) := by decide +kernel
theorem d_GM_same_43 : decode prog_15_method_68_code 43 = .ok (.isub, 1) := by decide +kernel
theorem d_GM_same_44 : decode prog_15_method_68_code 44 = .ok (.putfield 304, 3) := by decide +kernel
theorem d_GM_same_47 : decode prog_15_method_68_code 47 = .ok (.iload_n 3, 1) := by decide +kernel
theorem d_GM_same_48 : decode prog_15_method_68_code 48 = .ok (.ireturn, 1) := by decide +kernel
theorem d_GM_same_31 : decode prog_15_method_68_code 31 = .ok (.iconst 1, 1) := by decide +kernel
theorem d_GM_same_32 : decode prog_15_method_68_code 32 = .ok (.goto 4, 3) := by decide +kernel
theorem d_GM_same_10 : decode prog_15_method_68_code 10 = .ok (.iconst 0, 1) := by decide +kernel
theorem d_GM_same_11 : decode prog_15_method_68_code 11 = .ok (.ireturn, 1) := by decide +kernel
set_option maxHeartbeats 4000000 in
theorem w_GM_same_0 {l : Launch} {G : gG} {d : Nat} {X : gX} {M : gM} {k : Int → gM → Prop} {o : Nat} (hX : gmX X o) {x1 : Int} (hx1 : g32 x1) {x2 : Int} (hx2 : g32 x2) (T : ((0 : Int) ≤ x1 ∧ x1 < 5200) ∧ (g32 (M (o + 26) (Int.toNat x1)) → ((¬ M (o + 26) (Int.toNat x1) = 4 → (cV l G y_GM_pushCell (gRm d) true [gR G o, gI x1] X M (fun M2 => (g32 (M2 o 50) → (cI l G y_GM_compare (gRm d) false [gR G o, gI ((M2 o 50) - 1), gI x2] X M2 (fun v5 M4 => ((¬ v5 = 0 → (g32 (M4 o 50) → (k 0 (gUp M4 o 50 (w32 ((M4 o 50) - 1)))))) ∧ (v5 = 0 → (g32 (M4 o 50) → (k 1 (gUp M4 o 50 (w32 ((M4 o 50) - 1))))))))))))) ∧ (M (o + 26) (Int.toNat x1) = 4 → (k 0 M))))) : wp l G y_GM_same (gRm (d + 1)) true (kkZ X k) false 0 [.val (gR G o), .val (gI x1), .val (gI x2), .unset] [] X M 0 0 := by
  refine wp_aload_n d_GM_same_0 rfl rfl (g_nz hX.1) ?_
  refine xgetR d_GM_same_1 gc_GM f_GM_91.1 f_GM_91.2.1 f_GM_91.2.2.1 hX.1 (gm_o2 hX) hX.2.2.1 f_GM_91.2.2.2.2.1 (gm_row hX 25 rfl).1 ?_
  refine wp_iload_n d_GM_same_4 rfl rfl ?_
  refine wp_iaload d_GM_same_5 (gm_row hX 25 rfl).2.2.1 (gm_row hX 25 rfl).2.2.2 (gm_row hX 25 rfl).2.1 (g32_n T.1 (by decide)) T.1.1 T.1.2 (fun h1 => ?_)
  have T := T.2 h1
  refine wp_iconst d_GM_same_6 ?_
  refine xi_ne (tgt := 12) d_GM_same_7 (by decide) (w32_id h1) (w32_id (g32_c (x := 4) rfl)) (fun h10 => ?_) (fun h10 => ?_)
  · have T := T.1 h10
    refine wp_aload_n d_GM_same_12 rfl rfl (g_nz hX.1) ?_
    refine wp_iload_n d_GM_same_13 rfl rfl ?_
    refine xcV_V (md' := true) (As := [gI x1]) (st := []) d_GM_same_14 ca_GM_pushCell ml_GM_377 im_GM_pushCell se_GM_pushCell gc_GM hX.1 (gm_o2 hX) hX.2.2.1 rfl (by decide) (by decide) rfl (fun _ => rfl) (fun _ => rfl) T (fun M2 T => ?_)
    refine wp_aload_n d_GM_same_17 rfl rfl (g_nz hX.1) ?_
    refine wp_aload_n d_GM_same_18 rfl rfl (g_nz hX.1) ?_
    refine xgetI d_GM_same_19 gc_GM f_GM_304.1 f_GM_304.2.1 f_GM_304.2.2.1 hX.1 (gm_o2 hX) hX.2.2.1 f_GM_304.2.2.2.2.1 (fun h3 => ?_)
    have T := T h3
    refine wp_iconst d_GM_same_22 ?_
    refine wp_isub d_GM_same_23 ?_
    refine wp_iload_n d_GM_same_24 rfl rfl ?_
    refine xcV_I (md' := true) (As := [gI ((M2 o 50) - 1), gI x2]) (st := []) d_GM_same_25 ca_GM_compare ml_GM_344 im_GM_compare se_GM_compare gc_GM hX.1 (gm_o2 hX) hX.2.2.1 rfl (by decide) (by decide) rfl (fun _ => rfl) (fun _ => rfl) T (fun v5 M4 h6 T => ?_)
    refine xz_ne (tgt := 35) d_GM_same_28 (by decide) (w32_id h6) (fun h9 => ?_) (fun h9 => ?_)
    · have T := T.1 h9
      refine wp_iconst d_GM_same_35 ?_
      refine wp_istore_n (L' := [.val (gR G o), .val (gI x1), .val (gI x2), .val (gI 0)]) d_GM_same_36 rfl (by decide) rfl ?_
      refine wp_aload_n d_GM_same_37 rfl rfl (g_nz hX.1) ?_
      refine wp_dup d_GM_same_38 (gR_cat _) ?_
      refine xgetI d_GM_same_39 gc_GM f_GM_304.1 f_GM_304.2.1 f_GM_304.2.2.1 hX.1 (gm_o2 hX) hX.2.2.1 f_GM_304.2.2.2.2.1 (fun h7 => ?_)
      have T := T h7
      refine wp_iconst d_GM_same_42 ?_
      refine wp_isub d_GM_same_43 ?_
      refine xputI d_GM_same_44 gc_GM f_GM_304.1 f_GM_304.2.1 f_GM_304.2.2.1 hX.1 (gm_o2 hX) hX.2.2.1 f_GM_304.2.2.2.1 f_GM_304.2.2.2.2.1 f_GM_304.2.2.2.2.2 rfl ?_
      refine wp_iload_n d_GM_same_47 rfl rfl ?_
      exact wp_zreturn d_GM_same_48 rfl (g_narz (⟨by decide, by decide⟩ : (0 : Int) ≤ 0 ∧ (0 : Int) ≤ 1)) (fun _ => rfl) (Nat.zero_le _) (Nat.zero_le _) (kZ_mk (⟨by decide, by decide⟩ : (0 : Int) ≤ 0 ∧ (0 : Int) ≤ 1) T)
    · have T := T.2 h9
      refine wp_iconst d_GM_same_31 ?_
      refine wp_goto (tgt := 36) d_GM_same_32 (by decide) ?_
      refine wp_istore_n (L' := [.val (gR G o), .val (gI x1), .val (gI x2), .val (gI 1)]) d_GM_same_36 rfl (by decide) rfl ?_
      refine wp_aload_n d_GM_same_37 rfl rfl (g_nz hX.1) ?_
      refine wp_dup d_GM_same_38 (gR_cat _) ?_
      refine xgetI d_GM_same_39 gc_GM f_GM_304.1 f_GM_304.2.1 f_GM_304.2.2.1 hX.1 (gm_o2 hX) hX.2.2.1 f_GM_304.2.2.2.2.1 (fun h8 => ?_)
      have T := T h8
      refine wp_iconst d_GM_same_42 ?_
      refine wp_isub d_GM_same_43 ?_
      refine xputI d_GM_same_44 gc_GM f_GM_304.1 f_GM_304.2.1 f_GM_304.2.2.1 hX.1 (gm_o2 hX) hX.2.2.1 f_GM_304.2.2.2.1 f_GM_304.2.2.2.2.1 f_GM_304.2.2.2.2.2 rfl ?_
      refine wp_iload_n d_GM_same_47 rfl rfl ?_
      exact wp_zreturn d_GM_same_48 rfl (g_narz (⟨by decide, by decide⟩ : (0 : Int) ≤ 1 ∧ (1 : Int) ≤ 1)) (fun _ => rfl) (Nat.zero_le _) (Nat.zero_le _) (kZ_mk (⟨by decide, by decide⟩ : (0 : Int) ≤ 1 ∧ (1 : Int) ≤ 1) T)
  · have T := T.2 h10
    refine wp_iconst d_GM_same_10 ?_
    exact wp_zreturn d_GM_same_11 rfl (g_narz (⟨by decide, by decide⟩ : (0 : Int) ≤ 0 ∧ (0 : Int) ≤ 1)) (fun _ => rfl) (Nat.zero_le _) (Nat.zero_le _) (kZ_mk (⟨by decide, by decide⟩ : (0 : Int) ≤ 0 ∧ (0 : Int) ≤ 1) T)
theorem e_GM_same {l : Launch} {G : gG} {d : Nat} {X : gX} {M : gM} {k : Int → gM → Prop} {o : Nat} {x1 : Int} {x2 : Int} (T : wp l G y_GM_same (gRm (d + 1)) true (kkZ X k) false 0 [.val (gR G o), .val (gI x1), .val (gI x2), .unset] [] X M 0 0) : cZ l G y_GM_same (gRm (d + 1)) true [gR G o, gI x1, gI x2] X M k := cen_Z (plainFor_of_name rfl) (by simp only [lg_sl_R, lg_sl_I, lg_sl_L, lg_sl_N, List.length_cons, List.length_nil]; decide) (by unfold gEn; simp only [lg_sl_R, lg_sl_I, lg_sl_L, lg_sl_N]; exact wpt T (And.intro rfl (And.intro rfl (And.intro rfl True.intro))))
theorem d_GM_search_0 : decode prog_15_method_69_code 0 = .ok (.iload_n 1, 1) := by decide +kernel
theorem d_GM_search_1 : decode prog_15_method_69_code 1 = .ok (.bipush 34, 2) := by decide +kernel
theorem d_GM_search_3 : decode prog_15_method_69_code 3 = .ok (.if_icmp .eq 9, 3) := by decide +kernel
theorem d_GM_search_12 : decode prog_15_method_69_code 12 = .ok (.iload_n 2, 1) := by decide +kernel
theorem d_GM_search_13 : decode prog_15_method_69_code 13 = .ok (.goto 6, 3) := by decide +kernel
theorem d_GM_search_19 : decode prog_15_method_69_code 19 = .ok (.istore_n 3, 1) := by decide +kernel
theorem d_GM_search_20 : decode prog_15_method_69_code 20 = .ok (.lconst 0, 1) := by decide +kernel
theorem d_GM_search_21 : decode prog_15_method_69_code 21 = .ok (.lstore 4, 2) := by decide +kernel
theorem d_GM_search_23 : decode prog_15_method_69_code 23 = .ok (.lconst 0, 1) := by decide +kernel
theorem d_GM_search_24 : decode prog_15_method_69_code 24 = .ok (.lstore 6, 2) := by decide +kernel
theorem d_GM_search_26 : decode prog_15_method_69_code 26 = .ok (.lconst 0, 1) := by decide +kernel
theorem d_GM_search_27 : decode prog_15_method_69_code 27 = .ok (.lstore 8, 2) := by decide +kernel
theorem d_GM_search_29 : decode prog_15_method_69_code 29 = .ok (.iconst 1, 1) := by decide +kernel
theorem d_GM_search_30 : decode prog_15_method_69_code 30 = .ok (.istore 10, 2) := by decide +kernel
theorem d_GM_search_32 : decode prog_15_method_69_code 32 = .ok (.aload_n 0, 1) := by decide +kernel
theorem d_GM_search_33 : decode prog_15_method_69_code 33 = .ok (.getfield 418, 3) := by decide +kernel
theorem d_GM_search_36 : decode prog_15_method_69_code 36 = .ok (.istore 11, 2) := by decide +kernel
theorem d_GM_search_6 : decode prog_15_method_69_code 6 = .ok (.iload_n 1, 1) := by decide +kernel
theorem d_GM_search_7 : decode prog_15_method_69_code 7 = .ok (.bipush 35, 2) := by decide +kernel
theorem d_GM_search_9 : decode prog_15_method_69_code 9 = .ok (.if_icmp .ne 7, 3) := by decide +kernel
theorem d_GM_search_16 : decode prog_15_method_69_code 16 = .ok (.iload_n 2, 1) := by decide +kernel
theorem d_GM_search_17 : decode prog_15_method_69_code 17 = .ok (.iconst 1, 1) := by decide +kernel
theorem d_GM_search_18 : decode prog_15_method_69_code 18 = .ok (.iadd, 1) := by decide +kernel
theorem d_GM_search_38 : decode prog_15_method_69_code 38 = .ok (.iload 11, 2) := by decide +kernel
theorem d_GM_search_40 : decode prog_15_method_69_code 40 = .ok (.aload_n 0, 1) := by decide +kernel
theorem d_GM_search_41 : decode prog_15_method_69_code 41 = .ok (.getfield 421, 3) := by decide +kernel
theorem d_GM_search_44 : decode prog_15_method_69_code 44 = .ok (.if_icmp .gt 178, 3) := by decide +kernel
theorem d_GM_search_222 : decode prog_15_method_69_code 222 = .ok (.iload_n 1, 1) := by decide +kernel
theorem d_GM_search_223 : decode prog_15_method_69_code 223 = .ok (.bipush 34, 2) := by decide +kernel
theorem d_GM_search_225 : decode prog_15_method_69_code 225 = .ok (.if_icmp .eq 9, 3) := by decide +kernel
theorem d_GM_search_234 : decode prog_15_method_69_code 234 = .ok (.aload_n 0, 1) := by decide +kernel
theorem d_GM_search_235 : decode prog_15_method_69_code 235 = .ok (.bipush 7, 2) := by decide +kernel
theorem d_GM_search_237 : decode prog_15_method_69_code 237 = .ok (.invokevirtual 314, 3) := by decide +kernel
theorem d_GM_search_240 : decode prog_15_method_69_code 240 = .ok (.goto 40, 3) := by decide +kernel
theorem d_GM_search_280 : decode prog_15_method_69_code 280 = .ok (.return_, 1) := by decide +kernel
theorem d_GM_search_228 : decode prog_15_method_69_code 228 = .ok (.iload_n 1, 1) := by decide +kernel
theorem d_GM_search_229 : decode prog_15_method_69_code 229 = .ok (.bipush 35, 2) := by decide +kernel
theorem d_GM_search_231 : decode prog_15_method_69_code 231 = .ok (.if_icmp .ne 12, 3) := by decide +kernel
theorem d_GM_search_243 : decode prog_15_method_69_code 243 = .ok (.iload_n 1, 1) := by decide +kernel
theorem d_GM_search_244 : decode prog_15_method_69_code 244 = .ok (.bipush 37, 2) := by decide +kernel
theorem d_GM_search_246 : decode prog_15_method_69_code 246 = .ok (.if_icmp .ne 13, 3) := by decide +kernel
theorem d_GM_search_259 : decode prog_15_method_69_code 259 = .ok (.iload 10, 2) := by decide +kernel
theorem d_GM_search_261 : decode prog_15_method_69_code 261 = .ok (.ifCond .eq 13, 3) := by decide +kernel
theorem d_GM_search_274 : decode prog_15_method_69_code 274 = .ok (.aload_n 0, 1) := by decide +kernel
theorem d_GM_search_275 : decode prog_15_method_69_code 275 = .ok (.bipush 6, 2) := by decide +kernel
theorem d_GM_search_277 : decode prog_15_method_69_code 277 = .ok (.invokevirtual 314, 3) := by decide +kernel
theorem d_GM_search_264 : decode prog_15_method_69_code 264 = .ok (.aload_n 0, 1) := by decide +kernel
theorem d_GM_search_265 : decode prog_15_method_69_code 265 = .ok (.iconst 1, 1) := by decide +kernel
theorem d_GM_search_266 : decode prog_15_method_69_code 266 = .ok (.lload 6, 2) := by decide +kernel
theorem d_GM_search_268 : decode prog_15_method_69_code 268 = .ok (.invokevirtual 307, 3) := by decide +kernel
theorem d_GM_search_271 : decode prog_15_method_69_code 271 = .ok (.goto 9, 3) := by decide +kernel
theorem d_GM_search_249 : decode prog_15_method_69_code 249 = .ok (.aload_n 0, 1) := by decide +kernel
theorem d_GM_search_250 : decode prog_15_method_69_code 250 = .ok (.iconst 1, 1) := by decide +kernel
theorem d_GM_search_251 : decode prog_15_method_69_code 251 = .ok (.lload 8, 2) := by decide +kernel
theorem d_GM_search_253 : decode prog_15_method_69_code 253 = .ok (.invokevirtual 307, 3) := by decide +kernel
theorem d_GM_search_256 : decode prog_15_method_69_code 256 = .ok (.goto 24, 3) := by decide +kernel
theorem d_GM_search_47 : decode prog_15_method_69_code 47 = .ok (.aload_n 0, 1) := by decide +kernel
theorem d_GM_search_48 : decode prog_15_method_69_code 48 = .ok (.getfield 412, 3) := by decide +kernel
theorem d_GM_search_51 : decode prog_15_method_69_code 51 = .ok (.istore 12, 2) := by decide +kernel
theorem d_GM_search_53 : decode prog_15_method_69_code 53 = .ok (.iload 12, 2) := by decide +kernel
theorem d_GM_search_55 : decode prog_15_method_69_code 55 = .ok (.aload_n 0, 1) := by decide +kernel
theorem d_GM_search_56 : decode prog_15_method_69_code 56 = .ok (.getfield 415, 3) := by decide +kernel
theorem d_GM_search_59 : decode prog_15_method_69_code 59 = .ok (.if_icmp .gt 157, 3) := by decide +kernel
theorem d_GM_search_216 : decode prog_15_method_69_code 216 = .ok (.iinc 11 1, 3) := by decide +kernel
theorem d_GM_search_219 : decode prog_15_method_69_code 219 = .ok (.goto (-181), 3) := by decide +kernel
theorem d_GM_search_62 : decode prog_15_method_69_code 62 = .ok (.lload 4, 2) := by decide +kernel
theorem d_GM_search_64 : decode prog_15_method_69_code 64 = .ok (.lconst 1, 1) := by decide +kernel
theorem d_GM_search_65 : decode prog_15_method_69_code 65 = .ok (.ladd, 1) := by decide +kernel
theorem d_GM_search_66 : decode prog_15_method_69_code 66 = .ok (.lstore 4, 2) := by decide +kernel
theorem d_GM_search_68 : decode prog_15_method_69_code 68 = .ok (.iload_n 1, 1) := by decide +kernel
theorem d_GM_search_69 : decode prog_15_method_69_code 69 = .ok (.bipush 35, 2) := by decide +kernel
theorem d_GM_search_71 : decode prog_15_method_69_code 71 = .ok (.if_icmp .ne 15, 3) := by decide +kernel
theorem d_GM_search_74 : decode prog_15_method_69_code 74 = .ok (.iload 12, 2) := by decide +kernel
theorem d_GM_search_76 : decode prog_15_method_69_code 76 = .ok (.aload_n 0, 1) := by decide +kernel
theorem d_GM_search_77 : decode prog_15_method_69_code 77 = .ok (.getfield 412, 3) := by decide +kernel
theorem d_GM_search_80 : decode prog_15_method_69_code 80 = .ok (.if_icmp .le 6, 3) := by decide +kernel
theorem d_GM_search_83 : decode prog_15_method_69_code 83 = .ok (.goto 127, 3) := by decide +kernel
theorem d_GM_search_210 : decode prog_15_method_69_code 210 = .ok (.iinc 12 1, 3) := by decide +kernel
theorem d_GM_search_213 : decode prog_15_method_69_code 213 = .ok (.goto (-160), 3) := by decide +kernel
theorem d_GM_search_86 : decode prog_15_method_69_code 86 = .ok (.iload 12, 2) := by decide +kernel
theorem d_GM_search_88 : decode prog_15_method_69_code 88 = .ok (.bipush 26, 2) := by decide +kernel
theorem d_GM_search_90 : decode prog_15_method_69_code 90 = .ok (.iload 11, 2) := by decide +kernel
theorem d_GM_search_92 : decode prog_15_method_69_code 92 = .ok (.imul, 1) := by decide +kernel
theorem d_GM_search_93 : decode prog_15_method_69_code 93 = .ok (.iadd, 1) := by decide +kernel
theorem d_GM_search_94 : decode prog_15_method_69_code 94 = .ok (.istore 13, 2) := by decide +kernel
theorem d_GM_search_96 : decode prog_15_method_69_code 96 = .ok (.aload_n 0, 1) := by decide +kernel
theorem d_GM_search_97 : decode prog_15_method_69_code 97 = .ok (.iload 13, 2) := by decide +kernel
theorem d_GM_search_99 : decode prog_15_method_69_code 99 = .ok (.iload_n 3, 1) := by decide +kernel
theorem d_GM_search_100 : decode prog_15_method_69_code 100 = .ok (.invokevirtual 472, 3) := by decide +kernel
theorem d_GM_search_103 : decode prog_15_method_69_code 103 = .ok (.ifCond .ne 6, 3) := by decide +kernel
theorem d_GM_search_109 : decode prog_15_method_69_code 109 = .ok (.lload 8, 2) := by decide +kernel
theorem d_GM_search_111 : decode prog_15_method_69_code 111 = .ok (.lconst 1, 1) := by decide +kernel
theorem d_GM_search_112 : decode prog_15_method_69_code 112 = .ok (.ladd, 1) := by decide +kernel
theorem d_GM_search_113 : decode prog_15_method_69_code 113 = .ok (.lstore 8, 2) := by decide +kernel
theorem d_GM_search_115 : decode prog_15_method_69_code 115 = .ok (.iload_n 1, 1) := by decide +kernel
theorem d_GM_search_116 : decode prog_15_method_69_code 116 = .ok (.bipush 34, 2) := by decide +kernel
theorem d_GM_search_118 : decode prog_15_method_69_code 118 = .ok (.if_icmp .ne 11, 3) := by decide +kernel
theorem d_GM_search_129 : decode prog_15_method_69_code 129 = .ok (.iload_n 1, 1) := by decide +kernel
theorem d_GM_search_130 : decode prog_15_method_69_code 130 = .ok (.bipush 35, 2) := by decide +kernel
theorem d_GM_search_132 : decode prog_15_method_69_code 132 = .ok (.if_icmp .ne 26, 3) := by decide +kernel
theorem d_GM_search_158 : decode prog_15_method_69_code 158 = .ok (.aload_n 0, 1) := by decide +kernel
theorem d_GM_search_159 : decode prog_15_method_69_code 159 = .ok (.getfield 91, 3) := by decide +kernel
theorem d_GM_search_162 : decode prog_15_method_69_code 162 = .ok (.iload 13, 2) := by decide +kernel
theorem d_GM_search_164 : decode prog_15_method_69_code 164 = .ok (.iaload, 1) := by decide +kernel
theorem d_GM_search_165 : decode prog_15_method_69_code 165 = .ok (.iconst 1, 1) := by decide +kernel
theorem d_GM_search_166 : decode prog_15_method_69_code 166 = .ok (.if_icmp .ne 44, 3) := by decide +kernel
theorem d_GM_search_169 : decode prog_15_method_69_code 169 = .ok (.iload 10, 2) := by decide +kernel
theorem d_GM_search_171 : decode prog_15_method_69_code 171 = .ok (.ifCond .eq 25, 3) := by decide +kernel
theorem d_GM_search_196 : decode prog_15_method_69_code 196 = .ok (.iconst 0, 1) := by decide +kernel
theorem d_GM_search_197 : decode prog_15_method_69_code 197 = .ok (.istore 10, 2) := by decide +kernel
theorem d_GM_search_199 : decode prog_15_method_69_code 199 = .ok (.iload 10, 2) := by decide +kernel
theorem d_GM_search_201 : decode prog_15_method_69_code 201 = .ok (.ifCond .eq 9, 3) := by decide +kernel
theorem d_GM_search_204 : decode prog_15_method_69_code 204 = .ok (.aload_n 0, 1) := by decide +kernel
theorem d_GM_search_205 : decode prog_15_method_69_code 205 = .ok (.getfield 324, 3) := by decide +kernel
theorem d_GM_search_208 : decode prog_15_method_69_code 208 = .ok (.lstore 6, 2) := by decide +kernel
theorem d_GM_search_174 : decode prog_15_method_69_code 174 = .ok (.aload_n 0, 1) := by decide +kernel
theorem d_GM_search_175 : decode prog_15_method_69_code 175 = .ok (.bipush 43, 2) := by decide +kernel
theorem d_GM_search_177 : decode prog_15_method_69_code 177 = .ok (.lload 6, 2) := by decide +kernel
theorem d_GM_search_179 : decode prog_15_method_69_code 179 = .ok (.aload_n 0, 1) := by decide +kernel
theorem d_GM_search_180 : decode prog_15_method_69_code 180 = .ok (.getfield 103, 3) := by decide +kernel
theorem d_GM_search_183 : decode prog_15_method_69_code 183 = .ok (.iload 13, 2) := by decide +kernel
theorem d_GM_search_185 : decode prog_15_method_69_code 185 = .ok (.laload, 1) := by decide +kernel
theorem d_GM_search_186 : decode prog_15_method_69_code 186 = .ok (.invokevirtual 331, 3) := by decide +kernel
theorem d_GM_search_189 : decode prog_15_method_69_code 189 = .ok (.ifCond .eq 7, 3) := by decide +kernel
theorem d_GM_search_192 : decode prog_15_method_69_code 192 = .ok (.iconst 1, 1) := by decide +kernel
theorem d_GM_search_193 : decode prog_15_method_69_code 193 = .ok (.goto 4, 3) := by decide +kernel
theorem d_GM_search_135 : decode prog_15_method_69_code 135 = .ok (.aload_n 0, 1) := by decide +kernel
theorem d_GM_search_136 : decode prog_15_method_69_code 136 = .ok (.iload 11, 2) := by decide +kernel
theorem d_GM_search_138 : decode prog_15_method_69_code 138 = .ok (.aload_n 0, 1) := by decide +kernel
theorem d_GM_search_139 : decode prog_15_method_69_code 139 = .ok (.getfield 418, 3) := by decide +kernel
theorem d_GM_search_142 : decode prog_15_method_69_code 142 = .ok (.isub, 1) := by decide +kernel
theorem d_GM_search_143 : decode prog_15_method_69_code 143 = .ok (.iconst 1, 1) := by decide +kernel
theorem d_GM_search_144 : decode prog_15_method_69_code 144 = .ok (.iadd, 1) := by decide +kernel
theorem d_GM_search_145 : decode prog_15_method_69_code 145 = .ok (.i2l, 1) := by decide +kernel
theorem d_GM_search_146 : decode prog_15_method_69_code 146 = .ok (.aload_n 0, 1) := by decide +kernel
theorem d_GM_search_147 : decode prog_15_method_69_code 147 = .ok (.getfield 122, 3) := by decide +kernel
theorem d_GM_search_150 : decode prog_15_method_69_code 150 = .ok (.iload_n 2, 1) := by decide +kernel
theorem d_GM_search_151 : decode prog_15_method_69_code 151 = .ok (.iconst 2, 1) := by decide +kernel
theorem d_GM_search_152 : decode prog_15_method_69_code 152 = .ok (.iadd, 1) := by decide +kernel
theorem d_GM_search_153 : decode prog_15_method_69_code 153 = .ok (.laload, 1) := by decide +kernel
theorem d_GM_search_154 : decode prog_15_method_69_code 154 = .ok (.invokevirtual 443, 3) := by decide +kernel
theorem d_GM_search_157 : decode prog_15_method_69_code 157 = .ok (.return_, 1) := by decide +kernel
theorem d_GM_search_121 : decode prog_15_method_69_code 121 = .ok (.aload_n 0, 1) := by decide +kernel
theorem d_GM_search_122 : decode prog_15_method_69_code 122 = .ok (.iconst 1, 1) := by decide +kernel
theorem d_GM_search_123 : decode prog_15_method_69_code 123 = .ok (.lload 4, 2) := by decide +kernel
theorem d_GM_search_125 : decode prog_15_method_69_code 125 = .ok (.invokevirtual 307, 3) := by decide +kernel
theorem d_GM_search_128 : decode prog_15_method_69_code 128 = .ok (.return_, 1) := by decide +kernel
theorem d_GM_search_106 : decode prog_15_method_69_code 106 = .ok (.goto 104, 3) := by decide +kernel
set_option maxHeartbeats 4000000 in
theorem w_GM_search_0 {l : Launch} {G : gG} {d : Nat} {X : gX} {M : gM} {k : gM → Prop} {o : Nat} (hX : gmX X o) {x1 : Int} (hx1 : g32 x1) {x2 : Int} (hx2 : g32 x2) (T : (x1 = 34 → (g32 (M o 57) → (wp l G y_GM_search (gRm (d + 1)) true (kkV X k) true 38 [.val (gR G o), .val (gI x1), .val (gI x2), .val (gI x2), .val (gL 0), .unset, .val (gL 0), .unset, .val (gL 0), .unset, .val (gI 1), .val (gI (M o 57)), .unset, .unset] [] X M 0 0))) ∧ (¬ x1 = 34 → ((¬ x1 = 35 → (g32 (M o 57) → (wp l G y_GM_search (gRm (d + 1)) true (kkV X k) true 38 [.val (gR G o), .val (gI x1), .val (gI x2), .val (gI (w32 (x2 + 1))), .val (gL 0), .unset, .val (gL 0), .unset, .val (gL 0), .unset, .val (gI 1), .val (gI (M o 57)), .unset, .unset] [] X M 0 0))) ∧ (x1 = 35 → (g32 (M o 57) → (wp l G y_GM_search (gRm (d + 1)) true (kkV X k) true 38 [.val (gR G o), .val (gI x1), .val (gI x2), .val (gI x2), .val (gL 0), .unset, .val (gL 0), .unset, .val (gL 0), .unset, .val (gI 1), .val (gI (M o 57)), .unset, .unset] [] X M 0 0)))))) : wp l G y_GM_search (gRm (d + 1)) true (kkV X k) false 0 [.val (gR G o), .val (gI x1), .val (gI x2), .unset, .unset, .unset, .unset, .unset, .unset, .unset, .unset, .unset, .unset, .unset] [] X M 0 0 := by
  refine wp_iload_n d_GM_search_0 rfl rfl ?_
  refine wp_bipush d_GM_search_1 ⟨by decide, by decide⟩ ?_
  refine xi_eq (tgt := 12) d_GM_search_3 (by decide) (w32_id hx1) (w32_id (g32_c (x := 34) rfl)) (fun h5 => ?_) (fun h5 => ?_)
  · have T := T.1 h5
    refine wp_iload_n d_GM_search_12 rfl rfl ?_
    refine wp_goto (tgt := 19) d_GM_search_13 (by decide) ?_
    refine wp_istore_n (L' := [.val (gR G o), .val (gI x1), .val (gI x2), .val (gI x2), .unset, .unset, .unset, .unset, .unset, .unset, .unset, .unset, .unset, .unset]) d_GM_search_19 rfl (by decide) rfl ?_
    refine wp_lconst0 d_GM_search_20 ?_
    refine wp_lstore (L' := [.val (gR G o), .val (gI x1), .val (gI x2), .val (gI x2), .val (gL 0), .unset, .unset, .unset, .unset, .unset, .unset, .unset, .unset, .unset]) d_GM_search_21 (by decide) rfl ?_
    refine wp_lconst0 d_GM_search_23 ?_
    refine wp_lstore (L' := [.val (gR G o), .val (gI x1), .val (gI x2), .val (gI x2), .val (gL 0), .unset, .val (gL 0), .unset, .unset, .unset, .unset, .unset, .unset, .unset]) d_GM_search_24 (by decide) rfl ?_
    refine wp_lconst0 d_GM_search_26 ?_
    refine wp_lstore (L' := [.val (gR G o), .val (gI x1), .val (gI x2), .val (gI x2), .val (gL 0), .unset, .val (gL 0), .unset, .val (gL 0), .unset, .unset, .unset, .unset, .unset]) d_GM_search_27 (by decide) rfl ?_
    refine wp_iconst d_GM_search_29 ?_
    refine wp_istore (L' := [.val (gR G o), .val (gI x1), .val (gI x2), .val (gI x2), .val (gL 0), .unset, .val (gL 0), .unset, .val (gL 0), .unset, .val (gI 1), .unset, .unset, .unset]) d_GM_search_30 (by decide) rfl ?_
    refine wp_aload_n d_GM_search_32 rfl rfl (g_nz hX.1) ?_
    refine xgetI d_GM_search_33 gc_GM f_GM_418.1 f_GM_418.2.1 f_GM_418.2.2.1 hX.1 (gm_o2 hX) hX.2.2.1 f_GM_418.2.2.2.2.1 (fun h1 => ?_)
    have T := T h1
    refine wp_istore (L' := [.val (gR G o), .val (gI x1), .val (gI x2), .val (gI x2), .val (gL 0), .unset, .val (gL 0), .unset, .val (gL 0), .unset, .val (gI 1), .val (gI (M o 57)), .unset, .unset]) d_GM_search_36 (by decide) rfl ?_
    exact wp_md (wpt T (And.intro rfl (And.intro rfl (And.intro rfl (And.intro rfl (And.intro rfl (And.intro rfl (And.intro rfl (And.intro rfl (And.intro rfl True.intro))))))))))
  · have T := T.2 h5
    refine wp_iload_n d_GM_search_6 rfl rfl ?_
    refine wp_bipush d_GM_search_7 ⟨by decide, by decide⟩ ?_
    refine xi_ne (tgt := 16) d_GM_search_9 (by decide) (w32_id hx1) (w32_id (g32_c (x := 35) rfl)) (fun h4 => ?_) (fun h4 => ?_)
    · have T := T.1 h4
      refine wp_iload_n d_GM_search_16 rfl rfl ?_
      refine wp_iconst d_GM_search_17 ?_
      refine wp_iadd d_GM_search_18 ?_
      refine wp_istore_n (L' := [.val (gR G o), .val (gI x1), .val (gI x2), .val (gI (x2 + 1)), .unset, .unset, .unset, .unset, .unset, .unset, .unset, .unset, .unset, .unset]) d_GM_search_19 rfl (by decide) rfl ?_
      refine wp_lconst0 d_GM_search_20 ?_
      refine wp_lstore (L' := [.val (gR G o), .val (gI x1), .val (gI x2), .val (gI (x2 + 1)), .val (gL 0), .unset, .unset, .unset, .unset, .unset, .unset, .unset, .unset, .unset]) d_GM_search_21 (by decide) rfl ?_
      refine wp_lconst0 d_GM_search_23 ?_
      refine wp_lstore (L' := [.val (gR G o), .val (gI x1), .val (gI x2), .val (gI (x2 + 1)), .val (gL 0), .unset, .val (gL 0), .unset, .unset, .unset, .unset, .unset, .unset, .unset]) d_GM_search_24 (by decide) rfl ?_
      refine wp_lconst0 d_GM_search_26 ?_
      refine wp_lstore (L' := [.val (gR G o), .val (gI x1), .val (gI x2), .val (gI (x2 + 1)), .val (gL 0), .unset, .val (gL 0), .unset, .val (gL 0), .unset, .unset, .unset, .unset, .unset]) d_GM_search_27 (by decide) rfl ?_
      refine wp_iconst d_GM_search_29 ?_
      refine wp_istore (L' := [.val (gR G o), .val (gI x1), .val (gI x2), .val (gI (x2 + 1)), .val (gL 0), .unset, .val (gL 0), .unset, .val (gL 0), .unset, .val (gI 1), .unset, .unset, .unset]) d_GM_search_30 (by decide) rfl ?_
      refine wp_aload_n d_GM_search_32 rfl rfl (g_nz hX.1) ?_
      refine xgetI d_GM_search_33 gc_GM f_GM_418.1 f_GM_418.2.1 f_GM_418.2.2.1 hX.1 (gm_o2 hX) hX.2.2.1 f_GM_418.2.2.2.2.1 (fun h2 => ?_)
      have T := T h2
      refine wp_istore (L' := [.val (gR G o), .val (gI x1), .val (gI x2), .val (gI (x2 + 1)), .val (gL 0), .unset, .val (gL 0), .unset, .val (gL 0), .unset, .val (gI 1), .val (gI (M o 57)), .unset, .unset]) d_GM_search_36 (by decide) rfl ?_
      exact wp_md (wpt T (And.intro rfl (And.intro rfl (And.intro rfl (And.intro (gI_w _) (And.intro rfl (And.intro rfl (And.intro rfl (And.intro rfl (And.intro rfl True.intro))))))))))
    · have T := T.2 h4
      refine wp_iload_n d_GM_search_12 rfl rfl ?_
      refine wp_goto (tgt := 19) d_GM_search_13 (by decide) ?_
      refine wp_istore_n (L' := [.val (gR G o), .val (gI x1), .val (gI x2), .val (gI x2), .unset, .unset, .unset, .unset, .unset, .unset, .unset, .unset, .unset, .unset]) d_GM_search_19 rfl (by decide) rfl ?_
      refine wp_lconst0 d_GM_search_20 ?_
      refine wp_lstore (L' := [.val (gR G o), .val (gI x1), .val (gI x2), .val (gI x2), .val (gL 0), .unset, .unset, .unset, .unset, .unset, .unset, .unset, .unset, .unset]) d_GM_search_21 (by decide) rfl ?_
      refine wp_lconst0 d_GM_search_23 ?_
      refine wp_lstore (L' := [.val (gR G o), .val (gI x1), .val (gI x2), .val (gI x2), .val (gL 0), .unset, .val (gL 0), .unset, .unset, .unset, .unset, .unset, .unset, .unset]) d_GM_search_24 (by decide) rfl ?_
      refine wp_lconst0 d_GM_search_26 ?_
      refine wp_lstore (L' := [.val (gR G o), .val (gI x1), .val (gI x2), .val (gI x2), .val (gL 0), .unset, .val (gL 0), .unset, .val (gL 0), .unset, .unset, .unset, .unset, .unset]) d_GM_search_27 (by decide) rfl ?_
      refine wp_iconst d_GM_search_29 ?_
      refine wp_istore (L' := [.val (gR G o), .val (gI x1), .val (gI x2), .val (gI x2), .val (gL 0), .unset, .val (gL 0), .unset, .val (gL 0), .unset, .val (gI 1), .unset, .unset, .unset]) d_GM_search_30 (by decide) rfl ?_
      refine wp_aload_n d_GM_search_32 rfl rfl (g_nz hX.1) ?_
      refine xgetI d_GM_search_33 gc_GM f_GM_418.1 f_GM_418.2.1 f_GM_418.2.2.1 hX.1 (gm_o2 hX) hX.2.2.1 f_GM_418.2.2.2.2.1 (fun h3 => ?_)
      have T := T h3
      refine wp_istore (L' := [.val (gR G o), .val (gI x1), .val (gI x2), .val (gI x2), .val (gL 0), .unset, .val (gL 0), .unset, .val (gL 0), .unset, .val (gI 1), .val (gI (M o 57)), .unset, .unset]) d_GM_search_36 (by decide) rfl ?_
      exact wp_md (wpt T (And.intro rfl (And.intro rfl (And.intro rfl (And.intro rfl (And.intro rfl (And.intro rfl (And.intro rfl (And.intro rfl (And.intro rfl True.intro))))))))))
set_option maxHeartbeats 4000000 in
theorem w_GM_search_38 {l : Launch} {G : gG} {d : Nat} {X : gX} {M : gM} {k : gM → Prop} {o : Nat} (hX : gmX X o) {x1 : Int} (hx1 : g32 x1) {x2 : Int} (hx2 : g32 x2) {x3 : Int} (hx3 : g32 x3) {x4 : Int} (hx4 : g64 x4) {x6 : Int} (hx6 : g64 x6) {x8 : Int} (hx8 : g64 x8) {x10 : Int} (hx10 : g32 x10) {x11 : Int} (hx11 : g32 x11) (T : g32 (M o 59) → ((M o 59 < x11 → ((x1 = 34 → (cV l G y_GM_fault (gRm d) true [gR G o, gI 7] X M (fun M7 => (k M7)))) ∧ (¬ x1 = 34 → ((¬ x1 = 35 → ((¬ x1 = 37 → ((x10 = 0 → (cV l G y_GM_fault (gRm d) true [gR G o, gI 6] X M (fun M8 => (k M8)))) ∧ (¬ x10 = 0 → (cV l G y_GM_push (gRm d) true [gR G o, gI 1, gL x6] X M (fun M9 => (k M9)))))) ∧ (x1 = 37 → (cV l G y_GM_push (gRm d) true [gR G o, gI 1, gL x8] X M (fun M11 => (k M11)))))) ∧ (x1 = 35 → (cV l G y_GM_fault (gRm d) true [gR G o, gI 7] X M (fun M13 => (k M13)))))))) ∧ (¬ M o 59 < x11 → (g32 (M o 56) → (wp l G y_GM_search (gRm (d + 1)) true (kkV X k) true 53 [.val (gR G o), .val (gI x1), .val (gI x2), .val (gI x3), .val (gL x4), .unset, .val (gL x6), .unset, .val (gL x8), .unset, .val (gI x10), .val (gI x11), .val (gI (M o 56)), .unset] [] X M 0 0))))) : wp l G y_GM_search (gRm (d + 1)) true (kkV X k) true 38 [.val (gR G o), .val (gI x1), .val (gI x2), .val (gI x3), .val (gL x4), .unset, .val (gL x6), .unset, .val (gL x8), .unset, .val (gI x10), .val (gI x11), .unset, .unset] [] X M 0 0 := by
  refine wp_iload d_GM_search_38 rfl ?_
  refine wp_aload_n d_GM_search_40 rfl rfl (g_nz hX.1) ?_
  refine xgetI d_GM_search_41 gc_GM f_GM_421.1 f_GM_421.2.1 f_GM_421.2.2.1 hX.1 (gm_o2 hX) hX.2.2.1 f_GM_421.2.2.2.2.1 (fun h6 => ?_)
  have T := T h6
  refine xi_gt (tgt := 222) d_GM_search_44 (by decide) (w32_id hx11) (w32_id h6) (fun h17 => ?_) (fun h17 => ?_)
  · have T := T.1 h17
    refine wp_iload_n d_GM_search_222 rfl rfl ?_
    refine wp_bipush d_GM_search_223 ⟨by decide, by decide⟩ ?_
    refine xi_eq (tgt := 234) d_GM_search_225 (by decide) (w32_id hx1) (w32_id (g32_c (x := 34) rfl)) (fun h15 => ?_) (fun h15 => ?_)
    · have T := T.1 h15
      refine wp_aload_n d_GM_search_234 rfl rfl (g_nz hX.1) ?_
      refine wp_bipush d_GM_search_235 ⟨by decide, by decide⟩ ?_
      refine xcV_V (md' := true) (As := [gI 7]) (st := []) d_GM_search_237 ca_GM_fault ml_GM_314 im_GM_fault se_GM_fault gc_GM hX.1 (gm_o2 hX) hX.2.2.1 rfl (by decide) (by decide) rfl (fun _ => rfl) (fun _ => rfl) T (fun M7 T => ?_)
      refine wp_goto (tgt := 280) d_GM_search_240 (by decide) ?_
      exact wp_return d_GM_search_280 rfl (fun _ => rfl) (Nat.zero_le _) (Nat.zero_le _) (kV_mk T)
    · have T := T.2 h15
      refine wp_iload_n d_GM_search_228 rfl rfl ?_
      refine wp_bipush d_GM_search_229 ⟨by decide, by decide⟩ ?_
      refine xi_ne (tgt := 243) d_GM_search_231 (by decide) (w32_id hx1) (w32_id (g32_c (x := 35) rfl)) (fun h14 => ?_) (fun h14 => ?_)
      · have T := T.1 h14
        refine wp_iload_n d_GM_search_243 rfl rfl ?_
        refine wp_bipush d_GM_search_244 ⟨by decide, by decide⟩ ?_
        refine xi_ne (tgt := 259) d_GM_search_246 (by decide) (w32_id hx1) (w32_id (g32_c (x := 37) rfl)) (fun h12 => ?_) (fun h12 => ?_)
        · have T := T.1 h12
          refine wp_iload d_GM_search_259 rfl ?_
          refine xz_eq (tgt := 274) d_GM_search_261 (by decide) (w32_id hx10) (fun h10 => ?_) (fun h10 => ?_)
          · have T := T.1 h10
            refine wp_aload_n d_GM_search_274 rfl rfl (g_nz hX.1) ?_
            refine wp_bipush d_GM_search_275 ⟨by decide, by decide⟩ ?_
            refine xcV_V (md' := true) (As := [gI 6]) (st := []) d_GM_search_277 ca_GM_fault ml_GM_314 im_GM_fault se_GM_fault gc_GM hX.1 (gm_o2 hX) hX.2.2.1 rfl (by decide) (by decide) rfl (fun _ => rfl) (fun _ => rfl) T (fun M8 T => ?_)
            exact wp_return d_GM_search_280 rfl (fun _ => rfl) (Nat.zero_le _) (Nat.zero_le _) (kV_mk T)
          · have T := T.2 h10
            refine wp_aload_n d_GM_search_264 rfl rfl (g_nz hX.1) ?_
            refine wp_iconst d_GM_search_265 ?_
            refine wp_lload d_GM_search_266 rfl ?_
            refine xcV_V (md' := true) (As := [gI 1, gL x6]) (st := []) d_GM_search_268 ca_GM_push ml_GM_307 im_GM_push se_GM_push gc_GM hX.1 (gm_o2 hX) hX.2.2.1 rfl (by decide) (by decide) rfl (fun _ => rfl) (fun _ => rfl) T (fun M9 T => ?_)
            refine wp_goto (tgt := 280) d_GM_search_271 (by decide) ?_
            exact wp_return d_GM_search_280 rfl (fun _ => rfl) (Nat.zero_le _) (Nat.zero_le _) (kV_mk T)
        · have T := T.2 h12
          refine wp_aload_n d_GM_search_249 rfl rfl (g_nz hX.1) ?_
          refine wp_iconst d_GM_search_250 ?_
          refine wp_lload d_GM_search_251 rfl ?_
          refine xcV_V (md' := true) (As := [gI 1, gL x8]) (st := []) d_GM_search_253 ca_GM_push ml_GM_307 im_GM_push se_GM_push gc_GM hX.1 (gm_o2 hX) hX.2.2.1 rfl (by decide) (by decide) rfl (fun _ => rfl) (fun _ => rfl) T (fun M11 T => ?_)
          refine wp_goto (tgt := 280) d_GM_search_256 (by decide) ?_
          exact wp_return d_GM_search_280 rfl (fun _ => rfl) (Nat.zero_le _) (Nat.zero_le _) (kV_mk T)
      · have T := T.2 h14
        refine wp_aload_n d_GM_search_234 rfl rfl (g_nz hX.1) ?_
        refine wp_bipush d_GM_search_235 ⟨by decide, by decide⟩ ?_
        refine xcV_V (md' := true) (As := [gI 7]) (st := []) d_GM_search_237 ca_GM_fault ml_GM_314 im_GM_fault se_GM_fault gc_GM hX.1 (gm_o2 hX) hX.2.2.1 rfl (by decide) (by decide) rfl (fun _ => rfl) (fun _ => rfl) T (fun M13 T => ?_)
        refine wp_goto (tgt := 280) d_GM_search_240 (by decide) ?_
        exact wp_return d_GM_search_280 rfl (fun _ => rfl) (Nat.zero_le _) (Nat.zero_le _) (kV_mk T)
  · have T := T.2 h17
    refine wp_aload_n d_GM_search_47 rfl rfl (g_nz hX.1) ?_
    refine xgetI d_GM_search_48 gc_GM f_GM_412.1 f_GM_412.2.1 f_GM_412.2.2.1 hX.1 (gm_o2 hX) hX.2.2.1 f_GM_412.2.2.2.2.1 (fun h16 => ?_)
    have T := T h16
    refine wp_istore (L' := [.val (gR G o), .val (gI x1), .val (gI x2), .val (gI x3), .val (gL x4), .unset, .val (gL x6), .unset, .val (gL x8), .unset, .val (gI x10), .val (gI x11), .val (gI (M o 56)), .unset]) d_GM_search_51 (by decide) rfl ?_
    exact wp_md (wpt T (And.intro rfl (And.intro rfl (And.intro rfl (And.intro rfl (And.intro rfl (And.intro rfl (And.intro rfl (And.intro rfl (And.intro rfl (And.intro rfl True.intro)))))))))))
set_option maxHeartbeats 4000000 in
theorem w_GM_search_53 {l : Launch} {G : gG} {d : Nat} {X : gX} {M : gM} {k : gM → Prop} {o : Nat} (hX : gmX X o) {x1 : Int} (hx1 : g32 x1) {x2 : Int} (hx2 : g32 x2) {x3 : Int} (hx3 : g32 x3) {x4 : Int} (hx4 : g64 x4) {x6 : Int} (hx6 : g64 x6) {x8 : Int} (hx8 : g64 x8) {x10 : Int} (hx10 : g32 x10) {x11 : Int} (hx11 : g32 x11) {x12 : Int} (hx12 : g32 x12) (T : g32 (M o 58) → ((M o 58 < x12 → (wp l G y_GM_search (gRm (d + 1)) true (kkV X k) true 38 [.val (gR G o), .val (gI x1), .val (gI x2), .val (gI x3), .val (gL x4), .unset, .val (gL x6), .unset, .val (gL x8), .unset, .val (gI x10), .val (gI (w32 (x11 + 1))), .unset, .unset] [] X M 0 0)) ∧ (¬ M o 58 < x12 → ((¬ x1 = 35 → (wp l G y_GM_search (gRm (d + 1)) true (kkV X k) true 86 [.val (gR G o), .val (gI x1), .val (gI x2), .val (gI x3), .val (gL (w64 (x4 + 1))), .unset, .val (gL x6), .unset, .val (gL x8), .unset, .val (gI x10), .val (gI x11), .val (gI x12), .unset] [] X M 0 0)) ∧ (x1 = 35 → (g32 (M o 56) → ((x12 ≤ M o 56 → (wp l G y_GM_search (gRm (d + 1)) true (kkV X k) true 86 [.val (gR G o), .val (gI x1), .val (gI x2), .val (gI x3), .val (gL (w64 (x4 + 1))), .unset, .val (gL x6), .unset, .val (gL x8), .unset, .val (gI x10), .val (gI x11), .val (gI x12), .unset] [] X M 0 0)) ∧ (¬ x12 ≤ M o 56 → (wp l G y_GM_search (gRm (d + 1)) true (kkV X k) true 53 [.val (gR G o), .val (gI x1), .val (gI x2), .val (gI x3), .val (gL (w64 (x4 + 1))), .unset, .val (gL x6), .unset, .val (gL x8), .unset, .val (gI x10), .val (gI x11), .val (gI (w32 (x12 + 1))), .unset] [] X M 0 0))))))))) : wp l G y_GM_search (gRm (d + 1)) true (kkV X k) true 53 [.val (gR G o), .val (gI x1), .val (gI x2), .val (gI x3), .val (gL x4), .unset, .val (gL x6), .unset, .val (gL x8), .unset, .val (gI x10), .val (gI x11), .val (gI x12), .unset] [] X M 0 0 := by
  refine wp_iload d_GM_search_53 rfl ?_
  refine wp_aload_n d_GM_search_55 rfl rfl (g_nz hX.1) ?_
  refine xgetI d_GM_search_56 gc_GM f_GM_415.1 f_GM_415.2.1 f_GM_415.2.2.1 hX.1 (gm_o2 hX) hX.2.2.1 f_GM_415.2.2.2.2.1 (fun h18 => ?_)
  have T := T h18
  refine xi_gt (tgt := 216) d_GM_search_59 (by decide) (w32_id hx12) (w32_id h18) (fun h22 => ?_) (fun h22 => ?_)
  · have T := T.1 h22
    refine wp_iinc (L' := [.val (gR G o), .val (gI x1), .val (gI x2), .val (gI x3), .val (gL x4), .unset, .val (gL x6), .unset, .val (gL x8), .unset, .val (gI x10), .val (gI (x11 + 1)), .val (gI x12), .unset]) d_GM_search_216 rfl (by decide) rfl ?_
    refine wp_goto (tgt := 38) d_GM_search_219 (by decide) ?_
    exact wp_md (wpt T (And.intro rfl (And.intro rfl (And.intro rfl (And.intro rfl (And.intro rfl (And.intro rfl (And.intro rfl (And.intro rfl (And.intro (gI_w _) True.intro))))))))))
  · have T := T.2 h22
    refine wp_lload d_GM_search_62 rfl ?_
    refine wp_lconst1 d_GM_search_64 ?_
    refine wp_ladd d_GM_search_65 ?_
    refine wp_lstore (L' := [.val (gR G o), .val (gI x1), .val (gI x2), .val (gI x3), .val (gL (x4 + 1)), .unset, .val (gL x6), .unset, .val (gL x8), .unset, .val (gI x10), .val (gI x11), .val (gI x12), .unset]) d_GM_search_66 (by decide) rfl ?_
    refine wp_iload_n d_GM_search_68 rfl rfl ?_
    refine wp_bipush d_GM_search_69 ⟨by decide, by decide⟩ ?_
    refine xi_ne (tgt := 86) d_GM_search_71 (by decide) (w32_id hx1) (w32_id (g32_c (x := 35) rfl)) (fun h21 => ?_) (fun h21 => ?_)
    · have T := T.1 h21
      exact wp_md (wpt T (And.intro rfl (And.intro rfl (And.intro rfl (And.intro rfl (And.intro (gL_w _) (And.intro rfl (And.intro rfl (And.intro rfl (And.intro rfl (And.intro rfl True.intro)))))))))))
    · have T := T.2 h21
      refine wp_iload d_GM_search_74 rfl ?_
      refine wp_aload_n d_GM_search_76 rfl rfl (g_nz hX.1) ?_
      refine xgetI d_GM_search_77 gc_GM f_GM_412.1 f_GM_412.2.1 f_GM_412.2.2.1 hX.1 (gm_o2 hX) hX.2.2.1 f_GM_412.2.2.2.2.1 (fun h19 => ?_)
      have T := T h19
      refine xi_le (tgt := 86) d_GM_search_80 (by decide) (w32_id hx12) (w32_id h19) (fun h20 => ?_) (fun h20 => ?_)
      · have T := T.1 h20
        exact wp_md (wpt T (And.intro rfl (And.intro rfl (And.intro rfl (And.intro rfl (And.intro (gL_w _) (And.intro rfl (And.intro rfl (And.intro rfl (And.intro rfl (And.intro rfl True.intro)))))))))))
      · have T := T.2 h20
        refine wp_goto (tgt := 210) d_GM_search_83 (by decide) ?_
        refine wp_iinc (L' := [.val (gR G o), .val (gI x1), .val (gI x2), .val (gI x3), .val (gL (x4 + 1)), .unset, .val (gL x6), .unset, .val (gL x8), .unset, .val (gI x10), .val (gI x11), .val (gI (x12 + 1)), .unset]) d_GM_search_210 rfl (by decide) rfl ?_
        refine wp_goto (tgt := 53) d_GM_search_213 (by decide) ?_
        exact wp_md (wpt T (And.intro rfl (And.intro rfl (And.intro rfl (And.intro rfl (And.intro (gL_w _) (And.intro rfl (And.intro rfl (And.intro rfl (And.intro rfl (And.intro (gI_w _) True.intro)))))))))))
set_option maxHeartbeats 4000000 in
theorem w_GM_search_86 {l : Launch} {G : gG} {d : Nat} {X : gX} {M : gM} {k : gM → Prop} {o : Nat} (hX : gmX X o) {x1 : Int} (hx1 : g32 x1) {x2 : Int} (hx2 : g32 x2) {x3 : Int} (hx3 : g32 x3) {x4 : Int} (hx4 : g64 x4) {x6 : Int} (hx6 : g64 x6) {x8 : Int} (hx8 : g64 x8) {x10 : Int} (hx10 : g32 x10) {x11 : Int} (hx11 : g32 x11) {x12 : Int} (hx12 : g32 x12) (T : cZ l G y_GM_same (gRm d) true [gR G o, gI (x12 + (26 * x11)), gI x3] X M (fun v24 M23 => ((¬ v24 = 0 → ((¬ x1 = 34 → ((¬ x1 = 35 → (((0 : Int) ≤ x12 + (26 * x11) ∧ x12 + (26 * x11) < 5200) ∧ (g32 (M23 (o + 26) (Int.toNat (x12 + (26 * x11)))) → ((¬ M23 (o + 26) (Int.toNat (x12 + (26 * x11))) = 1 → (wp l G y_GM_search (gRm (d + 1)) true (kkV X k) true 53 [.val (gR G o), .val (gI x1), .val (gI x2), .val (gI x3), .val (gL x4), .unset, .val (gL x6), .unset, .val (gL (w64 (x8 + 1))), .unset, .val (gI x10), .val (gI x11), .val (gI (w32 (x12 + 1))), .unset] [] X M23 0 0)) ∧ (M23 (o + 26) (Int.toNat (x12 + (26 * x11))) = 1 → ((x10 = 0 → (((0 : Int) = 0 → (wp l G y_GM_search (gRm (d + 1)) true (kkV X k) true 53 [.val (gR G o), .val (gI x1), .val (gI x2), .val (gI x3), .val (gL x4), .unset, .val (gL x6), .unset, .val (gL (w64 (x8 + 1))), .unset, .val (gI 0), .val (gI x11), .val (gI (w32 (x12 + 1))), .unset] [] X M23 0 0)) ∧ (¬ (0 : Int) = 0 → (g64 (M23 o 54) → (wp l G y_GM_search (gRm (d + 1)) true (kkV X k) true 53 [.val (gR G o), .val (gI x1), .val (gI x2), .val (gI x3), .val (gL x4), .unset, .val (gL (M23 o 54)), .unset, .val (gL (w64 (x8 + 1))), .unset, .val (gI 0), .val (gI x11), .val (gI (w32 (x12 + 1))), .unset] [] X M23 0 0))))) ∧ (¬ x10 = 0 → (((0 : Int) ≤ x12 + (26 * x11) ∧ x12 + (26 * x11) < 5200) ∧ (g64 (M23 (o + 30) (Int.toNat (x12 + (26 * x11)))) → (cZ l G y_GM_reckon (gRm d) true [gR G o, gI 43, gL x6, gL (M23 (o + 30) (Int.toNat (x12 + (26 * x11))))] X M23 (fun v31 M30 => ((v31 = 0 → (((0 : Int) = 0 → (wp l G y_GM_search (gRm (d + 1)) true (kkV X k) true 53 [.val (gR G o), .val (gI x1), .val (gI x2), .val (gI x3), .val (gL x4), .unset, .val (gL x6), .unset, .val (gL (w64 (x8 + 1))), .unset, .val (gI 0), .val (gI x11), .val (gI (w32 (x12 + 1))), .unset] [] X M30 0 0)) ∧ (¬ (0 : Int) = 0 → (g64 (M30 o 54) → (wp l G y_GM_search (gRm (d + 1)) true (kkV X k) true 53 [.val (gR G o), .val (gI x1), .val (gI x2), .val (gI x3), .val (gL x4), .unset, .val (gL (M30 o 54)), .unset, .val (gL (w64 (x8 + 1))), .unset, .val (gI 0), .val (gI x11), .val (gI (w32 (x12 + 1))), .unset] [] X M30 0 0))))) ∧ (¬ v31 = 0 → (((1 : Int) = 0 → (wp l G y_GM_search (gRm (d + 1)) true (kkV X k) true 53 [.val (gR G o), .val (gI x1), .val (gI x2), .val (gI x3), .val (gL x4), .unset, .val (gL x6), .unset, .val (gL (w64 (x8 + 1))), .unset, .val (gI 1), .val (gI x11), .val (gI (w32 (x12 + 1))), .unset] [] X M30 0 0)) ∧ (¬ (1 : Int) = 0 → (g64 (M30 o 54) → (wp l G y_GM_search (gRm (d + 1)) true (kkV X k) true 53 [.val (gR G o), .val (gI x1), .val (gI x2), .val (gI x3), .val (gL x4), .unset, .val (gL (M30 o 54)), .unset, .val (gL (w64 (x8 + 1))), .unset, .val (gI 1), .val (gI x11), .val (gI (w32 (x12 + 1))), .unset] [] X M30 0 0))))))))))))))))) ∧ (x1 = 35 → (g32 (M23 o 57) → (((0 : Int) ≤ x2 + 2 ∧ x2 + 2 < 1200) ∧ (g64 (M23 (o + 36) (Int.toNat (x2 + 2))) → (cV l G y_GM_at (gRm d) true [gR G o, gL (w32 ((x11 - (M23 o 57)) + 1)), gL (M23 (o + 36) (Int.toNat (x2 + 2)))] X M23 (fun M42 => (k M42))))))))) ∧ (x1 = 34 → (cV l G y_GM_push (gRm d) true [gR G o, gI 1, gL x4] X M23 (fun M44 => (k M44)))))) ∧ (v24 = 0 → (wp l G y_GM_search (gRm (d + 1)) true (kkV X k) true 53 [.val (gR G o), .val (gI x1), .val (gI x2), .val (gI x3), .val (gL x4), .unset, .val (gL x6), .unset, .val (gL x8), .unset, .val (gI x10), .val (gI x11), .val (gI (w32 (x12 + 1))), .unset] [] X M23 0 0))))) : wp l G y_GM_search (gRm (d + 1)) true (kkV X k) true 86 [.val (gR G o), .val (gI x1), .val (gI x2), .val (gI x3), .val (gL x4), .unset, .val (gL x6), .unset, .val (gL x8), .unset, .val (gI x10), .val (gI x11), .val (gI x12), .unset] [] X M 0 0 := by
  refine wp_iload d_GM_search_86 rfl ?_
  refine wp_bipush d_GM_search_88 ⟨by decide, by decide⟩ ?_
  refine wp_iload d_GM_search_90 rfl ?_
  refine wp_imul d_GM_search_92 ?_
  refine wp_iadd d_GM_search_93 ?_
  refine wp_istore (L' := [.val (gR G o), .val (gI x1), .val (gI x2), .val (gI x3), .val (gL x4), .unset, .val (gL x6), .unset, .val (gL x8), .unset, .val (gI x10), .val (gI x11), .val (gI x12), .val (gI (x12 + (26 * x11)))]) d_GM_search_94 (by decide) rfl ?_
  refine wp_aload_n d_GM_search_96 rfl rfl (g_nz hX.1) ?_
  refine wp_iload d_GM_search_97 rfl ?_
  refine wp_iload_n d_GM_search_99 rfl rfl ?_
  refine xcV_Z (md' := true) (As := [gI (x12 + (26 * x11)), gI x3]) (st := []) d_GM_search_100 ca_GM_same ml_GM_472 im_GM_same se_GM_same gc_GM hX.1 (gm_o2 hX) hX.2.2.1 rfl (by decide) (by decide) rfl (fun _ => rfl) (fun _ => rfl) T (fun v24 M23 h25 T => ?_)
  refine xz_ne (tgt := 109) d_GM_search_103 (by decide) (w32_id (g32_z h25)) (fun h46 => ?_) (fun h46 => ?_)
  · have T := T.1 h46
    refine wp_lload d_GM_search_109 rfl ?_
    refine wp_lconst1 d_GM_search_111 ?_
    refine wp_ladd d_GM_search_112 ?_
    refine wp_lstore (L' := [.val (gR G o), .val (gI x1), .val (gI x2), .val (gI x3), .val (gL x4), .unset, .val (gL x6), .unset, .val (gL (x8 + 1)), .unset, .val (gI x10), .val (gI x11), .val (gI x12), .val (gI (x12 + (26 * x11)))]) d_GM_search_113 (by decide) rfl ?_
    refine wp_iload_n d_GM_search_115 rfl rfl ?_
    refine wp_bipush d_GM_search_116 ⟨by decide, by decide⟩ ?_
    refine xi_ne (tgt := 129) d_GM_search_118 (by decide) (w32_id hx1) (w32_id (g32_c (x := 34) rfl)) (fun h45 => ?_) (fun h45 => ?_)
    · have T := T.1 h45
      refine wp_iload_n d_GM_search_129 rfl rfl ?_
      refine wp_bipush d_GM_search_130 ⟨by decide, by decide⟩ ?_
      refine xi_ne (tgt := 158) d_GM_search_132 (by decide) (w32_id hx1) (w32_id (g32_c (x := 35) rfl)) (fun h43 => ?_) (fun h43 => ?_)
      · have T := T.1 h43
        refine wp_aload_n d_GM_search_158 rfl rfl (g_nz hX.1) ?_
        refine xgetR d_GM_search_159 gc_GM f_GM_91.1 f_GM_91.2.1 f_GM_91.2.2.1 hX.1 (gm_o2 hX) hX.2.2.1 f_GM_91.2.2.2.2.1 (gm_row hX 25 rfl).1 ?_
        refine wp_iload d_GM_search_162 rfl ?_
        refine wp_iaload d_GM_search_164 (gm_row hX 25 rfl).2.2.1 (gm_row hX 25 rfl).2.2.2 (gm_row hX 25 rfl).2.1 (g32_n T.1 (by decide)) T.1.1 T.1.2 (fun h26 => ?_)
        have T := T.2 h26
        refine wp_iconst d_GM_search_165 ?_
        refine xi_ne (tgt := 210) d_GM_search_166 (by decide) (w32_id h26) (w32_id (g32_c (x := 1) rfl)) (fun h39 => ?_) (fun h39 => ?_)
        · have T := T.1 h39
          refine wp_iinc (L' := [.val (gR G o), .val (gI x1), .val (gI x2), .val (gI x3), .val (gL x4), .unset, .val (gL x6), .unset, .val (gL (x8 + 1)), .unset, .val (gI x10), .val (gI x11), .val (gI (x12 + 1)), .val (gI (x12 + (26 * x11)))]) d_GM_search_210 rfl (by decide) rfl ?_
          refine wp_goto (tgt := 53) d_GM_search_213 (by decide) ?_
          exact wp_md (wpt T (And.intro rfl (And.intro rfl (And.intro rfl (And.intro rfl (And.intro rfl (And.intro rfl (And.intro (gL_w _) (And.intro rfl (And.intro rfl (And.intro (gI_w _) True.intro)))))))))))
        · have T := T.2 h39
          refine wp_iload d_GM_search_169 rfl ?_
          refine xz_eq (tgt := 196) d_GM_search_171 (by decide) (w32_id hx10) (fun h38 => ?_) (fun h38 => ?_)
          · have T := T.1 h38
            refine wp_iconst d_GM_search_196 ?_
            refine wp_istore (L' := [.val (gR G o), .val (gI x1), .val (gI x2), .val (gI x3), .val (gL x4), .unset, .val (gL x6), .unset, .val (gL (x8 + 1)), .unset, .val (gI 0), .val (gI x11), .val (gI x12), .val (gI (x12 + (26 * x11)))]) d_GM_search_197 (by decide) rfl ?_
            refine wp_iload d_GM_search_199 rfl ?_
            refine xz_eq (tgt := 210) d_GM_search_201 (by decide) (w32_id (g32_c (x := 0) rfl)) (fun h28 => ?_) (fun h28 => ?_)
            · have T := T.1 h28
              refine wp_iinc (L' := [.val (gR G o), .val (gI x1), .val (gI x2), .val (gI x3), .val (gL x4), .unset, .val (gL x6), .unset, .val (gL (x8 + 1)), .unset, .val (gI 0), .val (gI x11), .val (gI (x12 + 1)), .val (gI (x12 + (26 * x11)))]) d_GM_search_210 rfl (by decide) rfl ?_
              refine wp_goto (tgt := 53) d_GM_search_213 (by decide) ?_
              exact wp_md (wpt T (And.intro rfl (And.intro rfl (And.intro rfl (And.intro rfl (And.intro rfl (And.intro rfl (And.intro (gL_w _) (And.intro rfl (And.intro rfl (And.intro (gI_w _) True.intro)))))))))))
            · have T := T.2 h28
              refine wp_aload_n d_GM_search_204 rfl rfl (g_nz hX.1) ?_
              refine xgetJ d_GM_search_205 gc_GM f_GM_324.1 f_GM_324.2.1 f_GM_324.2.2.1 hX.1 (gm_o2 hX) hX.2.2.1 f_GM_324.2.2.2.2.1 (fun h27 => ?_)
              have T := T h27
              refine wp_lstore (L' := [.val (gR G o), .val (gI x1), .val (gI x2), .val (gI x3), .val (gL x4), .unset, .val (gL (M23 o 54)), .unset, .val (gL (x8 + 1)), .unset, .val (gI 0), .val (gI x11), .val (gI x12), .val (gI (x12 + (26 * x11)))]) d_GM_search_208 (by decide) rfl ?_
              refine wp_iinc (L' := [.val (gR G o), .val (gI x1), .val (gI x2), .val (gI x3), .val (gL x4), .unset, .val (gL (M23 o 54)), .unset, .val (gL (x8 + 1)), .unset, .val (gI 0), .val (gI x11), .val (gI (x12 + 1)), .val (gI (x12 + (26 * x11)))]) d_GM_search_210 rfl (by decide) rfl ?_
              refine wp_goto (tgt := 53) d_GM_search_213 (by decide) ?_
              exact wp_md (wpt T (And.intro rfl (And.intro rfl (And.intro rfl (And.intro rfl (And.intro rfl (And.intro rfl (And.intro (gL_w _) (And.intro rfl (And.intro rfl (And.intro (gI_w _) True.intro)))))))))))
          · have T := T.2 h38
            refine wp_aload_n d_GM_search_174 rfl rfl (g_nz hX.1) ?_
            refine wp_bipush d_GM_search_175 ⟨by decide, by decide⟩ ?_
            refine wp_lload d_GM_search_177 rfl ?_
            refine wp_aload_n d_GM_search_179 rfl rfl (g_nz hX.1) ?_
            refine xgetR d_GM_search_180 gc_GM f_GM_103.1 f_GM_103.2.1 f_GM_103.2.2.1 hX.1 (gm_o2 hX) hX.2.2.1 f_GM_103.2.2.2.2.1 (gm_row hX 29 rfl).1 ?_
            refine wp_iload d_GM_search_183 rfl ?_
            refine wp_laload d_GM_search_185 (gm_row hX 29 rfl).2.2.1 (gm_row hX 29 rfl).2.2.2 (gm_row hX 29 rfl).2.1 (g32_n T.1 (by decide)) T.1.1 T.1.2 (fun h29 => ?_)
            have T := T.2 h29
            refine xcV_Z (md' := true) (As := [gI 43, gL x6, gL (M23 (o + 30) (Int.toNat (x12 + (26 * x11))))]) (st := []) d_GM_search_186 ca_GM_reckon ml_GM_331 im_GM_reckon se_GM_reckon gc_GM hX.1 (gm_o2 hX) hX.2.2.1 rfl (by decide) (by decide) rfl (fun _ => rfl) (fun _ => rfl) T (fun v31 M30 h32 T => ?_)
            refine xz_eq (tgt := 196) d_GM_search_189 (by decide) (w32_id (g32_z h32)) (fun h37 => ?_) (fun h37 => ?_)
            · have T := T.1 h37
              refine wp_iconst d_GM_search_196 ?_
              refine wp_istore (L' := [.val (gR G o), .val (gI x1), .val (gI x2), .val (gI x3), .val (gL x4), .unset, .val (gL x6), .unset, .val (gL (x8 + 1)), .unset, .val (gI 0), .val (gI x11), .val (gI x12), .val (gI (x12 + (26 * x11)))]) d_GM_search_197 (by decide) rfl ?_
              refine wp_iload d_GM_search_199 rfl ?_
              refine xz_eq (tgt := 210) d_GM_search_201 (by decide) (w32_id (g32_c (x := 0) rfl)) (fun h34 => ?_) (fun h34 => ?_)
              · have T := T.1 h34
                refine wp_iinc (L' := [.val (gR G o), .val (gI x1), .val (gI x2), .val (gI x3), .val (gL x4), .unset, .val (gL x6), .unset, .val (gL (x8 + 1)), .unset, .val (gI 0), .val (gI x11), .val (gI (x12 + 1)), .val (gI (x12 + (26 * x11)))]) d_GM_search_210 rfl (by decide) rfl ?_
                refine wp_goto (tgt := 53) d_GM_search_213 (by decide) ?_
                exact wp_md (wpt T (And.intro rfl (And.intro rfl (And.intro rfl (And.intro rfl (And.intro rfl (And.intro rfl (And.intro (gL_w _) (And.intro rfl (And.intro rfl (And.intro (gI_w _) True.intro)))))))))))
              · have T := T.2 h34
                refine wp_aload_n d_GM_search_204 rfl rfl (g_nz hX.1) ?_
                refine xgetJ d_GM_search_205 gc_GM f_GM_324.1 f_GM_324.2.1 f_GM_324.2.2.1 hX.1 (gm_o2 hX) hX.2.2.1 f_GM_324.2.2.2.2.1 (fun h33 => ?_)
                have T := T h33
                refine wp_lstore (L' := [.val (gR G o), .val (gI x1), .val (gI x2), .val (gI x3), .val (gL x4), .unset, .val (gL (M30 o 54)), .unset, .val (gL (x8 + 1)), .unset, .val (gI 0), .val (gI x11), .val (gI x12), .val (gI (x12 + (26 * x11)))]) d_GM_search_208 (by decide) rfl ?_
                refine wp_iinc (L' := [.val (gR G o), .val (gI x1), .val (gI x2), .val (gI x3), .val (gL x4), .unset, .val (gL (M30 o 54)), .unset, .val (gL (x8 + 1)), .unset, .val (gI 0), .val (gI x11), .val (gI (x12 + 1)), .val (gI (x12 + (26 * x11)))]) d_GM_search_210 rfl (by decide) rfl ?_
                refine wp_goto (tgt := 53) d_GM_search_213 (by decide) ?_
                exact wp_md (wpt T (And.intro rfl (And.intro rfl (And.intro rfl (And.intro rfl (And.intro rfl (And.intro rfl (And.intro (gL_w _) (And.intro rfl (And.intro rfl (And.intro (gI_w _) True.intro)))))))))))
            · have T := T.2 h37
              refine wp_iconst d_GM_search_192 ?_
              refine wp_goto (tgt := 197) d_GM_search_193 (by decide) ?_
              refine wp_istore (L' := [.val (gR G o), .val (gI x1), .val (gI x2), .val (gI x3), .val (gL x4), .unset, .val (gL x6), .unset, .val (gL (x8 + 1)), .unset, .val (gI 1), .val (gI x11), .val (gI x12), .val (gI (x12 + (26 * x11)))]) d_GM_search_197 (by decide) rfl ?_
              refine wp_iload d_GM_search_199 rfl ?_
              refine xz_eq (tgt := 210) d_GM_search_201 (by decide) (w32_id (g32_c (x := 1) rfl)) (fun h36 => ?_) (fun h36 => ?_)
              · have T := T.1 h36
                refine wp_iinc (L' := [.val (gR G o), .val (gI x1), .val (gI x2), .val (gI x3), .val (gL x4), .unset, .val (gL x6), .unset, .val (gL (x8 + 1)), .unset, .val (gI 1), .val (gI x11), .val (gI (x12 + 1)), .val (gI (x12 + (26 * x11)))]) d_GM_search_210 rfl (by decide) rfl ?_
                refine wp_goto (tgt := 53) d_GM_search_213 (by decide) ?_
                exact wp_md (wpt T (And.intro rfl (And.intro rfl (And.intro rfl (And.intro rfl (And.intro rfl (And.intro rfl (And.intro (gL_w _) (And.intro rfl (And.intro rfl (And.intro (gI_w _) True.intro)))))))))))
              · have T := T.2 h36
                refine wp_aload_n d_GM_search_204 rfl rfl (g_nz hX.1) ?_
                refine xgetJ d_GM_search_205 gc_GM f_GM_324.1 f_GM_324.2.1 f_GM_324.2.2.1 hX.1 (gm_o2 hX) hX.2.2.1 f_GM_324.2.2.2.2.1 (fun h35 => ?_)
                have T := T h35
                refine wp_lstore (L' := [.val (gR G o), .val (gI x1), .val (gI x2), .val (gI x3), .val (gL x4), .unset, .val (gL (M30 o 54)), .unset, .val (gL (x8 + 1)), .unset, .val (gI 1), .val (gI x11), .val (gI x12), .val (gI (x12 + (26 * x11)))]) d_GM_search_208 (by decide) rfl ?_
                refine wp_iinc (L' := [.val (gR G o), .val (gI x1), .val (gI x2), .val (gI x3), .val (gL x4), .unset, .val (gL (M30 o 54)), .unset, .val (gL (x8 + 1)), .unset, .val (gI 1), .val (gI x11), .val (gI (x12 + 1)), .val (gI (x12 + (26 * x11)))]) d_GM_search_210 rfl (by decide) rfl ?_
                refine wp_goto (tgt := 53) d_GM_search_213 (by decide) ?_
                exact wp_md (wpt T (And.intro rfl (And.intro rfl (And.intro rfl (And.intro rfl (And.intro rfl (And.intro rfl (And.intro (gL_w _) (And.intro rfl (And.intro rfl (And.intro (gI_w _) True.intro)))))))))))
      · have T := T.2 h43
        refine wp_aload_n d_GM_search_135 rfl rfl (g_nz hX.1) ?_
        refine wp_iload d_GM_search_136 rfl ?_
        refine wp_aload_n d_GM_search_138 rfl rfl (g_nz hX.1) ?_
        refine xgetI d_GM_search_139 gc_GM f_GM_418.1 f_GM_418.2.1 f_GM_418.2.2.1 hX.1 (gm_o2 hX) hX.2.2.1 f_GM_418.2.2.2.2.1 (fun h40 => ?_)
        have T := T h40
        refine wp_isub d_GM_search_142 ?_
        refine wp_iconst d_GM_search_143 ?_
        refine wp_iadd d_GM_search_144 ?_
        refine xi2l d_GM_search_145 rfl ?_
        refine wp_aload_n d_GM_search_146 rfl rfl (g_nz hX.1) ?_
        refine xgetR d_GM_search_147 gc_GM f_GM_122.1 f_GM_122.2.1 f_GM_122.2.2.1 hX.1 (gm_o2 hX) hX.2.2.1 f_GM_122.2.2.2.2.1 (gm_row hX 35 rfl).1 ?_
        refine wp_iload_n d_GM_search_150 rfl rfl ?_
        refine wp_iconst d_GM_search_151 ?_
        refine wp_iadd d_GM_search_152 ?_
        refine wp_laload d_GM_search_153 (gm_row hX 35 rfl).2.2.1 (gm_row hX 35 rfl).2.2.2 (gm_row hX 35 rfl).2.1 (g32_n T.1 (by decide)) T.1.1 T.1.2 (fun h41 => ?_)
        have T := T.2 h41
        refine xcV_V (md' := true) (As := [gL (w32 ((x11 - (M23 o 57)) + 1)), gL (M23 (o + 36) (Int.toNat (x2 + 2)))]) (st := []) d_GM_search_154 ca_GM_at ml_GM_443 im_GM_at se_GM_at gc_GM hX.1 (gm_o2 hX) hX.2.2.1 rfl (by decide) (by decide) rfl (fun _ => rfl) (fun _ => rfl) T (fun M42 T => ?_)
        exact wp_return d_GM_search_157 rfl (fun _ => rfl) (Nat.zero_le _) (Nat.zero_le _) (kV_mk T)
    · have T := T.2 h45
      refine wp_aload_n d_GM_search_121 rfl rfl (g_nz hX.1) ?_
      refine wp_iconst d_GM_search_122 ?_
      refine wp_lload d_GM_search_123 rfl ?_
      refine xcV_V (md' := true) (As := [gI 1, gL x4]) (st := []) d_GM_search_125 ca_GM_push ml_GM_307 im_GM_push se_GM_push gc_GM hX.1 (gm_o2 hX) hX.2.2.1 rfl (by decide) (by decide) rfl (fun _ => rfl) (fun _ => rfl) T (fun M44 T => ?_)
      exact wp_return d_GM_search_128 rfl (fun _ => rfl) (Nat.zero_le _) (Nat.zero_le _) (kV_mk T)
  · have T := T.2 h46
    refine wp_goto (tgt := 210) d_GM_search_106 (by decide) ?_
    refine wp_iinc (L' := [.val (gR G o), .val (gI x1), .val (gI x2), .val (gI x3), .val (gL x4), .unset, .val (gL x6), .unset, .val (gL x8), .unset, .val (gI x10), .val (gI x11), .val (gI (x12 + 1)), .val (gI (x12 + (26 * x11)))]) d_GM_search_210 rfl (by decide) rfl ?_
    refine wp_goto (tgt := 53) d_GM_search_213 (by decide) ?_
    exact wp_md (wpt T (And.intro rfl (And.intro rfl (And.intro rfl (And.intro rfl (And.intro rfl (And.intro rfl (And.intro rfl (And.intro rfl (And.intro rfl (And.intro (gI_w _) True.intro)))))))))))
theorem e_GM_search {l : Launch} {G : gG} {d : Nat} {X : gX} {M : gM} {k : gM → Prop} {o : Nat} {x1 : Int} {x2 : Int} (T : wp l G y_GM_search (gRm (d + 1)) true (kkV X k) false 0 [.val (gR G o), .val (gI x1), .val (gI x2), .unset, .unset, .unset, .unset, .unset, .unset, .unset, .unset, .unset, .unset, .unset] [] X M 0 0) : cV l G y_GM_search (gRm (d + 1)) true [gR G o, gI x1, gI x2] X M k := cen_V (plainFor_of_name rfl) (by simp only [lg_sl_R, lg_sl_I, lg_sl_L, lg_sl_N, List.length_cons, List.length_nil]; decide) (by unfold gEn; simp only [lg_sl_R, lg_sl_I, lg_sl_L, lg_sl_N]; exact wpt T (And.intro rfl (And.intro rfl (And.intro rfl True.intro))))
theorem d_GM_reaches_0 : decode prog_15_method_70_code 0 = .ok (.aload_n 0, 1) := by decide +kernel
theorem d_GM_reaches_1 : decode prog_15_method_70_code 1 = .ok (.getfield 141, 3) := by decide +kernel
theorem d_GM_reaches_4 : decode prog_15_method_70_code 4 = .ok (.bipush 7, 2) := by decide +kernel
theorem d_GM_reaches_6 : decode prog_15_method_70_code 6 = .ok (.iload_n 1, 1) := by decide +kernel
theorem d_GM_reaches_7 : decode prog_15_method_70_code 7 = .ok (.imul, 1) := by decide +kernel
theorem d_GM_reaches_8 : decode prog_15_method_70_code 8 = .ok (.iload_n 2, 1) := by decide +kernel
theorem d_GM_reaches_9 : decode prog_15_method_70_code 9 = .ok (.bipush 6, 2) := by decide +kernel
theorem d_GM_reaches_11 : decode prog_15_method_70_code 11 = .ok (.ishr, 1) := by decide +kernel
theorem d_GM_reaches_12 : decode prog_15_method_70_code 12 = .ok (.iadd, 1) := by decide +kernel
theorem d_GM_reaches_13 : decode prog_15_method_70_code 13 = .ok (.laload, 1) := by decide +kernel
theorem d_GM_reaches_14 : decode prog_15_method_70_code 14 = .ok (.iload_n 2, 1) := by decide +kernel
theorem d_GM_reaches_15 : decode prog_15_method_70_code 15 = .ok (.bipush 63, 2) := by decide +kernel
theorem d_GM_reaches_17 : decode prog_15_method_70_code 17 = .ok (.iand, 1) := by decide +kernel
theorem d_GM_reaches_18 : decode prog_15_method_70_code 18 = .ok (.lushr, 1) := by decide +kernel
theorem d_GM_reaches_19 : decode prog_15_method_70_code 19 = .ok (.lconst 1, 1) := by decide +kernel
theorem d_GM_reaches_20 : decode prog_15_method_70_code 20 = .ok (.land, 1) := by decide +kernel
theorem d_GM_reaches_21 : decode prog_15_method_70_code 21 = .ok (.lconst 1, 1) := by decide +kernel
theorem d_GM_reaches_22 : decode prog_15_method_70_code 22 = .ok (.lcmp, 1) := by decide +kernel
theorem d_GM_reaches_23 : decode prog_15_method_70_code 23 = .ok (.ifCond .ne 7, 3) := by decide +kernel
theorem d_GM_reaches_30 : decode prog_15_method_70_code 30 = .ok (.iconst 0, 1) := by decide +kernel
theorem d_GM_reaches_31 : decode prog_15_method_70_code 31 = .ok (.ireturn, 1) := by decide +kernel
theorem d_GM_reaches_26 : decode prog_15_method_70_code 26 = .ok (.iconst 1, 1) := by decide +kernel
theorem d_GM_reaches_27 : decode prog_15_method_70_code 27 = .ok (.goto 4, 3) := by decide +kernel
set_option maxHeartbeats 4000000 in
theorem w_GM_reaches_0 {l : Launch} {G : gG} {d : Nat} {X : gX} {M : gM} {k : Int → gM → Prop} {o : Nat} (hX : gmX X o) {x1 : Int} (hx1 : g32 x1) {x2 : Int} (hx2 : g32 x2) (T : ((0 : Int) ≤ (7 * x1) + (gShr x2 6) ∧ (7 * x1) + (gShr x2 6) < 2800) ∧ (g64 (M (o + 42) (Int.toNat ((7 * x1) + (gShr x2 6)))) → ((¬ gLand (gLushr (M (o + 42) (Int.toNat ((7 * x1) + (gShr x2 6)))) (gAnd x2 63)) 1 = 1 → (k 0 M)) ∧ (gLand (gLushr (M (o + 42) (Int.toNat ((7 * x1) + (gShr x2 6)))) (gAnd x2 63)) 1 = 1 → (k 1 M))))) : wp l G y_GM_reaches (gRm d) false (kkZ X k) false 0 [.val (gR G o), .val (gI x1), .val (gI x2)] [] X M 0 0 := by
  refine wp_aload_n d_GM_reaches_0 rfl rfl (g_nz hX.1) ?_
  refine xgetR d_GM_reaches_1 gc_GM f_GM_141.1 f_GM_141.2.1 f_GM_141.2.2.1 hX.1 (gm_o2 hX) hX.2.2.1 f_GM_141.2.2.2.2.1 (gm_row hX 41 rfl).1 ?_
  refine wp_bipush d_GM_reaches_4 ⟨by decide, by decide⟩ ?_
  refine wp_iload_n d_GM_reaches_6 rfl rfl ?_
  refine wp_imul d_GM_reaches_7 ?_
  refine wp_iload_n d_GM_reaches_8 rfl rfl ?_
  refine wp_bipush d_GM_reaches_9 ⟨by decide, by decide⟩ ?_
  refine wp_ishr d_GM_reaches_11 ?_
  refine wp_iadd d_GM_reaches_12 ?_
  refine wp_laload d_GM_reaches_13 (gm_row hX 41 rfl).2.2.1 (gm_row hX 41 rfl).2.2.2 (gm_row hX 41 rfl).2.1 (g32_n T.1 (by decide)) T.1.1 T.1.2 (fun h1 => ?_)
  have T := T.2 h1
  refine wp_iload_n d_GM_reaches_14 rfl rfl ?_
  refine wp_bipush d_GM_reaches_15 ⟨by decide, by decide⟩ ?_
  refine wp_iand d_GM_reaches_17 ?_
  refine wp_lushr d_GM_reaches_18 ?_
  refine wp_lconst1 d_GM_reaches_19 ?_
  refine wp_land d_GM_reaches_20 ?_
  refine wp_lconst1 d_GM_reaches_21 ?_
  refine xl_ne (tgt := 30) d_GM_reaches_22 d_GM_reaches_23 (by decide) (w64_id (gLand_ok _ _)) (w64_id (g64_c (x := 1) rfl)) (fun h2 => ?_) (fun h2 => ?_)
  · have T := T.1 h2
    refine wp_iconst d_GM_reaches_30 ?_
    exact wp_zreturn d_GM_reaches_31 rfl (g_narz (⟨by decide, by decide⟩ : (0 : Int) ≤ 0 ∧ (0 : Int) ≤ 1)) id (Nat.zero_le _) (Nat.zero_le _) (kZ_mk (⟨by decide, by decide⟩ : (0 : Int) ≤ 0 ∧ (0 : Int) ≤ 1) T)
  · have T := T.2 h2
    refine wp_iconst d_GM_reaches_26 ?_
    refine wp_goto (tgt := 31) d_GM_reaches_27 (by decide) ?_
    exact wp_zreturn d_GM_reaches_31 rfl (g_narz (⟨by decide, by decide⟩ : (0 : Int) ≤ 1 ∧ (1 : Int) ≤ 1)) id (Nat.zero_le _) (Nat.zero_le _) (kZ_mk (⟨by decide, by decide⟩ : (0 : Int) ≤ 1 ∧ (1 : Int) ≤ 1) T)
theorem e_GM_reaches {l : Launch} {G : gG} {d : Nat} {X : gX} {M : gM} {k : Int → gM → Prop} {o : Nat} {x1 : Int} {x2 : Int} (T : wp l G y_GM_reaches (gRm d) false (kkZ X k) false 0 [.val (gR G o), .val (gI x1), .val (gI x2)] [] X M 0 0) : cZ l G y_GM_reaches (gRm d) false [gR G o, gI x1, gI x2] X M k := cen_Z (plainFor_of_name rfl) (by simp only [lg_sl_R, lg_sl_I, lg_sl_L, lg_sl_N, List.length_cons, List.length_nil]; decide) (by unfold gEn; simp only [lg_sl_R, lg_sl_I, lg_sl_L, lg_sl_N]; exact wpt T (And.intro rfl (And.intro rfl (And.intro rfl True.intro))))
theorem d_GM_reads_0 : decode prog_15_method_71_code 0 = .ok (.aload_n 0, 1) := by decide +kernel
theorem d_GM_reads_1 : decode prog_15_method_71_code 1 = .ok (.getfield 138, 3) := by decide +kernel
theorem d_GM_reads_4 : decode prog_15_method_71_code 4 = .ok (.iload_n 2, 1) := by decide +kernel
theorem d_GM_reads_5 : decode prog_15_method_71_code 5 = .ok (.iaload, 1) := by decide +kernel
theorem d_GM_reads_6 : decode prog_15_method_71_code 6 = .ok (.istore_n 3, 1) := by decide +kernel
theorem d_GM_reads_7 : decode prog_15_method_71_code 7 = .ok (.iload_n 3, 1) := by decide +kernel
theorem d_GM_reads_8 : decode prog_15_method_71_code 8 = .ok (.ifCond .lt 26, 3) := by decide +kernel
theorem d_GM_reads_34 : decode prog_15_method_71_code 34 = .ok (.return_, 1) := by decide +kernel
theorem d_GM_reads_11 : decode prog_15_method_71_code 11 = .ok (.aload_n 0, 1) := by decide +kernel
theorem d_GM_reads_12 : decode prog_15_method_71_code 12 = .ok (.getfield 141, 3) := by decide +kernel
theorem d_GM_reads_15 : decode prog_15_method_71_code 15 = .ok (.bipush 7, 2) := by decide +kernel
theorem d_GM_reads_17 : decode prog_15_method_71_code 17 = .ok (.iload_n 1, 1) := by decide +kernel
theorem d_GM_reads_18 : decode prog_15_method_71_code 18 = .ok (.imul, 1) := by decide +kernel
theorem d_GM_reads_19 : decode prog_15_method_71_code 19 = .ok (.iload_n 3, 1) := by decide +kernel
theorem d_GM_reads_20 : decode prog_15_method_71_code 20 = .ok (.bipush 6, 2) := by decide +kernel
theorem d_GM_reads_22 : decode prog_15_method_71_code 22 = .ok (.ishr, 1) := by decide +kernel
theorem d_GM_reads_23 : decode prog_15_method_71_code 23 = .ok (.iadd, 1) := by decide +kernel
theorem d_GM_reads_24 : decode prog_15_method_71_code 24 = .ok (.dup2, 1) := by decide +kernel
theorem d_GM_reads_25 : decode prog_15_method_71_code 25 = .ok (.laload, 1) := by decide +kernel
theorem d_GM_reads_26 : decode prog_15_method_71_code 26 = .ok (.lconst 1, 1) := by decide +kernel
theorem d_GM_reads_27 : decode prog_15_method_71_code 27 = .ok (.iload_n 3, 1) := by decide +kernel
theorem d_GM_reads_28 : decode prog_15_method_71_code 28 = .ok (.bipush 63, 2) := by decide +kernel
theorem d_GM_reads_30 : decode prog_15_method_71_code 30 = .ok (.iand, 1) := by decide +kernel
theorem d_GM_reads_31 : decode prog_15_method_71_code 31 = .ok (.lshl, 1) := by decide +kernel
theorem d_GM_reads_32 : decode prog_15_method_71_code 32 = .ok (.lor, 1) := by decide +kernel
theorem d_GM_reads_33 : decode prog_15_method_71_code 33 = .ok (.lastore, 1) := by decide +kernel
set_option maxHeartbeats 4000000 in
theorem w_GM_reads_0 {l : Launch} {G : gG} {d : Nat} {X : gX} {M : gM} {k : gM → Prop} {o : Nat} (hX : gmX X o) {x1 : Int} (hx1 : g32 x1) {x2 : Int} (hx2 : g32 x2) (T : ((0 : Int) ≤ x2 ∧ x2 < 5200) ∧ (g32 (M (o + 41) (Int.toNat x2)) → ((M (o + 41) (Int.toNat x2) < 0 → (k M)) ∧ (¬ M (o + 41) (Int.toNat x2) < 0 → (((0 : Int) ≤ (7 * x1) + (gShr (M (o + 41) (Int.toNat x2)) 6) ∧ (7 * x1) + (gShr (M (o + 41) (Int.toNat x2)) 6) < 2800) ∧ (g64 (M (o + 42) (Int.toNat ((7 * x1) + (gShr (M (o + 41) (Int.toNat x2)) 6)))) → (((0 : Int) ≤ (7 * x1) + (gShr (M (o + 41) (Int.toNat x2)) 6) ∧ (7 * x1) + (gShr (M (o + 41) (Int.toNat x2)) 6) < 2800) ∧ (k (gUp M (o + 42) (Int.toNat ((7 * x1) + (gShr (M (o + 41) (Int.toNat x2)) 6))) (gLor (M (o + 42) (Int.toNat ((7 * x1) + (gShr (M (o + 41) (Int.toNat x2)) 6)))) (gLshl 1 (gAnd (M (o + 41) (Int.toNat x2)) 63)))))))))))) : wp l G y_GM_reads (gRm d) true (kkV X k) false 0 [.val (gR G o), .val (gI x1), .val (gI x2), .unset] [] X M 0 0 := by
  refine wp_aload_n d_GM_reads_0 rfl rfl (g_nz hX.1) ?_
  refine xgetR d_GM_reads_1 gc_GM f_GM_138.1 f_GM_138.2.1 f_GM_138.2.2.1 hX.1 (gm_o2 hX) hX.2.2.1 f_GM_138.2.2.2.2.1 (gm_row hX 40 rfl).1 ?_
  refine wp_iload_n d_GM_reads_4 rfl rfl ?_
  refine wp_iaload d_GM_reads_5 (gm_row hX 40 rfl).2.2.1 (gm_row hX 40 rfl).2.2.2 (gm_row hX 40 rfl).2.1 (g32_n T.1 (by decide)) T.1.1 T.1.2 (fun h1 => ?_)
  have T := T.2 h1
  refine wp_istore_n (L' := [.val (gR G o), .val (gI x1), .val (gI x2), .val (gI (M (o + 41) (Int.toNat x2)))]) d_GM_reads_6 rfl (by decide) rfl ?_
  refine wp_iload_n d_GM_reads_7 rfl rfl ?_
  refine xz_lt (tgt := 34) d_GM_reads_8 (by decide) (w32_id h1) (fun h3 => ?_) (fun h3 => ?_)
  · have T := T.1 h3
    exact wp_return d_GM_reads_34 rfl (fun _ => rfl) (Nat.zero_le _) (Nat.zero_le _) (kV_mk T)
  · have T := T.2 h3
    refine wp_aload_n d_GM_reads_11 rfl rfl (g_nz hX.1) ?_
    refine xgetR d_GM_reads_12 gc_GM f_GM_141.1 f_GM_141.2.1 f_GM_141.2.2.1 hX.1 (gm_o2 hX) hX.2.2.1 f_GM_141.2.2.2.2.1 (gm_row hX 41 rfl).1 ?_
    refine wp_bipush d_GM_reads_15 ⟨by decide, by decide⟩ ?_
    refine wp_iload_n d_GM_reads_17 rfl rfl ?_
    refine wp_imul d_GM_reads_18 ?_
    refine wp_iload_n d_GM_reads_19 rfl rfl ?_
    refine wp_bipush d_GM_reads_20 ⟨by decide, by decide⟩ ?_
    refine wp_ishr d_GM_reads_22 ?_
    refine wp_iadd d_GM_reads_23 ?_
    refine wp_dup2 d_GM_reads_24 (gI_cat _) (gR_cat _) ?_
    refine wp_laload d_GM_reads_25 (gm_row hX 41 rfl).2.2.1 (gm_row hX 41 rfl).2.2.2 (gm_row hX 41 rfl).2.1 (g32_n T.1 (by decide)) T.1.1 T.1.2 (fun h2 => ?_)
    have T := T.2 h2
    refine wp_lconst1 d_GM_reads_26 ?_
    refine wp_iload_n d_GM_reads_27 rfl rfl ?_
    refine wp_bipush d_GM_reads_28 ⟨by decide, by decide⟩ ?_
    refine wp_iand d_GM_reads_30 ?_
    refine wp_lshl d_GM_reads_31 ?_
    refine wp_lor d_GM_reads_32 ?_
    refine xlast d_GM_reads_33 (gm_row hX 41 rfl).2.2.1 (gm_row hX 41 rfl).2.2.2 (gm_row hX 41 rfl).2.1 (by decide) T.1 (w64_id (gLor_ok _ _)) ?_
    have T := T.2
    exact wp_return d_GM_reads_34 rfl (fun _ => rfl) (Nat.zero_le _) (Nat.zero_le _) (kV_mk T)
theorem e_GM_reads {l : Launch} {G : gG} {d : Nat} {X : gX} {M : gM} {k : gM → Prop} {o : Nat} {x1 : Int} {x2 : Int} (T : wp l G y_GM_reads (gRm d) true (kkV X k) false 0 [.val (gR G o), .val (gI x1), .val (gI x2), .unset] [] X M 0 0) : cV l G y_GM_reads (gRm d) true [gR G o, gI x1, gI x2] X M k := cen_V (plainFor_of_name rfl) (by simp only [lg_sl_R, lg_sl_I, lg_sl_L, lg_sl_N, List.length_cons, List.length_nil]; decide) (by unfold gEn; simp only [lg_sl_R, lg_sl_I, lg_sl_L, lg_sl_N]; exact wpt T (And.intro rfl (And.intro rfl (And.intro rfl True.intro))))
