/-! Walks of the class's methods, written by wip/whole/gen_class.py -/
theorem d_Rd_endsArgument_0 : decode prog_8_method_13_code 0 = .ok (.aload_n 0, 1) := by decide +kernel
theorem d_Rd_endsArgument_1 : decode prog_8_method_13_code 1 = .ok (.getfield 28, 3) := by decide +kernel
theorem d_Rd_endsArgument_4 : decode prog_8_method_13_code 4 = .ok (.getfield 93, 3) := by decide +kernel
theorem d_Rd_endsArgument_7 : decode prog_8_method_13_code 7 = .ok (.iload_n 1, 1) := by decide +kernel
theorem d_Rd_endsArgument_8 : decode prog_8_method_13_code 8 = .ok (.iaload, 1) := by decide +kernel
theorem d_Rd_endsArgument_9 : decode prog_8_method_13_code 9 = .ok (.bipush 15, 2) := by decide +kernel
theorem d_Rd_endsArgument_11 : decode prog_8_method_13_code 11 = .ok (.if_icmp .eq 17, 3) := by decide +kernel
theorem d_Rd_endsArgument_28 : decode prog_8_method_13_code 28 = .ok (.iconst 1, 1) := by decide +kernel
theorem d_Rd_endsArgument_29 : decode prog_8_method_13_code 29 = .ok (.goto 4, 3) := by decide +kernel
theorem d_Rd_endsArgument_33 : decode prog_8_method_13_code 33 = .ok (.ireturn, 1) := by decide +kernel
theorem d_Rd_endsArgument_14 : decode prog_8_method_13_code 14 = .ok (.aload_n 0, 1) := by decide +kernel
theorem d_Rd_endsArgument_15 : decode prog_8_method_13_code 15 = .ok (.getfield 28, 3) := by decide +kernel
theorem d_Rd_endsArgument_18 : decode prog_8_method_13_code 18 = .ok (.getfield 93, 3) := by decide +kernel
theorem d_Rd_endsArgument_21 : decode prog_8_method_13_code 21 = .ok (.iload_n 1, 1) := by decide +kernel
theorem d_Rd_endsArgument_22 : decode prog_8_method_13_code 22 = .ok (.iaload, 1) := by decide +kernel
theorem d_Rd_endsArgument_23 : decode prog_8_method_13_code 23 = .ok (.bipush 14, 2) := by decide +kernel
theorem d_Rd_endsArgument_25 : decode prog_8_method_13_code 25 = .ok (.if_icmp .ne 7, 3) := by decide +kernel
theorem d_Rd_endsArgument_32 : decode prog_8_method_13_code 32 = .ok (.iconst 0, 1) := by decide +kernel
set_option maxHeartbeats 4000000 in
theorem w_Rd_endsArgument_0 {l : Launch} {G : gG} {d : Nat} {X : gX} {M : gM} {k : Int → gM → Prop} {c : Nat} (hX : glX X c) {x1 : Int} (hx1 : g32 x1)  (T : ((0 : Int) ≤ x1 ∧ x1 < 104) ∧ (g32 (M (c + 17) (Int.toNat x1)) → ((M (c + 17) (Int.toNat x1) = 15 → (k 1 M)) ∧ (¬ M (c + 17) (Int.toNat x1) = 15 → (((0 : Int) ≤ x1 ∧ x1 < 104) ∧ (g32 (M (c + 17) (Int.toNat x1)) → ((¬ M (c + 17) (Int.toNat x1) = 14 → (k 0 M)) ∧ (M (c + 17) (Int.toNat x1) = 14 → (k 1 M))))))))) : wp l G y_Rd_endsArgument (gRm d) false (kkZ X k) false 0 [.val (gR G (c + 14)), .val (gI x1)] [] X M 0 0 := by
  refine wp_aload_n d_Rd_endsArgument_0 rfl rfl (g_nz (gl_1 hX 14)) ?_
  refine xgetR d_Rd_endsArgument_1 gc_Rd f_Rd_28.1 f_Rd_28.2.1 f_Rd_28.2.2.1 (gl_1 hX 14) (gl_2 hX (a := 14) (by decide)) (gl_s hX 14 rfl) f_Rd_28.2.2.2.2.1 (gl_f hX 17 rfl) ?_
  refine xgetR d_Rd_endsArgument_4 gc_Tk f_Rd_93.1 f_Rd_93.2.1 f_Rd_93.2.2.1 (gl_1 hX 16) (gl_2 hX (a := 16) (by decide)) (gl_s hX 16 rfl) f_Rd_93.2.2.2.2.1 (gl_f hX 18 rfl) ?_
  refine wp_iload_n d_Rd_endsArgument_7 rfl rfl ?_
  refine wp_iaload d_Rd_endsArgument_8 (gl_1 hX 17) (gl_2 hX (a := 17) (by decide)) (gl_s hX 17 rfl) (g32_n T.1 (by decide)) T.1.1 T.1.2 (fun h1 => ?_)
  have T := T.2 h1
  refine wp_bipush d_Rd_endsArgument_9 ⟨by decide, by decide⟩ ?_
  refine xi_eq (tgt := 28) d_Rd_endsArgument_11 (by decide) (w32_id h1) (w32_id (g32_c (x := 15) rfl)) (fun h4 => ?_) (fun h4 => ?_)
  · have T := T.1 h4
    refine wp_iconst d_Rd_endsArgument_28 ?_
    refine wp_goto (tgt := 33) d_Rd_endsArgument_29 (by decide) ?_
    exact wp_zreturn d_Rd_endsArgument_33 rfl (g_narz (⟨by decide, by decide⟩ : (0 : Int) ≤ 1 ∧ (1 : Int) ≤ 1)) id (Nat.zero_le _) (Nat.zero_le _) (kZ_mk (⟨by decide, by decide⟩ : (0 : Int) ≤ 1 ∧ (1 : Int) ≤ 1) T)
  · have T := T.2 h4
    refine wp_aload_n d_Rd_endsArgument_14 rfl rfl (g_nz (gl_1 hX 14)) ?_
    refine xgetR d_Rd_endsArgument_15 gc_Rd f_Rd_28.1 f_Rd_28.2.1 f_Rd_28.2.2.1 (gl_1 hX 14) (gl_2 hX (a := 14) (by decide)) (gl_s hX 14 rfl) f_Rd_28.2.2.2.2.1 (gl_f hX 17 rfl) ?_
    refine xgetR d_Rd_endsArgument_18 gc_Tk f_Rd_93.1 f_Rd_93.2.1 f_Rd_93.2.2.1 (gl_1 hX 16) (gl_2 hX (a := 16) (by decide)) (gl_s hX 16 rfl) f_Rd_93.2.2.2.2.1 (gl_f hX 18 rfl) ?_
    refine wp_iload_n d_Rd_endsArgument_21 rfl rfl ?_
    refine wp_iaload d_Rd_endsArgument_22 (gl_1 hX 17) (gl_2 hX (a := 17) (by decide)) (gl_s hX 17 rfl) (g32_n T.1 (by decide)) T.1.1 T.1.2 (fun h2 => ?_)
    have T := T.2 h2
    refine wp_bipush d_Rd_endsArgument_23 ⟨by decide, by decide⟩ ?_
    refine xi_ne (tgt := 32) d_Rd_endsArgument_25 (by decide) (w32_id h2) (w32_id (g32_c (x := 14) rfl)) (fun h3 => ?_) (fun h3 => ?_)
    · have T := T.1 h3
      refine wp_iconst d_Rd_endsArgument_32 ?_
      exact wp_zreturn d_Rd_endsArgument_33 rfl (g_narz (⟨by decide, by decide⟩ : (0 : Int) ≤ 0 ∧ (0 : Int) ≤ 1)) id (Nat.zero_le _) (Nat.zero_le _) (kZ_mk (⟨by decide, by decide⟩ : (0 : Int) ≤ 0 ∧ (0 : Int) ≤ 1) T)
    · have T := T.2 h3
      refine wp_iconst d_Rd_endsArgument_28 ?_
      refine wp_goto (tgt := 33) d_Rd_endsArgument_29 (by decide) ?_
      exact wp_zreturn d_Rd_endsArgument_33 rfl (g_narz (⟨by decide, by decide⟩ : (0 : Int) ≤ 1 ∧ (1 : Int) ≤ 1)) id (Nat.zero_le _) (Nat.zero_le _) (kZ_mk (⟨by decide, by decide⟩ : (0 : Int) ≤ 1 ∧ (1 : Int) ≤ 1) T)
theorem e_Rd_endsArgument {l : Launch} {G : gG} {d : Nat} {X : gX} {M : gM} {k : Int → gM → Prop} {c : Nat} {x1 : Int} (T : wp l G y_Rd_endsArgument (gRm d) false (kkZ X k) false 0 [.val (gR G (c + 14)), .val (gI x1)] [] X M 0 0) : cZ l G y_Rd_endsArgument (gRm d) false [gR G (c + 14), gI x1] X M k := cen_Z (plainFor_of_name rfl) (by simp only [lg_sl_R, lg_sl_I, lg_sl_L, lg_sl_N, List.length_cons, List.length_nil]; decide) (by unfold gEn; simp only [lg_sl_R, lg_sl_I, lg_sl_L, lg_sl_N]; exact wpt T (And.intro rfl (And.intro rfl True.intro)))
theorem d_Rd_readRange_0 : decode prog_8_method_14_code 0 = .ok (.aload_n 0, 1) := by decide +kernel
theorem d_Rd_readRange_1 : decode prog_8_method_14_code 1 = .ok (.aload_n 0, 1) := by decide +kernel
theorem d_Rd_readRange_2 : decode prog_8_method_14_code 2 = .ok (.getfield 71, 3) := by decide +kernel
theorem d_Rd_readRange_5 : decode prog_8_method_14_code 5 = .ok (.iconst 3, 1) := by decide +kernel
theorem d_Rd_readRange_6 : decode prog_8_method_14_code 6 = .ok (.iadd, 1) := by decide +kernel
theorem d_Rd_readRange_7 : decode prog_8_method_14_code 7 = .ok (.invokevirtual 177, 3) := by decide +kernel
theorem d_Rd_readRange_10 : decode prog_8_method_14_code 10 = .ok (.ifCond .ne 9, 3) := by decide +kernel
theorem d_Rd_readRange_19 : decode prog_8_method_14_code 19 = .ok (.aload_n 0, 1) := by decide +kernel
theorem d_Rd_readRange_20 : decode prog_8_method_14_code 20 = .ok (.getfield 19, 3) := by decide +kernel
theorem d_Rd_readRange_23 : decode prog_8_method_14_code 23 = .ok (.bipush 6, 2) := by decide +kernel
theorem d_Rd_readRange_25 : decode prog_8_method_14_code 25 = .ok (.aload_n 0, 1) := by decide +kernel
theorem d_Rd_readRange_26 : decode prog_8_method_14_code 26 = .ok (.aload_n 0, 1) := by decide +kernel
theorem d_Rd_readRange_27 : decode prog_8_method_14_code 27 = .ok (.getfield 71, 3) := by decide +kernel
theorem d_Rd_readRange_30 : decode prog_8_method_14_code 30 = .ok (.iconst 4, 1) := by decide +kernel
theorem d_Rd_readRange_31 : decode prog_8_method_14_code 31 = .ok (.invokevirtual 119, 3) := by decide +kernel
theorem d_Rd_readRange_34 : decode prog_8_method_14_code 34 = .ok (.i2l, 1) := by decide +kernel
theorem d_Rd_readRange_35 : decode prog_8_method_14_code 35 = .ok (.invokevirtual 59, 3) := by decide +kernel
theorem d_Rd_readRange_38 : decode prog_8_method_14_code 38 = .ok (.aload_n 0, 1) := by decide +kernel
theorem d_Rd_readRange_39 : decode prog_8_method_14_code 39 = .ok (.aload_n 0, 1) := by decide +kernel
theorem d_Rd_readRange_40 : decode prog_8_method_14_code 40 = .ok (.getfield 71, 3) := by decide +kernel
theorem d_Rd_readRange_43 : decode prog_8_method_14_code 43 = .ok (.iconst 2, 1) := by decide +kernel
theorem d_Rd_readRange_44 : decode prog_8_method_14_code 44 = .ok (.iadd, 1) := by decide +kernel
theorem d_Rd_readRange_45 : decode prog_8_method_14_code 45 = .ok (.bipush 8, 2) := by decide +kernel
theorem d_Rd_readRange_47 : decode prog_8_method_14_code 47 = .ok (.invokevirtual 119, 3) := by decide +kernel
theorem d_Rd_readRange_50 : decode prog_8_method_14_code 50 = .ok (.pop, 1) := by decide +kernel
theorem d_Rd_readRange_51 : decode prog_8_method_14_code 51 = .ok (.aload_n 0, 1) := by decide +kernel
theorem d_Rd_readRange_52 : decode prog_8_method_14_code 52 = .ok (.dup, 1) := by decide +kernel
theorem d_Rd_readRange_53 : decode prog_8_method_14_code 53 = .ok (.getfield 71, 3) := by decide +kernel
theorem d_Rd_readRange_56 : decode prog_8_method_14_code 56 = .ok (.iconst 3, 1) := by decide +kernel
theorem d_Rd_readRange_57 : decode prog_8_method_14_code 57 = .ok (.iadd, 1) := by decide +kernel
theorem d_Rd_readRange_58 : decode prog_8_method_14_code 58 = .ok (.putfield 71, 3) := by decide +kernel
theorem d_Rd_readRange_61 : decode prog_8_method_14_code 61 = .ok (.return_, 1) := by decide +kernel
theorem d_Rd_readRange_13 : decode prog_8_method_14_code 13 = .ok (.aload_n 0, 1) := by decide +kernel
theorem d_Rd_readRange_14 : decode prog_8_method_14_code 14 = .ok (.iconst 1, 1) := by decide +kernel
theorem d_Rd_readRange_15 : decode prog_8_method_14_code 15 = .ok (.putfield 79, 3) := by decide +kernel
theorem d_Rd_readRange_18 : decode prog_8_method_14_code 18 = .ok (.return_, 1) := by decide +kernel
set_option maxHeartbeats 4000000 in
theorem w_Rd_readRange_0 {l : Launch} {G : gG} {d : Nat} {X : gX} {M : gM} {k : gM → Prop} {c : Nat} (hX : glX X c)   (T : g32 (M (c + 14) 4) → (cZ l G y_Rd_endsArgument (gRm d) false [gR G (c + 14), gI ((M (c + 14) 4) + 3)] X M (fun v3 M2 => ((¬ v3 = 0 → (g32 (M2 (c + 14) 4) → (cI l G y_Rd_addRef (gRm d) true [gR G (c + 14), gI (M2 (c + 14) 4), gI 4] X M2 (fun v7 M6 => (cV l G y_Cn_emit (gRm d) true [gR G (c + 2), gI 6, gL v7] X M6 (fun M9 => (g32 (M9 (c + 14) 4) → (cI l G y_Rd_addRef (gRm d) true [gR G (c + 14), gI ((M9 (c + 14) 4) + 2), gI 8] X M9 (fun v12 M11 => (g32 (M11 (c + 14) 4) → (k (gUp M11 (c + 14) 4 (w32 ((M11 (c + 14) 4) + 3)))))))))))))) ∧ (v3 = 0 → (k (gUp M2 (c + 14) 5 1))))))) : wp l G y_Rd_readRange (gRm (d + 1)) true (kkV X k) false 0 [.val (gR G (c + 14))] [] X M 0 0 := by
  refine wp_aload_n d_Rd_readRange_0 rfl rfl (g_nz (gl_1 hX 14)) ?_
  refine wp_aload_n d_Rd_readRange_1 rfl rfl (g_nz (gl_1 hX 14)) ?_
  refine xgetI d_Rd_readRange_2 gc_Rd f_Rd_71.1 f_Rd_71.2.1 f_Rd_71.2.2.1 (gl_1 hX 14) (gl_2 hX (a := 14) (by decide)) (gl_s hX 14 rfl) f_Rd_71.2.2.2.2.1 (fun h1 => ?_)
  have T := T h1
  refine wp_iconst d_Rd_readRange_5 ?_
  refine wp_iadd d_Rd_readRange_6 ?_
  refine xcV_Z (md' := false) (As := [gI ((M (c + 14) 4) + 3)]) (st := []) d_Rd_readRange_7 ca_Rd_endsArgument ml_Rd_177 im_Rd_endsArgument se_Rd_endsArgument gc_Rd (gl_1 hX 14) (gl_2 hX (a := 14) (by decide)) (gl_s hX 14 rfl) rfl (by decide) (by decide) rfl id id T (fun v3 M2 h4 T => ?_)
  refine xz_ne (tgt := 19) d_Rd_readRange_10 (by decide) (w32_id (g32_z h4)) (fun h15 => ?_) (fun h15 => ?_)
  · have T := T.1 h15
    refine wp_aload_n d_Rd_readRange_19 rfl rfl (g_nz (gl_1 hX 14)) ?_
    refine xgetR d_Rd_readRange_20 gc_Rd f_Rd_19.1 f_Rd_19.2.1 f_Rd_19.2.2.1 (gl_1 hX 14) (gl_2 hX (a := 14) (by decide)) (gl_s hX 14 rfl) f_Rd_19.2.2.2.2.1 (gl_f hX 16 rfl) ?_
    refine wp_bipush d_Rd_readRange_23 ⟨by decide, by decide⟩ ?_
    refine wp_aload_n d_Rd_readRange_25 rfl rfl (g_nz (gl_1 hX 14)) ?_
    refine wp_aload_n d_Rd_readRange_26 rfl rfl (g_nz (gl_1 hX 14)) ?_
    refine xgetI d_Rd_readRange_27 gc_Rd f_Rd_71.1 f_Rd_71.2.1 f_Rd_71.2.2.1 (gl_1 hX 14) (gl_2 hX (a := 14) (by decide)) (gl_s hX 14 rfl) f_Rd_71.2.2.2.2.1 (fun h5 => ?_)
    have T := T h5
    refine wp_iconst d_Rd_readRange_30 ?_
    refine xcV_I (md' := true) (As := [gI (M2 (c + 14) 4), gI 4]) (st := [gI 6, gR G (c + 2)]) d_Rd_readRange_31 ca_Rd_addRef ml_Rd_119 im_Rd_addRef se_Rd_addRef gc_Rd (gl_1 hX 14) (gl_2 hX (a := 14) (by decide)) (gl_s hX 14 rfl) rfl (by decide) (by simp only [List.map, gR_cat, gI_cat, gL_cat, List.sum_cons, List.sum_nil]; decide) rfl (fun _ => rfl) (fun _ => rfl) T (fun v7 M6 h8 T => ?_)
    refine xi2l d_Rd_readRange_34 (w32_id h8) ?_
    refine xcV_V (md' := true) (As := [gI 6, gL v7]) (st := []) d_Rd_readRange_35 ca_Cn_emit ml_Rd_59 im_Cn_emit se_Cn_emit gc_Cn (gl_1 hX 2) (gl_2 hX (a := 2) (by decide)) (gl_s hX 2 rfl) rfl (by decide) (by decide) rfl (fun _ => rfl) (fun _ => rfl) T (fun M9 T => ?_)
    refine wp_aload_n d_Rd_readRange_38 rfl rfl (g_nz (gl_1 hX 14)) ?_
    refine wp_aload_n d_Rd_readRange_39 rfl rfl (g_nz (gl_1 hX 14)) ?_
    refine xgetI d_Rd_readRange_40 gc_Rd f_Rd_71.1 f_Rd_71.2.1 f_Rd_71.2.2.1 (gl_1 hX 14) (gl_2 hX (a := 14) (by decide)) (gl_s hX 14 rfl) f_Rd_71.2.2.2.2.1 (fun h10 => ?_)
    have T := T h10
    refine wp_iconst d_Rd_readRange_43 ?_
    refine wp_iadd d_Rd_readRange_44 ?_
    refine wp_bipush d_Rd_readRange_45 ⟨by decide, by decide⟩ ?_
    refine xcV_I (md' := true) (As := [gI ((M9 (c + 14) 4) + 2), gI 8]) (st := []) d_Rd_readRange_47 ca_Rd_addRef ml_Rd_119 im_Rd_addRef se_Rd_addRef gc_Rd (gl_1 hX 14) (gl_2 hX (a := 14) (by decide)) (gl_s hX 14 rfl) rfl (by decide) (by decide) rfl (fun _ => rfl) (fun _ => rfl) T (fun v12 M11 h13 T => ?_)
    refine wp_pop d_Rd_readRange_50 (gI_cat _) ?_
    refine wp_aload_n d_Rd_readRange_51 rfl rfl (g_nz (gl_1 hX 14)) ?_
    refine wp_dup d_Rd_readRange_52 (gR_cat _) ?_
    refine xgetI d_Rd_readRange_53 gc_Rd f_Rd_71.1 f_Rd_71.2.1 f_Rd_71.2.2.1 (gl_1 hX 14) (gl_2 hX (a := 14) (by decide)) (gl_s hX 14 rfl) f_Rd_71.2.2.2.2.1 (fun h14 => ?_)
    have T := T h14
    refine wp_iconst d_Rd_readRange_56 ?_
    refine wp_iadd d_Rd_readRange_57 ?_
    refine xputI d_Rd_readRange_58 gc_Rd f_Rd_71.1 f_Rd_71.2.1 f_Rd_71.2.2.1 (gl_1 hX 14) (gl_2 hX (a := 14) (by decide)) (gl_s hX 14 rfl) f_Rd_71.2.2.2.1 f_Rd_71.2.2.2.2.1 f_Rd_71.2.2.2.2.2 rfl ?_
    exact wp_return d_Rd_readRange_61 rfl (fun _ => rfl) (Nat.zero_le _) (Nat.zero_le _) (kV_mk T)
  · have T := T.2 h15
    refine wp_aload_n d_Rd_readRange_13 rfl rfl (g_nz (gl_1 hX 14)) ?_
    refine wp_iconst d_Rd_readRange_14 ?_
    refine xputZ d_Rd_readRange_15 gc_Rd f_Rd_79.1 f_Rd_79.2.1 f_Rd_79.2.2.1 (gl_1 hX 14) (gl_2 hX (a := 14) (by decide)) (gl_s hX 14 rfl) f_Rd_79.2.2.2.1 f_Rd_79.2.2.2.2.1 f_Rd_79.2.2.2.2.2 (⟨by decide, by decide⟩ : (0 : Int) ≤ 1 ∧ (1 : Int) ≤ 1) ?_
    exact wp_return d_Rd_readRange_18 rfl (fun _ => rfl) (Nat.zero_le _) (Nat.zero_le _) (kV_mk T)
theorem e_Rd_readRange {l : Launch} {G : gG} {d : Nat} {X : gX} {M : gM} {k : gM → Prop} {c : Nat} (T : wp l G y_Rd_readRange (gRm (d + 1)) true (kkV X k) false 0 [.val (gR G (c + 14))] [] X M 0 0) : cV l G y_Rd_readRange (gRm (d + 1)) true [gR G (c + 14)] X M k := cen_V (plainFor_of_name rfl) (by simp only [lg_sl_R, lg_sl_I, lg_sl_L, lg_sl_N, List.length_cons, List.length_nil]; decide) (by unfold gEn; simp only [lg_sl_R, lg_sl_I, lg_sl_L, lg_sl_N]; exact wpt T (And.intro rfl True.intro))
theorem d_Rd_closePicks_0 : decode prog_8_method_16_code 0 = .ok (.aload_n 0, 1) := by decide +kernel
theorem d_Rd_closePicks_1 : decode prog_8_method_16_code 1 = .ok (.getfield 19, 3) := by decide +kernel
theorem d_Rd_closePicks_4 : decode prog_8_method_16_code 4 = .ok (.getfield 137, 3) := by decide +kernel
theorem d_Rd_closePicks_7 : decode prog_8_method_16_code 7 = .ok (.i2l, 1) := by decide +kernel
theorem d_Rd_closePicks_8 : decode prog_8_method_16_code 8 = .ok (.lstore_n 3, 1) := by decide +kernel
theorem d_Rd_closePicks_9 : decode prog_8_method_16_code 9 = .ok (.iconst 1, 1) := by decide +kernel
theorem d_Rd_closePicks_10 : decode prog_8_method_16_code 10 = .ok (.istore 5, 2) := by decide +kernel
theorem d_Rd_closePicks_12 : decode prog_8_method_16_code 12 = .ok (.iload 5, 2) := by decide +kernel
theorem d_Rd_closePicks_14 : decode prog_8_method_16_code 14 = .ok (.iload_n 1, 1) := by decide +kernel
theorem d_Rd_closePicks_15 : decode prog_8_method_16_code 15 = .ok (.if_icmp .ge 93, 3) := by decide +kernel
theorem d_Rd_closePicks_108 : decode prog_8_method_16_code 108 = .ok (.return_, 1) := by decide +kernel
theorem d_Rd_closePicks_18 : decode prog_8_method_16_code 18 = .ok (.aload_n 0, 1) := by decide +kernel
theorem d_Rd_closePicks_19 : decode prog_8_method_16_code 19 = .ok (.getfield 11, 3) := by decide +kernel
theorem d_Rd_closePicks_22 : decode prog_8_method_16_code 22 = .ok (.iload_n 2, 1) := by decide +kernel
theorem d_Rd_closePicks_23 : decode prog_8_method_16_code 23 = .ok (.iconst 4, 1) := by decide +kernel
theorem d_Rd_closePicks_24 : decode prog_8_method_16_code 24 = .ok (.imul, 1) := by decide +kernel
theorem d_Rd_closePicks_25 : decode prog_8_method_16_code 25 = .ok (.iload 5, 2) := by decide +kernel
theorem d_Rd_closePicks_27 : decode prog_8_method_16_code 27 = .ok (.iadd, 1) := by decide +kernel
theorem d_Rd_closePicks_28 : decode prog_8_method_16_code 28 = .ok (.iaload, 1) := by decide +kernel
theorem d_Rd_closePicks_29 : decode prog_8_method_16_code 29 = .ok (.istore 6, 2) := by decide +kernel
theorem d_Rd_closePicks_31 : decode prog_8_method_16_code 31 = .ok (.iload 5, 2) := by decide +kernel
theorem d_Rd_closePicks_33 : decode prog_8_method_16_code 33 = .ok (.iconst 1, 1) := by decide +kernel
theorem d_Rd_closePicks_34 : decode prog_8_method_16_code 34 = .ok (.iadd, 1) := by decide +kernel
theorem d_Rd_closePicks_35 : decode prog_8_method_16_code 35 = .ok (.iload_n 1, 1) := by decide +kernel
theorem d_Rd_closePicks_36 : decode prog_8_method_16_code 36 = .ok (.if_icmp .ge 20, 3) := by decide +kernel
theorem d_Rd_closePicks_56 : decode prog_8_method_16_code 56 = .ok (.lload_n 3, 1) := by decide +kernel
theorem d_Rd_closePicks_57 : decode prog_8_method_16_code 57 = .ok (.lstore 7, 2) := by decide +kernel
theorem d_Rd_closePicks_59 : decode prog_8_method_16_code 59 = .ok (.aload_n 0, 1) := by decide +kernel
theorem d_Rd_closePicks_60 : decode prog_8_method_16_code 60 = .ok (.getfield 19, 3) := by decide +kernel
theorem d_Rd_closePicks_63 : decode prog_8_method_16_code 63 = .ok (.getfield 192, 3) := by decide +kernel
theorem d_Rd_closePicks_66 : decode prog_8_method_16_code 66 = .ok (.iload 6, 2) := by decide +kernel
theorem d_Rd_closePicks_68 : decode prog_8_method_16_code 68 = .ok (.iload 5, 2) := by decide +kernel
theorem d_Rd_closePicks_70 : decode prog_8_method_16_code 70 = .ok (.i2l, 1) := by decide +kernel
theorem d_Rd_closePicks_71 : decode prog_8_method_16_code 71 = .ok (.bipush 32, 2) := by decide +kernel
theorem d_Rd_closePicks_73 : decode prog_8_method_16_code 73 = .ok (.lshl, 1) := by decide +kernel
theorem d_Rd_closePicks_74 : decode prog_8_method_16_code 74 = .ok (.lload 7, 2) := by decide +kernel
theorem d_Rd_closePicks_76 : decode prog_8_method_16_code 76 = .ok (.bipush 16, 2) := by decide +kernel
theorem d_Rd_closePicks_78 : decode prog_8_method_16_code 78 = .ok (.lshl, 1) := by decide +kernel
theorem d_Rd_closePicks_79 : decode prog_8_method_16_code 79 = .ok (.lor, 1) := by decide +kernel
theorem d_Rd_closePicks_80 : decode prog_8_method_16_code 80 = .ok (.lload_n 3, 1) := by decide +kernel
theorem d_Rd_closePicks_81 : decode prog_8_method_16_code 81 = .ok (.lor, 1) := by decide +kernel
theorem d_Rd_closePicks_82 : decode prog_8_method_16_code 82 = .ok (.lastore, 1) := by decide +kernel
theorem d_Rd_closePicks_83 : decode prog_8_method_16_code 83 = .ok (.iload 5, 2) := by decide +kernel
theorem d_Rd_closePicks_85 : decode prog_8_method_16_code 85 = .ok (.iconst 1, 1) := by decide +kernel
theorem d_Rd_closePicks_86 : decode prog_8_method_16_code 86 = .ok (.if_icmp .le 16, 3) := by decide +kernel
theorem d_Rd_closePicks_102 : decode prog_8_method_16_code 102 = .ok (.iinc 5 1, 3) := by decide +kernel
theorem d_Rd_closePicks_105 : decode prog_8_method_16_code 105 = .ok (.goto (-93), 3) := by decide +kernel
theorem d_Rd_closePicks_89 : decode prog_8_method_16_code 89 = .ok (.aload_n 0, 1) := by decide +kernel
theorem d_Rd_closePicks_90 : decode prog_8_method_16_code 90 = .ok (.getfield 19, 3) := by decide +kernel
theorem d_Rd_closePicks_93 : decode prog_8_method_16_code 93 = .ok (.getfield 192, 3) := by decide +kernel
theorem d_Rd_closePicks_96 : decode prog_8_method_16_code 96 = .ok (.iload 6, 2) := by decide +kernel
theorem d_Rd_closePicks_98 : decode prog_8_method_16_code 98 = .ok (.iconst 1, 1) := by decide +kernel
theorem d_Rd_closePicks_99 : decode prog_8_method_16_code 99 = .ok (.isub, 1) := by decide +kernel
theorem d_Rd_closePicks_100 : decode prog_8_method_16_code 100 = .ok (.lload_n 3, 1) := by decide +kernel
theorem d_Rd_closePicks_101 : decode prog_8_method_16_code 101 = .ok (.lastore, 1) := by decide +kernel
theorem d_Rd_closePicks_39 : decode prog_8_method_16_code 39 = .ok (.aload_n 0, 1) := by decide +kernel
theorem d_Rd_closePicks_40 : decode prog_8_method_16_code 40 = .ok (.getfield 11, 3) := by decide +kernel
theorem d_Rd_closePicks_43 : decode prog_8_method_16_code 43 = .ok (.iload_n 2, 1) := by decide +kernel
theorem d_Rd_closePicks_44 : decode prog_8_method_16_code 44 = .ok (.iconst 4, 1) := by decide +kernel
theorem d_Rd_closePicks_45 : decode prog_8_method_16_code 45 = .ok (.imul, 1) := by decide +kernel
theorem d_Rd_closePicks_46 : decode prog_8_method_16_code 46 = .ok (.iload 5, 2) := by decide +kernel
theorem d_Rd_closePicks_48 : decode prog_8_method_16_code 48 = .ok (.iadd, 1) := by decide +kernel
theorem d_Rd_closePicks_49 : decode prog_8_method_16_code 49 = .ok (.iconst 1, 1) := by decide +kernel
theorem d_Rd_closePicks_50 : decode prog_8_method_16_code 50 = .ok (.iadd, 1) := by decide +kernel
theorem d_Rd_closePicks_51 : decode prog_8_method_16_code 51 = .ok (.iaload, 1) := by decide +kernel
theorem d_Rd_closePicks_52 : decode prog_8_method_16_code 52 = .ok (.i2l, 1) := by decide +kernel
theorem d_Rd_closePicks_53 : decode prog_8_method_16_code 53 = .ok (.goto 4, 3) := by decide +kernel
set_option maxHeartbeats 4000000 in
theorem w_Rd_closePicks_0 {l : Launch} {G : gG} {d : Nat} {X : gX} {M : gM} {k : gM → Prop} {c : Nat} (hX : glX X c) {x1 : Int} (hx1 : g32 x1) {x2 : Int} (hx2 : g32 x2)  (T : g32 (M (c + 2) 12) → (wp l G y_Rd_closePicks (gRm d) true (kkV X k) true 12 [.val (gR G (c + 14)), .val (gI x1), .val (gI x2), .val (gL (M (c + 2) 12)), .unset, .val (gI 1), .unset, .unset, .unset] [] X M 0 0)) : wp l G y_Rd_closePicks (gRm d) true (kkV X k) false 0 [.val (gR G (c + 14)), .val (gI x1), .val (gI x2), .unset, .unset, .unset, .unset, .unset, .unset] [] X M 0 0 := by
  refine wp_aload_n d_Rd_closePicks_0 rfl rfl (g_nz (gl_1 hX 14)) ?_
  refine xgetR d_Rd_closePicks_1 gc_Rd f_Rd_19.1 f_Rd_19.2.1 f_Rd_19.2.2.1 (gl_1 hX 14) (gl_2 hX (a := 14) (by decide)) (gl_s hX 14 rfl) f_Rd_19.2.2.2.2.1 (gl_f hX 16 rfl) ?_
  refine xgetI d_Rd_closePicks_4 gc_Cn f_Rd_137.1 f_Rd_137.2.1 f_Rd_137.2.2.1 (gl_1 hX 2) (gl_2 hX (a := 2) (by decide)) (gl_s hX 2 rfl) f_Rd_137.2.2.2.2.1 (fun h1 => ?_)
  have T := T h1
  refine xi2l d_Rd_closePicks_7 (w32_id h1) ?_
  refine wp_lstore_n (L' := [.val (gR G (c + 14)), .val (gI x1), .val (gI x2), .val (gL (M (c + 2) 12)), .unset, .unset, .unset, .unset, .unset]) d_Rd_closePicks_8 rfl (by decide) rfl ?_
  refine wp_iconst d_Rd_closePicks_9 ?_
  refine wp_istore (L' := [.val (gR G (c + 14)), .val (gI x1), .val (gI x2), .val (gL (M (c + 2) 12)), .unset, .val (gI 1), .unset, .unset, .unset]) d_Rd_closePicks_10 (by decide) rfl ?_
  exact wp_md (wpt T (And.intro rfl (And.intro rfl (And.intro rfl (And.intro rfl (And.intro rfl True.intro))))))
set_option maxHeartbeats 4000000 in
theorem w_Rd_closePicks_12 {l : Launch} {G : gG} {d : Nat} {X : gX} {M : gM} {k : gM → Prop} {c : Nat} (hX : glX X c) {x1 : Int} (hx1 : g32 x1) {x2 : Int} (hx2 : g32 x2) {x3 : Int} (hx3 : g64 x3) {x5 : Int} (hx5 : g32 x5)  (T : (x1 ≤ x5 → (k M)) ∧ (¬ x1 ≤ x5 → (((0 : Int) ≤ (x2 * 4) + x5 ∧ (x2 * 4) + x5 < 84) ∧ (g32 (M (c + 15) (Int.toNat ((x2 * 4) + x5))) → ((x1 ≤ (w32 (x5 + 1)) → (((0 : Int) ≤ M (c + 15) (Int.toNat ((x2 * 4) + x5)) ∧ M (c + 15) (Int.toNat ((x2 * 4) + x5)) < 10480) ∧ ((x5 ≤ 1 → (wp l G y_Rd_closePicks (gRm d) true (kkV X k) true 12 [.val (gR G (c + 14)), .val (gI x1), .val (gI x2), .val (gL x3), .unset, .val (gI (w32 (x5 + 1))), .unset, .unset, .unset] [] X (gUp M (c + 10) (Int.toNat (M (c + 15) (Int.toNat ((x2 * 4) + x5)))) (gLor (gLor (gLshl x5 32) (gLshl x3 16)) x3)) 0 0)) ∧ (¬ x5 ≤ 1 → (((0 : Int) ≤ (M (c + 15) (Int.toNat ((x2 * 4) + x5))) - 1 ∧ (M (c + 15) (Int.toNat ((x2 * 4) + x5))) - 1 < 10480) ∧ (wp l G y_Rd_closePicks (gRm d) true (kkV X k) true 12 [.val (gR G (c + 14)), .val (gI x1), .val (gI x2), .val (gL x3), .unset, .val (gI (w32 (x5 + 1))), .unset, .unset, .unset] [] X (gUp (gUp M (c + 10) (Int.toNat (M (c + 15) (Int.toNat ((x2 * 4) + x5)))) (gLor (gLor (gLshl x5 32) (gLshl x3 16)) x3)) (c + 10) (Int.toNat ((M (c + 15) (Int.toNat ((x2 * 4) + x5))) - 1)) x3) 0 0)))))) ∧ (¬ x1 ≤ (w32 (x5 + 1)) → (((0 : Int) ≤ ((x2 * 4) + x5) + 1 ∧ ((x2 * 4) + x5) + 1 < 84) ∧ (g32 (M (c + 15) (Int.toNat (((x2 * 4) + x5) + 1))) → (((0 : Int) ≤ M (c + 15) (Int.toNat ((x2 * 4) + x5)) ∧ M (c + 15) (Int.toNat ((x2 * 4) + x5)) < 10480) ∧ ((x5 ≤ 1 → (wp l G y_Rd_closePicks (gRm d) true (kkV X k) true 12 [.val (gR G (c + 14)), .val (gI x1), .val (gI x2), .val (gL x3), .unset, .val (gI (w32 (x5 + 1))), .unset, .unset, .unset] [] X (gUp M (c + 10) (Int.toNat (M (c + 15) (Int.toNat ((x2 * 4) + x5)))) (gLor (gLor (gLshl x5 32) (gLshl (M (c + 15) (Int.toNat (((x2 * 4) + x5) + 1))) 16)) x3)) 0 0)) ∧ (¬ x5 ≤ 1 → (((0 : Int) ≤ (M (c + 15) (Int.toNat ((x2 * 4) + x5))) - 1 ∧ (M (c + 15) (Int.toNat ((x2 * 4) + x5))) - 1 < 10480) ∧ (wp l G y_Rd_closePicks (gRm d) true (kkV X k) true 12 [.val (gR G (c + 14)), .val (gI x1), .val (gI x2), .val (gL x3), .unset, .val (gI (w32 (x5 + 1))), .unset, .unset, .unset] [] X (gUp (gUp M (c + 10) (Int.toNat (M (c + 15) (Int.toNat ((x2 * 4) + x5)))) (gLor (gLor (gLshl x5 32) (gLshl (M (c + 15) (Int.toNat (((x2 * 4) + x5) + 1))) 16)) x3)) (c + 10) (Int.toNat ((M (c + 15) (Int.toNat ((x2 * 4) + x5))) - 1)) x3) 0 0))))))))))))) : wp l G y_Rd_closePicks (gRm d) true (kkV X k) true 12 [.val (gR G (c + 14)), .val (gI x1), .val (gI x2), .val (gL x3), .unset, .val (gI x5), .unset, .unset, .unset] [] X M 0 0 := by
  refine wp_iload d_Rd_closePicks_12 rfl ?_
  refine wp_iload_n d_Rd_closePicks_14 rfl rfl ?_
  refine xi_ge (tgt := 108) d_Rd_closePicks_15 (by decide) (w32_id hx5) (w32_id hx1) (fun h7 => ?_) (fun h7 => ?_)
  · have T := T.1 h7
    exact wp_return d_Rd_closePicks_108 rfl (fun _ => rfl) (Nat.zero_le _) (Nat.zero_le _) (kV_mk T)
  · have T := T.2 h7
    refine wp_aload_n d_Rd_closePicks_18 rfl rfl (g_nz (gl_1 hX 14)) ?_
    refine xgetR d_Rd_closePicks_19 gc_Rd f_Rd_11.1 f_Rd_11.2.1 f_Rd_11.2.2.1 (gl_1 hX 14) (gl_2 hX (a := 14) (by decide)) (gl_s hX 14 rfl) f_Rd_11.2.2.2.2.1 (gl_f hX 14 rfl) ?_
    refine wp_iload_n d_Rd_closePicks_22 rfl rfl ?_
    refine wp_iconst d_Rd_closePicks_23 ?_
    refine wp_imul d_Rd_closePicks_24 ?_
    refine wp_iload d_Rd_closePicks_25 rfl ?_
    refine wp_iadd d_Rd_closePicks_27 ?_
    refine wp_iaload d_Rd_closePicks_28 (gl_1 hX 15) (gl_2 hX (a := 15) (by decide)) (gl_s hX 15 rfl) (g32_n T.1 (by decide)) T.1.1 T.1.2 (fun h2 => ?_)
    have T := T.2 h2
    refine wp_istore (L' := [.val (gR G (c + 14)), .val (gI x1), .val (gI x2), .val (gL x3), .unset, .val (gI x5), .val (gI (M (c + 15) (Int.toNat ((x2 * 4) + x5)))), .unset, .unset]) d_Rd_closePicks_29 (by decide) rfl ?_
    refine wp_iload d_Rd_closePicks_31 rfl ?_
    refine wp_iconst d_Rd_closePicks_33 ?_
    refine wp_iadd d_Rd_closePicks_34 ?_
    refine wp_iload_n d_Rd_closePicks_35 rfl rfl ?_
    refine xi_ge (tgt := 56) d_Rd_closePicks_36 (by decide) rfl (w32_id hx1) (fun h6 => ?_) (fun h6 => ?_)
    · have T := T.1 h6
      refine wp_lload_n d_Rd_closePicks_56 rfl rfl ?_
      refine wp_lstore (L' := [.val (gR G (c + 14)), .val (gI x1), .val (gI x2), .val (gL x3), .unset, .val (gI x5), .val (gI (M (c + 15) (Int.toNat ((x2 * 4) + x5)))), .val (gL x3), .unset]) d_Rd_closePicks_57 (by decide) rfl ?_
      refine wp_aload_n d_Rd_closePicks_59 rfl rfl (g_nz (gl_1 hX 14)) ?_
      refine xgetR d_Rd_closePicks_60 gc_Rd f_Rd_19.1 f_Rd_19.2.1 f_Rd_19.2.2.1 (gl_1 hX 14) (gl_2 hX (a := 14) (by decide)) (gl_s hX 14 rfl) f_Rd_19.2.2.2.2.1 (gl_f hX 16 rfl) ?_
      refine xgetR d_Rd_closePicks_63 gc_Cn f_Rd_192.1 f_Rd_192.2.1 f_Rd_192.2.2.1 (gl_1 hX 2) (gl_2 hX (a := 2) (by decide)) (gl_s hX 2 rfl) f_Rd_192.2.2.2.2.1 (gl_f hX 9 rfl) ?_
      refine wp_iload d_Rd_closePicks_66 rfl ?_
      refine wp_iload d_Rd_closePicks_68 rfl ?_
      refine xi2l d_Rd_closePicks_70 (w32_id hx5) ?_
      refine wp_bipush d_Rd_closePicks_71 ⟨by decide, by decide⟩ ?_
      refine wp_lshl d_Rd_closePicks_73 ?_
      refine wp_lload d_Rd_closePicks_74 rfl ?_
      refine wp_bipush d_Rd_closePicks_76 ⟨by decide, by decide⟩ ?_
      refine wp_lshl d_Rd_closePicks_78 ?_
      refine wp_lor d_Rd_closePicks_79 ?_
      refine wp_lload_n d_Rd_closePicks_80 rfl rfl ?_
      refine wp_lor d_Rd_closePicks_81 ?_
      refine xlast d_Rd_closePicks_82 (gl_1 hX 10) (gl_2 hX (a := 10) (by decide)) (gl_s hX 10 rfl) (by decide) T.1 (w64_id (gLor_ok _ _)) ?_
      have T := T.2
      refine wp_iload d_Rd_closePicks_83 rfl ?_
      refine wp_iconst d_Rd_closePicks_85 ?_
      refine xi_le (tgt := 102) d_Rd_closePicks_86 (by decide) (w32_id hx5) (w32_id (g32_c (x := 1) rfl)) (fun h3 => ?_) (fun h3 => ?_)
      · have T := T.1 h3
        refine wp_iinc (L' := [.val (gR G (c + 14)), .val (gI x1), .val (gI x2), .val (gL x3), .unset, .val (gI (x5 + 1)), .val (gI (M (c + 15) (Int.toNat ((x2 * 4) + x5)))), .val (gL x3), .unset]) d_Rd_closePicks_102 rfl (by decide) rfl ?_
        refine wp_goto (tgt := 12) d_Rd_closePicks_105 (by decide) ?_
        exact wp_md (wpt T (And.intro rfl (And.intro rfl (And.intro rfl (And.intro rfl (And.intro (gI_w _) True.intro))))))
      · have T := T.2 h3
        refine wp_aload_n d_Rd_closePicks_89 rfl rfl (g_nz (gl_1 hX 14)) ?_
        refine xgetR d_Rd_closePicks_90 gc_Rd f_Rd_19.1 f_Rd_19.2.1 f_Rd_19.2.2.1 (gl_1 hX 14) (gl_2 hX (a := 14) (by decide)) (gl_s hX 14 rfl) f_Rd_19.2.2.2.2.1 (gl_f hX 16 rfl) ?_
        refine xgetR d_Rd_closePicks_93 gc_Cn f_Rd_192.1 f_Rd_192.2.1 f_Rd_192.2.2.1 (gl_1 hX 2) (gl_2 hX (a := 2) (by decide)) (gl_s hX 2 rfl) f_Rd_192.2.2.2.2.1 (gl_f hX 9 rfl) ?_
        refine wp_iload d_Rd_closePicks_96 rfl ?_
        refine wp_iconst d_Rd_closePicks_98 ?_
        refine wp_isub d_Rd_closePicks_99 ?_
        refine wp_lload_n d_Rd_closePicks_100 rfl rfl ?_
        refine xlast d_Rd_closePicks_101 (gl_1 hX 10) (gl_2 hX (a := 10) (by decide)) (gl_s hX 10 rfl) (by decide) T.1 (w64_id hx3) ?_
        have T := T.2
        refine wp_iinc (L' := [.val (gR G (c + 14)), .val (gI x1), .val (gI x2), .val (gL x3), .unset, .val (gI (x5 + 1)), .val (gI (M (c + 15) (Int.toNat ((x2 * 4) + x5)))), .val (gL x3), .unset]) d_Rd_closePicks_102 rfl (by decide) rfl ?_
        refine wp_goto (tgt := 12) d_Rd_closePicks_105 (by decide) ?_
        exact wp_md (wpt T (And.intro rfl (And.intro rfl (And.intro rfl (And.intro rfl (And.intro (gI_w _) True.intro))))))
    · have T := T.2 h6
      refine wp_aload_n d_Rd_closePicks_39 rfl rfl (g_nz (gl_1 hX 14)) ?_
      refine xgetR d_Rd_closePicks_40 gc_Rd f_Rd_11.1 f_Rd_11.2.1 f_Rd_11.2.2.1 (gl_1 hX 14) (gl_2 hX (a := 14) (by decide)) (gl_s hX 14 rfl) f_Rd_11.2.2.2.2.1 (gl_f hX 14 rfl) ?_
      refine wp_iload_n d_Rd_closePicks_43 rfl rfl ?_
      refine wp_iconst d_Rd_closePicks_44 ?_
      refine wp_imul d_Rd_closePicks_45 ?_
      refine wp_iload d_Rd_closePicks_46 rfl ?_
      refine wp_iadd d_Rd_closePicks_48 ?_
      refine wp_iconst d_Rd_closePicks_49 ?_
      refine wp_iadd d_Rd_closePicks_50 ?_
      refine wp_iaload d_Rd_closePicks_51 (gl_1 hX 15) (gl_2 hX (a := 15) (by decide)) (gl_s hX 15 rfl) (g32_n T.1 (by decide)) T.1.1 T.1.2 (fun h4 => ?_)
      have T := T.2 h4
      refine xi2l d_Rd_closePicks_52 (w32_id h4) ?_
      refine wp_goto (tgt := 57) d_Rd_closePicks_53 (by decide) ?_
      refine wp_lstore (L' := [.val (gR G (c + 14)), .val (gI x1), .val (gI x2), .val (gL x3), .unset, .val (gI x5), .val (gI (M (c + 15) (Int.toNat ((x2 * 4) + x5)))), .val (gL (M (c + 15) (Int.toNat (((x2 * 4) + x5) + 1)))), .unset]) d_Rd_closePicks_57 (by decide) rfl ?_
      refine wp_aload_n d_Rd_closePicks_59 rfl rfl (g_nz (gl_1 hX 14)) ?_
      refine xgetR d_Rd_closePicks_60 gc_Rd f_Rd_19.1 f_Rd_19.2.1 f_Rd_19.2.2.1 (gl_1 hX 14) (gl_2 hX (a := 14) (by decide)) (gl_s hX 14 rfl) f_Rd_19.2.2.2.2.1 (gl_f hX 16 rfl) ?_
      refine xgetR d_Rd_closePicks_63 gc_Cn f_Rd_192.1 f_Rd_192.2.1 f_Rd_192.2.2.1 (gl_1 hX 2) (gl_2 hX (a := 2) (by decide)) (gl_s hX 2 rfl) f_Rd_192.2.2.2.2.1 (gl_f hX 9 rfl) ?_
      refine wp_iload d_Rd_closePicks_66 rfl ?_
      refine wp_iload d_Rd_closePicks_68 rfl ?_
      refine xi2l d_Rd_closePicks_70 (w32_id hx5) ?_
      refine wp_bipush d_Rd_closePicks_71 ⟨by decide, by decide⟩ ?_
      refine wp_lshl d_Rd_closePicks_73 ?_
      refine wp_lload d_Rd_closePicks_74 rfl ?_
      refine wp_bipush d_Rd_closePicks_76 ⟨by decide, by decide⟩ ?_
      refine wp_lshl d_Rd_closePicks_78 ?_
      refine wp_lor d_Rd_closePicks_79 ?_
      refine wp_lload_n d_Rd_closePicks_80 rfl rfl ?_
      refine wp_lor d_Rd_closePicks_81 ?_
      refine xlast d_Rd_closePicks_82 (gl_1 hX 10) (gl_2 hX (a := 10) (by decide)) (gl_s hX 10 rfl) (by decide) T.1 (w64_id (gLor_ok _ _)) ?_
      have T := T.2
      refine wp_iload d_Rd_closePicks_83 rfl ?_
      refine wp_iconst d_Rd_closePicks_85 ?_
      refine xi_le (tgt := 102) d_Rd_closePicks_86 (by decide) (w32_id hx5) (w32_id (g32_c (x := 1) rfl)) (fun h5 => ?_) (fun h5 => ?_)
      · have T := T.1 h5
        refine wp_iinc (L' := [.val (gR G (c + 14)), .val (gI x1), .val (gI x2), .val (gL x3), .unset, .val (gI (x5 + 1)), .val (gI (M (c + 15) (Int.toNat ((x2 * 4) + x5)))), .val (gL (M (c + 15) (Int.toNat (((x2 * 4) + x5) + 1)))), .unset]) d_Rd_closePicks_102 rfl (by decide) rfl ?_
        refine wp_goto (tgt := 12) d_Rd_closePicks_105 (by decide) ?_
        exact wp_md (wpt T (And.intro rfl (And.intro rfl (And.intro rfl (And.intro rfl (And.intro (gI_w _) True.intro))))))
      · have T := T.2 h5
        refine wp_aload_n d_Rd_closePicks_89 rfl rfl (g_nz (gl_1 hX 14)) ?_
        refine xgetR d_Rd_closePicks_90 gc_Rd f_Rd_19.1 f_Rd_19.2.1 f_Rd_19.2.2.1 (gl_1 hX 14) (gl_2 hX (a := 14) (by decide)) (gl_s hX 14 rfl) f_Rd_19.2.2.2.2.1 (gl_f hX 16 rfl) ?_
        refine xgetR d_Rd_closePicks_93 gc_Cn f_Rd_192.1 f_Rd_192.2.1 f_Rd_192.2.2.1 (gl_1 hX 2) (gl_2 hX (a := 2) (by decide)) (gl_s hX 2 rfl) f_Rd_192.2.2.2.2.1 (gl_f hX 9 rfl) ?_
        refine wp_iload d_Rd_closePicks_96 rfl ?_
        refine wp_iconst d_Rd_closePicks_98 ?_
        refine wp_isub d_Rd_closePicks_99 ?_
        refine wp_lload_n d_Rd_closePicks_100 rfl rfl ?_
        refine xlast d_Rd_closePicks_101 (gl_1 hX 10) (gl_2 hX (a := 10) (by decide)) (gl_s hX 10 rfl) (by decide) T.1 (w64_id hx3) ?_
        have T := T.2
        refine wp_iinc (L' := [.val (gR G (c + 14)), .val (gI x1), .val (gI x2), .val (gL x3), .unset, .val (gI (x5 + 1)), .val (gI (M (c + 15) (Int.toNat ((x2 * 4) + x5)))), .val (gL (M (c + 15) (Int.toNat (((x2 * 4) + x5) + 1)))), .unset]) d_Rd_closePicks_102 rfl (by decide) rfl ?_
        refine wp_goto (tgt := 12) d_Rd_closePicks_105 (by decide) ?_
        exact wp_md (wpt T (And.intro rfl (And.intro rfl (And.intro rfl (And.intro rfl (And.intro (gI_w _) True.intro))))))
theorem e_Rd_closePicks {l : Launch} {G : gG} {d : Nat} {X : gX} {M : gM} {k : gM → Prop} {c : Nat} {x1 : Int} {x2 : Int} (T : wp l G y_Rd_closePicks (gRm d) true (kkV X k) false 0 [.val (gR G (c + 14)), .val (gI x1), .val (gI x2), .unset, .unset, .unset, .unset, .unset, .unset] [] X M 0 0) : cV l G y_Rd_closePicks (gRm d) true [gR G (c + 14), gI x1, gI x2] X M k := cen_V (plainFor_of_name rfl) (by simp only [lg_sl_R, lg_sl_I, lg_sl_L, lg_sl_N, List.length_cons, List.length_nil]; decide) (by unfold gEn; simp only [lg_sl_R, lg_sl_I, lg_sl_L, lg_sl_N]; exact wpt T (And.intro rfl (And.intro rfl (And.intro rfl True.intro))))
theorem d_Rs_compareWith_0 : decode prog_9_method_3_code 0 = .ok (.aload_n 0, 1) := by decide +kernel
theorem d_Rs_compareWith_1 : decode prog_9_method_3_code 1 = .ok (.iconst 0, 1) := by decide +kernel
theorem d_Rs_compareWith_2 : decode prog_9_method_3_code 2 = .ok (.putfield 96, 3) := by decide +kernel
theorem d_Rs_compareWith_5 : decode prog_9_method_3_code 5 = .ok (.iconst 0, 1) := by decide +kernel
theorem d_Rs_compareWith_6 : decode prog_9_method_3_code 6 = .ok (.istore_n 2, 1) := by decide +kernel
theorem d_Rs_compareWith_7 : decode prog_9_method_3_code 7 = .ok (.iconst 0, 1) := by decide +kernel
theorem d_Rs_compareWith_8 : decode prog_9_method_3_code 8 = .ok (.istore_n 3, 1) := by decide +kernel
theorem d_Rs_compareWith_9 : decode prog_9_method_3_code 9 = .ok (.aload_n 1, 1) := by decide +kernel
theorem d_Rs_compareWith_10 : decode prog_9_method_3_code 10 = .ok (.getfield 52, 3) := by decide +kernel
theorem d_Rs_compareWith_13 : decode prog_9_method_3_code 13 = .ok (.aload_n 0, 1) := by decide +kernel
theorem d_Rs_compareWith_14 : decode prog_9_method_3_code 14 = .ok (.getfield 30, 3) := by decide +kernel
theorem d_Rs_compareWith_17 : decode prog_9_method_3_code 17 = .ok (.getfield 52, 3) := by decide +kernel
theorem d_Rs_compareWith_20 : decode prog_9_method_3_code 20 = .ok (.iadd, 1) := by decide +kernel
theorem d_Rs_compareWith_21 : decode prog_9_method_3_code 21 = .ok (.istore 4, 2) := by decide +kernel
theorem d_Rs_compareWith_23 : decode prog_9_method_3_code 23 = .ok (.iload 4, 2) := by decide +kernel
theorem d_Rs_compareWith_25 : decode prog_9_method_3_code 25 = .ok (.ifCond .le 157, 3) := by decide +kernel
theorem d_Rs_compareWith_182 : decode prog_9_method_3_code 182 = .ok (.return_, 1) := by decide +kernel
theorem d_Rs_compareWith_28 : decode prog_9_method_3_code 28 = .ok (.iload_n 2, 1) := by decide +kernel
theorem d_Rs_compareWith_29 : decode prog_9_method_3_code 29 = .ok (.aload_n 1, 1) := by decide +kernel
theorem d_Rs_compareWith_30 : decode prog_9_method_3_code 30 = .ok (.getfield 52, 3) := by decide +kernel
theorem d_Rs_compareWith_33 : decode prog_9_method_3_code 33 = .ok (.if_icmp .lt 14, 3) := by decide +kernel
theorem d_Rs_compareWith_36 : decode prog_9_method_3_code 36 = .ok (.iload_n 3, 1) := by decide +kernel
theorem d_Rs_compareWith_37 : decode prog_9_method_3_code 37 = .ok (.aload_n 0, 1) := by decide +kernel
theorem d_Rs_compareWith_38 : decode prog_9_method_3_code 38 = .ok (.getfield 30, 3) := by decide +kernel
theorem d_Rs_compareWith_41 : decode prog_9_method_3_code 41 = .ok (.getfield 52, 3) := by decide +kernel
theorem d_Rs_compareWith_44 : decode prog_9_method_3_code 44 = .ok (.if_icmp .ge 138, 3) := by decide +kernel
theorem d_Rs_compareWith_47 : decode prog_9_method_3_code 47 = .ok (.iload_n 2, 1) := by decide +kernel
theorem d_Rs_compareWith_48 : decode prog_9_method_3_code 48 = .ok (.aload_n 1, 1) := by decide +kernel
theorem d_Rs_compareWith_49 : decode prog_9_method_3_code 49 = .ok (.getfield 52, 3) := by decide +kernel
theorem d_Rs_compareWith_52 : decode prog_9_method_3_code 52 = .ok (.if_icmp .ge 12, 3) := by decide +kernel
theorem d_Rs_compareWith_64 : decode prog_9_method_3_code 64 = .ok (.sipush 5200, 3) := by decide +kernel
theorem d_Rs_compareWith_67 : decode prog_9_method_3_code 67 = .ok (.istore 5, 2) := by decide +kernel
theorem d_Rs_compareWith_69 : decode prog_9_method_3_code 69 = .ok (.iload_n 3, 1) := by decide +kernel
theorem d_Rs_compareWith_70 : decode prog_9_method_3_code 70 = .ok (.aload_n 0, 1) := by decide +kernel
theorem d_Rs_compareWith_71 : decode prog_9_method_3_code 71 = .ok (.getfield 30, 3) := by decide +kernel
theorem d_Rs_compareWith_74 : decode prog_9_method_3_code 74 = .ok (.getfield 52, 3) := by decide +kernel
theorem d_Rs_compareWith_77 : decode prog_9_method_3_code 77 = .ok (.if_icmp .ge 15, 3) := by decide +kernel
theorem d_Rs_compareWith_92 : decode prog_9_method_3_code 92 = .ok (.sipush 5200, 3) := by decide +kernel
theorem d_Rs_compareWith_95 : decode prog_9_method_3_code 95 = .ok (.istore 6, 2) := by decide +kernel
theorem d_Rs_compareWith_97 : decode prog_9_method_3_code 97 = .ok (.iload 5, 2) := by decide +kernel
theorem d_Rs_compareWith_99 : decode prog_9_method_3_code 99 = .ok (.iload 6, 2) := by decide +kernel
theorem d_Rs_compareWith_101 : decode prog_9_method_3_code 101 = .ok (.if_icmp .ne 19, 3) := by decide +kernel
theorem d_Rs_compareWith_104 : decode prog_9_method_3_code 104 = .ok (.aload_n 0, 1) := by decide +kernel
theorem d_Rs_compareWith_105 : decode prog_9_method_3_code 105 = .ok (.getfield 23, 3) := by decide +kernel
theorem d_Rs_compareWith_108 : decode prog_9_method_3_code 108 = .ok (.iload_n 3, 1) := by decide +kernel
theorem d_Rs_compareWith_109 : decode prog_9_method_3_code 109 = .ok (.aload_n 0, 1) := by decide +kernel
theorem d_Rs_compareWith_110 : decode prog_9_method_3_code 110 = .ok (.getfield 27, 3) := by decide +kernel
theorem d_Rs_compareWith_113 : decode prog_9_method_3_code 113 = .ok (.iload_n 2, 1) := by decide +kernel
theorem d_Rs_compareWith_114 : decode prog_9_method_3_code 114 = .ok (.invokevirtual 99, 3) := by decide +kernel
theorem d_Rs_compareWith_117 : decode prog_9_method_3_code 117 = .ok (.ifCond .ne 29, 3) := by decide +kernel
theorem d_Rs_compareWith_80 : decode prog_9_method_3_code 80 = .ok (.aload_n 0, 1) := by decide +kernel
theorem d_Rs_compareWith_81 : decode prog_9_method_3_code 81 = .ok (.getfield 30, 3) := by decide +kernel
theorem d_Rs_compareWith_84 : decode prog_9_method_3_code 84 = .ok (.getfield 58, 3) := by decide +kernel
theorem d_Rs_compareWith_87 : decode prog_9_method_3_code 87 = .ok (.iload_n 3, 1) := by decide +kernel
theorem d_Rs_compareWith_88 : decode prog_9_method_3_code 88 = .ok (.iaload, 1) := by decide +kernel
theorem d_Rs_compareWith_89 : decode prog_9_method_3_code 89 = .ok (.goto 6, 3) := by decide +kernel
theorem d_Rs_compareWith_55 : decode prog_9_method_3_code 55 = .ok (.aload_n 1, 1) := by decide +kernel
theorem d_Rs_compareWith_56 : decode prog_9_method_3_code 56 = .ok (.getfield 58, 3) := by decide +kernel
theorem d_Rs_compareWith_59 : decode prog_9_method_3_code 59 = .ok (.iload_n 2, 1) := by decide +kernel
theorem d_Rs_compareWith_60 : decode prog_9_method_3_code 60 = .ok (.iaload, 1) := by decide +kernel
theorem d_Rs_compareWith_61 : decode prog_9_method_3_code 61 = .ok (.goto 6, 3) := by decide +kernel
theorem d_Rs_compareWith_120 : decode prog_9_method_3_code 120 = .ok (.aload_n 0, 1) := by decide +kernel
theorem d_Rs_compareWith_121 : decode prog_9_method_3_code 121 = .ok (.getfield 15, 3) := by decide +kernel
theorem d_Rs_compareWith_124 : decode prog_9_method_3_code 124 = .ok (.aload_n 0, 1) := by decide +kernel
theorem d_Rs_compareWith_125 : decode prog_9_method_3_code 125 = .ok (.getfield 96, 3) := by decide +kernel
theorem d_Rs_compareWith_128 : decode prog_9_method_3_code 128 = .ok (.iload 5, 2) := by decide +kernel
theorem d_Rs_compareWith_130 : decode prog_9_method_3_code 130 = .ok (.iload 6, 2) := by decide +kernel
theorem d_Rs_compareWith_132 : decode prog_9_method_3_code 132 = .ok (.invokestatic 103, 3) := by decide +kernel
theorem d_Rs_compareWith_135 : decode prog_9_method_3_code 135 = .ok (.iastore, 1) := by decide +kernel
theorem d_Rs_compareWith_136 : decode prog_9_method_3_code 136 = .ok (.aload_n 0, 1) := by decide +kernel
theorem d_Rs_compareWith_137 : decode prog_9_method_3_code 137 = .ok (.dup, 1) := by decide +kernel
theorem d_Rs_compareWith_138 : decode prog_9_method_3_code 138 = .ok (.getfield 96, 3) := by decide +kernel
theorem d_Rs_compareWith_141 : decode prog_9_method_3_code 141 = .ok (.iconst 1, 1) := by decide +kernel
theorem d_Rs_compareWith_142 : decode prog_9_method_3_code 142 = .ok (.iadd, 1) := by decide +kernel
theorem d_Rs_compareWith_143 : decode prog_9_method_3_code 143 = .ok (.putfield 96, 3) := by decide +kernel
theorem d_Rs_compareWith_146 : decode prog_9_method_3_code 146 = .ok (.iload_n 2, 1) := by decide +kernel
theorem d_Rs_compareWith_147 : decode prog_9_method_3_code 147 = .ok (.iload 5, 2) := by decide +kernel
theorem d_Rs_compareWith_149 : decode prog_9_method_3_code 149 = .ok (.iload 6, 2) := by decide +kernel
theorem d_Rs_compareWith_151 : decode prog_9_method_3_code 151 = .ok (.if_icmp .gt 7, 3) := by decide +kernel
theorem d_Rs_compareWith_158 : decode prog_9_method_3_code 158 = .ok (.iconst 0, 1) := by decide +kernel
theorem d_Rs_compareWith_159 : decode prog_9_method_3_code 159 = .ok (.iadd, 1) := by decide +kernel
theorem d_Rs_compareWith_160 : decode prog_9_method_3_code 160 = .ok (.istore_n 2, 1) := by decide +kernel
theorem d_Rs_compareWith_161 : decode prog_9_method_3_code 161 = .ok (.iload_n 3, 1) := by decide +kernel
theorem d_Rs_compareWith_162 : decode prog_9_method_3_code 162 = .ok (.iload 6, 2) := by decide +kernel
theorem d_Rs_compareWith_164 : decode prog_9_method_3_code 164 = .ok (.iload 5, 2) := by decide +kernel
theorem d_Rs_compareWith_166 : decode prog_9_method_3_code 166 = .ok (.if_icmp .gt 7, 3) := by decide +kernel
theorem d_Rs_compareWith_173 : decode prog_9_method_3_code 173 = .ok (.iconst 0, 1) := by decide +kernel
theorem d_Rs_compareWith_174 : decode prog_9_method_3_code 174 = .ok (.iadd, 1) := by decide +kernel
theorem d_Rs_compareWith_175 : decode prog_9_method_3_code 175 = .ok (.istore_n 3, 1) := by decide +kernel
theorem d_Rs_compareWith_176 : decode prog_9_method_3_code 176 = .ok (.iinc 4 (-1), 3) := by decide +kernel
theorem d_Rs_compareWith_179 : decode prog_9_method_3_code 179 = .ok (.goto (-156), 3) := by decide +kernel
theorem d_Rs_compareWith_169 : decode prog_9_method_3_code 169 = .ok (.iconst 1, 1) := by decide +kernel
theorem d_Rs_compareWith_170 : decode prog_9_method_3_code 170 = .ok (.goto 4, 3) := by decide +kernel
theorem d_Rs_compareWith_154 : decode prog_9_method_3_code 154 = .ok (.iconst 1, 1) := by decide +kernel
theorem d_Rs_compareWith_155 : decode prog_9_method_3_code 155 = .ok (.goto 4, 3) := by decide +kernel
set_option maxHeartbeats 4000000 in
theorem w_Rs_compareWith_0 {l : Launch} {G : gG} {d : Nat} {X : gX} {M : gM} {k : gM → Prop} {c : Nat} (hX : glX X c) {r1 : Nat} (hr1 : gsX X r1) {s1 : Nat} (hs1 : X.2.2 (c + 234) 6 = s1 ∧ gsX X s1) (T : g32 ((gUp M (c + 234) 7 0) r1 0) → (g32 ((gUp M (c + 234) 7 0) s1 0) → (wp l G y_Rs_compareWith (gRm (d + 1)) true (kkV X k) true 23 [.val (gR G (c + 234)), .val (gR G r1), .val (gI 0), .val (gI 0), .val (gI (w32 (((gUp M (c + 234) 7 0) r1 0) + ((gUp M (c + 234) 7 0) s1 0)))), .unset, .unset] [] X (gUp M (c + 234) 7 0) 0 0))) : wp l G y_Rs_compareWith (gRm (d + 1)) true (kkV X k) false 0 [.val (gR G (c + 234)), .val (gR G r1), .unset, .unset, .unset, .unset, .unset] [] X M 0 0 := by
  refine wp_aload_n d_Rs_compareWith_0 rfl rfl (g_nz (gl_1 hX 234)) ?_
  refine wp_iconst d_Rs_compareWith_1 ?_
  refine xputI d_Rs_compareWith_2 gc_Rs f_Rs_96.1 f_Rs_96.2.1 f_Rs_96.2.2.1 (gl_1 hX 234) (gl_2 hX (a := 234) (by decide)) (gl_s hX 24 rfl) f_Rs_96.2.2.2.1 f_Rs_96.2.2.2.2.1 f_Rs_96.2.2.2.2.2 (w32_id (g32_c (x := 0) rfl)) ?_
  refine wp_iconst d_Rs_compareWith_5 ?_
  refine wp_istore_n (L' := [.val (gR G (c + 234)), .val (gR G r1), .val (gI 0), .unset, .unset, .unset, .unset]) d_Rs_compareWith_6 rfl (by decide) (gS1_R rfl rfl) ?_
  refine wp_iconst d_Rs_compareWith_7 ?_
  refine wp_istore_n (L' := [.val (gR G (c + 234)), .val (gR G r1), .val (gI 0), .val (gI 0), .unset, .unset, .unset]) d_Rs_compareWith_8 rfl (by decide) rfl ?_
  refine wp_aload_n d_Rs_compareWith_9 rfl rfl (g_nz hr1.1) ?_
  refine xgetI d_Rs_compareWith_10 gc_St f_Rs_52.1 f_Rs_52.2.1 f_Rs_52.2.2.1 hr1.1 (gs_2 hr1) hr1.2.2.1 f_Rs_52.2.2.2.2.1 (fun h1 => ?_)
  have T := T h1
  refine wp_aload_n d_Rs_compareWith_13 rfl rfl (g_nz (gl_1 hX 234)) ?_
  refine xgetR d_Rs_compareWith_14 gc_Rs f_Rs_30.1 f_Rs_30.2.1 f_Rs_30.2.2.1 (gl_1 hX 234) (gl_2 hX (a := 234) (by decide)) (gl_s hX 24 rfl) f_Rs_30.2.2.2.2.1 hs1.1 ?_
  refine xgetI d_Rs_compareWith_17 gc_St f_Rs_52.1 f_Rs_52.2.1 f_Rs_52.2.2.1 hs1.2.1 (gs_2 hs1.2) hs1.2.2.2.1 f_Rs_52.2.2.2.2.1 (fun h2 => ?_)
  have T := T h2
  refine wp_iadd d_Rs_compareWith_20 ?_
  refine wp_istore (L' := [.val (gR G (c + 234)), .val (gR G r1), .val (gI 0), .val (gI 0), .val (gI (((gUp M (c + 234) 7 0) r1 0) + ((gUp M (c + 234) 7 0) s1 0))), .unset, .unset]) d_Rs_compareWith_21 (by decide) rfl ?_
  exact wp_md (wpt T (And.intro rfl (And.intro rfl (And.intro rfl (And.intro rfl (And.intro (gI_w _) True.intro))))))
set_option maxHeartbeats 4000000 in
theorem w_Rs_compareWith_23 {l : Launch} {G : gG} {d : Nat} {X : gX} {M : gM} {k : gM → Prop} {c : Nat} (hX : glX X c) {x2 : Int} (hx2 : g32 x2) {x3 : Int} (hx3 : g32 x3) {x4 : Int} (hx4 : g32 x4) {r1 : Nat} (hr1 : gsX X r1) {s1 : Nat} (hs1 : X.2.2 (c + 234) 6 = s1 ∧ gsX X s1) (T : (x4 ≤ 0 → (k M)) ∧ (¬ x4 ≤ 0 → (g32 (M r1 0) → ((x2 < M r1 0 → (wp l G y_Rs_compareWith (gRm (d + 1)) true (kkV X k) true 47 [.val (gR G (c + 234)), .val (gR G r1), .val (gI x2), .val (gI x3), .val (gI x4), .unset, .unset] [] X M 0 0)) ∧ (¬ x2 < M r1 0 → (g32 (M s1 0) → ((M s1 0 ≤ x3 → (k M)) ∧ (¬ M s1 0 ≤ x3 → (wp l G y_Rs_compareWith (gRm (d + 1)) true (kkV X k) true 47 [.val (gR G (c + 234)), .val (gR G r1), .val (gI x2), .val (gI x3), .val (gI x4), .unset, .unset] [] X M 0 0))))))))) : wp l G y_Rs_compareWith (gRm (d + 1)) true (kkV X k) true 23 [.val (gR G (c + 234)), .val (gR G r1), .val (gI x2), .val (gI x3), .val (gI x4), .unset, .unset] [] X M 0 0 := by
  refine wp_iload d_Rs_compareWith_23 rfl ?_
  refine xz_le (tgt := 182) d_Rs_compareWith_25 (by decide) (w32_id hx4) (fun h7 => ?_) (fun h7 => ?_)
  · have T := T.1 h7
    exact wp_return d_Rs_compareWith_182 rfl (fun _ => rfl) (Nat.zero_le _) (Nat.zero_le _) (kV_mk T)
  · have T := T.2 h7
    refine wp_iload_n d_Rs_compareWith_28 rfl rfl ?_
    refine wp_aload_n d_Rs_compareWith_29 rfl rfl (g_nz hr1.1) ?_
    refine xgetI d_Rs_compareWith_30 gc_St f_Rs_52.1 f_Rs_52.2.1 f_Rs_52.2.2.1 hr1.1 (gs_2 hr1) hr1.2.2.1 f_Rs_52.2.2.2.2.1 (fun h3 => ?_)
    have T := T h3
    refine xi_lt (tgt := 47) d_Rs_compareWith_33 (by decide) (w32_id hx2) (w32_id h3) (fun h6 => ?_) (fun h6 => ?_)
    · have T := T.1 h6
      exact wp_md (wpt T (And.intro rfl (And.intro rfl (And.intro rfl (And.intro rfl (And.intro rfl True.intro))))))
    · have T := T.2 h6
      refine wp_iload_n d_Rs_compareWith_36 rfl rfl ?_
      refine wp_aload_n d_Rs_compareWith_37 rfl rfl (g_nz (gl_1 hX 234)) ?_
      refine xgetR d_Rs_compareWith_38 gc_Rs f_Rs_30.1 f_Rs_30.2.1 f_Rs_30.2.2.1 (gl_1 hX 234) (gl_2 hX (a := 234) (by decide)) (gl_s hX 24 rfl) f_Rs_30.2.2.2.2.1 hs1.1 ?_
      refine xgetI d_Rs_compareWith_41 gc_St f_Rs_52.1 f_Rs_52.2.1 f_Rs_52.2.2.1 hs1.2.1 (gs_2 hs1.2) hs1.2.2.2.1 f_Rs_52.2.2.2.2.1 (fun h4 => ?_)
      have T := T h4
      refine xi_ge (tgt := 182) d_Rs_compareWith_44 (by decide) (w32_id hx3) (w32_id h4) (fun h5 => ?_) (fun h5 => ?_)
      · have T := T.1 h5
        exact wp_return d_Rs_compareWith_182 rfl (fun _ => rfl) (Nat.zero_le _) (Nat.zero_le _) (kV_mk T)
      · have T := T.2 h5
        exact wp_md (wpt T (And.intro rfl (And.intro rfl (And.intro rfl (And.intro rfl (And.intro rfl True.intro))))))
set_option maxHeartbeats 4000000 in
theorem w_Rs_compareWith_47 {l : Launch} {G : gG} {d : Nat} {X : gX} {M : gM} {k : gM → Prop} {c : Nat} (hX : glX X c) {x2 : Int} (hx2 : g32 x2) {x3 : Int} (hx3 : g32 x3) {x4 : Int} (hx4 : g32 x4) {r1 : Nat} (hr1 : gsX X r1) {v2 : Nat} (hv2 : X.2.2 (c + 234) 5 = v2 ∧ gvX X v2 401) {s1 : Nat} (hs1 : X.2.2 (c + 234) 6 = s1 ∧ gsX X s1) {v1 : Nat} (hv1 : X.2.2 (c + 234) 4 = v1 ∧ gvX X v1 401) (T : g32 (M r1 0) → ((M r1 0 ≤ x2 → (g32 (M s1 0) → ((M s1 0 ≤ x3 → ((¬ (5200 : Int) = 5200 → (wp l G y_Rs_compareWith (gRm (d + 1)) true (kkV X k) true 120 [.val (gR G (c + 234)), .val (gR G r1), .val (gI x2), .val (gI x3), .val (gI x4), .val (gI 5200), .val (gI 5200)] [] X M 0 0)) ∧ ((5200 : Int) = 5200 → (cZ l G y_Vl_same (gRm d) false [gR G v1, gI x3, gR G v2, gI x2] X M (fun v11 M10 => ((¬ v11 = 0 → (wp l G y_Rs_compareWith (gRm (d + 1)) true (kkV X k) true 146 [.val (gR G (c + 234)), .val (gR G r1), .val (gI x2), .val (gI x3), .val (gI x4), .val (gI 5200), .val (gI 5200)] [] X M10 0 0)) ∧ (v11 = 0 → (wp l G y_Rs_compareWith (gRm (d + 1)) true (kkV X k) true 120 [.val (gR G (c + 234)), .val (gR G r1), .val (gI x2), .val (gI x3), .val (gI x4), .val (gI 5200), .val (gI 5200)] [] X M10 0 0)))))))) ∧ (¬ M s1 0 ≤ x3 → (((0 : Int) ≤ x3 ∧ x3 < 400) ∧ (g32 (M (s1 + 1) (Int.toNat x3)) → ((¬ (5200 : Int) = M (s1 + 1) (Int.toNat x3) → (wp l G y_Rs_compareWith (gRm (d + 1)) true (kkV X k) true 120 [.val (gR G (c + 234)), .val (gR G r1), .val (gI x2), .val (gI x3), .val (gI x4), .val (gI 5200), .val (gI (M (s1 + 1) (Int.toNat x3)))] [] X M 0 0)) ∧ ((5200 : Int) = M (s1 + 1) (Int.toNat x3) → (cZ l G y_Vl_same (gRm d) false [gR G v1, gI x3, gR G v2, gI x2] X M (fun v17 M16 => ((¬ v17 = 0 → (wp l G y_Rs_compareWith (gRm (d + 1)) true (kkV X k) true 146 [.val (gR G (c + 234)), .val (gR G r1), .val (gI x2), .val (gI x3), .val (gI x4), .val (gI 5200), .val (gI (M (s1 + 1) (Int.toNat x3)))] [] X M16 0 0)) ∧ (v17 = 0 → (wp l G y_Rs_compareWith (gRm (d + 1)) true (kkV X k) true 120 [.val (gR G (c + 234)), .val (gR G r1), .val (gI x2), .val (gI x3), .val (gI x4), .val (gI 5200), .val (gI (M (s1 + 1) (Int.toNat x3)))] [] X M16 0 0))))))))))))) ∧ (¬ M r1 0 ≤ x2 → (((0 : Int) ≤ x2 ∧ x2 < 400) ∧ (g32 (M (r1 + 1) (Int.toNat x2)) → (g32 (M s1 0) → ((M s1 0 ≤ x3 → ((¬ M (r1 + 1) (Int.toNat x2) = 5200 → (wp l G y_Rs_compareWith (gRm (d + 1)) true (kkV X k) true 120 [.val (gR G (c + 234)), .val (gR G r1), .val (gI x2), .val (gI x3), .val (gI x4), .val (gI (M (r1 + 1) (Int.toNat x2))), .val (gI 5200)] [] X M 0 0)) ∧ (M (r1 + 1) (Int.toNat x2) = 5200 → (cZ l G y_Vl_same (gRm d) false [gR G v1, gI x3, gR G v2, gI x2] X M (fun v25 M24 => ((¬ v25 = 0 → (wp l G y_Rs_compareWith (gRm (d + 1)) true (kkV X k) true 146 [.val (gR G (c + 234)), .val (gR G r1), .val (gI x2), .val (gI x3), .val (gI x4), .val (gI (M (r1 + 1) (Int.toNat x2))), .val (gI 5200)] [] X M24 0 0)) ∧ (v25 = 0 → (wp l G y_Rs_compareWith (gRm (d + 1)) true (kkV X k) true 120 [.val (gR G (c + 234)), .val (gR G r1), .val (gI x2), .val (gI x3), .val (gI x4), .val (gI (M (r1 + 1) (Int.toNat x2))), .val (gI 5200)] [] X M24 0 0)))))))) ∧ (¬ M s1 0 ≤ x3 → (((0 : Int) ≤ x3 ∧ x3 < 400) ∧ (g32 (M (s1 + 1) (Int.toNat x3)) → ((¬ M (r1 + 1) (Int.toNat x2) = M (s1 + 1) (Int.toNat x3) → (wp l G y_Rs_compareWith (gRm (d + 1)) true (kkV X k) true 120 [.val (gR G (c + 234)), .val (gR G r1), .val (gI x2), .val (gI x3), .val (gI x4), .val (gI (M (r1 + 1) (Int.toNat x2))), .val (gI (M (s1 + 1) (Int.toNat x3)))] [] X M 0 0)) ∧ (M (r1 + 1) (Int.toNat x2) = M (s1 + 1) (Int.toNat x3) → (cZ l G y_Vl_same (gRm d) false [gR G v1, gI x3, gR G v2, gI x2] X M (fun v31 M30 => ((¬ v31 = 0 → (wp l G y_Rs_compareWith (gRm (d + 1)) true (kkV X k) true 146 [.val (gR G (c + 234)), .val (gR G r1), .val (gI x2), .val (gI x3), .val (gI x4), .val (gI (M (r1 + 1) (Int.toNat x2))), .val (gI (M (s1 + 1) (Int.toNat x3)))] [] X M30 0 0)) ∧ (v31 = 0 → (wp l G y_Rs_compareWith (gRm (d + 1)) true (kkV X k) true 120 [.val (gR G (c + 234)), .val (gR G r1), .val (gI x2), .val (gI x3), .val (gI x4), .val (gI (M (r1 + 1) (Int.toNat x2))), .val (gI (M (s1 + 1) (Int.toNat x3)))] [] X M30 0 0))))))))))))))))) : wp l G y_Rs_compareWith (gRm (d + 1)) true (kkV X k) true 47 [.val (gR G (c + 234)), .val (gR G r1), .val (gI x2), .val (gI x3), .val (gI x4), .unset, .unset] [] X M 0 0 := by
  refine wp_iload_n d_Rs_compareWith_47 rfl rfl ?_
  refine wp_aload_n d_Rs_compareWith_48 rfl rfl (g_nz hr1.1) ?_
  refine xgetI d_Rs_compareWith_49 gc_St f_Rs_52.1 f_Rs_52.2.1 f_Rs_52.2.2.1 hr1.1 (gs_2 hr1) hr1.2.2.1 f_Rs_52.2.2.2.2.1 (fun h8 => ?_)
  have T := T h8
  refine xi_ge (tgt := 64) d_Rs_compareWith_52 (by decide) (w32_id hx2) (w32_id h8) (fun h36 => ?_) (fun h36 => ?_)
  · have T := T.1 h36
    refine wp_sipush d_Rs_compareWith_64 ⟨by decide, by decide⟩ ?_
    refine wp_istore (L' := [.val (gR G (c + 234)), .val (gR G r1), .val (gI x2), .val (gI x3), .val (gI x4), .val (gI 5200), .unset]) d_Rs_compareWith_67 (by decide) rfl ?_
    refine wp_iload_n d_Rs_compareWith_69 rfl rfl ?_
    refine wp_aload_n d_Rs_compareWith_70 rfl rfl (g_nz (gl_1 hX 234)) ?_
    refine xgetR d_Rs_compareWith_71 gc_Rs f_Rs_30.1 f_Rs_30.2.1 f_Rs_30.2.2.1 (gl_1 hX 234) (gl_2 hX (a := 234) (by decide)) (gl_s hX 24 rfl) f_Rs_30.2.2.2.2.1 hs1.1 ?_
    refine xgetI d_Rs_compareWith_74 gc_St f_Rs_52.1 f_Rs_52.2.1 f_Rs_52.2.2.1 hs1.2.1 (gs_2 hs1.2) hs1.2.2.2.1 f_Rs_52.2.2.2.2.1 (fun h9 => ?_)
    have T := T h9
    refine xi_ge (tgt := 92) d_Rs_compareWith_77 (by decide) (w32_id hx3) (w32_id h9) (fun h21 => ?_) (fun h21 => ?_)
    · have T := T.1 h21
      refine wp_sipush d_Rs_compareWith_92 ⟨by decide, by decide⟩ ?_
      refine wp_istore (L' := [.val (gR G (c + 234)), .val (gR G r1), .val (gI x2), .val (gI x3), .val (gI x4), .val (gI 5200), .val (gI 5200)]) d_Rs_compareWith_95 (by decide) rfl ?_
      refine wp_iload d_Rs_compareWith_97 rfl ?_
      refine wp_iload d_Rs_compareWith_99 rfl ?_
      refine xi_ne (tgt := 120) d_Rs_compareWith_101 (by decide) (w32_id (g32_c (x := 5200) rfl)) (w32_id (g32_c (x := 5200) rfl)) (fun h14 => ?_) (fun h14 => ?_)
      · have T := T.1 h14
        exact wp_md (wpt T (And.intro rfl (And.intro rfl (And.intro rfl (And.intro rfl (And.intro rfl (And.intro rfl (And.intro rfl True.intro))))))))
      · have T := T.2 h14
        refine wp_aload_n d_Rs_compareWith_104 rfl rfl (g_nz (gl_1 hX 234)) ?_
        refine xgetR d_Rs_compareWith_105 gc_Rs f_Rs_23.1 f_Rs_23.2.1 f_Rs_23.2.2.1 (gl_1 hX 234) (gl_2 hX (a := 234) (by decide)) (gl_s hX 24 rfl) f_Rs_23.2.2.2.2.1 hv1.1 ?_
        refine wp_iload_n d_Rs_compareWith_108 rfl rfl ?_
        refine wp_aload_n d_Rs_compareWith_109 rfl rfl (g_nz (gl_1 hX 234)) ?_
        refine xgetR d_Rs_compareWith_110 gc_Rs f_Rs_27.1 f_Rs_27.2.1 f_Rs_27.2.2.1 (gl_1 hX 234) (gl_2 hX (a := 234) (by decide)) (gl_s hX 24 rfl) f_Rs_27.2.2.2.2.1 hv2.1 ?_
        refine wp_iload_n d_Rs_compareWith_113 rfl rfl ?_
        refine xcV_Z (md' := true) (As := [gI x3, gR G v2, gI x2]) (st := []) d_Rs_compareWith_114 ca_Vl_same ml_Rs_99 im_Vl_same se_Vl_same gc_Vl hv1.2.1 (gv_2 hv1.2) hv1.2.2.2.1 rfl (by decide) (by decide) rfl (fun _ => rfl) (fun _ => rfl) T (fun v11 M10 h12 T => ?_)
        refine xz_ne (tgt := 146) d_Rs_compareWith_117 (by decide) (w32_id (g32_z h12)) (fun h13 => ?_) (fun h13 => ?_)
        · have T := T.1 h13
          exact wp_md (wpt T (And.intro rfl (And.intro rfl (And.intro rfl (And.intro rfl (And.intro rfl (And.intro rfl (And.intro rfl True.intro))))))))
        · have T := T.2 h13
          exact wp_md (wpt T (And.intro rfl (And.intro rfl (And.intro rfl (And.intro rfl (And.intro rfl (And.intro rfl (And.intro rfl True.intro))))))))
    · have T := T.2 h21
      refine wp_aload_n d_Rs_compareWith_80 rfl rfl (g_nz (gl_1 hX 234)) ?_
      refine xgetR d_Rs_compareWith_81 gc_Rs f_Rs_30.1 f_Rs_30.2.1 f_Rs_30.2.2.1 (gl_1 hX 234) (gl_2 hX (a := 234) (by decide)) (gl_s hX 24 rfl) f_Rs_30.2.2.2.2.1 hs1.1 ?_
      refine xgetR d_Rs_compareWith_84 gc_St f_Rs_58.1 f_Rs_58.2.1 f_Rs_58.2.2.1 hs1.2.1 (gs_2 hs1.2) hs1.2.2.2.1 f_Rs_58.2.2.2.2.1 (gs_r hs1.2 0 rfl).1 ?_
      refine wp_iload_n d_Rs_compareWith_87 rfl rfl ?_
      refine wp_iaload d_Rs_compareWith_88 (gs_r hs1.2 0 rfl).2.2.1 (gs_r hs1.2 0 rfl).2.2.2 (gs_r hs1.2 0 rfl).2.1 (g32_n T.1 (by decide)) T.1.1 T.1.2 (fun h15 => ?_)
      have T := T.2 h15
      refine wp_goto (tgt := 95) d_Rs_compareWith_89 (by decide) ?_
      refine wp_istore (L' := [.val (gR G (c + 234)), .val (gR G r1), .val (gI x2), .val (gI x3), .val (gI x4), .val (gI 5200), .val (gI (M (s1 + 1) (Int.toNat x3)))]) d_Rs_compareWith_95 (by decide) rfl ?_
      refine wp_iload d_Rs_compareWith_97 rfl ?_
      refine wp_iload d_Rs_compareWith_99 rfl ?_
      refine xi_ne (tgt := 120) d_Rs_compareWith_101 (by decide) (w32_id (g32_c (x := 5200) rfl)) (w32_id h15) (fun h20 => ?_) (fun h20 => ?_)
      · have T := T.1 h20
        exact wp_md (wpt T (And.intro rfl (And.intro rfl (And.intro rfl (And.intro rfl (And.intro rfl (And.intro rfl (And.intro rfl True.intro))))))))
      · have T := T.2 h20
        refine wp_aload_n d_Rs_compareWith_104 rfl rfl (g_nz (gl_1 hX 234)) ?_
        refine xgetR d_Rs_compareWith_105 gc_Rs f_Rs_23.1 f_Rs_23.2.1 f_Rs_23.2.2.1 (gl_1 hX 234) (gl_2 hX (a := 234) (by decide)) (gl_s hX 24 rfl) f_Rs_23.2.2.2.2.1 hv1.1 ?_
        refine wp_iload_n d_Rs_compareWith_108 rfl rfl ?_
        refine wp_aload_n d_Rs_compareWith_109 rfl rfl (g_nz (gl_1 hX 234)) ?_
        refine xgetR d_Rs_compareWith_110 gc_Rs f_Rs_27.1 f_Rs_27.2.1 f_Rs_27.2.2.1 (gl_1 hX 234) (gl_2 hX (a := 234) (by decide)) (gl_s hX 24 rfl) f_Rs_27.2.2.2.2.1 hv2.1 ?_
        refine wp_iload_n d_Rs_compareWith_113 rfl rfl ?_
        refine xcV_Z (md' := true) (As := [gI x3, gR G v2, gI x2]) (st := []) d_Rs_compareWith_114 ca_Vl_same ml_Rs_99 im_Vl_same se_Vl_same gc_Vl hv1.2.1 (gv_2 hv1.2) hv1.2.2.2.1 rfl (by decide) (by decide) rfl (fun _ => rfl) (fun _ => rfl) T (fun v17 M16 h18 T => ?_)
        refine xz_ne (tgt := 146) d_Rs_compareWith_117 (by decide) (w32_id (g32_z h18)) (fun h19 => ?_) (fun h19 => ?_)
        · have T := T.1 h19
          exact wp_md (wpt T (And.intro rfl (And.intro rfl (And.intro rfl (And.intro rfl (And.intro rfl (And.intro rfl (And.intro rfl True.intro))))))))
        · have T := T.2 h19
          exact wp_md (wpt T (And.intro rfl (And.intro rfl (And.intro rfl (And.intro rfl (And.intro rfl (And.intro rfl (And.intro rfl True.intro))))))))
  · have T := T.2 h36
    refine wp_aload_n d_Rs_compareWith_55 rfl rfl (g_nz hr1.1) ?_
    refine xgetR d_Rs_compareWith_56 gc_St f_Rs_58.1 f_Rs_58.2.1 f_Rs_58.2.2.1 hr1.1 (gs_2 hr1) hr1.2.2.1 f_Rs_58.2.2.2.2.1 (gs_r hr1 0 rfl).1 ?_
    refine wp_iload_n d_Rs_compareWith_59 rfl rfl ?_
    refine wp_iaload d_Rs_compareWith_60 (gs_r hr1 0 rfl).2.2.1 (gs_r hr1 0 rfl).2.2.2 (gs_r hr1 0 rfl).2.1 (g32_n T.1 (by decide)) T.1.1 T.1.2 (fun h22 => ?_)
    have T := T.2 h22
    refine wp_goto (tgt := 67) d_Rs_compareWith_61 (by decide) ?_
    refine wp_istore (L' := [.val (gR G (c + 234)), .val (gR G r1), .val (gI x2), .val (gI x3), .val (gI x4), .val (gI (M (r1 + 1) (Int.toNat x2))), .unset]) d_Rs_compareWith_67 (by decide) rfl ?_
    refine wp_iload_n d_Rs_compareWith_69 rfl rfl ?_
    refine wp_aload_n d_Rs_compareWith_70 rfl rfl (g_nz (gl_1 hX 234)) ?_
    refine xgetR d_Rs_compareWith_71 gc_Rs f_Rs_30.1 f_Rs_30.2.1 f_Rs_30.2.2.1 (gl_1 hX 234) (gl_2 hX (a := 234) (by decide)) (gl_s hX 24 rfl) f_Rs_30.2.2.2.2.1 hs1.1 ?_
    refine xgetI d_Rs_compareWith_74 gc_St f_Rs_52.1 f_Rs_52.2.1 f_Rs_52.2.2.1 hs1.2.1 (gs_2 hs1.2) hs1.2.2.2.1 f_Rs_52.2.2.2.2.1 (fun h23 => ?_)
    have T := T h23
    refine xi_ge (tgt := 92) d_Rs_compareWith_77 (by decide) (w32_id hx3) (w32_id h23) (fun h35 => ?_) (fun h35 => ?_)
    · have T := T.1 h35
      refine wp_sipush d_Rs_compareWith_92 ⟨by decide, by decide⟩ ?_
      refine wp_istore (L' := [.val (gR G (c + 234)), .val (gR G r1), .val (gI x2), .val (gI x3), .val (gI x4), .val (gI (M (r1 + 1) (Int.toNat x2))), .val (gI 5200)]) d_Rs_compareWith_95 (by decide) rfl ?_
      refine wp_iload d_Rs_compareWith_97 rfl ?_
      refine wp_iload d_Rs_compareWith_99 rfl ?_
      refine xi_ne (tgt := 120) d_Rs_compareWith_101 (by decide) (w32_id h22) (w32_id (g32_c (x := 5200) rfl)) (fun h28 => ?_) (fun h28 => ?_)
      · have T := T.1 h28
        exact wp_md (wpt T (And.intro rfl (And.intro rfl (And.intro rfl (And.intro rfl (And.intro rfl (And.intro rfl (And.intro rfl True.intro))))))))
      · have T := T.2 h28
        refine wp_aload_n d_Rs_compareWith_104 rfl rfl (g_nz (gl_1 hX 234)) ?_
        refine xgetR d_Rs_compareWith_105 gc_Rs f_Rs_23.1 f_Rs_23.2.1 f_Rs_23.2.2.1 (gl_1 hX 234) (gl_2 hX (a := 234) (by decide)) (gl_s hX 24 rfl) f_Rs_23.2.2.2.2.1 hv1.1 ?_
        refine wp_iload_n d_Rs_compareWith_108 rfl rfl ?_
        refine wp_aload_n d_Rs_compareWith_109 rfl rfl (g_nz (gl_1 hX 234)) ?_
        refine xgetR d_Rs_compareWith_110 gc_Rs f_Rs_27.1 f_Rs_27.2.1 f_Rs_27.2.2.1 (gl_1 hX 234) (gl_2 hX (a := 234) (by decide)) (gl_s hX 24 rfl) f_Rs_27.2.2.2.2.1 hv2.1 ?_
        refine wp_iload_n d_Rs_compareWith_113 rfl rfl ?_
        refine xcV_Z (md' := true) (As := [gI x3, gR G v2, gI x2]) (st := []) d_Rs_compareWith_114 ca_Vl_same ml_Rs_99 im_Vl_same se_Vl_same gc_Vl hv1.2.1 (gv_2 hv1.2) hv1.2.2.2.1 rfl (by decide) (by decide) rfl (fun _ => rfl) (fun _ => rfl) T (fun v25 M24 h26 T => ?_)
        refine xz_ne (tgt := 146) d_Rs_compareWith_117 (by decide) (w32_id (g32_z h26)) (fun h27 => ?_) (fun h27 => ?_)
        · have T := T.1 h27
          exact wp_md (wpt T (And.intro rfl (And.intro rfl (And.intro rfl (And.intro rfl (And.intro rfl (And.intro rfl (And.intro rfl True.intro))))))))
        · have T := T.2 h27
          exact wp_md (wpt T (And.intro rfl (And.intro rfl (And.intro rfl (And.intro rfl (And.intro rfl (And.intro rfl (And.intro rfl True.intro))))))))
    · have T := T.2 h35
      refine wp_aload_n d_Rs_compareWith_80 rfl rfl (g_nz (gl_1 hX 234)) ?_
      refine xgetR d_Rs_compareWith_81 gc_Rs f_Rs_30.1 f_Rs_30.2.1 f_Rs_30.2.2.1 (gl_1 hX 234) (gl_2 hX (a := 234) (by decide)) (gl_s hX 24 rfl) f_Rs_30.2.2.2.2.1 hs1.1 ?_
      refine xgetR d_Rs_compareWith_84 gc_St f_Rs_58.1 f_Rs_58.2.1 f_Rs_58.2.2.1 hs1.2.1 (gs_2 hs1.2) hs1.2.2.2.1 f_Rs_58.2.2.2.2.1 (gs_r hs1.2 0 rfl).1 ?_
      refine wp_iload_n d_Rs_compareWith_87 rfl rfl ?_
      refine wp_iaload d_Rs_compareWith_88 (gs_r hs1.2 0 rfl).2.2.1 (gs_r hs1.2 0 rfl).2.2.2 (gs_r hs1.2 0 rfl).2.1 (g32_n T.1 (by decide)) T.1.1 T.1.2 (fun h29 => ?_)
      have T := T.2 h29
      refine wp_goto (tgt := 95) d_Rs_compareWith_89 (by decide) ?_
      refine wp_istore (L' := [.val (gR G (c + 234)), .val (gR G r1), .val (gI x2), .val (gI x3), .val (gI x4), .val (gI (M (r1 + 1) (Int.toNat x2))), .val (gI (M (s1 + 1) (Int.toNat x3)))]) d_Rs_compareWith_95 (by decide) rfl ?_
      refine wp_iload d_Rs_compareWith_97 rfl ?_
      refine wp_iload d_Rs_compareWith_99 rfl ?_
      refine xi_ne (tgt := 120) d_Rs_compareWith_101 (by decide) (w32_id h22) (w32_id h29) (fun h34 => ?_) (fun h34 => ?_)
      · have T := T.1 h34
        exact wp_md (wpt T (And.intro rfl (And.intro rfl (And.intro rfl (And.intro rfl (And.intro rfl (And.intro rfl (And.intro rfl True.intro))))))))
      · have T := T.2 h34
        refine wp_aload_n d_Rs_compareWith_104 rfl rfl (g_nz (gl_1 hX 234)) ?_
        refine xgetR d_Rs_compareWith_105 gc_Rs f_Rs_23.1 f_Rs_23.2.1 f_Rs_23.2.2.1 (gl_1 hX 234) (gl_2 hX (a := 234) (by decide)) (gl_s hX 24 rfl) f_Rs_23.2.2.2.2.1 hv1.1 ?_
        refine wp_iload_n d_Rs_compareWith_108 rfl rfl ?_
        refine wp_aload_n d_Rs_compareWith_109 rfl rfl (g_nz (gl_1 hX 234)) ?_
        refine xgetR d_Rs_compareWith_110 gc_Rs f_Rs_27.1 f_Rs_27.2.1 f_Rs_27.2.2.1 (gl_1 hX 234) (gl_2 hX (a := 234) (by decide)) (gl_s hX 24 rfl) f_Rs_27.2.2.2.2.1 hv2.1 ?_
        refine wp_iload_n d_Rs_compareWith_113 rfl rfl ?_
        refine xcV_Z (md' := true) (As := [gI x3, gR G v2, gI x2]) (st := []) d_Rs_compareWith_114 ca_Vl_same ml_Rs_99 im_Vl_same se_Vl_same gc_Vl hv1.2.1 (gv_2 hv1.2) hv1.2.2.2.1 rfl (by decide) (by decide) rfl (fun _ => rfl) (fun _ => rfl) T (fun v31 M30 h32 T => ?_)
        refine xz_ne (tgt := 146) d_Rs_compareWith_117 (by decide) (w32_id (g32_z h32)) (fun h33 => ?_) (fun h33 => ?_)
        · have T := T.1 h33
          exact wp_md (wpt T (And.intro rfl (And.intro rfl (And.intro rfl (And.intro rfl (And.intro rfl (And.intro rfl (And.intro rfl True.intro))))))))
        · have T := T.2 h33
          exact wp_md (wpt T (And.intro rfl (And.intro rfl (And.intro rfl (And.intro rfl (And.intro rfl (And.intro rfl (And.intro rfl True.intro))))))))
set_option maxHeartbeats 4000000 in
theorem w_Rs_compareWith_120 {l : Launch} {G : gG} {d : Nat} {X : gX} {M : gM} {k : gM → Prop} {c : Nat} (hX : glX X c) {x2 : Int} (hx2 : g32 x2) {x3 : Int} (hx3 : g32 x3) {x4 : Int} (hx4 : g32 x4) {x5 : Int} (hx5 : g32 x5) {x6 : Int} (hx6 : g32 x6) {r1 : Nat} (hr1 : gsX X r1) {v2 : Nat} (hv2 : X.2.2 (c + 234) 5 = v2 ∧ gvX X v2 401) {s1 : Nat} (hs1 : X.2.2 (c + 234) 6 = s1 ∧ gsX X s1) {v1 : Nat} (hv1 : X.2.2 (c + 234) 4 = v1 ∧ gvX X v1 401) (T : g32 (M (c + 234) 7) → (cI l G y_jMath_min (gRm d) false [gI x5, gI x6] X M (fun v39 M38 => (((0 : Int) ≤ M (c + 234) 7 ∧ M (c + 234) 7 < 800) ∧ (g32 ((gUp M38 (c + 236) (Int.toNat (M (c + 234) 7)) v39) (c + 234) 7) → (wp l G y_Rs_compareWith (gRm (d + 1)) true (kkV X k) true 146 [.val (gR G (c + 234)), .val (gR G r1), .val (gI x2), .val (gI x3), .val (gI x4), .val (gI x5), .val (gI x6)] [] X (gUp (gUp M38 (c + 236) (Int.toNat (M (c + 234) 7)) v39) (c + 234) 7 (w32 (((gUp M38 (c + 236) (Int.toNat (M (c + 234) 7)) v39) (c + 234) 7) + 1))) 0 0)))))) : wp l G y_Rs_compareWith (gRm (d + 1)) true (kkV X k) true 120 [.val (gR G (c + 234)), .val (gR G r1), .val (gI x2), .val (gI x3), .val (gI x4), .val (gI x5), .val (gI x6)] [] X M 0 0 := by
  refine wp_aload_n d_Rs_compareWith_120 rfl rfl (g_nz (gl_1 hX 234)) ?_
  refine xgetR d_Rs_compareWith_121 gc_Rs f_Rs_15.1 f_Rs_15.2.1 f_Rs_15.2.2.1 (gl_1 hX 234) (gl_2 hX (a := 234) (by decide)) (gl_s hX 24 rfl) f_Rs_15.2.2.2.2.1 (gl_f hX 29 rfl) ?_
  refine wp_aload_n d_Rs_compareWith_124 rfl rfl (g_nz (gl_1 hX 234)) ?_
  refine xgetI d_Rs_compareWith_125 gc_Rs f_Rs_96.1 f_Rs_96.2.1 f_Rs_96.2.2.1 (gl_1 hX 234) (gl_2 hX (a := 234) (by decide)) (gl_s hX 24 rfl) f_Rs_96.2.2.2.2.1 (fun h37 => ?_)
  have T := T h37
  refine wp_iload d_Rs_compareWith_128 rfl ?_
  refine wp_iload d_Rs_compareWith_130 rfl ?_
  refine xcS_I (md' := true) (As := [gI x5, gI x6]) (st := [gI (M (c + 234) 7), gR G (c + 236)]) d_Rs_compareWith_132 ca_jMath_min ml_Rs_103 sm_jMath_min rfl (by decide) (by simp only [List.map, gR_cat, gI_cat, gL_cat, List.sum_cons, List.sum_nil]; decide) rfl (fun _ => rfl) (fun _ => rfl) T (fun v39 M38 h40 T => ?_)
  refine xiast d_Rs_compareWith_135 (gl_1 hX 236) (gl_2 hX (a := 236) (by decide)) (gl_s hX 26 rfl) (by decide) T.1 (w32_id h40) ?_
  have T := T.2
  refine wp_aload_n d_Rs_compareWith_136 rfl rfl (g_nz (gl_1 hX 234)) ?_
  refine wp_dup d_Rs_compareWith_137 (gR_cat _) ?_
  refine xgetI d_Rs_compareWith_138 gc_Rs f_Rs_96.1 f_Rs_96.2.1 f_Rs_96.2.2.1 (gl_1 hX 234) (gl_2 hX (a := 234) (by decide)) (gl_s hX 24 rfl) f_Rs_96.2.2.2.2.1 (fun h41 => ?_)
  have T := T h41
  refine wp_iconst d_Rs_compareWith_141 ?_
  refine wp_iadd d_Rs_compareWith_142 ?_
  refine xputI d_Rs_compareWith_143 gc_Rs f_Rs_96.1 f_Rs_96.2.1 f_Rs_96.2.2.1 (gl_1 hX 234) (gl_2 hX (a := 234) (by decide)) (gl_s hX 24 rfl) f_Rs_96.2.2.2.1 f_Rs_96.2.2.2.2.1 f_Rs_96.2.2.2.2.2 rfl ?_
  exact wp_md (wpt T (And.intro rfl (And.intro rfl (And.intro rfl (And.intro rfl (And.intro rfl (And.intro rfl (And.intro rfl True.intro))))))))
set_option maxHeartbeats 4000000 in
theorem w_Rs_compareWith_146 {l : Launch} {G : gG} {d : Nat} {X : gX} {M : gM} {k : gM → Prop} {c : Nat} (hX : glX X c) {x2 : Int} (hx2 : g32 x2) {x3 : Int} (hx3 : g32 x3) {x4 : Int} (hx4 : g32 x4) {x5 : Int} (hx5 : g32 x5) {x6 : Int} (hx6 : g32 x6) {r1 : Nat} (hr1 : gsX X r1) {v2 : Nat} (hv2 : X.2.2 (c + 234) 5 = v2 ∧ gvX X v2 401) {s1 : Nat} (hs1 : X.2.2 (c + 234) 6 = s1 ∧ gsX X s1) {v1 : Nat} (hv1 : X.2.2 (c + 234) 4 = v1 ∧ gvX X v1 401) (T : (x6 < x5 → ((x5 < x6 → (wp l G y_Rs_compareWith (gRm (d + 1)) true (kkV X k) true 23 [.val (gR G (c + 234)), .val (gR G r1), .val (gI (w32 (x2 + 0))), .val (gI (w32 (x3 + 0))), .val (gI (w32 (x4 + (-1)))), .unset, .unset] [] X M 0 0)) ∧ (¬ x5 < x6 → (wp l G y_Rs_compareWith (gRm (d + 1)) true (kkV X k) true 23 [.val (gR G (c + 234)), .val (gR G r1), .val (gI (w32 (x2 + 0))), .val (gI (w32 (x3 + 1))), .val (gI (w32 (x4 + (-1)))), .unset, .unset] [] X M 0 0)))) ∧ (¬ x6 < x5 → ((x5 < x6 → (wp l G y_Rs_compareWith (gRm (d + 1)) true (kkV X k) true 23 [.val (gR G (c + 234)), .val (gR G r1), .val (gI (w32 (x2 + 1))), .val (gI (w32 (x3 + 0))), .val (gI (w32 (x4 + (-1)))), .unset, .unset] [] X M 0 0)) ∧ (¬ x5 < x6 → (wp l G y_Rs_compareWith (gRm (d + 1)) true (kkV X k) true 23 [.val (gR G (c + 234)), .val (gR G r1), .val (gI (w32 (x2 + 1))), .val (gI (w32 (x3 + 1))), .val (gI (w32 (x4 + (-1)))), .unset, .unset] [] X M 0 0))))) : wp l G y_Rs_compareWith (gRm (d + 1)) true (kkV X k) true 146 [.val (gR G (c + 234)), .val (gR G r1), .val (gI x2), .val (gI x3), .val (gI x4), .val (gI x5), .val (gI x6)] [] X M 0 0 := by
  refine wp_iload_n d_Rs_compareWith_146 rfl rfl ?_
  refine wp_iload d_Rs_compareWith_147 rfl ?_
  refine wp_iload d_Rs_compareWith_149 rfl ?_
  refine xi_gt (tgt := 158) d_Rs_compareWith_151 (by decide) (w32_id hx5) (w32_id hx6) (fun h44 => ?_) (fun h44 => ?_)
  · have T := T.1 h44
    refine wp_iconst d_Rs_compareWith_158 ?_
    refine wp_iadd d_Rs_compareWith_159 ?_
    refine wp_istore_n (L' := [.val (gR G (c + 234)), .val (gR G r1), .val (gI (x2 + 0)), .val (gI x3), .val (gI x4), .val (gI x5), .val (gI x6)]) d_Rs_compareWith_160 rfl (by decide) (gS1_R rfl rfl) ?_
    refine wp_iload_n d_Rs_compareWith_161 rfl rfl ?_
    refine wp_iload d_Rs_compareWith_162 rfl ?_
    refine wp_iload d_Rs_compareWith_164 rfl ?_
    refine xi_gt (tgt := 173) d_Rs_compareWith_166 (by decide) (w32_id hx6) (w32_id hx5) (fun h42 => ?_) (fun h42 => ?_)
    · have T := T.1 h42
      refine wp_iconst d_Rs_compareWith_173 ?_
      refine wp_iadd d_Rs_compareWith_174 ?_
      refine wp_istore_n (L' := [.val (gR G (c + 234)), .val (gR G r1), .val (gI (x2 + 0)), .val (gI (x3 + 0)), .val (gI x4), .val (gI x5), .val (gI x6)]) d_Rs_compareWith_175 rfl (by decide) rfl ?_
      refine wp_iinc (L' := [.val (gR G (c + 234)), .val (gR G r1), .val (gI (x2 + 0)), .val (gI (x3 + 0)), .val (gI (x4 + (-1))), .val (gI x5), .val (gI x6)]) d_Rs_compareWith_176 rfl (by decide) rfl ?_
      refine wp_goto (tgt := 23) d_Rs_compareWith_179 (by decide) ?_
      exact wp_md (wpt T (And.intro rfl (And.intro rfl (And.intro (gI_w _) (And.intro (gI_w _) (And.intro (gI_w _) True.intro))))))
    · have T := T.2 h42
      refine wp_iconst d_Rs_compareWith_169 ?_
      refine wp_goto (tgt := 174) d_Rs_compareWith_170 (by decide) ?_
      refine wp_iadd d_Rs_compareWith_174 ?_
      refine wp_istore_n (L' := [.val (gR G (c + 234)), .val (gR G r1), .val (gI (x2 + 0)), .val (gI (x3 + 1)), .val (gI x4), .val (gI x5), .val (gI x6)]) d_Rs_compareWith_175 rfl (by decide) rfl ?_
      refine wp_iinc (L' := [.val (gR G (c + 234)), .val (gR G r1), .val (gI (x2 + 0)), .val (gI (x3 + 1)), .val (gI (x4 + (-1))), .val (gI x5), .val (gI x6)]) d_Rs_compareWith_176 rfl (by decide) rfl ?_
      refine wp_goto (tgt := 23) d_Rs_compareWith_179 (by decide) ?_
      exact wp_md (wpt T (And.intro rfl (And.intro rfl (And.intro (gI_w _) (And.intro (gI_w _) (And.intro (gI_w _) True.intro))))))
  · have T := T.2 h44
    refine wp_iconst d_Rs_compareWith_154 ?_
    refine wp_goto (tgt := 159) d_Rs_compareWith_155 (by decide) ?_
    refine wp_iadd d_Rs_compareWith_159 ?_
    refine wp_istore_n (L' := [.val (gR G (c + 234)), .val (gR G r1), .val (gI (x2 + 1)), .val (gI x3), .val (gI x4), .val (gI x5), .val (gI x6)]) d_Rs_compareWith_160 rfl (by decide) (gS1_R rfl rfl) ?_
    refine wp_iload_n d_Rs_compareWith_161 rfl rfl ?_
    refine wp_iload d_Rs_compareWith_162 rfl ?_
    refine wp_iload d_Rs_compareWith_164 rfl ?_
    refine xi_gt (tgt := 173) d_Rs_compareWith_166 (by decide) (w32_id hx6) (w32_id hx5) (fun h43 => ?_) (fun h43 => ?_)
    · have T := T.1 h43
      refine wp_iconst d_Rs_compareWith_173 ?_
      refine wp_iadd d_Rs_compareWith_174 ?_
      refine wp_istore_n (L' := [.val (gR G (c + 234)), .val (gR G r1), .val (gI (x2 + 1)), .val (gI (x3 + 0)), .val (gI x4), .val (gI x5), .val (gI x6)]) d_Rs_compareWith_175 rfl (by decide) rfl ?_
      refine wp_iinc (L' := [.val (gR G (c + 234)), .val (gR G r1), .val (gI (x2 + 1)), .val (gI (x3 + 0)), .val (gI (x4 + (-1))), .val (gI x5), .val (gI x6)]) d_Rs_compareWith_176 rfl (by decide) rfl ?_
      refine wp_goto (tgt := 23) d_Rs_compareWith_179 (by decide) ?_
      exact wp_md (wpt T (And.intro rfl (And.intro rfl (And.intro (gI_w _) (And.intro (gI_w _) (And.intro (gI_w _) True.intro))))))
    · have T := T.2 h43
      refine wp_iconst d_Rs_compareWith_169 ?_
      refine wp_goto (tgt := 174) d_Rs_compareWith_170 (by decide) ?_
      refine wp_iadd d_Rs_compareWith_174 ?_
      refine wp_istore_n (L' := [.val (gR G (c + 234)), .val (gR G r1), .val (gI (x2 + 1)), .val (gI (x3 + 1)), .val (gI x4), .val (gI x5), .val (gI x6)]) d_Rs_compareWith_175 rfl (by decide) rfl ?_
      refine wp_iinc (L' := [.val (gR G (c + 234)), .val (gR G r1), .val (gI (x2 + 1)), .val (gI (x3 + 1)), .val (gI (x4 + (-1))), .val (gI x5), .val (gI x6)]) d_Rs_compareWith_176 rfl (by decide) rfl ?_
      refine wp_goto (tgt := 23) d_Rs_compareWith_179 (by decide) ?_
      exact wp_md (wpt T (And.intro rfl (And.intro rfl (And.intro (gI_w _) (And.intro (gI_w _) (And.intro (gI_w _) True.intro))))))
theorem e_Rs_compareWith {l : Launch} {G : gG} {d : Nat} {X : gX} {M : gM} {k : gM → Prop} {c : Nat} {r1 : Nat} (T : wp l G y_Rs_compareWith (gRm (d + 1)) true (kkV X k) false 0 [.val (gR G (c + 234)), .val (gR G r1), .unset, .unset, .unset, .unset, .unset] [] X M 0 0) : cV l G y_Rs_compareWith (gRm (d + 1)) true [gR G (c + 234), gR G r1] X M k := cen_V (plainFor_of_name rfl) (by simp only [lg_sl_R, lg_sl_I, lg_sl_L, lg_sl_N, List.length_cons, List.length_nil]; decide) (by unfold gEn; simp only [lg_sl_R, lg_sl_I, lg_sl_L, lg_sl_N]; exact wpt T (And.intro rfl (And.intro rfl True.intro)))
theorem d_Rs_cycles_0 : decode prog_9_method_4_code 0 = .ok (.iconst 0, 1) := by decide +kernel
theorem d_Rs_cycles_1 : decode prog_9_method_4_code 1 = .ok (.istore_n 2, 1) := by decide +kernel
theorem d_Rs_cycles_2 : decode prog_9_method_4_code 2 = .ok (.iconst 0, 1) := by decide +kernel
theorem d_Rs_cycles_3 : decode prog_9_method_4_code 3 = .ok (.istore_n 3, 1) := by decide +kernel
theorem d_Rs_cycles_4 : decode prog_9_method_4_code 4 = .ok (.iload_n 3, 1) := by decide +kernel
theorem d_Rs_cycles_5 : decode prog_9_method_4_code 5 = .ok (.iload_n 1, 1) := by decide +kernel
theorem d_Rs_cycles_6 : decode prog_9_method_4_code 6 = .ok (.if_icmp .ge 41, 3) := by decide +kernel
theorem d_Rs_cycles_47 : decode prog_9_method_4_code 47 = .ok (.iload_n 2, 1) := by decide +kernel
theorem d_Rs_cycles_48 : decode prog_9_method_4_code 48 = .ok (.ireturn, 1) := by decide +kernel
theorem d_Rs_cycles_9 : decode prog_9_method_4_code 9 = .ok (.aload_n 0, 1) := by decide +kernel
theorem d_Rs_cycles_10 : decode prog_9_method_4_code 10 = .ok (.getfield 23, 3) := by decide +kernel
theorem d_Rs_cycles_13 : decode prog_9_method_4_code 13 = .ok (.getfield 109, 3) := by decide +kernel
theorem d_Rs_cycles_16 : decode prog_9_method_4_code 16 = .ok (.iload_n 3, 1) := by decide +kernel
theorem d_Rs_cycles_17 : decode prog_9_method_4_code 17 = .ok (.iaload, 1) := by decide +kernel
theorem d_Rs_cycles_18 : decode prog_9_method_4_code 18 = .ok (.iconst 4, 1) := by decide +kernel
theorem d_Rs_cycles_19 : decode prog_9_method_4_code 19 = .ok (.if_icmp .ne 22, 3) := by decide +kernel
theorem d_Rs_cycles_41 : decode prog_9_method_4_code 41 = .ok (.iinc 3 1, 3) := by decide +kernel
theorem d_Rs_cycles_44 : decode prog_9_method_4_code 44 = .ok (.goto (-40), 3) := by decide +kernel
theorem d_Rs_cycles_22 : decode prog_9_method_4_code 22 = .ok (.aload_n 0, 1) := by decide +kernel
theorem d_Rs_cycles_23 : decode prog_9_method_4_code 23 = .ok (.getfield 23, 3) := by decide +kernel
theorem d_Rs_cycles_26 : decode prog_9_method_4_code 26 = .ok (.getfield 112, 3) := by decide +kernel
theorem d_Rs_cycles_29 : decode prog_9_method_4_code 29 = .ok (.iload_n 3, 1) := by decide +kernel
theorem d_Rs_cycles_30 : decode prog_9_method_4_code 30 = .ok (.laload, 1) := by decide +kernel
theorem d_Rs_cycles_31 : decode prog_9_method_4_code 31 = .ok (.ldc2_w 76, 3) := by decide +kernel
theorem d_Rs_cycles_34 : decode prog_9_method_4_code 34 = .ok (.lcmp, 1) := by decide +kernel
theorem d_Rs_cycles_35 : decode prog_9_method_4_code 35 = .ok (.ifCond .ne 6, 3) := by decide +kernel
theorem d_Rs_cycles_38 : decode prog_9_method_4_code 38 = .ok (.iinc 2 1, 3) := by decide +kernel
set_option maxHeartbeats 4000000 in
theorem w_Rs_cycles_0 {l : Launch} {G : gG} {d : Nat} {X : gX} {M : gM} {k : Int → gM → Prop} {c : Nat} (hX : glX X c) {x1 : Int} (hx1 : g32 x1)  (T : wp l G y_Rs_cycles (gRm d) false (kkI X k) false 4 [.val (gR G (c + 234)), .val (gI x1), .val (gI 0), .val (gI 0)] [] X M 0 0) : wp l G y_Rs_cycles (gRm d) false (kkI X k) false 0 [.val (gR G (c + 234)), .val (gI x1), .unset, .unset] [] X M 0 0 := by
  refine wp_iconst d_Rs_cycles_0 ?_
  refine wp_istore_n (L' := [.val (gR G (c + 234)), .val (gI x1), .val (gI 0), .unset]) d_Rs_cycles_1 rfl (by decide) rfl ?_
  refine wp_iconst d_Rs_cycles_2 ?_
  refine wp_istore_n (L' := [.val (gR G (c + 234)), .val (gI x1), .val (gI 0), .val (gI 0)]) d_Rs_cycles_3 rfl (by decide) rfl ?_
  exact (wpt T (And.intro rfl (And.intro rfl (And.intro rfl (And.intro rfl True.intro)))))
set_option maxHeartbeats 4000000 in
theorem w_Rs_cycles_4 {l : Launch} {G : gG} {d : Nat} {X : gX} {M : gM} {k : Int → gM → Prop} {c : Nat} (hX : glX X c) {x1 : Int} (hx1 : g32 x1) {x2 : Int} (hx2 : g32 x2) {x3 : Int} (hx3 : g32 x3) {v1 : Nat} (hv1 : X.2.2 (c + 234) 4 = v1 ∧ gvX X v1 401) (T : (x1 ≤ x3 → (k x2 M)) ∧ (¬ x1 ≤ x3 → (((0 : Int) ≤ x3 ∧ x3 < 401) ∧ (g32 (M (v1 + 1) (Int.toNat x3)) → ((¬ M (v1 + 1) (Int.toNat x3) = 4 → (wp l G y_Rs_cycles (gRm d) false (kkI X k) false 4 [.val (gR G (c + 234)), .val (gI x1), .val (gI x2), .val (gI (w32 (x3 + 1)))] [] X M 0 0)) ∧ (M (v1 + 1) (Int.toNat x3) = 4 → (((0 : Int) ≤ x3 ∧ x3 < 401) ∧ (g64 (M (v1 + 2) (Int.toNat x3)) → ((¬ M (v1 + 2) (Int.toNat x3) = 8 → (wp l G y_Rs_cycles (gRm d) false (kkI X k) false 4 [.val (gR G (c + 234)), .val (gI x1), .val (gI x2), .val (gI (w32 (x3 + 1)))] [] X M 0 0)) ∧ (M (v1 + 2) (Int.toNat x3) = 8 → (wp l G y_Rs_cycles (gRm d) false (kkI X k) false 4 [.val (gR G (c + 234)), .val (gI x1), .val (gI (w32 (x2 + 1))), .val (gI (w32 (x3 + 1)))] [] X M 0 0))))))))))) : wp l G y_Rs_cycles (gRm d) false (kkI X k) false 4 [.val (gR G (c + 234)), .val (gI x1), .val (gI x2), .val (gI x3)] [] X M 0 0 := by
  refine wp_iload_n d_Rs_cycles_4 rfl rfl ?_
  refine wp_iload_n d_Rs_cycles_5 rfl rfl ?_
  refine xi_ge (tgt := 47) d_Rs_cycles_6 (by decide) (w32_id hx3) (w32_id hx1) (fun h5 => ?_) (fun h5 => ?_)
  · have T := T.1 h5
    refine wp_iload_n d_Rs_cycles_47 rfl rfl ?_
    exact wp_ireturn d_Rs_cycles_48 rfl id (Nat.zero_le _) (Nat.zero_le _) (kI_mk hx2 T)
  · have T := T.2 h5
    refine wp_aload_n d_Rs_cycles_9 rfl rfl (g_nz (gl_1 hX 234)) ?_
    refine xgetR d_Rs_cycles_10 gc_Rs f_Rs_23.1 f_Rs_23.2.1 f_Rs_23.2.2.1 (gl_1 hX 234) (gl_2 hX (a := 234) (by decide)) (gl_s hX 24 rfl) f_Rs_23.2.2.2.2.1 hv1.1 ?_
    refine xgetR d_Rs_cycles_13 gc_Vl f_Rs_109.1 f_Rs_109.2.1 f_Rs_109.2.2.1 hv1.2.1 (gv_2 hv1.2) hv1.2.2.2.1 f_Rs_109.2.2.2.2.1 (gv_r1 hv1.2).1 ?_
    refine wp_iload_n d_Rs_cycles_16 rfl rfl ?_
    refine wp_iaload d_Rs_cycles_17 (gv_r1 hv1.2).2.2.1 (gv_r1 hv1.2).2.2.2 (gv_r1 hv1.2).2.1 (g32_n T.1 (gv_n hv1.2)) T.1.1 T.1.2 (fun h1 => ?_)
    have T := T.2 h1
    refine wp_iconst d_Rs_cycles_18 ?_
    refine xi_ne (tgt := 41) d_Rs_cycles_19 (by decide) (w32_id h1) (w32_id (g32_c (x := 4) rfl)) (fun h4 => ?_) (fun h4 => ?_)
    · have T := T.1 h4
      refine wp_iinc (L' := [.val (gR G (c + 234)), .val (gI x1), .val (gI x2), .val (gI (x3 + 1))]) d_Rs_cycles_41 rfl (by decide) rfl ?_
      refine wp_goto (tgt := 4) d_Rs_cycles_44 (by decide) ?_
      exact (wpt T (And.intro rfl (And.intro rfl (And.intro rfl (And.intro (gI_w _) True.intro)))))
    · have T := T.2 h4
      refine wp_aload_n d_Rs_cycles_22 rfl rfl (g_nz (gl_1 hX 234)) ?_
      refine xgetR d_Rs_cycles_23 gc_Rs f_Rs_23.1 f_Rs_23.2.1 f_Rs_23.2.2.1 (gl_1 hX 234) (gl_2 hX (a := 234) (by decide)) (gl_s hX 24 rfl) f_Rs_23.2.2.2.2.1 hv1.1 ?_
      refine xgetR d_Rs_cycles_26 gc_Vl f_Rs_112.1 f_Rs_112.2.1 f_Rs_112.2.2.1 hv1.2.1 (gv_2 hv1.2) hv1.2.2.2.1 f_Rs_112.2.2.2.2.1 (gv_r2 hv1.2).1 ?_
      refine wp_iload_n d_Rs_cycles_29 rfl rfl ?_
      refine wp_laload d_Rs_cycles_30 (gv_r2 hv1.2).2.2.1 (gv_r2 hv1.2).2.2.2 (gv_r2 hv1.2).2.1 (g32_n T.1 (gv_n hv1.2)) T.1.1 T.1.2 (fun h2 => ?_)
      have T := T.2 h2
      refine wp_ldc2 (n := 8) d_Rs_cycles_31 c_Rs_76 rfl ?_
      refine xl_ne (tgt := 41) d_Rs_cycles_34 d_Rs_cycles_35 (by decide) (w64_id h2) (w64_id (g64_c (x := 8) rfl)) (fun h3 => ?_) (fun h3 => ?_)
      · have T := T.1 h3
        refine wp_iinc (L' := [.val (gR G (c + 234)), .val (gI x1), .val (gI x2), .val (gI (x3 + 1))]) d_Rs_cycles_41 rfl (by decide) rfl ?_
        refine wp_goto (tgt := 4) d_Rs_cycles_44 (by decide) ?_
        exact (wpt T (And.intro rfl (And.intro rfl (And.intro rfl (And.intro (gI_w _) True.intro)))))
      · have T := T.2 h3
        refine wp_iinc (L' := [.val (gR G (c + 234)), .val (gI x1), .val (gI (x2 + 1)), .val (gI x3)]) d_Rs_cycles_38 rfl (by decide) rfl ?_
        refine wp_iinc (L' := [.val (gR G (c + 234)), .val (gI x1), .val (gI (x2 + 1)), .val (gI (x3 + 1))]) d_Rs_cycles_41 rfl (by decide) rfl ?_
        refine wp_goto (tgt := 4) d_Rs_cycles_44 (by decide) ?_
        exact (wpt T (And.intro rfl (And.intro rfl (And.intro (gI_w _) (And.intro (gI_w _) True.intro)))))
theorem e_Rs_cycles {l : Launch} {G : gG} {d : Nat} {X : gX} {M : gM} {k : Int → gM → Prop} {c : Nat} {x1 : Int} (T : wp l G y_Rs_cycles (gRm d) false (kkI X k) false 0 [.val (gR G (c + 234)), .val (gI x1), .unset, .unset] [] X M 0 0) : cI l G y_Rs_cycles (gRm d) false [gR G (c + 234), gI x1] X M k := cen_I (plainFor_of_name rfl) (by simp only [lg_sl_R, lg_sl_I, lg_sl_L, lg_sl_N, List.length_cons, List.length_nil]; decide) (by unfold gEn; simp only [lg_sl_R, lg_sl_I, lg_sl_L, lg_sl_N]; exact wpt T (And.intro rfl (And.intro rfl True.intro)))
theorem d_St_refs_0 : decode prog_10_method_2_code 0 = .ok (.aload_n 0, 1) := by decide +kernel
theorem d_St_refs_1 : decode prog_10_method_2_code 1 = .ok (.getfield 18, 3) := by decide +kernel
theorem d_St_refs_4 : decode prog_10_method_2_code 4 = .ok (.iload_n 1, 1) := by decide +kernel
theorem d_St_refs_5 : decode prog_10_method_2_code 5 = .ok (.iconst 1, 1) := by decide +kernel
theorem d_St_refs_6 : decode prog_10_method_2_code 6 = .ok (.iadd, 1) := by decide +kernel
theorem d_St_refs_7 : decode prog_10_method_2_code 7 = .ok (.iaload, 1) := by decide +kernel
theorem d_St_refs_8 : decode prog_10_method_2_code 8 = .ok (.aload_n 0, 1) := by decide +kernel
theorem d_St_refs_9 : decode prog_10_method_2_code 9 = .ok (.getfield 18, 3) := by decide +kernel
theorem d_St_refs_12 : decode prog_10_method_2_code 12 = .ok (.iload_n 1, 1) := by decide +kernel
theorem d_St_refs_13 : decode prog_10_method_2_code 13 = .ok (.iaload, 1) := by decide +kernel
theorem d_St_refs_14 : decode prog_10_method_2_code 14 = .ok (.isub, 1) := by decide +kernel
theorem d_St_refs_15 : decode prog_10_method_2_code 15 = .ok (.ireturn, 1) := by decide +kernel
set_option maxHeartbeats 4000000 in
theorem w_St_refs_0 {l : Launch} {G : gG} {d : Nat} {X : gX} {M : gM} {k : Int → gM → Prop} {a : Nat} (hA : gsX X a) {x1 : Int} (hx1 : g32 x1)  (T : ((0 : Int) ≤ x1 + 1 ∧ x1 + 1 < 401) ∧ (g32 (M (a + 3) (Int.toNat (x1 + 1))) → (((0 : Int) ≤ x1 ∧ x1 < 401) ∧ (g32 (M (a + 3) (Int.toNat x1)) → (k (w32 ((M (a + 3) (Int.toNat (x1 + 1))) - (M (a + 3) (Int.toNat x1)))) M))))) : wp l G y_St_refs (gRm d) false (kkI X k) false 0 [.val (gR G a), .val (gI x1)] [] X M 0 0 := by
  refine wp_aload_n d_St_refs_0 rfl rfl (g_nz hA.1) ?_
  refine xgetR d_St_refs_1 gc_St f_St_18.1 f_St_18.2.1 f_St_18.2.2.1 hA.1 (gs_2 hA) hA.2.2.1 f_St_18.2.2.2.2.1 (gs_r hA 2 rfl).1 ?_
  refine wp_iload_n d_St_refs_4 rfl rfl ?_
  refine wp_iconst d_St_refs_5 ?_
  refine wp_iadd d_St_refs_6 ?_
  refine wp_iaload d_St_refs_7 (gs_r hA 2 rfl).2.2.1 (gs_r hA 2 rfl).2.2.2 (gs_r hA 2 rfl).2.1 (g32_n T.1 (by decide)) T.1.1 T.1.2 (fun h1 => ?_)
  have T := T.2 h1
  refine wp_aload_n d_St_refs_8 rfl rfl (g_nz hA.1) ?_
  refine xgetR d_St_refs_9 gc_St f_St_18.1 f_St_18.2.1 f_St_18.2.2.1 hA.1 (gs_2 hA) hA.2.2.1 f_St_18.2.2.2.2.1 (gs_r hA 2 rfl).1 ?_
  refine wp_iload_n d_St_refs_12 rfl rfl ?_
  refine wp_iaload d_St_refs_13 (gs_r hA 2 rfl).2.2.1 (gs_r hA 2 rfl).2.2.2 (gs_r hA 2 rfl).2.1 (g32_n T.1 (by decide)) T.1.1 T.1.2 (fun h2 => ?_)
  have T := T.2 h2
  refine wp_isub d_St_refs_14 ?_
  exact wp_st (st' := [gI (w32 ((M (a + 3) (Int.toNat (x1 + 1))) - (M (a + 3) (Int.toNat x1))))]) (by rw [gI_w]) (wp_ireturn d_St_refs_15 rfl id (Nat.zero_le _) (Nat.zero_le _) (kI_mk (w32_ok _) T))
theorem e_St_refs {l : Launch} {G : gG} {d : Nat} {X : gX} {M : gM} {k : Int → gM → Prop} {a : Nat} {x1 : Int} (T : wp l G y_St_refs (gRm d) false (kkI X k) false 0 [.val (gR G a), .val (gI x1)] [] X M 0 0) : cI l G y_St_refs (gRm d) false [gR G a, gI x1] X M k := cen_I (plainFor_of_name rfl) (by simp only [lg_sl_R, lg_sl_I, lg_sl_L, lg_sl_N, List.length_cons, List.length_nil]; decide) (by unfold gEn; simp only [lg_sl_R, lg_sl_I, lg_sl_L, lg_sl_N]; exact wpt T (And.intro rfl (And.intro rfl True.intro)))
theorem d_St_gone_0 : decode prog_10_method_3_code 0 = .ok (.iconst 0, 1) := by decide +kernel
theorem d_St_gone_1 : decode prog_10_method_3_code 1 = .ok (.istore_n 2, 1) := by decide +kernel
theorem d_St_gone_2 : decode prog_10_method_3_code 2 = .ok (.aload_n 0, 1) := by decide +kernel
theorem d_St_gone_3 : decode prog_10_method_3_code 3 = .ok (.getfield 18, 3) := by decide +kernel
theorem d_St_gone_6 : decode prog_10_method_3_code 6 = .ok (.iload_n 1, 1) := by decide +kernel
theorem d_St_gone_7 : decode prog_10_method_3_code 7 = .ok (.iaload, 1) := by decide +kernel
theorem d_St_gone_8 : decode prog_10_method_3_code 8 = .ok (.istore_n 3, 1) := by decide +kernel
theorem d_St_gone_9 : decode prog_10_method_3_code 9 = .ok (.iload_n 3, 1) := by decide +kernel
theorem d_St_gone_10 : decode prog_10_method_3_code 10 = .ok (.aload_n 0, 1) := by decide +kernel
theorem d_St_gone_11 : decode prog_10_method_3_code 11 = .ok (.getfield 18, 3) := by decide +kernel
theorem d_St_gone_14 : decode prog_10_method_3_code 14 = .ok (.iload_n 1, 1) := by decide +kernel
theorem d_St_gone_15 : decode prog_10_method_3_code 15 = .ok (.iconst 1, 1) := by decide +kernel
theorem d_St_gone_16 : decode prog_10_method_3_code 16 = .ok (.iadd, 1) := by decide +kernel
theorem d_St_gone_17 : decode prog_10_method_3_code 17 = .ok (.iaload, 1) := by decide +kernel
theorem d_St_gone_18 : decode prog_10_method_3_code 18 = .ok (.if_icmp .ge 22, 3) := by decide +kernel
theorem d_St_gone_40 : decode prog_10_method_3_code 40 = .ok (.iload_n 2, 1) := by decide +kernel
theorem d_St_gone_41 : decode prog_10_method_3_code 41 = .ok (.ireturn, 1) := by decide +kernel
theorem d_St_gone_21 : decode prog_10_method_3_code 21 = .ok (.aload_n 0, 1) := by decide +kernel
theorem d_St_gone_22 : decode prog_10_method_3_code 22 = .ok (.getfield 21, 3) := by decide +kernel
theorem d_St_gone_25 : decode prog_10_method_3_code 25 = .ok (.iload_n 3, 1) := by decide +kernel
theorem d_St_gone_26 : decode prog_10_method_3_code 26 = .ok (.iaload, 1) := by decide +kernel
theorem d_St_gone_27 : decode prog_10_method_3_code 27 = .ok (.iconst (-1), 1) := by decide +kernel
theorem d_St_gone_28 : decode prog_10_method_3_code 28 = .ok (.if_icmp .ne 6, 3) := by decide +kernel
theorem d_St_gone_34 : decode prog_10_method_3_code 34 = .ok (.iinc 3 1, 3) := by decide +kernel
theorem d_St_gone_37 : decode prog_10_method_3_code 37 = .ok (.goto (-28), 3) := by decide +kernel
theorem d_St_gone_31 : decode prog_10_method_3_code 31 = .ok (.iinc 2 1, 3) := by decide +kernel
set_option maxHeartbeats 4000000 in
theorem w_St_gone_0 {l : Launch} {G : gG} {d : Nat} {X : gX} {M : gM} {k : Int → gM → Prop} {a : Nat} (hA : gsX X a) {x1 : Int} (hx1 : g32 x1)  (T : ((0 : Int) ≤ x1 ∧ x1 < 401) ∧ (g32 (M (a + 3) (Int.toNat x1)) → (wp l G y_St_gone (gRm d) false (kkI X k) false 9 [.val (gR G a), .val (gI x1), .val (gI 0), .val (gI (M (a + 3) (Int.toNat x1)))] [] X M 0 0))) : wp l G y_St_gone (gRm d) false (kkI X k) false 0 [.val (gR G a), .val (gI x1), .unset, .unset] [] X M 0 0 := by
  refine wp_iconst d_St_gone_0 ?_
  refine wp_istore_n (L' := [.val (gR G a), .val (gI x1), .val (gI 0), .unset]) d_St_gone_1 rfl (by decide) rfl ?_
  refine wp_aload_n d_St_gone_2 rfl rfl (g_nz hA.1) ?_
  refine xgetR d_St_gone_3 gc_St f_St_18.1 f_St_18.2.1 f_St_18.2.2.1 hA.1 (gs_2 hA) hA.2.2.1 f_St_18.2.2.2.2.1 (gs_r hA 2 rfl).1 ?_
  refine wp_iload_n d_St_gone_6 rfl rfl ?_
  refine wp_iaload d_St_gone_7 (gs_r hA 2 rfl).2.2.1 (gs_r hA 2 rfl).2.2.2 (gs_r hA 2 rfl).2.1 (g32_n T.1 (by decide)) T.1.1 T.1.2 (fun h1 => ?_)
  have T := T.2 h1
  refine wp_istore_n (L' := [.val (gR G a), .val (gI x1), .val (gI 0), .val (gI (M (a + 3) (Int.toNat x1)))]) d_St_gone_8 rfl (by decide) rfl ?_
  exact (wpt T (And.intro rfl (And.intro rfl (And.intro rfl (And.intro rfl True.intro)))))
set_option maxHeartbeats 4000000 in
theorem w_St_gone_9 {l : Launch} {G : gG} {d : Nat} {X : gX} {M : gM} {k : Int → gM → Prop} {a : Nat} (hA : gsX X a) {x1 : Int} (hx1 : g32 x1) {x2 : Int} (hx2 : g32 x2) {x3 : Int} (hx3 : g32 x3)  (T : ((0 : Int) ≤ x1 + 1 ∧ x1 + 1 < 401) ∧ (g32 (M (a + 3) (Int.toNat (x1 + 1))) → ((M (a + 3) (Int.toNat (x1 + 1)) ≤ x3 → (k x2 M)) ∧ (¬ M (a + 3) (Int.toNat (x1 + 1)) ≤ x3 → (((0 : Int) ≤ x3 ∧ x3 < 20000) ∧ (g32 (M (a + 4) (Int.toNat x3)) → ((¬ M (a + 4) (Int.toNat x3) = (-1) → (wp l G y_St_gone (gRm d) false (kkI X k) false 9 [.val (gR G a), .val (gI x1), .val (gI x2), .val (gI (w32 (x3 + 1)))] [] X M 0 0)) ∧ (M (a + 4) (Int.toNat x3) = (-1) → (wp l G y_St_gone (gRm d) false (kkI X k) false 9 [.val (gR G a), .val (gI x1), .val (gI (w32 (x2 + 1))), .val (gI (w32 (x3 + 1)))] [] X M 0 0))))))))) : wp l G y_St_gone (gRm d) false (kkI X k) false 9 [.val (gR G a), .val (gI x1), .val (gI x2), .val (gI x3)] [] X M 0 0 := by
  refine wp_iload_n d_St_gone_9 rfl rfl ?_
  refine wp_aload_n d_St_gone_10 rfl rfl (g_nz hA.1) ?_
  refine xgetR d_St_gone_11 gc_St f_St_18.1 f_St_18.2.1 f_St_18.2.2.1 hA.1 (gs_2 hA) hA.2.2.1 f_St_18.2.2.2.2.1 (gs_r hA 2 rfl).1 ?_
  refine wp_iload_n d_St_gone_14 rfl rfl ?_
  refine wp_iconst d_St_gone_15 ?_
  refine wp_iadd d_St_gone_16 ?_
  refine wp_iaload d_St_gone_17 (gs_r hA 2 rfl).2.2.1 (gs_r hA 2 rfl).2.2.2 (gs_r hA 2 rfl).2.1 (g32_n T.1 (by decide)) T.1.1 T.1.2 (fun h2 => ?_)
  have T := T.2 h2
  refine xi_ge (tgt := 40) d_St_gone_18 (by decide) (w32_id hx3) (w32_id h2) (fun h5 => ?_) (fun h5 => ?_)
  · have T := T.1 h5
    refine wp_iload_n d_St_gone_40 rfl rfl ?_
    exact wp_ireturn d_St_gone_41 rfl id (Nat.zero_le _) (Nat.zero_le _) (kI_mk hx2 T)
  · have T := T.2 h5
    refine wp_aload_n d_St_gone_21 rfl rfl (g_nz hA.1) ?_
    refine xgetR d_St_gone_22 gc_St f_St_21.1 f_St_21.2.1 f_St_21.2.2.1 hA.1 (gs_2 hA) hA.2.2.1 f_St_21.2.2.2.2.1 (gs_r hA 3 rfl).1 ?_
    refine wp_iload_n d_St_gone_25 rfl rfl ?_
    refine wp_iaload d_St_gone_26 (gs_r hA 3 rfl).2.2.1 (gs_r hA 3 rfl).2.2.2 (gs_r hA 3 rfl).2.1 (g32_n T.1 (by decide)) T.1.1 T.1.2 (fun h3 => ?_)
    have T := T.2 h3
    refine wp_iconst d_St_gone_27 ?_
    refine xi_ne (tgt := 34) d_St_gone_28 (by decide) (w32_id h3) (w32_id (g32_c (x := (-1)) rfl)) (fun h4 => ?_) (fun h4 => ?_)
    · have T := T.1 h4
      refine wp_iinc (L' := [.val (gR G a), .val (gI x1), .val (gI x2), .val (gI (x3 + 1))]) d_St_gone_34 rfl (by decide) rfl ?_
      refine wp_goto (tgt := 9) d_St_gone_37 (by decide) ?_
      exact (wpt T (And.intro rfl (And.intro rfl (And.intro rfl (And.intro (gI_w _) True.intro)))))
    · have T := T.2 h4
      refine wp_iinc (L' := [.val (gR G a), .val (gI x1), .val (gI (x2 + 1)), .val (gI x3)]) d_St_gone_31 rfl (by decide) rfl ?_
      refine wp_iinc (L' := [.val (gR G a), .val (gI x1), .val (gI (x2 + 1)), .val (gI (x3 + 1))]) d_St_gone_34 rfl (by decide) rfl ?_
      refine wp_goto (tgt := 9) d_St_gone_37 (by decide) ?_
      exact (wpt T (And.intro rfl (And.intro rfl (And.intro (gI_w _) (And.intro (gI_w _) True.intro)))))
theorem e_St_gone {l : Launch} {G : gG} {d : Nat} {X : gX} {M : gM} {k : Int → gM → Prop} {a : Nat} {x1 : Int} (T : wp l G y_St_gone (gRm d) false (kkI X k) false 0 [.val (gR G a), .val (gI x1), .unset, .unset] [] X M 0 0) : cI l G y_St_gone (gRm d) false [gR G a, gI x1] X M k := cen_I (plainFor_of_name rfl) (by simp only [lg_sl_R, lg_sl_I, lg_sl_L, lg_sl_N, List.length_cons, List.length_nil]; decide) (by unfold gEn; simp only [lg_sl_R, lg_sl_I, lg_sl_L, lg_sl_N]; exact wpt T (And.intro rfl (And.intro rfl True.intro)))
theorem d_St_entryFrom_0 : decode prog_10_method_4_code 0 = .ok (.iconst 0, 1) := by decide +kernel
theorem d_St_entryFrom_1 : decode prog_10_method_4_code 1 = .ok (.istore_n 2, 1) := by decide +kernel
theorem d_St_entryFrom_2 : decode prog_10_method_4_code 2 = .ok (.aload_n 0, 1) := by decide +kernel
theorem d_St_entryFrom_3 : decode prog_10_method_4_code 3 = .ok (.getfield 24, 3) := by decide +kernel
theorem d_St_entryFrom_6 : decode prog_10_method_4_code 6 = .ok (.istore_n 3, 1) := by decide +kernel
theorem d_St_entryFrom_7 : decode prog_10_method_4_code 7 = .ok (.sipush 400, 3) := by decide +kernel
theorem d_St_entryFrom_10 : decode prog_10_method_4_code 10 = .ok (.istore 4, 2) := by decide +kernel
theorem d_St_entryFrom_12 : decode prog_10_method_4_code 12 = .ok (.iload 4, 2) := by decide +kernel
theorem d_St_entryFrom_14 : decode prog_10_method_4_code 14 = .ok (.ifCond .le 43, 3) := by decide +kernel
theorem d_St_entryFrom_57 : decode prog_10_method_4_code 57 = .ok (.iload_n 2, 1) := by decide +kernel
theorem d_St_entryFrom_58 : decode prog_10_method_4_code 58 = .ok (.ireturn, 1) := by decide +kernel
theorem d_St_entryFrom_17 : decode prog_10_method_4_code 17 = .ok (.iload_n 2, 1) := by decide +kernel
theorem d_St_entryFrom_18 : decode prog_10_method_4_code 18 = .ok (.iload_n 3, 1) := by decide +kernel
theorem d_St_entryFrom_19 : decode prog_10_method_4_code 19 = .ok (.if_icmp .ge 38, 3) := by decide +kernel
theorem d_St_entryFrom_22 : decode prog_10_method_4_code 22 = .ok (.iload_n 2, 1) := by decide +kernel
theorem d_St_entryFrom_23 : decode prog_10_method_4_code 23 = .ok (.iload_n 3, 1) := by decide +kernel
theorem d_St_entryFrom_24 : decode prog_10_method_4_code 24 = .ok (.iadd, 1) := by decide +kernel
theorem d_St_entryFrom_25 : decode prog_10_method_4_code 25 = .ok (.iconst 2, 1) := by decide +kernel
theorem d_St_entryFrom_26 : decode prog_10_method_4_code 26 = .ok (.idiv, 1) := by decide +kernel
theorem d_St_entryFrom_27 : decode prog_10_method_4_code 27 = .ok (.istore 5, 2) := by decide +kernel
theorem d_St_entryFrom_29 : decode prog_10_method_4_code 29 = .ok (.aload_n 0, 1) := by decide +kernel
theorem d_St_entryFrom_30 : decode prog_10_method_4_code 30 = .ok (.getfield 9, 3) := by decide +kernel
theorem d_St_entryFrom_33 : decode prog_10_method_4_code 33 = .ok (.iload 5, 2) := by decide +kernel
theorem d_St_entryFrom_35 : decode prog_10_method_4_code 35 = .ok (.iaload, 1) := by decide +kernel
theorem d_St_entryFrom_36 : decode prog_10_method_4_code 36 = .ok (.iload_n 1, 1) := by decide +kernel
theorem d_St_entryFrom_37 : decode prog_10_method_4_code 37 = .ok (.if_icmp .ge 11, 3) := by decide +kernel
theorem d_St_entryFrom_48 : decode prog_10_method_4_code 48 = .ok (.iload 5, 2) := by decide +kernel
theorem d_St_entryFrom_50 : decode prog_10_method_4_code 50 = .ok (.istore_n 3, 1) := by decide +kernel
theorem d_St_entryFrom_51 : decode prog_10_method_4_code 51 = .ok (.iinc 4 (-1), 3) := by decide +kernel
theorem d_St_entryFrom_54 : decode prog_10_method_4_code 54 = .ok (.goto (-42), 3) := by decide +kernel
theorem d_St_entryFrom_40 : decode prog_10_method_4_code 40 = .ok (.iload 5, 2) := by decide +kernel
theorem d_St_entryFrom_42 : decode prog_10_method_4_code 42 = .ok (.iconst 1, 1) := by decide +kernel
theorem d_St_entryFrom_43 : decode prog_10_method_4_code 43 = .ok (.iadd, 1) := by decide +kernel
theorem d_St_entryFrom_44 : decode prog_10_method_4_code 44 = .ok (.istore_n 2, 1) := by decide +kernel
theorem d_St_entryFrom_45 : decode prog_10_method_4_code 45 = .ok (.goto 6, 3) := by decide +kernel
set_option maxHeartbeats 4000000 in
theorem w_St_entryFrom_0 {l : Launch} {G : gG} {d : Nat} {X : gX} {M : gM} {k : Int → gM → Prop} {a : Nat} (hA : gsX X a) {x1 : Int} (hx1 : g32 x1)  (T : g32 (M a 0) → (wp l G y_St_entryFrom (gRm d) false (kkI X k) false 12 [.val (gR G a), .val (gI x1), .val (gI 0), .val (gI (M a 0)), .val (gI 400), .unset] [] X M 0 0)) : wp l G y_St_entryFrom (gRm d) false (kkI X k) false 0 [.val (gR G a), .val (gI x1), .unset, .unset, .unset, .unset] [] X M 0 0 := by
  refine wp_iconst d_St_entryFrom_0 ?_
  refine wp_istore_n (L' := [.val (gR G a), .val (gI x1), .val (gI 0), .unset, .unset, .unset]) d_St_entryFrom_1 rfl (by decide) rfl ?_
  refine wp_aload_n d_St_entryFrom_2 rfl rfl (g_nz hA.1) ?_
  refine xgetI d_St_entryFrom_3 gc_St f_St_24.1 f_St_24.2.1 f_St_24.2.2.1 hA.1 (gs_2 hA) hA.2.2.1 f_St_24.2.2.2.2.1 (fun h1 => ?_)
  have T := T h1
  refine wp_istore_n (L' := [.val (gR G a), .val (gI x1), .val (gI 0), .val (gI (M a 0)), .unset, .unset]) d_St_entryFrom_6 rfl (by decide) rfl ?_
  refine wp_sipush d_St_entryFrom_7 ⟨by decide, by decide⟩ ?_
  refine wp_istore (L' := [.val (gR G a), .val (gI x1), .val (gI 0), .val (gI (M a 0)), .val (gI 400), .unset]) d_St_entryFrom_10 (by decide) rfl ?_
  exact (wpt T (And.intro rfl (And.intro rfl (And.intro rfl (And.intro rfl (And.intro rfl True.intro))))))
set_option maxHeartbeats 4000000 in
theorem w_St_entryFrom_12 {l : Launch} {G : gG} {d : Nat} {X : gX} {M : gM} {k : Int → gM → Prop} {a : Nat} (hA : gsX X a) {x1 : Int} (hx1 : g32 x1) {x2 : Int} (hx2 : g32 x2) {x3 : Int} (hx3 : g32 x3) {x4 : Int} (hx4 : g32 x4)  (T : (x4 ≤ 0 → (k x2 M)) ∧ (¬ x4 ≤ 0 → ((x3 ≤ x2 → (k x2 M)) ∧ (¬ x3 ≤ x2 → (((0 : Int) ≤ (w32 (x2 + x3)).tdiv 2 ∧ (w32 (x2 + x3)).tdiv 2 < 400) ∧ (g32 (M (a + 1) (Int.toNat ((w32 (x2 + x3)).tdiv 2))) → ((x1 ≤ M (a + 1) (Int.toNat ((w32 (x2 + x3)).tdiv 2)) → (wp l G y_St_entryFrom (gRm d) false (kkI X k) false 12 [.val (gR G a), .val (gI x1), .val (gI x2), .val (gI (w32 ((w32 (x2 + x3)).tdiv 2))), .val (gI (w32 (x4 + (-1)))), .unset] [] X M 0 0)) ∧ (¬ x1 ≤ M (a + 1) (Int.toNat ((w32 (x2 + x3)).tdiv 2)) → (wp l G y_St_entryFrom (gRm d) false (kkI X k) false 12 [.val (gR G a), .val (gI x1), .val (gI (w32 (((w32 (x2 + x3)).tdiv 2) + 1))), .val (gI x3), .val (gI (w32 (x4 + (-1)))), .unset] [] X M 0 0))))))))) : wp l G y_St_entryFrom (gRm d) false (kkI X k) false 12 [.val (gR G a), .val (gI x1), .val (gI x2), .val (gI x3), .val (gI x4), .unset] [] X M 0 0 := by
  refine wp_iload d_St_entryFrom_12 rfl ?_
  refine xz_le (tgt := 57) d_St_entryFrom_14 (by decide) (w32_id hx4) (fun h5 => ?_) (fun h5 => ?_)
  · have T := T.1 h5
    refine wp_iload_n d_St_entryFrom_57 rfl rfl ?_
    exact wp_ireturn d_St_entryFrom_58 rfl id (Nat.zero_le _) (Nat.zero_le _) (kI_mk hx2 T)
  · have T := T.2 h5
    refine wp_iload_n d_St_entryFrom_17 rfl rfl ?_
    refine wp_iload_n d_St_entryFrom_18 rfl rfl ?_
    refine xi_ge (tgt := 57) d_St_entryFrom_19 (by decide) (w32_id hx2) (w32_id hx3) (fun h4 => ?_) (fun h4 => ?_)
    · have T := T.1 h4
      refine wp_iload_n d_St_entryFrom_57 rfl rfl ?_
      exact wp_ireturn d_St_entryFrom_58 rfl id (Nat.zero_le _) (Nat.zero_le _) (kI_mk hx2 T)
    · have T := T.2 h4
      refine wp_iload_n d_St_entryFrom_22 rfl rfl ?_
      refine wp_iload_n d_St_entryFrom_23 rfl rfl ?_
      refine wp_iadd d_St_entryFrom_24 ?_
      refine wp_iconst d_St_entryFrom_25 ?_
      refine xidiv d_St_entryFrom_26 rfl (w32_id (g32_c (x := 2) rfl)) (by decide) ?_
      refine wp_istore (L' := [.val (gR G a), .val (gI x1), .val (gI x2), .val (gI x3), .val (gI x4), .val (gI ((w32 (x2 + x3)).tdiv 2))]) d_St_entryFrom_27 (by decide) rfl ?_
      refine wp_aload_n d_St_entryFrom_29 rfl rfl (g_nz hA.1) ?_
      refine xgetR d_St_entryFrom_30 gc_St f_St_9.1 f_St_9.2.1 f_St_9.2.2.1 hA.1 (gs_2 hA) hA.2.2.1 f_St_9.2.2.2.2.1 (gs_r hA 0 rfl).1 ?_
      refine wp_iload d_St_entryFrom_33 rfl ?_
      refine wp_iaload d_St_entryFrom_35 (gs_r hA 0 rfl).2.2.1 (gs_r hA 0 rfl).2.2.2 (gs_r hA 0 rfl).2.1 (g32_n T.1 (by decide)) T.1.1 T.1.2 (fun h2 => ?_)
      have T := T.2 h2
      refine wp_iload_n d_St_entryFrom_36 rfl rfl ?_
      refine xi_ge (tgt := 48) d_St_entryFrom_37 (by decide) (w32_id h2) (w32_id hx1) (fun h3 => ?_) (fun h3 => ?_)
      · have T := T.1 h3
        refine wp_iload d_St_entryFrom_48 rfl ?_
        refine wp_istore_n (L' := [.val (gR G a), .val (gI x1), .val (gI x2), .val (gI ((w32 (x2 + x3)).tdiv 2)), .val (gI x4), .val (gI ((w32 (x2 + x3)).tdiv 2))]) d_St_entryFrom_50 rfl (by decide) rfl ?_
        refine wp_iinc (L' := [.val (gR G a), .val (gI x1), .val (gI x2), .val (gI ((w32 (x2 + x3)).tdiv 2)), .val (gI (x4 + (-1))), .val (gI ((w32 (x2 + x3)).tdiv 2))]) d_St_entryFrom_51 rfl (by decide) rfl ?_
        refine wp_goto (tgt := 12) d_St_entryFrom_54 (by decide) ?_
        exact (wpt T (And.intro rfl (And.intro rfl (And.intro rfl (And.intro (gI_w _) (And.intro (gI_w _) True.intro))))))
      · have T := T.2 h3
        refine wp_iload d_St_entryFrom_40 rfl ?_
        refine wp_iconst d_St_entryFrom_42 ?_
        refine wp_iadd d_St_entryFrom_43 ?_
        refine wp_istore_n (L' := [.val (gR G a), .val (gI x1), .val (gI (((w32 (x2 + x3)).tdiv 2) + 1)), .val (gI x3), .val (gI x4), .val (gI ((w32 (x2 + x3)).tdiv 2))]) d_St_entryFrom_44 rfl (by decide) rfl ?_
        refine wp_goto (tgt := 51) d_St_entryFrom_45 (by decide) ?_
        refine wp_iinc (L' := [.val (gR G a), .val (gI x1), .val (gI (((w32 (x2 + x3)).tdiv 2) + 1)), .val (gI x3), .val (gI (x4 + (-1))), .val (gI ((w32 (x2 + x3)).tdiv 2))]) d_St_entryFrom_51 rfl (by decide) rfl ?_
        refine wp_goto (tgt := 12) d_St_entryFrom_54 (by decide) ?_
        exact (wpt T (And.intro rfl (And.intro rfl (And.intro (gI_w _) (And.intro rfl (And.intro (gI_w _) True.intro))))))
theorem e_St_entryFrom {l : Launch} {G : gG} {d : Nat} {X : gX} {M : gM} {k : Int → gM → Prop} {a : Nat} {x1 : Int} (T : wp l G y_St_entryFrom (gRm d) false (kkI X k) false 0 [.val (gR G a), .val (gI x1), .unset, .unset, .unset, .unset] [] X M 0 0) : cI l G y_St_entryFrom (gRm d) false [gR G a, gI x1] X M k := cen_I (plainFor_of_name rfl) (by simp only [lg_sl_R, lg_sl_I, lg_sl_L, lg_sl_N, List.length_cons, List.length_nil]; decide) (by unfold gEn; simp only [lg_sl_R, lg_sl_I, lg_sl_L, lg_sl_N]; exact wpt T (And.intro rfl (And.intro rfl True.intro)))
theorem d_St_addEntry_0 : decode prog_10_method_5_code 0 = .ok (.aload_n 0, 1) := by decide +kernel
theorem d_St_addEntry_1 : decode prog_10_method_5_code 1 = .ok (.getfield 9, 3) := by decide +kernel
theorem d_St_addEntry_4 : decode prog_10_method_5_code 4 = .ok (.aload_n 0, 1) := by decide +kernel
theorem d_St_addEntry_5 : decode prog_10_method_5_code 5 = .ok (.getfield 24, 3) := by decide +kernel
theorem d_St_addEntry_8 : decode prog_10_method_5_code 8 = .ok (.iload_n 1, 1) := by decide +kernel
theorem d_St_addEntry_9 : decode prog_10_method_5_code 9 = .ok (.iastore, 1) := by decide +kernel
theorem d_St_addEntry_10 : decode prog_10_method_5_code 10 = .ok (.aload_n 0, 1) := by decide +kernel
theorem d_St_addEntry_11 : decode prog_10_method_5_code 11 = .ok (.getfield 15, 3) := by decide +kernel
theorem d_St_addEntry_14 : decode prog_10_method_5_code 14 = .ok (.aload_n 0, 1) := by decide +kernel
theorem d_St_addEntry_15 : decode prog_10_method_5_code 15 = .ok (.getfield 24, 3) := by decide +kernel
theorem d_St_addEntry_18 : decode prog_10_method_5_code 18 = .ok (.iload_n 2, 1) := by decide +kernel
theorem d_St_addEntry_19 : decode prog_10_method_5_code 19 = .ok (.iastore, 1) := by decide +kernel
theorem d_St_addEntry_20 : decode prog_10_method_5_code 20 = .ok (.aload_n 0, 1) := by decide +kernel
theorem d_St_addEntry_21 : decode prog_10_method_5_code 21 = .ok (.dup, 1) := by decide +kernel
theorem d_St_addEntry_22 : decode prog_10_method_5_code 22 = .ok (.getfield 24, 3) := by decide +kernel
theorem d_St_addEntry_25 : decode prog_10_method_5_code 25 = .ok (.iconst 1, 1) := by decide +kernel
theorem d_St_addEntry_26 : decode prog_10_method_5_code 26 = .ok (.iadd, 1) := by decide +kernel
theorem d_St_addEntry_27 : decode prog_10_method_5_code 27 = .ok (.putfield 24, 3) := by decide +kernel
theorem d_St_addEntry_30 : decode prog_10_method_5_code 30 = .ok (.aload_n 0, 1) := by decide +kernel
theorem d_St_addEntry_31 : decode prog_10_method_5_code 31 = .ok (.getfield 18, 3) := by decide +kernel
theorem d_St_addEntry_34 : decode prog_10_method_5_code 34 = .ok (.aload_n 0, 1) := by decide +kernel
theorem d_St_addEntry_35 : decode prog_10_method_5_code 35 = .ok (.getfield 24, 3) := by decide +kernel
theorem d_St_addEntry_38 : decode prog_10_method_5_code 38 = .ok (.aload_n 0, 1) := by decide +kernel
theorem d_St_addEntry_39 : decode prog_10_method_5_code 39 = .ok (.getfield 18, 3) := by decide +kernel
theorem d_St_addEntry_42 : decode prog_10_method_5_code 42 = .ok (.aload_n 0, 1) := by decide +kernel
theorem d_St_addEntry_43 : decode prog_10_method_5_code 43 = .ok (.getfield 24, 3) := by decide +kernel
theorem d_St_addEntry_46 : decode prog_10_method_5_code 46 = .ok (.iconst 1, 1) := by decide +kernel
theorem d_St_addEntry_47 : decode prog_10_method_5_code 47 = .ok (.isub, 1) := by decide +kernel
theorem d_St_addEntry_48 : decode prog_10_method_5_code 48 = .ok (.iaload, 1) := by decide +kernel
theorem d_St_addEntry_49 : decode prog_10_method_5_code 49 = .ok (.iastore, 1) := by decide +kernel
theorem d_St_addEntry_50 : decode prog_10_method_5_code 50 = .ok (.return_, 1) := by decide +kernel
set_option maxHeartbeats 4000000 in
theorem w_St_addEntry_0 {l : Launch} {G : gG} {d : Nat} {X : gX} {M : gM} {k : gM → Prop} {a : Nat} (hA : gsX X a) {x1 : Int} (hx1 : g32 x1) {x2 : Int} (hx2 : g32 x2)  (T : g32 (M a 0) → (((0 : Int) ≤ M a 0 ∧ M a 0 < 400) ∧ (g32 ((gUp M (a + 1) (Int.toNat (M a 0)) x1) a 0) → (((0 : Int) ≤ (gUp M (a + 1) (Int.toNat (M a 0)) x1) a 0 ∧ (gUp M (a + 1) (Int.toNat (M a 0)) x1) a 0 < 400) ∧ (g32 ((gUp (gUp M (a + 1) (Int.toNat (M a 0)) x1) (a + 2) (Int.toNat ((gUp M (a + 1) (Int.toNat (M a 0)) x1) a 0)) x2) a 0) → (g32 ((gUp (gUp (gUp M (a + 1) (Int.toNat (M a 0)) x1) (a + 2) (Int.toNat ((gUp M (a + 1) (Int.toNat (M a 0)) x1) a 0)) x2) a 0 (w32 (((gUp (gUp M (a + 1) (Int.toNat (M a 0)) x1) (a + 2) (Int.toNat ((gUp M (a + 1) (Int.toNat (M a 0)) x1) a 0)) x2) a 0) + 1))) a 0) → (g32 ((gUp (gUp (gUp M (a + 1) (Int.toNat (M a 0)) x1) (a + 2) (Int.toNat ((gUp M (a + 1) (Int.toNat (M a 0)) x1) a 0)) x2) a 0 (w32 (((gUp (gUp M (a + 1) (Int.toNat (M a 0)) x1) (a + 2) (Int.toNat ((gUp M (a + 1) (Int.toNat (M a 0)) x1) a 0)) x2) a 0) + 1))) a 0) → (((0 : Int) ≤ ((gUp (gUp (gUp M (a + 1) (Int.toNat (M a 0)) x1) (a + 2) (Int.toNat ((gUp M (a + 1) (Int.toNat (M a 0)) x1) a 0)) x2) a 0 (w32 (((gUp (gUp M (a + 1) (Int.toNat (M a 0)) x1) (a + 2) (Int.toNat ((gUp M (a + 1) (Int.toNat (M a 0)) x1) a 0)) x2) a 0) + 1))) a 0) - 1 ∧ ((gUp (gUp (gUp M (a + 1) (Int.toNat (M a 0)) x1) (a + 2) (Int.toNat ((gUp M (a + 1) (Int.toNat (M a 0)) x1) a 0)) x2) a 0 (w32 (((gUp (gUp M (a + 1) (Int.toNat (M a 0)) x1) (a + 2) (Int.toNat ((gUp M (a + 1) (Int.toNat (M a 0)) x1) a 0)) x2) a 0) + 1))) a 0) - 1 < 401) ∧ (g32 ((gUp (gUp (gUp M (a + 1) (Int.toNat (M a 0)) x1) (a + 2) (Int.toNat ((gUp M (a + 1) (Int.toNat (M a 0)) x1) a 0)) x2) a 0 (w32 (((gUp (gUp M (a + 1) (Int.toNat (M a 0)) x1) (a + 2) (Int.toNat ((gUp M (a + 1) (Int.toNat (M a 0)) x1) a 0)) x2) a 0) + 1))) (a + 3) (Int.toNat (((gUp (gUp (gUp M (a + 1) (Int.toNat (M a 0)) x1) (a + 2) (Int.toNat ((gUp M (a + 1) (Int.toNat (M a 0)) x1) a 0)) x2) a 0 (w32 (((gUp (gUp M (a + 1) (Int.toNat (M a 0)) x1) (a + 2) (Int.toNat ((gUp M (a + 1) (Int.toNat (M a 0)) x1) a 0)) x2) a 0) + 1))) a 0) - 1))) → (((0 : Int) ≤ (gUp (gUp (gUp M (a + 1) (Int.toNat (M a 0)) x1) (a + 2) (Int.toNat ((gUp M (a + 1) (Int.toNat (M a 0)) x1) a 0)) x2) a 0 (w32 (((gUp (gUp M (a + 1) (Int.toNat (M a 0)) x1) (a + 2) (Int.toNat ((gUp M (a + 1) (Int.toNat (M a 0)) x1) a 0)) x2) a 0) + 1))) a 0 ∧ (gUp (gUp (gUp M (a + 1) (Int.toNat (M a 0)) x1) (a + 2) (Int.toNat ((gUp M (a + 1) (Int.toNat (M a 0)) x1) a 0)) x2) a 0 (w32 (((gUp (gUp M (a + 1) (Int.toNat (M a 0)) x1) (a + 2) (Int.toNat ((gUp M (a + 1) (Int.toNat (M a 0)) x1) a 0)) x2) a 0) + 1))) a 0 < 401) ∧ (k (gUp (gUp (gUp (gUp M (a + 1) (Int.toNat (M a 0)) x1) (a + 2) (Int.toNat ((gUp M (a + 1) (Int.toNat (M a 0)) x1) a 0)) x2) a 0 (w32 (((gUp (gUp M (a + 1) (Int.toNat (M a 0)) x1) (a + 2) (Int.toNat ((gUp M (a + 1) (Int.toNat (M a 0)) x1) a 0)) x2) a 0) + 1))) (a + 3) (Int.toNat ((gUp (gUp (gUp M (a + 1) (Int.toNat (M a 0)) x1) (a + 2) (Int.toNat ((gUp M (a + 1) (Int.toNat (M a 0)) x1) a 0)) x2) a 0 (w32 (((gUp (gUp M (a + 1) (Int.toNat (M a 0)) x1) (a + 2) (Int.toNat ((gUp M (a + 1) (Int.toNat (M a 0)) x1) a 0)) x2) a 0) + 1))) a 0)) ((gUp (gUp (gUp M (a + 1) (Int.toNat (M a 0)) x1) (a + 2) (Int.toNat ((gUp M (a + 1) (Int.toNat (M a 0)) x1) a 0)) x2) a 0 (w32 (((gUp (gUp M (a + 1) (Int.toNat (M a 0)) x1) (a + 2) (Int.toNat ((gUp M (a + 1) (Int.toNat (M a 0)) x1) a 0)) x2) a 0) + 1))) (a + 3) (Int.toNat (((gUp (gUp (gUp M (a + 1) (Int.toNat (M a 0)) x1) (a + 2) (Int.toNat ((gUp M (a + 1) (Int.toNat (M a 0)) x1) a 0)) x2) a 0 (w32 (((gUp (gUp M (a + 1) (Int.toNat (M a 0)) x1) (a + 2) (Int.toNat ((gUp M (a + 1) (Int.toNat (M a 0)) x1) a 0)) x2) a 0) + 1))) a 0) - 1))))))))))))))) : wp l G y_St_addEntry (gRm d) true (kkV X k) false 0 [.val (gR G a), .val (gI x1), .val (gI x2)] [] X M 0 0 := by
  refine wp_aload_n d_St_addEntry_0 rfl rfl (g_nz hA.1) ?_
  refine xgetR d_St_addEntry_1 gc_St f_St_9.1 f_St_9.2.1 f_St_9.2.2.1 hA.1 (gs_2 hA) hA.2.2.1 f_St_9.2.2.2.2.1 (gs_r hA 0 rfl).1 ?_
  refine wp_aload_n d_St_addEntry_4 rfl rfl (g_nz hA.1) ?_
  refine xgetI d_St_addEntry_5 gc_St f_St_24.1 f_St_24.2.1 f_St_24.2.2.1 hA.1 (gs_2 hA) hA.2.2.1 f_St_24.2.2.2.2.1 (fun h1 => ?_)
  have T := T h1
  refine wp_iload_n d_St_addEntry_8 rfl rfl ?_
  refine xiast d_St_addEntry_9 (gs_r hA 0 rfl).2.2.1 (gs_r hA 0 rfl).2.2.2 (gs_r hA 0 rfl).2.1 (by decide) T.1 (w32_id hx1) ?_
  have T := T.2
  refine wp_aload_n d_St_addEntry_10 rfl rfl (g_nz hA.1) ?_
  refine xgetR d_St_addEntry_11 gc_St f_St_15.1 f_St_15.2.1 f_St_15.2.2.1 hA.1 (gs_2 hA) hA.2.2.1 f_St_15.2.2.2.2.1 (gs_r hA 1 rfl).1 ?_
  refine wp_aload_n d_St_addEntry_14 rfl rfl (g_nz hA.1) ?_
  refine xgetI d_St_addEntry_15 gc_St f_St_24.1 f_St_24.2.1 f_St_24.2.2.1 hA.1 (gs_2 hA) hA.2.2.1 f_St_24.2.2.2.2.1 (fun h2 => ?_)
  have T := T h2
  refine wp_iload_n d_St_addEntry_18 rfl rfl ?_
  refine xiast d_St_addEntry_19 (gs_r hA 1 rfl).2.2.1 (gs_r hA 1 rfl).2.2.2 (gs_r hA 1 rfl).2.1 (by decide) T.1 (w32_id hx2) ?_
  have T := T.2
  refine wp_aload_n d_St_addEntry_20 rfl rfl (g_nz hA.1) ?_
  refine wp_dup d_St_addEntry_21 (gR_cat _) ?_
  refine xgetI d_St_addEntry_22 gc_St f_St_24.1 f_St_24.2.1 f_St_24.2.2.1 hA.1 (gs_2 hA) hA.2.2.1 f_St_24.2.2.2.2.1 (fun h3 => ?_)
  have T := T h3
  refine wp_iconst d_St_addEntry_25 ?_
  refine wp_iadd d_St_addEntry_26 ?_
  refine xputI d_St_addEntry_27 gc_St f_St_24.1 f_St_24.2.1 f_St_24.2.2.1 hA.1 (gs_2 hA) hA.2.2.1 f_St_24.2.2.2.1 f_St_24.2.2.2.2.1 f_St_24.2.2.2.2.2 rfl ?_
  refine wp_aload_n d_St_addEntry_30 rfl rfl (g_nz hA.1) ?_
  refine xgetR d_St_addEntry_31 gc_St f_St_18.1 f_St_18.2.1 f_St_18.2.2.1 hA.1 (gs_2 hA) hA.2.2.1 f_St_18.2.2.2.2.1 (gs_r hA 2 rfl).1 ?_
  refine wp_aload_n d_St_addEntry_34 rfl rfl (g_nz hA.1) ?_
  refine xgetI d_St_addEntry_35 gc_St f_St_24.1 f_St_24.2.1 f_St_24.2.2.1 hA.1 (gs_2 hA) hA.2.2.1 f_St_24.2.2.2.2.1 (fun h4 => ?_)
  have T := T h4
  refine wp_aload_n d_St_addEntry_38 rfl rfl (g_nz hA.1) ?_
  refine xgetR d_St_addEntry_39 gc_St f_St_18.1 f_St_18.2.1 f_St_18.2.2.1 hA.1 (gs_2 hA) hA.2.2.1 f_St_18.2.2.2.2.1 (gs_r hA 2 rfl).1 ?_
  refine wp_aload_n d_St_addEntry_42 rfl rfl (g_nz hA.1) ?_
  refine xgetI d_St_addEntry_43 gc_St f_St_24.1 f_St_24.2.1 f_St_24.2.2.1 hA.1 (gs_2 hA) hA.2.2.1 f_St_24.2.2.2.2.1 (fun h5 => ?_)
  have T := T h5
  refine wp_iconst d_St_addEntry_46 ?_
  refine wp_isub d_St_addEntry_47 ?_
  refine wp_iaload d_St_addEntry_48 (gs_r hA 2 rfl).2.2.1 (gs_r hA 2 rfl).2.2.2 (gs_r hA 2 rfl).2.1 (g32_n T.1 (by decide)) T.1.1 T.1.2 (fun h6 => ?_)
  have T := T.2 h6
  refine xiast d_St_addEntry_49 (gs_r hA 2 rfl).2.2.1 (gs_r hA 2 rfl).2.2.2 (gs_r hA 2 rfl).2.1 (by decide) T.1 (w32_id h6) ?_
  have T := T.2
  exact wp_return d_St_addEntry_50 rfl (fun _ => rfl) (Nat.zero_le _) (Nat.zero_le _) (kV_mk T)
theorem e_St_addEntry {l : Launch} {G : gG} {d : Nat} {X : gX} {M : gM} {k : gM → Prop} {a : Nat} {x1 : Int} {x2 : Int} (T : wp l G y_St_addEntry (gRm d) true (kkV X k) false 0 [.val (gR G a), .val (gI x1), .val (gI x2)] [] X M 0 0) : cV l G y_St_addEntry (gRm d) true [gR G a, gI x1, gI x2] X M k := cen_V (plainFor_of_name rfl) (by simp only [lg_sl_R, lg_sl_I, lg_sl_L, lg_sl_N, List.length_cons, List.length_nil]; decide) (by unfold gEn; simp only [lg_sl_R, lg_sl_I, lg_sl_L, lg_sl_N]; exact wpt T (And.intro rfl (And.intro rfl (And.intro rfl True.intro))))
theorem d_St_addTarget_0 : decode prog_10_method_6_code 0 = .ok (.aload_n 0, 1) := by decide +kernel
theorem d_St_addTarget_1 : decode prog_10_method_6_code 1 = .ok (.getfield 21, 3) := by decide +kernel
theorem d_St_addTarget_4 : decode prog_10_method_6_code 4 = .ok (.aload_n 0, 1) := by decide +kernel
theorem d_St_addTarget_5 : decode prog_10_method_6_code 5 = .ok (.getfield 18, 3) := by decide +kernel
theorem d_St_addTarget_8 : decode prog_10_method_6_code 8 = .ok (.aload_n 0, 1) := by decide +kernel
theorem d_St_addTarget_9 : decode prog_10_method_6_code 9 = .ok (.getfield 24, 3) := by decide +kernel
theorem d_St_addTarget_12 : decode prog_10_method_6_code 12 = .ok (.iaload, 1) := by decide +kernel
theorem d_St_addTarget_13 : decode prog_10_method_6_code 13 = .ok (.iload_n 1, 1) := by decide +kernel
theorem d_St_addTarget_14 : decode prog_10_method_6_code 14 = .ok (.iastore, 1) := by decide +kernel
theorem d_St_addTarget_15 : decode prog_10_method_6_code 15 = .ok (.aload_n 0, 1) := by decide +kernel
theorem d_St_addTarget_16 : decode prog_10_method_6_code 16 = .ok (.getfield 18, 3) := by decide +kernel
theorem d_St_addTarget_19 : decode prog_10_method_6_code 19 = .ok (.aload_n 0, 1) := by decide +kernel
theorem d_St_addTarget_20 : decode prog_10_method_6_code 20 = .ok (.getfield 24, 3) := by decide +kernel
theorem d_St_addTarget_23 : decode prog_10_method_6_code 23 = .ok (.dup2, 1) := by decide +kernel
theorem d_St_addTarget_24 : decode prog_10_method_6_code 24 = .ok (.iaload, 1) := by decide +kernel
theorem d_St_addTarget_25 : decode prog_10_method_6_code 25 = .ok (.iconst 1, 1) := by decide +kernel
theorem d_St_addTarget_26 : decode prog_10_method_6_code 26 = .ok (.iadd, 1) := by decide +kernel
theorem d_St_addTarget_27 : decode prog_10_method_6_code 27 = .ok (.iastore, 1) := by decide +kernel
theorem d_St_addTarget_28 : decode prog_10_method_6_code 28 = .ok (.return_, 1) := by decide +kernel
set_option maxHeartbeats 4000000 in
theorem w_St_addTarget_0 {l : Launch} {G : gG} {d : Nat} {X : gX} {M : gM} {k : gM → Prop} {a : Nat} (hA : gsX X a) {x1 : Int} (hx1 : g32 x1)  (T : g32 (M a 0) → (((0 : Int) ≤ M a 0 ∧ M a 0 < 401) ∧ (g32 (M (a + 3) (Int.toNat (M a 0))) → (((0 : Int) ≤ M (a + 3) (Int.toNat (M a 0)) ∧ M (a + 3) (Int.toNat (M a 0)) < 20000) ∧ (g32 ((gUp M (a + 4) (Int.toNat (M (a + 3) (Int.toNat (M a 0)))) x1) a 0) → (((0 : Int) ≤ (gUp M (a + 4) (Int.toNat (M (a + 3) (Int.toNat (M a 0)))) x1) a 0 ∧ (gUp M (a + 4) (Int.toNat (M (a + 3) (Int.toNat (M a 0)))) x1) a 0 < 401) ∧ (g32 ((gUp M (a + 4) (Int.toNat (M (a + 3) (Int.toNat (M a 0)))) x1) (a + 3) (Int.toNat ((gUp M (a + 4) (Int.toNat (M (a + 3) (Int.toNat (M a 0)))) x1) a 0))) → (((0 : Int) ≤ (gUp M (a + 4) (Int.toNat (M (a + 3) (Int.toNat (M a 0)))) x1) a 0 ∧ (gUp M (a + 4) (Int.toNat (M (a + 3) (Int.toNat (M a 0)))) x1) a 0 < 401) ∧ (k (gUp (gUp M (a + 4) (Int.toNat (M (a + 3) (Int.toNat (M a 0)))) x1) (a + 3) (Int.toNat ((gUp M (a + 4) (Int.toNat (M (a + 3) (Int.toNat (M a 0)))) x1) a 0)) (w32 (((gUp M (a + 4) (Int.toNat (M (a + 3) (Int.toNat (M a 0)))) x1) (a + 3) (Int.toNat ((gUp M (a + 4) (Int.toNat (M (a + 3) (Int.toNat (M a 0)))) x1) a 0))) + 1)))))))))))) : wp l G y_St_addTarget (gRm d) true (kkV X k) false 0 [.val (gR G a), .val (gI x1)] [] X M 0 0 := by
  refine wp_aload_n d_St_addTarget_0 rfl rfl (g_nz hA.1) ?_
  refine xgetR d_St_addTarget_1 gc_St f_St_21.1 f_St_21.2.1 f_St_21.2.2.1 hA.1 (gs_2 hA) hA.2.2.1 f_St_21.2.2.2.2.1 (gs_r hA 3 rfl).1 ?_
  refine wp_aload_n d_St_addTarget_4 rfl rfl (g_nz hA.1) ?_
  refine xgetR d_St_addTarget_5 gc_St f_St_18.1 f_St_18.2.1 f_St_18.2.2.1 hA.1 (gs_2 hA) hA.2.2.1 f_St_18.2.2.2.2.1 (gs_r hA 2 rfl).1 ?_
  refine wp_aload_n d_St_addTarget_8 rfl rfl (g_nz hA.1) ?_
  refine xgetI d_St_addTarget_9 gc_St f_St_24.1 f_St_24.2.1 f_St_24.2.2.1 hA.1 (gs_2 hA) hA.2.2.1 f_St_24.2.2.2.2.1 (fun h1 => ?_)
  have T := T h1
  refine wp_iaload d_St_addTarget_12 (gs_r hA 2 rfl).2.2.1 (gs_r hA 2 rfl).2.2.2 (gs_r hA 2 rfl).2.1 (g32_n T.1 (by decide)) T.1.1 T.1.2 (fun h2 => ?_)
  have T := T.2 h2
  refine wp_iload_n d_St_addTarget_13 rfl rfl ?_
  refine xiast d_St_addTarget_14 (gs_r hA 3 rfl).2.2.1 (gs_r hA 3 rfl).2.2.2 (gs_r hA 3 rfl).2.1 (by decide) T.1 (w32_id hx1) ?_
  have T := T.2
  refine wp_aload_n d_St_addTarget_15 rfl rfl (g_nz hA.1) ?_
  refine xgetR d_St_addTarget_16 gc_St f_St_18.1 f_St_18.2.1 f_St_18.2.2.1 hA.1 (gs_2 hA) hA.2.2.1 f_St_18.2.2.2.2.1 (gs_r hA 2 rfl).1 ?_
  refine wp_aload_n d_St_addTarget_19 rfl rfl (g_nz hA.1) ?_
  refine xgetI d_St_addTarget_20 gc_St f_St_24.1 f_St_24.2.1 f_St_24.2.2.1 hA.1 (gs_2 hA) hA.2.2.1 f_St_24.2.2.2.2.1 (fun h3 => ?_)
  have T := T h3
  refine wp_dup2 d_St_addTarget_23 (gI_cat _) (gR_cat _) ?_
  refine wp_iaload d_St_addTarget_24 (gs_r hA 2 rfl).2.2.1 (gs_r hA 2 rfl).2.2.2 (gs_r hA 2 rfl).2.1 (g32_n T.1 (by decide)) T.1.1 T.1.2 (fun h4 => ?_)
  have T := T.2 h4
  refine wp_iconst d_St_addTarget_25 ?_
  refine wp_iadd d_St_addTarget_26 ?_
  refine xiast d_St_addTarget_27 (gs_r hA 2 rfl).2.2.1 (gs_r hA 2 rfl).2.2.2 (gs_r hA 2 rfl).2.1 (by decide) T.1 rfl ?_
  have T := T.2
  exact wp_return d_St_addTarget_28 rfl (fun _ => rfl) (Nat.zero_le _) (Nat.zero_le _) (kV_mk T)
theorem e_St_addTarget {l : Launch} {G : gG} {d : Nat} {X : gX} {M : gM} {k : gM → Prop} {a : Nat} {x1 : Int} (T : wp l G y_St_addTarget (gRm d) true (kkV X k) false 0 [.val (gR G a), .val (gI x1)] [] X M 0 0) : cV l G y_St_addTarget (gRm d) true [gR G a, gI x1] X M k := cen_V (plainFor_of_name rfl) (by simp only [lg_sl_R, lg_sl_I, lg_sl_L, lg_sl_N, List.length_cons, List.length_nil]; decide) (by unfold gEn; simp only [lg_sl_R, lg_sl_I, lg_sl_L, lg_sl_N]; exact wpt T (And.intro rfl (And.intro rfl True.intro)))
theorem d_St_addRun_0 : decode prog_10_method_7_code 0 = .ok (.iload_n 3, 1) := by decide +kernel
theorem d_St_addRun_1 : decode prog_10_method_7_code 1 = .ok (.iload_n 2, 1) := by decide +kernel
theorem d_St_addRun_2 : decode prog_10_method_7_code 2 = .ok (.isub, 1) := by decide +kernel
theorem d_St_addRun_3 : decode prog_10_method_7_code 3 = .ok (.istore 4, 2) := by decide +kernel
theorem d_St_addRun_5 : decode prog_10_method_7_code 5 = .ok (.aload_n 0, 1) := by decide +kernel
theorem d_St_addRun_6 : decode prog_10_method_7_code 6 = .ok (.getfield 24, 3) := by decide +kernel
theorem d_St_addRun_9 : decode prog_10_method_7_code 9 = .ok (.iload 4, 2) := by decide +kernel
theorem d_St_addRun_11 : decode prog_10_method_7_code 11 = .ok (.iadd, 1) := by decide +kernel
theorem d_St_addRun_12 : decode prog_10_method_7_code 12 = .ok (.sipush 400, 3) := by decide +kernel
theorem d_St_addRun_15 : decode prog_10_method_7_code 15 = .ok (.if_icmp .le 5, 3) := by decide +kernel
theorem d_St_addRun_20 : decode prog_10_method_7_code 20 = .ok (.aload_n 1, 1) := by decide +kernel
theorem d_St_addRun_21 : decode prog_10_method_7_code 21 = .ok (.getfield 9, 3) := by decide +kernel
theorem d_St_addRun_24 : decode prog_10_method_7_code 24 = .ok (.iload_n 2, 1) := by decide +kernel
theorem d_St_addRun_25 : decode prog_10_method_7_code 25 = .ok (.aload_n 0, 1) := by decide +kernel
theorem d_St_addRun_26 : decode prog_10_method_7_code 26 = .ok (.getfield 9, 3) := by decide +kernel
theorem d_St_addRun_29 : decode prog_10_method_7_code 29 = .ok (.aload_n 0, 1) := by decide +kernel
theorem d_St_addRun_30 : decode prog_10_method_7_code 30 = .ok (.getfield 24, 3) := by decide +kernel
theorem d_St_addRun_33 : decode prog_10_method_7_code 33 = .ok (.iload 4, 2) := by decide +kernel
theorem d_St_addRun_35 : decode prog_10_method_7_code 35 = .ok (.invokestatic 28, 3) := by decide +kernel
theorem d_St_addRun_38 : decode prog_10_method_7_code 38 = .ok (.aload_n 1, 1) := by decide +kernel
theorem d_St_addRun_39 : decode prog_10_method_7_code 39 = .ok (.getfield 15, 3) := by decide +kernel
theorem d_St_addRun_42 : decode prog_10_method_7_code 42 = .ok (.iload_n 2, 1) := by decide +kernel
theorem d_St_addRun_43 : decode prog_10_method_7_code 43 = .ok (.aload_n 0, 1) := by decide +kernel
theorem d_St_addRun_44 : decode prog_10_method_7_code 44 = .ok (.getfield 15, 3) := by decide +kernel
theorem d_St_addRun_47 : decode prog_10_method_7_code 47 = .ok (.aload_n 0, 1) := by decide +kernel
theorem d_St_addRun_48 : decode prog_10_method_7_code 48 = .ok (.getfield 24, 3) := by decide +kernel
theorem d_St_addRun_51 : decode prog_10_method_7_code 51 = .ok (.iload 4, 2) := by decide +kernel
theorem d_St_addRun_53 : decode prog_10_method_7_code 53 = .ok (.invokestatic 28, 3) := by decide +kernel
theorem d_St_addRun_56 : decode prog_10_method_7_code 56 = .ok (.aload_n 0, 1) := by decide +kernel
theorem d_St_addRun_57 : decode prog_10_method_7_code 57 = .ok (.getfield 18, 3) := by decide +kernel
theorem d_St_addRun_60 : decode prog_10_method_7_code 60 = .ok (.aload_n 0, 1) := by decide +kernel
theorem d_St_addRun_61 : decode prog_10_method_7_code 61 = .ok (.getfield 24, 3) := by decide +kernel
theorem d_St_addRun_64 : decode prog_10_method_7_code 64 = .ok (.iaload, 1) := by decide +kernel
theorem d_St_addRun_65 : decode prog_10_method_7_code 65 = .ok (.aload_n 1, 1) := by decide +kernel
theorem d_St_addRun_66 : decode prog_10_method_7_code 66 = .ok (.getfield 18, 3) := by decide +kernel
theorem d_St_addRun_69 : decode prog_10_method_7_code 69 = .ok (.iload_n 2, 1) := by decide +kernel
theorem d_St_addRun_70 : decode prog_10_method_7_code 70 = .ok (.iaload, 1) := by decide +kernel
theorem d_St_addRun_71 : decode prog_10_method_7_code 71 = .ok (.isub, 1) := by decide +kernel
theorem d_St_addRun_72 : decode prog_10_method_7_code 72 = .ok (.istore 5, 2) := by decide +kernel
theorem d_St_addRun_74 : decode prog_10_method_7_code 74 = .ok (.aload_n 1, 1) := by decide +kernel
theorem d_St_addRun_75 : decode prog_10_method_7_code 75 = .ok (.getfield 21, 3) := by decide +kernel
theorem d_St_addRun_78 : decode prog_10_method_7_code 78 = .ok (.aload_n 1, 1) := by decide +kernel
theorem d_St_addRun_79 : decode prog_10_method_7_code 79 = .ok (.getfield 18, 3) := by decide +kernel
theorem d_St_addRun_82 : decode prog_10_method_7_code 82 = .ok (.iload_n 2, 1) := by decide +kernel
theorem d_St_addRun_83 : decode prog_10_method_7_code 83 = .ok (.iaload, 1) := by decide +kernel
theorem d_St_addRun_84 : decode prog_10_method_7_code 84 = .ok (.aload_n 0, 1) := by decide +kernel
theorem d_St_addRun_85 : decode prog_10_method_7_code 85 = .ok (.getfield 21, 3) := by decide +kernel
theorem d_St_addRun_88 : decode prog_10_method_7_code 88 = .ok (.aload_n 0, 1) := by decide +kernel
theorem d_St_addRun_89 : decode prog_10_method_7_code 89 = .ok (.getfield 18, 3) := by decide +kernel
theorem d_St_addRun_92 : decode prog_10_method_7_code 92 = .ok (.aload_n 0, 1) := by decide +kernel
theorem d_St_addRun_93 : decode prog_10_method_7_code 93 = .ok (.getfield 24, 3) := by decide +kernel
theorem d_St_addRun_96 : decode prog_10_method_7_code 96 = .ok (.iaload, 1) := by decide +kernel
theorem d_St_addRun_97 : decode prog_10_method_7_code 97 = .ok (.aload_n 1, 1) := by decide +kernel
theorem d_St_addRun_98 : decode prog_10_method_7_code 98 = .ok (.getfield 18, 3) := by decide +kernel
theorem d_St_addRun_101 : decode prog_10_method_7_code 101 = .ok (.iload_n 3, 1) := by decide +kernel
theorem d_St_addRun_102 : decode prog_10_method_7_code 102 = .ok (.iaload, 1) := by decide +kernel
theorem d_St_addRun_103 : decode prog_10_method_7_code 103 = .ok (.aload_n 1, 1) := by decide +kernel
theorem d_St_addRun_104 : decode prog_10_method_7_code 104 = .ok (.getfield 18, 3) := by decide +kernel
theorem d_St_addRun_107 : decode prog_10_method_7_code 107 = .ok (.iload_n 2, 1) := by decide +kernel
theorem d_St_addRun_108 : decode prog_10_method_7_code 108 = .ok (.iaload, 1) := by decide +kernel
theorem d_St_addRun_109 : decode prog_10_method_7_code 109 = .ok (.isub, 1) := by decide +kernel
theorem d_St_addRun_110 : decode prog_10_method_7_code 110 = .ok (.invokestatic 28, 3) := by decide +kernel
theorem d_St_addRun_113 : decode prog_10_method_7_code 113 = .ok (.iconst 1, 1) := by decide +kernel
theorem d_St_addRun_114 : decode prog_10_method_7_code 114 = .ok (.istore 6, 2) := by decide +kernel
theorem d_St_addRun_18 : decode prog_10_method_7_code 18 = .ok (.iconst 0, 1) := by decide +kernel
theorem d_St_addRun_19 : decode prog_10_method_7_code 19 = .ok (.ireturn, 1) := by decide +kernel
theorem d_St_addRun_116 : decode prog_10_method_7_code 116 = .ok (.iload 6, 2) := by decide +kernel
theorem d_St_addRun_118 : decode prog_10_method_7_code 118 = .ok (.iload 4, 2) := by decide +kernel
theorem d_St_addRun_120 : decode prog_10_method_7_code 120 = .ok (.if_icmp .gt 33, 3) := by decide +kernel
theorem d_St_addRun_153 : decode prog_10_method_7_code 153 = .ok (.aload_n 0, 1) := by decide +kernel
theorem d_St_addRun_154 : decode prog_10_method_7_code 154 = .ok (.dup, 1) := by decide +kernel
theorem d_St_addRun_155 : decode prog_10_method_7_code 155 = .ok (.getfield 24, 3) := by decide +kernel
theorem d_St_addRun_158 : decode prog_10_method_7_code 158 = .ok (.iload 4, 2) := by decide +kernel
theorem d_St_addRun_160 : decode prog_10_method_7_code 160 = .ok (.iadd, 1) := by decide +kernel
theorem d_St_addRun_161 : decode prog_10_method_7_code 161 = .ok (.putfield 24, 3) := by decide +kernel
theorem d_St_addRun_164 : decode prog_10_method_7_code 164 = .ok (.iconst 1, 1) := by decide +kernel
theorem d_St_addRun_165 : decode prog_10_method_7_code 165 = .ok (.ireturn, 1) := by decide +kernel
theorem d_St_addRun_123 : decode prog_10_method_7_code 123 = .ok (.aload_n 0, 1) := by decide +kernel
theorem d_St_addRun_124 : decode prog_10_method_7_code 124 = .ok (.getfield 18, 3) := by decide +kernel
theorem d_St_addRun_127 : decode prog_10_method_7_code 127 = .ok (.aload_n 0, 1) := by decide +kernel
theorem d_St_addRun_128 : decode prog_10_method_7_code 128 = .ok (.getfield 24, 3) := by decide +kernel
theorem d_St_addRun_131 : decode prog_10_method_7_code 131 = .ok (.iload 6, 2) := by decide +kernel
theorem d_St_addRun_133 : decode prog_10_method_7_code 133 = .ok (.iadd, 1) := by decide +kernel
theorem d_St_addRun_134 : decode prog_10_method_7_code 134 = .ok (.aload_n 1, 1) := by decide +kernel
theorem d_St_addRun_135 : decode prog_10_method_7_code 135 = .ok (.getfield 18, 3) := by decide +kernel
theorem d_St_addRun_138 : decode prog_10_method_7_code 138 = .ok (.iload_n 2, 1) := by decide +kernel
theorem d_St_addRun_139 : decode prog_10_method_7_code 139 = .ok (.iload 6, 2) := by decide +kernel
theorem d_St_addRun_141 : decode prog_10_method_7_code 141 = .ok (.iadd, 1) := by decide +kernel
theorem d_St_addRun_142 : decode prog_10_method_7_code 142 = .ok (.iaload, 1) := by decide +kernel
theorem d_St_addRun_143 : decode prog_10_method_7_code 143 = .ok (.iload 5, 2) := by decide +kernel
theorem d_St_addRun_145 : decode prog_10_method_7_code 145 = .ok (.iadd, 1) := by decide +kernel
theorem d_St_addRun_146 : decode prog_10_method_7_code 146 = .ok (.iastore, 1) := by decide +kernel
theorem d_St_addRun_147 : decode prog_10_method_7_code 147 = .ok (.iinc 6 1, 3) := by decide +kernel
theorem d_St_addRun_150 : decode prog_10_method_7_code 150 = .ok (.goto (-34), 3) := by decide +kernel
set_option maxHeartbeats 4000000 in
theorem w_St_addRun_0 {l : Launch} {G : gG} {d : Nat} {X : gX} {M : gM} {k : Int → gM → Prop} {a : Nat} (hA : gsX X a) {r1 : Nat} (hr1 : gsX X r1) {x2 : Int} (hx2 : g32 x2) {x3 : Int} (hx3 : g32 x3)  (T : g32 (M a 0) → (((w32 ((M a 0) + (x3 - x2))) ≤ 400 → (g32 (M a 0) → (((0 : Int) ≤ x2 ∧ (0 : Int) ≤ (M a 0) ∧ (0 : Int) ≤ (x3 - x2) ∧ x2 + (x3 - x2) ≤ 400 ∧ (M a 0) + (x3 - x2) ≤ 400) ∧ (g32 ((gCp M (a + 1) (r1 + 1) (Int.toNat x2) (Int.toNat (M a 0)) (Int.toNat (x3 - x2))) a 0) → (((0 : Int) ≤ x2 ∧ (0 : Int) ≤ ((gCp M (a + 1) (r1 + 1) (Int.toNat x2) (Int.toNat (M a 0)) (Int.toNat (x3 - x2))) a 0) ∧ (0 : Int) ≤ (x3 - x2) ∧ x2 + (x3 - x2) ≤ 400 ∧ ((gCp M (a + 1) (r1 + 1) (Int.toNat x2) (Int.toNat (M a 0)) (Int.toNat (x3 - x2))) a 0) + (x3 - x2) ≤ 400) ∧ (g32 ((gCp (gCp M (a + 1) (r1 + 1) (Int.toNat x2) (Int.toNat (M a 0)) (Int.toNat (x3 - x2))) (a + 2) (r1 + 2) (Int.toNat x2) (Int.toNat ((gCp M (a + 1) (r1 + 1) (Int.toNat x2) (Int.toNat (M a 0)) (Int.toNat (x3 - x2))) a 0)) (Int.toNat (x3 - x2))) a 0) → (((0 : Int) ≤ (gCp (gCp M (a + 1) (r1 + 1) (Int.toNat x2) (Int.toNat (M a 0)) (Int.toNat (x3 - x2))) (a + 2) (r1 + 2) (Int.toNat x2) (Int.toNat ((gCp M (a + 1) (r1 + 1) (Int.toNat x2) (Int.toNat (M a 0)) (Int.toNat (x3 - x2))) a 0)) (Int.toNat (x3 - x2))) a 0 ∧ (gCp (gCp M (a + 1) (r1 + 1) (Int.toNat x2) (Int.toNat (M a 0)) (Int.toNat (x3 - x2))) (a + 2) (r1 + 2) (Int.toNat x2) (Int.toNat ((gCp M (a + 1) (r1 + 1) (Int.toNat x2) (Int.toNat (M a 0)) (Int.toNat (x3 - x2))) a 0)) (Int.toNat (x3 - x2))) a 0 < 401) ∧ (g32 ((gCp (gCp M (a + 1) (r1 + 1) (Int.toNat x2) (Int.toNat (M a 0)) (Int.toNat (x3 - x2))) (a + 2) (r1 + 2) (Int.toNat x2) (Int.toNat ((gCp M (a + 1) (r1 + 1) (Int.toNat x2) (Int.toNat (M a 0)) (Int.toNat (x3 - x2))) a 0)) (Int.toNat (x3 - x2))) (a + 3) (Int.toNat ((gCp (gCp M (a + 1) (r1 + 1) (Int.toNat x2) (Int.toNat (M a 0)) (Int.toNat (x3 - x2))) (a + 2) (r1 + 2) (Int.toNat x2) (Int.toNat ((gCp M (a + 1) (r1 + 1) (Int.toNat x2) (Int.toNat (M a 0)) (Int.toNat (x3 - x2))) a 0)) (Int.toNat (x3 - x2))) a 0))) → (((0 : Int) ≤ x2 ∧ x2 < 401) ∧ (g32 ((gCp (gCp M (a + 1) (r1 + 1) (Int.toNat x2) (Int.toNat (M a 0)) (Int.toNat (x3 - x2))) (a + 2) (r1 + 2) (Int.toNat x2) (Int.toNat ((gCp M (a + 1) (r1 + 1) (Int.toNat x2) (Int.toNat (M a 0)) (Int.toNat (x3 - x2))) a 0)) (Int.toNat (x3 - x2))) (r1 + 3) (Int.toNat x2)) → (((0 : Int) ≤ x2 ∧ x2 < 401) ∧ (g32 ((gCp (gCp M (a + 1) (r1 + 1) (Int.toNat x2) (Int.toNat (M a 0)) (Int.toNat (x3 - x2))) (a + 2) (r1 + 2) (Int.toNat x2) (Int.toNat ((gCp M (a + 1) (r1 + 1) (Int.toNat x2) (Int.toNat (M a 0)) (Int.toNat (x3 - x2))) a 0)) (Int.toNat (x3 - x2))) (r1 + 3) (Int.toNat x2)) → (g32 ((gCp (gCp M (a + 1) (r1 + 1) (Int.toNat x2) (Int.toNat (M a 0)) (Int.toNat (x3 - x2))) (a + 2) (r1 + 2) (Int.toNat x2) (Int.toNat ((gCp M (a + 1) (r1 + 1) (Int.toNat x2) (Int.toNat (M a 0)) (Int.toNat (x3 - x2))) a 0)) (Int.toNat (x3 - x2))) a 0) → (((0 : Int) ≤ (gCp (gCp M (a + 1) (r1 + 1) (Int.toNat x2) (Int.toNat (M a 0)) (Int.toNat (x3 - x2))) (a + 2) (r1 + 2) (Int.toNat x2) (Int.toNat ((gCp M (a + 1) (r1 + 1) (Int.toNat x2) (Int.toNat (M a 0)) (Int.toNat (x3 - x2))) a 0)) (Int.toNat (x3 - x2))) a 0 ∧ (gCp (gCp M (a + 1) (r1 + 1) (Int.toNat x2) (Int.toNat (M a 0)) (Int.toNat (x3 - x2))) (a + 2) (r1 + 2) (Int.toNat x2) (Int.toNat ((gCp M (a + 1) (r1 + 1) (Int.toNat x2) (Int.toNat (M a 0)) (Int.toNat (x3 - x2))) a 0)) (Int.toNat (x3 - x2))) a 0 < 401) ∧ (g32 ((gCp (gCp M (a + 1) (r1 + 1) (Int.toNat x2) (Int.toNat (M a 0)) (Int.toNat (x3 - x2))) (a + 2) (r1 + 2) (Int.toNat x2) (Int.toNat ((gCp M (a + 1) (r1 + 1) (Int.toNat x2) (Int.toNat (M a 0)) (Int.toNat (x3 - x2))) a 0)) (Int.toNat (x3 - x2))) (a + 3) (Int.toNat ((gCp (gCp M (a + 1) (r1 + 1) (Int.toNat x2) (Int.toNat (M a 0)) (Int.toNat (x3 - x2))) (a + 2) (r1 + 2) (Int.toNat x2) (Int.toNat ((gCp M (a + 1) (r1 + 1) (Int.toNat x2) (Int.toNat (M a 0)) (Int.toNat (x3 - x2))) a 0)) (Int.toNat (x3 - x2))) a 0))) → (((0 : Int) ≤ x3 ∧ x3 < 401) ∧ (g32 ((gCp (gCp M (a + 1) (r1 + 1) (Int.toNat x2) (Int.toNat (M a 0)) (Int.toNat (x3 - x2))) (a + 2) (r1 + 2) (Int.toNat x2) (Int.toNat ((gCp M (a + 1) (r1 + 1) (Int.toNat x2) (Int.toNat (M a 0)) (Int.toNat (x3 - x2))) a 0)) (Int.toNat (x3 - x2))) (r1 + 3) (Int.toNat x3)) → (((0 : Int) ≤ x2 ∧ x2 < 401) ∧ (g32 ((gCp (gCp M (a + 1) (r1 + 1) (Int.toNat x2) (Int.toNat (M a 0)) (Int.toNat (x3 - x2))) (a + 2) (r1 + 2) (Int.toNat x2) (Int.toNat ((gCp M (a + 1) (r1 + 1) (Int.toNat x2) (Int.toNat (M a 0)) (Int.toNat (x3 - x2))) a 0)) (Int.toNat (x3 - x2))) (r1 + 3) (Int.toNat x2)) → (((0 : Int) ≤ ((gCp (gCp M (a + 1) (r1 + 1) (Int.toNat x2) (Int.toNat (M a 0)) (Int.toNat (x3 - x2))) (a + 2) (r1 + 2) (Int.toNat x2) (Int.toNat ((gCp M (a + 1) (r1 + 1) (Int.toNat x2) (Int.toNat (M a 0)) (Int.toNat (x3 - x2))) a 0)) (Int.toNat (x3 - x2))) (r1 + 3) (Int.toNat x2)) ∧ (0 : Int) ≤ ((gCp (gCp M (a + 1) (r1 + 1) (Int.toNat x2) (Int.toNat (M a 0)) (Int.toNat (x3 - x2))) (a + 2) (r1 + 2) (Int.toNat x2) (Int.toNat ((gCp M (a + 1) (r1 + 1) (Int.toNat x2) (Int.toNat (M a 0)) (Int.toNat (x3 - x2))) a 0)) (Int.toNat (x3 - x2))) (a + 3) (Int.toNat ((gCp (gCp M (a + 1) (r1 + 1) (Int.toNat x2) (Int.toNat (M a 0)) (Int.toNat (x3 - x2))) (a + 2) (r1 + 2) (Int.toNat x2) (Int.toNat ((gCp M (a + 1) (r1 + 1) (Int.toNat x2) (Int.toNat (M a 0)) (Int.toNat (x3 - x2))) a 0)) (Int.toNat (x3 - x2))) a 0))) ∧ (0 : Int) ≤ (((gCp (gCp M (a + 1) (r1 + 1) (Int.toNat x2) (Int.toNat (M a 0)) (Int.toNat (x3 - x2))) (a + 2) (r1 + 2) (Int.toNat x2) (Int.toNat ((gCp M (a + 1) (r1 + 1) (Int.toNat x2) (Int.toNat (M a 0)) (Int.toNat (x3 - x2))) a 0)) (Int.toNat (x3 - x2))) (r1 + 3) (Int.toNat x3)) - ((gCp (gCp M (a + 1) (r1 + 1) (Int.toNat x2) (Int.toNat (M a 0)) (Int.toNat (x3 - x2))) (a + 2) (r1 + 2) (Int.toNat x2) (Int.toNat ((gCp M (a + 1) (r1 + 1) (Int.toNat x2) (Int.toNat (M a 0)) (Int.toNat (x3 - x2))) a 0)) (Int.toNat (x3 - x2))) (r1 + 3) (Int.toNat x2))) ∧ ((gCp (gCp M (a + 1) (r1 + 1) (Int.toNat x2) (Int.toNat (M a 0)) (Int.toNat (x3 - x2))) (a + 2) (r1 + 2) (Int.toNat x2) (Int.toNat ((gCp M (a + 1) (r1 + 1) (Int.toNat x2) (Int.toNat (M a 0)) (Int.toNat (x3 - x2))) a 0)) (Int.toNat (x3 - x2))) (r1 + 3) (Int.toNat x2)) + (((gCp (gCp M (a + 1) (r1 + 1) (Int.toNat x2) (Int.toNat (M a 0)) (Int.toNat (x3 - x2))) (a + 2) (r1 + 2) (Int.toNat x2) (Int.toNat ((gCp M (a + 1) (r1 + 1) (Int.toNat x2) (Int.toNat (M a 0)) (Int.toNat (x3 - x2))) a 0)) (Int.toNat (x3 - x2))) (r1 + 3) (Int.toNat x3)) - ((gCp (gCp M (a + 1) (r1 + 1) (Int.toNat x2) (Int.toNat (M a 0)) (Int.toNat (x3 - x2))) (a + 2) (r1 + 2) (Int.toNat x2) (Int.toNat ((gCp M (a + 1) (r1 + 1) (Int.toNat x2) (Int.toNat (M a 0)) (Int.toNat (x3 - x2))) a 0)) (Int.toNat (x3 - x2))) (r1 + 3) (Int.toNat x2))) ≤ 20000 ∧ ((gCp (gCp M (a + 1) (r1 + 1) (Int.toNat x2) (Int.toNat (M a 0)) (Int.toNat (x3 - x2))) (a + 2) (r1 + 2) (Int.toNat x2) (Int.toNat ((gCp M (a + 1) (r1 + 1) (Int.toNat x2) (Int.toNat (M a 0)) (Int.toNat (x3 - x2))) a 0)) (Int.toNat (x3 - x2))) (a + 3) (Int.toNat ((gCp (gCp M (a + 1) (r1 + 1) (Int.toNat x2) (Int.toNat (M a 0)) (Int.toNat (x3 - x2))) (a + 2) (r1 + 2) (Int.toNat x2) (Int.toNat ((gCp M (a + 1) (r1 + 1) (Int.toNat x2) (Int.toNat (M a 0)) (Int.toNat (x3 - x2))) a 0)) (Int.toNat (x3 - x2))) a 0))) + (((gCp (gCp M (a + 1) (r1 + 1) (Int.toNat x2) (Int.toNat (M a 0)) (Int.toNat (x3 - x2))) (a + 2) (r1 + 2) (Int.toNat x2) (Int.toNat ((gCp M (a + 1) (r1 + 1) (Int.toNat x2) (Int.toNat (M a 0)) (Int.toNat (x3 - x2))) a 0)) (Int.toNat (x3 - x2))) (r1 + 3) (Int.toNat x3)) - ((gCp (gCp M (a + 1) (r1 + 1) (Int.toNat x2) (Int.toNat (M a 0)) (Int.toNat (x3 - x2))) (a + 2) (r1 + 2) (Int.toNat x2) (Int.toNat ((gCp M (a + 1) (r1 + 1) (Int.toNat x2) (Int.toNat (M a 0)) (Int.toNat (x3 - x2))) a 0)) (Int.toNat (x3 - x2))) (r1 + 3) (Int.toNat x2))) ≤ 20000) ∧ (wp l G y_St_addRun (gRm (d + 1)) true (kkZ X k) true 116 [.val (gR G a), .val (gR G r1), .val (gI x2), .unset, .val (gI (w32 (x3 - x2))), .val (gI (w32 (((gCp (gCp M (a + 1) (r1 + 1) (Int.toNat x2) (Int.toNat (M a 0)) (Int.toNat (x3 - x2))) (a + 2) (r1 + 2) (Int.toNat x2) (Int.toNat ((gCp M (a + 1) (r1 + 1) (Int.toNat x2) (Int.toNat (M a 0)) (Int.toNat (x3 - x2))) a 0)) (Int.toNat (x3 - x2))) (a + 3) (Int.toNat ((gCp (gCp M (a + 1) (r1 + 1) (Int.toNat x2) (Int.toNat (M a 0)) (Int.toNat (x3 - x2))) (a + 2) (r1 + 2) (Int.toNat x2) (Int.toNat ((gCp M (a + 1) (r1 + 1) (Int.toNat x2) (Int.toNat (M a 0)) (Int.toNat (x3 - x2))) a 0)) (Int.toNat (x3 - x2))) a 0))) - ((gCp (gCp M (a + 1) (r1 + 1) (Int.toNat x2) (Int.toNat (M a 0)) (Int.toNat (x3 - x2))) (a + 2) (r1 + 2) (Int.toNat x2) (Int.toNat ((gCp M (a + 1) (r1 + 1) (Int.toNat x2) (Int.toNat (M a 0)) (Int.toNat (x3 - x2))) a 0)) (Int.toNat (x3 - x2))) (r1 + 3) (Int.toNat x2))))), .val (gI 1)] [] X (gCp (gCp (gCp M (a + 1) (r1 + 1) (Int.toNat x2) (Int.toNat (M a 0)) (Int.toNat (x3 - x2))) (a + 2) (r1 + 2) (Int.toNat x2) (Int.toNat ((gCp M (a + 1) (r1 + 1) (Int.toNat x2) (Int.toNat (M a 0)) (Int.toNat (x3 - x2))) a 0)) (Int.toNat (x3 - x2))) (a + 4) (r1 + 4) (Int.toNat ((gCp (gCp M (a + 1) (r1 + 1) (Int.toNat x2) (Int.toNat (M a 0)) (Int.toNat (x3 - x2))) (a + 2) (r1 + 2) (Int.toNat x2) (Int.toNat ((gCp M (a + 1) (r1 + 1) (Int.toNat x2) (Int.toNat (M a 0)) (Int.toNat (x3 - x2))) a 0)) (Int.toNat (x3 - x2))) (r1 + 3) (Int.toNat x2))) (Int.toNat ((gCp (gCp M (a + 1) (r1 + 1) (Int.toNat x2) (Int.toNat (M a 0)) (Int.toNat (x3 - x2))) (a + 2) (r1 + 2) (Int.toNat x2) (Int.toNat ((gCp M (a + 1) (r1 + 1) (Int.toNat x2) (Int.toNat (M a 0)) (Int.toNat (x3 - x2))) a 0)) (Int.toNat (x3 - x2))) (a + 3) (Int.toNat ((gCp (gCp M (a + 1) (r1 + 1) (Int.toNat x2) (Int.toNat (M a 0)) (Int.toNat (x3 - x2))) (a + 2) (r1 + 2) (Int.toNat x2) (Int.toNat ((gCp M (a + 1) (r1 + 1) (Int.toNat x2) (Int.toNat (M a 0)) (Int.toNat (x3 - x2))) a 0)) (Int.toNat (x3 - x2))) a 0)))) (Int.toNat (((gCp (gCp M (a + 1) (r1 + 1) (Int.toNat x2) (Int.toNat (M a 0)) (Int.toNat (x3 - x2))) (a + 2) (r1 + 2) (Int.toNat x2) (Int.toNat ((gCp M (a + 1) (r1 + 1) (Int.toNat x2) (Int.toNat (M a 0)) (Int.toNat (x3 - x2))) a 0)) (Int.toNat (x3 - x2))) (r1 + 3) (Int.toNat x3)) - ((gCp (gCp M (a + 1) (r1 + 1) (Int.toNat x2) (Int.toNat (M a 0)) (Int.toNat (x3 - x2))) (a + 2) (r1 + 2) (Int.toNat x2) (Int.toNat ((gCp M (a + 1) (r1 + 1) (Int.toNat x2) (Int.toNat (M a 0)) (Int.toNat (x3 - x2))) a 0)) (Int.toNat (x3 - x2))) (r1 + 3) (Int.toNat x2))))) 0 0))))))))))))))))))))) ∧ (¬ (w32 ((M a 0) + (x3 - x2))) ≤ 400 → (k 0 M)))) : wp l G y_St_addRun (gRm (d + 1)) true (kkZ X k) false 0 [.val (gR G a), .val (gR G r1), .val (gI x2), .val (gI x3), .unset, .unset, .unset] [] X M 0 0 := by
  refine wp_iload_n d_St_addRun_0 rfl rfl ?_
  refine wp_iload_n d_St_addRun_1 rfl rfl ?_
  refine wp_isub d_St_addRun_2 ?_
  refine wp_istore (L' := [.val (gR G a), .val (gR G r1), .val (gI x2), .val (gI x3), .val (gI (x3 - x2)), .unset, .unset]) d_St_addRun_3 (by decide) rfl ?_
  refine wp_aload_n d_St_addRun_5 rfl rfl (g_nz hA.1) ?_
  refine xgetI d_St_addRun_6 gc_St f_St_24.1 f_St_24.2.1 f_St_24.2.2.1 hA.1 (gs_2 hA) hA.2.2.1 f_St_24.2.2.2.2.1 (fun h1 => ?_)
  have T := T h1
  refine wp_iload d_St_addRun_9 rfl ?_
  refine wp_iadd d_St_addRun_11 ?_
  refine wp_sipush d_St_addRun_12 ⟨by decide, by decide⟩ ?_
  refine xi_le (tgt := 20) d_St_addRun_15 (by decide) rfl (w32_id (g32_c (x := 400) rfl)) (fun h12 => ?_) (fun h12 => ?_)
  · have T := T.1 h12
    refine wp_aload_n d_St_addRun_20 rfl rfl (g_nz hr1.1) ?_
    refine xgetR d_St_addRun_21 gc_St f_St_9.1 f_St_9.2.1 f_St_9.2.2.1 hr1.1 (gs_2 hr1) hr1.2.2.1 f_St_9.2.2.2.2.1 (gs_r hr1 0 rfl).1 ?_
    refine wp_iload_n d_St_addRun_24 rfl rfl ?_
    refine wp_aload_n d_St_addRun_25 rfl rfl (g_nz hA.1) ?_
    refine xgetR d_St_addRun_26 gc_St f_St_9.1 f_St_9.2.1 f_St_9.2.2.1 hA.1 (gs_2 hA) hA.2.2.1 f_St_9.2.2.2.2.1 (gs_r hA 0 rfl).1 ?_
    refine wp_aload_n d_St_addRun_29 rfl rfl (g_nz hA.1) ?_
    refine xgetI d_St_addRun_30 gc_St f_St_24.1 f_St_24.2.1 f_St_24.2.2.1 hA.1 (gs_2 hA) hA.2.2.1 f_St_24.2.2.2.2.1 (fun h2 => ?_)
    have T := T h2
    refine wp_iload d_St_addRun_33 rfl ?_
    refine wp_copy (a := a + 1) (a0 := r1 + 1) d_St_addRun_35 ml_St_28 na_arraycopy sm_arraycopy in_System (by decide) (gs_r hr1 0 rfl).2.2.1 (gs_r hr1 0 rfl).2.2.2 (gs_r hr1 0 rfl).2.1 (gs_r hA 0 rfl).2.2.1 (gs_r hA 0 rfl).2.2.2 (gs_r hA 0 rfl).2.1 (by decide) (by decide) T.1 (g_cpfr d) (g_cplo d) ?_
    have T := T.2
    refine wp_aload_n d_St_addRun_38 rfl rfl (g_nz hr1.1) ?_
    refine xgetR d_St_addRun_39 gc_St f_St_15.1 f_St_15.2.1 f_St_15.2.2.1 hr1.1 (gs_2 hr1) hr1.2.2.1 f_St_15.2.2.2.2.1 (gs_r hr1 1 rfl).1 ?_
    refine wp_iload_n d_St_addRun_42 rfl rfl ?_
    refine wp_aload_n d_St_addRun_43 rfl rfl (g_nz hA.1) ?_
    refine xgetR d_St_addRun_44 gc_St f_St_15.1 f_St_15.2.1 f_St_15.2.2.1 hA.1 (gs_2 hA) hA.2.2.1 f_St_15.2.2.2.2.1 (gs_r hA 1 rfl).1 ?_
    refine wp_aload_n d_St_addRun_47 rfl rfl (g_nz hA.1) ?_
    refine xgetI d_St_addRun_48 gc_St f_St_24.1 f_St_24.2.1 f_St_24.2.2.1 hA.1 (gs_2 hA) hA.2.2.1 f_St_24.2.2.2.2.1 (fun h3 => ?_)
    have T := T h3
    refine wp_iload d_St_addRun_51 rfl ?_
    refine wp_copy (a := a + 2) (a0 := r1 + 2) d_St_addRun_53 ml_St_28 na_arraycopy sm_arraycopy in_System (by decide) (gs_r hr1 1 rfl).2.2.1 (gs_r hr1 1 rfl).2.2.2 (gs_r hr1 1 rfl).2.1 (gs_r hA 1 rfl).2.2.1 (gs_r hA 1 rfl).2.2.2 (gs_r hA 1 rfl).2.1 (by decide) (by decide) T.1 (g_cpfr d) (g_cplo d) ?_
    have T := T.2
    refine wp_aload_n d_St_addRun_56 rfl rfl (g_nz hA.1) ?_
    refine xgetR d_St_addRun_57 gc_St f_St_18.1 f_St_18.2.1 f_St_18.2.2.1 hA.1 (gs_2 hA) hA.2.2.1 f_St_18.2.2.2.2.1 (gs_r hA 2 rfl).1 ?_
    refine wp_aload_n d_St_addRun_60 rfl rfl (g_nz hA.1) ?_
    refine xgetI d_St_addRun_61 gc_St f_St_24.1 f_St_24.2.1 f_St_24.2.2.1 hA.1 (gs_2 hA) hA.2.2.1 f_St_24.2.2.2.2.1 (fun h4 => ?_)
    have T := T h4
    refine wp_iaload d_St_addRun_64 (gs_r hA 2 rfl).2.2.1 (gs_r hA 2 rfl).2.2.2 (gs_r hA 2 rfl).2.1 (g32_n T.1 (by decide)) T.1.1 T.1.2 (fun h5 => ?_)
    have T := T.2 h5
    refine wp_aload_n d_St_addRun_65 rfl rfl (g_nz hr1.1) ?_
    refine xgetR d_St_addRun_66 gc_St f_St_18.1 f_St_18.2.1 f_St_18.2.2.1 hr1.1 (gs_2 hr1) hr1.2.2.1 f_St_18.2.2.2.2.1 (gs_r hr1 2 rfl).1 ?_
    refine wp_iload_n d_St_addRun_69 rfl rfl ?_
    refine wp_iaload d_St_addRun_70 (gs_r hr1 2 rfl).2.2.1 (gs_r hr1 2 rfl).2.2.2 (gs_r hr1 2 rfl).2.1 (g32_n T.1 (by decide)) T.1.1 T.1.2 (fun h6 => ?_)
    have T := T.2 h6
    refine wp_isub d_St_addRun_71 ?_
    refine wp_istore (L' := [.val (gR G a), .val (gR G r1), .val (gI x2), .val (gI x3), .val (gI (x3 - x2)), .val (gI (((gCp (gCp M (a + 1) (r1 + 1) (Int.toNat x2) (Int.toNat (M a 0)) (Int.toNat (x3 - x2))) (a + 2) (r1 + 2) (Int.toNat x2) (Int.toNat ((gCp M (a + 1) (r1 + 1) (Int.toNat x2) (Int.toNat (M a 0)) (Int.toNat (x3 - x2))) a 0)) (Int.toNat (x3 - x2))) (a + 3) (Int.toNat ((gCp (gCp M (a + 1) (r1 + 1) (Int.toNat x2) (Int.toNat (M a 0)) (Int.toNat (x3 - x2))) (a + 2) (r1 + 2) (Int.toNat x2) (Int.toNat ((gCp M (a + 1) (r1 + 1) (Int.toNat x2) (Int.toNat (M a 0)) (Int.toNat (x3 - x2))) a 0)) (Int.toNat (x3 - x2))) a 0))) - ((gCp (gCp M (a + 1) (r1 + 1) (Int.toNat x2) (Int.toNat (M a 0)) (Int.toNat (x3 - x2))) (a + 2) (r1 + 2) (Int.toNat x2) (Int.toNat ((gCp M (a + 1) (r1 + 1) (Int.toNat x2) (Int.toNat (M a 0)) (Int.toNat (x3 - x2))) a 0)) (Int.toNat (x3 - x2))) (r1 + 3) (Int.toNat x2)))), .unset]) d_St_addRun_72 (by decide) rfl ?_
    refine wp_aload_n d_St_addRun_74 rfl rfl (g_nz hr1.1) ?_
    refine xgetR d_St_addRun_75 gc_St f_St_21.1 f_St_21.2.1 f_St_21.2.2.1 hr1.1 (gs_2 hr1) hr1.2.2.1 f_St_21.2.2.2.2.1 (gs_r hr1 3 rfl).1 ?_
    refine wp_aload_n d_St_addRun_78 rfl rfl (g_nz hr1.1) ?_
    refine xgetR d_St_addRun_79 gc_St f_St_18.1 f_St_18.2.1 f_St_18.2.2.1 hr1.1 (gs_2 hr1) hr1.2.2.1 f_St_18.2.2.2.2.1 (gs_r hr1 2 rfl).1 ?_
    refine wp_iload_n d_St_addRun_82 rfl rfl ?_
    refine wp_iaload d_St_addRun_83 (gs_r hr1 2 rfl).2.2.1 (gs_r hr1 2 rfl).2.2.2 (gs_r hr1 2 rfl).2.1 (g32_n T.1 (by decide)) T.1.1 T.1.2 (fun h7 => ?_)
    have T := T.2 h7
    refine wp_aload_n d_St_addRun_84 rfl rfl (g_nz hA.1) ?_
    refine xgetR d_St_addRun_85 gc_St f_St_21.1 f_St_21.2.1 f_St_21.2.2.1 hA.1 (gs_2 hA) hA.2.2.1 f_St_21.2.2.2.2.1 (gs_r hA 3 rfl).1 ?_
    refine wp_aload_n d_St_addRun_88 rfl rfl (g_nz hA.1) ?_
    refine xgetR d_St_addRun_89 gc_St f_St_18.1 f_St_18.2.1 f_St_18.2.2.1 hA.1 (gs_2 hA) hA.2.2.1 f_St_18.2.2.2.2.1 (gs_r hA 2 rfl).1 ?_
    refine wp_aload_n d_St_addRun_92 rfl rfl (g_nz hA.1) ?_
    refine xgetI d_St_addRun_93 gc_St f_St_24.1 f_St_24.2.1 f_St_24.2.2.1 hA.1 (gs_2 hA) hA.2.2.1 f_St_24.2.2.2.2.1 (fun h8 => ?_)
    have T := T h8
    refine wp_iaload d_St_addRun_96 (gs_r hA 2 rfl).2.2.1 (gs_r hA 2 rfl).2.2.2 (gs_r hA 2 rfl).2.1 (g32_n T.1 (by decide)) T.1.1 T.1.2 (fun h9 => ?_)
    have T := T.2 h9
    refine wp_aload_n d_St_addRun_97 rfl rfl (g_nz hr1.1) ?_
    refine xgetR d_St_addRun_98 gc_St f_St_18.1 f_St_18.2.1 f_St_18.2.2.1 hr1.1 (gs_2 hr1) hr1.2.2.1 f_St_18.2.2.2.2.1 (gs_r hr1 2 rfl).1 ?_
    refine wp_iload_n d_St_addRun_101 rfl rfl ?_
    refine wp_iaload d_St_addRun_102 (gs_r hr1 2 rfl).2.2.1 (gs_r hr1 2 rfl).2.2.2 (gs_r hr1 2 rfl).2.1 (g32_n T.1 (by decide)) T.1.1 T.1.2 (fun h10 => ?_)
    have T := T.2 h10
    refine wp_aload_n d_St_addRun_103 rfl rfl (g_nz hr1.1) ?_
    refine xgetR d_St_addRun_104 gc_St f_St_18.1 f_St_18.2.1 f_St_18.2.2.1 hr1.1 (gs_2 hr1) hr1.2.2.1 f_St_18.2.2.2.2.1 (gs_r hr1 2 rfl).1 ?_
    refine wp_iload_n d_St_addRun_107 rfl rfl ?_
    refine wp_iaload d_St_addRun_108 (gs_r hr1 2 rfl).2.2.1 (gs_r hr1 2 rfl).2.2.2 (gs_r hr1 2 rfl).2.1 (g32_n T.1 (by decide)) T.1.1 T.1.2 (fun h11 => ?_)
    have T := T.2 h11
    refine wp_isub d_St_addRun_109 ?_
    refine wp_copy (a := a + 4) (a0 := r1 + 4) d_St_addRun_110 ml_St_28 na_arraycopy sm_arraycopy in_System (by decide) (gs_r hr1 3 rfl).2.2.1 (gs_r hr1 3 rfl).2.2.2 (gs_r hr1 3 rfl).2.1 (gs_r hA 3 rfl).2.2.1 (gs_r hA 3 rfl).2.2.2 (gs_r hA 3 rfl).2.1 (by decide) (by decide) T.1 (g_cpfr d) (g_cplo d) ?_
    have T := T.2
    refine wp_iconst d_St_addRun_113 ?_
    refine wp_istore (L' := [.val (gR G a), .val (gR G r1), .val (gI x2), .val (gI x3), .val (gI (x3 - x2)), .val (gI (((gCp (gCp M (a + 1) (r1 + 1) (Int.toNat x2) (Int.toNat (M a 0)) (Int.toNat (x3 - x2))) (a + 2) (r1 + 2) (Int.toNat x2) (Int.toNat ((gCp M (a + 1) (r1 + 1) (Int.toNat x2) (Int.toNat (M a 0)) (Int.toNat (x3 - x2))) a 0)) (Int.toNat (x3 - x2))) (a + 3) (Int.toNat ((gCp (gCp M (a + 1) (r1 + 1) (Int.toNat x2) (Int.toNat (M a 0)) (Int.toNat (x3 - x2))) (a + 2) (r1 + 2) (Int.toNat x2) (Int.toNat ((gCp M (a + 1) (r1 + 1) (Int.toNat x2) (Int.toNat (M a 0)) (Int.toNat (x3 - x2))) a 0)) (Int.toNat (x3 - x2))) a 0))) - ((gCp (gCp M (a + 1) (r1 + 1) (Int.toNat x2) (Int.toNat (M a 0)) (Int.toNat (x3 - x2))) (a + 2) (r1 + 2) (Int.toNat x2) (Int.toNat ((gCp M (a + 1) (r1 + 1) (Int.toNat x2) (Int.toNat (M a 0)) (Int.toNat (x3 - x2))) a 0)) (Int.toNat (x3 - x2))) (r1 + 3) (Int.toNat x2)))), .val (gI 1)]) d_St_addRun_114 (by decide) rfl ?_
    exact wp_md (wpt T (And.intro rfl (And.intro rfl (And.intro rfl (And.intro (gI_w _) (And.intro (gI_w _) (And.intro rfl True.intro)))))))
  · have T := T.2 h12
    refine wp_iconst d_St_addRun_18 ?_
    exact wp_zreturn d_St_addRun_19 rfl (g_narz (⟨by decide, by decide⟩ : (0 : Int) ≤ 0 ∧ (0 : Int) ≤ 1)) (fun _ => rfl) (Nat.zero_le _) (Nat.zero_le _) (kZ_mk (⟨by decide, by decide⟩ : (0 : Int) ≤ 0 ∧ (0 : Int) ≤ 1) T)
set_option maxHeartbeats 4000000 in
theorem w_St_addRun_116 {l : Launch} {G : gG} {d : Nat} {X : gX} {M : gM} {k : Int → gM → Prop} {a : Nat} (hA : gsX X a) {x2 : Int} (hx2 : g32 x2) {x4 : Int} (hx4 : g32 x4) {x5 : Int} (hx5 : g32 x5) {x6 : Int} (hx6 : g32 x6) {r1 : Nat} (hr1 : gsX X r1)  (T : (x4 < x6 → (g32 (M a 0) → (k 1 (gUp M a 0 (w32 ((M a 0) + x4)))))) ∧ (¬ x4 < x6 → (g32 (M a 0) → (((0 : Int) ≤ x2 + x6 ∧ x2 + x6 < 401) ∧ (g32 (M (r1 + 3) (Int.toNat (x2 + x6))) → (((0 : Int) ≤ (M a 0) + x6 ∧ (M a 0) + x6 < 401) ∧ (wp l G y_St_addRun (gRm (d + 1)) true (kkZ X k) true 116 [.val (gR G a), .val (gR G r1), .val (gI x2), .unset, .val (gI x4), .val (gI x5), .val (gI (w32 (x6 + 1)))] [] X (gUp M (a + 3) (Int.toNat ((M a 0) + x6)) (w32 ((M (r1 + 3) (Int.toNat (x2 + x6))) + x5))) 0 0))))))) : wp l G y_St_addRun (gRm (d + 1)) true (kkZ X k) true 116 [.val (gR G a), .val (gR G r1), .val (gI x2), .unset, .val (gI x4), .val (gI x5), .val (gI x6)] [] X M 0 0 := by
  refine wp_iload d_St_addRun_116 rfl ?_
  refine wp_iload d_St_addRun_118 rfl ?_
  refine xi_gt (tgt := 153) d_St_addRun_120 (by decide) (w32_id hx6) (w32_id hx4) (fun h16 => ?_) (fun h16 => ?_)
  · have T := T.1 h16
    refine wp_aload_n d_St_addRun_153 rfl rfl (g_nz hA.1) ?_
    refine wp_dup d_St_addRun_154 (gR_cat _) ?_
    refine xgetI d_St_addRun_155 gc_St f_St_24.1 f_St_24.2.1 f_St_24.2.2.1 hA.1 (gs_2 hA) hA.2.2.1 f_St_24.2.2.2.2.1 (fun h13 => ?_)
    have T := T h13
    refine wp_iload d_St_addRun_158 rfl ?_
    refine wp_iadd d_St_addRun_160 ?_
    refine xputI d_St_addRun_161 gc_St f_St_24.1 f_St_24.2.1 f_St_24.2.2.1 hA.1 (gs_2 hA) hA.2.2.1 f_St_24.2.2.2.1 f_St_24.2.2.2.2.1 f_St_24.2.2.2.2.2 rfl ?_
    refine wp_iconst d_St_addRun_164 ?_
    exact wp_zreturn d_St_addRun_165 rfl (g_narz (⟨by decide, by decide⟩ : (0 : Int) ≤ 1 ∧ (1 : Int) ≤ 1)) (fun _ => rfl) (Nat.zero_le _) (Nat.zero_le _) (kZ_mk (⟨by decide, by decide⟩ : (0 : Int) ≤ 1 ∧ (1 : Int) ≤ 1) T)
  · have T := T.2 h16
    refine wp_aload_n d_St_addRun_123 rfl rfl (g_nz hA.1) ?_
    refine xgetR d_St_addRun_124 gc_St f_St_18.1 f_St_18.2.1 f_St_18.2.2.1 hA.1 (gs_2 hA) hA.2.2.1 f_St_18.2.2.2.2.1 (gs_r hA 2 rfl).1 ?_
    refine wp_aload_n d_St_addRun_127 rfl rfl (g_nz hA.1) ?_
    refine xgetI d_St_addRun_128 gc_St f_St_24.1 f_St_24.2.1 f_St_24.2.2.1 hA.1 (gs_2 hA) hA.2.2.1 f_St_24.2.2.2.2.1 (fun h14 => ?_)
    have T := T h14
    refine wp_iload d_St_addRun_131 rfl ?_
    refine wp_iadd d_St_addRun_133 ?_
    refine wp_aload_n d_St_addRun_134 rfl rfl (g_nz hr1.1) ?_
    refine xgetR d_St_addRun_135 gc_St f_St_18.1 f_St_18.2.1 f_St_18.2.2.1 hr1.1 (gs_2 hr1) hr1.2.2.1 f_St_18.2.2.2.2.1 (gs_r hr1 2 rfl).1 ?_
    refine wp_iload_n d_St_addRun_138 rfl rfl ?_
    refine wp_iload d_St_addRun_139 rfl ?_
    refine wp_iadd d_St_addRun_141 ?_
    refine wp_iaload d_St_addRun_142 (gs_r hr1 2 rfl).2.2.1 (gs_r hr1 2 rfl).2.2.2 (gs_r hr1 2 rfl).2.1 (g32_n T.1 (by decide)) T.1.1 T.1.2 (fun h15 => ?_)
    have T := T.2 h15
    refine wp_iload d_St_addRun_143 rfl ?_
    refine wp_iadd d_St_addRun_145 ?_
    refine xiast d_St_addRun_146 (gs_r hA 2 rfl).2.2.1 (gs_r hA 2 rfl).2.2.2 (gs_r hA 2 rfl).2.1 (by decide) T.1 rfl ?_
    have T := T.2
    refine wp_iinc (L' := [.val (gR G a), .val (gR G r1), .val (gI x2), .unset, .val (gI x4), .val (gI x5), .val (gI (x6 + 1))]) d_St_addRun_147 rfl (by decide) rfl ?_
    refine wp_goto (tgt := 116) d_St_addRun_150 (by decide) ?_
    exact wp_md (wpt T (And.intro rfl (And.intro rfl (And.intro rfl (And.intro rfl (And.intro rfl (And.intro (gI_w _) True.intro)))))))
theorem e_St_addRun {l : Launch} {G : gG} {d : Nat} {X : gX} {M : gM} {k : Int → gM → Prop} {a : Nat} {r1 : Nat} {x2 : Int} {x3 : Int} (T : wp l G y_St_addRun (gRm (d + 1)) true (kkZ X k) false 0 [.val (gR G a), .val (gR G r1), .val (gI x2), .val (gI x3), .unset, .unset, .unset] [] X M 0 0) : cZ l G y_St_addRun (gRm (d + 1)) true [gR G a, gR G r1, gI x2, gI x3] X M k := cen_Z (plainFor_of_name rfl) (by simp only [lg_sl_R, lg_sl_I, lg_sl_L, lg_sl_N, List.length_cons, List.length_nil]; decide) (by unfold gEn; simp only [lg_sl_R, lg_sl_I, lg_sl_L, lg_sl_N]; exact wpt T (And.intro rfl (And.intro rfl (And.intro rfl (And.intro rfl True.intro)))))
