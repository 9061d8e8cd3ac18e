/-! Walks of the class's methods, written by wip/whole/gen_class.py -/
theorem d_Ed_rangesFit_0 : decode prog_5_method_16_code 0 = .ok (.iconst 0, 1) := by decide +kernel
theorem d_Ed_rangesFit_1 : decode prog_5_method_16_code 1 = .ok (.istore_n 1, 1) := by decide +kernel
theorem d_Ed_rangesFit_2 : decode prog_5_method_16_code 2 = .ok (.iconst 0, 1) := by decide +kernel
theorem d_Ed_rangesFit_3 : decode prog_5_method_16_code 3 = .ok (.istore_n 2, 1) := by decide +kernel
theorem d_Ed_rangesFit_4 : decode prog_5_method_16_code 4 = .ok (.iload_n 2, 1) := by decide +kernel
theorem d_Ed_rangesFit_5 : decode prog_5_method_16_code 5 = .ok (.aload_n 0, 1) := by decide +kernel
theorem d_Ed_rangesFit_6 : decode prog_5_method_16_code 6 = .ok (.getfield 23, 3) := by decide +kernel
theorem d_Ed_rangesFit_9 : decode prog_5_method_16_code 9 = .ok (.getfield 26, 3) := by decide +kernel
theorem d_Ed_rangesFit_12 : decode prog_5_method_16_code 12 = .ok (.if_icmp .ge 37, 3) := by decide +kernel
theorem d_Ed_rangesFit_49 : decode prog_5_method_16_code 49 = .ok (.iload_n 1, 1) := by decide +kernel
theorem d_Ed_rangesFit_50 : decode prog_5_method_16_code 50 = .ok (.sipush 20000, 3) := by decide +kernel
theorem d_Ed_rangesFit_53 : decode prog_5_method_16_code 53 = .ok (.if_icmp .gt 7, 3) := by decide +kernel
theorem d_Ed_rangesFit_60 : decode prog_5_method_16_code 60 = .ok (.iconst 0, 1) := by decide +kernel
theorem d_Ed_rangesFit_61 : decode prog_5_method_16_code 61 = .ok (.ireturn, 1) := by decide +kernel
theorem d_Ed_rangesFit_56 : decode prog_5_method_16_code 56 = .ok (.iconst 1, 1) := by decide +kernel
theorem d_Ed_rangesFit_57 : decode prog_5_method_16_code 57 = .ok (.goto 4, 3) := by decide +kernel
theorem d_Ed_rangesFit_15 : decode prog_5_method_16_code 15 = .ok (.aload_n 0, 1) := by decide +kernel
theorem d_Ed_rangesFit_16 : decode prog_5_method_16_code 16 = .ok (.getfield 15, 3) := by decide +kernel
theorem d_Ed_rangesFit_19 : decode prog_5_method_16_code 19 = .ok (.getfield 144, 3) := by decide +kernel
theorem d_Ed_rangesFit_22 : decode prog_5_method_16_code 22 = .ok (.aload_n 0, 1) := by decide +kernel
theorem d_Ed_rangesFit_23 : decode prog_5_method_16_code 23 = .ok (.getfield 23, 3) := by decide +kernel
theorem d_Ed_rangesFit_26 : decode prog_5_method_16_code 26 = .ok (.getfield 60, 3) := by decide +kernel
theorem d_Ed_rangesFit_29 : decode prog_5_method_16_code 29 = .ok (.iload_n 2, 1) := by decide +kernel
theorem d_Ed_rangesFit_30 : decode prog_5_method_16_code 30 = .ok (.iaload, 1) := by decide +kernel
theorem d_Ed_rangesFit_31 : decode prog_5_method_16_code 31 = .ok (.iaload, 1) := by decide +kernel
theorem d_Ed_rangesFit_32 : decode prog_5_method_16_code 32 = .ok (.ifCond .le 11, 3) := by decide +kernel
theorem d_Ed_rangesFit_43 : decode prog_5_method_16_code 43 = .ok (.iinc 2 1, 3) := by decide +kernel
theorem d_Ed_rangesFit_46 : decode prog_5_method_16_code 46 = .ok (.goto (-42), 3) := by decide +kernel
theorem d_Ed_rangesFit_35 : decode prog_5_method_16_code 35 = .ok (.iload_n 1, 1) := by decide +kernel
theorem d_Ed_rangesFit_36 : decode prog_5_method_16_code 36 = .ok (.aload_n 0, 1) := by decide +kernel
theorem d_Ed_rangesFit_37 : decode prog_5_method_16_code 37 = .ok (.iload_n 2, 1) := by decide +kernel
theorem d_Ed_rangesFit_38 : decode prog_5_method_16_code 38 = .ok (.invokevirtual 147, 3) := by decide +kernel
theorem d_Ed_rangesFit_41 : decode prog_5_method_16_code 41 = .ok (.iadd, 1) := by decide +kernel
theorem d_Ed_rangesFit_42 : decode prog_5_method_16_code 42 = .ok (.istore_n 1, 1) := by decide +kernel
set_option maxHeartbeats 4000000 in
theorem w_Ed_rangesFit_0 {l : Launch} {G : gG} {d : Nat} {X : gX} {M : gM} {k : Int → gM → Prop} {c : Nat} (hX : glX X c)   (T : wp l G y_Ed_rangesFit (gRm (d + 1)) false (kkZ X k) false 4 [.val (gR G (c + 21)), .val (gI 0), .val (gI 0)] [] X M 0 0) : wp l G y_Ed_rangesFit (gRm (d + 1)) false (kkZ X k) false 0 [.val (gR G (c + 21)), .unset, .unset] [] X M 0 0 := by
  refine wp_iconst d_Ed_rangesFit_0 ?_
  refine wp_istore_n (L' := [.val (gR G (c + 21)), .val (gI 0), .unset]) d_Ed_rangesFit_1 rfl (by decide) (gS1_R rfl rfl) ?_
  refine wp_iconst d_Ed_rangesFit_2 ?_
  refine wp_istore_n (L' := [.val (gR G (c + 21)), .val (gI 0), .val (gI 0)]) d_Ed_rangesFit_3 rfl (by decide) rfl ?_
  exact (wpt T (And.intro rfl (And.intro rfl (And.intro rfl True.intro))))
set_option maxHeartbeats 4000000 in
theorem w_Ed_rangesFit_4 {l : Launch} {G : gG} {d : Nat} {X : gX} {M : gM} {k : Int → gM → Prop} {c : Nat} (hX : glX X c) {x1 : Int} (hx1 : g32 x1) {x2 : Int} (hx2 : g32 x2) {s3 : Nat} (hs3 : X.2.2 (c + 21) 3 = s3 ∧ gsX X s3) (T : g32 (M s3 0) → ((M s3 0 ≤ x2 → ((20000 < x1 → (k 0 M)) ∧ (¬ 20000 < x1 → (k 1 M)))) ∧ (¬ M s3 0 ≤ x2 → (((0 : Int) ≤ x2 ∧ x2 < 400) ∧ (g32 (M (s3 + 2) (Int.toNat x2)) → (((0 : Int) ≤ M (s3 + 2) (Int.toNat x2) ∧ M (s3 + 2) (Int.toNat x2) < 513) ∧ (g32 (M (c + 8) (Int.toNat (M (s3 + 2) (Int.toNat x2)))) → ((M (c + 8) (Int.toNat (M (s3 + 2) (Int.toNat x2))) ≤ 0 → (wp l G y_Ed_rangesFit (gRm (d + 1)) false (kkZ X k) false 4 [.val (gR G (c + 21)), .val (gI x1), .val (gI (w32 (x2 + 1)))] [] X M 0 0)) ∧ (¬ M (c + 8) (Int.toNat (M (s3 + 2) (Int.toNat x2))) ≤ 0 → (cI l G y_Ed_rangeCells (gRm d) false [gR G (c + 21), gI x2] X M (fun v6 M5 => (wp l G y_Ed_rangesFit (gRm (d + 1)) false (kkZ X k) false 4 [.val (gR G (c + 21)), .val (gI (w32 (x1 + v6))), .val (gI (w32 (x2 + 1)))] [] X M5 0 0)))))))))))) : wp l G y_Ed_rangesFit (gRm (d + 1)) false (kkZ X k) false 4 [.val (gR G (c + 21)), .val (gI x1), .val (gI x2)] [] X M 0 0 := by
  refine wp_iload_n d_Ed_rangesFit_4 rfl rfl ?_
  refine wp_aload_n d_Ed_rangesFit_5 rfl rfl (g_nz (gl_1 hX 21)) ?_
  refine xgetR d_Ed_rangesFit_6 gc_Ed f_Ed_23.1 f_Ed_23.2.1 f_Ed_23.2.2.1 (gl_1 hX 21) (gl_2 hX (a := 21) (by decide)) (gl_s hX 21 rfl) f_Ed_23.2.2.2.2.1 hs3.1 ?_
  refine xgetI d_Ed_rangesFit_9 gc_St f_Ed_26.1 f_Ed_26.2.1 f_Ed_26.2.2.1 hs3.2.1 (gs_2 hs3.2) hs3.2.2.2.1 f_Ed_26.2.2.2.2.1 (fun h1 => ?_)
  have T := T h1
  refine xi_ge (tgt := 49) d_Ed_rangesFit_12 (by decide) (w32_id hx2) (w32_id h1) (fun h9 => ?_) (fun h9 => ?_)
  · have T := T.1 h9
    refine wp_iload_n d_Ed_rangesFit_49 rfl rfl ?_
    refine wp_sipush d_Ed_rangesFit_50 ⟨by decide, by decide⟩ ?_
    refine xi_gt (tgt := 60) d_Ed_rangesFit_53 (by decide) (w32_id hx1) (w32_id (g32_c (x := 20000) rfl)) (fun h2 => ?_) (fun h2 => ?_)
    · have T := T.1 h2
      refine wp_iconst d_Ed_rangesFit_60 ?_
      exact wp_zreturn d_Ed_rangesFit_61 rfl (g_narz (⟨by decide, by decide⟩ : (0 : Int) ≤ 0 ∧ (0 : Int) ≤ 1)) id (Nat.zero_le _) (Nat.zero_le _) (kZ_mk (⟨by decide, by decide⟩ : (0 : Int) ≤ 0 ∧ (0 : Int) ≤ 1) T)
    · have T := T.2 h2
      refine wp_iconst d_Ed_rangesFit_56 ?_
      refine wp_goto (tgt := 61) d_Ed_rangesFit_57 (by decide) ?_
      exact wp_zreturn d_Ed_rangesFit_61 rfl (g_narz (⟨by decide, by decide⟩ : (0 : Int) ≤ 1 ∧ (1 : Int) ≤ 1)) id (Nat.zero_le _) (Nat.zero_le _) (kZ_mk (⟨by decide, by decide⟩ : (0 : Int) ≤ 1 ∧ (1 : Int) ≤ 1) T)
  · have T := T.2 h9
    refine wp_aload_n d_Ed_rangesFit_15 rfl rfl (g_nz (gl_1 hX 21)) ?_
    refine xgetR d_Ed_rangesFit_16 gc_Ed f_Ed_15.1 f_Ed_15.2.1 f_Ed_15.2.2.1 (gl_1 hX 21) (gl_2 hX (a := 21) (by decide)) (gl_s hX 21 rfl) f_Ed_15.2.2.2.2.1 (gl_f hX 25 rfl) ?_
    refine xgetR d_Ed_rangesFit_19 gc_Cn f_Ed_144.1 f_Ed_144.2.1 f_Ed_144.2.2.1 (gl_1 hX 2) (gl_2 hX (a := 2) (by decide)) (gl_s hX 2 rfl) f_Ed_144.2.2.2.2.1 (gl_f hX 7 rfl) ?_
    refine wp_aload_n d_Ed_rangesFit_22 rfl rfl (g_nz (gl_1 hX 21)) ?_
    refine xgetR d_Ed_rangesFit_23 gc_Ed f_Ed_23.1 f_Ed_23.2.1 f_Ed_23.2.2.1 (gl_1 hX 21) (gl_2 hX (a := 21) (by decide)) (gl_s hX 21 rfl) f_Ed_23.2.2.2.2.1 hs3.1 ?_
    refine xgetR d_Ed_rangesFit_26 gc_St f_Ed_60.1 f_Ed_60.2.1 f_Ed_60.2.2.1 hs3.2.1 (gs_2 hs3.2) hs3.2.2.2.1 f_Ed_60.2.2.2.2.1 (gs_r hs3.2 1 rfl).1 ?_
    refine wp_iload_n d_Ed_rangesFit_29 rfl rfl ?_
    refine wp_iaload d_Ed_rangesFit_30 (gs_r hs3.2 1 rfl).2.2.1 (gs_r hs3.2 1 rfl).2.2.2 (gs_r hs3.2 1 rfl).2.1 (g32_n T.1 (by decide)) T.1.1 T.1.2 (fun h3 => ?_)
    have T := T.2 h3
    refine wp_iaload d_Ed_rangesFit_31 (gl_1 hX 8) (gl_2 hX (a := 8) (by decide)) (gl_s hX 8 rfl) (g32_n T.1 (by decide)) T.1.1 T.1.2 (fun h4 => ?_)
    have T := T.2 h4
    refine xz_le (tgt := 43) d_Ed_rangesFit_32 (by decide) (w32_id h4) (fun h8 => ?_) (fun h8 => ?_)
    · have T := T.1 h8
      refine wp_iinc (L' := [.val (gR G (c + 21)), .val (gI x1), .val (gI (x2 + 1))]) d_Ed_rangesFit_43 rfl (by decide) rfl ?_
      refine wp_goto (tgt := 4) d_Ed_rangesFit_46 (by decide) ?_
      exact (wpt T (And.intro rfl (And.intro rfl (And.intro (gI_w _) True.intro))))
    · have T := T.2 h8
      refine wp_iload_n d_Ed_rangesFit_35 rfl rfl ?_
      refine wp_aload_n d_Ed_rangesFit_36 rfl rfl (g_nz (gl_1 hX 21)) ?_
      refine wp_iload_n d_Ed_rangesFit_37 rfl rfl ?_
      refine xcV_I (md' := false) (As := [gI x2]) (st := [gI x1]) d_Ed_rangesFit_38 ca_Ed_rangeCells ml_Ed_147 im_Ed_rangeCells se_Ed_rangeCells gc_Ed (gl_1 hX 21) (gl_2 hX (a := 21) (by decide)) (gl_s hX 21 rfl) rfl (by decide) (by simp only [List.map, gR_cat, gI_cat, gL_cat, List.sum_cons, List.sum_nil]; decide) rfl id id T (fun v6 M5 h7 T => ?_)
      refine wp_iadd d_Ed_rangesFit_41 ?_
      refine wp_istore_n (L' := [.val (gR G (c + 21)), .val (gI (x1 + v6)), .val (gI x2)]) d_Ed_rangesFit_42 rfl (by decide) (gS1_R rfl rfl) ?_
      refine wp_iinc (L' := [.val (gR G (c + 21)), .val (gI (x1 + v6)), .val (gI (x2 + 1))]) d_Ed_rangesFit_43 rfl (by decide) rfl ?_
      refine wp_goto (tgt := 4) d_Ed_rangesFit_46 (by decide) ?_
      exact (wpt T (And.intro rfl (And.intro (gI_w _) (And.intro (gI_w _) True.intro))))
theorem e_Ed_rangesFit {l : Launch} {G : gG} {d : Nat} {X : gX} {M : gM} {k : Int → gM → Prop} {c : Nat} (T : wp l G y_Ed_rangesFit (gRm (d + 1)) false (kkZ X k) false 0 [.val (gR G (c + 21)), .unset, .unset] [] X M 0 0) : cZ l G y_Ed_rangesFit (gRm (d + 1)) false [gR G (c + 21)] X M k := cen_Z (plainFor_of_name rfl) (by simp only [lg_sl_R, lg_sl_I, lg_sl_L, lg_sl_N, List.length_cons, List.length_nil]; decide) (by unfold gEn; simp only [lg_sl_R, lg_sl_I, lg_sl_L, lg_sl_N]; exact wpt T (And.intro rfl True.intro))
