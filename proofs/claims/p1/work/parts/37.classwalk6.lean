/-! Walks of the class's methods, written by wip/whole/gen_class.py -/
theorem d_Or_arrange_0 : decode prog_7_method_2_code 0 = .ok (.iconst 0, 1) := by decide +kernel
theorem d_Or_arrange_1 : decode prog_7_method_2_code 1 = .ok (.istore_n 3, 1) := by decide +kernel
theorem d_Or_arrange_2 : decode prog_7_method_2_code 2 = .ok (.iload_n 3, 1) := by decide +kernel
theorem d_Or_arrange_3 : decode prog_7_method_2_code 3 = .ok (.aload_n 1, 1) := by decide +kernel
theorem d_Or_arrange_4 : decode prog_7_method_2_code 4 = .ok (.getfield 45, 3) := by decide +kernel
theorem d_Or_arrange_7 : decode prog_7_method_2_code 7 = .ok (.bipush 7, 2) := by decide +kernel
theorem d_Or_arrange_9 : decode prog_7_method_2_code 9 = .ok (.imul, 1) := by decide +kernel
theorem d_Or_arrange_10 : decode prog_7_method_2_code 10 = .ok (.if_icmp .ge 16, 3) := by decide +kernel
theorem d_Or_arrange_26 : decode prog_7_method_2_code 26 = .ok (.iconst 0, 1) := by decide +kernel
theorem d_Or_arrange_27 : decode prog_7_method_2_code 27 = .ok (.istore_n 3, 1) := by decide +kernel
theorem d_Or_arrange_13 : decode prog_7_method_2_code 13 = .ok (.aload_n 0, 1) := by decide +kernel
theorem d_Or_arrange_14 : decode prog_7_method_2_code 14 = .ok (.getfield 11, 3) := by decide +kernel
theorem d_Or_arrange_17 : decode prog_7_method_2_code 17 = .ok (.iload_n 3, 1) := by decide +kernel
theorem d_Or_arrange_18 : decode prog_7_method_2_code 18 = .ok (.lconst 0, 1) := by decide +kernel
theorem d_Or_arrange_19 : decode prog_7_method_2_code 19 = .ok (.lastore, 1) := by decide +kernel
theorem d_Or_arrange_20 : decode prog_7_method_2_code 20 = .ok (.iinc 3 1, 3) := by decide +kernel
theorem d_Or_arrange_23 : decode prog_7_method_2_code 23 = .ok (.goto (-21), 3) := by decide +kernel
theorem d_Or_arrange_28 : decode prog_7_method_2_code 28 = .ok (.iload_n 3, 1) := by decide +kernel
theorem d_Or_arrange_29 : decode prog_7_method_2_code 29 = .ok (.aload_n 1, 1) := by decide +kernel
theorem d_Or_arrange_30 : decode prog_7_method_2_code 30 = .ok (.getfield 45, 3) := by decide +kernel
theorem d_Or_arrange_33 : decode prog_7_method_2_code 33 = .ok (.if_icmp .ge 23, 3) := by decide +kernel
theorem d_Or_arrange_56 : decode prog_7_method_2_code 56 = .ok (.aload_n 0, 1) := by decide +kernel
theorem d_Or_arrange_57 : decode prog_7_method_2_code 57 = .ok (.iconst 0, 1) := by decide +kernel
theorem d_Or_arrange_58 : decode prog_7_method_2_code 58 = .ok (.putfield 55, 3) := by decide +kernel
theorem d_Or_arrange_61 : decode prog_7_method_2_code 61 = .ok (.aload_n 0, 1) := by decide +kernel
theorem d_Or_arrange_62 : decode prog_7_method_2_code 62 = .ok (.iconst 0, 1) := by decide +kernel
theorem d_Or_arrange_63 : decode prog_7_method_2_code 63 = .ok (.putfield 58, 3) := by decide +kernel
theorem d_Or_arrange_66 : decode prog_7_method_2_code 66 = .ok (.iconst 0, 1) := by decide +kernel
theorem d_Or_arrange_67 : decode prog_7_method_2_code 67 = .ok (.istore_n 3, 1) := by decide +kernel
theorem d_Or_arrange_36 : decode prog_7_method_2_code 36 = .ok (.aload_n 0, 1) := by decide +kernel
theorem d_Or_arrange_37 : decode prog_7_method_2_code 37 = .ok (.aload_n 1, 1) := by decide +kernel
theorem d_Or_arrange_38 : decode prog_7_method_2_code 38 = .ok (.aload_n 2, 1) := by decide +kernel
theorem d_Or_arrange_39 : decode prog_7_method_2_code 39 = .ok (.iload_n 3, 1) := by decide +kernel
theorem d_Or_arrange_40 : decode prog_7_method_2_code 40 = .ok (.invokevirtual 51, 3) := by decide +kernel
theorem d_Or_arrange_43 : decode prog_7_method_2_code 43 = .ok (.aload_n 0, 1) := by decide +kernel
theorem d_Or_arrange_44 : decode prog_7_method_2_code 44 = .ok (.getfield 23, 3) := by decide +kernel
theorem d_Or_arrange_47 : decode prog_7_method_2_code 47 = .ok (.iload_n 3, 1) := by decide +kernel
theorem d_Or_arrange_48 : decode prog_7_method_2_code 48 = .ok (.iconst 0, 1) := by decide +kernel
theorem d_Or_arrange_49 : decode prog_7_method_2_code 49 = .ok (.iastore, 1) := by decide +kernel
theorem d_Or_arrange_50 : decode prog_7_method_2_code 50 = .ok (.iinc 3 1, 3) := by decide +kernel
theorem d_Or_arrange_53 : decode prog_7_method_2_code 53 = .ok (.goto (-25), 3) := by decide +kernel
theorem d_Or_arrange_68 : decode prog_7_method_2_code 68 = .ok (.iload_n 3, 1) := by decide +kernel
theorem d_Or_arrange_69 : decode prog_7_method_2_code 69 = .ok (.aload_n 1, 1) := by decide +kernel
theorem d_Or_arrange_70 : decode prog_7_method_2_code 70 = .ok (.getfield 45, 3) := by decide +kernel
theorem d_Or_arrange_73 : decode prog_7_method_2_code 73 = .ok (.if_icmp .ge 23, 3) := by decide +kernel
theorem d_Or_arrange_96 : decode prog_7_method_2_code 96 = .ok (.return_, 1) := by decide +kernel
theorem d_Or_arrange_76 : decode prog_7_method_2_code 76 = .ok (.aload_n 0, 1) := by decide +kernel
theorem d_Or_arrange_77 : decode prog_7_method_2_code 77 = .ok (.getfield 23, 3) := by decide +kernel
theorem d_Or_arrange_80 : decode prog_7_method_2_code 80 = .ok (.iload_n 3, 1) := by decide +kernel
theorem d_Or_arrange_81 : decode prog_7_method_2_code 81 = .ok (.iaload, 1) := by decide +kernel
theorem d_Or_arrange_82 : decode prog_7_method_2_code 82 = .ok (.ifCond .ne 8, 3) := by decide +kernel
theorem d_Or_arrange_90 : decode prog_7_method_2_code 90 = .ok (.iinc 3 1, 3) := by decide +kernel
theorem d_Or_arrange_93 : decode prog_7_method_2_code 93 = .ok (.goto (-25), 3) := by decide +kernel
theorem d_Or_arrange_85 : decode prog_7_method_2_code 85 = .ok (.aload_n 0, 1) := by decide +kernel
theorem d_Or_arrange_86 : decode prog_7_method_2_code 86 = .ok (.iload_n 3, 1) := by decide +kernel
theorem d_Or_arrange_87 : decode prog_7_method_2_code 87 = .ok (.invokevirtual 61, 3) := by decide +kernel
set_option maxHeartbeats 4000000 in
theorem w_Or_arrange_0 {l : Launch} {G : gG} {d : Nat} {X : gX} {M : gM} {k : gM → Prop} {c : Nat} (hX : glX X c) {r1 : Nat} (hr1 : gsX X r1) {r2 n2 : Nat} (hr2 : 1 ≤ r2 ∧ r2 ≤ X.1 ∧ X.2.1 r2 = (0, n2) ∧ n2 ≤ 2147483647)  (T : wp l G y_Or_arrange (gRm (d + 1)) true (kkV X k) true 2 [.val (gR G (c + 1047)), .val (gR G r1), .val (gR G r2), .val (gI 0)] [] X M 0 0) : wp l G y_Or_arrange (gRm (d + 1)) true (kkV X k) false 0 [.val (gR G (c + 1047)), .val (gR G r1), .val (gR G r2), .unset] [] X M 0 0 := by
  refine wp_iconst d_Or_arrange_0 ?_
  refine wp_istore_n (L' := [.val (gR G (c + 1047)), .val (gR G r1), .val (gR G r2), .val (gI 0)]) d_Or_arrange_1 rfl (by decide) (gS1_R rfl rfl) ?_
  exact wp_md (wpt T (And.intro rfl (And.intro rfl (And.intro rfl (And.intro rfl True.intro)))))
set_option maxHeartbeats 4000000 in
theorem w_Or_arrange_2 {l : Launch} {G : gG} {d : Nat} {X : gX} {M : gM} {k : gM → Prop} {c : Nat} (hX : glX X c) {x3 : Int} (hx3 : g32 x3) {r1 : Nat} (hr1 : gsX X r1) {r2 n2 : Nat} (hr2 : 1 ≤ r2 ∧ r2 ≤ X.1 ∧ X.2.1 r2 = (0, n2) ∧ n2 ≤ 2147483647)  (T : g32 (M r1 0) → (((w32 ((M r1 0) * 7)) ≤ x3 → (wp l G y_Or_arrange (gRm (d + 1)) true (kkV X k) true 28 [.val (gR G (c + 1047)), .val (gR G r1), .val (gR G r2), .val (gI 0)] [] X M 0 0)) ∧ (¬ (w32 ((M r1 0) * 7)) ≤ x3 → (((0 : Int) ≤ x3 ∧ x3 < 2800) ∧ (wp l G y_Or_arrange (gRm (d + 1)) true (kkV X k) true 2 [.val (gR G (c + 1047)), .val (gR G r1), .val (gR G r2), .val (gI (w32 (x3 + 1)))] [] X (gUp M (c + 1048) (Int.toNat x3) 0) 0 0))))) : wp l G y_Or_arrange (gRm (d + 1)) true (kkV X k) true 2 [.val (gR G (c + 1047)), .val (gR G r1), .val (gR G r2), .val (gI x3)] [] X M 0 0 := by
  refine wp_iload_n d_Or_arrange_2 rfl rfl ?_
  refine wp_aload_n d_Or_arrange_3 rfl rfl (g_nz hr1.1) ?_
  refine xgetI d_Or_arrange_4 gc_St f_Or_45.1 f_Or_45.2.1 f_Or_45.2.2.1 hr1.1 (gs_2 hr1) hr1.2.2.1 f_Or_45.2.2.2.2.1 (fun h1 => ?_)
  have T := T h1
  refine wp_bipush d_Or_arrange_7 ⟨by decide, by decide⟩ ?_
  refine wp_imul d_Or_arrange_9 ?_
  refine xi_ge (tgt := 26) d_Or_arrange_10 (by decide) (w32_id hx3) rfl (fun h2 => ?_) (fun h2 => ?_)
  · have T := T.1 h2
    refine wp_iconst d_Or_arrange_26 ?_
    refine wp_istore_n (L' := [.val (gR G (c + 1047)), .val (gR G r1), .val (gR G r2), .val (gI 0)]) d_Or_arrange_27 rfl (by decide) (gS1_R rfl rfl) ?_
    exact wp_md (wpt T (And.intro rfl (And.intro rfl (And.intro rfl (And.intro rfl True.intro)))))
  · have T := T.2 h2
    refine wp_aload_n d_Or_arrange_13 rfl rfl (g_nz (gl_1 hX 1047)) ?_
    refine xgetR d_Or_arrange_14 gc_Or f_Or_11.1 f_Or_11.2.1 f_Or_11.2.2.1 (gl_1 hX 1047) (gl_2 hX (a := 1047) (by decide)) (gl_s hX 27 rfl) f_Or_11.2.2.2.2.1 (gl_f hX 31 rfl) ?_
    refine wp_iload_n d_Or_arrange_17 rfl rfl ?_
    refine wp_lconst0 d_Or_arrange_18 ?_
    refine xlast d_Or_arrange_19 (gl_1 hX 1048) (gl_2 hX (a := 1048) (by decide)) (gl_s hX 28 rfl) (by decide) T.1 (w64_id (g64_c (x := 0) rfl)) ?_
    have T := T.2
    refine wp_iinc (L' := [.val (gR G (c + 1047)), .val (gR G r1), .val (gR G r2), .val (gI (x3 + 1))]) d_Or_arrange_20 rfl (by decide) (gS1_R rfl rfl) ?_
    refine wp_goto (tgt := 2) d_Or_arrange_23 (by decide) ?_
    exact wp_md (wpt T (And.intro rfl (And.intro rfl (And.intro rfl (And.intro (gI_w _) True.intro)))))
set_option maxHeartbeats 4000000 in
theorem w_Or_arrange_28 {l : Launch} {G : gG} {d : Nat} {X : gX} {M : gM} {k : gM → Prop} {c : Nat} (hX : glX X c) {x3 : Int} (hx3 : g32 x3) {r1 : Nat} (hr1 : gsX X r1) {r2 n2 : Nat} (hr2 : 1 ≤ r2 ∧ r2 ≤ X.1 ∧ X.2.1 r2 = (0, n2) ∧ n2 ≤ 2147483647)  (T : g32 (M r1 0) → ((M r1 0 ≤ x3 → (wp l G y_Or_arrange (gRm (d + 1)) true (kkV X k) true 68 [.val (gR G (c + 1047)), .val (gR G r1), .unset, .val (gI 0)] [] X (gUp (gUp M (c + 1047) 10 0) (c + 1047) 12 0) 0 0)) ∧ (¬ M r1 0 ≤ x3 → (cV l G y_Or_markReads (gRm d) true [gR G (c + 1047), gR G r1, gR G r2, gI x3] X M (fun M4 => (((0 : Int) ≤ x3 ∧ x3 < 400) ∧ (wp l G y_Or_arrange (gRm (d + 1)) true (kkV X k) true 28 [.val (gR G (c + 1047)), .val (gR G r1), .val (gR G r2), .val (gI (w32 (x3 + 1)))] [] X (gUp M4 (c + 1051) (Int.toNat x3) 0) 0 0))))))) : wp l G y_Or_arrange (gRm (d + 1)) true (kkV X k) true 28 [.val (gR G (c + 1047)), .val (gR G r1), .val (gR G r2), .val (gI x3)] [] X M 0 0 := by
  refine wp_iload_n d_Or_arrange_28 rfl rfl ?_
  refine wp_aload_n d_Or_arrange_29 rfl rfl (g_nz hr1.1) ?_
  refine xgetI d_Or_arrange_30 gc_St f_Or_45.1 f_Or_45.2.1 f_Or_45.2.2.1 hr1.1 (gs_2 hr1) hr1.2.2.1 f_Or_45.2.2.2.2.1 (fun h3 => ?_)
  have T := T h3
  refine xi_ge (tgt := 56) d_Or_arrange_33 (by decide) (w32_id hx3) (w32_id h3) (fun h5 => ?_) (fun h5 => ?_)
  · have T := T.1 h5
    refine wp_aload_n d_Or_arrange_56 rfl rfl (g_nz (gl_1 hX 1047)) ?_
    refine wp_iconst d_Or_arrange_57 ?_
    refine xputI d_Or_arrange_58 gc_Or f_Or_55.1 f_Or_55.2.1 f_Or_55.2.2.1 (gl_1 hX 1047) (gl_2 hX (a := 1047) (by decide)) (gl_s hX 27 rfl) f_Or_55.2.2.2.1 f_Or_55.2.2.2.2.1 f_Or_55.2.2.2.2.2 (w32_id (g32_c (x := 0) rfl)) ?_
    refine wp_aload_n d_Or_arrange_61 rfl rfl (g_nz (gl_1 hX 1047)) ?_
    refine wp_iconst d_Or_arrange_62 ?_
    refine xputI d_Or_arrange_63 gc_Or f_Or_58.1 f_Or_58.2.1 f_Or_58.2.2.1 (gl_1 hX 1047) (gl_2 hX (a := 1047) (by decide)) (gl_s hX 27 rfl) f_Or_58.2.2.2.1 f_Or_58.2.2.2.2.1 f_Or_58.2.2.2.2.2 (w32_id (g32_c (x := 0) rfl)) ?_
    refine wp_iconst d_Or_arrange_66 ?_
    refine wp_istore_n (L' := [.val (gR G (c + 1047)), .val (gR G r1), .val (gR G r2), .val (gI 0)]) d_Or_arrange_67 rfl (by decide) (gS1_R rfl rfl) ?_
    exact wp_md (wpt T (And.intro rfl (And.intro rfl (And.intro rfl True.intro))))
  · have T := T.2 h5
    refine wp_aload_n d_Or_arrange_36 rfl rfl (g_nz (gl_1 hX 1047)) ?_
    refine wp_aload_n d_Or_arrange_37 rfl rfl (g_nz hr1.1) ?_
    refine wp_aload_n d_Or_arrange_38 rfl rfl (g_nz hr2.1) ?_
    refine wp_iload_n d_Or_arrange_39 rfl rfl ?_
    refine xcV_V (md' := true) (As := [gR G r1, gR G r2, gI x3]) (st := []) d_Or_arrange_40 ca_Or_markReads ml_Or_51 im_Or_markReads se_Or_markReads gc_Or (gl_1 hX 1047) (gl_2 hX (a := 1047) (by decide)) (gl_s hX 27 rfl) rfl (by decide) (by decide) rfl (fun _ => rfl) (fun _ => rfl) T (fun M4 T => ?_)
    refine wp_aload_n d_Or_arrange_43 rfl rfl (g_nz (gl_1 hX 1047)) ?_
    refine xgetR d_Or_arrange_44 gc_Or f_Or_23.1 f_Or_23.2.1 f_Or_23.2.2.1 (gl_1 hX 1047) (gl_2 hX (a := 1047) (by decide)) (gl_s hX 27 rfl) f_Or_23.2.2.2.2.1 (gl_f hX 34 rfl) ?_
    refine wp_iload_n d_Or_arrange_47 rfl rfl ?_
    refine wp_iconst d_Or_arrange_48 ?_
    refine xiast d_Or_arrange_49 (gl_1 hX 1051) (gl_2 hX (a := 1051) (by decide)) (gl_s hX 31 rfl) (by decide) T.1 (w32_id (g32_c (x := 0) rfl)) ?_
    have T := T.2
    refine wp_iinc (L' := [.val (gR G (c + 1047)), .val (gR G r1), .val (gR G r2), .val (gI (x3 + 1))]) d_Or_arrange_50 rfl (by decide) (gS1_R rfl rfl) ?_
    refine wp_goto (tgt := 28) d_Or_arrange_53 (by decide) ?_
    exact wp_md (wpt T (And.intro rfl (And.intro rfl (And.intro rfl (And.intro (gI_w _) True.intro)))))
set_option maxHeartbeats 4000000 in
theorem w_Or_arrange_68 {l : Launch} {G : gG} {d : Nat} {X : gX} {M : gM} {k : gM → Prop} {c : Nat} (hX : glX X c) {x3 : Int} (hx3 : g32 x3) {r1 : Nat} (hr1 : gsX X r1)  (T : g32 (M r1 0) → ((M r1 0 ≤ x3 → (k M)) ∧ (¬ M r1 0 ≤ x3 → (((0 : Int) ≤ x3 ∧ x3 < 400) ∧ (g32 (M (c + 1051) (Int.toNat x3)) → ((¬ M (c + 1051) (Int.toNat x3) = 0 → (wp l G y_Or_arrange (gRm (d + 1)) true (kkV X k) true 68 [.val (gR G (c + 1047)), .val (gR G r1), .unset, .val (gI (w32 (x3 + 1)))] [] X M 0 0)) ∧ (M (c + 1051) (Int.toNat x3) = 0 → (cV l G y_Or_search (gRm d) true [gR G (c + 1047), gI x3] X M (fun M8 => (wp l G y_Or_arrange (gRm (d + 1)) true (kkV X k) true 68 [.val (gR G (c + 1047)), .val (gR G r1), .unset, .val (gI (w32 (x3 + 1)))] [] X M8 0 0)))))))))) : wp l G y_Or_arrange (gRm (d + 1)) true (kkV X k) true 68 [.val (gR G (c + 1047)), .val (gR G r1), .unset, .val (gI x3)] [] X M 0 0 := by
  refine wp_iload_n d_Or_arrange_68 rfl rfl ?_
  refine wp_aload_n d_Or_arrange_69 rfl rfl (g_nz hr1.1) ?_
  refine xgetI d_Or_arrange_70 gc_St f_Or_45.1 f_Or_45.2.1 f_Or_45.2.2.1 hr1.1 (gs_2 hr1) hr1.2.2.1 f_Or_45.2.2.2.2.1 (fun h6 => ?_)
  have T := T h6
  refine xi_ge (tgt := 96) d_Or_arrange_73 (by decide) (w32_id hx3) (w32_id h6) (fun h10 => ?_) (fun h10 => ?_)
  · have T := T.1 h10
    exact wp_return d_Or_arrange_96 rfl (fun _ => rfl) (Nat.zero_le _) (Nat.zero_le _) (kV_mk T)
  · have T := T.2 h10
    refine wp_aload_n d_Or_arrange_76 rfl rfl (g_nz (gl_1 hX 1047)) ?_
    refine xgetR d_Or_arrange_77 gc_Or f_Or_23.1 f_Or_23.2.1 f_Or_23.2.2.1 (gl_1 hX 1047) (gl_2 hX (a := 1047) (by decide)) (gl_s hX 27 rfl) f_Or_23.2.2.2.2.1 (gl_f hX 34 rfl) ?_
    refine wp_iload_n d_Or_arrange_80 rfl rfl ?_
    refine wp_iaload d_Or_arrange_81 (gl_1 hX 1051) (gl_2 hX (a := 1051) (by decide)) (gl_s hX 31 rfl) (g32_n T.1 (by decide)) T.1.1 T.1.2 (fun h7 => ?_)
    have T := T.2 h7
    refine xz_ne (tgt := 90) d_Or_arrange_82 (by decide) (w32_id h7) (fun h9 => ?_) (fun h9 => ?_)
    · have T := T.1 h9
      refine wp_iinc (L' := [.val (gR G (c + 1047)), .val (gR G r1), .unset, .val (gI (x3 + 1))]) d_Or_arrange_90 rfl (by decide) rfl ?_
      refine wp_goto (tgt := 68) d_Or_arrange_93 (by decide) ?_
      exact wp_md (wpt T (And.intro rfl (And.intro rfl (And.intro (gI_w _) True.intro))))
    · have T := T.2 h9
      refine wp_aload_n d_Or_arrange_85 rfl rfl (g_nz (gl_1 hX 1047)) ?_
      refine wp_iload_n d_Or_arrange_86 rfl rfl ?_
      refine xcV_V (md' := true) (As := [gI x3]) (st := []) d_Or_arrange_87 ca_Or_search ml_Or_61 im_Or_search se_Or_search gc_Or (gl_1 hX 1047) (gl_2 hX (a := 1047) (by decide)) (gl_s hX 27 rfl) rfl (by decide) (by decide) rfl (fun _ => rfl) (fun _ => rfl) T (fun M8 T => ?_)
      refine wp_iinc (L' := [.val (gR G (c + 1047)), .val (gR G r1), .unset, .val (gI (x3 + 1))]) d_Or_arrange_90 rfl (by decide) rfl ?_
      refine wp_goto (tgt := 68) d_Or_arrange_93 (by decide) ?_
      exact wp_md (wpt T (And.intro rfl (And.intro rfl (And.intro (gI_w _) True.intro))))
theorem e_Or_arrange {l : Launch} {G : gG} {d : Nat} {X : gX} {M : gM} {k : gM → Prop} {c : Nat} {r1 : Nat} {r2 : Nat} (T : wp l G y_Or_arrange (gRm (d + 1)) true (kkV X k) false 0 [.val (gR G (c + 1047)), .val (gR G r1), .val (gR G r2), .unset] [] X M 0 0) : cV l G y_Or_arrange (gRm (d + 1)) true [gR G (c + 1047), gR G r1, gR G r2] X M k := cen_V (plainFor_of_name rfl) (by simp only [lg_sl_R, lg_sl_I, lg_sl_L, lg_sl_N, List.length_cons, List.length_nil]; decide) (by unfold gEn; simp only [lg_sl_R, lg_sl_I, lg_sl_L, lg_sl_N]; exact wpt T (And.intro rfl (And.intro rfl (And.intro rfl True.intro))))
