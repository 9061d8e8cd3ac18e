/-! Walks of the class's methods, written by wip/whole/gen_class.py -/
theorem d_Rs_compareWith_0 : decode prog_9_method_3_code 0 = .ok (.aload_n 0, 1) := by decide +kernel
theorem d_Rs_compareWith_1 : decode prog_9_method_3_code 1 = .ok (.iconst 0, 1) := by decide +kernel
theorem d_Rs_compareWith_2 : decode prog_9_method_3_code 2 = .ok (.putfield 96, 3) := by decide +kernel
theorem d_Rs_compareWith_5 : decode prog_9_method_3_code 5 = .ok (.iconst 0, 1) := by decide +kernel
theorem d_Rs_compareWith_6 : decode prog_9_method_3_code 6 = .ok (.istore_n 2, 1) := by decide +kernel
theorem d_Rs_compareWith_7 : decode prog_9_method_3_code 7 = .ok (.iconst 0, 1) := by decide +kernel
theorem d_Rs_compareWith_8 : decode prog_9_method_3_code 8 = .ok (.istore_n 3, 1) := by decide +kernel
theorem d_Rs_compareWith_9 : decode prog_9_method_3_code 9 = .ok (.aload_n 1, 1) := by decide +kernel
theorem d_Rs_compareWith_10 : decode prog_9_method_3_code 10 = .ok (.getfield 52, 3) := by decide +kernel
theorem d_Rs_compareWith_13 : decode prog_9_method_3_code 13 = .ok (.aload_n 0, 1) := by decide +kernel
theorem d_Rs_compareWith_14 : decode prog_9_method_3_code 14 = .ok (.getfield 30, 3) := by decide +kernel
theorem d_Rs_compareWith_17 : decode prog_9_method_3_code 17 = .ok (.getfield 52, 3) := by decide +kernel
theorem d_Rs_compareWith_20 : decode prog_9_method_3_code 20 = .ok (.iadd, 1) := by decide +kernel
theorem d_Rs_compareWith_21 : decode prog_9_method_3_code 21 = .ok (.istore 4, 2) := by decide +kernel
theorem d_Rs_compareWith_23 : decode prog_9_method_3_code 23 = .ok (.iload 4, 2) := by decide +kernel
theorem d_Rs_compareWith_25 : decode prog_9_method_3_code 25 = .ok (.ifCond .le 157, 3) := by decide +kernel
theorem d_Rs_compareWith_182 : decode prog_9_method_3_code 182 = .ok (.return_, 1) := by decide +kernel
theorem d_Rs_compareWith_28 : decode prog_9_method_3_code 28 = .ok (.iload_n 2, 1) := by decide +kernel
theorem d_Rs_compareWith_29 : decode prog_9_method_3_code 29 = .ok (.aload_n 1, 1) := by decide +kernel
theorem d_Rs_compareWith_30 : decode prog_9_method_3_code 30 = .ok (.getfield 52, 3) := by decide +kernel
theorem d_Rs_compareWith_33 : decode prog_9_method_3_code 33 = .ok (.if_icmp .lt 14, 3) := by decide +kernel
theorem d_Rs_compareWith_36 : decode prog_9_method_3_code 36 = .ok (.iload_n 3, 1) := by decide +kernel
theorem d_Rs_compareWith_37 : decode prog_9_method_3_code 37 = .ok (.aload_n 0, 1) := by decide +kernel
theorem d_Rs_compareWith_38 : decode prog_9_method_3_code 38 = .ok (.getfield 30, 3) := by decide +kernel
theorem d_Rs_compareWith_41 : decode prog_9_method_3_code 41 = .ok (.getfield 52, 3) := by decide +kernel
theorem d_Rs_compareWith_44 : decode prog_9_method_3_code 44 = .ok (.if_icmp .ge 138, 3) := by decide +kernel
set_option maxHeartbeats 4000000 in
theorem w_Rs_compareWith_0 {l : Launch} {G : gG} {d : Nat} {X : gX} {M : gM} {k : gM → Prop} {c : Nat} (hX : glX X c) {r1 : Nat} (hr1 : gsX X r1) {s1 : Nat} (hs1 : X.2.2 (c + 234) 6 = s1 ∧ gsX X s1) (T : g32 ((gUp M (c + 234) 7 0) r1 0) → (g32 ((gUp M (c + 234) 7 0) s1 0) → (wp l G y_Rs_compareWith (gRm (d + 1)) true (kkV X k) true 23 [.val (gR G (c + 234)), .val (gR G r1), .val (gI 0), .val (gI 0), .val (gI (w32 (((gUp M (c + 234) 7 0) r1 0) + ((gUp M (c + 234) 7 0) s1 0)))), .unset, .unset] [] X (gUp M (c + 234) 7 0) 0 0))) : wp l G y_Rs_compareWith (gRm (d + 1)) true (kkV X k) false 0 [.val (gR G (c + 234)), .val (gR G r1), .unset, .unset, .unset, .unset, .unset] [] X M 0 0 := by
  refine wp_aload_n d_Rs_compareWith_0 rfl rfl (g_nz (gl_1 hX 234)) ?_
  refine wp_iconst d_Rs_compareWith_1 ?_
  refine xputI d_Rs_compareWith_2 gc_Rs f_Rs_96.1 f_Rs_96.2.1 f_Rs_96.2.2.1 (gl_1 hX 234) (gl_2 hX (a := 234) (by decide)) (gl_s hX 24 rfl) f_Rs_96.2.2.2.1 f_Rs_96.2.2.2.2.1 f_Rs_96.2.2.2.2.2 (w32_id (g32_c (x := 0) rfl)) ?_
  refine wp_iconst d_Rs_compareWith_5 ?_
  refine wp_istore_n (L' := [.val (gR G (c + 234)), .val (gR G r1), .val (gI 0), .unset, .unset, .unset, .unset]) d_Rs_compareWith_6 rfl (by decide) (gS1_R rfl rfl) ?_
  refine wp_iconst d_Rs_compareWith_7 ?_
  refine wp_istore_n (L' := [.val (gR G (c + 234)), .val (gR G r1), .val (gI 0), .val (gI 0), .unset, .unset, .unset]) d_Rs_compareWith_8 rfl (by decide) rfl ?_
  refine wp_aload_n d_Rs_compareWith_9 rfl rfl (g_nz hr1.1) ?_
  refine xgetI d_Rs_compareWith_10 gc_St f_Rs_52.1 f_Rs_52.2.1 f_Rs_52.2.2.1 hr1.1 (gs_2 hr1) hr1.2.2.1 f_Rs_52.2.2.2.2.1 (fun h1 => ?_)
  have T := T h1
  refine wp_aload_n d_Rs_compareWith_13 rfl rfl (g_nz (gl_1 hX 234)) ?_
  refine xgetR d_Rs_compareWith_14 gc_Rs f_Rs_30.1 f_Rs_30.2.1 f_Rs_30.2.2.1 (gl_1 hX 234) (gl_2 hX (a := 234) (by decide)) (gl_s hX 24 rfl) f_Rs_30.2.2.2.2.1 hs1.1 ?_
  refine xgetI d_Rs_compareWith_17 gc_St f_Rs_52.1 f_Rs_52.2.1 f_Rs_52.2.2.1 hs1.2.1 (gs_2 hs1.2) hs1.2.2.2.1 f_Rs_52.2.2.2.2.1 (fun h2 => ?_)
  have T := T h2
  refine wp_iadd d_Rs_compareWith_20 ?_
  refine wp_istore (L' := [.val (gR G (c + 234)), .val (gR G r1), .val (gI 0), .val (gI 0), .val (gI (((gUp M (c + 234) 7 0) r1 0) + ((gUp M (c + 234) 7 0) s1 0))), .unset, .unset]) d_Rs_compareWith_21 (by decide) rfl ?_
  exact wp_md (wpt T (And.intro rfl (And.intro rfl (And.intro rfl (And.intro rfl (And.intro (gI_w _) True.intro))))))
set_option maxHeartbeats 4000000 in
theorem w_Rs_compareWith_23 {l : Launch} {G : gG} {d : Nat} {X : gX} {M : gM} {k : gM → Prop} {c : Nat} (hX : glX X c) {x2 : Int} (hx2 : g32 x2) {x3 : Int} (hx3 : g32 x3) {x4 : Int} (hx4 : g32 x4) {r1 : Nat} (hr1 : gsX X r1) {s1 : Nat} (hs1 : X.2.2 (c + 234) 6 = s1 ∧ gsX X s1) (T : (x4 ≤ 0 → (k M)) ∧ (¬ x4 ≤ 0 → (g32 (M r1 0) → ((x2 < M r1 0 → (wp l G y_Rs_compareWith (gRm (d + 1)) true (kkV X k) true 47 [.val (gR G (c + 234)), .val (gR G r1), .val (gI x2), .val (gI x3), .val (gI x4), .unset, .unset] [] X M 0 0)) ∧ (¬ x2 < M r1 0 → (g32 (M s1 0) → ((M s1 0 ≤ x3 → (k M)) ∧ (¬ M s1 0 ≤ x3 → (wp l G y_Rs_compareWith (gRm (d + 1)) true (kkV X k) true 47 [.val (gR G (c + 234)), .val (gR G r1), .val (gI x2), .val (gI x3), .val (gI x4), .unset, .unset] [] X M 0 0))))))))) : wp l G y_Rs_compareWith (gRm (d + 1)) true (kkV X k) true 23 [.val (gR G (c + 234)), .val (gR G r1), .val (gI x2), .val (gI x3), .val (gI x4), .unset, .unset] [] X M 0 0 := by
  refine wp_iload d_Rs_compareWith_23 rfl ?_
  refine xz_le (tgt := 182) d_Rs_compareWith_25 (by decide) (w32_id hx4) (fun h7 => ?_) (fun h7 => ?_)
  · have T := T.1 h7
    exact wp_return d_Rs_compareWith_182 rfl (fun _ => rfl) (Nat.zero_le _) (Nat.zero_le _) (kV_mk T)
  · have T := T.2 h7
    refine wp_iload_n d_Rs_compareWith_28 rfl rfl ?_
    refine wp_aload_n d_Rs_compareWith_29 rfl rfl (g_nz hr1.1) ?_
    refine xgetI d_Rs_compareWith_30 gc_St f_Rs_52.1 f_Rs_52.2.1 f_Rs_52.2.2.1 hr1.1 (gs_2 hr1) hr1.2.2.1 f_Rs_52.2.2.2.2.1 (fun h3 => ?_)
    have T := T h3
    refine xi_lt (tgt := 47) d_Rs_compareWith_33 (by decide) (w32_id hx2) (w32_id h3) (fun h6 => ?_) (fun h6 => ?_)
    · have T := T.1 h6
      exact wp_md (wpt T (And.intro rfl (And.intro rfl (And.intro rfl (And.intro rfl (And.intro rfl True.intro))))))
    · have T := T.2 h6
      refine wp_iload_n d_Rs_compareWith_36 rfl rfl ?_
      refine wp_aload_n d_Rs_compareWith_37 rfl rfl (g_nz (gl_1 hX 234)) ?_
      refine xgetR d_Rs_compareWith_38 gc_Rs f_Rs_30.1 f_Rs_30.2.1 f_Rs_30.2.2.1 (gl_1 hX 234) (gl_2 hX (a := 234) (by decide)) (gl_s hX 24 rfl) f_Rs_30.2.2.2.2.1 hs1.1 ?_
      refine xgetI d_Rs_compareWith_41 gc_St f_Rs_52.1 f_Rs_52.2.1 f_Rs_52.2.2.1 hs1.2.1 (gs_2 hs1.2) hs1.2.2.2.1 f_Rs_52.2.2.2.2.1 (fun h4 => ?_)
      have T := T h4
      refine xi_ge (tgt := 182) d_Rs_compareWith_44 (by decide) (w32_id hx3) (w32_id h4) (fun h5 => ?_) (fun h5 => ?_)
      · have T := T.1 h5
        exact wp_return d_Rs_compareWith_182 rfl (fun _ => rfl) (Nat.zero_le _) (Nat.zero_le _) (kV_mk T)
      · have T := T.2 h5
        exact wp_md (wpt T (And.intro rfl (And.intro rfl (And.intro rfl (And.intro rfl (And.intro rfl True.intro))))))
theorem e_Rs_compareWith {l : Launch} {G : gG} {d : Nat} {X : gX} {M : gM} {k : gM → Prop} {c : Nat} {r1 : Nat} (T : wp l G y_Rs_compareWith (gRm (d + 1)) true (kkV X k) false 0 [.val (gR G (c + 234)), .val (gR G r1), .unset, .unset, .unset, .unset, .unset] [] X M 0 0) : cV l G y_Rs_compareWith (gRm (d + 1)) true [gR G (c + 234), gR G r1] X M k := cen_V (plainFor_of_name rfl) (by simp only [lg_sl_R, lg_sl_I, lg_sl_L, lg_sl_N, List.length_cons, List.length_nil]; decide) (by unfold gEn; simp only [lg_sl_R, lg_sl_I, lg_sl_L, lg_sl_N]; exact wpt T (And.intro rfl (And.intro rfl True.intro)))
theorem d_Rs_cycles_0 : decode prog_9_method_4_code 0 = .ok (.iconst 0, 1) := by decide +kernel
theorem d_Rs_cycles_1 : decode prog_9_method_4_code 1 = .ok (.istore_n 2, 1) := by decide +kernel
theorem d_Rs_cycles_2 : decode prog_9_method_4_code 2 = .ok (.iconst 0, 1) := by decide +kernel
theorem d_Rs_cycles_3 : decode prog_9_method_4_code 3 = .ok (.istore_n 3, 1) := by decide +kernel
theorem d_Rs_cycles_4 : decode prog_9_method_4_code 4 = .ok (.iload_n 3, 1) := by decide +kernel
theorem d_Rs_cycles_5 : decode prog_9_method_4_code 5 = .ok (.iload_n 1, 1) := by decide +kernel
theorem d_Rs_cycles_6 : decode prog_9_method_4_code 6 = .ok (.if_icmp .ge 41, 3) := by decide +kernel
theorem d_Rs_cycles_47 : decode prog_9_method_4_code 47 = .ok (.iload_n 2, 1) := by decide +kernel
theorem d_Rs_cycles_48 : decode prog_9_method_4_code 48 = .ok (.ireturn, 1) := by decide +kernel
theorem d_Rs_cycles_9 : decode prog_9_method_4_code 9 = .ok (.aload_n 0, 1) := by decide +kernel
theorem d_Rs_cycles_10 : decode prog_9_method_4_code 10 = .ok (.getfield 23, 3) := by decide +kernel
theorem d_Rs_cycles_13 : decode prog_9_method_4_code 13 = .ok (.getfield 109, 3) := by decide +kernel
theorem d_Rs_cycles_16 : decode prog_9_method_4_code 16 = .ok (.iload_n 3, 1) := by decide +kernel
theorem d_Rs_cycles_17 : decode prog_9_method_4_code 17 = .ok (.iaload, 1) := by decide +kernel
theorem d_Rs_cycles_18 : decode prog_9_method_4_code 18 = .ok (.iconst 4, 1) := by decide +kernel
theorem d_Rs_cycles_19 : decode prog_9_method_4_code 19 = .ok (.if_icmp .ne 22, 3) := by decide +kernel
theorem d_Rs_cycles_41 : decode prog_9_method_4_code 41 = .ok (.iinc 3 1, 3) := by decide +kernel
theorem d_Rs_cycles_44 : decode prog_9_method_4_code 44 = .ok (.goto (-40), 3) := by decide +kernel
theorem d_Rs_cycles_22 : decode prog_9_method_4_code 22 = .ok (.aload_n 0, 1) := by decide +kernel
theorem d_Rs_cycles_23 : decode prog_9_method_4_code 23 = .ok (.getfield 23, 3) := by decide +kernel
theorem d_Rs_cycles_26 : decode prog_9_method_4_code 26 = .ok (.getfield 112, 3) := by decide +kernel
theorem d_Rs_cycles_29 : decode prog_9_method_4_code 29 = .ok (.iload_n 3, 1) := by decide +kernel
theorem d_Rs_cycles_30 : decode prog_9_method_4_code 30 = .ok (.laload, 1) := by decide +kernel
theorem d_Rs_cycles_31 : decode prog_9_method_4_code 31 = .ok (.ldc2_w 76, 3) := by decide +kernel
theorem d_Rs_cycles_34 : decode prog_9_method_4_code 34 = .ok (.lcmp, 1) := by decide +kernel
theorem d_Rs_cycles_35 : decode prog_9_method_4_code 35 = .ok (.ifCond .ne 6, 3) := by decide +kernel
theorem d_Rs_cycles_38 : decode prog_9_method_4_code 38 = .ok (.iinc 2 1, 3) := by decide +kernel
set_option maxHeartbeats 4000000 in
theorem w_Rs_cycles_0 {l : Launch} {G : gG} {d : Nat} {X : gX} {M : gM} {k : Int → gM → Prop} {c : Nat} (hX : glX X c) {x1 : Int} (hx1 : g32 x1)  (T : wp l G y_Rs_cycles (gRm d) false (kkI X k) false 4 [.val (gR G (c + 234)), .val (gI x1), .val (gI 0), .val (gI 0)] [] X M 0 0) : wp l G y_Rs_cycles (gRm d) false (kkI X k) false 0 [.val (gR G (c + 234)), .val (gI x1), .unset, .unset] [] X M 0 0 := by
  refine wp_iconst d_Rs_cycles_0 ?_
  refine wp_istore_n (L' := [.val (gR G (c + 234)), .val (gI x1), .val (gI 0), .unset]) d_Rs_cycles_1 rfl (by decide) rfl ?_
  refine wp_iconst d_Rs_cycles_2 ?_
  refine wp_istore_n (L' := [.val (gR G (c + 234)), .val (gI x1), .val (gI 0), .val (gI 0)]) d_Rs_cycles_3 rfl (by decide) rfl ?_
  exact (wpt T (And.intro rfl (And.intro rfl (And.intro rfl (And.intro rfl True.intro)))))
set_option maxHeartbeats 4000000 in
theorem w_Rs_cycles_4 {l : Launch} {G : gG} {d : Nat} {X : gX} {M : gM} {k : Int → gM → Prop} {c : Nat} (hX : glX X c) {x1 : Int} (hx1 : g32 x1) {x2 : Int} (hx2 : g32 x2) {x3 : Int} (hx3 : g32 x3) {v1 : Nat} (hv1 : X.2.2 (c + 234) 4 = v1 ∧ gvX X v1 401) (T : (x1 ≤ x3 → (k x2 M)) ∧ (¬ x1 ≤ x3 → (((0 : Int) ≤ x3 ∧ x3 < 401) ∧ (g32 (M (v1 + 1) (Int.toNat x3)) → ((¬ M (v1 + 1) (Int.toNat x3) = 4 → (wp l G y_Rs_cycles (gRm d) false (kkI X k) false 4 [.val (gR G (c + 234)), .val (gI x1), .val (gI x2), .val (gI (w32 (x3 + 1)))] [] X M 0 0)) ∧ (M (v1 + 1) (Int.toNat x3) = 4 → (((0 : Int) ≤ x3 ∧ x3 < 401) ∧ (g64 (M (v1 + 2) (Int.toNat x3)) → ((¬ M (v1 + 2) (Int.toNat x3) = 8 → (wp l G y_Rs_cycles (gRm d) false (kkI X k) false 4 [.val (gR G (c + 234)), .val (gI x1), .val (gI x2), .val (gI (w32 (x3 + 1)))] [] X M 0 0)) ∧ (M (v1 + 2) (Int.toNat x3) = 8 → (wp l G y_Rs_cycles (gRm d) false (kkI X k) false 4 [.val (gR G (c + 234)), .val (gI x1), .val (gI (w32 (x2 + 1))), .val (gI (w32 (x3 + 1)))] [] X M 0 0))))))))))) : wp l G y_Rs_cycles (gRm d) false (kkI X k) false 4 [.val (gR G (c + 234)), .val (gI x1), .val (gI x2), .val (gI x3)] [] X M 0 0 := by
  refine wp_iload_n d_Rs_cycles_4 rfl rfl ?_
  refine wp_iload_n d_Rs_cycles_5 rfl rfl ?_
  refine xi_ge (tgt := 47) d_Rs_cycles_6 (by decide) (w32_id hx3) (w32_id hx1) (fun h5 => ?_) (fun h5 => ?_)
  · have T := T.1 h5
    refine wp_iload_n d_Rs_cycles_47 rfl rfl ?_
    exact wp_ireturn d_Rs_cycles_48 rfl id (Nat.zero_le _) (Nat.zero_le _) (kI_mk hx2 T)
  · have T := T.2 h5
    refine wp_aload_n d_Rs_cycles_9 rfl rfl (g_nz (gl_1 hX 234)) ?_
    refine xgetR d_Rs_cycles_10 gc_Rs f_Rs_23.1 f_Rs_23.2.1 f_Rs_23.2.2.1 (gl_1 hX 234) (gl_2 hX (a := 234) (by decide)) (gl_s hX 24 rfl) f_Rs_23.2.2.2.2.1 hv1.1 ?_
    refine xgetR d_Rs_cycles_13 gc_Vl f_Rs_109.1 f_Rs_109.2.1 f_Rs_109.2.2.1 hv1.2.1 (gv_2 hv1.2) hv1.2.2.2.1 f_Rs_109.2.2.2.2.1 (gv_r1 hv1.2).1 ?_
    refine wp_iload_n d_Rs_cycles_16 rfl rfl ?_
    refine wp_iaload d_Rs_cycles_17 (gv_r1 hv1.2).2.2.1 (gv_r1 hv1.2).2.2.2 (gv_r1 hv1.2).2.1 (g32_n T.1 (gv_n hv1.2)) T.1.1 T.1.2 (fun h1 => ?_)
    have T := T.2 h1
    refine wp_iconst d_Rs_cycles_18 ?_
    refine xi_ne (tgt := 41) d_Rs_cycles_19 (by decide) (w32_id h1) (w32_id (g32_c (x := 4) rfl)) (fun h4 => ?_) (fun h4 => ?_)
    · have T := T.1 h4
      refine wp_iinc (L' := [.val (gR G (c + 234)), .val (gI x1), .val (gI x2), .val (gI (x3 + 1))]) d_Rs_cycles_41 rfl (by decide) rfl ?_
      refine wp_goto (tgt := 4) d_Rs_cycles_44 (by decide) ?_
      exact (wpt T (And.intro rfl (And.intro rfl (And.intro rfl (And.intro (gI_w _) True.intro)))))
    · have T := T.2 h4
      refine wp_aload_n d_Rs_cycles_22 rfl rfl (g_nz (gl_1 hX 234)) ?_
      refine xgetR d_Rs_cycles_23 gc_Rs f_Rs_23.1 f_Rs_23.2.1 f_Rs_23.2.2.1 (gl_1 hX 234) (gl_2 hX (a := 234) (by decide)) (gl_s hX 24 rfl) f_Rs_23.2.2.2.2.1 hv1.1 ?_
      refine xgetR d_Rs_cycles_26 gc_Vl f_Rs_112.1 f_Rs_112.2.1 f_Rs_112.2.2.1 hv1.2.1 (gv_2 hv1.2) hv1.2.2.2.1 f_Rs_112.2.2.2.2.1 (gv_r2 hv1.2).1 ?_
      refine wp_iload_n d_Rs_cycles_29 rfl rfl ?_
      refine wp_laload d_Rs_cycles_30 (gv_r2 hv1.2).2.2.1 (gv_r2 hv1.2).2.2.2 (gv_r2 hv1.2).2.1 (g32_n T.1 (gv_n hv1.2)) T.1.1 T.1.2 (fun h2 => ?_)
      have T := T.2 h2
      refine wp_ldc2 (n := 8) d_Rs_cycles_31 c_Rs_76 rfl ?_
      refine xl_ne (tgt := 41) d_Rs_cycles_34 d_Rs_cycles_35 (by decide) (w64_id h2) (w64_id (g64_c (x := 8) rfl)) (fun h3 => ?_) (fun h3 => ?_)
      · have T := T.1 h3
        refine wp_iinc (L' := [.val (gR G (c + 234)), .val (gI x1), .val (gI x2), .val (gI (x3 + 1))]) d_Rs_cycles_41 rfl (by decide) rfl ?_
        refine wp_goto (tgt := 4) d_Rs_cycles_44 (by decide) ?_
        exact (wpt T (And.intro rfl (And.intro rfl (And.intro rfl (And.intro (gI_w _) True.intro)))))
      · have T := T.2 h3
        refine wp_iinc (L' := [.val (gR G (c + 234)), .val (gI x1), .val (gI (x2 + 1)), .val (gI x3)]) d_Rs_cycles_38 rfl (by decide) rfl ?_
        refine wp_iinc (L' := [.val (gR G (c + 234)), .val (gI x1), .val (gI (x2 + 1)), .val (gI (x3 + 1))]) d_Rs_cycles_41 rfl (by decide) rfl ?_
        refine wp_goto (tgt := 4) d_Rs_cycles_44 (by decide) ?_
        exact (wpt T (And.intro rfl (And.intro rfl (And.intro (gI_w _) (And.intro (gI_w _) True.intro)))))
theorem e_Rs_cycles {l : Launch} {G : gG} {d : Nat} {X : gX} {M : gM} {k : Int → gM → Prop} {c : Nat} {x1 : Int} (T : wp l G y_Rs_cycles (gRm d) false (kkI X k) false 0 [.val (gR G (c + 234)), .val (gI x1), .unset, .unset] [] X M 0 0) : cI l G y_Rs_cycles (gRm d) false [gR G (c + 234), gI x1] X M k := cen_I (plainFor_of_name rfl) (by simp only [lg_sl_R, lg_sl_I, lg_sl_L, lg_sl_N, List.length_cons, List.length_nil]; decide) (by unfold gEn; simp only [lg_sl_R, lg_sl_I, lg_sl_L, lg_sl_N]; exact wpt T (And.intro rfl (And.intro rfl True.intro)))
theorem d_St_entryFrom_0 : decode prog_10_method_4_code 0 = .ok (.iconst 0, 1) := by decide +kernel
theorem d_St_entryFrom_1 : decode prog_10_method_4_code 1 = .ok (.istore_n 2, 1) := by decide +kernel
theorem d_St_entryFrom_2 : decode prog_10_method_4_code 2 = .ok (.aload_n 0, 1) := by decide +kernel
theorem d_St_entryFrom_3 : decode prog_10_method_4_code 3 = .ok (.getfield 24, 3) := by decide +kernel
theorem d_St_entryFrom_6 : decode prog_10_method_4_code 6 = .ok (.istore_n 3, 1) := by decide +kernel
theorem d_St_entryFrom_7 : decode prog_10_method_4_code 7 = .ok (.sipush 400, 3) := by decide +kernel
theorem d_St_entryFrom_10 : decode prog_10_method_4_code 10 = .ok (.istore 4, 2) := by decide +kernel
theorem d_St_entryFrom_12 : decode prog_10_method_4_code 12 = .ok (.iload 4, 2) := by decide +kernel
theorem d_St_entryFrom_14 : decode prog_10_method_4_code 14 = .ok (.ifCond .le 43, 3) := by decide +kernel
theorem d_St_entryFrom_57 : decode prog_10_method_4_code 57 = .ok (.iload_n 2, 1) := by decide +kernel
theorem d_St_entryFrom_58 : decode prog_10_method_4_code 58 = .ok (.ireturn, 1) := by decide +kernel
theorem d_St_entryFrom_17 : decode prog_10_method_4_code 17 = .ok (.iload_n 2, 1) := by decide +kernel
theorem d_St_entryFrom_18 : decode prog_10_method_4_code 18 = .ok (.iload_n 3, 1) := by decide +kernel
theorem d_St_entryFrom_19 : decode prog_10_method_4_code 19 = .ok (.if_icmp .ge 38, 3) := by decide +kernel
theorem d_St_entryFrom_22 : decode prog_10_method_4_code 22 = .ok (.iload_n 2, 1) := by decide +kernel
theorem d_St_entryFrom_23 : decode prog_10_method_4_code 23 = .ok (.iload_n 3, 1) := by decide +kernel
theorem d_St_entryFrom_24 : decode prog_10_method_4_code 24 = .ok (.iadd, 1) := by decide +kernel
theorem d_St_entryFrom_25 : decode prog_10_method_4_code 25 = .ok (.iconst 2, 1) := by decide +kernel
theorem d_St_entryFrom_26 : decode prog_10_method_4_code 26 = .ok (.idiv, 1) := by decide +kernel
theorem d_St_entryFrom_27 : decode prog_10_method_4_code 27 = .ok (.istore 5, 2) := by decide +kernel
theorem d_St_entryFrom_29 : decode prog_10_method_4_code 29 = .ok (.aload_n 0, 1) := by decide +kernel
theorem d_St_entryFrom_30 : decode prog_10_method_4_code 30 = .ok (.getfield 9, 3) := by decide +kernel
theorem d_St_entryFrom_33 : decode prog_10_method_4_code 33 = .ok (.iload 5, 2) := by decide +kernel
theorem d_St_entryFrom_35 : decode prog_10_method_4_code 35 = .ok (.iaload, 1) := by decide +kernel
theorem d_St_entryFrom_36 : decode prog_10_method_4_code 36 = .ok (.iload_n 1, 1) := by decide +kernel
theorem d_St_entryFrom_37 : decode prog_10_method_4_code 37 = .ok (.if_icmp .ge 11, 3) := by decide +kernel
theorem d_St_entryFrom_48 : decode prog_10_method_4_code 48 = .ok (.iload 5, 2) := by decide +kernel
theorem d_St_entryFrom_50 : decode prog_10_method_4_code 50 = .ok (.istore_n 3, 1) := by decide +kernel
theorem d_St_entryFrom_51 : decode prog_10_method_4_code 51 = .ok (.iinc 4 (-1), 3) := by decide +kernel
theorem d_St_entryFrom_54 : decode prog_10_method_4_code 54 = .ok (.goto (-42), 3) := by decide +kernel
theorem d_St_entryFrom_40 : decode prog_10_method_4_code 40 = .ok (.iload 5, 2) := by decide +kernel
theorem d_St_entryFrom_42 : decode prog_10_method_4_code 42 = .ok (.iconst 1, 1) := by decide +kernel
theorem d_St_entryFrom_43 : decode prog_10_method_4_code 43 = .ok (.iadd, 1) := by decide +kernel
theorem d_St_entryFrom_44 : decode prog_10_method_4_code 44 = .ok (.istore_n 2, 1) := by decide +kernel
theorem d_St_entryFrom_45 : decode prog_10_method_4_code 45 = .ok (.goto 6, 3) := by decide +kernel
set_option maxHeartbeats 4000000 in
theorem w_St_entryFrom_0 {l : Launch} {G : gG} {d : Nat} {X : gX} {M : gM} {k : Int → gM → Prop} {a : Nat} (hA : gsX X a) {x1 : Int} (hx1 : g32 x1)  (T : g32 (M a 0) → (wp l G y_St_entryFrom (gRm d) false (kkI X k) false 12 [.val (gR G a), .val (gI x1), .val (gI 0), .val (gI (M a 0)), .val (gI 400), .unset] [] X M 0 0)) : wp l G y_St_entryFrom (gRm d) false (kkI X k) false 0 [.val (gR G a), .val (gI x1), .unset, .unset, .unset, .unset] [] X M 0 0 := by
  refine wp_iconst d_St_entryFrom_0 ?_
  refine wp_istore_n (L' := [.val (gR G a), .val (gI x1), .val (gI 0), .unset, .unset, .unset]) d_St_entryFrom_1 rfl (by decide) rfl ?_
  refine wp_aload_n d_St_entryFrom_2 rfl rfl (g_nz hA.1) ?_
  refine xgetI d_St_entryFrom_3 gc_St f_St_24.1 f_St_24.2.1 f_St_24.2.2.1 hA.1 (gs_2 hA) hA.2.2.1 f_St_24.2.2.2.2.1 (fun h1 => ?_)
  have T := T h1
  refine wp_istore_n (L' := [.val (gR G a), .val (gI x1), .val (gI 0), .val (gI (M a 0)), .unset, .unset]) d_St_entryFrom_6 rfl (by decide) rfl ?_
  refine wp_sipush d_St_entryFrom_7 ⟨by decide, by decide⟩ ?_
  refine wp_istore (L' := [.val (gR G a), .val (gI x1), .val (gI 0), .val (gI (M a 0)), .val (gI 400), .unset]) d_St_entryFrom_10 (by decide) rfl ?_
  exact (wpt T (And.intro rfl (And.intro rfl (And.intro rfl (And.intro rfl (And.intro rfl True.intro))))))
set_option maxHeartbeats 4000000 in
theorem w_St_entryFrom_12 {l : Launch} {G : gG} {d : Nat} {X : gX} {M : gM} {k : Int → gM → Prop} {a : Nat} (hA : gsX X a) {x1 : Int} (hx1 : g32 x1) {x2 : Int} (hx2 : g32 x2) {x3 : Int} (hx3 : g32 x3) {x4 : Int} (hx4 : g32 x4)  (T : (x4 ≤ 0 → (k x2 M)) ∧ (¬ x4 ≤ 0 → ((x3 ≤ x2 → (k x2 M)) ∧ (¬ x3 ≤ x2 → (((0 : Int) ≤ (w32 (x2 + x3)).tdiv 2 ∧ (w32 (x2 + x3)).tdiv 2 < 400) ∧ (g32 (M (a + 1) (Int.toNat ((w32 (x2 + x3)).tdiv 2))) → ((x1 ≤ M (a + 1) (Int.toNat ((w32 (x2 + x3)).tdiv 2)) → (wp l G y_St_entryFrom (gRm d) false (kkI X k) false 12 [.val (gR G a), .val (gI x1), .val (gI x2), .val (gI (w32 ((w32 (x2 + x3)).tdiv 2))), .val (gI (w32 (x4 + (-1)))), .unset] [] X M 0 0)) ∧ (¬ x1 ≤ M (a + 1) (Int.toNat ((w32 (x2 + x3)).tdiv 2)) → (wp l G y_St_entryFrom (gRm d) false (kkI X k) false 12 [.val (gR G a), .val (gI x1), .val (gI (w32 (((w32 (x2 + x3)).tdiv 2) + 1))), .val (gI x3), .val (gI (w32 (x4 + (-1)))), .unset] [] X M 0 0))))))))) : wp l G y_St_entryFrom (gRm d) false (kkI X k) false 12 [.val (gR G a), .val (gI x1), .val (gI x2), .val (gI x3), .val (gI x4), .unset] [] X M 0 0 := by
  refine wp_iload d_St_entryFrom_12 rfl ?_
  refine xz_le (tgt := 57) d_St_entryFrom_14 (by decide) (w32_id hx4) (fun h5 => ?_) (fun h5 => ?_)
  · have T := T.1 h5
    refine wp_iload_n d_St_entryFrom_57 rfl rfl ?_
    exact wp_ireturn d_St_entryFrom_58 rfl id (Nat.zero_le _) (Nat.zero_le _) (kI_mk hx2 T)
  · have T := T.2 h5
    refine wp_iload_n d_St_entryFrom_17 rfl rfl ?_
    refine wp_iload_n d_St_entryFrom_18 rfl rfl ?_
    refine xi_ge (tgt := 57) d_St_entryFrom_19 (by decide) (w32_id hx2) (w32_id hx3) (fun h4 => ?_) (fun h4 => ?_)
    · have T := T.1 h4
      refine wp_iload_n d_St_entryFrom_57 rfl rfl ?_
      exact wp_ireturn d_St_entryFrom_58 rfl id (Nat.zero_le _) (Nat.zero_le _) (kI_mk hx2 T)
    · have T := T.2 h4
      refine wp_iload_n d_St_entryFrom_22 rfl rfl ?_
      refine wp_iload_n d_St_entryFrom_23 rfl rfl ?_
      refine wp_iadd d_St_entryFrom_24 ?_
      refine wp_iconst d_St_entryFrom_25 ?_
      refine xidiv d_St_entryFrom_26 rfl (w32_id (g32_c (x := 2) rfl)) (by decide) ?_
      refine wp_istore (L' := [.val (gR G a), .val (gI x1), .val (gI x2), .val (gI x3), .val (gI x4), .val (gI ((w32 (x2 + x3)).tdiv 2))]) d_St_entryFrom_27 (by decide) rfl ?_
      refine wp_aload_n d_St_entryFrom_29 rfl rfl (g_nz hA.1) ?_
      refine xgetR d_St_entryFrom_30 gc_St f_St_9.1 f_St_9.2.1 f_St_9.2.2.1 hA.1 (gs_2 hA) hA.2.2.1 f_St_9.2.2.2.2.1 (gs_r hA 0 rfl).1 ?_
      refine wp_iload d_St_entryFrom_33 rfl ?_
      refine wp_iaload d_St_entryFrom_35 (gs_r hA 0 rfl).2.2.1 (gs_r hA 0 rfl).2.2.2 (gs_r hA 0 rfl).2.1 (g32_n T.1 (by decide)) T.1.1 T.1.2 (fun h2 => ?_)
      have T := T.2 h2
      refine wp_iload_n d_St_entryFrom_36 rfl rfl ?_
      refine xi_ge (tgt := 48) d_St_entryFrom_37 (by decide) (w32_id h2) (w32_id hx1) (fun h3 => ?_) (fun h3 => ?_)
      · have T := T.1 h3
        refine wp_iload d_St_entryFrom_48 rfl ?_
        refine wp_istore_n (L' := [.val (gR G a), .val (gI x1), .val (gI x2), .val (gI ((w32 (x2 + x3)).tdiv 2)), .val (gI x4), .val (gI ((w32 (x2 + x3)).tdiv 2))]) d_St_entryFrom_50 rfl (by decide) rfl ?_
        refine wp_iinc (L' := [.val (gR G a), .val (gI x1), .val (gI x2), .val (gI ((w32 (x2 + x3)).tdiv 2)), .val (gI (x4 + (-1))), .val (gI ((w32 (x2 + x3)).tdiv 2))]) d_St_entryFrom_51 rfl (by decide) rfl ?_
        refine wp_goto (tgt := 12) d_St_entryFrom_54 (by decide) ?_
        exact (wpt T (And.intro rfl (And.intro rfl (And.intro rfl (And.intro (gI_w _) (And.intro (gI_w _) True.intro))))))
      · have T := T.2 h3
        refine wp_iload d_St_entryFrom_40 rfl ?_
        refine wp_iconst d_St_entryFrom_42 ?_
        refine wp_iadd d_St_entryFrom_43 ?_
        refine wp_istore_n (L' := [.val (gR G a), .val (gI x1), .val (gI (((w32 (x2 + x3)).tdiv 2) + 1)), .val (gI x3), .val (gI x4), .val (gI ((w32 (x2 + x3)).tdiv 2))]) d_St_entryFrom_44 rfl (by decide) rfl ?_
        refine wp_goto (tgt := 51) d_St_entryFrom_45 (by decide) ?_
        refine wp_iinc (L' := [.val (gR G a), .val (gI x1), .val (gI (((w32 (x2 + x3)).tdiv 2) + 1)), .val (gI x3), .val (gI (x4 + (-1))), .val (gI ((w32 (x2 + x3)).tdiv 2))]) d_St_entryFrom_51 rfl (by decide) rfl ?_
        refine wp_goto (tgt := 12) d_St_entryFrom_54 (by decide) ?_
        exact (wpt T (And.intro rfl (And.intro rfl (And.intro (gI_w _) (And.intro rfl (And.intro (gI_w _) True.intro))))))
theorem e_St_entryFrom {l : Launch} {G : gG} {d : Nat} {X : gX} {M : gM} {k : Int → gM → Prop} {a : Nat} {x1 : Int} (T : wp l G y_St_entryFrom (gRm d) false (kkI X k) false 0 [.val (gR G a), .val (gI x1), .unset, .unset, .unset, .unset] [] X M 0 0) : cI l G y_St_entryFrom (gRm d) false [gR G a, gI x1] X M k := cen_I (plainFor_of_name rfl) (by simp only [lg_sl_R, lg_sl_I, lg_sl_L, lg_sl_N, List.length_cons, List.length_nil]; decide) (by unfold gEn; simp only [lg_sl_R, lg_sl_I, lg_sl_L, lg_sl_N]; exact wpt T (And.intro rfl (And.intro rfl True.intro)))
theorem d_St_addRun_0 : decode prog_10_method_7_code 0 = .ok (.iload_n 3, 1) := by decide +kernel
theorem d_St_addRun_1 : decode prog_10_method_7_code 1 = .ok (.iload_n 2, 1) := by decide +kernel
theorem d_St_addRun_2 : decode prog_10_method_7_code 2 = .ok (.isub, 1) := by decide +kernel
theorem d_St_addRun_3 : decode prog_10_method_7_code 3 = .ok (.istore 4, 2) := by decide +kernel
theorem d_St_addRun_5 : decode prog_10_method_7_code 5 = .ok (.aload_n 0, 1) := by decide +kernel
theorem d_St_addRun_6 : decode prog_10_method_7_code 6 = .ok (.getfield 24, 3) := by decide +kernel
theorem d_St_addRun_9 : decode prog_10_method_7_code 9 = .ok (.iload 4, 2) := by decide +kernel
theorem d_St_addRun_11 : decode prog_10_method_7_code 11 = .ok (.iadd, 1) := by decide +kernel
theorem d_St_addRun_12 : decode prog_10_method_7_code 12 = .ok (.sipush 400, 3) := by decide +kernel
theorem d_St_addRun_15 : decode prog_10_method_7_code 15 = .ok (.if_icmp .le 5, 3) := by decide +kernel
theorem d_St_addRun_20 : decode prog_10_method_7_code 20 = .ok (.aload_n 1, 1) := by decide +kernel
theorem d_St_addRun_21 : decode prog_10_method_7_code 21 = .ok (.getfield 9, 3) := by decide +kernel
theorem d_St_addRun_24 : decode prog_10_method_7_code 24 = .ok (.iload_n 2, 1) := by decide +kernel
theorem d_St_addRun_25 : decode prog_10_method_7_code 25 = .ok (.aload_n 0, 1) := by decide +kernel
theorem d_St_addRun_26 : decode prog_10_method_7_code 26 = .ok (.getfield 9, 3) := by decide +kernel
theorem d_St_addRun_29 : decode prog_10_method_7_code 29 = .ok (.aload_n 0, 1) := by decide +kernel
theorem d_St_addRun_30 : decode prog_10_method_7_code 30 = .ok (.getfield 24, 3) := by decide +kernel
theorem d_St_addRun_33 : decode prog_10_method_7_code 33 = .ok (.iload 4, 2) := by decide +kernel
theorem d_St_addRun_35 : decode prog_10_method_7_code 35 = .ok (.invokestatic 28, 3) := by decide +kernel
theorem d_St_addRun_38 : decode prog_10_method_7_code 38 = .ok (.aload_n 1, 1) := by decide +kernel
theorem d_St_addRun_39 : decode prog_10_method_7_code 39 = .ok (.getfield 15, 3) := by decide +kernel
theorem d_St_addRun_42 : decode prog_10_method_7_code 42 = .ok (.iload_n 2, 1) := by decide +kernel
theorem d_St_addRun_43 : decode prog_10_method_7_code 43 = .ok (.aload_n 0, 1) := by decide +kernel
theorem d_St_addRun_44 : decode prog_10_method_7_code 44 = .ok (.getfield 15, 3) := by decide +kernel
theorem d_St_addRun_47 : decode prog_10_method_7_code 47 = .ok (.aload_n 0, 1) := by decide +kernel
theorem d_St_addRun_48 : decode prog_10_method_7_code 48 = .ok (.getfield 24, 3) := by decide +kernel
theorem d_St_addRun_51 : decode prog_10_method_7_code 51 = .ok (.iload 4, 2) := by decide +kernel
theorem d_St_addRun_53 : decode prog_10_method_7_code 53 = .ok (.invokestatic 28, 3) := by decide +kernel
theorem d_St_addRun_56 : decode prog_10_method_7_code 56 = .ok (.aload_n 0, 1) := by decide +kernel
theorem d_St_addRun_57 : decode prog_10_method_7_code 57 = .ok (.getfield 18, 3) := by decide +kernel
theorem d_St_addRun_60 : decode prog_10_method_7_code 60 = .ok (.aload_n 0, 1) := by decide +kernel
theorem d_St_addRun_61 : decode prog_10_method_7_code 61 = .ok (.getfield 24, 3) := by decide +kernel
theorem d_St_addRun_64 : decode prog_10_method_7_code 64 = .ok (.iaload, 1) := by decide +kernel
theorem d_St_addRun_65 : decode prog_10_method_7_code 65 = .ok (.aload_n 1, 1) := by decide +kernel
theorem d_St_addRun_66 : decode prog_10_method_7_code 66 = .ok (.getfield 18, 3) := by decide +kernel
theorem d_St_addRun_69 : decode prog_10_method_7_code 69 = .ok (.iload_n 2, 1) := by decide +kernel
theorem d_St_addRun_70 : decode prog_10_method_7_code 70 = .ok (.iaload, 1) := by decide +kernel
theorem d_St_addRun_71 : decode prog_10_method_7_code 71 = .ok (.isub, 1) := by decide +kernel
theorem d_St_addRun_72 : decode prog_10_method_7_code 72 = .ok (.istore 5, 2) := by decide +kernel
theorem d_St_addRun_74 : decode prog_10_method_7_code 74 = .ok (.aload_n 1, 1) := by decide +kernel
theorem d_St_addRun_75 : decode prog_10_method_7_code 75 = .ok (.getfield 21, 3) := by decide +kernel
theorem d_St_addRun_78 : decode prog_10_method_7_code 78 = .ok (.aload_n 1, 1) := by decide +kernel
theorem d_St_addRun_79 : decode prog_10_method_7_code 79 = .ok (.getfield 18, 3) := by decide +kernel
theorem d_St_addRun_82 : decode prog_10_method_7_code 82 = .ok (.iload_n 2, 1) := by decide +kernel
theorem d_St_addRun_83 : decode prog_10_method_7_code 83 = .ok (.iaload, 1) := by decide +kernel
theorem d_St_addRun_84 : decode prog_10_method_7_code 84 = .ok (.aload_n 0, 1) := by decide +kernel
theorem d_St_addRun_85 : decode prog_10_method_7_code 85 = .ok (.getfield 21, 3) := by decide +kernel
theorem d_St_addRun_88 : decode prog_10_method_7_code 88 = .ok (.aload_n 0, 1) := by decide +kernel
theorem d_St_addRun_89 : decode prog_10_method_7_code 89 = .ok (.getfield 18, 3) := by decide +kernel
theorem d_St_addRun_92 : decode prog_10_method_7_code 92 = .ok (.aload_n 0, 1) := by decide +kernel
theorem d_St_addRun_93 : decode prog_10_method_7_code 93 = .ok (.getfield 24, 3) := by decide +kernel
theorem d_St_addRun_96 : decode prog_10_method_7_code 96 = .ok (.iaload, 1) := by decide +kernel
theorem d_St_addRun_97 : decode prog_10_method_7_code 97 = .ok (.aload_n 1, 1) := by decide +kernel
theorem d_St_addRun_98 : decode prog_10_method_7_code 98 = .ok (.getfield 18, 3) := by decide +kernel
theorem d_St_addRun_101 : decode prog_10_method_7_code 101 = .ok (.iload_n 3, 1) := by decide +kernel
theorem d_St_addRun_102 : decode prog_10_method_7_code 102 = .ok (.iaload, 1) := by decide +kernel
theorem d_St_addRun_103 : decode prog_10_method_7_code 103 = .ok (.aload_n 1, 1) := by decide +kernel
theorem d_St_addRun_104 : decode prog_10_method_7_code 104 = .ok (.getfield 18, 3) := by decide +kernel
theorem d_St_addRun_107 : decode prog_10_method_7_code 107 = .ok (.iload_n 2, 1) := by decide +kernel
theorem d_St_addRun_108 : decode prog_10_method_7_code 108 = .ok (.iaload, 1) := by decide +kernel
theorem d_St_addRun_109 : decode prog_10_method_7_code 109 = .ok (.isub, 1) := by decide +kernel
theorem d_St_addRun_110 : decode prog_10_method_7_code 110 = .ok (.invokestatic 28, 3) := by decide +kernel
theorem d_St_addRun_113 : decode prog_10_method_7_code 113 = .ok (.iconst 1, 1) := by decide +kernel
theorem d_St_addRun_114 : decode prog_10_method_7_code 114 = .ok (.istore 6, 2) := by decide +kernel
theorem d_St_addRun_18 : decode prog_10_method_7_code 18 = .ok (.iconst 0, 1) := by decide +kernel
theorem d_St_addRun_19 : decode prog_10_method_7_code 19 = .ok (.ireturn, 1) := by decide +kernel
theorem d_St_addRun_116 : decode prog_10_method_7_code 116 = .ok (.iload 6, 2) := by decide +kernel
theorem d_St_addRun_118 : decode prog_10_method_7_code 118 = .ok (.iload 4, 2) := by decide +kernel
theorem d_St_addRun_120 : decode prog_10_method_7_code 120 = .ok (.if_icmp .gt 33, 3) := by decide +kernel
theorem d_St_addRun_153 : decode prog_10_method_7_code 153 = .ok (.aload_n 0, 1) := by decide +kernel
theorem d_St_addRun_154 : decode prog_10_method_7_code 154 = .ok (.dup, 1) := by decide +kernel
theorem d_St_addRun_155 : decode prog_10_method_7_code 155 = .ok (.getfield 24, 3) := by decide +kernel
theorem d_St_addRun_158 : decode prog_10_method_7_code 158 = .ok (.iload 4, 2) := by decide +kernel
theorem d_St_addRun_160 : decode prog_10_method_7_code 160 = .ok (.iadd, 1) := by decide +kernel
theorem d_St_addRun_161 : decode prog_10_method_7_code 161 = .ok (.putfield 24, 3) := by decide +kernel
theorem d_St_addRun_164 : decode prog_10_method_7_code 164 = .ok (.iconst 1, 1) := by decide +kernel
theorem d_St_addRun_165 : decode prog_10_method_7_code 165 = .ok (.ireturn, 1) := by decide +kernel
theorem d_St_addRun_123 : decode prog_10_method_7_code 123 = .ok (.aload_n 0, 1) := by decide +kernel
theorem d_St_addRun_124 : decode prog_10_method_7_code 124 = .ok (.getfield 18, 3) := by decide +kernel
theorem d_St_addRun_127 : decode prog_10_method_7_code 127 = .ok (.aload_n 0, 1) := by decide +kernel
theorem d_St_addRun_128 : decode prog_10_method_7_code 128 = .ok (.getfield 24, 3) := by decide +kernel
theorem d_St_addRun_131 : decode prog_10_method_7_code 131 = .ok (.iload 6, 2) := by decide +kernel
theorem d_St_addRun_133 : decode prog_10_method_7_code 133 = .ok (.iadd, 1) := by decide +kernel
theorem d_St_addRun_134 : decode prog_10_method_7_code 134 = .ok (.aload_n 1, 1) := by decide +kernel
theorem d_St_addRun_135 : decode prog_10_method_7_code 135 = .ok (.getfield 18, 3) := by decide +kernel
theorem d_St_addRun_138 : decode prog_10_method_7_code 138 = .ok (.iload_n 2, 1) := by decide +kernel
theorem d_St_addRun_139 : decode prog_10_method_7_code 139 = .ok (.iload 6, 2) := by decide +kernel
theorem d_St_addRun_141 : decode prog_10_method_7_code 141 = .ok (.iadd, 1) := by decide +kernel
theorem d_St_addRun_142 : decode prog_10_method_7_code 142 = .ok (.iaload, 1) := by decide +kernel
theorem d_St_addRun_143 : decode prog_10_method_7_code 143 = .ok (.iload 5, 2) := by decide +kernel
theorem d_St_addRun_145 : decode prog_10_method_7_code 145 = .ok (.iadd, 1) := by decide +kernel
theorem d_St_addRun_146 : decode prog_10_method_7_code 146 = .ok (.iastore, 1) := by decide +kernel
theorem d_St_addRun_147 : decode prog_10_method_7_code 147 = .ok (.iinc 6 1, 3) := by decide +kernel
theorem d_St_addRun_150 : decode prog_10_method_7_code 150 = .ok (.goto (-34), 3) := by decide +kernel
set_option maxHeartbeats 4000000 in
theorem w_St_addRun_0 {l : Launch} {G : gG} {d : Nat} {X : gX} {M : gM} {k : Int → gM → Prop} {a : Nat} (hA : gsX X a) {r1 : Nat} (hr1 : gsX X r1) {x2 : Int} (hx2 : g32 x2) {x3 : Int} (hx3 : g32 x3)  (T : g32 (M a 0) → (((w32 ((M a 0) + (x3 - x2))) ≤ 400 → (g32 (M a 0) → (((0 : Int) ≤ x2 ∧ (0 : Int) ≤ (M a 0) ∧ (0 : Int) ≤ (x3 - x2) ∧ x2 + (x3 - x2) ≤ 400 ∧ (M a 0) + (x3 - x2) ≤ 400) ∧ (g32 ((gCp M (a + 1) (r1 + 1) (Int.toNat x2) (Int.toNat (M a 0)) (Int.toNat (x3 - x2))) a 0) → (((0 : Int) ≤ x2 ∧ (0 : Int) ≤ ((gCp M (a + 1) (r1 + 1) (Int.toNat x2) (Int.toNat (M a 0)) (Int.toNat (x3 - x2))) a 0) ∧ (0 : Int) ≤ (x3 - x2) ∧ x2 + (x3 - x2) ≤ 400 ∧ ((gCp M (a + 1) (r1 + 1) (Int.toNat x2) (Int.toNat (M a 0)) (Int.toNat (x3 - x2))) a 0) + (x3 - x2) ≤ 400) ∧ (g32 ((gCp (gCp M (a + 1) (r1 + 1) (Int.toNat x2) (Int.toNat (M a 0)) (Int.toNat (x3 - x2))) (a + 2) (r1 + 2) (Int.toNat x2) (Int.toNat ((gCp M (a + 1) (r1 + 1) (Int.toNat x2) (Int.toNat (M a 0)) (Int.toNat (x3 - x2))) a 0)) (Int.toNat (x3 - x2))) a 0) → (((0 : Int) ≤ (gCp (gCp M (a + 1) (r1 + 1) (Int.toNat x2) (Int.toNat (M a 0)) (Int.toNat (x3 - x2))) (a + 2) (r1 + 2) (Int.toNat x2) (Int.toNat ((gCp M (a + 1) (r1 + 1) (Int.toNat x2) (Int.toNat (M a 0)) (Int.toNat (x3 - x2))) a 0)) (Int.toNat (x3 - x2))) a 0 ∧ (gCp (gCp M (a + 1) (r1 + 1) (Int.toNat x2) (Int.toNat (M a 0)) (Int.toNat (x3 - x2))) (a + 2) (r1 + 2) (Int.toNat x2) (Int.toNat ((gCp M (a + 1) (r1 + 1) (Int.toNat x2) (Int.toNat (M a 0)) (Int.toNat (x3 - x2))) a 0)) (Int.toNat (x3 - x2))) a 0 < 401) ∧ (g32 ((gCp (gCp M (a + 1) (r1 + 1) (Int.toNat x2) (Int.toNat (M a 0)) (Int.toNat (x3 - x2))) (a + 2) (r1 + 2) (Int.toNat x2) (Int.toNat ((gCp M (a + 1) (r1 + 1) (Int.toNat x2) (Int.toNat (M a 0)) (Int.toNat (x3 - x2))) a 0)) (Int.toNat (x3 - x2))) (a + 3) (Int.toNat ((gCp (gCp M (a + 1) (r1 + 1) (Int.toNat x2) (Int.toNat (M a 0)) (Int.toNat (x3 - x2))) (a + 2) (r1 + 2) (Int.toNat x2) (Int.toNat ((gCp M (a + 1) (r1 + 1) (Int.toNat x2) (Int.toNat (M a 0)) (Int.toNat (x3 - x2))) a 0)) (Int.toNat (x3 - x2))) a 0))) → (((0 : Int) ≤ x2 ∧ x2 < 401) ∧ (g32 ((gCp (gCp M (a + 1) (r1 + 1) (Int.toNat x2) (Int.toNat (M a 0)) (Int.toNat (x3 - x2))) (a + 2) (r1 + 2) (Int.toNat x2) (Int.toNat ((gCp M (a + 1) (r1 + 1) (Int.toNat x2) (Int.toNat (M a 0)) (Int.toNat (x3 - x2))) a 0)) (Int.toNat (x3 - x2))) (r1 + 3) (Int.toNat x2)) → (((0 : Int) ≤ x2 ∧ x2 < 401) ∧ (g32 ((gCp (gCp M (a + 1) (r1 + 1) (Int.toNat x2) (Int.toNat (M a 0)) (Int.toNat (x3 - x2))) (a + 2) (r1 + 2) (Int.toNat x2) (Int.toNat ((gCp M (a + 1) (r1 + 1) (Int.toNat x2) (Int.toNat (M a 0)) (Int.toNat (x3 - x2))) a 0)) (Int.toNat (x3 - x2))) (r1 + 3) (Int.toNat x2)) → (g32 ((gCp (gCp M (a + 1) (r1 + 1) (Int.toNat x2) (Int.toNat (M a 0)) (Int.toNat (x3 - x2))) (a + 2) (r1 + 2) (Int.toNat x2) (Int.toNat ((gCp M (a + 1) (r1 + 1) (Int.toNat x2) (Int.toNat (M a 0)) (Int.toNat (x3 - x2))) a 0)) (Int.toNat (x3 - x2))) a 0) → (((0 : Int) ≤ (gCp (gCp M (a + 1) (r1 + 1) (Int.toNat x2) (Int.toNat (M a 0)) (Int.toNat (x3 - x2))) (a + 2) (r1 + 2) (Int.toNat x2) (Int.toNat ((gCp M (a + 1) (r1 + 1) (Int.toNat x2) (Int.toNat (M a 0)) (Int.toNat (x3 - x2))) a 0)) (Int.toNat (x3 - x2))) a 0 ∧ (gCp (gCp M (a + 1) (r1 + 1) (Int.toNat x2) (Int.toNat (M a 0)) (Int.toNat (x3 - x2))) (a + 2) (r1 + 2) (Int.toNat x2) (Int.toNat ((gCp M (a + 1) (r1 + 1) (Int.toNat x2) (Int.toNat (M a 0)) (Int.toNat (x3 - x2))) a 0)) (Int.toNat (x3 - x2))) a 0 < 401) ∧ (g32 ((gCp (gCp M (a + 1) (r1 + 1) (Int.toNat x2) (Int.toNat (M a 0)) (Int.toNat (x3 - x2))) (a + 2) (r1 + 2) (Int.toNat x2) (Int.toNat ((gCp M (a + 1) (r1 + 1) (Int.toNat x2) (Int.toNat (M a 0)) (Int.toNat (x3 - x2))) a 0)) (Int.toNat (x3 - x2))) (a + 3) (Int.toNat ((gCp (gCp M (a + 1) (r1 + 1) (Int.toNat x2) (Int.toNat (M a 0)) (Int.toNat (x3 - x2))) (a + 2) (r1 + 2) (Int.toNat x2) (Int.toNat ((gCp M (a + 1) (r1 + 1) (Int.toNat x2) (Int.toNat (M a 0)) (Int.toNat (x3 - x2))) a 0)) (Int.toNat (x3 - x2))) a 0))) → (((0 : Int) ≤ x3 ∧ x3 < 401) ∧ (g32 ((gCp (gCp M (a + 1) (r1 + 1) (Int.toNat x2) (Int.toNat (M a 0)) (Int.toNat (x3 - x2))) (a + 2) (r1 + 2) (Int.toNat x2) (Int.toNat ((gCp M (a + 1) (r1 + 1) (Int.toNat x2) (Int.toNat (M a 0)) (Int.toNat (x3 - x2))) a 0)) (Int.toNat (x3 - x2))) (r1 + 3) (Int.toNat x3)) → (((0 : Int) ≤ x2 ∧ x2 < 401) ∧ (g32 ((gCp (gCp M (a + 1) (r1 + 1) (Int.toNat x2) (Int.toNat (M a 0)) (Int.toNat (x3 - x2))) (a + 2) (r1 + 2) (Int.toNat x2) (Int.toNat ((gCp M (a + 1) (r1 + 1) (Int.toNat x2) (Int.toNat (M a 0)) (Int.toNat (x3 - x2))) a 0)) (Int.toNat (x3 - x2))) (r1 + 3) (Int.toNat x2)) → (((0 : Int) ≤ ((gCp (gCp M (a + 1) (r1 + 1) (Int.toNat x2) (Int.toNat (M a 0)) (Int.toNat (x3 - x2))) (a + 2) (r1 + 2) (Int.toNat x2) (Int.toNat ((gCp M (a + 1) (r1 + 1) (Int.toNat x2) (Int.toNat (M a 0)) (Int.toNat (x3 - x2))) a 0)) (Int.toNat (x3 - x2))) (r1 + 3) (Int.toNat x2)) ∧ (0 : Int) ≤ ((gCp (gCp M (a + 1) (r1 + 1) (Int.toNat x2) (Int.toNat (M a 0)) (Int.toNat (x3 - x2))) (a + 2) (r1 + 2) (Int.toNat x2) (Int.toNat ((gCp M (a + 1) (r1 + 1) (Int.toNat x2) (Int.toNat (M a 0)) (Int.toNat (x3 - x2))) a 0)) (Int.toNat (x3 - x2))) (a + 3) (Int.toNat ((gCp (gCp M (a + 1) (r1 + 1) (Int.toNat x2) (Int.toNat (M a 0)) (Int.toNat (x3 - x2))) (a + 2) (r1 + 2) (Int.toNat x2) (Int.toNat ((gCp M (a + 1) (r1 + 1) (Int.toNat x2) (Int.toNat (M a 0)) (Int.toNat (x3 - x2))) a 0)) (Int.toNat (x3 - x2))) a 0))) ∧ (0 : Int) ≤ (((gCp (gCp M (a + 1) (r1 + 1) (Int.toNat x2) (Int.toNat (M a 0)) (Int.toNat (x3 - x2))) (a + 2) (r1 + 2) (Int.toNat x2) (Int.toNat ((gCp M (a + 1) (r1 + 1) (Int.toNat x2) (Int.toNat (M a 0)) (Int.toNat (x3 - x2))) a 0)) (Int.toNat (x3 - x2))) (r1 + 3) (Int.toNat x3)) - ((gCp (gCp M (a + 1) (r1 + 1) (Int.toNat x2) (Int.toNat (M a 0)) (Int.toNat (x3 - x2))) (a + 2) (r1 + 2) (Int.toNat x2) (Int.toNat ((gCp M (a + 1) (r1 + 1) (Int.toNat x2) (Int.toNat (M a 0)) (Int.toNat (x3 - x2))) a 0)) (Int.toNat (x3 - x2))) (r1 + 3) (Int.toNat x2))) ∧ ((gCp (gCp M (a + 1) (r1 + 1) (Int.toNat x2) (Int.toNat (M a 0)) (Int.toNat (x3 - x2))) (a + 2) (r1 + 2) (Int.toNat x2) (Int.toNat ((gCp M (a + 1) (r1 + 1) (Int.toNat x2) (Int.toNat (M a 0)) (Int.toNat (x3 - x2))) a 0)) (Int.toNat (x3 - x2))) (r1 + 3) (Int.toNat x2)) + (((gCp (gCp M (a + 1) (r1 + 1) (Int.toNat x2) (Int.toNat (M a 0)) (Int.toNat (x3 - x2))) (a + 2) (r1 + 2) (Int.toNat x2) (Int.toNat ((gCp M (a + 1) (r1 + 1) (Int.toNat x2) (Int.toNat (M a 0)) (Int.toNat (x3 - x2))) a 0)) (Int.toNat (x3 - x2))) (r1 + 3) (Int.toNat x3)) - ((gCp (gCp M (a + 1) (r1 + 1) (Int.toNat x2) (Int.toNat (M a 0)) (Int.toNat (x3 - x2))) (a + 2) (r1 + 2) (Int.toNat x2) (Int.toNat ((gCp M (a + 1) (r1 + 1) (Int.toNat x2) (Int.toNat (M a 0)) (Int.toNat (x3 - x2))) a 0)) (Int.toNat (x3 - x2))) (r1 + 3) (Int.toNat x2))) ≤ 20000 ∧ ((gCp (gCp M (a + 1) (r1 + 1) (Int.toNat x2) (Int.toNat (M a 0)) (Int.toNat (x3 - x2))) (a + 2) (r1 + 2) (Int.toNat x2) (Int.toNat ((gCp M (a + 1) (r1 + 1) (Int.toNat x2) (Int.toNat (M a 0)) (Int.toNat (x3 - x2))) a 0)) (Int.toNat (x3 - x2))) (a + 3) (Int.toNat ((gCp (gCp M (a + 1) (r1 + 1) (Int.toNat x2) (Int.toNat (M a 0)) (Int.toNat (x3 - x2))) (a + 2) (r1 + 2) (Int.toNat x2) (Int.toNat ((gCp M (a + 1) (r1 + 1) (Int.toNat x2) (Int.toNat (M a 0)) (Int.toNat (x3 - x2))) a 0)) (Int.toNat (x3 - x2))) a 0))) + (((gCp (gCp M (a + 1) (r1 + 1) (Int.toNat x2) (Int.toNat (M a 0)) (Int.toNat (x3 - x2))) (a + 2) (r1 + 2) (Int.toNat x2) (Int.toNat ((gCp M (a + 1) (r1 + 1) (Int.toNat x2) (Int.toNat (M a 0)) (Int.toNat (x3 - x2))) a 0)) (Int.toNat (x3 - x2))) (r1 + 3) (Int.toNat x3)) - ((gCp (gCp M (a + 1) (r1 + 1) (Int.toNat x2) (Int.toNat (M a 0)) (Int.toNat (x3 - x2))) (a + 2) (r1 + 2) (Int.toNat x2) (Int.toNat ((gCp M (a + 1) (r1 + 1) (Int.toNat x2) (Int.toNat (M a 0)) (Int.toNat (x3 - x2))) a 0)) (Int.toNat (x3 - x2))) (r1 + 3) (Int.toNat x2))) ≤ 20000) ∧ (wp l G y_St_addRun (gRm (d + 1)) true (kkZ X k) true 116 [.val (gR G a), .val (gR G r1), .val (gI x2), .unset, .val (gI (w32 (x3 - x2))), .val (gI (w32 (((gCp (gCp M (a + 1) (r1 + 1) (Int.toNat x2) (Int.toNat (M a 0)) (Int.toNat (x3 - x2))) (a + 2) (r1 + 2) (Int.toNat x2) (Int.toNat ((gCp M (a + 1) (r1 + 1) (Int.toNat x2) (Int.toNat (M a 0)) (Int.toNat (x3 - x2))) a 0)) (Int.toNat (x3 - x2))) (a + 3) (Int.toNat ((gCp (gCp M (a + 1) (r1 + 1) (Int.toNat x2) (Int.toNat (M a 0)) (Int.toNat (x3 - x2))) (a + 2) (r1 + 2) (Int.toNat x2) (Int.toNat ((gCp M (a + 1) (r1 + 1) (Int.toNat x2) (Int.toNat (M a 0)) (Int.toNat (x3 - x2))) a 0)) (Int.toNat (x3 - x2))) a 0))) - ((gCp (gCp M (a + 1) (r1 + 1) (Int.toNat x2) (Int.toNat (M a 0)) (Int.toNat (x3 - x2))) (a + 2) (r1 + 2) (Int.toNat x2) (Int.toNat ((gCp M (a + 1) (r1 + 1) (Int.toNat x2) (Int.toNat (M a 0)) (Int.toNat (x3 - x2))) a 0)) (Int.toNat (x3 - x2))) (r1 + 3) (Int.toNat x2))))), .val (gI 1)] [] X (gCp (gCp (gCp M (a + 1) (r1 + 1) (Int.toNat x2) (Int.toNat (M a 0)) (Int.toNat (x3 - x2))) (a + 2) (r1 + 2) (Int.toNat x2) (Int.toNat ((gCp M (a + 1) (r1 + 1) (Int.toNat x2) (Int.toNat (M a 0)) (Int.toNat (x3 - x2))) a 0)) (Int.toNat (x3 - x2))) (a + 4) (r1 + 4) (Int.toNat ((gCp (gCp M (a + 1) (r1 + 1) (Int.toNat x2) (Int.toNat (M a 0)) (Int.toNat (x3 - x2))) (a + 2) (r1 + 2) (Int.toNat x2) (Int.toNat ((gCp M (a + 1) (r1 + 1) (Int.toNat x2) (Int.toNat (M a 0)) (Int.toNat (x3 - x2))) a 0)) (Int.toNat (x3 - x2))) (r1 + 3) (Int.toNat x2))) (Int.toNat ((gCp (gCp M (a + 1) (r1 + 1) (Int.toNat x2) (Int.toNat (M a 0)) (Int.toNat (x3 - x2))) (a + 2) (r1 + 2) (Int.toNat x2) (Int.toNat ((gCp M (a + 1) (r1 + 1) (Int.toNat x2) (Int.toNat (M a 0)) (Int.toNat (x3 - x2))) a 0)) (Int.toNat (x3 - x2))) (a + 3) (Int.toNat ((gCp (gCp M (a + 1) (r1 + 1) (Int.toNat x2) (Int.toNat (M a 0)) (Int.toNat (x3 - x2))) (a + 2) (r1 + 2) (Int.toNat x2) (Int.toNat ((gCp M (a + 1) (r1 + 1) (Int.toNat x2) (Int.toNat (M a 0)) (Int.toNat (x3 - x2))) a 0)) (Int.toNat (x3 - x2))) a 0)))) (Int.toNat (((gCp (gCp M (a + 1) (r1 + 1) (Int.toNat x2) (Int.toNat (M a 0)) (Int.toNat (x3 - x2))) (a + 2) (r1 + 2) (Int.toNat x2) (Int.toNat ((gCp M (a + 1) (r1 + 1) (Int.toNat x2) (Int.toNat (M a 0)) (Int.toNat (x3 - x2))) a 0)) (Int.toNat (x3 - x2))) (r1 + 3) (Int.toNat x3)) - ((gCp (gCp M (a + 1) (r1 + 1) (Int.toNat x2) (Int.toNat (M a 0)) (Int.toNat (x3 - x2))) (a + 2) (r1 + 2) (Int.toNat x2) (Int.toNat ((gCp M (a + 1) (r1 + 1) (Int.toNat x2) (Int.toNat (M a 0)) (Int.toNat (x3 - x2))) a 0)) (Int.toNat (x3 - x2))) (r1 + 3) (Int.toNat x2))))) 0 0))))))))))))))))))))) ∧ (¬ (w32 ((M a 0) + (x3 - x2))) ≤ 400 → (k 0 M)))) : wp l G y_St_addRun (gRm (d + 1)) true (kkZ X k) false 0 [.val (gR G a), .val (gR G r1), .val (gI x2), .val (gI x3), .unset, .unset, .unset] [] X M 0 0 := by
  refine wp_iload_n d_St_addRun_0 rfl rfl ?_
  refine wp_iload_n d_St_addRun_1 rfl rfl ?_
  refine wp_isub d_St_addRun_2 ?_
  refine wp_istore (L' := [.val (gR G a), .val (gR G r1), .val (gI x2), .val (gI x3), .val (gI (x3 - x2)), .unset, .unset]) d_St_addRun_3 (by decide) rfl ?_
  refine wp_aload_n d_St_addRun_5 rfl rfl (g_nz hA.1) ?_
  refine xgetI d_St_addRun_6 gc_St f_St_24.1 f_St_24.2.1 f_St_24.2.2.1 hA.1 (gs_2 hA) hA.2.2.1 f_St_24.2.2.2.2.1 (fun h1 => ?_)
  have T := T h1
  refine wp_iload d_St_addRun_9 rfl ?_
  refine wp_iadd d_St_addRun_11 ?_
  refine wp_sipush d_St_addRun_12 ⟨by decide, by decide⟩ ?_
  refine xi_le (tgt := 20) d_St_addRun_15 (by decide) rfl (w32_id (g32_c (x := 400) rfl)) (fun h12 => ?_) (fun h12 => ?_)
  · have T := T.1 h12
    refine wp_aload_n d_St_addRun_20 rfl rfl (g_nz hr1.1) ?_
    refine xgetR d_St_addRun_21 gc_St f_St_9.1 f_St_9.2.1 f_St_9.2.2.1 hr1.1 (gs_2 hr1) hr1.2.2.1 f_St_9.2.2.2.2.1 (gs_r hr1 0 rfl).1 ?_
    refine wp_iload_n d_St_addRun_24 rfl rfl ?_
    refine wp_aload_n d_St_addRun_25 rfl rfl (g_nz hA.1) ?_
    refine xgetR d_St_addRun_26 gc_St f_St_9.1 f_St_9.2.1 f_St_9.2.2.1 hA.1 (gs_2 hA) hA.2.2.1 f_St_9.2.2.2.2.1 (gs_r hA 0 rfl).1 ?_
    refine wp_aload_n d_St_addRun_29 rfl rfl (g_nz hA.1) ?_
    refine xgetI d_St_addRun_30 gc_St f_St_24.1 f_St_24.2.1 f_St_24.2.2.1 hA.1 (gs_2 hA) hA.2.2.1 f_St_24.2.2.2.2.1 (fun h2 => ?_)
    have T := T h2
    refine wp_iload d_St_addRun_33 rfl ?_
    refine wp_copy (a := a + 1) (a0 := r1 + 1) d_St_addRun_35 ml_St_28 na_arraycopy sm_arraycopy in_System (by decide) (gs_r hr1 0 rfl).2.2.1 (gs_r hr1 0 rfl).2.2.2 (gs_r hr1 0 rfl).2.1 (gs_r hA 0 rfl).2.2.1 (gs_r hA 0 rfl).2.2.2 (gs_r hA 0 rfl).2.1 (by decide) (by decide) T.1 (g_cpfr d) (g_cplo d) ?_
    have T := T.2
    refine wp_aload_n d_St_addRun_38 rfl rfl (g_nz hr1.1) ?_
    refine xgetR d_St_addRun_39 gc_St f_St_15.1 f_St_15.2.1 f_St_15.2.2.1 hr1.1 (gs_2 hr1) hr1.2.2.1 f_St_15.2.2.2.2.1 (gs_r hr1 1 rfl).1 ?_
    refine wp_iload_n d_St_addRun_42 rfl rfl ?_
    refine wp_aload_n d_St_addRun_43 rfl rfl (g_nz hA.1) ?_
    refine xgetR d_St_addRun_44 gc_St f_St_15.1 f_St_15.2.1 f_St_15.2.2.1 hA.1 (gs_2 hA) hA.2.2.1 f_St_15.2.2.2.2.1 (gs_r hA 1 rfl).1 ?_
    refine wp_aload_n d_St_addRun_47 rfl rfl (g_nz hA.1) ?_
    refine xgetI d_St_addRun_48 gc_St f_St_24.1 f_St_24.2.1 f_St_24.2.2.1 hA.1 (gs_2 hA) hA.2.2.1 f_St_24.2.2.2.2.1 (fun h3 => ?_)
    have T := T h3
    refine wp_iload d_St_addRun_51 rfl ?_
    refine wp_copy (a := a + 2) (a0 := r1 + 2) d_St_addRun_53 ml_St_28 na_arraycopy sm_arraycopy in_System (by decide) (gs_r hr1 1 rfl).2.2.1 (gs_r hr1 1 rfl).2.2.2 (gs_r hr1 1 rfl).2.1 (gs_r hA 1 rfl).2.2.1 (gs_r hA 1 rfl).2.2.2 (gs_r hA 1 rfl).2.1 (by decide) (by decide) T.1 (g_cpfr d) (g_cplo d) ?_
    have T := T.2
    refine wp_aload_n d_St_addRun_56 rfl rfl (g_nz hA.1) ?_
    refine xgetR d_St_addRun_57 gc_St f_St_18.1 f_St_18.2.1 f_St_18.2.2.1 hA.1 (gs_2 hA) hA.2.2.1 f_St_18.2.2.2.2.1 (gs_r hA 2 rfl).1 ?_
    refine wp_aload_n d_St_addRun_60 rfl rfl (g_nz hA.1) ?_
    refine xgetI d_St_addRun_61 gc_St f_St_24.1 f_St_24.2.1 f_St_24.2.2.1 hA.1 (gs_2 hA) hA.2.2.1 f_St_24.2.2.2.2.1 (fun h4 => ?_)
    have T := T h4
    refine wp_iaload d_St_addRun_64 (gs_r hA 2 rfl).2.2.1 (gs_r hA 2 rfl).2.2.2 (gs_r hA 2 rfl).2.1 (g32_n T.1 (by decide)) T.1.1 T.1.2 (fun h5 => ?_)
    have T := T.2 h5
    refine wp_aload_n d_St_addRun_65 rfl rfl (g_nz hr1.1) ?_
    refine xgetR d_St_addRun_66 gc_St f_St_18.1 f_St_18.2.1 f_St_18.2.2.1 hr1.1 (gs_2 hr1) hr1.2.2.1 f_St_18.2.2.2.2.1 (gs_r hr1 2 rfl).1 ?_
    refine wp_iload_n d_St_addRun_69 rfl rfl ?_
    refine wp_iaload d_St_addRun_70 (gs_r hr1 2 rfl).2.2.1 (gs_r hr1 2 rfl).2.2.2 (gs_r hr1 2 rfl).2.1 (g32_n T.1 (by decide)) T.1.1 T.1.2 (fun h6 => ?_)
    have T := T.2 h6
    refine wp_isub d_St_addRun_71 ?_
    refine wp_istore (L' := [.val (gR G a), .val (gR G r1), .val (gI x2), .val (gI x3), .val (gI (x3 - x2)), .val (gI (((gCp (gCp M (a + 1) (r1 + 1) (Int.toNat x2) (Int.toNat (M a 0)) (Int.toNat (x3 - x2))) (a + 2) (r1 + 2) (Int.toNat x2) (Int.toNat ((gCp M (a + 1) (r1 + 1) (Int.toNat x2) (Int.toNat (M a 0)) (Int.toNat (x3 - x2))) a 0)) (Int.toNat (x3 - x2))) (a + 3) (Int.toNat ((gCp (gCp M (a + 1) (r1 + 1) (Int.toNat x2) (Int.toNat (M a 0)) (Int.toNat (x3 - x2))) (a + 2) (r1 + 2) (Int.toNat x2) (Int.toNat ((gCp M (a + 1) (r1 + 1) (Int.toNat x2) (Int.toNat (M a 0)) (Int.toNat (x3 - x2))) a 0)) (Int.toNat (x3 - x2))) a 0))) - ((gCp (gCp M (a + 1) (r1 + 1) (Int.toNat x2) (Int.toNat (M a 0)) (Int.toNat (x3 - x2))) (a + 2) (r1 + 2) (Int.toNat x2) (Int.toNat ((gCp M (a + 1) (r1 + 1) (Int.toNat x2) (Int.toNat (M a 0)) (Int.toNat (x3 - x2))) a 0)) (Int.toNat (x3 - x2))) (r1 + 3) (Int.toNat x2)))), .unset]) d_St_addRun_72 (by decide) rfl ?_
    refine wp_aload_n d_St_addRun_74 rfl rfl (g_nz hr1.1) ?_
    refine xgetR d_St_addRun_75 gc_St f_St_21.1 f_St_21.2.1 f_St_21.2.2.1 hr1.1 (gs_2 hr1) hr1.2.2.1 f_St_21.2.2.2.2.1 (gs_r hr1 3 rfl).1 ?_
    refine wp_aload_n d_St_addRun_78 rfl rfl (g_nz hr1.1) ?_
    refine xgetR d_St_addRun_79 gc_St f_St_18.1 f_St_18.2.1 f_St_18.2.2.1 hr1.1 (gs_2 hr1) hr1.2.2.1 f_St_18.2.2.2.2.1 (gs_r hr1 2 rfl).1 ?_
    refine wp_iload_n d_St_addRun_82 rfl rfl ?_
    refine wp_iaload d_St_addRun_83 (gs_r hr1 2 rfl).2.2.1 (gs_r hr1 2 rfl).2.2.2 (gs_r hr1 2 rfl).2.1 (g32_n T.1 (by decide)) T.1.1 T.1.2 (fun h7 => ?_)
    have T := T.2 h7
    refine wp_aload_n d_St_addRun_84 rfl rfl (g_nz hA.1) ?_
    refine xgetR d_St_addRun_85 gc_St f_St_21.1 f_St_21.2.1 f_St_21.2.2.1 hA.1 (gs_2 hA) hA.2.2.1 f_St_21.2.2.2.2.1 (gs_r hA 3 rfl).1 ?_
    refine wp_aload_n d_St_addRun_88 rfl rfl (g_nz hA.1) ?_
    refine xgetR d_St_addRun_89 gc_St f_St_18.1 f_St_18.2.1 f_St_18.2.2.1 hA.1 (gs_2 hA) hA.2.2.1 f_St_18.2.2.2.2.1 (gs_r hA 2 rfl).1 ?_
    refine wp_aload_n d_St_addRun_92 rfl rfl (g_nz hA.1) ?_
    refine xgetI d_St_addRun_93 gc_St f_St_24.1 f_St_24.2.1 f_St_24.2.2.1 hA.1 (gs_2 hA) hA.2.2.1 f_St_24.2.2.2.2.1 (fun h8 => ?_)
    have T := T h8
    refine wp_iaload d_St_addRun_96 (gs_r hA 2 rfl).2.2.1 (gs_r hA 2 rfl).2.2.2 (gs_r hA 2 rfl).2.1 (g32_n T.1 (by decide)) T.1.1 T.1.2 (fun h9 => ?_)
    have T := T.2 h9
    refine wp_aload_n d_St_addRun_97 rfl rfl (g_nz hr1.1) ?_
    refine xgetR d_St_addRun_98 gc_St f_St_18.1 f_St_18.2.1 f_St_18.2.2.1 hr1.1 (gs_2 hr1) hr1.2.2.1 f_St_18.2.2.2.2.1 (gs_r hr1 2 rfl).1 ?_
    refine wp_iload_n d_St_addRun_101 rfl rfl ?_
    refine wp_iaload d_St_addRun_102 (gs_r hr1 2 rfl).2.2.1 (gs_r hr1 2 rfl).2.2.2 (gs_r hr1 2 rfl).2.1 (g32_n T.1 (by decide)) T.1.1 T.1.2 (fun h10 => ?_)
    have T := T.2 h10
    refine wp_aload_n d_St_addRun_103 rfl rfl (g_nz hr1.1) ?_
    refine xgetR d_St_addRun_104 gc_St f_St_18.1 f_St_18.2.1 f_St_18.2.2.1 hr1.1 (gs_2 hr1) hr1.2.2.1 f_St_18.2.2.2.2.1 (gs_r hr1 2 rfl).1 ?_
    refine wp_iload_n d_St_addRun_107 rfl rfl ?_
    refine wp_iaload d_St_addRun_108 (gs_r hr1 2 rfl).2.2.1 (gs_r hr1 2 rfl).2.2.2 (gs_r hr1 2 rfl).2.1 (g32_n T.1 (by decide)) T.1.1 T.1.2 (fun h11 => ?_)
    have T := T.2 h11
    refine wp_isub d_St_addRun_109 ?_
    refine wp_copy (a := a + 4) (a0 := r1 + 4) d_St_addRun_110 ml_St_28 na_arraycopy sm_arraycopy in_System (by decide) (gs_r hr1 3 rfl).2.2.1 (gs_r hr1 3 rfl).2.2.2 (gs_r hr1 3 rfl).2.1 (gs_r hA 3 rfl).2.2.1 (gs_r hA 3 rfl).2.2.2 (gs_r hA 3 rfl).2.1 (by decide) (by decide) T.1 (g_cpfr d) (g_cplo d) ?_
    have T := T.2
    refine wp_iconst d_St_addRun_113 ?_
    refine wp_istore (L' := [.val (gR G a), .val (gR G r1), .val (gI x2), .val (gI x3), .val (gI (x3 - x2)), .val (gI (((gCp (gCp M (a + 1) (r1 + 1) (Int.toNat x2) (Int.toNat (M a 0)) (Int.toNat (x3 - x2))) (a + 2) (r1 + 2) (Int.toNat x2) (Int.toNat ((gCp M (a + 1) (r1 + 1) (Int.toNat x2) (Int.toNat (M a 0)) (Int.toNat (x3 - x2))) a 0)) (Int.toNat (x3 - x2))) (a + 3) (Int.toNat ((gCp (gCp M (a + 1) (r1 + 1) (Int.toNat x2) (Int.toNat (M a 0)) (Int.toNat (x3 - x2))) (a + 2) (r1 + 2) (Int.toNat x2) (Int.toNat ((gCp M (a + 1) (r1 + 1) (Int.toNat x2) (Int.toNat (M a 0)) (Int.toNat (x3 - x2))) a 0)) (Int.toNat (x3 - x2))) a 0))) - ((gCp (gCp M (a + 1) (r1 + 1) (Int.toNat x2) (Int.toNat (M a 0)) (Int.toNat (x3 - x2))) (a + 2) (r1 + 2) (Int.toNat x2) (Int.toNat ((gCp M (a + 1) (r1 + 1) (Int.toNat x2) (Int.toNat (M a 0)) (Int.toNat (x3 - x2))) a 0)) (Int.toNat (x3 - x2))) (r1 + 3) (Int.toNat x2)))), .val (gI 1)]) d_St_addRun_114 (by decide) rfl ?_
    exact wp_md (wpt T (And.intro rfl (And.intro rfl (And.intro rfl (And.intro (gI_w _) (And.intro (gI_w _) (And.intro rfl True.intro)))))))
  · have T := T.2 h12
    refine wp_iconst d_St_addRun_18 ?_
    exact wp_zreturn d_St_addRun_19 rfl (g_narz (⟨by decide, by decide⟩ : (0 : Int) ≤ 0 ∧ (0 : Int) ≤ 1)) (fun _ => rfl) (Nat.zero_le _) (Nat.zero_le _) (kZ_mk (⟨by decide, by decide⟩ : (0 : Int) ≤ 0 ∧ (0 : Int) ≤ 1) T)
set_option maxHeartbeats 4000000 in
theorem w_St_addRun_116 {l : Launch} {G : gG} {d : Nat} {X : gX} {M : gM} {k : Int → gM → Prop} {a : Nat} (hA : gsX X a) {x2 : Int} (hx2 : g32 x2) {x4 : Int} (hx4 : g32 x4) {x5 : Int} (hx5 : g32 x5) {x6 : Int} (hx6 : g32 x6) {r1 : Nat} (hr1 : gsX X r1)  (T : (x4 < x6 → (g32 (M a 0) → (k 1 (gUp M a 0 (w32 ((M a 0) + x4)))))) ∧ (¬ x4 < x6 → (g32 (M a 0) → (((0 : Int) ≤ x2 + x6 ∧ x2 + x6 < 401) ∧ (g32 (M (r1 + 3) (Int.toNat (x2 + x6))) → (((0 : Int) ≤ (M a 0) + x6 ∧ (M a 0) + x6 < 401) ∧ (wp l G y_St_addRun (gRm (d + 1)) true (kkZ X k) true 116 [.val (gR G a), .val (gR G r1), .val (gI x2), .unset, .val (gI x4), .val (gI x5), .val (gI (w32 (x6 + 1)))] [] X (gUp M (a + 3) (Int.toNat ((M a 0) + x6)) (w32 ((M (r1 + 3) (Int.toNat (x2 + x6))) + x5))) 0 0))))))) : wp l G y_St_addRun (gRm (d + 1)) true (kkZ X k) true 116 [.val (gR G a), .val (gR G r1), .val (gI x2), .unset, .val (gI x4), .val (gI x5), .val (gI x6)] [] X M 0 0 := by
  refine wp_iload d_St_addRun_116 rfl ?_
  refine wp_iload d_St_addRun_118 rfl ?_
  refine xi_gt (tgt := 153) d_St_addRun_120 (by decide) (w32_id hx6) (w32_id hx4) (fun h16 => ?_) (fun h16 => ?_)
  · have T := T.1 h16
    refine wp_aload_n d_St_addRun_153 rfl rfl (g_nz hA.1) ?_
    refine wp_dup d_St_addRun_154 (gR_cat _) ?_
    refine xgetI d_St_addRun_155 gc_St f_St_24.1 f_St_24.2.1 f_St_24.2.2.1 hA.1 (gs_2 hA) hA.2.2.1 f_St_24.2.2.2.2.1 (fun h13 => ?_)
    have T := T h13
    refine wp_iload d_St_addRun_158 rfl ?_
    refine wp_iadd d_St_addRun_160 ?_
    refine xputI d_St_addRun_161 gc_St f_St_24.1 f_St_24.2.1 f_St_24.2.2.1 hA.1 (gs_2 hA) hA.2.2.1 f_St_24.2.2.2.1 f_St_24.2.2.2.2.1 f_St_24.2.2.2.2.2 rfl ?_
    refine wp_iconst d_St_addRun_164 ?_
    exact wp_zreturn d_St_addRun_165 rfl (g_narz (⟨by decide, by decide⟩ : (0 : Int) ≤ 1 ∧ (1 : Int) ≤ 1)) (fun _ => rfl) (Nat.zero_le _) (Nat.zero_le _) (kZ_mk (⟨by decide, by decide⟩ : (0 : Int) ≤ 1 ∧ (1 : Int) ≤ 1) T)
  · have T := T.2 h16
    refine wp_aload_n d_St_addRun_123 rfl rfl (g_nz hA.1) ?_
    refine xgetR d_St_addRun_124 gc_St f_St_18.1 f_St_18.2.1 f_St_18.2.2.1 hA.1 (gs_2 hA) hA.2.2.1 f_St_18.2.2.2.2.1 (gs_r hA 2 rfl).1 ?_
    refine wp_aload_n d_St_addRun_127 rfl rfl (g_nz hA.1) ?_
    refine xgetI d_St_addRun_128 gc_St f_St_24.1 f_St_24.2.1 f_St_24.2.2.1 hA.1 (gs_2 hA) hA.2.2.1 f_St_24.2.2.2.2.1 (fun h14 => ?_)
    have T := T h14
    refine wp_iload d_St_addRun_131 rfl ?_
    refine wp_iadd d_St_addRun_133 ?_
    refine wp_aload_n d_St_addRun_134 rfl rfl (g_nz hr1.1) ?_
    refine xgetR d_St_addRun_135 gc_St f_St_18.1 f_St_18.2.1 f_St_18.2.2.1 hr1.1 (gs_2 hr1) hr1.2.2.1 f_St_18.2.2.2.2.1 (gs_r hr1 2 rfl).1 ?_
    refine wp_iload_n d_St_addRun_138 rfl rfl ?_
    refine wp_iload d_St_addRun_139 rfl ?_
    refine wp_iadd d_St_addRun_141 ?_
    refine wp_iaload d_St_addRun_142 (gs_r hr1 2 rfl).2.2.1 (gs_r hr1 2 rfl).2.2.2 (gs_r hr1 2 rfl).2.1 (g32_n T.1 (by decide)) T.1.1 T.1.2 (fun h15 => ?_)
    have T := T.2 h15
    refine wp_iload d_St_addRun_143 rfl ?_
    refine wp_iadd d_St_addRun_145 ?_
    refine xiast d_St_addRun_146 (gs_r hA 2 rfl).2.2.1 (gs_r hA 2 rfl).2.2.2 (gs_r hA 2 rfl).2.1 (by decide) T.1 rfl ?_
    have T := T.2
    refine wp_iinc (L' := [.val (gR G a), .val (gR G r1), .val (gI x2), .unset, .val (gI x4), .val (gI x5), .val (gI (x6 + 1))]) d_St_addRun_147 rfl (by decide) rfl ?_
    refine wp_goto (tgt := 116) d_St_addRun_150 (by decide) ?_
    exact wp_md (wpt T (And.intro rfl (And.intro rfl (And.intro rfl (And.intro rfl (And.intro rfl (And.intro (gI_w _) True.intro)))))))
theorem e_St_addRun {l : Launch} {G : gG} {d : Nat} {X : gX} {M : gM} {k : Int → gM → Prop} {a : Nat} {r1 : Nat} {x2 : Int} {x3 : Int} (T : wp l G y_St_addRun (gRm (d + 1)) true (kkZ X k) false 0 [.val (gR G a), .val (gR G r1), .val (gI x2), .val (gI x3), .unset, .unset, .unset] [] X M 0 0) : cZ l G y_St_addRun (gRm (d + 1)) true [gR G a, gR G r1, gI x2, gI x3] X M k := cen_Z (plainFor_of_name rfl) (by simp only [lg_sl_R, lg_sl_I, lg_sl_L, lg_sl_N, List.length_cons, List.length_nil]; decide) (by unfold gEn; simp only [lg_sl_R, lg_sl_I, lg_sl_L, lg_sl_N]; exact wpt T (And.intro rfl (And.intro rfl (And.intro rfl (And.intro rfl True.intro)))))
