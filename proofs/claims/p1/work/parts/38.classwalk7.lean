/-! Walks of the class's methods, written by wip/whole/gen_class.py -/
theorem d_Rd_typed_0 : decode prog_8_method_2_code 0 = .ok (.iload_n 1, 1) := by decide +kernel
theorem d_Rd_typed_1 : decode prog_8_method_2_code 1 = .ok (.ifCond .ne 5, 3) := by decide +kernel
theorem d_Rd_typed_6 : decode prog_8_method_2_code 6 = .ok (.aload_n 0, 1) := by decide +kernel
theorem d_Rd_typed_7 : decode prog_8_method_2_code 7 = .ok (.iload_n 1, 1) := by decide +kernel
theorem d_Rd_typed_8 : decode prog_8_method_2_code 8 = .ok (.invokevirtual 32, 3) := by decide +kernel
theorem d_Rd_typed_11 : decode prog_8_method_2_code 11 = .ok (.ifCond .ne 5, 3) := by decide +kernel
theorem d_Rd_typed_16 : decode prog_8_method_2_code 16 = .ok (.aload_n 0, 1) := by decide +kernel
theorem d_Rd_typed_17 : decode prog_8_method_2_code 17 = .ok (.getfield 15, 3) := by decide +kernel
theorem d_Rd_typed_20 : decode prog_8_method_2_code 20 = .ok (.iconst 0, 1) := by decide +kernel
theorem d_Rd_typed_21 : decode prog_8_method_2_code 21 = .ok (.iload_n 1, 1) := by decide +kernel
theorem d_Rd_typed_22 : decode prog_8_method_2_code 22 = .ok (.invokestatic 36, 3) := by decide +kernel
theorem d_Rd_typed_25 : decode prog_8_method_2_code 25 = .ok (.istore_n 2, 1) := by decide +kernel
theorem d_Rd_typed_26 : decode prog_8_method_2_code 26 = .ok (.aload_n 0, 1) := by decide +kernel
theorem d_Rd_typed_27 : decode prog_8_method_2_code 27 = .ok (.getfield 15, 3) := by decide +kernel
theorem d_Rd_typed_30 : decode prog_8_method_2_code 30 = .ok (.iconst 0, 1) := by decide +kernel
theorem d_Rd_typed_31 : decode prog_8_method_2_code 31 = .ok (.baload, 1) := by decide +kernel
theorem d_Rd_typed_32 : decode prog_8_method_2_code 32 = .ok (.bipush 61, 2) := by decide +kernel
theorem d_Rd_typed_34 : decode prog_8_method_2_code 34 = .ok (.if_icmp .ne 7, 3) := by decide +kernel
theorem d_Rd_typed_41 : decode prog_8_method_2_code 41 = .ok (.iconst 0, 1) := by decide +kernel
theorem d_Rd_typed_37 : decode prog_8_method_2_code 37 = .ok (.iconst 1, 1) := by decide +kernel
theorem d_Rd_typed_38 : decode prog_8_method_2_code 38 = .ok (.goto 4, 3) := by decide +kernel
theorem d_Rd_typed_14 : decode prog_8_method_2_code 14 = .ok (.iconst (-1), 1) := by decide +kernel
theorem d_Rd_typed_15 : decode prog_8_method_2_code 15 = .ok (.ireturn, 1) := by decide +kernel
theorem d_Rd_typed_4 : decode prog_8_method_2_code 4 = .ok (.iconst 0, 1) := by decide +kernel
theorem d_Rd_typed_5 : decode prog_8_method_2_code 5 = .ok (.ireturn, 1) := by decide +kernel
set_option maxHeartbeats 4000000 in
theorem w_Rd_typed_0 {l : Launch} {G : gG} {d : Nat} {X : gX} {M : gM} {k : Int → gM → Prop} {c : Nat} (hX : glX X c) {x1 : Int} (hx1 : g32 x1)  (T : (¬ x1 = 0 → (cZ l G y_Rd_isPrintable (gRm d) false [gR G (c + 14), gI x1] X M (fun v2 M1 => ((¬ v2 = 0 → (cZ l G y_Vl_isNumber (gRm d) false [gR G (c + 1), gI 0, gI x1] X M1 (fun v5 M4 => (((0 : Int) ≤ (0 : Int) ∧ (0 : Int) < 240) ∧ ((-128 ≤ M4 (c + 1) (Int.toNat 0) ∧ M4 (c + 1) (Int.toNat 0) < 128) → ((¬ M4 (c + 1) (Int.toNat 0) = 61 → (wp l G y_Rd_typed (gRm (d + 1)) true (kkI X k) true 42 [.val (gR G (c + 14)), .val (gI x1), .val (gI v5), .unset, .unset] [gI 0] X M4 0 0)) ∧ (M4 (c + 1) (Int.toNat 0) = 61 → (wp l G y_Rd_typed (gRm (d + 1)) true (kkI X k) true 42 [.val (gR G (c + 14)), .val (gI x1), .val (gI v5), .unset, .unset] [gI 1] X M4 0 0)))))))) ∧ (v2 = 0 → (k (-1) M1)))))) ∧ (x1 = 0 → (k 0 M))) : wp l G y_Rd_typed (gRm (d + 1)) true (kkI X k) false 0 [.val (gR G (c + 14)), .val (gI x1), .unset, .unset, .unset] [] X M 0 0 := by
  refine wp_iload_n d_Rd_typed_0 rfl rfl ?_
  refine xz_ne (tgt := 6) d_Rd_typed_1 (by decide) (w32_id hx1) (fun h10 => ?_) (fun h10 => ?_)
  · have T := T.1 h10
    refine wp_aload_n d_Rd_typed_6 rfl rfl (g_nz (gl_1 hX 14)) ?_
    refine wp_iload_n d_Rd_typed_7 rfl rfl ?_
    refine xcV_Z (md' := false) (As := [gI x1]) (st := []) d_Rd_typed_8 ca_Rd_isPrintable ml_Rd_32 im_Rd_isPrintable se_Rd_isPrintable gc_Rd (gl_1 hX 14) (gl_2 hX (a := 14) (by decide)) (gl_s hX 14 rfl) rfl (by decide) (by decide) rfl id id T (fun v2 M1 h3 T => ?_)
    refine xz_ne (tgt := 16) d_Rd_typed_11 (by decide) (w32_id (g32_z h3)) (fun h9 => ?_) (fun h9 => ?_)
    · have T := T.1 h9
      refine wp_aload_n d_Rd_typed_16 rfl rfl (g_nz (gl_1 hX 14)) ?_
      refine xgetR d_Rd_typed_17 gc_Rd f_Rd_15.1 f_Rd_15.2.1 f_Rd_15.2.2.1 (gl_1 hX 14) (gl_2 hX (a := 14) (by decide)) (gl_s hX 14 rfl) f_Rd_15.2.2.2.2.1 (gl_f hX 15 rfl) ?_
      refine wp_iconst d_Rd_typed_20 ?_
      refine wp_iload_n d_Rd_typed_21 rfl rfl ?_
      refine xcS_Z (md' := false) (As := [gR G (c + 1), gI 0, gI x1]) (st := []) d_Rd_typed_22 ca_Vl_isNumber ml_Rd_36 sm_Vl_isNumber rfl (by decide) (by decide) rfl id id T (fun v5 M4 h6 T => ?_)
      refine wp_istore_n (L' := [.val (gR G (c + 14)), .val (gI x1), .val (gI v5), .unset, .unset]) d_Rd_typed_25 rfl (by decide) rfl ?_
      refine wp_aload_n d_Rd_typed_26 rfl rfl (g_nz (gl_1 hX 14)) ?_
      refine xgetR d_Rd_typed_27 gc_Rd f_Rd_15.1 f_Rd_15.2.1 f_Rd_15.2.2.1 (gl_1 hX 14) (gl_2 hX (a := 14) (by decide)) (gl_s hX 14 rfl) f_Rd_15.2.2.2.2.1 (gl_f hX 15 rfl) ?_
      refine wp_iconst d_Rd_typed_30 ?_
      refine wp_baload d_Rd_typed_31 (gl_1 hX 1) (gl_2 hX (a := 1) (by decide)) (gl_s hX 1 rfl) (g32_n T.1 (by decide)) T.1.1 T.1.2 (fun h7 => ?_)
      have T := T.2 h7
      refine wp_bipush d_Rd_typed_32 ⟨by decide, by decide⟩ ?_
      refine xi_ne (tgt := 41) d_Rd_typed_34 (by decide) (w32_id (g32_b h7)) (w32_id (g32_c (x := 61) rfl)) (fun h8 => ?_) (fun h8 => ?_)
      · have T := T.1 h8
        refine wp_iconst d_Rd_typed_41 ?_
        exact wp_md (wpt T (And.intro rfl (And.intro rfl (And.intro rfl True.intro))))
      · have T := T.2 h8
        refine wp_iconst d_Rd_typed_37 ?_
        refine wp_goto (tgt := 42) d_Rd_typed_38 (by decide) ?_
        exact wp_md (wpt T (And.intro rfl (And.intro rfl (And.intro rfl True.intro))))
    · have T := T.2 h9
      refine wp_iconst d_Rd_typed_14 ?_
      exact wp_ireturn d_Rd_typed_15 rfl (fun _ => rfl) (Nat.zero_le _) (Nat.zero_le _) (kI_mk (g32_c (x := (-1)) rfl) T)
  · have T := T.2 h10
    refine wp_iconst d_Rd_typed_4 ?_
    exact wp_ireturn d_Rd_typed_5 rfl (fun _ => rfl) (Nat.zero_le _) (Nat.zero_le _) (kI_mk (g32_c (x := 0) rfl) T)
theorem e_Rd_typed {l : Launch} {G : gG} {d : Nat} {X : gX} {M : gM} {k : Int → gM → Prop} {c : Nat} {x1 : Int} (T : wp l G y_Rd_typed (gRm (d + 1)) true (kkI X k) false 0 [.val (gR G (c + 14)), .val (gI x1), .unset, .unset, .unset] [] X M 0 0) : cI l G y_Rd_typed (gRm (d + 1)) true [gR G (c + 14), gI x1] X M k := cen_I (plainFor_of_name rfl) (by simp only [lg_sl_R, lg_sl_I, lg_sl_L, lg_sl_N, List.length_cons, List.length_nil]; decide) (by unfold gEn; simp only [lg_sl_R, lg_sl_I, lg_sl_L, lg_sl_N]; exact wpt T (And.intro rfl (And.intro rfl True.intro)))
