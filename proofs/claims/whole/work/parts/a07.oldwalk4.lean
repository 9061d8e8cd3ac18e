/-! Walks over Work and strings, written by wip/whole/gen_more.py -/
theorem d_Tk_wordKind_0 : decode prog_11_method_5_code 0 = .ok (.aload_n 0, 1) := by decide +kernel
theorem d_Tk_wordKind_1 : decode prog_11_method_5_code 1 = .ok (.getfield 24, 3) := by decide +kernel
theorem d_Tk_wordKind_4 : decode prog_11_method_5_code 4 = .ok (.iload_n 1, 1) := by decide +kernel
theorem d_Tk_wordKind_5 : decode prog_11_method_5_code 5 = .ok (.iload_n 2, 1) := by decide +kernel
theorem d_Tk_wordKind_6 : decode prog_11_method_5_code 6 = .ok (.invokestatic 52, 3) := by decide +kernel
theorem d_Tk_wordKind_9 : decode prog_11_method_5_code 9 = .ok (.ifCond .eq 6, 3) := by decide +kernel
theorem d_Tk_wordKind_15 : decode prog_11_method_5_code 15 = .ok (.aload_n 0, 1) := by decide +kernel
theorem d_Tk_wordKind_16 : decode prog_11_method_5_code 16 = .ok (.iload_n 1, 1) := by decide +kernel
theorem d_Tk_wordKind_17 : decode prog_11_method_5_code 17 = .ok (.iload_n 2, 1) := by decide +kernel
theorem d_Tk_wordKind_18 : decode prog_11_method_5_code 18 = .ok (.invokevirtual 58, 3) := by decide +kernel
theorem d_Tk_wordKind_21 : decode prog_11_method_5_code 21 = .ok (.ifCond .ne 6, 3) := by decide +kernel
theorem d_Tk_wordKind_27 : decode prog_11_method_5_code 27 = .ok (.aload_n 0, 1) := by decide +kernel
theorem d_Tk_wordKind_28 : decode prog_11_method_5_code 28 = .ok (.iload_n 1, 1) := by decide +kernel
theorem d_Tk_wordKind_29 : decode prog_11_method_5_code 29 = .ok (.iload_n 2, 1) := by decide +kernel
theorem d_Tk_wordKind_30 : decode prog_11_method_5_code 30 = .ok (.ldc 62, 2) := by decide +kernel
theorem d_Tk_wordKind_32 : decode prog_11_method_5_code 32 = .ok (.invokevirtual 64, 3) := by decide +kernel
theorem d_Tk_wordKind_35 : decode prog_11_method_5_code 35 = .ok (.ifCond .eq 6, 3) := by decide +kernel
theorem d_Tk_wordKind_41 : decode prog_11_method_5_code 41 = .ok (.aload_n 0, 1) := by decide +kernel
theorem d_Tk_wordKind_42 : decode prog_11_method_5_code 42 = .ok (.iload_n 1, 1) := by decide +kernel
theorem d_Tk_wordKind_43 : decode prog_11_method_5_code 43 = .ok (.iload_n 2, 1) := by decide +kernel
theorem d_Tk_wordKind_44 : decode prog_11_method_5_code 44 = .ok (.ldc 68, 2) := by decide +kernel
theorem d_Tk_wordKind_46 : decode prog_11_method_5_code 46 = .ok (.invokevirtual 64, 3) := by decide +kernel
theorem d_Tk_wordKind_49 : decode prog_11_method_5_code 49 = .ok (.ifCond .eq 8, 3) := by decide +kernel
theorem d_Tk_wordKind_57 : decode prog_11_method_5_code 57 = .ok (.bipush 20, 2) := by decide +kernel
theorem d_Tk_wordKind_59 : decode prog_11_method_5_code 59 = .ok (.ireturn, 1) := by decide +kernel
theorem d_Tk_wordKind_52 : decode prog_11_method_5_code 52 = .ok (.bipush 22, 2) := by decide +kernel
theorem d_Tk_wordKind_54 : decode prog_11_method_5_code 54 = .ok (.goto 5, 3) := by decide +kernel
theorem d_Tk_wordKind_38 : decode prog_11_method_5_code 38 = .ok (.bipush 21, 2) := by decide +kernel
theorem d_Tk_wordKind_40 : decode prog_11_method_5_code 40 = .ok (.ireturn, 1) := by decide +kernel
theorem d_Tk_wordKind_24 : decode prog_11_method_5_code 24 = .ok (.bipush 24, 2) := by decide +kernel
theorem d_Tk_wordKind_26 : decode prog_11_method_5_code 26 = .ok (.ireturn, 1) := by decide +kernel
theorem d_Tk_wordKind_12 : decode prog_11_method_5_code 12 = .ok (.bipush 17, 2) := by decide +kernel
theorem d_Tk_wordKind_14 : decode prog_11_method_5_code 14 = .ok (.ireturn, 1) := by decide +kernel
set_option maxHeartbeats 4000000 in
theorem w_Tk_wordKind_0 {l : Launch} {G : gG} {d : Nat} {X : gX} {M : gM} {k : Int → gM → Prop} {c : Nat} (hX : glX X c) {Q : gQ} (hO : gOld G Q) {x1 : Int} (hx1 : g32 x1) {x2 : Int} (hx2 : g32 x2)  (T : cZ l G y_Vl_isNumber (gRm d) false [gR G (c + 1), gI x1, gI x2] X M (fun v2 M1 => ((v2 = 0 → (cZ l G y_Tk_isName (gRm d) false [gR G (c + 16), gI x1, gI x2] X M1 (fun v5 M4 => ((¬ v5 = 0 → (cZ l G y_Tk_spells (gRm d) false [gR G (c + 16), gI x1, gI x2, .ref (Q.2.1 0)] X M4 (fun v8 M7 => ((v8 = 0 → (cZ l G y_Tk_spells (gRm d) false [gR G (c + 16), gI x1, gI x2, .ref (Q.2.1 1)] X M7 (fun v11 M10 => ((v11 = 0 → (k 20 M10)) ∧ (¬ v11 = 0 → (k 22 M10)))))) ∧ (¬ v8 = 0 → (k 21 M7)))))) ∧ (v5 = 0 → (k 24 M4)))))) ∧ (¬ v2 = 0 → (k 17 M1))))) : wp l G y_Tk_wordKind (gRm (d + 1)) false (kkI X k) false 0 [.val (gR G (c + 16)), .val (gI x1), .val (gI x2)] [] X M 0 0 := by
  refine wp_aload_n d_Tk_wordKind_0 rfl rfl (g_nz (gl_1 hX 16)) ?_
  refine xgetR d_Tk_wordKind_1 gc_Tk f_Tk_24.1 f_Tk_24.2.1 f_Tk_24.2.2.1 (gl_1 hX 16) (gl_2 hX (a := 16) (by decide)) (gl_s hX 16 rfl) f_Tk_24.2.2.2.2.1 (gl_f hX 22 rfl) ?_
  refine wp_iload_n d_Tk_wordKind_4 rfl rfl ?_
  refine wp_iload_n d_Tk_wordKind_5 rfl rfl ?_
  refine xcS_Z (md' := false) (As := [gR G (c + 1), gI x1, gI x2]) (st := []) d_Tk_wordKind_6 ca_Vl_isNumber ml_Tk_52 sm_Vl_isNumber rfl (by decide) (by decide) rfl id id T (fun v2 M1 h3 T => ?_)
  refine xz_eq (tgt := 15) d_Tk_wordKind_9 (by decide) (w32_id (g32_z h3)) (fun h16 => ?_) (fun h16 => ?_)
  · have T := T.1 h16
    refine wp_aload_n d_Tk_wordKind_15 rfl rfl (g_nz (gl_1 hX 16)) ?_
    refine wp_iload_n d_Tk_wordKind_16 rfl rfl ?_
    refine wp_iload_n d_Tk_wordKind_17 rfl rfl ?_
    refine xcV_Z (md' := false) (As := [gI x1, gI x2]) (st := []) d_Tk_wordKind_18 ca_Tk_isName ml_Tk_58 im_Tk_isName se_Tk_isName gc_Tk (gl_1 hX 16) (gl_2 hX (a := 16) (by decide)) (gl_s hX 16 rfl) rfl (by decide) (by decide) rfl id id T (fun v5 M4 h6 T => ?_)
    refine xz_ne (tgt := 27) d_Tk_wordKind_21 (by decide) (w32_id (g32_z h6)) (fun h15 => ?_) (fun h15 => ?_)
    · have T := T.1 h15
      refine wp_aload_n d_Tk_wordKind_27 rfl rfl (g_nz (gl_1 hX 16)) ?_
      refine wp_iload_n d_Tk_wordKind_28 rfl rfl ?_
      refine wp_iload_n d_Tk_wordKind_29 rfl rfl ?_
      refine wp_ldcS d_Tk_wordKind_30 (fun U hU => ((hO U hU).2.1 0 (by decide)).2.2.2.2 ("GridLedger$Tokens", 62, "TRUE") rfl) ?_
      refine xcV_Z (md' := false) (As := [gI x1, gI x2, .ref (Q.2.1 0)]) (st := []) d_Tk_wordKind_32 ca_Tk_spells ml_Tk_64 im_Tk_spells se_Tk_spells gc_Tk (gl_1 hX 16) (gl_2 hX (a := 16) (by decide)) (gl_s hX 16 rfl) rfl (by decide) (by decide) rfl id id T (fun v8 M7 h9 T => ?_)
      refine xz_eq (tgt := 41) d_Tk_wordKind_35 (by decide) (w32_id (g32_z h9)) (fun h14 => ?_) (fun h14 => ?_)
      · have T := T.1 h14
        refine wp_aload_n d_Tk_wordKind_41 rfl rfl (g_nz (gl_1 hX 16)) ?_
        refine wp_iload_n d_Tk_wordKind_42 rfl rfl ?_
        refine wp_iload_n d_Tk_wordKind_43 rfl rfl ?_
        refine wp_ldcS d_Tk_wordKind_44 (fun U hU => ((hO U hU).2.1 1 (by decide)).2.2.2.2 ("GridLedger$Tokens", 68, "FALSE") rfl) ?_
        refine xcV_Z (md' := false) (As := [gI x1, gI x2, .ref (Q.2.1 1)]) (st := []) d_Tk_wordKind_46 ca_Tk_spells ml_Tk_64 im_Tk_spells se_Tk_spells gc_Tk (gl_1 hX 16) (gl_2 hX (a := 16) (by decide)) (gl_s hX 16 rfl) rfl (by decide) (by decide) rfl id id T (fun v11 M10 h12 T => ?_)
        refine xz_eq (tgt := 57) d_Tk_wordKind_49 (by decide) (w32_id (g32_z h12)) (fun h13 => ?_) (fun h13 => ?_)
        · have T := T.1 h13
          refine wp_bipush d_Tk_wordKind_57 ⟨by decide, by decide⟩ ?_
          exact wp_ireturn d_Tk_wordKind_59 rfl id (Nat.zero_le _) (Nat.zero_le _) (kI_mk (g32_c (x := 20) rfl) T)
        · have T := T.2 h13
          refine wp_bipush d_Tk_wordKind_52 ⟨by decide, by decide⟩ ?_
          refine wp_goto (tgt := 59) d_Tk_wordKind_54 (by decide) ?_
          exact wp_ireturn d_Tk_wordKind_59 rfl id (Nat.zero_le _) (Nat.zero_le _) (kI_mk (g32_c (x := 22) rfl) T)
      · have T := T.2 h14
        refine wp_bipush d_Tk_wordKind_38 ⟨by decide, by decide⟩ ?_
        exact wp_ireturn d_Tk_wordKind_40 rfl id (Nat.zero_le _) (Nat.zero_le _) (kI_mk (g32_c (x := 21) rfl) T)
    · have T := T.2 h15
      refine wp_bipush d_Tk_wordKind_24 ⟨by decide, by decide⟩ ?_
      exact wp_ireturn d_Tk_wordKind_26 rfl id (Nat.zero_le _) (Nat.zero_le _) (kI_mk (g32_c (x := 24) rfl) T)
  · have T := T.2 h16
    refine wp_bipush d_Tk_wordKind_12 ⟨by decide, by decide⟩ ?_
    exact wp_ireturn d_Tk_wordKind_14 rfl id (Nat.zero_le _) (Nat.zero_le _) (kI_mk (g32_c (x := 17) rfl) T)
theorem e_Tk_wordKind {l : Launch} {G : gG} {d : Nat} {X : gX} {M : gM} {k : Int → gM → Prop} {Q : gQ} {c : Nat} {x1 : Int} {x2 : Int} (T : wp l G y_Tk_wordKind (gRm (d + 1)) false (kkI X k) false 0 [.val (gR G (c + 16)), .val (gI x1), .val (gI x2)] [] X M 0 0) : cI l G y_Tk_wordKind (gRm (d + 1)) false [gR G (c + 16), gI x1, gI x2] X M k := cen_I (plainFor_of_name rfl) (by simp only [lg_sl_R, lg_sl_I, lg_sl_L, lg_sl_N, List.length_cons, List.length_nil]; decide) (by unfold gEn; simp only [lg_sl_R, lg_sl_I, lg_sl_L, lg_sl_N]; exact wpt T (And.intro rfl (And.intro rfl (And.intro rfl True.intro))))
theorem d_Tk_spells_0 : decode prog_11_method_11_code 0 = .ok (.iload_n 2, 1) := by decide +kernel
theorem d_Tk_spells_1 : decode prog_11_method_11_code 1 = .ok (.iload_n 1, 1) := by decide +kernel
theorem d_Tk_spells_2 : decode prog_11_method_11_code 2 = .ok (.isub, 1) := by decide +kernel
theorem d_Tk_spells_3 : decode prog_11_method_11_code 3 = .ok (.aload_n 3, 1) := by decide +kernel
theorem d_Tk_spells_4 : decode prog_11_method_11_code 4 = .ok (.invokevirtual 77, 3) := by decide +kernel
theorem d_Tk_spells_7 : decode prog_11_method_11_code 7 = .ok (.if_icmp .ne 7, 3) := by decide +kernel
theorem d_Tk_spells_14 : decode prog_11_method_11_code 14 = .ok (.iconst 0, 1) := by decide +kernel
theorem d_Tk_spells_15 : decode prog_11_method_11_code 15 = .ok (.istore 4, 2) := by decide +kernel
theorem d_Tk_spells_17 : decode prog_11_method_11_code 17 = .ok (.iconst 0, 1) := by decide +kernel
theorem d_Tk_spells_18 : decode prog_11_method_11_code 18 = .ok (.istore 5, 2) := by decide +kernel
theorem d_Tk_spells_10 : decode prog_11_method_11_code 10 = .ok (.iconst 1, 1) := by decide +kernel
theorem d_Tk_spells_11 : decode prog_11_method_11_code 11 = .ok (.goto 4, 3) := by decide +kernel
theorem d_Tk_spells_20 : decode prog_11_method_11_code 20 = .ok (.iload 4, 2) := by decide +kernel
theorem d_Tk_spells_22 : decode prog_11_method_11_code 22 = .ok (.ifCond .eq 43, 3) := by decide +kernel
theorem d_Tk_spells_65 : decode prog_11_method_11_code 65 = .ok (.iload 4, 2) := by decide +kernel
theorem d_Tk_spells_67 : decode prog_11_method_11_code 67 = .ok (.ireturn, 1) := by decide +kernel
theorem d_Tk_spells_25 : decode prog_11_method_11_code 25 = .ok (.iload 5, 2) := by decide +kernel
theorem d_Tk_spells_27 : decode prog_11_method_11_code 27 = .ok (.aload_n 3, 1) := by decide +kernel
theorem d_Tk_spells_28 : decode prog_11_method_11_code 28 = .ok (.invokevirtual 77, 3) := by decide +kernel
theorem d_Tk_spells_31 : decode prog_11_method_11_code 31 = .ok (.if_icmp .ge 34, 3) := by decide +kernel
theorem d_Tk_spells_34 : decode prog_11_method_11_code 34 = .ok (.aload_n 0, 1) := by decide +kernel
theorem d_Tk_spells_35 : decode prog_11_method_11_code 35 = .ok (.getfield 24, 3) := by decide +kernel
theorem d_Tk_spells_38 : decode prog_11_method_11_code 38 = .ok (.iload_n 1, 1) := by decide +kernel
theorem d_Tk_spells_39 : decode prog_11_method_11_code 39 = .ok (.iload 5, 2) := by decide +kernel
theorem d_Tk_spells_41 : decode prog_11_method_11_code 41 = .ok (.iadd, 1) := by decide +kernel
theorem d_Tk_spells_42 : decode prog_11_method_11_code 42 = .ok (.baload, 1) := by decide +kernel
theorem d_Tk_spells_43 : decode prog_11_method_11_code 43 = .ok (.aload_n 3, 1) := by decide +kernel
theorem d_Tk_spells_44 : decode prog_11_method_11_code 44 = .ok (.iload 5, 2) := by decide +kernel
theorem d_Tk_spells_46 : decode prog_11_method_11_code 46 = .ok (.invokevirtual 83, 3) := by decide +kernel
theorem d_Tk_spells_49 : decode prog_11_method_11_code 49 = .ok (.if_icmp .ne 7, 3) := by decide +kernel
theorem d_Tk_spells_56 : decode prog_11_method_11_code 56 = .ok (.iconst 0, 1) := by decide +kernel
theorem d_Tk_spells_57 : decode prog_11_method_11_code 57 = .ok (.istore 4, 2) := by decide +kernel
theorem d_Tk_spells_59 : decode prog_11_method_11_code 59 = .ok (.iinc 5 1, 3) := by decide +kernel
theorem d_Tk_spells_62 : decode prog_11_method_11_code 62 = .ok (.goto (-42), 3) := by decide +kernel
theorem d_Tk_spells_52 : decode prog_11_method_11_code 52 = .ok (.iconst 1, 1) := by decide +kernel
theorem d_Tk_spells_53 : decode prog_11_method_11_code 53 = .ok (.goto 4, 3) := by decide +kernel
set_option maxHeartbeats 4000000 in
theorem w_Tk_spells_0 {l : Launch} {G : gG} {d : Nat} {X : gX} {M : gM} {k : Int → gM → Prop} {c : Nat} (hX : glX X c) {Q : gQ} (hO : gOld G Q) {x1 : Int} (hx1 : g32 x1) {x2 : Int} (hx2 : g32 x2) {t3 : Nat} (ht3 : t3 < 66)  (T : (¬ (w32 (x2 - x1)) = (gSl t3 : Int) → (wp l G y_Tk_spells (gRm (d + 5)) false (kkZ X k) false 20 [.val (gR G (c + 16)), .val (gI x1), .unset, .val (.ref (Q.2.1 t3)), .val (gI 0), .val (gI 0)] [] X M 0 0)) ∧ ((w32 (x2 - x1)) = (gSl t3 : Int) → (wp l G y_Tk_spells (gRm (d + 5)) false (kkZ X k) false 20 [.val (gR G (c + 16)), .val (gI x1), .unset, .val (.ref (Q.2.1 t3)), .val (gI 1), .val (gI 0)] [] X M 0 0))) : wp l G y_Tk_spells (gRm (d + 5)) false (kkZ X k) false 0 [.val (gR G (c + 16)), .val (gI x1), .val (gI x2), .val (.ref (Q.2.1 t3)), .unset, .unset] [] X M 0 0 := by
  refine wp_iload_n d_Tk_spells_0 rfl rfl ?_
  refine wp_iload_n d_Tk_spells_1 rfl rfl ?_
  refine wp_isub d_Tk_spells_2 ?_
  refine wp_aloadO_n d_Tk_spells_3 rfl rfl ?_
  refine xo_len hO ht3 d_Tk_spells_4 ml_Tk_77 (by simp only [List.map, gR_cat, gI_cat, gL_cat, g_rcat, List.sum_cons, List.sum_nil]; decide) ?_
  refine xi_ne (tgt := 14) d_Tk_spells_7 (by decide) rfl (w32_id (g32_h4 (gSl_ok ht3))) (fun h1 => ?_) (fun h1 => ?_)
  · have T := T.1 h1
    refine wp_iconst d_Tk_spells_14 ?_
    refine wp_istore (L' := [.val (gR G (c + 16)), .val (gI x1), .val (gI x2), .val (.ref (Q.2.1 t3)), .val (gI 0), .unset]) d_Tk_spells_15 (by decide) rfl ?_
    refine wp_iconst d_Tk_spells_17 ?_
    refine wp_istore (L' := [.val (gR G (c + 16)), .val (gI x1), .val (gI x2), .val (.ref (Q.2.1 t3)), .val (gI 0), .val (gI 0)]) d_Tk_spells_18 (by decide) rfl ?_
    exact (wpt T (And.intro rfl (And.intro rfl (And.intro rfl (And.intro rfl (And.intro rfl True.intro))))))
  · have T := T.2 h1
    refine wp_iconst d_Tk_spells_10 ?_
    refine wp_goto (tgt := 15) d_Tk_spells_11 (by decide) ?_
    refine wp_istore (L' := [.val (gR G (c + 16)), .val (gI x1), .val (gI x2), .val (.ref (Q.2.1 t3)), .val (gI 1), .unset]) d_Tk_spells_15 (by decide) rfl ?_
    refine wp_iconst d_Tk_spells_17 ?_
    refine wp_istore (L' := [.val (gR G (c + 16)), .val (gI x1), .val (gI x2), .val (.ref (Q.2.1 t3)), .val (gI 1), .val (gI 0)]) d_Tk_spells_18 (by decide) rfl ?_
    exact (wpt T (And.intro rfl (And.intro rfl (And.intro rfl (And.intro rfl (And.intro rfl True.intro))))))
set_option maxHeartbeats 4000000 in
theorem w_Tk_spells_20 {l : Launch} {G : gG} {d : Nat} {X : gX} {M : gM} {k : Int → gM → Prop} {c : Nat} (hX : glX X c) {Q : gQ} (hO : gOld G Q) {x1 : Int} (hx1 : g32 x1) {x4 : Int} (hx4 : g32 x4) {x5 : Int} (hx5 : g32 x5)  {t3 : Nat} (ht3 : t3 < 66) (T : (x4 = 0 → ((0 ≤ x4 ∧ x4 ≤ 1) ∧ k x4 M)) ∧ (¬ x4 = 0 → (((gSl t3 : Int) ≤ x5 → ((0 ≤ x4 ∧ x4 ≤ 1) ∧ k x4 M)) ∧ (¬ (gSl t3 : Int) ≤ x5 → (((0 : Int) ≤ x1 + x5 ∧ x1 + x5 < 240) ∧ ((-128 ≤ M (c + 1) (Int.toNat (x1 + x5)) ∧ M (c + 1) (Int.toNat (x1 + x5)) < 128) → (((0 : Int) ≤ x5 ∧ x5 < (gSl t3 : Int)) ∧ ((¬ M (c + 1) (Int.toNat (x1 + x5)) = gSc t3 (Int.toNat x5) → (wp l G y_Tk_spells (gRm (d + 5)) false (kkZ X k) false 20 [.val (gR G (c + 16)), .val (gI x1), .unset, .val (.ref (Q.2.1 t3)), .val (gI 0), .val (gI (w32 (x5 + 1)))] [] X M 0 0)) ∧ (M (c + 1) (Int.toNat (x1 + x5)) = gSc t3 (Int.toNat x5) → (wp l G y_Tk_spells (gRm (d + 5)) false (kkZ X k) false 20 [.val (gR G (c + 16)), .val (gI x1), .unset, .val (.ref (Q.2.1 t3)), .val (gI 1), .val (gI (w32 (x5 + 1)))] [] X M 0 0)))))))))) : wp l G y_Tk_spells (gRm (d + 5)) false (kkZ X k) false 20 [.val (gR G (c + 16)), .val (gI x1), .unset, .val (.ref (Q.2.1 t3)), .val (gI x4), .val (gI x5)] [] X M 0 0 := by
  refine wp_iload d_Tk_spells_20 rfl ?_
  refine xz_eq (tgt := 65) d_Tk_spells_22 (by decide) (w32_id hx4) (fun h6 => ?_) (fun h6 => ?_)
  · have T := T.1 h6
    refine wp_iload d_Tk_spells_65 rfl ?_
    exact wp_zreturn d_Tk_spells_67 rfl (g_narz T.1) id (Nat.zero_le _) (Nat.zero_le _) (kZ_mk T.1 T.2)
  · have T := T.2 h6
    refine wp_iload d_Tk_spells_25 rfl ?_
    refine wp_aloadO_n d_Tk_spells_27 rfl rfl ?_
    refine xo_len hO ht3 d_Tk_spells_28 ml_Tk_77 (by simp only [List.map, gR_cat, gI_cat, gL_cat, g_rcat, List.sum_cons, List.sum_nil]; decide) ?_
    refine xi_ge (tgt := 65) d_Tk_spells_31 (by decide) (w32_id hx5) (w32_id (g32_h4 (gSl_ok ht3))) (fun h5 => ?_) (fun h5 => ?_)
    · have T := T.1 h5
      refine wp_iload d_Tk_spells_65 rfl ?_
      exact wp_zreturn d_Tk_spells_67 rfl (g_narz T.1) id (Nat.zero_le _) (Nat.zero_le _) (kZ_mk T.1 T.2)
    · have T := T.2 h5
      refine wp_aload_n d_Tk_spells_34 rfl rfl (g_nz (gl_1 hX 16)) ?_
      refine xgetR d_Tk_spells_35 gc_Tk f_Tk_24.1 f_Tk_24.2.1 f_Tk_24.2.2.1 (gl_1 hX 16) (gl_2 hX (a := 16) (by decide)) (gl_s hX 16 rfl) f_Tk_24.2.2.2.2.1 (gl_f hX 22 rfl) ?_
      refine wp_iload_n d_Tk_spells_38 rfl rfl ?_
      refine wp_iload d_Tk_spells_39 rfl ?_
      refine wp_iadd d_Tk_spells_41 ?_
      refine wp_baload d_Tk_spells_42 (gl_1 hX 1) (gl_2 hX (a := 1) (by decide)) (gl_s hX 1 rfl) (g32_n T.1 (by decide)) T.1.1 T.1.2 (fun h2 => ?_)
      have T := T.2 h2
      refine wp_aloadO_n d_Tk_spells_43 rfl rfl ?_
      refine wp_iload d_Tk_spells_44 rfl ?_
      have q3 := T.1
      have T := T.2
      refine xo_chr hO ht3 d_Tk_spells_46 ml_Tk_83 (by simp only [List.map, gR_cat, gI_cat, gL_cat, g_rcat, List.sum_cons, List.sum_nil]; decide) (w32_id hx5) q3 ?_
      refine xi_ne (tgt := 56) d_Tk_spells_49 (by decide) (w32_id (g32_b h2)) (w32_id (g32_h (gSc_ok ht3 _))) (fun h4 => ?_) (fun h4 => ?_)
      · have T := T.1 h4
        refine wp_iconst d_Tk_spells_56 ?_
        refine wp_istore (L' := [.val (gR G (c + 16)), .val (gI x1), .unset, .val (.ref (Q.2.1 t3)), .val (gI 0), .val (gI x5)]) d_Tk_spells_57 (by decide) rfl ?_
        refine wp_iinc (L' := [.val (gR G (c + 16)), .val (gI x1), .unset, .val (.ref (Q.2.1 t3)), .val (gI 0), .val (gI (x5 + 1))]) d_Tk_spells_59 rfl (by decide) rfl ?_
        refine wp_goto (tgt := 20) d_Tk_spells_62 (by decide) ?_
        exact (wpt T (And.intro rfl (And.intro rfl (And.intro rfl (And.intro rfl (And.intro (gI_w _) True.intro))))))
      · have T := T.2 h4
        refine wp_iconst d_Tk_spells_52 ?_
        refine wp_goto (tgt := 57) d_Tk_spells_53 (by decide) ?_
        refine wp_istore (L' := [.val (gR G (c + 16)), .val (gI x1), .unset, .val (.ref (Q.2.1 t3)), .val (gI 1), .val (gI x5)]) d_Tk_spells_57 (by decide) rfl ?_
        refine wp_iinc (L' := [.val (gR G (c + 16)), .val (gI x1), .unset, .val (.ref (Q.2.1 t3)), .val (gI 1), .val (gI (x5 + 1))]) d_Tk_spells_59 rfl (by decide) rfl ?_
        refine wp_goto (tgt := 20) d_Tk_spells_62 (by decide) ?_
        exact (wpt T (And.intro rfl (And.intro rfl (And.intro rfl (And.intro rfl (And.intro (gI_w _) True.intro))))))
theorem e_Tk_spells {l : Launch} {G : gG} {d : Nat} {X : gX} {M : gM} {k : Int → gM → Prop} {Q : gQ} {c : Nat} {x1 : Int} {x2 : Int} {t3 : Nat} (T : wp l G y_Tk_spells (gRm (d + 5)) false (kkZ X k) false 0 [.val (gR G (c + 16)), .val (gI x1), .val (gI x2), .val (.ref (Q.2.1 t3)), .unset, .unset] [] X M 0 0) : cZ l G y_Tk_spells (gRm (d + 5)) false [gR G (c + 16), gI x1, gI x2, .ref (Q.2.1 t3)] X M k := cen_Z (plainFor_of_name rfl) (by simp only [lg_sl_R, lg_sl_I, lg_sl_L, lg_sl_O, lg_sl_N, List.length_cons, List.length_nil]; decide) (by unfold gEn; simp only [lg_sl_R, lg_sl_I, lg_sl_L, lg_sl_O, lg_sl_N]; exact wpt T (And.intro rfl (And.intro rfl (And.intro rfl (And.intro rfl True.intro)))))
theorem d_Tk_workOf_0 : decode prog_11_method_15_code 0 = .ok (.bipush 14, 2) := by decide +kernel
theorem d_Tk_workOf_2 : decode prog_11_method_15_code 2 = .ok (.istore_n 2, 1) := by decide +kernel
theorem d_Tk_workOf_3 : decode prog_11_method_15_code 3 = .ok (.iload_n 2, 1) := by decide +kernel
theorem d_Tk_workOf_4 : decode prog_11_method_15_code 4 = .ok (.getstatic 95, 3) := by decide +kernel
theorem d_Tk_workOf_7 : decode prog_11_method_15_code 7 = .ok (.arraylength, 1) := by decide +kernel
theorem d_Tk_workOf_8 : decode prog_11_method_15_code 8 = .ok (.if_icmp .ge 38, 3) := by decide +kernel
theorem d_Tk_workOf_46 : decode prog_11_method_15_code 46 = .ok (.iconst (-1), 1) := by decide +kernel
theorem d_Tk_workOf_47 : decode prog_11_method_15_code 47 = .ok (.ireturn, 1) := by decide +kernel
theorem d_Tk_workOf_11 : decode prog_11_method_15_code 11 = .ok (.aload_n 0, 1) := by decide +kernel
theorem d_Tk_workOf_12 : decode prog_11_method_15_code 12 = .ok (.aload_n 0, 1) := by decide +kernel
theorem d_Tk_workOf_13 : decode prog_11_method_15_code 13 = .ok (.getfield 15, 3) := by decide +kernel
theorem d_Tk_workOf_16 : decode prog_11_method_15_code 16 = .ok (.iload_n 1, 1) := by decide +kernel
theorem d_Tk_workOf_17 : decode prog_11_method_15_code 17 = .ok (.iaload, 1) := by decide +kernel
theorem d_Tk_workOf_18 : decode prog_11_method_15_code 18 = .ok (.aload_n 0, 1) := by decide +kernel
theorem d_Tk_workOf_19 : decode prog_11_method_15_code 19 = .ok (.getfield 18, 3) := by decide +kernel
theorem d_Tk_workOf_22 : decode prog_11_method_15_code 22 = .ok (.iload_n 1, 1) := by decide +kernel
theorem d_Tk_workOf_23 : decode prog_11_method_15_code 23 = .ok (.iaload, 1) := by decide +kernel
theorem d_Tk_workOf_24 : decode prog_11_method_15_code 24 = .ok (.getstatic 95, 3) := by decide +kernel
theorem d_Tk_workOf_27 : decode prog_11_method_15_code 27 = .ok (.iload_n 2, 1) := by decide +kernel
theorem d_Tk_workOf_28 : decode prog_11_method_15_code 28 = .ok (.aaload, 1) := by decide +kernel
theorem d_Tk_workOf_29 : decode prog_11_method_15_code 29 = .ok (.getfield 99, 3) := by decide +kernel
theorem d_Tk_workOf_32 : decode prog_11_method_15_code 32 = .ok (.invokevirtual 64, 3) := by decide +kernel
theorem d_Tk_workOf_35 : decode prog_11_method_15_code 35 = .ok (.ifCond .eq 5, 3) := by decide +kernel
theorem d_Tk_workOf_40 : decode prog_11_method_15_code 40 = .ok (.iinc 2 1, 3) := by decide +kernel
theorem d_Tk_workOf_43 : decode prog_11_method_15_code 43 = .ok (.goto (-40), 3) := by decide +kernel
theorem d_Tk_workOf_38 : decode prog_11_method_15_code 38 = .ok (.iload_n 2, 1) := by decide +kernel
theorem d_Tk_workOf_39 : decode prog_11_method_15_code 39 = .ok (.ireturn, 1) := by decide +kernel
set_option maxHeartbeats 4000000 in
theorem w_Tk_workOf_0 {l : Launch} {G : gG} {d : Nat} {X : gX} {M : gM} {k : Int → gM → Prop} {c : Nat} (hX : glX X c) {Q : gQ} (hO : gOld G Q) {x1 : Int} (hx1 : g32 x1)  (T : wp l G y_Tk_workOf (gRm (d + 1)) false (kkI X k) false 3 [.val (gR G (c + 16)), .val (gI x1), .val (gI 14)] [] X M 0 0) : wp l G y_Tk_workOf (gRm (d + 1)) false (kkI X k) false 0 [.val (gR G (c + 16)), .val (gI x1), .unset] [] X M 0 0 := by
  refine wp_bipush d_Tk_workOf_0 ⟨by decide, by decide⟩ ?_
  refine wp_istore_n (L' := [.val (gR G (c + 16)), .val (gI x1), .val (gI 14)]) d_Tk_workOf_2 rfl (by decide) rfl ?_
  exact (wpt T (And.intro rfl (And.intro rfl (And.intro rfl True.intro))))
set_option maxHeartbeats 4000000 in
theorem w_Tk_workOf_3 {l : Launch} {G : gG} {d : Nat} {X : gX} {M : gM} {k : Int → gM → Prop} {c : Nat} (hX : glX X c) {Q : gQ} (hO : gOld G Q) {x1 : Int} (hx1 : g32 x1) {x2 : Int} (hx2 : g32 x2)  (T : (52 ≤ x2 → (k (-1) M)) ∧ (¬ 52 ≤ x2 → (((0 : Int) ≤ x1 ∧ x1 < 104) ∧ (g32 (M (c + 18) (Int.toNat x1)) → (((0 : Int) ≤ x1 ∧ x1 < 104) ∧ (g32 (M (c + 19) (Int.toNat x1)) → (((0 : Int) ≤ x2 ∧ x2 < 52) ∧ (cZ l G y_Tk_spells (gRm d) false [gR G (c + 16), gI (M (c + 18) (Int.toNat x1)), gI (M (c + 19) (Int.toNat x1)), .ref (Q.2.1 (gWti (Int.toNat x2)))] X M (fun v5 M4 => ((v5 = 0 → (wp l G y_Tk_workOf (gRm (d + 1)) false (kkI X k) false 3 [.val (gR G (c + 16)), .val (gI x1), .val (gI (w32 (x2 + 1)))] [] X M4 0 0)) ∧ (¬ v5 = 0 → (k x2 M4)))))))))))) : wp l G y_Tk_workOf (gRm (d + 1)) false (kkI X k) false 3 [.val (gR G (c + 16)), .val (gI x1), .val (gI x2)] [] X M 0 0 := by
  refine wp_iload_n d_Tk_workOf_3 rfl rfl ?_
  refine wp_getsN d_Tk_workOf_4 fs_Tk_95 (fun U hU => (hO U hU).2.2.1.1) ?_
  refine wp_olen (N := 52) d_Tk_workOf_7 (fun U hU => (hO U hU).2.2.1.2) ?_
  refine xi_ge (tgt := 46) d_Tk_workOf_8 (by decide) (w32_id hx2) (w32_id (g32_c (x := 52) rfl)) (fun h8 => ?_) (fun h8 => ?_)
  · have T := T.1 h8
    refine wp_iconst d_Tk_workOf_46 ?_
    exact wp_ireturn d_Tk_workOf_47 rfl id (Nat.zero_le _) (Nat.zero_le _) (kI_mk (g32_c (x := (-1)) rfl) T)
  · have T := T.2 h8
    refine wp_aload_n d_Tk_workOf_11 rfl rfl (g_nz (gl_1 hX 16)) ?_
    refine wp_aload_n d_Tk_workOf_12 rfl rfl (g_nz (gl_1 hX 16)) ?_
    refine xgetR d_Tk_workOf_13 gc_Tk f_Tk_15.1 f_Tk_15.2.1 f_Tk_15.2.2.1 (gl_1 hX 16) (gl_2 hX (a := 16) (by decide)) (gl_s hX 16 rfl) f_Tk_15.2.2.2.2.1 (gl_f hX 19 rfl) ?_
    refine wp_iload_n d_Tk_workOf_16 rfl rfl ?_
    refine wp_iaload d_Tk_workOf_17 (gl_1 hX 18) (gl_2 hX (a := 18) (by decide)) (gl_s hX 18 rfl) (g32_n T.1 (by decide)) T.1.1 T.1.2 (fun h1 => ?_)
    have T := T.2 h1
    refine wp_aload_n d_Tk_workOf_18 rfl rfl (g_nz (gl_1 hX 16)) ?_
    refine xgetR d_Tk_workOf_19 gc_Tk f_Tk_18.1 f_Tk_18.2.1 f_Tk_18.2.2.1 (gl_1 hX 16) (gl_2 hX (a := 16) (by decide)) (gl_s hX 16 rfl) f_Tk_18.2.2.2.2.1 (gl_f hX 20 rfl) ?_
    refine wp_iload_n d_Tk_workOf_22 rfl rfl ?_
    refine wp_iaload d_Tk_workOf_23 (gl_1 hX 19) (gl_2 hX (a := 19) (by decide)) (gl_s hX 19 rfl) (g32_n T.1 (by decide)) T.1.1 T.1.2 (fun h2 => ?_)
    have T := T.2 h2
    refine wp_getsN d_Tk_workOf_24 fs_Tk_95 (fun U hU => (hO U hU).2.2.1.1) ?_
    refine wp_iload_n d_Tk_workOf_27 rfl rfl ?_
    have q3 := T.1
    have T := T.2
    refine xo_aald hO d_Tk_workOf_28 (w32_id hx2) q3 ?_
    refine wp_oget d_Tk_workOf_29 fo_Tk_99 (fun U hU => ((hO U hU).1 _ (g52 q3)).2.2.2.1) ?_
    refine xcV_Z (md' := false) (As := [gI (M (c + 18) (Int.toNat x1)), gI (M (c + 19) (Int.toNat x1)), .ref (Q.2.1 (gWti (Int.toNat x2)))]) (st := []) d_Tk_workOf_32 ca_Tk_spells ml_Tk_64 im_Tk_spells se_Tk_spells gc_Tk (gl_1 hX 16) (gl_2 hX (a := 16) (by decide)) (gl_s hX 16 rfl) rfl (by decide) (by decide) rfl id id T (fun v5 M4 h6 T => ?_)
    refine xz_eq (tgt := 40) d_Tk_workOf_35 (by decide) (w32_id (g32_z h6)) (fun h7 => ?_) (fun h7 => ?_)
    · have T := T.1 h7
      refine wp_iinc (L' := [.val (gR G (c + 16)), .val (gI x1), .val (gI (x2 + 1))]) d_Tk_workOf_40 rfl (by decide) rfl ?_
      refine wp_goto (tgt := 3) d_Tk_workOf_43 (by decide) ?_
      exact (wpt T (And.intro rfl (And.intro rfl (And.intro (gI_w _) True.intro))))
    · have T := T.2 h7
      refine wp_iload_n d_Tk_workOf_38 rfl rfl ?_
      exact wp_ireturn d_Tk_workOf_39 rfl id (Nat.zero_le _) (Nat.zero_le _) (kI_mk hx2 T)
theorem e_Tk_workOf {l : Launch} {G : gG} {d : Nat} {X : gX} {M : gM} {k : Int → gM → Prop} {Q : gQ} {c : Nat} {x1 : Int} (T : wp l G y_Tk_workOf (gRm (d + 1)) false (kkI X k) false 0 [.val (gR G (c + 16)), .val (gI x1), .unset] [] X M 0 0) : cI l G y_Tk_workOf (gRm (d + 1)) false [gR G (c + 16), gI x1] X M k := cen_I (plainFor_of_name rfl) (by simp only [lg_sl_R, lg_sl_I, lg_sl_L, lg_sl_N, List.length_cons, List.length_nil]; decide) (by unfold gEn; simp only [lg_sl_R, lg_sl_I, lg_sl_L, lg_sl_N]; exact wpt T (And.intro rfl (And.intro rfl True.intro)))
theorem d_Vl_toText_0 : decode prog_12_method_11_code 0 = .ok (.aload_n 0, 1) := by decide +kernel
theorem d_Vl_toText_1 : decode prog_12_method_11_code 1 = .ok (.getfield 9, 3) := by decide +kernel
theorem d_Vl_toText_4 : decode prog_12_method_11_code 4 = .ok (.iload_n 1, 1) := by decide +kernel
theorem d_Vl_toText_5 : decode prog_12_method_11_code 5 = .ok (.iaload, 1) := by decide +kernel
theorem d_Vl_toText_6 : decode prog_12_method_11_code 6 = .ok (.iconst 1, 1) := by decide +kernel
theorem d_Vl_toText_7 : decode prog_12_method_11_code 7 = .ok (.if_icmp .ne 11, 3) := by decide +kernel
theorem d_Vl_toText_18 : decode prog_12_method_11_code 18 = .ok (.aload_n 0, 1) := by decide +kernel
theorem d_Vl_toText_19 : decode prog_12_method_11_code 19 = .ok (.getfield 9, 3) := by decide +kernel
theorem d_Vl_toText_22 : decode prog_12_method_11_code 22 = .ok (.iload_n 1, 1) := by decide +kernel
theorem d_Vl_toText_23 : decode prog_12_method_11_code 23 = .ok (.iaload, 1) := by decide +kernel
theorem d_Vl_toText_24 : decode prog_12_method_11_code 24 = .ok (.iconst 3, 1) := by decide +kernel
theorem d_Vl_toText_25 : decode prog_12_method_11_code 25 = .ok (.if_icmp .ne 26, 3) := by decide +kernel
theorem d_Vl_toText_51 : decode prog_12_method_11_code 51 = .ok (.aload_n 0, 1) := by decide +kernel
theorem d_Vl_toText_52 : decode prog_12_method_11_code 52 = .ok (.getfield 9, 3) := by decide +kernel
theorem d_Vl_toText_55 : decode prog_12_method_11_code 55 = .ok (.iload_n 1, 1) := by decide +kernel
theorem d_Vl_toText_56 : decode prog_12_method_11_code 56 = .ok (.iconst 2, 1) := by decide +kernel
theorem d_Vl_toText_57 : decode prog_12_method_11_code 57 = .ok (.iastore, 1) := by decide +kernel
theorem d_Vl_toText_58 : decode prog_12_method_11_code 58 = .ok (.return_, 1) := by decide +kernel
theorem d_Vl_toText_28 : decode prog_12_method_11_code 28 = .ok (.aload_n 0, 1) := by decide +kernel
theorem d_Vl_toText_29 : decode prog_12_method_11_code 29 = .ok (.iload_n 1, 1) := by decide +kernel
theorem d_Vl_toText_30 : decode prog_12_method_11_code 30 = .ok (.aload_n 0, 1) := by decide +kernel
theorem d_Vl_toText_31 : decode prog_12_method_11_code 31 = .ok (.getfield 15, 3) := by decide +kernel
theorem d_Vl_toText_34 : decode prog_12_method_11_code 34 = .ok (.iload_n 1, 1) := by decide +kernel
theorem d_Vl_toText_35 : decode prog_12_method_11_code 35 = .ok (.laload, 1) := by decide +kernel
theorem d_Vl_toText_36 : decode prog_12_method_11_code 36 = .ok (.lconst 0, 1) := by decide +kernel
theorem d_Vl_toText_37 : decode prog_12_method_11_code 37 = .ok (.lcmp, 1) := by decide +kernel
theorem d_Vl_toText_38 : decode prog_12_method_11_code 38 = .ok (.ifCond .eq 8, 3) := by decide +kernel
theorem d_Vl_toText_46 : decode prog_12_method_11_code 46 = .ok (.ldc 77, 2) := by decide +kernel
theorem d_Vl_toText_48 : decode prog_12_method_11_code 48 = .ok (.invokevirtual 79, 3) := by decide +kernel
theorem d_Vl_toText_41 : decode prog_12_method_11_code 41 = .ok (.ldc 75, 2) := by decide +kernel
theorem d_Vl_toText_43 : decode prog_12_method_11_code 43 = .ok (.goto 5, 3) := by decide +kernel
theorem d_Vl_toText_10 : decode prog_12_method_11_code 10 = .ok (.aload_n 0, 1) := by decide +kernel
theorem d_Vl_toText_11 : decode prog_12_method_11_code 11 = .ok (.iload_n 1, 1) := by decide +kernel
theorem d_Vl_toText_12 : decode prog_12_method_11_code 12 = .ok (.invokevirtual 72, 3) := by decide +kernel
theorem d_Vl_toText_15 : decode prog_12_method_11_code 15 = .ok (.goto 36, 3) := by decide +kernel
set_option maxHeartbeats 4000000 in
theorem w_Vl_toText_0 {l : Launch} {G : gG} {d : Nat} {X : gX} {M : gM} {k : gM → Prop} {v n : Nat} (hV : gvX X v n) {Q : gQ} (hO : gOld G Q) {x1 : Int} (hx1 : g32 x1)  (T : ((0 : Int) ≤ x1 ∧ x1 < (n : Int)) ∧ (g32 (M (v + 1) (Int.toNat x1)) → ((¬ M (v + 1) (Int.toNat x1) = 1 → (((0 : Int) ≤ x1 ∧ x1 < (n : Int)) ∧ (g32 (M (v + 1) (Int.toNat x1)) → ((¬ M (v + 1) (Int.toNat x1) = 3 → (((0 : Int) ≤ x1 ∧ x1 < (n : Int)) ∧ (k (gUp M (v + 1) (Int.toNat x1) 2)))) ∧ (M (v + 1) (Int.toNat x1) = 3 → (((0 : Int) ≤ x1 ∧ x1 < (n : Int)) ∧ (g64 (M (v + 2) (Int.toNat x1)) → ((M (v + 2) (Int.toNat x1) = 0 → (cV l G y_Vl_writeWord (gRm d) true [gR G v, gI x1, .ref (Q.2.1 4)] X M (fun M4 => (((0 : Int) ≤ x1 ∧ x1 < (n : Int)) ∧ (k (gUp M4 (v + 1) (Int.toNat x1) 2)))))) ∧ (¬ M (v + 2) (Int.toNat x1) = 0 → (cV l G y_Vl_writeWord (gRm d) true [gR G v, gI x1, .ref (Q.2.1 3)] X M (fun M5 => (((0 : Int) ≤ x1 ∧ x1 < (n : Int)) ∧ (k (gUp M5 (v + 1) (Int.toNat x1) 2)))))))))))))) ∧ (M (v + 1) (Int.toNat x1) = 1 → (cV l G y_Vl_writeDigits (gRm d) true [gR G v, gI x1] X M (fun M8 => (((0 : Int) ≤ x1 ∧ x1 < (n : Int)) ∧ (k (gUp M8 (v + 1) (Int.toNat x1) 2))))))))) : wp l G y_Vl_toText (gRm (d + 1)) true (kkV X k) false 0 [.val (gR G v), .val (gI x1)] [] X M 0 0 := by
  refine wp_aload_n d_Vl_toText_0 rfl rfl (g_nz hV.1) ?_
  refine xgetR d_Vl_toText_1 gc_Vl f_Vl_9.1 f_Vl_9.2.1 f_Vl_9.2.2.1 hV.1 (gv_2 hV) hV.2.2.1 f_Vl_9.2.2.2.2.1 (gv_r1 hV).1 ?_
  refine wp_iload_n d_Vl_toText_4 rfl rfl ?_
  refine wp_iaload d_Vl_toText_5 (gv_r1 hV).2.2.1 (gv_r1 hV).2.2.2 (gv_r1 hV).2.1 (g32_n T.1 (gv_n hV)) T.1.1 T.1.2 (fun h1 => ?_)
  have T := T.2 h1
  refine wp_iconst d_Vl_toText_6 ?_
  refine xi_ne (tgt := 18) d_Vl_toText_7 (by decide) (w32_id h1) (w32_id (g32_c (x := 1) rfl)) (fun h9 => ?_) (fun h9 => ?_)
  · have T := T.1 h9
    refine wp_aload_n d_Vl_toText_18 rfl rfl (g_nz hV.1) ?_
    refine xgetR d_Vl_toText_19 gc_Vl f_Vl_9.1 f_Vl_9.2.1 f_Vl_9.2.2.1 hV.1 (gv_2 hV) hV.2.2.1 f_Vl_9.2.2.2.2.1 (gv_r1 hV).1 ?_
    refine wp_iload_n d_Vl_toText_22 rfl rfl ?_
    refine wp_iaload d_Vl_toText_23 (gv_r1 hV).2.2.1 (gv_r1 hV).2.2.2 (gv_r1 hV).2.1 (g32_n T.1 (gv_n hV)) T.1.1 T.1.2 (fun h2 => ?_)
    have T := T.2 h2
    refine wp_iconst d_Vl_toText_24 ?_
    refine xi_ne (tgt := 51) d_Vl_toText_25 (by decide) (w32_id h2) (w32_id (g32_c (x := 3) rfl)) (fun h7 => ?_) (fun h7 => ?_)
    · have T := T.1 h7
      refine wp_aload_n d_Vl_toText_51 rfl rfl (g_nz hV.1) ?_
      refine xgetR d_Vl_toText_52 gc_Vl f_Vl_9.1 f_Vl_9.2.1 f_Vl_9.2.2.1 hV.1 (gv_2 hV) hV.2.2.1 f_Vl_9.2.2.2.2.1 (gv_r1 hV).1 ?_
      refine wp_iload_n d_Vl_toText_55 rfl rfl ?_
      refine wp_iconst d_Vl_toText_56 ?_
      refine xiast d_Vl_toText_57 (gv_r1 hV).2.2.1 (gv_r1 hV).2.2.2 (gv_r1 hV).2.1 (gv_n hV) T.1 (w32_id (g32_c (x := 2) rfl)) ?_
      have T := T.2
      exact wp_return d_Vl_toText_58 rfl (fun _ => rfl) (Nat.zero_le _) (Nat.zero_le _) (kV_mk T)
    · have T := T.2 h7
      refine wp_aload_n d_Vl_toText_28 rfl rfl (g_nz hV.1) ?_
      refine wp_iload_n d_Vl_toText_29 rfl rfl ?_
      refine wp_aload_n d_Vl_toText_30 rfl rfl (g_nz hV.1) ?_
      refine xgetR d_Vl_toText_31 gc_Vl f_Vl_15.1 f_Vl_15.2.1 f_Vl_15.2.2.1 hV.1 (gv_2 hV) hV.2.2.1 f_Vl_15.2.2.2.2.1 (gv_r2 hV).1 ?_
      refine wp_iload_n d_Vl_toText_34 rfl rfl ?_
      refine wp_laload d_Vl_toText_35 (gv_r2 hV).2.2.1 (gv_r2 hV).2.2.2 (gv_r2 hV).2.1 (g32_n T.1 (gv_n hV)) T.1.1 T.1.2 (fun h3 => ?_)
      have T := T.2 h3
      refine wp_lconst0 d_Vl_toText_36 ?_
      refine xl_eq (tgt := 46) d_Vl_toText_37 d_Vl_toText_38 (by decide) (w64_id h3) (w64_id (g64_c (x := 0) rfl)) (fun h6 => ?_) (fun h6 => ?_)
      · have T := T.1 h6
        refine wp_ldcS d_Vl_toText_46 (fun U hU => ((hO U hU).2.1 4 (by decide)).2.2.2.2 ("GridLedger$Values", 77, "FALSE") rfl) ?_
        refine xcV_V (md' := true) (As := [gI x1, .ref (Q.2.1 4)]) (st := []) d_Vl_toText_48 ca_Vl_writeWord ml_Vl_79 im_Vl_writeWord se_Vl_writeWord gc_Vl hV.1 (gv_2 hV) hV.2.2.1 rfl (by decide) (by decide) rfl (fun _ => rfl) (fun _ => rfl) T (fun M4 T => ?_)
        refine wp_aload_n d_Vl_toText_51 rfl rfl (g_nz hV.1) ?_
        refine xgetR d_Vl_toText_52 gc_Vl f_Vl_9.1 f_Vl_9.2.1 f_Vl_9.2.2.1 hV.1 (gv_2 hV) hV.2.2.1 f_Vl_9.2.2.2.2.1 (gv_r1 hV).1 ?_
        refine wp_iload_n d_Vl_toText_55 rfl rfl ?_
        refine wp_iconst d_Vl_toText_56 ?_
        refine xiast d_Vl_toText_57 (gv_r1 hV).2.2.1 (gv_r1 hV).2.2.2 (gv_r1 hV).2.1 (gv_n hV) T.1 (w32_id (g32_c (x := 2) rfl)) ?_
        have T := T.2
        exact wp_return d_Vl_toText_58 rfl (fun _ => rfl) (Nat.zero_le _) (Nat.zero_le _) (kV_mk T)
      · have T := T.2 h6
        refine wp_ldcS d_Vl_toText_41 (fun U hU => ((hO U hU).2.1 3 (by decide)).2.2.2.2 ("GridLedger$Values", 75, "TRUE") rfl) ?_
        refine wp_goto (tgt := 48) d_Vl_toText_43 (by decide) ?_
        refine xcV_V (md' := true) (As := [gI x1, .ref (Q.2.1 3)]) (st := []) d_Vl_toText_48 ca_Vl_writeWord ml_Vl_79 im_Vl_writeWord se_Vl_writeWord gc_Vl hV.1 (gv_2 hV) hV.2.2.1 rfl (by decide) (by decide) rfl (fun _ => rfl) (fun _ => rfl) T (fun M5 T => ?_)
        refine wp_aload_n d_Vl_toText_51 rfl rfl (g_nz hV.1) ?_
        refine xgetR d_Vl_toText_52 gc_Vl f_Vl_9.1 f_Vl_9.2.1 f_Vl_9.2.2.1 hV.1 (gv_2 hV) hV.2.2.1 f_Vl_9.2.2.2.2.1 (gv_r1 hV).1 ?_
        refine wp_iload_n d_Vl_toText_55 rfl rfl ?_
        refine wp_iconst d_Vl_toText_56 ?_
        refine xiast d_Vl_toText_57 (gv_r1 hV).2.2.1 (gv_r1 hV).2.2.2 (gv_r1 hV).2.1 (gv_n hV) T.1 (w32_id (g32_c (x := 2) rfl)) ?_
        have T := T.2
        exact wp_return d_Vl_toText_58 rfl (fun _ => rfl) (Nat.zero_le _) (Nat.zero_le _) (kV_mk T)
  · have T := T.2 h9
    refine wp_aload_n d_Vl_toText_10 rfl rfl (g_nz hV.1) ?_
    refine wp_iload_n d_Vl_toText_11 rfl rfl ?_
    refine xcV_V (md' := true) (As := [gI x1]) (st := []) d_Vl_toText_12 ca_Vl_writeDigits ml_Vl_72 im_Vl_writeDigits se_Vl_writeDigits gc_Vl hV.1 (gv_2 hV) hV.2.2.1 rfl (by decide) (by decide) rfl (fun _ => rfl) (fun _ => rfl) T (fun M8 T => ?_)
    refine wp_goto (tgt := 51) d_Vl_toText_15 (by decide) ?_
    refine wp_aload_n d_Vl_toText_51 rfl rfl (g_nz hV.1) ?_
    refine xgetR d_Vl_toText_52 gc_Vl f_Vl_9.1 f_Vl_9.2.1 f_Vl_9.2.2.1 hV.1 (gv_2 hV) hV.2.2.1 f_Vl_9.2.2.2.2.1 (gv_r1 hV).1 ?_
    refine wp_iload_n d_Vl_toText_55 rfl rfl ?_
    refine wp_iconst d_Vl_toText_56 ?_
    refine xiast d_Vl_toText_57 (gv_r1 hV).2.2.1 (gv_r1 hV).2.2.2 (gv_r1 hV).2.1 (gv_n hV) T.1 (w32_id (g32_c (x := 2) rfl)) ?_
    have T := T.2
    exact wp_return d_Vl_toText_58 rfl (fun _ => rfl) (Nat.zero_le _) (Nat.zero_le _) (kV_mk T)
theorem e_Vl_toText {l : Launch} {G : gG} {d : Nat} {X : gX} {M : gM} {k : gM → Prop} {Q : gQ} {v : Nat} {x1 : Int} (T : wp l G y_Vl_toText (gRm (d + 1)) true (kkV X k) false 0 [.val (gR G v), .val (gI x1)] [] X M 0 0) : cV l G y_Vl_toText (gRm (d + 1)) true [gR G v, gI x1] X M k := cen_V (plainFor_of_name rfl) (by simp only [lg_sl_R, lg_sl_I, lg_sl_L, lg_sl_N, List.length_cons, List.length_nil]; decide) (by unfold gEn; simp only [lg_sl_R, lg_sl_I, lg_sl_L, lg_sl_N]; exact wpt T (And.intro rfl (And.intro rfl True.intro)))
theorem d_Vl_writeWord_0 : decode prog_12_method_12_code 0 = .ok (.iconst 0, 1) := by decide +kernel
theorem d_Vl_writeWord_1 : decode prog_12_method_12_code 1 = .ok (.istore_n 3, 1) := by decide +kernel
theorem d_Vl_writeWord_2 : decode prog_12_method_12_code 2 = .ok (.iload_n 3, 1) := by decide +kernel
theorem d_Vl_writeWord_3 : decode prog_12_method_12_code 3 = .ok (.aload_n 2, 1) := by decide +kernel
theorem d_Vl_writeWord_4 : decode prog_12_method_12_code 4 = .ok (.invokevirtual 83, 3) := by decide +kernel
theorem d_Vl_writeWord_7 : decode prog_12_method_12_code 7 = .ok (.if_icmp .ge 23, 3) := by decide +kernel
theorem d_Vl_writeWord_30 : decode prog_12_method_12_code 30 = .ok (.aload_n 0, 1) := by decide +kernel
theorem d_Vl_writeWord_31 : decode prog_12_method_12_code 31 = .ok (.getfield 15, 3) := by decide +kernel
theorem d_Vl_writeWord_34 : decode prog_12_method_12_code 34 = .ok (.iload_n 1, 1) := by decide +kernel
theorem d_Vl_writeWord_35 : decode prog_12_method_12_code 35 = .ok (.aload_n 2, 1) := by decide +kernel
theorem d_Vl_writeWord_36 : decode prog_12_method_12_code 36 = .ok (.invokevirtual 83, 3) := by decide +kernel
theorem d_Vl_writeWord_39 : decode prog_12_method_12_code 39 = .ok (.i2l, 1) := by decide +kernel
theorem d_Vl_writeWord_40 : decode prog_12_method_12_code 40 = .ok (.lastore, 1) := by decide +kernel
theorem d_Vl_writeWord_41 : decode prog_12_method_12_code 41 = .ok (.return_, 1) := by decide +kernel
theorem d_Vl_writeWord_10 : decode prog_12_method_12_code 10 = .ok (.aload_n 0, 1) := by decide +kernel
theorem d_Vl_writeWord_11 : decode prog_12_method_12_code 11 = .ok (.getfield 21, 3) := by decide +kernel
theorem d_Vl_writeWord_14 : decode prog_12_method_12_code 14 = .ok (.iload_n 1, 1) := by decide +kernel
theorem d_Vl_writeWord_15 : decode prog_12_method_12_code 15 = .ok (.aaload, 1) := by decide +kernel
theorem d_Vl_writeWord_16 : decode prog_12_method_12_code 16 = .ok (.iload_n 3, 1) := by decide +kernel
theorem d_Vl_writeWord_17 : decode prog_12_method_12_code 17 = .ok (.aload_n 2, 1) := by decide +kernel
theorem d_Vl_writeWord_18 : decode prog_12_method_12_code 18 = .ok (.iload_n 3, 1) := by decide +kernel
theorem d_Vl_writeWord_19 : decode prog_12_method_12_code 19 = .ok (.invokevirtual 89, 3) := by decide +kernel
theorem d_Vl_writeWord_22 : decode prog_12_method_12_code 22 = .ok (.i2b, 1) := by decide +kernel
theorem d_Vl_writeWord_23 : decode prog_12_method_12_code 23 = .ok (.bastore, 1) := by decide +kernel
theorem d_Vl_writeWord_24 : decode prog_12_method_12_code 24 = .ok (.iinc 3 1, 3) := by decide +kernel
theorem d_Vl_writeWord_27 : decode prog_12_method_12_code 27 = .ok (.goto (-25), 3) := by decide +kernel
set_option maxHeartbeats 4000000 in
theorem w_Vl_writeWord_0 {l : Launch} {G : gG} {d : Nat} {X : gX} {M : gM} {k : gM → Prop} {v n : Nat} (hV : gvX X v n) {Q : gQ} (hO : gOld G Q) {x1 : Int} (hx1 : g32 x1) {t2 : Nat} (ht2 : t2 < 66)  (T : wp l G y_Vl_writeWord (gRm (d + 5)) true (kkV X k) true 2 [.val (gR G v), .val (gI x1), .val (.ref (Q.2.1 t2)), .val (gI 0)] [] X M 0 0) : wp l G y_Vl_writeWord (gRm (d + 5)) true (kkV X k) false 0 [.val (gR G v), .val (gI x1), .val (.ref (Q.2.1 t2)), .unset] [] X M 0 0 := by
  refine wp_iconst d_Vl_writeWord_0 ?_
  refine wp_istore_n (L' := [.val (gR G v), .val (gI x1), .val (.ref (Q.2.1 t2)), .val (gI 0)]) d_Vl_writeWord_1 rfl (by decide) rfl ?_
  exact wp_md (wpt T (And.intro rfl (And.intro rfl (And.intro rfl (And.intro rfl True.intro)))))
set_option maxHeartbeats 4000000 in
theorem w_Vl_writeWord_2 {l : Launch} {G : gG} {d : Nat} {X : gX} {M : gM} {k : gM → Prop} {v n : Nat} (hV : gvX X v n) {Q : gQ} (hO : gOld G Q) {x1 : Int} (hx1 : g32 x1) {x3 : Int} (hx3 : g32 x3)  {t2 : Nat} (ht2 : t2 < 66) (T : ((gSl t2 : Int) ≤ x3 → (((0 : Int) ≤ x1 ∧ x1 < (n : Int)) ∧ (k (gUp M (v + 2) (Int.toNat x1) (gSl t2 : Int))))) ∧ (¬ (gSl t2 : Int) ≤ x3 → (((0 : Int) ≤ x1 ∧ x1 < (n : Int)) ∧ (((0 : Int) ≤ x3 ∧ x3 < (gSl t2 : Int)) ∧ (((0 : Int) ≤ x3 ∧ x3 < 64) ∧ (wp l G y_Vl_writeWord (gRm (d + 5)) true (kkV X k) true 2 [.val (gR G v), .val (gI x1), .val (.ref (Q.2.1 t2)), .val (gI (w32 (x3 + 1)))] [] X (gUp M (v + 4 + Int.toNat x1) (Int.toNat x3) (gByte (gByte (gSc t2 (Int.toNat x3))))) 0 0)))))) : wp l G y_Vl_writeWord (gRm (d + 5)) true (kkV X k) true 2 [.val (gR G v), .val (gI x1), .val (.ref (Q.2.1 t2)), .val (gI x3)] [] X M 0 0 := by
  refine wp_iload_n d_Vl_writeWord_2 rfl rfl ?_
  refine wp_aloadO_n d_Vl_writeWord_3 rfl rfl ?_
  refine xo_len hO ht2 d_Vl_writeWord_4 ml_Vl_83 (by simp only [List.map, gR_cat, gI_cat, gL_cat, g_rcat, List.sum_cons, List.sum_nil]; decide) ?_
  refine xi_ge (tgt := 30) d_Vl_writeWord_7 (by decide) (w32_id hx3) (w32_id (g32_h4 (gSl_ok ht2))) (fun h3 => ?_) (fun h3 => ?_)
  · have T := T.1 h3
    refine wp_aload_n d_Vl_writeWord_30 rfl rfl (g_nz hV.1) ?_
    refine xgetR d_Vl_writeWord_31 gc_Vl f_Vl_15.1 f_Vl_15.2.1 f_Vl_15.2.2.1 hV.1 (gv_2 hV) hV.2.2.1 f_Vl_15.2.2.2.2.1 (gv_r2 hV).1 ?_
    refine wp_iload_n d_Vl_writeWord_34 rfl rfl ?_
    refine wp_aloadO_n d_Vl_writeWord_35 rfl rfl ?_
    refine xo_len hO ht2 d_Vl_writeWord_36 ml_Vl_83 (by simp only [List.map, gR_cat, gI_cat, gL_cat, g_rcat, List.sum_cons, List.sum_nil]; decide) ?_
    refine xi2l d_Vl_writeWord_39 (w32_id (g32_h4 (gSl_ok ht2))) ?_
    refine xlast d_Vl_writeWord_40 (gv_r2 hV).2.2.1 (gv_r2 hV).2.2.2 (gv_r2 hV).2.1 (gv_n hV) T.1 (w64_id (g64_32 (g32_h4 (gSl_ok ht2)))) ?_
    have T := T.2
    exact wp_return d_Vl_writeWord_41 rfl (fun _ => rfl) (Nat.zero_le _) (Nat.zero_le _) (kV_mk T)
  · have T := T.2 h3
    refine wp_aload_n d_Vl_writeWord_10 rfl rfl (g_nz hV.1) ?_
    refine xgetR d_Vl_writeWord_11 gc_Vl f_Vl_21.1 f_Vl_21.2.1 f_Vl_21.2.2.1 hV.1 (gv_2 hV) hV.2.2.1 f_Vl_21.2.2.2.2.1 (gv_r3 hV).1 ?_
    refine wp_iload_n d_Vl_writeWord_14 rfl rfl ?_
    have h1 := T.1
    refine xaald d_Vl_writeWord_15 (Or.inl rfl) (gv_r3 hV).2.2.1 (gv_r3 hV).2.2.2 (gv_r3 hV).2.1 (g32_n h1 (gv_n hV)) h1.1 h1.2 (gv_row hV h1).1 ?_
    have T := T.2
    refine wp_iload_n d_Vl_writeWord_16 rfl rfl ?_
    refine wp_aloadO_n d_Vl_writeWord_17 rfl rfl ?_
    refine wp_iload_n d_Vl_writeWord_18 rfl rfl ?_
    have q2 := T.1
    have T := T.2
    refine xo_chr hO ht2 d_Vl_writeWord_19 ml_Vl_89 (by simp only [List.map, gR_cat, gI_cat, gL_cat, g_rcat, List.sum_cons, List.sum_nil]; decide) (w32_id hx3) q2 ?_
    refine wp_i2b d_Vl_writeWord_22 ?_
    refine xbast d_Vl_writeWord_23 (gv_row hV h1).2.2.1 (gv_row hV h1).2.2.2 (gv_row hV h1).2.1 (by decide) T.1 ?_
    have T := T.2
    refine wp_iinc (L' := [.val (gR G v), .val (gI x1), .val (.ref (Q.2.1 t2)), .val (gI (x3 + 1))]) d_Vl_writeWord_24 rfl (by decide) rfl ?_
    refine wp_goto (tgt := 2) d_Vl_writeWord_27 (by decide) ?_
    exact wp_md (wpt T (And.intro rfl (And.intro rfl (And.intro rfl (And.intro (gI_w _) True.intro)))))
theorem e_Vl_writeWord {l : Launch} {G : gG} {d : Nat} {X : gX} {M : gM} {k : gM → Prop} {Q : gQ} {v : Nat} {x1 : Int} {t2 : Nat} (T : wp l G y_Vl_writeWord (gRm (d + 5)) true (kkV X k) false 0 [.val (gR G v), .val (gI x1), .val (.ref (Q.2.1 t2)), .unset] [] X M 0 0) : cV l G y_Vl_writeWord (gRm (d + 5)) true [gR G v, gI x1, .ref (Q.2.1 t2)] X M k := cen_V (plainFor_of_name rfl) (by simp only [lg_sl_R, lg_sl_I, lg_sl_L, lg_sl_O, lg_sl_N, List.length_cons, List.length_nil]; decide) (by unfold gEn; simp only [lg_sl_R, lg_sl_I, lg_sl_L, lg_sl_O, lg_sl_N]; exact wpt T (And.intro rfl (And.intro rfl (And.intro rfl True.intro))))
