/-! Walks of the reference's methods, written by wip/whole/gen_model.py -/
theorem d_jMath_max_0 : decode prog_23_method_65_code 0 = .ok (.iload_n 0, 1) := by decide +kernel
theorem d_jMath_max_1 : decode prog_23_method_65_code 1 = .ok (.iload_n 1, 1) := by decide +kernel
theorem d_jMath_max_2 : decode prog_23_method_65_code 2 = .ok (.if_icmp .lt 7, 3) := by decide +kernel
theorem d_jMath_max_9 : decode prog_23_method_65_code 9 = .ok (.iload_n 1, 1) := by decide +kernel
theorem d_jMath_max_10 : decode prog_23_method_65_code 10 = .ok (.ireturn, 1) := by decide +kernel
theorem d_jMath_max_5 : decode prog_23_method_65_code 5 = .ok (.iload_n 0, 1) := by decide +kernel
theorem d_jMath_max_6 : decode prog_23_method_65_code 6 = .ok (.goto 4, 3) := by decide +kernel
set_option maxHeartbeats 4000000 in
theorem w_jMath_max_0 {l : Launch} {G : gG} {d : Nat} {X : gX} {M : gM} {k : Int → gM → Prop}  {x0 : Int} (hx0 : g32 x0) {x1 : Int} (hx1 : g32 x1) (T : (x0 < x1 → (k x1 M)) ∧ (¬ x0 < x1 → (k x0 M))) : wp l G y_jMath_max (gRm d) false (kkI X k) false 0 [.val (gI x0), .val (gI x1)] [] X M 0 0 := by
  refine wp_iload_n d_jMath_max_0 rfl rfl ?_
  refine wp_iload_n d_jMath_max_1 rfl rfl ?_
  refine xi_lt (tgt := 9) d_jMath_max_2 (by decide) (w32_id hx0) (w32_id hx1) (fun h1 => ?_) (fun h1 => ?_)
  · have T := T.1 h1
    refine wp_iload_n d_jMath_max_9 rfl rfl ?_
    exact wp_ireturn d_jMath_max_10 rfl id (Nat.zero_le _) (Nat.zero_le _) (kI_mk hx1 T)
  · have T := T.2 h1
    refine wp_iload_n d_jMath_max_5 rfl rfl ?_
    refine wp_goto (tgt := 10) d_jMath_max_6 (by decide) ?_
    exact wp_ireturn d_jMath_max_10 rfl id (Nat.zero_le _) (Nat.zero_le _) (kI_mk hx0 T)
theorem e_jMath_max {l : Launch} {G : gG} {d : Nat} {X : gX} {M : gM} {k : Int → gM → Prop}  {x0 : Int} {x1 : Int} (T : wp l G y_jMath_max (gRm d) false (kkI X k) false 0 [.val (gI x0), .val (gI x1)] [] X M 0 0) : cI l G y_jMath_max (gRm d) false [gI x0, gI x1] X M k := cen_I (by decide +kernel) (by simp only [lg_sl_R, lg_sl_I, lg_sl_L, lg_sl_N, List.length_cons, List.length_nil]; decide) (by unfold gEn; simp only [lg_sl_R, lg_sl_I, lg_sl_L, lg_sl_N]; exact wpt T (And.intro rfl (And.intro rfl True.intro)))
theorem d_jMath_abs_0 : decode prog_23_method_59_code 0 = .ok (.iload_n 0, 1) := by decide +kernel
theorem d_jMath_abs_1 : decode prog_23_method_59_code 1 = .ok (.ifCond .ge 8, 3) := by decide +kernel
theorem d_jMath_abs_9 : decode prog_23_method_59_code 9 = .ok (.iload_n 0, 1) := by decide +kernel
theorem d_jMath_abs_10 : decode prog_23_method_59_code 10 = .ok (.ireturn, 1) := by decide +kernel
theorem d_jMath_abs_4 : decode prog_23_method_59_code 4 = .ok (.iload_n 0, 1) := by decide +kernel
theorem d_jMath_abs_5 : decode prog_23_method_59_code 5 = .ok (.ineg, 1) := by decide +kernel
theorem d_jMath_abs_6 : decode prog_23_method_59_code 6 = .ok (.goto 4, 3) := by decide +kernel
set_option maxHeartbeats 4000000 in
theorem w_jMath_abs_0 {l : Launch} {G : gG} {d : Nat} {X : gX} {M : gM} {k : Int → gM → Prop}  {x0 : Int} (hx0 : g32 x0) (T : (0 ≤ x0 → (k x0 M)) ∧ (¬ 0 ≤ x0 → (k (w32 (-x0)) M))) : wp l G y_jMath_abs (gRm d) false (kkI X k) false 0 [.val (gI x0)] [] X M 0 0 := by
  refine wp_iload_n d_jMath_abs_0 rfl rfl ?_
  refine xz_ge (tgt := 9) d_jMath_abs_1 (by decide) (w32_id hx0) (fun h1 => ?_) (fun h1 => ?_)
  · have T := T.1 h1
    refine wp_iload_n d_jMath_abs_9 rfl rfl ?_
    exact wp_ireturn d_jMath_abs_10 rfl id (Nat.zero_le _) (Nat.zero_le _) (kI_mk hx0 T)
  · have T := T.2 h1
    refine wp_iload_n d_jMath_abs_4 rfl rfl ?_
    refine wp_ineg d_jMath_abs_5 ?_
    refine wp_goto (tgt := 10) d_jMath_abs_6 (by decide) ?_
    exact wp_st (st' := [gI (w32 (-x0))]) (by rw [gI_w]) (wp_ireturn d_jMath_abs_10 rfl id (Nat.zero_le _) (Nat.zero_le _) (kI_mk (w32_ok _) T))
theorem e_jMath_abs {l : Launch} {G : gG} {d : Nat} {X : gX} {M : gM} {k : Int → gM → Prop}  {x0 : Int} (T : wp l G y_jMath_abs (gRm d) false (kkI X k) false 0 [.val (gI x0)] [] X M 0 0) : cI l G y_jMath_abs (gRm d) false [gI x0] X M k := cen_I (by decide +kernel) (by simp only [lg_sl_R, lg_sl_I, lg_sl_L, lg_sl_N, List.length_cons, List.length_nil]; decide) (by unfold gEn; simp only [lg_sl_R, lg_sl_I, lg_sl_L, lg_sl_N]; exact wpt T (And.intro rfl True.intro))
theorem d_jMath_min_0 : decode prog_23_method_69_code 0 = .ok (.iload_n 0, 1) := by decide +kernel
theorem d_jMath_min_1 : decode prog_23_method_69_code 1 = .ok (.iload_n 1, 1) := by decide +kernel
theorem d_jMath_min_2 : decode prog_23_method_69_code 2 = .ok (.if_icmp .gt 7, 3) := by decide +kernel
theorem d_jMath_min_9 : decode prog_23_method_69_code 9 = .ok (.iload_n 1, 1) := by decide +kernel
theorem d_jMath_min_10 : decode prog_23_method_69_code 10 = .ok (.ireturn, 1) := by decide +kernel
theorem d_jMath_min_5 : decode prog_23_method_69_code 5 = .ok (.iload_n 0, 1) := by decide +kernel
theorem d_jMath_min_6 : decode prog_23_method_69_code 6 = .ok (.goto 4, 3) := by decide +kernel
set_option maxHeartbeats 4000000 in
theorem w_jMath_min_0 {l : Launch} {G : gG} {d : Nat} {X : gX} {M : gM} {k : Int → gM → Prop}  {x0 : Int} (hx0 : g32 x0) {x1 : Int} (hx1 : g32 x1) (T : (x1 < x0 → (k x1 M)) ∧ (¬ x1 < x0 → (k x0 M))) : wp l G y_jMath_min (gRm d) false (kkI X k) false 0 [.val (gI x0), .val (gI x1)] [] X M 0 0 := by
  refine wp_iload_n d_jMath_min_0 rfl rfl ?_
  refine wp_iload_n d_jMath_min_1 rfl rfl ?_
  refine xi_gt (tgt := 9) d_jMath_min_2 (by decide) (w32_id hx0) (w32_id hx1) (fun h1 => ?_) (fun h1 => ?_)
  · have T := T.1 h1
    refine wp_iload_n d_jMath_min_9 rfl rfl ?_
    exact wp_ireturn d_jMath_min_10 rfl id (Nat.zero_le _) (Nat.zero_le _) (kI_mk hx1 T)
  · have T := T.2 h1
    refine wp_iload_n d_jMath_min_5 rfl rfl ?_
    refine wp_goto (tgt := 10) d_jMath_min_6 (by decide) ?_
    exact wp_ireturn d_jMath_min_10 rfl id (Nat.zero_le _) (Nat.zero_le _) (kI_mk hx0 T)
theorem e_jMath_min {l : Launch} {G : gG} {d : Nat} {X : gX} {M : gM} {k : Int → gM → Prop}  {x0 : Int} {x1 : Int} (T : wp l G y_jMath_min (gRm d) false (kkI X k) false 0 [.val (gI x0), .val (gI x1)] [] X M 0 0) : cI l G y_jMath_min (gRm d) false [gI x0, gI x1] X M k := cen_I (by decide +kernel) (by simp only [lg_sl_R, lg_sl_I, lg_sl_L, lg_sl_N, List.length_cons, List.length_nil]; decide) (by unfold gEn; simp only [lg_sl_R, lg_sl_I, lg_sl_L, lg_sl_N]; exact wpt T (And.intro rfl (And.intro rfl True.intro)))
theorem d_jLong_numberOfTrailingZeros_0 : decode prog_22_method_49_code 0 = .ok (.lload_n 0, 1) := by decide +kernel
theorem d_jLong_numberOfTrailingZeros_1 : decode prog_22_method_49_code 1 = .ok (.l2i, 1) := by decide +kernel
theorem d_jLong_numberOfTrailingZeros_2 : decode prog_22_method_49_code 2 = .ok (.istore_n 2, 1) := by decide +kernel
theorem d_jLong_numberOfTrailingZeros_3 : decode prog_22_method_49_code 3 = .ok (.iload_n 2, 1) := by decide +kernel
theorem d_jLong_numberOfTrailingZeros_4 : decode prog_22_method_49_code 4 = .ok (.ifCond .ne 17, 3) := by decide +kernel
theorem d_jLong_numberOfTrailingZeros_21 : decode prog_22_method_49_code 21 = .ok (.iload_n 2, 1) := by decide +kernel
theorem d_jLong_numberOfTrailingZeros_22 : decode prog_22_method_49_code 22 = .ok (.invokestatic 311, 3) := by decide +kernel
theorem d_jLong_numberOfTrailingZeros_25 : decode prog_22_method_49_code 25 = .ok (.ireturn, 1) := by decide +kernel
theorem d_jLong_numberOfTrailingZeros_7 : decode prog_22_method_49_code 7 = .ok (.bipush 32, 2) := by decide +kernel
theorem d_jLong_numberOfTrailingZeros_9 : decode prog_22_method_49_code 9 = .ok (.lload_n 0, 1) := by decide +kernel
theorem d_jLong_numberOfTrailingZeros_10 : decode prog_22_method_49_code 10 = .ok (.bipush 32, 2) := by decide +kernel
theorem d_jLong_numberOfTrailingZeros_12 : decode prog_22_method_49_code 12 = .ok (.lushr, 1) := by decide +kernel
theorem d_jLong_numberOfTrailingZeros_13 : decode prog_22_method_49_code 13 = .ok (.l2i, 1) := by decide +kernel
theorem d_jLong_numberOfTrailingZeros_14 : decode prog_22_method_49_code 14 = .ok (.invokestatic 311, 3) := by decide +kernel
theorem d_jLong_numberOfTrailingZeros_17 : decode prog_22_method_49_code 17 = .ok (.iadd, 1) := by decide +kernel
theorem d_jLong_numberOfTrailingZeros_18 : decode prog_22_method_49_code 18 = .ok (.goto 7, 3) := by decide +kernel
set_option maxHeartbeats 4000000 in
theorem w_jLong_numberOfTrailingZeros_0 {l : Launch} {G : gG} {d : Nat} {X : gX} {M : gM} {k : Int → gM → Prop}  {x0 : Int} (hx0 : g64 x0) (T : (¬ (w32 x0) = 0 → (cI l G y_jInt_numberOfTrailingZeros (gRm d) false [gI x0] X M (fun v2 M1 => (k v2 M1)))) ∧ ((w32 x0) = 0 → (cI l G y_jInt_numberOfTrailingZeros (gRm d) false [gI (gLushr x0 32)] X M (fun v5 M4 => (k (w32 (32 + v5)) M4))))) : wp l G y_jLong_numberOfTrailingZeros (gRm (d + 1)) false (kkI X k) false 0 [.val (gL x0), .unset, .unset] [] X M 0 0 := by
  refine wp_lload_n d_jLong_numberOfTrailingZeros_0 rfl rfl ?_
  refine wp_l2i d_jLong_numberOfTrailingZeros_1 ?_
  refine wp_istore_n (L' := [.val (gL x0), .unset, .val (gI x0)]) d_jLong_numberOfTrailingZeros_2 rfl (by decide) rfl ?_
  refine wp_iload_n d_jLong_numberOfTrailingZeros_3 rfl rfl ?_
  refine xz_ne (tgt := 21) d_jLong_numberOfTrailingZeros_4 (by decide) rfl (fun h7 => ?_) (fun h7 => ?_)
  · have T := T.1 h7
    refine wp_iload_n d_jLong_numberOfTrailingZeros_21 rfl rfl ?_
    refine xcS_I (md' := false) (As := [gI x0]) (st := []) d_jLong_numberOfTrailingZeros_22 ca_jInt_numberOfTrailingZeros ml_jLong_311 sm_jInt_numberOfTrailingZeros rfl (by decide) (by decide) rfl id id T (fun v2 M1 h3 T => ?_)
    exact wp_ireturn d_jLong_numberOfTrailingZeros_25 rfl id (Nat.zero_le _) (Nat.zero_le _) (kI_mk h3 T)
  · have T := T.2 h7
    refine wp_bipush d_jLong_numberOfTrailingZeros_7 ⟨by decide, by decide⟩ ?_
    refine wp_lload_n d_jLong_numberOfTrailingZeros_9 rfl rfl ?_
    refine wp_bipush d_jLong_numberOfTrailingZeros_10 ⟨by decide, by decide⟩ ?_
    refine wp_lushr d_jLong_numberOfTrailingZeros_12 ?_
    refine wp_l2i d_jLong_numberOfTrailingZeros_13 ?_
    refine xcS_I (md' := false) (As := [gI (gLushr x0 32)]) (st := [gI 32]) d_jLong_numberOfTrailingZeros_14 ca_jInt_numberOfTrailingZeros ml_jLong_311 sm_jInt_numberOfTrailingZeros rfl (by decide) (by simp only [List.map, gR_cat, gI_cat, gL_cat, List.sum_cons, List.sum_nil]; decide) rfl id id T (fun v5 M4 h6 T => ?_)
    refine wp_iadd d_jLong_numberOfTrailingZeros_17 ?_
    refine wp_goto (tgt := 25) d_jLong_numberOfTrailingZeros_18 (by decide) ?_
    exact wp_st (st' := [gI (w32 (32 + v5))]) (by rw [gI_w]) (wp_ireturn d_jLong_numberOfTrailingZeros_25 rfl id (Nat.zero_le _) (Nat.zero_le _) (kI_mk (w32_ok _) T))
theorem e_jLong_numberOfTrailingZeros {l : Launch} {G : gG} {d : Nat} {X : gX} {M : gM} {k : Int → gM → Prop}  {x0 : Int} (T : wp l G y_jLong_numberOfTrailingZeros (gRm (d + 1)) false (kkI X k) false 0 [.val (gL x0), .unset, .unset] [] X M 0 0) : cI l G y_jLong_numberOfTrailingZeros (gRm (d + 1)) false [gL x0] X M k := cen_I (by decide +kernel) (by simp only [lg_sl_R, lg_sl_I, lg_sl_L, lg_sl_N, List.length_cons, List.length_nil]; decide) (by unfold gEn; simp only [lg_sl_R, lg_sl_I, lg_sl_L, lg_sl_N]; exact wpt T (And.intro rfl True.intro))
theorem d_jMath_abs_2_0 : decode prog_23_method_61_code 0 = .ok (.lload_n 0, 1) := by decide +kernel
theorem d_jMath_abs_2_1 : decode prog_23_method_61_code 1 = .ok (.lconst 0, 1) := by decide +kernel
theorem d_jMath_abs_2_2 : decode prog_23_method_61_code 2 = .ok (.lcmp, 1) := by decide +kernel
theorem d_jMath_abs_2_3 : decode prog_23_method_61_code 3 = .ok (.ifCond .ge 8, 3) := by decide +kernel
theorem d_jMath_abs_2_11 : decode prog_23_method_61_code 11 = .ok (.lload_n 0, 1) := by decide +kernel
theorem d_jMath_abs_2_12 : decode prog_23_method_61_code 12 = .ok (.lreturn, 1) := by decide +kernel
theorem d_jMath_abs_2_6 : decode prog_23_method_61_code 6 = .ok (.lload_n 0, 1) := by decide +kernel
theorem d_jMath_abs_2_7 : decode prog_23_method_61_code 7 = .ok (.lneg, 1) := by decide +kernel
theorem d_jMath_abs_2_8 : decode prog_23_method_61_code 8 = .ok (.goto 4, 3) := by decide +kernel
set_option maxHeartbeats 4000000 in
theorem w_jMath_abs_2_0 {l : Launch} {G : gG} {d : Nat} {X : gX} {M : gM} {k : Int → gM → Prop}  {x0 : Int} (hx0 : g64 x0) (T : (0 ≤ x0 → (k x0 M)) ∧ (¬ 0 ≤ x0 → (k (w64 (-x0)) M))) : wp l G y_jMath_abs_2 (gRm d) false (kkL X k) false 0 [.val (gL x0), .unset] [] X M 0 0 := by
  refine wp_lload_n d_jMath_abs_2_0 rfl rfl ?_
  refine wp_lconst0 d_jMath_abs_2_1 ?_
  refine xl_ge (tgt := 11) d_jMath_abs_2_2 d_jMath_abs_2_3 (by decide) (w64_id hx0) (w64_id (g64_c (x := 0) rfl)) (fun h1 => ?_) (fun h1 => ?_)
  · have T := T.1 h1
    refine wp_lload_n d_jMath_abs_2_11 rfl rfl ?_
    exact wp_lreturn d_jMath_abs_2_12 rfl id (Nat.zero_le _) (Nat.zero_le _) (kL_mk hx0 T)
  · have T := T.2 h1
    refine wp_lload_n d_jMath_abs_2_6 rfl rfl ?_
    refine wp_lneg d_jMath_abs_2_7 ?_
    refine wp_goto (tgt := 12) d_jMath_abs_2_8 (by decide) ?_
    exact wp_st (st' := [gL (w64 (-x0))]) (by rw [gL_w]) (wp_lreturn d_jMath_abs_2_12 rfl id (Nat.zero_le _) (Nat.zero_le _) (kL_mk (w64_ok _) T))
theorem e_jMath_abs_2 {l : Launch} {G : gG} {d : Nat} {X : gX} {M : gM} {k : Int → gM → Prop}  {x0 : Int} (T : wp l G y_jMath_abs_2 (gRm d) false (kkL X k) false 0 [.val (gL x0), .unset] [] X M 0 0) : cL l G y_jMath_abs_2 (gRm d) false [gL x0] X M k := cen_L (by decide +kernel) (by simp only [lg_sl_R, lg_sl_I, lg_sl_L, lg_sl_N, List.length_cons, List.length_nil]; decide) (by unfold gEn; simp only [lg_sl_R, lg_sl_I, lg_sl_L, lg_sl_N]; exact wpt T (And.intro rfl True.intro))
theorem d_jMath_min_2_0 : decode prog_23_method_70_code 0 = .ok (.lload_n 0, 1) := by decide +kernel
theorem d_jMath_min_2_1 : decode prog_23_method_70_code 1 = .ok (.lload_n 2, 1) := by decide +kernel
theorem d_jMath_min_2_2 : decode prog_23_method_70_code 2 = .ok (.lcmp, 1) := by decide +kernel
theorem d_jMath_min_2_3 : decode prog_23_method_70_code 3 = .ok (.ifCond .gt 7, 3) := by decide +kernel
theorem d_jMath_min_2_10 : decode prog_23_method_70_code 10 = .ok (.lload_n 2, 1) := by decide +kernel
theorem d_jMath_min_2_11 : decode prog_23_method_70_code 11 = .ok (.lreturn, 1) := by decide +kernel
theorem d_jMath_min_2_6 : decode prog_23_method_70_code 6 = .ok (.lload_n 0, 1) := by decide +kernel
theorem d_jMath_min_2_7 : decode prog_23_method_70_code 7 = .ok (.goto 4, 3) := by decide +kernel
set_option maxHeartbeats 4000000 in
theorem w_jMath_min_2_0 {l : Launch} {G : gG} {d : Nat} {X : gX} {M : gM} {k : Int → gM → Prop}  {x0 : Int} (hx0 : g64 x0) {x2 : Int} (hx2 : g64 x2) (T : (x2 < x0 → (k x2 M)) ∧ (¬ x2 < x0 → (k x0 M))) : wp l G y_jMath_min_2 (gRm d) false (kkL X k) false 0 [.val (gL x0), .unset, .val (gL x2), .unset] [] X M 0 0 := by
  refine wp_lload_n d_jMath_min_2_0 rfl rfl ?_
  refine wp_lload_n d_jMath_min_2_1 rfl rfl ?_
  refine xl_gt (tgt := 10) d_jMath_min_2_2 d_jMath_min_2_3 (by decide) (w64_id hx0) (w64_id hx2) (fun h1 => ?_) (fun h1 => ?_)
  · have T := T.1 h1
    refine wp_lload_n d_jMath_min_2_10 rfl rfl ?_
    exact wp_lreturn d_jMath_min_2_11 rfl id (Nat.zero_le _) (Nat.zero_le _) (kL_mk hx2 T)
  · have T := T.2 h1
    refine wp_lload_n d_jMath_min_2_6 rfl rfl ?_
    refine wp_goto (tgt := 11) d_jMath_min_2_7 (by decide) ?_
    exact wp_lreturn d_jMath_min_2_11 rfl id (Nat.zero_le _) (Nat.zero_le _) (kL_mk hx0 T)
theorem e_jMath_min_2 {l : Launch} {G : gG} {d : Nat} {X : gX} {M : gM} {k : Int → gM → Prop}  {x0 : Int} {x2 : Int} (T : wp l G y_jMath_min_2 (gRm d) false (kkL X k) false 0 [.val (gL x0), .unset, .val (gL x2), .unset] [] X M 0 0) : cL l G y_jMath_min_2 (gRm d) false [gL x0, gL x2] X M k := cen_L (by decide +kernel) (by simp only [lg_sl_R, lg_sl_I, lg_sl_L, lg_sl_N, List.length_cons, List.length_nil]; decide) (by unfold gEn; simp only [lg_sl_R, lg_sl_I, lg_sl_L, lg_sl_N]; exact wpt T (And.intro rfl (And.intro rfl True.intro)))
theorem d_jLong_compare_0 : decode prog_22_method_42_code 0 = .ok (.lload_n 0, 1) := by decide +kernel
theorem d_jLong_compare_1 : decode prog_22_method_42_code 1 = .ok (.lload_n 2, 1) := by decide +kernel
theorem d_jLong_compare_2 : decode prog_22_method_42_code 2 = .ok (.lcmp, 1) := by decide +kernel
theorem d_jLong_compare_3 : decode prog_22_method_42_code 3 = .ok (.ifCond .ge 7, 3) := by decide +kernel
theorem d_jLong_compare_10 : decode prog_22_method_42_code 10 = .ok (.lload_n 0, 1) := by decide +kernel
theorem d_jLong_compare_11 : decode prog_22_method_42_code 11 = .ok (.lload_n 2, 1) := by decide +kernel
theorem d_jLong_compare_12 : decode prog_22_method_42_code 12 = .ok (.lcmp, 1) := by decide +kernel
theorem d_jLong_compare_13 : decode prog_22_method_42_code 13 = .ok (.ifCond .ne 7, 3) := by decide +kernel
theorem d_jLong_compare_20 : decode prog_22_method_42_code 20 = .ok (.iconst 1, 1) := by decide +kernel
theorem d_jLong_compare_21 : decode prog_22_method_42_code 21 = .ok (.ireturn, 1) := by decide +kernel
theorem d_jLong_compare_16 : decode prog_22_method_42_code 16 = .ok (.iconst 0, 1) := by decide +kernel
theorem d_jLong_compare_17 : decode prog_22_method_42_code 17 = .ok (.goto 4, 3) := by decide +kernel
theorem d_jLong_compare_6 : decode prog_22_method_42_code 6 = .ok (.iconst (-1), 1) := by decide +kernel
theorem d_jLong_compare_7 : decode prog_22_method_42_code 7 = .ok (.goto 14, 3) := by decide +kernel
set_option maxHeartbeats 4000000 in
theorem w_jLong_compare_0 {l : Launch} {G : gG} {d : Nat} {X : gX} {M : gM} {k : Int → gM → Prop}  {x0 : Int} (hx0 : g64 x0) {x2 : Int} (hx2 : g64 x2) (T : (x2 ≤ x0 → ((¬ x0 = x2 → (k 1 M)) ∧ (x0 = x2 → (k 0 M)))) ∧ (¬ x2 ≤ x0 → (k (-1) M))) : wp l G y_jLong_compare (gRm d) false (kkI X k) false 0 [.val (gL x0), .unset, .val (gL x2), .unset] [] X M 0 0 := by
  refine wp_lload_n d_jLong_compare_0 rfl rfl ?_
  refine wp_lload_n d_jLong_compare_1 rfl rfl ?_
  refine xl_ge (tgt := 10) d_jLong_compare_2 d_jLong_compare_3 (by decide) (w64_id hx0) (w64_id hx2) (fun h2 => ?_) (fun h2 => ?_)
  · have T := T.1 h2
    refine wp_lload_n d_jLong_compare_10 rfl rfl ?_
    refine wp_lload_n d_jLong_compare_11 rfl rfl ?_
    refine xl_ne (tgt := 20) d_jLong_compare_12 d_jLong_compare_13 (by decide) (w64_id hx0) (w64_id hx2) (fun h1 => ?_) (fun h1 => ?_)
    · have T := T.1 h1
      refine wp_iconst d_jLong_compare_20 ?_
      exact wp_ireturn d_jLong_compare_21 rfl id (Nat.zero_le _) (Nat.zero_le _) (kI_mk (g32_c (x := 1) rfl) T)
    · have T := T.2 h1
      refine wp_iconst d_jLong_compare_16 ?_
      refine wp_goto (tgt := 21) d_jLong_compare_17 (by decide) ?_
      exact wp_ireturn d_jLong_compare_21 rfl id (Nat.zero_le _) (Nat.zero_le _) (kI_mk (g32_c (x := 0) rfl) T)
  · have T := T.2 h2
    refine wp_iconst d_jLong_compare_6 ?_
    refine wp_goto (tgt := 21) d_jLong_compare_7 (by decide) ?_
    exact wp_ireturn d_jLong_compare_21 rfl id (Nat.zero_le _) (Nat.zero_le _) (kI_mk (g32_c (x := (-1)) rfl) T)
theorem e_jLong_compare {l : Launch} {G : gG} {d : Nat} {X : gX} {M : gM} {k : Int → gM → Prop}  {x0 : Int} {x2 : Int} (T : wp l G y_jLong_compare (gRm d) false (kkI X k) false 0 [.val (gL x0), .unset, .val (gL x2), .unset] [] X M 0 0) : cI l G y_jLong_compare (gRm d) false [gL x0, gL x2] X M k := cen_I (by decide +kernel) (by simp only [lg_sl_R, lg_sl_I, lg_sl_L, lg_sl_N, List.length_cons, List.length_nil]; decide) (by unfold gEn; simp only [lg_sl_R, lg_sl_I, lg_sl_L, lg_sl_N]; exact wpt T (And.intro rfl (And.intro rfl True.intro)))
theorem d_jMath_floorMod_0 : decode prog_23_method_52_code 0 = .ok (.lload_n 0, 1) := by decide +kernel
theorem d_jMath_floorMod_1 : decode prog_23_method_52_code 1 = .ok (.lload_n 2, 1) := by decide +kernel
theorem d_jMath_floorMod_2 : decode prog_23_method_52_code 2 = .ok (.lrem, 1) := by decide +kernel
theorem d_jMath_floorMod_3 : decode prog_23_method_52_code 3 = .ok (.lstore 4, 2) := by decide +kernel
theorem d_jMath_floorMod_5 : decode prog_23_method_52_code 5 = .ok (.lload_n 0, 1) := by decide +kernel
theorem d_jMath_floorMod_6 : decode prog_23_method_52_code 6 = .ok (.lload_n 2, 1) := by decide +kernel
theorem d_jMath_floorMod_7 : decode prog_23_method_52_code 7 = .ok (.lxor, 1) := by decide +kernel
theorem d_jMath_floorMod_8 : decode prog_23_method_52_code 8 = .ok (.lconst 0, 1) := by decide +kernel
theorem d_jMath_floorMod_9 : decode prog_23_method_52_code 9 = .ok (.lcmp, 1) := by decide +kernel
theorem d_jMath_floorMod_10 : decode prog_23_method_52_code 10 = .ok (.ifCond .ge 15, 3) := by decide +kernel
theorem d_jMath_floorMod_25 : decode prog_23_method_52_code 25 = .ok (.lload 4, 2) := by decide +kernel
theorem d_jMath_floorMod_27 : decode prog_23_method_52_code 27 = .ok (.lreturn, 1) := by decide +kernel
theorem d_jMath_floorMod_13 : decode prog_23_method_52_code 13 = .ok (.lload 4, 2) := by decide +kernel
theorem d_jMath_floorMod_15 : decode prog_23_method_52_code 15 = .ok (.lconst 0, 1) := by decide +kernel
theorem d_jMath_floorMod_16 : decode prog_23_method_52_code 16 = .ok (.lcmp, 1) := by decide +kernel
theorem d_jMath_floorMod_17 : decode prog_23_method_52_code 17 = .ok (.ifCond .eq 8, 3) := by decide +kernel
theorem d_jMath_floorMod_20 : decode prog_23_method_52_code 20 = .ok (.lload 4, 2) := by decide +kernel
theorem d_jMath_floorMod_22 : decode prog_23_method_52_code 22 = .ok (.lload_n 2, 1) := by decide +kernel
theorem d_jMath_floorMod_23 : decode prog_23_method_52_code 23 = .ok (.ladd, 1) := by decide +kernel
theorem d_jMath_floorMod_24 : decode prog_23_method_52_code 24 = .ok (.lreturn, 1) := by decide +kernel
set_option maxHeartbeats 4000000 in
theorem w_jMath_floorMod_0 {l : Launch} {G : gG} {d : Nat} {X : gX} {M : gM} {k : Int → gM → Prop}  {x0 : Int} (hx0 : g64 x0) {x2 : Int} (hx2 : g64 x2) (T : (x2 ≠ 0) ∧ ((0 ≤ gLxor x0 x2 → (k (w64 (x0.tmod x2)) M)) ∧ (¬ 0 ≤ gLxor x0 x2 → (((w64 (x0.tmod x2)) = 0 → (k (w64 (x0.tmod x2)) M)) ∧ (¬ (w64 (x0.tmod x2)) = 0 → (k (w64 ((x0.tmod x2) + x2)) M)))))) : wp l G y_jMath_floorMod (gRm d) false (kkL X k) false 0 [.val (gL x0), .unset, .val (gL x2), .unset, .unset, .unset] [] X M 0 0 := by
  refine wp_lload_n d_jMath_floorMod_0 rfl rfl ?_
  refine wp_lload_n d_jMath_floorMod_1 rfl rfl ?_
  refine xlrem d_jMath_floorMod_2 (w64_id hx0) (w64_id hx2) T.1 ?_
  have T := T.2
  refine wp_lstore (L' := [.val (gL x0), .unset, .val (gL x2), .unset, .val (gL (x0.tmod x2)), .unset]) d_jMath_floorMod_3 (by decide) rfl ?_
  refine wp_lload_n d_jMath_floorMod_5 rfl rfl ?_
  refine wp_lload_n d_jMath_floorMod_6 rfl rfl ?_
  refine wp_lxor d_jMath_floorMod_7 ?_
  refine wp_lconst0 d_jMath_floorMod_8 ?_
  refine xl_ge (tgt := 25) d_jMath_floorMod_9 d_jMath_floorMod_10 (by decide) (w64_id (gLxor_ok _ _)) (w64_id (g64_c (x := 0) rfl)) (fun h2 => ?_) (fun h2 => ?_)
  · have T := T.1 h2
    refine wp_lload d_jMath_floorMod_25 rfl ?_
    exact wp_st (st' := [gL (w64 (x0.tmod x2))]) (by rw [gL_w]) (wp_lreturn d_jMath_floorMod_27 rfl id (Nat.zero_le _) (Nat.zero_le _) (kL_mk (w64_ok _) T))
  · have T := T.2 h2
    refine wp_lload d_jMath_floorMod_13 rfl ?_
    refine wp_lconst0 d_jMath_floorMod_15 ?_
    refine xl_eq (tgt := 25) d_jMath_floorMod_16 d_jMath_floorMod_17 (by decide) rfl (w64_id (g64_c (x := 0) rfl)) (fun h1 => ?_) (fun h1 => ?_)
    · have T := T.1 h1
      refine wp_lload d_jMath_floorMod_25 rfl ?_
      exact wp_st (st' := [gL (w64 (x0.tmod x2))]) (by rw [gL_w]) (wp_lreturn d_jMath_floorMod_27 rfl id (Nat.zero_le _) (Nat.zero_le _) (kL_mk (w64_ok _) T))
    · have T := T.2 h1
      refine wp_lload d_jMath_floorMod_20 rfl ?_
      refine wp_lload_n d_jMath_floorMod_22 rfl rfl ?_
      refine wp_ladd d_jMath_floorMod_23 ?_
      exact wp_st (st' := [gL (w64 ((x0.tmod x2) + x2))]) (by rw [gL_w]) (wp_lreturn d_jMath_floorMod_24 rfl id (Nat.zero_le _) (Nat.zero_le _) (kL_mk (w64_ok _) T))
theorem e_jMath_floorMod {l : Launch} {G : gG} {d : Nat} {X : gX} {M : gM} {k : Int → gM → Prop}  {x0 : Int} {x2 : Int} (T : wp l G y_jMath_floorMod (gRm d) false (kkL X k) false 0 [.val (gL x0), .unset, .val (gL x2), .unset, .unset, .unset] [] X M 0 0) : cL l G y_jMath_floorMod (gRm d) false [gL x0, gL x2] X M k := cen_L (by decide +kernel) (by simp only [lg_sl_R, lg_sl_I, lg_sl_L, lg_sl_N, List.length_cons, List.length_nil]; decide) (by unfold gEn; simp only [lg_sl_R, lg_sl_I, lg_sl_L, lg_sl_N]; exact wpt T (And.intro rfl (And.intro rfl True.intro)))
theorem d_jMath_max_2_0 : decode prog_23_method_66_code 0 = .ok (.lload_n 0, 1) := by decide +kernel
theorem d_jMath_max_2_1 : decode prog_23_method_66_code 1 = .ok (.lload_n 2, 1) := by decide +kernel
theorem d_jMath_max_2_2 : decode prog_23_method_66_code 2 = .ok (.lcmp, 1) := by decide +kernel
theorem d_jMath_max_2_3 : decode prog_23_method_66_code 3 = .ok (.ifCond .lt 7, 3) := by decide +kernel
theorem d_jMath_max_2_10 : decode prog_23_method_66_code 10 = .ok (.lload_n 2, 1) := by decide +kernel
theorem d_jMath_max_2_11 : decode prog_23_method_66_code 11 = .ok (.lreturn, 1) := by decide +kernel
theorem d_jMath_max_2_6 : decode prog_23_method_66_code 6 = .ok (.lload_n 0, 1) := by decide +kernel
theorem d_jMath_max_2_7 : decode prog_23_method_66_code 7 = .ok (.goto 4, 3) := by decide +kernel
set_option maxHeartbeats 4000000 in
theorem w_jMath_max_2_0 {l : Launch} {G : gG} {d : Nat} {X : gX} {M : gM} {k : Int → gM → Prop}  {x0 : Int} (hx0 : g64 x0) {x2 : Int} (hx2 : g64 x2) (T : (x0 < x2 → (k x2 M)) ∧ (¬ x0 < x2 → (k x0 M))) : wp l G y_jMath_max_2 (gRm d) false (kkL X k) false 0 [.val (gL x0), .unset, .val (gL x2), .unset] [] X M 0 0 := by
  refine wp_lload_n d_jMath_max_2_0 rfl rfl ?_
  refine wp_lload_n d_jMath_max_2_1 rfl rfl ?_
  refine xl_lt (tgt := 10) d_jMath_max_2_2 d_jMath_max_2_3 (by decide) (w64_id hx0) (w64_id hx2) (fun h1 => ?_) (fun h1 => ?_)
  · have T := T.1 h1
    refine wp_lload_n d_jMath_max_2_10 rfl rfl ?_
    exact wp_lreturn d_jMath_max_2_11 rfl id (Nat.zero_le _) (Nat.zero_le _) (kL_mk hx2 T)
  · have T := T.2 h1
    refine wp_lload_n d_jMath_max_2_6 rfl rfl ?_
    refine wp_goto (tgt := 11) d_jMath_max_2_7 (by decide) ?_
    exact wp_lreturn d_jMath_max_2_11 rfl id (Nat.zero_le _) (Nat.zero_le _) (kL_mk hx0 T)
theorem e_jMath_max_2 {l : Launch} {G : gG} {d : Nat} {X : gX} {M : gM} {k : Int → gM → Prop}  {x0 : Int} {x2 : Int} (T : wp l G y_jMath_max_2 (gRm d) false (kkL X k) false 0 [.val (gL x0), .unset, .val (gL x2), .unset] [] X M 0 0) : cL l G y_jMath_max_2 (gRm d) false [gL x0, gL x2] X M k := cen_L (by decide +kernel) (by simp only [lg_sl_R, lg_sl_I, lg_sl_L, lg_sl_N, List.length_cons, List.length_nil]; decide) (by unfold gEn; simp only [lg_sl_R, lg_sl_I, lg_sl_L, lg_sl_N]; exact wpt T (And.intro rfl (And.intro rfl True.intro)))
theorem d_jLong_signum_0 : decode prog_22_method_57_code 0 = .ok (.lload_n 0, 1) := by decide +kernel
theorem d_jLong_signum_1 : decode prog_22_method_57_code 1 = .ok (.bipush 63, 2) := by decide +kernel
theorem d_jLong_signum_3 : decode prog_22_method_57_code 3 = .ok (.lshr, 1) := by decide +kernel
theorem d_jLong_signum_4 : decode prog_22_method_57_code 4 = .ok (.lload_n 0, 1) := by decide +kernel
theorem d_jLong_signum_5 : decode prog_22_method_57_code 5 = .ok (.lneg, 1) := by decide +kernel
theorem d_jLong_signum_6 : decode prog_22_method_57_code 6 = .ok (.bipush 63, 2) := by decide +kernel
theorem d_jLong_signum_8 : decode prog_22_method_57_code 8 = .ok (.lushr, 1) := by decide +kernel
theorem d_jLong_signum_9 : decode prog_22_method_57_code 9 = .ok (.lor, 1) := by decide +kernel
theorem d_jLong_signum_10 : decode prog_22_method_57_code 10 = .ok (.l2i, 1) := by decide +kernel
theorem d_jLong_signum_11 : decode prog_22_method_57_code 11 = .ok (.ireturn, 1) := by decide +kernel
set_option maxHeartbeats 4000000 in
theorem w_jLong_signum_0 {l : Launch} {G : gG} {d : Nat} {X : gX} {M : gM} {k : Int → gM → Prop}  {x0 : Int} (hx0 : g64 x0) (T : k (w32 (gLor (gLshr x0 63) (gLushr (-x0) 63))) M) : wp l G y_jLong_signum (gRm d) false (kkI X k) false 0 [.val (gL x0), .unset] [] X M 0 0 := by
  refine wp_lload_n d_jLong_signum_0 rfl rfl ?_
  refine wp_bipush d_jLong_signum_1 ⟨by decide, by decide⟩ ?_
  refine wp_lshr d_jLong_signum_3 ?_
  refine wp_lload_n d_jLong_signum_4 rfl rfl ?_
  refine wp_lneg d_jLong_signum_5 ?_
  refine wp_bipush d_jLong_signum_6 ⟨by decide, by decide⟩ ?_
  refine wp_lushr d_jLong_signum_8 ?_
  refine wp_lor d_jLong_signum_9 ?_
  refine wp_l2i d_jLong_signum_10 ?_
  exact wp_st (st' := [gI (w32 (gLor (gLshr x0 63) (gLushr (-x0) 63)))]) (by rw [gI_w]) (wp_ireturn d_jLong_signum_11 rfl id (Nat.zero_le _) (Nat.zero_le _) (kI_mk (w32_ok _) T))
theorem e_jLong_signum {l : Launch} {G : gG} {d : Nat} {X : gX} {M : gM} {k : Int → gM → Prop}  {x0 : Int} (T : wp l G y_jLong_signum (gRm d) false (kkI X k) false 0 [.val (gL x0), .unset] [] X M 0 0) : cI l G y_jLong_signum (gRm d) false [gL x0] X M k := cen_I (by decide +kernel) (by simp only [lg_sl_R, lg_sl_I, lg_sl_L, lg_sl_N, List.length_cons, List.length_nil]; decide) (by unfold gEn; simp only [lg_sl_R, lg_sl_I, lg_sl_L, lg_sl_N]; exact wpt T (And.intro rfl True.intro))
theorem d_GM_thrown_0 : decode prog_15_method_2_code 0 = .ok (.aload_n 0, 1) := by decide +kernel
theorem d_GM_thrown_1 : decode prog_15_method_2_code 1 = .ok (.getfield 157, 3) := by decide +kernel
theorem d_GM_thrown_4 : decode prog_15_method_2_code 4 = .ok (.ireturn, 1) := by decide +kernel
set_option maxHeartbeats 4000000 in
theorem w_GM_thrown_0 {l : Launch} {G : gG} {d : Nat} {X : gX} {M : gM} {k : Int → gM → Prop} {o : Nat} (hX : gmX X o)  (T : g32 (M o 0) → (k (M o 0) M)) : wp l G y_GM_thrown (gRm d) false (kkI X k) false 0 [.val (gR G o)] [] X M 0 0 := by
  refine wp_aload_n d_GM_thrown_0 rfl rfl (g_nz hX.1) ?_
  refine xgetI d_GM_thrown_1 gc_GM f_GM_157.1 f_GM_157.2.1 f_GM_157.2.2.1 hX.1 (gm_o2 hX) hX.2.2.1 f_GM_157.2.2.2.2.1 (fun h1 => ?_)
  have T := T h1
  exact wp_ireturn d_GM_thrown_4 rfl id (Nat.zero_le _) (Nat.zero_le _) (kI_mk h1 T)
theorem e_GM_thrown {l : Launch} {G : gG} {d : Nat} {X : gX} {M : gM} {k : Int → gM → Prop} {o : Nat} (T : wp l G y_GM_thrown (gRm d) false (kkI X k) false 0 [.val (gR G o)] [] X M 0 0) : cI l G y_GM_thrown (gRm d) false [gR G o] X M k := cen_I (plainFor_of_name rfl) (by simp only [lg_sl_R, lg_sl_I, lg_sl_L, lg_sl_N, List.length_cons, List.length_nil]; decide) (by unfold gEn; simp only [lg_sl_R, lg_sl_I, lg_sl_L, lg_sl_N]; exact wpt T (And.intro rfl True.intro))
theorem d_GM_no_0 : decode prog_15_method_3_code 0 = .ok (.aload_n 0, 1) := by decide +kernel
theorem d_GM_no_1 : decode prog_15_method_3_code 1 = .ok (.iload_n 1, 1) := by decide +kernel
theorem d_GM_no_2 : decode prog_15_method_3_code 2 = .ok (.putfield 157, 3) := by decide +kernel
theorem d_GM_no_5 : decode prog_15_method_3_code 5 = .ok (.iconst 0, 1) := by decide +kernel
theorem d_GM_no_6 : decode prog_15_method_3_code 6 = .ok (.ireturn, 1) := by decide +kernel
set_option maxHeartbeats 4000000 in
theorem w_GM_no_0 {l : Launch} {G : gG} {d : Nat} {X : gX} {M : gM} {k : Int → gM → Prop} {o : Nat} (hX : gmX X o) {x1 : Int} (hx1 : g32 x1) (T : k 0 (gUp M o 0 x1)) : wp l G y_GM_no (gRm d) true (kkI X k) false 0 [.val (gR G o), .val (gI x1)] [] X M 0 0 := by
  refine wp_aload_n d_GM_no_0 rfl rfl (g_nz hX.1) ?_
  refine wp_iload_n d_GM_no_1 rfl rfl ?_
  refine xputI d_GM_no_2 gc_GM f_GM_157.1 f_GM_157.2.1 f_GM_157.2.2.1 hX.1 (gm_o2 hX) hX.2.2.1 f_GM_157.2.2.2.1 f_GM_157.2.2.2.2.1 f_GM_157.2.2.2.2.2 (w32_id hx1) ?_
  refine wp_iconst d_GM_no_5 ?_
  exact wp_ireturn d_GM_no_6 rfl (fun _ => rfl) (Nat.zero_le _) (Nat.zero_le _) (kI_mk (g32_c (x := 0) rfl) T)
theorem e_GM_no {l : Launch} {G : gG} {d : Nat} {X : gX} {M : gM} {k : Int → gM → Prop} {o : Nat} {x1 : Int} (T : wp l G y_GM_no (gRm d) true (kkI X k) false 0 [.val (gR G o), .val (gI x1)] [] X M 0 0) : cI l G y_GM_no (gRm d) true [gR G o, gI x1] X M k := cen_I (plainFor_of_name rfl) (by simp only [lg_sl_R, lg_sl_I, lg_sl_L, lg_sl_N, List.length_cons, List.length_nil]; decide) (by unfold gEn; simp only [lg_sl_R, lg_sl_I, lg_sl_L, lg_sl_N]; exact wpt T (And.intro rfl (And.intro rfl True.intro)))
theorem d_GM_digit_0 : decode prog_15_method_4_code 0 = .ok (.iload_n 0, 1) := by decide +kernel
theorem d_GM_digit_1 : decode prog_15_method_4_code 1 = .ok (.bipush 48, 2) := by decide +kernel
theorem d_GM_digit_3 : decode prog_15_method_4_code 3 = .ok (.if_icmp .lt 13, 3) := by decide +kernel
theorem d_GM_digit_16 : decode prog_15_method_4_code 16 = .ok (.iconst 0, 1) := by decide +kernel
theorem d_GM_digit_17 : decode prog_15_method_4_code 17 = .ok (.ireturn, 1) := by decide +kernel
theorem d_GM_digit_6 : decode prog_15_method_4_code 6 = .ok (.iload_n 0, 1) := by decide +kernel
theorem d_GM_digit_7 : decode prog_15_method_4_code 7 = .ok (.bipush 57, 2) := by decide +kernel
theorem d_GM_digit_9 : decode prog_15_method_4_code 9 = .ok (.if_icmp .gt 7, 3) := by decide +kernel
theorem d_GM_digit_12 : decode prog_15_method_4_code 12 = .ok (.iconst 1, 1) := by decide +kernel
theorem d_GM_digit_13 : decode prog_15_method_4_code 13 = .ok (.goto 4, 3) := by decide +kernel
set_option maxHeartbeats 4000000 in
theorem w_GM_digit_0 {l : Launch} {G : gG} {d : Nat} {X : gX} {M : gM} {k : Int → gM → Prop}  {x0 : Int} (hx0 : g32 x0) (T : (x0 < 48 → (k 0 M)) ∧ (¬ x0 < 48 → ((57 < x0 → (k 0 M)) ∧ (¬ 57 < x0 → (k 1 M))))) : wp l G y_GM_digit (gRm d) false (kkZ X k) false 0 [.val (gI x0)] [] X M 0 0 := by
  refine wp_iload_n d_GM_digit_0 rfl rfl ?_
  refine wp_bipush d_GM_digit_1 ⟨by decide, by decide⟩ ?_
  refine xi_lt (tgt := 16) d_GM_digit_3 (by decide) (w32_id hx0) (w32_id (g32_c (x := 48) rfl)) (fun h2 => ?_) (fun h2 => ?_)
  · have T := T.1 h2
    refine wp_iconst d_GM_digit_16 ?_
    exact wp_zreturn d_GM_digit_17 rfl (g_narz (⟨by decide, by decide⟩ : (0 : Int) ≤ 0 ∧ (0 : Int) ≤ 1)) id (Nat.zero_le _) (Nat.zero_le _) (kZ_mk (⟨by decide, by decide⟩ : (0 : Int) ≤ 0 ∧ (0 : Int) ≤ 1) T)
  · have T := T.2 h2
    refine wp_iload_n d_GM_digit_6 rfl rfl ?_
    refine wp_bipush d_GM_digit_7 ⟨by decide, by decide⟩ ?_
    refine xi_gt (tgt := 16) d_GM_digit_9 (by decide) (w32_id hx0) (w32_id (g32_c (x := 57) rfl)) (fun h1 => ?_) (fun h1 => ?_)
    · have T := T.1 h1
      refine wp_iconst d_GM_digit_16 ?_
      exact wp_zreturn d_GM_digit_17 rfl (g_narz (⟨by decide, by decide⟩ : (0 : Int) ≤ 0 ∧ (0 : Int) ≤ 1)) id (Nat.zero_le _) (Nat.zero_le _) (kZ_mk (⟨by decide, by decide⟩ : (0 : Int) ≤ 0 ∧ (0 : Int) ≤ 1) T)
    · have T := T.2 h1
      refine wp_iconst d_GM_digit_12 ?_
      refine wp_goto (tgt := 17) d_GM_digit_13 (by decide) ?_
      exact wp_zreturn d_GM_digit_17 rfl (g_narz (⟨by decide, by decide⟩ : (0 : Int) ≤ 1 ∧ (1 : Int) ≤ 1)) id (Nat.zero_le _) (Nat.zero_le _) (kZ_mk (⟨by decide, by decide⟩ : (0 : Int) ≤ 1 ∧ (1 : Int) ≤ 1) T)
theorem e_GM_digit {l : Launch} {G : gG} {d : Nat} {X : gX} {M : gM} {k : Int → gM → Prop}  {x0 : Int} (T : wp l G y_GM_digit (gRm d) false (kkZ X k) false 0 [.val (gI x0)] [] X M 0 0) : cZ l G y_GM_digit (gRm d) false [gI x0] X M k := cen_Z (plainFor_of_name rfl) (by simp only [lg_sl_R, lg_sl_I, lg_sl_L, lg_sl_N, List.length_cons, List.length_nil]; decide) (by unfold gEn; simp only [lg_sl_R, lg_sl_I, lg_sl_L, lg_sl_N]; exact wpt T (And.intro rfl True.intro))
theorem d_GM_capital_0 : decode prog_15_method_5_code 0 = .ok (.iload_n 0, 1) := by decide +kernel
theorem d_GM_capital_1 : decode prog_15_method_5_code 1 = .ok (.bipush 65, 2) := by decide +kernel
theorem d_GM_capital_3 : decode prog_15_method_5_code 3 = .ok (.if_icmp .lt 13, 3) := by decide +kernel
theorem d_GM_capital_16 : decode prog_15_method_5_code 16 = .ok (.iconst 0, 1) := by decide +kernel
theorem d_GM_capital_17 : decode prog_15_method_5_code 17 = .ok (.ireturn, 1) := by decide +kernel
theorem d_GM_capital_6 : decode prog_15_method_5_code 6 = .ok (.iload_n 0, 1) := by decide +kernel
theorem d_GM_capital_7 : decode prog_15_method_5_code 7 = .ok (.bipush 90, 2) := by decide +kernel
theorem d_GM_capital_9 : decode prog_15_method_5_code 9 = .ok (.if_icmp .gt 7, 3) := by decide +kernel
theorem d_GM_capital_12 : decode prog_15_method_5_code 12 = .ok (.iconst 1, 1) := by decide +kernel
theorem d_GM_capital_13 : decode prog_15_method_5_code 13 = .ok (.goto 4, 3) := by decide +kernel
set_option maxHeartbeats 4000000 in
theorem w_GM_capital_0 {l : Launch} {G : gG} {d : Nat} {X : gX} {M : gM} {k : Int → gM → Prop}  {x0 : Int} (hx0 : g32 x0) (T : (x0 < 65 → (k 0 M)) ∧ (¬ x0 < 65 → ((90 < x0 → (k 0 M)) ∧ (¬ 90 < x0 → (k 1 M))))) : wp l G y_GM_capital (gRm d) false (kkZ X k) false 0 [.val (gI x0)] [] X M 0 0 := by
  refine wp_iload_n d_GM_capital_0 rfl rfl ?_
  refine wp_bipush d_GM_capital_1 ⟨by decide, by decide⟩ ?_
  refine xi_lt (tgt := 16) d_GM_capital_3 (by decide) (w32_id hx0) (w32_id (g32_c (x := 65) rfl)) (fun h2 => ?_) (fun h2 => ?_)
  · have T := T.1 h2
    refine wp_iconst d_GM_capital_16 ?_
    exact wp_zreturn d_GM_capital_17 rfl (g_narz (⟨by decide, by decide⟩ : (0 : Int) ≤ 0 ∧ (0 : Int) ≤ 1)) id (Nat.zero_le _) (Nat.zero_le _) (kZ_mk (⟨by decide, by decide⟩ : (0 : Int) ≤ 0 ∧ (0 : Int) ≤ 1) T)
  · have T := T.2 h2
    refine wp_iload_n d_GM_capital_6 rfl rfl ?_
    refine wp_bipush d_GM_capital_7 ⟨by decide, by decide⟩ ?_
    refine xi_gt (tgt := 16) d_GM_capital_9 (by decide) (w32_id hx0) (w32_id (g32_c (x := 90) rfl)) (fun h1 => ?_) (fun h1 => ?_)
    · have T := T.1 h1
      refine wp_iconst d_GM_capital_16 ?_
      exact wp_zreturn d_GM_capital_17 rfl (g_narz (⟨by decide, by decide⟩ : (0 : Int) ≤ 0 ∧ (0 : Int) ≤ 1)) id (Nat.zero_le _) (Nat.zero_le _) (kZ_mk (⟨by decide, by decide⟩ : (0 : Int) ≤ 0 ∧ (0 : Int) ≤ 1) T)
    · have T := T.2 h1
      refine wp_iconst d_GM_capital_12 ?_
      refine wp_goto (tgt := 17) d_GM_capital_13 (by decide) ?_
      exact wp_zreturn d_GM_capital_17 rfl (g_narz (⟨by decide, by decide⟩ : (0 : Int) ≤ 1 ∧ (1 : Int) ≤ 1)) id (Nat.zero_le _) (Nat.zero_le _) (kZ_mk (⟨by decide, by decide⟩ : (0 : Int) ≤ 1 ∧ (1 : Int) ≤ 1) T)
theorem e_GM_capital {l : Launch} {G : gG} {d : Nat} {X : gX} {M : gM} {k : Int → gM → Prop}  {x0 : Int} (T : wp l G y_GM_capital (gRm d) false (kkZ X k) false 0 [.val (gI x0)] [] X M 0 0) : cZ l G y_GM_capital (gRm d) false [gI x0] X M k := cen_Z (plainFor_of_name rfl) (by simp only [lg_sl_R, lg_sl_I, lg_sl_L, lg_sl_N, List.length_cons, List.length_nil]; decide) (by unfold gEn; simp only [lg_sl_R, lg_sl_I, lg_sl_L, lg_sl_N]; exact wpt T (And.intro rfl True.intro))
theorem d_GM_letter_0 : decode prog_15_method_6_code 0 = .ok (.iload_n 0, 1) := by decide +kernel
theorem d_GM_letter_1 : decode prog_15_method_6_code 1 = .ok (.invokestatic 161, 3) := by decide +kernel
theorem d_GM_letter_4 : decode prog_15_method_6_code 4 = .ok (.ifCond .ne 15, 3) := by decide +kernel
theorem d_GM_letter_19 : decode prog_15_method_6_code 19 = .ok (.iconst 1, 1) := by decide +kernel
theorem d_GM_letter_20 : decode prog_15_method_6_code 20 = .ok (.goto 4, 3) := by decide +kernel
theorem d_GM_letter_24 : decode prog_15_method_6_code 24 = .ok (.ireturn, 1) := by decide +kernel
theorem d_GM_letter_7 : decode prog_15_method_6_code 7 = .ok (.iload_n 0, 1) := by decide +kernel
theorem d_GM_letter_8 : decode prog_15_method_6_code 8 = .ok (.bipush 97, 2) := by decide +kernel
theorem d_GM_letter_10 : decode prog_15_method_6_code 10 = .ok (.if_icmp .lt 13, 3) := by decide +kernel
theorem d_GM_letter_23 : decode prog_15_method_6_code 23 = .ok (.iconst 0, 1) := by decide +kernel
theorem d_GM_letter_13 : decode prog_15_method_6_code 13 = .ok (.iload_n 0, 1) := by decide +kernel
theorem d_GM_letter_14 : decode prog_15_method_6_code 14 = .ok (.bipush 122, 2) := by decide +kernel
theorem d_GM_letter_16 : decode prog_15_method_6_code 16 = .ok (.if_icmp .gt 7, 3) := by decide +kernel
set_option maxHeartbeats 4000000 in
theorem w_GM_letter_0 {l : Launch} {G : gG} {d : Nat} {X : gX} {M : gM} {k : Int → gM → Prop}  {x0 : Int} (hx0 : g32 x0) (T : cZ l G y_GM_capital (gRm d) false [gI x0] X M (fun v2 M1 => ((¬ v2 = 0 → (k 1 M1)) ∧ (v2 = 0 → ((x0 < 97 → (k 0 M1)) ∧ (¬ x0 < 97 → ((122 < x0 → (k 0 M1)) ∧ (¬ 122 < x0 → (k 1 M1))))))))) : wp l G y_GM_letter (gRm (d + 1)) false (kkZ X k) false 0 [.val (gI x0)] [] X M 0 0 := by
  refine wp_iload_n d_GM_letter_0 rfl rfl ?_
  refine xcS_Z (md' := false) (As := [gI x0]) (st := []) d_GM_letter_1 ca_GM_capital ml_GM_161 sm_GM_capital rfl (by decide) (by decide) rfl id id T (fun v2 M1 h3 T => ?_)
  refine xz_ne (tgt := 19) d_GM_letter_4 (by decide) (w32_id (g32_z h3)) (fun h6 => ?_) (fun h6 => ?_)
  · have T := T.1 h6
    refine wp_iconst d_GM_letter_19 ?_
    refine wp_goto (tgt := 24) d_GM_letter_20 (by decide) ?_
    exact wp_zreturn d_GM_letter_24 rfl (g_narz (⟨by decide, by decide⟩ : (0 : Int) ≤ 1 ∧ (1 : Int) ≤ 1)) id (Nat.zero_le _) (Nat.zero_le _) (kZ_mk (⟨by decide, by decide⟩ : (0 : Int) ≤ 1 ∧ (1 : Int) ≤ 1) T)
  · have T := T.2 h6
    refine wp_iload_n d_GM_letter_7 rfl rfl ?_
    refine wp_bipush d_GM_letter_8 ⟨by decide, by decide⟩ ?_
    refine xi_lt (tgt := 23) d_GM_letter_10 (by decide) (w32_id hx0) (w32_id (g32_c (x := 97) rfl)) (fun h5 => ?_) (fun h5 => ?_)
    · have T := T.1 h5
      refine wp_iconst d_GM_letter_23 ?_
      exact wp_zreturn d_GM_letter_24 rfl (g_narz (⟨by decide, by decide⟩ : (0 : Int) ≤ 0 ∧ (0 : Int) ≤ 1)) id (Nat.zero_le _) (Nat.zero_le _) (kZ_mk (⟨by decide, by decide⟩ : (0 : Int) ≤ 0 ∧ (0 : Int) ≤ 1) T)
    · have T := T.2 h5
      refine wp_iload_n d_GM_letter_13 rfl rfl ?_
      refine wp_bipush d_GM_letter_14 ⟨by decide, by decide⟩ ?_
      refine xi_gt (tgt := 23) d_GM_letter_16 (by decide) (w32_id hx0) (w32_id (g32_c (x := 122) rfl)) (fun h4 => ?_) (fun h4 => ?_)
      · have T := T.1 h4
        refine wp_iconst d_GM_letter_23 ?_
        exact wp_zreturn d_GM_letter_24 rfl (g_narz (⟨by decide, by decide⟩ : (0 : Int) ≤ 0 ∧ (0 : Int) ≤ 1)) id (Nat.zero_le _) (Nat.zero_le _) (kZ_mk (⟨by decide, by decide⟩ : (0 : Int) ≤ 0 ∧ (0 : Int) ≤ 1) T)
      · have T := T.2 h4
        refine wp_iconst d_GM_letter_19 ?_
        refine wp_goto (tgt := 24) d_GM_letter_20 (by decide) ?_
        exact wp_zreturn d_GM_letter_24 rfl (g_narz (⟨by decide, by decide⟩ : (0 : Int) ≤ 1 ∧ (1 : Int) ≤ 1)) id (Nat.zero_le _) (Nat.zero_le _) (kZ_mk (⟨by decide, by decide⟩ : (0 : Int) ≤ 1 ∧ (1 : Int) ≤ 1) T)
theorem e_GM_letter {l : Launch} {G : gG} {d : Nat} {X : gX} {M : gM} {k : Int → gM → Prop}  {x0 : Int} (T : wp l G y_GM_letter (gRm (d + 1)) false (kkZ X k) false 0 [.val (gI x0)] [] X M 0 0) : cZ l G y_GM_letter (gRm (d + 1)) false [gI x0] X M k := cen_Z (plainFor_of_name rfl) (by simp only [lg_sl_R, lg_sl_I, lg_sl_L, lg_sl_N, List.length_cons, List.length_nil]; decide) (by unfold gEn; simp only [lg_sl_R, lg_sl_I, lg_sl_L, lg_sl_N]; exact wpt T (And.intro rfl True.intro))
theorem d_GM_isNumber_0 : decode prog_15_method_7_code 0 = .ok (.iload_n 2, 1) := by decide +kernel
theorem d_GM_isNumber_1 : decode prog_15_method_7_code 1 = .ok (.iload_n 3, 1) := by decide +kernel
theorem d_GM_isNumber_2 : decode prog_15_method_7_code 2 = .ok (.if_icmp .ge 15, 3) := by decide +kernel
theorem d_GM_isNumber_17 : decode prog_15_method_7_code 17 = .ok (.iconst 0, 1) := by decide +kernel
theorem d_GM_isNumber_18 : decode prog_15_method_7_code 18 = .ok (.istore 4, 2) := by decide +kernel
theorem d_GM_isNumber_20 : decode prog_15_method_7_code 20 = .ok (.iload 4, 2) := by decide +kernel
theorem d_GM_isNumber_22 : decode prog_15_method_7_code 22 = .ok (.ifCond .eq 9, 3) := by decide +kernel
theorem d_GM_isNumber_31 : decode prog_15_method_7_code 31 = .ok (.iload_n 2, 1) := by decide +kernel
theorem d_GM_isNumber_32 : decode prog_15_method_7_code 32 = .ok (.istore 5, 2) := by decide +kernel
theorem d_GM_isNumber_34 : decode prog_15_method_7_code 34 = .ok (.iload 5, 2) := by decide +kernel
theorem d_GM_isNumber_36 : decode prog_15_method_7_code 36 = .ok (.iload_n 3, 1) := by decide +kernel
theorem d_GM_isNumber_37 : decode prog_15_method_7_code 37 = .ok (.if_icmp .lt 5, 3) := by decide +kernel
theorem d_GM_isNumber_42 : decode prog_15_method_7_code 42 = .ok (.lconst 0, 1) := by decide +kernel
theorem d_GM_isNumber_43 : decode prog_15_method_7_code 43 = .ok (.lstore 6, 2) := by decide +kernel
theorem d_GM_isNumber_40 : decode prog_15_method_7_code 40 = .ok (.iconst 0, 1) := by decide +kernel
theorem d_GM_isNumber_41 : decode prog_15_method_7_code 41 = .ok (.ireturn, 1) := by decide +kernel
theorem d_GM_isNumber_25 : decode prog_15_method_7_code 25 = .ok (.iload_n 2, 1) := by decide +kernel
theorem d_GM_isNumber_26 : decode prog_15_method_7_code 26 = .ok (.iconst 1, 1) := by decide +kernel
theorem d_GM_isNumber_27 : decode prog_15_method_7_code 27 = .ok (.iadd, 1) := by decide +kernel
theorem d_GM_isNumber_28 : decode prog_15_method_7_code 28 = .ok (.goto 4, 3) := by decide +kernel
theorem d_GM_isNumber_5 : decode prog_15_method_7_code 5 = .ok (.aload_n 1, 1) := by decide +kernel
theorem d_GM_isNumber_6 : decode prog_15_method_7_code 6 = .ok (.iload_n 2, 1) := by decide +kernel
theorem d_GM_isNumber_7 : decode prog_15_method_7_code 7 = .ok (.baload, 1) := by decide +kernel
theorem d_GM_isNumber_8 : decode prog_15_method_7_code 8 = .ok (.bipush 45, 2) := by decide +kernel
theorem d_GM_isNumber_10 : decode prog_15_method_7_code 10 = .ok (.if_icmp .ne 7, 3) := by decide +kernel
theorem d_GM_isNumber_13 : decode prog_15_method_7_code 13 = .ok (.iconst 1, 1) := by decide +kernel
theorem d_GM_isNumber_14 : decode prog_15_method_7_code 14 = .ok (.goto 4, 3) := by decide +kernel
theorem d_GM_isNumber_45 : decode prog_15_method_7_code 45 = .ok (.iload 5, 2) := by decide +kernel
theorem d_GM_isNumber_47 : decode prog_15_method_7_code 47 = .ok (.iload_n 3, 1) := by decide +kernel
theorem d_GM_isNumber_48 : decode prog_15_method_7_code 48 = .ok (.if_icmp .ge 61, 3) := by decide +kernel
theorem d_GM_isNumber_109 : decode prog_15_method_7_code 109 = .ok (.iload 4, 2) := by decide +kernel
theorem d_GM_isNumber_111 : decode prog_15_method_7_code 111 = .ok (.ifCond .ne 14, 3) := by decide +kernel
theorem d_GM_isNumber_125 : decode prog_15_method_7_code 125 = .ok (.aload_n 0, 1) := by decide +kernel
theorem d_GM_isNumber_126 : decode prog_15_method_7_code 126 = .ok (.iload 4, 2) := by decide +kernel
theorem d_GM_isNumber_128 : decode prog_15_method_7_code 128 = .ok (.ifCond .eq 8, 3) := by decide +kernel
theorem d_GM_isNumber_136 : decode prog_15_method_7_code 136 = .ok (.lload 6, 2) := by decide +kernel
theorem d_GM_isNumber_138 : decode prog_15_method_7_code 138 = .ok (.lneg, 1) := by decide +kernel
theorem d_GM_isNumber_139 : decode prog_15_method_7_code 139 = .ok (.putfield 174, 3) := by decide +kernel
theorem d_GM_isNumber_142 : decode prog_15_method_7_code 142 = .ok (.iconst 1, 1) := by decide +kernel
theorem d_GM_isNumber_143 : decode prog_15_method_7_code 143 = .ok (.ireturn, 1) := by decide +kernel
theorem d_GM_isNumber_131 : decode prog_15_method_7_code 131 = .ok (.lload 6, 2) := by decide +kernel
theorem d_GM_isNumber_133 : decode prog_15_method_7_code 133 = .ok (.goto 6, 3) := by decide +kernel
theorem d_GM_isNumber_114 : decode prog_15_method_7_code 114 = .ok (.lload 6, 2) := by decide +kernel
theorem d_GM_isNumber_116 : decode prog_15_method_7_code 116 = .ok (.ldc2_w 170, 3) := by decide +kernel
theorem d_GM_isNumber_119 : decode prog_15_method_7_code 119 = .ok (.lcmp, 1) := by decide +kernel
theorem d_GM_isNumber_120 : decode prog_15_method_7_code 120 = .ok (.ifCond .ne 5, 3) := by decide +kernel
theorem d_GM_isNumber_123 : decode prog_15_method_7_code 123 = .ok (.iconst 0, 1) := by decide +kernel
theorem d_GM_isNumber_124 : decode prog_15_method_7_code 124 = .ok (.ireturn, 1) := by decide +kernel
theorem d_GM_isNumber_51 : decode prog_15_method_7_code 51 = .ok (.aload_n 1, 1) := by decide +kernel
theorem d_GM_isNumber_52 : decode prog_15_method_7_code 52 = .ok (.iload 5, 2) := by decide +kernel
theorem d_GM_isNumber_54 : decode prog_15_method_7_code 54 = .ok (.baload, 1) := by decide +kernel
theorem d_GM_isNumber_55 : decode prog_15_method_7_code 55 = .ok (.invokestatic 165, 3) := by decide +kernel
theorem d_GM_isNumber_58 : decode prog_15_method_7_code 58 = .ok (.ifCond .ne 5, 3) := by decide +kernel
theorem d_GM_isNumber_63 : decode prog_15_method_7_code 63 = .ok (.aload_n 1, 1) := by decide +kernel
theorem d_GM_isNumber_64 : decode prog_15_method_7_code 64 = .ok (.iload 5, 2) := by decide +kernel
theorem d_GM_isNumber_66 : decode prog_15_method_7_code 66 = .ok (.baload, 1) := by decide +kernel
theorem d_GM_isNumber_67 : decode prog_15_method_7_code 67 = .ok (.bipush 48, 2) := by decide +kernel
theorem d_GM_isNumber_69 : decode prog_15_method_7_code 69 = .ok (.isub, 1) := by decide +kernel
theorem d_GM_isNumber_70 : decode prog_15_method_7_code 70 = .ok (.istore 8, 2) := by decide +kernel
theorem d_GM_isNumber_72 : decode prog_15_method_7_code 72 = .ok (.lload 6, 2) := by decide +kernel
theorem d_GM_isNumber_74 : decode prog_15_method_7_code 74 = .ok (.ldc2_w 170, 3) := by decide +kernel
theorem d_GM_isNumber_77 : decode prog_15_method_7_code 77 = .ok (.iload 8, 2) := by decide +kernel
theorem d_GM_isNumber_79 : decode prog_15_method_7_code 79 = .ok (.i2l, 1) := by decide +kernel
theorem d_GM_isNumber_80 : decode prog_15_method_7_code 80 = .ok (.ladd, 1) := by decide +kernel
theorem d_GM_isNumber_81 : decode prog_15_method_7_code 81 = .ok (.ldc2_w 172, 3) := by decide +kernel
theorem d_GM_isNumber_84 : decode prog_15_method_7_code 84 = .ok (.ldiv, 1) := by decide +kernel
theorem d_GM_isNumber_85 : decode prog_15_method_7_code 85 = .ok (.lcmp, 1) := by decide +kernel
theorem d_GM_isNumber_86 : decode prog_15_method_7_code 86 = .ok (.ifCond .ge 5, 3) := by decide +kernel
theorem d_GM_isNumber_91 : decode prog_15_method_7_code 91 = .ok (.lload 6, 2) := by decide +kernel
theorem d_GM_isNumber_93 : decode prog_15_method_7_code 93 = .ok (.ldc2_w 172, 3) := by decide +kernel
theorem d_GM_isNumber_96 : decode prog_15_method_7_code 96 = .ok (.lmul, 1) := by decide +kernel
theorem d_GM_isNumber_97 : decode prog_15_method_7_code 97 = .ok (.iload 8, 2) := by decide +kernel
theorem d_GM_isNumber_99 : decode prog_15_method_7_code 99 = .ok (.i2l, 1) := by decide +kernel
theorem d_GM_isNumber_100 : decode prog_15_method_7_code 100 = .ok (.lsub, 1) := by decide +kernel
theorem d_GM_isNumber_101 : decode prog_15_method_7_code 101 = .ok (.lstore 6, 2) := by decide +kernel
theorem d_GM_isNumber_103 : decode prog_15_method_7_code 103 = .ok (.iinc 5 1, 3) := by decide +kernel
theorem d_GM_isNumber_106 : decode prog_15_method_7_code 106 = .ok (.goto (-61), 3) := by decide +kernel
theorem d_GM_isNumber_89 : decode prog_15_method_7_code 89 = .ok (.iconst 0, 1) := by decide +kernel
theorem d_GM_isNumber_90 : decode prog_15_method_7_code 90 = .ok (.ireturn, 1) := by decide +kernel
theorem d_GM_isNumber_61 : decode prog_15_method_7_code 61 = .ok (.iconst 0, 1) := by decide +kernel
theorem d_GM_isNumber_62 : decode prog_15_method_7_code 62 = .ok (.ireturn, 1) := by decide +kernel
set_option maxHeartbeats 4000000 in
theorem w_GM_isNumber_0 {l : Launch} {G : gG} {d : Nat} {X : gX} {M : gM} {k : Int → gM → Prop} {o : Nat} (hX : gmX X o) {r1 n1 : Nat} (hr1 : 1 ≤ r1 ∧ r1 ≤ X.1 ∧ X.2.1 r1 = (2, n1) ∧ n1 ≤ 2147483648) {x2 : Int} (hx2 : g32 x2) {x3 : Int} (hx3 : g32 x3) (T : (x3 ≤ x2 → (((0 : Int) = 0 → ((x2 < x3 → (wp l G y_GM_isNumber (gRm (d + 1)) true (kkZ X k) true 45 [.val (gR G o), .val (gR G r1), .unset, .val (gI x3), .val (gI 0), .val (gI x2), .val (gL 0), .unset, .unset] [] X M 0 0)) ∧ (¬ x2 < x3 → (k 0 M)))) ∧ (¬ (0 : Int) = 0 → (((w32 (x2 + 1)) < x3 → (wp l G y_GM_isNumber (gRm (d + 1)) true (kkZ X k) true 45 [.val (gR G o), .val (gR G r1), .unset, .val (gI x3), .val (gI 0), .val (gI (w32 (x2 + 1))), .val (gL 0), .unset, .unset] [] X M 0 0)) ∧ (¬ (w32 (x2 + 1)) < x3 → (k 0 M)))))) ∧ (¬ x3 ≤ x2 → (((0 : Int) ≤ x2 ∧ x2 < (n1 : Int)) ∧ ((-128 ≤ M r1 (Int.toNat x2) ∧ M r1 (Int.toNat x2) < 128) → ((¬ M r1 (Int.toNat x2) = 45 → (((0 : Int) = 0 → ((x2 < x3 → (wp l G y_GM_isNumber (gRm (d + 1)) true (kkZ X k) true 45 [.val (gR G o), .val (gR G r1), .unset, .val (gI x3), .val (gI 0), .val (gI x2), .val (gL 0), .unset, .unset] [] X M 0 0)) ∧ (¬ x2 < x3 → (k 0 M)))) ∧ (¬ (0 : Int) = 0 → (((w32 (x2 + 1)) < x3 → (wp l G y_GM_isNumber (gRm (d + 1)) true (kkZ X k) true 45 [.val (gR G o), .val (gR G r1), .unset, .val (gI x3), .val (gI 0), .val (gI (w32 (x2 + 1))), .val (gL 0), .unset, .unset] [] X M 0 0)) ∧ (¬ (w32 (x2 + 1)) < x3 → (k 0 M)))))) ∧ (M r1 (Int.toNat x2) = 45 → (((1 : Int) = 0 → ((x2 < x3 → (wp l G y_GM_isNumber (gRm (d + 1)) true (kkZ X k) true 45 [.val (gR G o), .val (gR G r1), .unset, .val (gI x3), .val (gI 1), .val (gI x2), .val (gL 0), .unset, .unset] [] X M 0 0)) ∧ (¬ x2 < x3 → (k 0 M)))) ∧ (¬ (1 : Int) = 0 → (((w32 (x2 + 1)) < x3 → (wp l G y_GM_isNumber (gRm (d + 1)) true (kkZ X k) true 45 [.val (gR G o), .val (gR G r1), .unset, .val (gI x3), .val (gI 1), .val (gI (w32 (x2 + 1))), .val (gL 0), .unset, .unset] [] X M 0 0)) ∧ (¬ (w32 (x2 + 1)) < x3 → (k 0 M))))))))))) : wp l G y_GM_isNumber (gRm (d + 1)) true (kkZ X k) false 0 [.val (gR G o), .val (gR G r1), .val (gI x2), .val (gI x3), .unset, .unset, .unset, .unset, .unset] [] X M 0 0 := by
  refine wp_iload_n d_GM_isNumber_0 rfl rfl ?_
  refine wp_iload_n d_GM_isNumber_1 rfl rfl ?_
  refine xi_ge (tgt := 17) d_GM_isNumber_2 (by decide) (w32_id hx2) (w32_id hx3) (fun h12 => ?_) (fun h12 => ?_)
  · have T := T.1 h12
    refine wp_iconst d_GM_isNumber_17 ?_
    refine wp_istore (L' := [.val (gR G o), .val (gR G r1), .val (gI x2), .val (gI x3), .val (gI 0), .unset, .unset, .unset, .unset]) d_GM_isNumber_18 (by decide) rfl ?_
    refine wp_iload d_GM_isNumber_20 rfl ?_
    refine xz_eq (tgt := 31) d_GM_isNumber_22 (by decide) (w32_id (g32_c (x := 0) rfl)) (fun h3 => ?_) (fun h3 => ?_)
    · have T := T.1 h3
      refine wp_iload_n d_GM_isNumber_31 rfl rfl ?_
      refine wp_istore (L' := [.val (gR G o), .val (gR G r1), .val (gI x2), .val (gI x3), .val (gI 0), .val (gI x2), .unset, .unset, .unset]) d_GM_isNumber_32 (by decide) rfl ?_
      refine wp_iload d_GM_isNumber_34 rfl ?_
      refine wp_iload_n d_GM_isNumber_36 rfl rfl ?_
      refine xi_lt (tgt := 42) d_GM_isNumber_37 (by decide) (w32_id hx2) (w32_id hx3) (fun h1 => ?_) (fun h1 => ?_)
      · have T := T.1 h1
        refine wp_lconst0 d_GM_isNumber_42 ?_
        refine wp_lstore (L' := [.val (gR G o), .val (gR G r1), .val (gI x2), .val (gI x3), .val (gI 0), .val (gI x2), .val (gL 0), .unset, .unset]) d_GM_isNumber_43 (by decide) rfl ?_
        exact wp_md (wpt T (And.intro rfl (And.intro rfl (And.intro rfl (And.intro rfl (And.intro rfl (And.intro rfl True.intro)))))))
      · have T := T.2 h1
        refine wp_iconst d_GM_isNumber_40 ?_
        exact wp_zreturn d_GM_isNumber_41 rfl (g_narz (⟨by decide, by decide⟩ : (0 : Int) ≤ 0 ∧ (0 : Int) ≤ 1)) (fun _ => rfl) (Nat.zero_le _) (Nat.zero_le _) (kZ_mk (⟨by decide, by decide⟩ : (0 : Int) ≤ 0 ∧ (0 : Int) ≤ 1) T)
    · have T := T.2 h3
      refine wp_iload_n d_GM_isNumber_25 rfl rfl ?_
      refine wp_iconst d_GM_isNumber_26 ?_
      refine wp_iadd d_GM_isNumber_27 ?_
      refine wp_goto (tgt := 32) d_GM_isNumber_28 (by decide) ?_
      refine wp_istore (L' := [.val (gR G o), .val (gR G r1), .val (gI x2), .val (gI x3), .val (gI 0), .val (gI (x2 + 1)), .unset, .unset, .unset]) d_GM_isNumber_32 (by decide) rfl ?_
      refine wp_iload d_GM_isNumber_34 rfl ?_
      refine wp_iload_n d_GM_isNumber_36 rfl rfl ?_
      refine xi_lt (tgt := 42) d_GM_isNumber_37 (by decide) rfl (w32_id hx3) (fun h2 => ?_) (fun h2 => ?_)
      · have T := T.1 h2
        refine wp_lconst0 d_GM_isNumber_42 ?_
        refine wp_lstore (L' := [.val (gR G o), .val (gR G r1), .val (gI x2), .val (gI x3), .val (gI 0), .val (gI (x2 + 1)), .val (gL 0), .unset, .unset]) d_GM_isNumber_43 (by decide) rfl ?_
        exact wp_md (wpt T (And.intro rfl (And.intro rfl (And.intro rfl (And.intro rfl (And.intro (gI_w _) (And.intro rfl True.intro)))))))
      · have T := T.2 h2
        refine wp_iconst d_GM_isNumber_40 ?_
        exact wp_zreturn d_GM_isNumber_41 rfl (g_narz (⟨by decide, by decide⟩ : (0 : Int) ≤ 0 ∧ (0 : Int) ≤ 1)) (fun _ => rfl) (Nat.zero_le _) (Nat.zero_le _) (kZ_mk (⟨by decide, by decide⟩ : (0 : Int) ≤ 0 ∧ (0 : Int) ≤ 1) T)
  · have T := T.2 h12
    refine wp_aload_n d_GM_isNumber_5 rfl rfl (g_nz hr1.1) ?_
    refine wp_iload_n d_GM_isNumber_6 rfl rfl ?_
    refine wp_baload d_GM_isNumber_7 hr1.1 hr1.2.1 hr1.2.2.1 (g32_n T.1 hr1.2.2.2) T.1.1 T.1.2 (fun h4 => ?_)
    have T := T.2 h4
    refine wp_bipush d_GM_isNumber_8 ⟨by decide, by decide⟩ ?_
    refine xi_ne (tgt := 17) d_GM_isNumber_10 (by decide) (w32_id (g32_b h4)) (w32_id (g32_c (x := 45) rfl)) (fun h11 => ?_) (fun h11 => ?_)
    · have T := T.1 h11
      refine wp_iconst d_GM_isNumber_17 ?_
      refine wp_istore (L' := [.val (gR G o), .val (gR G r1), .val (gI x2), .val (gI x3), .val (gI 0), .unset, .unset, .unset, .unset]) d_GM_isNumber_18 (by decide) rfl ?_
      refine wp_iload d_GM_isNumber_20 rfl ?_
      refine xz_eq (tgt := 31) d_GM_isNumber_22 (by decide) (w32_id (g32_c (x := 0) rfl)) (fun h7 => ?_) (fun h7 => ?_)
      · have T := T.1 h7
        refine wp_iload_n d_GM_isNumber_31 rfl rfl ?_
        refine wp_istore (L' := [.val (gR G o), .val (gR G r1), .val (gI x2), .val (gI x3), .val (gI 0), .val (gI x2), .unset, .unset, .unset]) d_GM_isNumber_32 (by decide) rfl ?_
        refine wp_iload d_GM_isNumber_34 rfl ?_
        refine wp_iload_n d_GM_isNumber_36 rfl rfl ?_
        refine xi_lt (tgt := 42) d_GM_isNumber_37 (by decide) (w32_id hx2) (w32_id hx3) (fun h5 => ?_) (fun h5 => ?_)
        · have T := T.1 h5
          refine wp_lconst0 d_GM_isNumber_42 ?_
          refine wp_lstore (L' := [.val (gR G o), .val (gR G r1), .val (gI x2), .val (gI x3), .val (gI 0), .val (gI x2), .val (gL 0), .unset, .unset]) d_GM_isNumber_43 (by decide) rfl ?_
          exact wp_md (wpt T (And.intro rfl (And.intro rfl (And.intro rfl (And.intro rfl (And.intro rfl (And.intro rfl True.intro)))))))
        · have T := T.2 h5
          refine wp_iconst d_GM_isNumber_40 ?_
          exact wp_zreturn d_GM_isNumber_41 rfl (g_narz (⟨by decide, by decide⟩ : (0 : Int) ≤ 0 ∧ (0 : Int) ≤ 1)) (fun _ => rfl) (Nat.zero_le _) (Nat.zero_le _) (kZ_mk (⟨by decide, by decide⟩ : (0 : Int) ≤ 0 ∧ (0 : Int) ≤ 1) T)
      · have T := T.2 h7
        refine wp_iload_n d_GM_isNumber_25 rfl rfl ?_
        refine wp_iconst d_GM_isNumber_26 ?_
        refine wp_iadd d_GM_isNumber_27 ?_
        refine wp_goto (tgt := 32) d_GM_isNumber_28 (by decide) ?_
        refine wp_istore (L' := [.val (gR G o), .val (gR G r1), .val (gI x2), .val (gI x3), .val (gI 0), .val (gI (x2 + 1)), .unset, .unset, .unset]) d_GM_isNumber_32 (by decide) rfl ?_
        refine wp_iload d_GM_isNumber_34 rfl ?_
        refine wp_iload_n d_GM_isNumber_36 rfl rfl ?_
        refine xi_lt (tgt := 42) d_GM_isNumber_37 (by decide) rfl (w32_id hx3) (fun h6 => ?_) (fun h6 => ?_)
        · have T := T.1 h6
          refine wp_lconst0 d_GM_isNumber_42 ?_
          refine wp_lstore (L' := [.val (gR G o), .val (gR G r1), .val (gI x2), .val (gI x3), .val (gI 0), .val (gI (x2 + 1)), .val (gL 0), .unset, .unset]) d_GM_isNumber_43 (by decide) rfl ?_
          exact wp_md (wpt T (And.intro rfl (And.intro rfl (And.intro rfl (And.intro rfl (And.intro (gI_w _) (And.intro rfl True.intro)))))))
        · have T := T.2 h6
          refine wp_iconst d_GM_isNumber_40 ?_
          exact wp_zreturn d_GM_isNumber_41 rfl (g_narz (⟨by decide, by decide⟩ : (0 : Int) ≤ 0 ∧ (0 : Int) ≤ 1)) (fun _ => rfl) (Nat.zero_le _) (Nat.zero_le _) (kZ_mk (⟨by decide, by decide⟩ : (0 : Int) ≤ 0 ∧ (0 : Int) ≤ 1) T)
    · have T := T.2 h11
      refine wp_iconst d_GM_isNumber_13 ?_
      refine wp_goto (tgt := 18) d_GM_isNumber_14 (by decide) ?_
      refine wp_istore (L' := [.val (gR G o), .val (gR G r1), .val (gI x2), .val (gI x3), .val (gI 1), .unset, .unset, .unset, .unset]) d_GM_isNumber_18 (by decide) rfl ?_
      refine wp_iload d_GM_isNumber_20 rfl ?_
      refine xz_eq (tgt := 31) d_GM_isNumber_22 (by decide) (w32_id (g32_c (x := 1) rfl)) (fun h10 => ?_) (fun h10 => ?_)
      · have T := T.1 h10
        refine wp_iload_n d_GM_isNumber_31 rfl rfl ?_
        refine wp_istore (L' := [.val (gR G o), .val (gR G r1), .val (gI x2), .val (gI x3), .val (gI 1), .val (gI x2), .unset, .unset, .unset]) d_GM_isNumber_32 (by decide) rfl ?_
        refine wp_iload d_GM_isNumber_34 rfl ?_
        refine wp_iload_n d_GM_isNumber_36 rfl rfl ?_
        refine xi_lt (tgt := 42) d_GM_isNumber_37 (by decide) (w32_id hx2) (w32_id hx3) (fun h8 => ?_) (fun h8 => ?_)
        · have T := T.1 h8
          refine wp_lconst0 d_GM_isNumber_42 ?_
          refine wp_lstore (L' := [.val (gR G o), .val (gR G r1), .val (gI x2), .val (gI x3), .val (gI 1), .val (gI x2), .val (gL 0), .unset, .unset]) d_GM_isNumber_43 (by decide) rfl ?_
          exact wp_md (wpt T (And.intro rfl (And.intro rfl (And.intro rfl (And.intro rfl (And.intro rfl (And.intro rfl True.intro)))))))
        · have T := T.2 h8
          refine wp_iconst d_GM_isNumber_40 ?_
          exact wp_zreturn d_GM_isNumber_41 rfl (g_narz (⟨by decide, by decide⟩ : (0 : Int) ≤ 0 ∧ (0 : Int) ≤ 1)) (fun _ => rfl) (Nat.zero_le _) (Nat.zero_le _) (kZ_mk (⟨by decide, by decide⟩ : (0 : Int) ≤ 0 ∧ (0 : Int) ≤ 1) T)
      · have T := T.2 h10
        refine wp_iload_n d_GM_isNumber_25 rfl rfl ?_
        refine wp_iconst d_GM_isNumber_26 ?_
        refine wp_iadd d_GM_isNumber_27 ?_
        refine wp_goto (tgt := 32) d_GM_isNumber_28 (by decide) ?_
        refine wp_istore (L' := [.val (gR G o), .val (gR G r1), .val (gI x2), .val (gI x3), .val (gI 1), .val (gI (x2 + 1)), .unset, .unset, .unset]) d_GM_isNumber_32 (by decide) rfl ?_
        refine wp_iload d_GM_isNumber_34 rfl ?_
        refine wp_iload_n d_GM_isNumber_36 rfl rfl ?_
        refine xi_lt (tgt := 42) d_GM_isNumber_37 (by decide) rfl (w32_id hx3) (fun h9 => ?_) (fun h9 => ?_)
        · have T := T.1 h9
          refine wp_lconst0 d_GM_isNumber_42 ?_
          refine wp_lstore (L' := [.val (gR G o), .val (gR G r1), .val (gI x2), .val (gI x3), .val (gI 1), .val (gI (x2 + 1)), .val (gL 0), .unset, .unset]) d_GM_isNumber_43 (by decide) rfl ?_
          exact wp_md (wpt T (And.intro rfl (And.intro rfl (And.intro rfl (And.intro rfl (And.intro (gI_w _) (And.intro rfl True.intro)))))))
        · have T := T.2 h9
          refine wp_iconst d_GM_isNumber_40 ?_
          exact wp_zreturn d_GM_isNumber_41 rfl (g_narz (⟨by decide, by decide⟩ : (0 : Int) ≤ 0 ∧ (0 : Int) ≤ 1)) (fun _ => rfl) (Nat.zero_le _) (Nat.zero_le _) (kZ_mk (⟨by decide, by decide⟩ : (0 : Int) ≤ 0 ∧ (0 : Int) ≤ 1) T)
set_option maxHeartbeats 4000000 in
theorem w_GM_isNumber_45 {l : Launch} {G : gG} {d : Nat} {X : gX} {M : gM} {k : Int → gM → Prop} {o : Nat} (hX : gmX X o) {x3 : Int} (hx3 : g32 x3) {x4 : Int} (hx4 : g32 x4) {x5 : Int} (hx5 : g32 x5) {x6 : Int} (hx6 : g64 x6) {r1 n1 : Nat} (hr1 : 1 ≤ r1 ∧ r1 ≤ X.1 ∧ X.2.1 r1 = (2, n1) ∧ n1 ≤ 2147483648) (T : (x3 ≤ x5 → ((¬ x4 = 0 → ((x4 = 0 → (k 1 (gUp M o 3 (w64 (-x6))))) ∧ (¬ x4 = 0 → (k 1 (gUp M o 3 x6))))) ∧ (x4 = 0 → ((¬ x6 = (-9223372036854775808) → ((x4 = 0 → (k 1 (gUp M o 3 (w64 (-x6))))) ∧ (¬ x4 = 0 → (k 1 (gUp M o 3 x6))))) ∧ (x6 = (-9223372036854775808) → (k 0 M)))))) ∧ (¬ x3 ≤ x5 → (((0 : Int) ≤ x5 ∧ x5 < (n1 : Int)) ∧ ((-128 ≤ M r1 (Int.toNat x5) ∧ M r1 (Int.toNat x5) < 128) → (cZ l G y_GM_digit (gRm d) false [gI (M r1 (Int.toNat x5))] X M (fun v19 M18 => ((¬ v19 = 0 → (((0 : Int) ≤ x5 ∧ x5 < (n1 : Int)) ∧ ((-128 ≤ M18 r1 (Int.toNat x5) ∧ M18 r1 (Int.toNat x5) < 128) → (((w64 ((w64 ((-9223372036854775808) + (w32 ((M18 r1 (Int.toNat x5)) - 48)))).tdiv 10)) ≤ x6 → (wp l G y_GM_isNumber (gRm (d + 1)) true (kkZ X k) true 45 [.val (gR G o), .val (gR G r1), .unset, .val (gI x3), .val (gI x4), .val (gI (w32 (x5 + 1))), .val (gL (w64 ((x6 * 10) - (w32 ((M18 r1 (Int.toNat x5)) - 48))))), .unset, .unset] [] X M18 0 0)) ∧ (¬ (w64 ((w64 ((-9223372036854775808) + (w32 ((M18 r1 (Int.toNat x5)) - 48)))).tdiv 10)) ≤ x6 → (k 0 M18)))))) ∧ (v19 = 0 → (k 0 M18))))))))) : wp l G y_GM_isNumber (gRm (d + 1)) true (kkZ X k) true 45 [.val (gR G o), .val (gR G r1), .unset, .val (gI x3), .val (gI x4), .val (gI x5), .val (gL x6), .unset, .unset] [] X M 0 0 := by
  refine wp_iload d_GM_isNumber_45 rfl ?_
  refine wp_iload_n d_GM_isNumber_47 rfl rfl ?_
  refine xi_ge (tgt := 109) d_GM_isNumber_48 (by decide) (w32_id hx5) (w32_id hx3) (fun h24 => ?_) (fun h24 => ?_)
  · have T := T.1 h24
    refine wp_iload d_GM_isNumber_109 rfl ?_
    refine xz_ne (tgt := 125) d_GM_isNumber_111 (by decide) (w32_id hx4) (fun h16 => ?_) (fun h16 => ?_)
    · have T := T.1 h16
      refine wp_aload_n d_GM_isNumber_125 rfl rfl (g_nz hX.1) ?_
      refine wp_iload d_GM_isNumber_126 rfl ?_
      refine xz_eq (tgt := 136) d_GM_isNumber_128 (by decide) (w32_id hx4) (fun h13 => ?_) (fun h13 => ?_)
      · have T := T.1 h13
        refine wp_lload d_GM_isNumber_136 rfl ?_
        refine wp_lneg d_GM_isNumber_138 ?_
        refine xputJ d_GM_isNumber_139 gc_GM f_GM_174.1 f_GM_174.2.1 f_GM_174.2.2.1 hX.1 (gm_o2 hX) hX.2.2.1 f_GM_174.2.2.2.1 f_GM_174.2.2.2.2.1 f_GM_174.2.2.2.2.2 rfl ?_
        refine wp_iconst d_GM_isNumber_142 ?_
        exact wp_zreturn d_GM_isNumber_143 rfl (g_narz (⟨by decide, by decide⟩ : (0 : Int) ≤ 1 ∧ (1 : Int) ≤ 1)) (fun _ => rfl) (Nat.zero_le _) (Nat.zero_le _) (kZ_mk (⟨by decide, by decide⟩ : (0 : Int) ≤ 1 ∧ (1 : Int) ≤ 1) T)
      · have T := T.2 h13
        refine wp_lload d_GM_isNumber_131 rfl ?_
        refine wp_goto (tgt := 139) d_GM_isNumber_133 (by decide) ?_
        refine xputJ d_GM_isNumber_139 gc_GM f_GM_174.1 f_GM_174.2.1 f_GM_174.2.2.1 hX.1 (gm_o2 hX) hX.2.2.1 f_GM_174.2.2.2.1 f_GM_174.2.2.2.2.1 f_GM_174.2.2.2.2.2 (w64_id hx6) ?_
        refine wp_iconst d_GM_isNumber_142 ?_
        exact wp_zreturn d_GM_isNumber_143 rfl (g_narz (⟨by decide, by decide⟩ : (0 : Int) ≤ 1 ∧ (1 : Int) ≤ 1)) (fun _ => rfl) (Nat.zero_le _) (Nat.zero_le _) (kZ_mk (⟨by decide, by decide⟩ : (0 : Int) ≤ 1 ∧ (1 : Int) ≤ 1) T)
    · have T := T.2 h16
      refine wp_lload d_GM_isNumber_114 rfl ?_
      refine wp_ldc2 (n := (-9223372036854775808)) d_GM_isNumber_116 c_GM_170 rfl ?_
      refine xl_ne (tgt := 125) d_GM_isNumber_119 d_GM_isNumber_120 (by decide) (w64_id hx6) (w64_id (g64_c (x := (-9223372036854775808)) rfl)) (fun h15 => ?_) (fun h15 => ?_)
      · have T := T.1 h15
        refine wp_aload_n d_GM_isNumber_125 rfl rfl (g_nz hX.1) ?_
        refine wp_iload d_GM_isNumber_126 rfl ?_
        refine xz_eq (tgt := 136) d_GM_isNumber_128 (by decide) (w32_id hx4) (fun h14 => ?_) (fun h14 => ?_)
        · have T := T.1 h14
          refine wp_lload d_GM_isNumber_136 rfl ?_
          refine wp_lneg d_GM_isNumber_138 ?_
          refine xputJ d_GM_isNumber_139 gc_GM f_GM_174.1 f_GM_174.2.1 f_GM_174.2.2.1 hX.1 (gm_o2 hX) hX.2.2.1 f_GM_174.2.2.2.1 f_GM_174.2.2.2.2.1 f_GM_174.2.2.2.2.2 rfl ?_
          refine wp_iconst d_GM_isNumber_142 ?_
          exact wp_zreturn d_GM_isNumber_143 rfl (g_narz (⟨by decide, by decide⟩ : (0 : Int) ≤ 1 ∧ (1 : Int) ≤ 1)) (fun _ => rfl) (Nat.zero_le _) (Nat.zero_le _) (kZ_mk (⟨by decide, by decide⟩ : (0 : Int) ≤ 1 ∧ (1 : Int) ≤ 1) T)
        · have T := T.2 h14
          refine wp_lload d_GM_isNumber_131 rfl ?_
          refine wp_goto (tgt := 139) d_GM_isNumber_133 (by decide) ?_
          refine xputJ d_GM_isNumber_139 gc_GM f_GM_174.1 f_GM_174.2.1 f_GM_174.2.2.1 hX.1 (gm_o2 hX) hX.2.2.1 f_GM_174.2.2.2.1 f_GM_174.2.2.2.2.1 f_GM_174.2.2.2.2.2 (w64_id hx6) ?_
          refine wp_iconst d_GM_isNumber_142 ?_
          exact wp_zreturn d_GM_isNumber_143 rfl (g_narz (⟨by decide, by decide⟩ : (0 : Int) ≤ 1 ∧ (1 : Int) ≤ 1)) (fun _ => rfl) (Nat.zero_le _) (Nat.zero_le _) (kZ_mk (⟨by decide, by decide⟩ : (0 : Int) ≤ 1 ∧ (1 : Int) ≤ 1) T)
      · have T := T.2 h15
        refine wp_iconst d_GM_isNumber_123 ?_
        exact wp_zreturn d_GM_isNumber_124 rfl (g_narz (⟨by decide, by decide⟩ : (0 : Int) ≤ 0 ∧ (0 : Int) ≤ 1)) (fun _ => rfl) (Nat.zero_le _) (Nat.zero_le _) (kZ_mk (⟨by decide, by decide⟩ : (0 : Int) ≤ 0 ∧ (0 : Int) ≤ 1) T)
  · have T := T.2 h24
    refine wp_aload_n d_GM_isNumber_51 rfl rfl (g_nz hr1.1) ?_
    refine wp_iload d_GM_isNumber_52 rfl ?_
    refine wp_baload d_GM_isNumber_54 hr1.1 hr1.2.1 hr1.2.2.1 (g32_n T.1 hr1.2.2.2) T.1.1 T.1.2 (fun h17 => ?_)
    have T := T.2 h17
    refine xcS_Z (md' := true) (As := [gI (M r1 (Int.toNat x5))]) (st := []) d_GM_isNumber_55 ca_GM_digit ml_GM_165 sm_GM_digit rfl (by decide) (by decide) rfl (fun _ => rfl) (fun _ => rfl) T (fun v19 M18 h20 T => ?_)
    refine xz_ne (tgt := 63) d_GM_isNumber_58 (by decide) (w32_id (g32_z h20)) (fun h23 => ?_) (fun h23 => ?_)
    · have T := T.1 h23
      refine wp_aload_n d_GM_isNumber_63 rfl rfl (g_nz hr1.1) ?_
      refine wp_iload d_GM_isNumber_64 rfl ?_
      refine wp_baload d_GM_isNumber_66 hr1.1 hr1.2.1 hr1.2.2.1 (g32_n T.1 hr1.2.2.2) T.1.1 T.1.2 (fun h21 => ?_)
      have T := T.2 h21
      refine wp_bipush d_GM_isNumber_67 ⟨by decide, by decide⟩ ?_
      refine wp_isub d_GM_isNumber_69 ?_
      refine wp_istore (L' := [.val (gR G o), .val (gR G r1), .unset, .val (gI x3), .val (gI x4), .val (gI x5), .val (gL x6), .unset, .val (gI ((M18 r1 (Int.toNat x5)) - 48))]) d_GM_isNumber_70 (by decide) rfl ?_
      refine wp_lload d_GM_isNumber_72 rfl ?_
      refine wp_ldc2 (n := (-9223372036854775808)) d_GM_isNumber_74 c_GM_170 rfl ?_
      refine wp_iload d_GM_isNumber_77 rfl ?_
      refine xi2l d_GM_isNumber_79 rfl ?_
      refine wp_ladd d_GM_isNumber_80 ?_
      refine wp_ldc2 (n := 10) d_GM_isNumber_81 c_GM_172 rfl ?_
      refine xldiv d_GM_isNumber_84 rfl (w64_id (g64_c (x := 10) rfl)) (by decide) ?_
      refine xl_ge (tgt := 91) d_GM_isNumber_85 d_GM_isNumber_86 (by decide) (w64_id hx6) rfl (fun h22 => ?_) (fun h22 => ?_)
      · have T := T.1 h22
        refine wp_lload d_GM_isNumber_91 rfl ?_
        refine wp_ldc2 (n := 10) d_GM_isNumber_93 c_GM_172 rfl ?_
        refine wp_lmul d_GM_isNumber_96 ?_
        refine wp_iload d_GM_isNumber_97 rfl ?_
        refine xi2l d_GM_isNumber_99 rfl ?_
        refine wp_lsub d_GM_isNumber_100 ?_
        refine wp_lstore (L' := [.val (gR G o), .val (gR G r1), .unset, .val (gI x3), .val (gI x4), .val (gI x5), .val (gL ((x6 * 10) - (w32 ((M18 r1 (Int.toNat x5)) - 48)))), .unset, .val (gI ((M18 r1 (Int.toNat x5)) - 48))]) d_GM_isNumber_101 (by decide) rfl ?_
        refine wp_iinc (L' := [.val (gR G o), .val (gR G r1), .unset, .val (gI x3), .val (gI x4), .val (gI (x5 + 1)), .val (gL ((x6 * 10) - (w32 ((M18 r1 (Int.toNat x5)) - 48)))), .unset, .val (gI ((M18 r1 (Int.toNat x5)) - 48))]) d_GM_isNumber_103 rfl (by decide) rfl ?_
        refine wp_goto (tgt := 45) d_GM_isNumber_106 (by decide) ?_
        exact wp_md (wpt T (And.intro rfl (And.intro rfl (And.intro rfl (And.intro rfl (And.intro (gI_w _) (And.intro (gL_w _) True.intro)))))))
      · have T := T.2 h22
        refine wp_iconst d_GM_isNumber_89 ?_
        exact wp_zreturn d_GM_isNumber_90 rfl (g_narz (⟨by decide, by decide⟩ : (0 : Int) ≤ 0 ∧ (0 : Int) ≤ 1)) (fun _ => rfl) (Nat.zero_le _) (Nat.zero_le _) (kZ_mk (⟨by decide, by decide⟩ : (0 : Int) ≤ 0 ∧ (0 : Int) ≤ 1) T)
    · have T := T.2 h23
      refine wp_iconst d_GM_isNumber_61 ?_
      exact wp_zreturn d_GM_isNumber_62 rfl (g_narz (⟨by decide, by decide⟩ : (0 : Int) ≤ 0 ∧ (0 : Int) ≤ 1)) (fun _ => rfl) (Nat.zero_le _) (Nat.zero_le _) (kZ_mk (⟨by decide, by decide⟩ : (0 : Int) ≤ 0 ∧ (0 : Int) ≤ 1) T)
theorem e_GM_isNumber {l : Launch} {G : gG} {d : Nat} {X : gX} {M : gM} {k : Int → gM → Prop} {o : Nat} {r1 : Nat} {x2 : Int} {x3 : Int} (T : wp l G y_GM_isNumber (gRm (d + 1)) true (kkZ X k) false 0 [.val (gR G o), .val (gR G r1), .val (gI x2), .val (gI x3), .unset, .unset, .unset, .unset, .unset] [] X M 0 0) : cZ l G y_GM_isNumber (gRm (d + 1)) true [gR G o, gR G r1, gI x2, gI x3] X M k := cen_Z (plainFor_of_name rfl) (by simp only [lg_sl_R, lg_sl_I, lg_sl_L, lg_sl_N, List.length_cons, List.length_nil]; decide) (by unfold gEn; simp only [lg_sl_R, lg_sl_I, lg_sl_L, lg_sl_N]; exact wpt T (And.intro rfl (And.intro rfl (And.intro rfl (And.intro rfl True.intro)))))
theorem d_GM_token_0 : decode prog_15_method_8_code 0 = .ok (.aload_n 0, 1) := by decide +kernel
theorem d_GM_token_1 : decode prog_15_method_8_code 1 = .ok (.getfield 178, 3) := by decide +kernel
theorem d_GM_token_4 : decode prog_15_method_8_code 4 = .ok (.bipush 100, 2) := by decide +kernel
theorem d_GM_token_6 : decode prog_15_method_8_code 6 = .ok (.if_icmp .ne 9, 3) := by decide +kernel
theorem d_GM_token_15 : decode prog_15_method_8_code 15 = .ok (.aload_n 0, 1) := by decide +kernel
theorem d_GM_token_16 : decode prog_15_method_8_code 16 = .ok (.getfield 50, 3) := by decide +kernel
theorem d_GM_token_19 : decode prog_15_method_8_code 19 = .ok (.aload_n 0, 1) := by decide +kernel
theorem d_GM_token_20 : decode prog_15_method_8_code 20 = .ok (.getfield 178, 3) := by decide +kernel
theorem d_GM_token_23 : decode prog_15_method_8_code 23 = .ok (.iload_n 1, 1) := by decide +kernel
theorem d_GM_token_24 : decode prog_15_method_8_code 24 = .ok (.iastore, 1) := by decide +kernel
theorem d_GM_token_25 : decode prog_15_method_8_code 25 = .ok (.aload_n 0, 1) := by decide +kernel
theorem d_GM_token_26 : decode prog_15_method_8_code 26 = .ok (.getfield 53, 3) := by decide +kernel
theorem d_GM_token_29 : decode prog_15_method_8_code 29 = .ok (.aload_n 0, 1) := by decide +kernel
theorem d_GM_token_30 : decode prog_15_method_8_code 30 = .ok (.getfield 178, 3) := by decide +kernel
theorem d_GM_token_33 : decode prog_15_method_8_code 33 = .ok (.iload_n 2, 1) := by decide +kernel
theorem d_GM_token_34 : decode prog_15_method_8_code 34 = .ok (.iastore, 1) := by decide +kernel
theorem d_GM_token_35 : decode prog_15_method_8_code 35 = .ok (.aload_n 0, 1) := by decide +kernel
theorem d_GM_token_36 : decode prog_15_method_8_code 36 = .ok (.getfield 56, 3) := by decide +kernel
theorem d_GM_token_39 : decode prog_15_method_8_code 39 = .ok (.aload_n 0, 1) := by decide +kernel
theorem d_GM_token_40 : decode prog_15_method_8_code 40 = .ok (.getfield 178, 3) := by decide +kernel
theorem d_GM_token_43 : decode prog_15_method_8_code 43 = .ok (.iload_n 3, 1) := by decide +kernel
theorem d_GM_token_44 : decode prog_15_method_8_code 44 = .ok (.iastore, 1) := by decide +kernel
theorem d_GM_token_45 : decode prog_15_method_8_code 45 = .ok (.aload_n 0, 1) := by decide +kernel
theorem d_GM_token_46 : decode prog_15_method_8_code 46 = .ok (.dup, 1) := by decide +kernel
theorem d_GM_token_47 : decode prog_15_method_8_code 47 = .ok (.getfield 178, 3) := by decide +kernel
theorem d_GM_token_50 : decode prog_15_method_8_code 50 = .ok (.iconst 1, 1) := by decide +kernel
theorem d_GM_token_51 : decode prog_15_method_8_code 51 = .ok (.iadd, 1) := by decide +kernel
theorem d_GM_token_52 : decode prog_15_method_8_code 52 = .ok (.putfield 178, 3) := by decide +kernel
theorem d_GM_token_55 : decode prog_15_method_8_code 55 = .ok (.return_, 1) := by decide +kernel
theorem d_GM_token_9 : decode prog_15_method_8_code 9 = .ok (.aload_n 0, 1) := by decide +kernel
theorem d_GM_token_10 : decode prog_15_method_8_code 10 = .ok (.iconst 1, 1) := by decide +kernel
theorem d_GM_token_11 : decode prog_15_method_8_code 11 = .ok (.putfield 181, 3) := by decide +kernel
theorem d_GM_token_14 : decode prog_15_method_8_code 14 = .ok (.return_, 1) := by decide +kernel
set_option maxHeartbeats 4000000 in
theorem w_GM_token_0 {l : Launch} {G : gG} {d : Nat} {X : gX} {M : gM} {k : gM → Prop} {o : Nat} (hX : gmX X o) {x1 : Int} (hx1 : g32 x1) {x2 : Int} (hx2 : g32 x2) {x3 : Int} (hx3 : g32 x3) (T : g32 (M o 24) → ((¬ M o 24 = 100 → (g32 (M o 24) → (((0 : Int) ≤ M o 24 ∧ M o 24 < 101) ∧ (g32 ((gUp M (o + 13) (Int.toNat (M o 24)) x1) o 24) → (((0 : Int) ≤ (gUp M (o + 13) (Int.toNat (M o 24)) x1) o 24 ∧ (gUp M (o + 13) (Int.toNat (M o 24)) x1) o 24 < 101) ∧ (g32 ((gUp (gUp M (o + 13) (Int.toNat (M o 24)) x1) (o + 14) (Int.toNat ((gUp M (o + 13) (Int.toNat (M o 24)) x1) o 24)) x2) o 24) → (((0 : Int) ≤ (gUp (gUp M (o + 13) (Int.toNat (M o 24)) x1) (o + 14) (Int.toNat ((gUp M (o + 13) (Int.toNat (M o 24)) x1) o 24)) x2) o 24 ∧ (gUp (gUp M (o + 13) (Int.toNat (M o 24)) x1) (o + 14) (Int.toNat ((gUp M (o + 13) (Int.toNat (M o 24)) x1) o 24)) x2) o 24 < 101) ∧ (g32 ((gUp (gUp (gUp M (o + 13) (Int.toNat (M o 24)) x1) (o + 14) (Int.toNat ((gUp M (o + 13) (Int.toNat (M o 24)) x1) o 24)) x2) (o + 15) (Int.toNat ((gUp (gUp M (o + 13) (Int.toNat (M o 24)) x1) (o + 14) (Int.toNat ((gUp M (o + 13) (Int.toNat (M o 24)) x1) o 24)) x2) o 24)) x3) o 24) → (k (gUp (gUp (gUp (gUp M (o + 13) (Int.toNat (M o 24)) x1) (o + 14) (Int.toNat ((gUp M (o + 13) (Int.toNat (M o 24)) x1) o 24)) x2) (o + 15) (Int.toNat ((gUp (gUp M (o + 13) (Int.toNat (M o 24)) x1) (o + 14) (Int.toNat ((gUp M (o + 13) (Int.toNat (M o 24)) x1) o 24)) x2) o 24)) x3) o 24 (w32 (((gUp (gUp (gUp M (o + 13) (Int.toNat (M o 24)) x1) (o + 14) (Int.toNat ((gUp M (o + 13) (Int.toNat (M o 24)) x1) o 24)) x2) (o + 15) (Int.toNat ((gUp (gUp M (o + 13) (Int.toNat (M o 24)) x1) (o + 14) (Int.toNat ((gUp M (o + 13) (Int.toNat (M o 24)) x1) o 24)) x2) o 24)) x3) o 24) + 1)))))))))))) ∧ (M o 24 = 100 → (k (gUp M o 27 1))))) : wp l G y_GM_token (gRm d) true (kkV X k) false 0 [.val (gR G o), .val (gI x1), .val (gI x2), .val (gI x3)] [] X M 0 0 := by
  refine wp_aload_n d_GM_token_0 rfl rfl (g_nz hX.1) ?_
  refine xgetI d_GM_token_1 gc_GM f_GM_178.1 f_GM_178.2.1 f_GM_178.2.2.1 hX.1 (gm_o2 hX) hX.2.2.1 f_GM_178.2.2.2.2.1 (fun h1 => ?_)
  have T := T h1
  refine wp_bipush d_GM_token_4 ⟨by decide, by decide⟩ ?_
  refine xi_ne (tgt := 15) d_GM_token_6 (by decide) (w32_id h1) (w32_id (g32_c (x := 100) rfl)) (fun h6 => ?_) (fun h6 => ?_)
  · have T := T.1 h6
    refine wp_aload_n d_GM_token_15 rfl rfl (g_nz hX.1) ?_
    refine xgetR d_GM_token_16 gc_GM f_GM_50.1 f_GM_50.2.1 f_GM_50.2.2.1 hX.1 (gm_o2 hX) hX.2.2.1 f_GM_50.2.2.2.2.1 (gm_row hX 12 rfl).1 ?_
    refine wp_aload_n d_GM_token_19 rfl rfl (g_nz hX.1) ?_
    refine xgetI d_GM_token_20 gc_GM f_GM_178.1 f_GM_178.2.1 f_GM_178.2.2.1 hX.1 (gm_o2 hX) hX.2.2.1 f_GM_178.2.2.2.2.1 (fun h2 => ?_)
    have T := T h2
    refine wp_iload_n d_GM_token_23 rfl rfl ?_
    refine xiast d_GM_token_24 (gm_row hX 12 rfl).2.2.1 (gm_row hX 12 rfl).2.2.2 (gm_row hX 12 rfl).2.1 (by decide) T.1 (w32_id hx1) ?_
    have T := T.2
    refine wp_aload_n d_GM_token_25 rfl rfl (g_nz hX.1) ?_
    refine xgetR d_GM_token_26 gc_GM f_GM_53.1 f_GM_53.2.1 f_GM_53.2.2.1 hX.1 (gm_o2 hX) hX.2.2.1 f_GM_53.2.2.2.2.1 (gm_row hX 13 rfl).1 ?_
    refine wp_aload_n d_GM_token_29 rfl rfl (g_nz hX.1) ?_
    refine xgetI d_GM_token_30 gc_GM f_GM_178.1 f_GM_178.2.1 f_GM_178.2.2.1 hX.1 (gm_o2 hX) hX.2.2.1 f_GM_178.2.2.2.2.1 (fun h3 => ?_)
    have T := T h3
    refine wp_iload_n d_GM_token_33 rfl rfl ?_
    refine xiast d_GM_token_34 (gm_row hX 13 rfl).2.2.1 (gm_row hX 13 rfl).2.2.2 (gm_row hX 13 rfl).2.1 (by decide) T.1 (w32_id hx2) ?_
    have T := T.2
    refine wp_aload_n d_GM_token_35 rfl rfl (g_nz hX.1) ?_
    refine xgetR d_GM_token_36 gc_GM f_GM_56.1 f_GM_56.2.1 f_GM_56.2.2.1 hX.1 (gm_o2 hX) hX.2.2.1 f_GM_56.2.2.2.2.1 (gm_row hX 14 rfl).1 ?_
    refine wp_aload_n d_GM_token_39 rfl rfl (g_nz hX.1) ?_
    refine xgetI d_GM_token_40 gc_GM f_GM_178.1 f_GM_178.2.1 f_GM_178.2.2.1 hX.1 (gm_o2 hX) hX.2.2.1 f_GM_178.2.2.2.2.1 (fun h4 => ?_)
    have T := T h4
    refine wp_iload_n d_GM_token_43 rfl rfl ?_
    refine xiast d_GM_token_44 (gm_row hX 14 rfl).2.2.1 (gm_row hX 14 rfl).2.2.2 (gm_row hX 14 rfl).2.1 (by decide) T.1 (w32_id hx3) ?_
    have T := T.2
    refine wp_aload_n d_GM_token_45 rfl rfl (g_nz hX.1) ?_
    refine wp_dup d_GM_token_46 (gR_cat _) ?_
    refine xgetI d_GM_token_47 gc_GM f_GM_178.1 f_GM_178.2.1 f_GM_178.2.2.1 hX.1 (gm_o2 hX) hX.2.2.1 f_GM_178.2.2.2.2.1 (fun h5 => ?_)
    have T := T h5
    refine wp_iconst d_GM_token_50 ?_
    refine wp_iadd d_GM_token_51 ?_
    refine xputI d_GM_token_52 gc_GM f_GM_178.1 f_GM_178.2.1 f_GM_178.2.2.1 hX.1 (gm_o2 hX) hX.2.2.1 f_GM_178.2.2.2.1 f_GM_178.2.2.2.2.1 f_GM_178.2.2.2.2.2 rfl ?_
    exact wp_return d_GM_token_55 rfl (fun _ => rfl) (Nat.zero_le _) (Nat.zero_le _) (kV_mk T)
  · have T := T.2 h6
    refine wp_aload_n d_GM_token_9 rfl rfl (g_nz hX.1) ?_
    refine wp_iconst d_GM_token_10 ?_
    refine xputZ d_GM_token_11 gc_GM f_GM_181.1 f_GM_181.2.1 f_GM_181.2.2.1 hX.1 (gm_o2 hX) hX.2.2.1 f_GM_181.2.2.2.1 f_GM_181.2.2.2.2.1 f_GM_181.2.2.2.2.2 (⟨by decide, by decide⟩ : (0 : Int) ≤ 1 ∧ (1 : Int) ≤ 1) ?_
    exact wp_return d_GM_token_14 rfl (fun _ => rfl) (Nat.zero_le _) (Nat.zero_le _) (kV_mk T)
theorem e_GM_token {l : Launch} {G : gG} {d : Nat} {X : gX} {M : gM} {k : gM → Prop} {o : Nat} {x1 : Int} {x2 : Int} {x3 : Int} (T : wp l G y_GM_token (gRm d) true (kkV X k) false 0 [.val (gR G o), .val (gI x1), .val (gI x2), .val (gI x3)] [] X M 0 0) : cV l G y_GM_token (gRm d) true [gR G o, gI x1, gI x2, gI x3] X M k := cen_V (plainFor_of_name rfl) (by simp only [lg_sl_R, lg_sl_I, lg_sl_L, lg_sl_N, List.length_cons, List.length_nil]; decide) (by unfold gEn; simp only [lg_sl_R, lg_sl_I, lg_sl_L, lg_sl_N]; exact wpt T (And.intro rfl (And.intro rfl (And.intro rfl (And.intro rfl True.intro)))))
theorem d_GM_cut_0 : decode prog_15_method_11_code 0 = .ok (.aload_n 0, 1) := by decide +kernel
theorem d_GM_cut_1 : decode prog_15_method_11_code 1 = .ok (.iconst 0, 1) := by decide +kernel
theorem d_GM_cut_2 : decode prog_15_method_11_code 2 = .ok (.putfield 178, 3) := by decide +kernel
theorem d_GM_cut_5 : decode prog_15_method_11_code 5 = .ok (.iload_n 1, 1) := by decide +kernel
theorem d_GM_cut_6 : decode prog_15_method_11_code 6 = .ok (.istore_n 3, 1) := by decide +kernel
theorem d_GM_cut_7 : decode prog_15_method_11_code 7 = .ok (.iload_n 3, 1) := by decide +kernel
theorem d_GM_cut_8 : decode prog_15_method_11_code 8 = .ok (.iload_n 2, 1) := by decide +kernel
theorem d_GM_cut_9 : decode prog_15_method_11_code 9 = .ok (.if_icmp .ge 396, 3) := by decide +kernel
theorem d_GM_cut_12 : decode prog_15_method_11_code 12 = .ok (.aload_n 0, 1) := by decide +kernel
theorem d_GM_cut_13 : decode prog_15_method_11_code 13 = .ok (.getfield 181, 3) := by decide +kernel
theorem d_GM_cut_16 : decode prog_15_method_11_code 16 = .ok (.ifCond .ne 389, 3) := by decide +kernel
theorem d_GM_cut_19 : decode prog_15_method_11_code 19 = .ok (.aload_n 0, 1) := by decide +kernel
theorem d_GM_cut_20 : decode prog_15_method_11_code 20 = .ok (.getfield 8, 3) := by decide +kernel
theorem d_GM_cut_23 : decode prog_15_method_11_code 23 = .ok (.iload_n 3, 1) := by decide +kernel
theorem d_GM_cut_24 : decode prog_15_method_11_code 24 = .ok (.baload, 1) := by decide +kernel
theorem d_GM_cut_25 : decode prog_15_method_11_code 25 = .ok (.istore 4, 2) := by decide +kernel
theorem d_GM_cut_27 : decode prog_15_method_11_code 27 = .ok (.iload_n 3, 1) := by decide +kernel
theorem d_GM_cut_28 : decode prog_15_method_11_code 28 = .ok (.iconst 1, 1) := by decide +kernel
theorem d_GM_cut_29 : decode prog_15_method_11_code 29 = .ok (.iadd, 1) := by decide +kernel
theorem d_GM_cut_30 : decode prog_15_method_11_code 30 = .ok (.iload_n 2, 1) := by decide +kernel
theorem d_GM_cut_31 : decode prog_15_method_11_code 31 = .ok (.if_icmp .ge 14, 3) := by decide +kernel
theorem d_GM_cut_45 : decode prog_15_method_11_code 45 = .ok (.iconst 0, 1) := by decide +kernel
theorem d_GM_cut_34 : decode prog_15_method_11_code 34 = .ok (.aload_n 0, 1) := by decide +kernel
theorem d_GM_cut_35 : decode prog_15_method_11_code 35 = .ok (.getfield 8, 3) := by decide +kernel
theorem d_GM_cut_38 : decode prog_15_method_11_code 38 = .ok (.iload_n 3, 1) := by decide +kernel
theorem d_GM_cut_39 : decode prog_15_method_11_code 39 = .ok (.iconst 1, 1) := by decide +kernel
theorem d_GM_cut_40 : decode prog_15_method_11_code 40 = .ok (.iadd, 1) := by decide +kernel
theorem d_GM_cut_41 : decode prog_15_method_11_code 41 = .ok (.baload, 1) := by decide +kernel
theorem d_GM_cut_42 : decode prog_15_method_11_code 42 = .ok (.goto 4, 3) := by decide +kernel
theorem d_GM_cut_405 : decode prog_15_method_11_code 405 = .ok (.return_, 1) := by decide +kernel
theorem d_GM_cut_46 : decode prog_15_method_11_code 46 = .ok (.istore 5, 2) := by decide +kernel
theorem d_GM_cut_48 : decode prog_15_method_11_code 48 = .ok (.iload_n 3, 1) := by decide +kernel
theorem d_GM_cut_49 : decode prog_15_method_11_code 49 = .ok (.istore 6, 2) := by decide +kernel
theorem d_GM_cut_51 : decode prog_15_method_11_code 51 = .ok (.iinc 3 1, 3) := by decide +kernel
theorem d_GM_cut_54 : decode prog_15_method_11_code 54 = .ok (.iload 4, 2) := by decide +kernel
theorem d_GM_cut_56 : decode prog_15_method_11_code 56 = .ok (.bipush 32, 2) := by decide +kernel
theorem d_GM_cut_58 : decode prog_15_method_11_code 58 = .ok (.if_icmp .ne 6, 3) := by decide +kernel
theorem d_GM_cut_64 : decode prog_15_method_11_code 64 = .ok (.iload 4, 2) := by decide +kernel
theorem d_GM_cut_66 : decode prog_15_method_11_code 66 = .ok (.invokestatic 211, 3) := by decide +kernel
theorem d_GM_cut_69 : decode prog_15_method_11_code 69 = .ok (.ifCond .ne 18, 3) := by decide +kernel
theorem d_GM_cut_72 : decode prog_15_method_11_code 72 = .ok (.iload 4, 2) := by decide +kernel
theorem d_GM_cut_74 : decode prog_15_method_11_code 74 = .ok (.invokestatic 165, 3) := by decide +kernel
theorem d_GM_cut_77 : decode prog_15_method_11_code 77 = .ok (.ifCond .ne 10, 3) := by decide +kernel
theorem d_GM_cut_80 : decode prog_15_method_11_code 80 = .ok (.iload 4, 2) := by decide +kernel
theorem d_GM_cut_82 : decode prog_15_method_11_code 82 = .ok (.bipush 36, 2) := by decide +kernel
theorem d_GM_cut_84 : decode prog_15_method_11_code 84 = .ok (.if_icmp .ne 59, 3) := by decide +kernel
theorem d_GM_cut_143 : decode prog_15_method_11_code 143 = .ok (.iload 4, 2) := by decide +kernel
theorem d_GM_cut_145 : decode prog_15_method_11_code 145 = .ok (.bipush 34, 2) := by decide +kernel
theorem d_GM_cut_147 : decode prog_15_method_11_code 147 = .ok (.if_icmp .ne 64, 3) := by decide +kernel
theorem d_GM_cut_211 : decode prog_15_method_11_code 211 = .ok (.iload 4, 2) := by decide +kernel
theorem d_GM_cut_213 : decode prog_15_method_11_code 213 = .ok (.bipush 60, 2) := by decide +kernel
theorem d_GM_cut_215 : decode prog_15_method_11_code 215 = .ok (.if_icmp .ne 17, 3) := by decide +kernel
theorem d_GM_cut_218 : decode prog_15_method_11_code 218 = .ok (.iload 5, 2) := by decide +kernel
theorem d_GM_cut_220 : decode prog_15_method_11_code 220 = .ok (.bipush 62, 2) := by decide +kernel
theorem d_GM_cut_222 : decode prog_15_method_11_code 222 = .ok (.if_icmp .eq 24, 3) := by decide +kernel
theorem d_GM_cut_225 : decode prog_15_method_11_code 225 = .ok (.iload 5, 2) := by decide +kernel
theorem d_GM_cut_227 : decode prog_15_method_11_code 227 = .ok (.bipush 61, 2) := by decide +kernel
theorem d_GM_cut_229 : decode prog_15_method_11_code 229 = .ok (.if_icmp .eq 17, 3) := by decide +kernel
theorem d_GM_cut_61 : decode prog_15_method_11_code 61 = .ok (.goto (-54), 3) := by decide +kernel
theorem d_GM_cut_87 : decode prog_15_method_11_code 87 = .ok (.iload_n 3, 1) := by decide +kernel
theorem d_GM_cut_88 : decode prog_15_method_11_code 88 = .ok (.iload_n 2, 1) := by decide +kernel
theorem d_GM_cut_89 : decode prog_15_method_11_code 89 = .ok (.if_icmp .ge 44, 3) := by decide +kernel
theorem d_GM_cut_92 : decode prog_15_method_11_code 92 = .ok (.aload_n 0, 1) := by decide +kernel
theorem d_GM_cut_93 : decode prog_15_method_11_code 93 = .ok (.getfield 8, 3) := by decide +kernel
theorem d_GM_cut_96 : decode prog_15_method_11_code 96 = .ok (.iload_n 3, 1) := by decide +kernel
theorem d_GM_cut_97 : decode prog_15_method_11_code 97 = .ok (.baload, 1) := by decide +kernel
theorem d_GM_cut_98 : decode prog_15_method_11_code 98 = .ok (.invokestatic 211, 3) := by decide +kernel
theorem d_GM_cut_101 : decode prog_15_method_11_code 101 = .ok (.ifCond .ne 26, 3) := by decide +kernel
theorem d_GM_cut_104 : decode prog_15_method_11_code 104 = .ok (.aload_n 0, 1) := by decide +kernel
theorem d_GM_cut_105 : decode prog_15_method_11_code 105 = .ok (.getfield 8, 3) := by decide +kernel
theorem d_GM_cut_108 : decode prog_15_method_11_code 108 = .ok (.iload_n 3, 1) := by decide +kernel
theorem d_GM_cut_109 : decode prog_15_method_11_code 109 = .ok (.baload, 1) := by decide +kernel
theorem d_GM_cut_110 : decode prog_15_method_11_code 110 = .ok (.invokestatic 165, 3) := by decide +kernel
theorem d_GM_cut_113 : decode prog_15_method_11_code 113 = .ok (.ifCond .ne 14, 3) := by decide +kernel
theorem d_GM_cut_116 : decode prog_15_method_11_code 116 = .ok (.aload_n 0, 1) := by decide +kernel
theorem d_GM_cut_117 : decode prog_15_method_11_code 117 = .ok (.getfield 8, 3) := by decide +kernel
theorem d_GM_cut_120 : decode prog_15_method_11_code 120 = .ok (.iload_n 3, 1) := by decide +kernel
theorem d_GM_cut_121 : decode prog_15_method_11_code 121 = .ok (.baload, 1) := by decide +kernel
theorem d_GM_cut_122 : decode prog_15_method_11_code 122 = .ok (.bipush 36, 2) := by decide +kernel
theorem d_GM_cut_124 : decode prog_15_method_11_code 124 = .ok (.if_icmp .ne 9, 3) := by decide +kernel
theorem d_GM_cut_232 : decode prog_15_method_11_code 232 = .ok (.iload 4, 2) := by decide +kernel
theorem d_GM_cut_234 : decode prog_15_method_11_code 234 = .ok (.bipush 62, 2) := by decide +kernel
theorem d_GM_cut_236 : decode prog_15_method_11_code 236 = .ok (.if_icmp .ne 51, 3) := by decide +kernel
theorem d_GM_cut_239 : decode prog_15_method_11_code 239 = .ok (.iload 5, 2) := by decide +kernel
theorem d_GM_cut_241 : decode prog_15_method_11_code 241 = .ok (.bipush 61, 2) := by decide +kernel
theorem d_GM_cut_243 : decode prog_15_method_11_code 243 = .ok (.if_icmp .ne 44, 3) := by decide +kernel
theorem d_GM_cut_246 : decode prog_15_method_11_code 246 = .ok (.aload_n 0, 1) := by decide +kernel
theorem d_GM_cut_247 : decode prog_15_method_11_code 247 = .ok (.iload 4, 2) := by decide +kernel
theorem d_GM_cut_249 : decode prog_15_method_11_code 249 = .ok (.bipush 62, 2) := by decide +kernel
theorem d_GM_cut_251 : decode prog_15_method_11_code 251 = .ok (.if_icmp .ne 8, 3) := by decide +kernel
theorem d_GM_cut_259 : decode prog_15_method_11_code 259 = .ok (.iload 5, 2) := by decide +kernel
theorem d_GM_cut_261 : decode prog_15_method_11_code 261 = .ok (.bipush 62, 2) := by decide +kernel
theorem d_GM_cut_263 : decode prog_15_method_11_code 263 = .ok (.if_icmp .ne 8, 3) := by decide +kernel
theorem d_GM_cut_271 : decode prog_15_method_11_code 271 = .ok (.bipush 108, 2) := by decide +kernel
theorem d_GM_cut_266 : decode prog_15_method_11_code 266 = .ok (.bipush 110, 2) := by decide +kernel
theorem d_GM_cut_268 : decode prog_15_method_11_code 268 = .ok (.goto 5, 3) := by decide +kernel
theorem d_GM_cut_254 : decode prog_15_method_11_code 254 = .ok (.bipush 103, 2) := by decide +kernel
theorem d_GM_cut_256 : decode prog_15_method_11_code 256 = .ok (.goto 17, 3) := by decide +kernel
theorem d_GM_cut_150 : decode prog_15_method_11_code 150 = .ok (.iload_n 3, 1) := by decide +kernel
theorem d_GM_cut_151 : decode prog_15_method_11_code 151 = .ok (.iload_n 2, 1) := by decide +kernel
theorem d_GM_cut_152 : decode prog_15_method_11_code 152 = .ok (.if_icmp .ge 20, 3) := by decide +kernel
theorem d_GM_cut_155 : decode prog_15_method_11_code 155 = .ok (.aload_n 0, 1) := by decide +kernel
theorem d_GM_cut_156 : decode prog_15_method_11_code 156 = .ok (.getfield 8, 3) := by decide +kernel
theorem d_GM_cut_159 : decode prog_15_method_11_code 159 = .ok (.iload_n 3, 1) := by decide +kernel
theorem d_GM_cut_160 : decode prog_15_method_11_code 160 = .ok (.baload, 1) := by decide +kernel
theorem d_GM_cut_161 : decode prog_15_method_11_code 161 = .ok (.bipush 34, 2) := by decide +kernel
theorem d_GM_cut_163 : decode prog_15_method_11_code 163 = .ok (.if_icmp .eq 9, 3) := by decide +kernel
theorem d_GM_cut_166 : decode prog_15_method_11_code 166 = .ok (.iinc 3 1, 3) := by decide +kernel
theorem d_GM_cut_169 : decode prog_15_method_11_code 169 = .ok (.goto (-19), 3) := by decide +kernel
theorem d_GM_cut_133 : decode prog_15_method_11_code 133 = .ok (.aload_n 0, 1) := by decide +kernel
theorem d_GM_cut_134 : decode prog_15_method_11_code 134 = .ok (.iload 6, 2) := by decide +kernel
theorem d_GM_cut_136 : decode prog_15_method_11_code 136 = .ok (.iload_n 3, 1) := by decide +kernel
theorem d_GM_cut_137 : decode prog_15_method_11_code 137 = .ok (.invokevirtual 214, 3) := by decide +kernel
theorem d_GM_cut_140 : decode prog_15_method_11_code 140 = .ok (.goto 262, 3) := by decide +kernel
theorem d_GM_cut_127 : decode prog_15_method_11_code 127 = .ok (.iinc 3 1, 3) := by decide +kernel
theorem d_GM_cut_130 : decode prog_15_method_11_code 130 = .ok (.goto (-43), 3) := by decide +kernel
theorem d_GM_cut_287 : decode prog_15_method_11_code 287 = .ok (.iload 4, 2) := by decide +kernel
theorem d_GM_cut_289 : decode prog_15_method_11_code 289 = .ok (.bipush 61, 2) := by decide +kernel
theorem d_GM_cut_291 : decode prog_15_method_11_code 291 = .ok (.if_icmp .eq 94, 3) := by decide +kernel
theorem d_GM_cut_294 : decode prog_15_method_11_code 294 = .ok (.iload 4, 2) := by decide +kernel
theorem d_GM_cut_296 : decode prog_15_method_11_code 296 = .ok (.bipush 60, 2) := by decide +kernel
theorem d_GM_cut_298 : decode prog_15_method_11_code 298 = .ok (.if_icmp .eq 87, 3) := by decide +kernel
theorem d_GM_cut_301 : decode prog_15_method_11_code 301 = .ok (.iload 4, 2) := by decide +kernel
theorem d_GM_cut_303 : decode prog_15_method_11_code 303 = .ok (.bipush 62, 2) := by decide +kernel
theorem d_GM_cut_305 : decode prog_15_method_11_code 305 = .ok (.if_icmp .eq 80, 3) := by decide +kernel
theorem d_GM_cut_308 : decode prog_15_method_11_code 308 = .ok (.iload 4, 2) := by decide +kernel
theorem d_GM_cut_310 : decode prog_15_method_11_code 310 = .ok (.bipush 38, 2) := by decide +kernel
theorem d_GM_cut_312 : decode prog_15_method_11_code 312 = .ok (.if_icmp .eq 73, 3) := by decide +kernel
theorem d_GM_cut_315 : decode prog_15_method_11_code 315 = .ok (.iload 4, 2) := by decide +kernel
theorem d_GM_cut_317 : decode prog_15_method_11_code 317 = .ok (.bipush 43, 2) := by decide +kernel
theorem d_GM_cut_319 : decode prog_15_method_11_code 319 = .ok (.if_icmp .eq 66, 3) := by decide +kernel
theorem d_GM_cut_322 : decode prog_15_method_11_code 322 = .ok (.iload 4, 2) := by decide +kernel
theorem d_GM_cut_324 : decode prog_15_method_11_code 324 = .ok (.bipush 45, 2) := by decide +kernel
theorem d_GM_cut_326 : decode prog_15_method_11_code 326 = .ok (.if_icmp .eq 59, 3) := by decide +kernel
theorem d_GM_cut_329 : decode prog_15_method_11_code 329 = .ok (.iload 4, 2) := by decide +kernel
theorem d_GM_cut_331 : decode prog_15_method_11_code 331 = .ok (.bipush 42, 2) := by decide +kernel
theorem d_GM_cut_333 : decode prog_15_method_11_code 333 = .ok (.if_icmp .eq 52, 3) := by decide +kernel
theorem d_GM_cut_336 : decode prog_15_method_11_code 336 = .ok (.iload 4, 2) := by decide +kernel
theorem d_GM_cut_338 : decode prog_15_method_11_code 338 = .ok (.bipush 47, 2) := by decide +kernel
theorem d_GM_cut_340 : decode prog_15_method_11_code 340 = .ok (.if_icmp .eq 45, 3) := by decide +kernel
theorem d_GM_cut_343 : decode prog_15_method_11_code 343 = .ok (.iload 4, 2) := by decide +kernel
theorem d_GM_cut_345 : decode prog_15_method_11_code 345 = .ok (.bipush 94, 2) := by decide +kernel
theorem d_GM_cut_347 : decode prog_15_method_11_code 347 = .ok (.if_icmp .eq 38, 3) := by decide +kernel
theorem d_GM_cut_350 : decode prog_15_method_11_code 350 = .ok (.iload 4, 2) := by decide +kernel
theorem d_GM_cut_352 : decode prog_15_method_11_code 352 = .ok (.bipush 37, 2) := by decide +kernel
theorem d_GM_cut_354 : decode prog_15_method_11_code 354 = .ok (.if_icmp .eq 31, 3) := by decide +kernel
theorem d_GM_cut_357 : decode prog_15_method_11_code 357 = .ok (.iload 4, 2) := by decide +kernel
theorem d_GM_cut_359 : decode prog_15_method_11_code 359 = .ok (.bipush 40, 2) := by decide +kernel
theorem d_GM_cut_361 : decode prog_15_method_11_code 361 = .ok (.if_icmp .eq 24, 3) := by decide +kernel
theorem d_GM_cut_364 : decode prog_15_method_11_code 364 = .ok (.iload 4, 2) := by decide +kernel
theorem d_GM_cut_366 : decode prog_15_method_11_code 366 = .ok (.bipush 41, 2) := by decide +kernel
theorem d_GM_cut_368 : decode prog_15_method_11_code 368 = .ok (.if_icmp .eq 17, 3) := by decide +kernel
theorem d_GM_cut_371 : decode prog_15_method_11_code 371 = .ok (.iload 4, 2) := by decide +kernel
theorem d_GM_cut_373 : decode prog_15_method_11_code 373 = .ok (.bipush 44, 2) := by decide +kernel
theorem d_GM_cut_375 : decode prog_15_method_11_code 375 = .ok (.if_icmp .eq 10, 3) := by decide +kernel
theorem d_GM_cut_378 : decode prog_15_method_11_code 378 = .ok (.iload 4, 2) := by decide +kernel
theorem d_GM_cut_380 : decode prog_15_method_11_code 380 = .ok (.bipush 58, 2) := by decide +kernel
theorem d_GM_cut_382 : decode prog_15_method_11_code 382 = .ok (.if_icmp .ne 15, 3) := by decide +kernel
theorem d_GM_cut_397 : decode prog_15_method_11_code 397 = .ok (.aload_n 0, 1) := by decide +kernel
theorem d_GM_cut_398 : decode prog_15_method_11_code 398 = .ok (.iconst 1, 1) := by decide +kernel
theorem d_GM_cut_399 : decode prog_15_method_11_code 399 = .ok (.putfield 181, 3) := by decide +kernel
theorem d_GM_cut_273 : decode prog_15_method_11_code 273 = .ok (.iload 6, 2) := by decide +kernel
theorem d_GM_cut_275 : decode prog_15_method_11_code 275 = .ok (.iload_n 3, 1) := by decide +kernel
theorem d_GM_cut_276 : decode prog_15_method_11_code 276 = .ok (.iconst 1, 1) := by decide +kernel
theorem d_GM_cut_277 : decode prog_15_method_11_code 277 = .ok (.iadd, 1) := by decide +kernel
theorem d_GM_cut_278 : decode prog_15_method_11_code 278 = .ok (.invokevirtual 189, 3) := by decide +kernel
theorem d_GM_cut_281 : decode prog_15_method_11_code 281 = .ok (.iinc 3 1, 3) := by decide +kernel
theorem d_GM_cut_284 : decode prog_15_method_11_code 284 = .ok (.goto 118, 3) := by decide +kernel
theorem d_GM_cut_172 : decode prog_15_method_11_code 172 = .ok (.aload_n 0, 1) := by decide +kernel
theorem d_GM_cut_173 : decode prog_15_method_11_code 173 = .ok (.iload_n 3, 1) := by decide +kernel
theorem d_GM_cut_174 : decode prog_15_method_11_code 174 = .ok (.iload_n 2, 1) := by decide +kernel
theorem d_GM_cut_175 : decode prog_15_method_11_code 175 = .ok (.if_icmp .eq 12, 3) := by decide +kernel
theorem d_GM_cut_178 : decode prog_15_method_11_code 178 = .ok (.iload_n 3, 1) := by decide +kernel
theorem d_GM_cut_179 : decode prog_15_method_11_code 179 = .ok (.iload 6, 2) := by decide +kernel
theorem d_GM_cut_181 : decode prog_15_method_11_code 181 = .ok (.isub, 1) := by decide +kernel
theorem d_GM_cut_182 : decode prog_15_method_11_code 182 = .ok (.bipush 65, 2) := by decide +kernel
theorem d_GM_cut_184 : decode prog_15_method_11_code 184 = .ok (.if_icmp .le 7, 3) := by decide +kernel
theorem d_GM_cut_191 : decode prog_15_method_11_code 191 = .ok (.iconst 0, 1) := by decide +kernel
theorem d_GM_cut_402 : decode prog_15_method_11_code 402 = .ok (.goto (-395), 3) := by decide +kernel
theorem d_GM_cut_385 : decode prog_15_method_11_code 385 = .ok (.aload_n 0, 1) := by decide +kernel
theorem d_GM_cut_386 : decode prog_15_method_11_code 386 = .ok (.iload 4, 2) := by decide +kernel
theorem d_GM_cut_388 : decode prog_15_method_11_code 388 = .ok (.iload 6, 2) := by decide +kernel
theorem d_GM_cut_390 : decode prog_15_method_11_code 390 = .ok (.iload_n 3, 1) := by decide +kernel
theorem d_GM_cut_391 : decode prog_15_method_11_code 391 = .ok (.invokevirtual 189, 3) := by decide +kernel
theorem d_GM_cut_394 : decode prog_15_method_11_code 394 = .ok (.goto 8, 3) := by decide +kernel
theorem d_GM_cut_187 : decode prog_15_method_11_code 187 = .ok (.iconst 1, 1) := by decide +kernel
theorem d_GM_cut_188 : decode prog_15_method_11_code 188 = .ok (.goto 4, 3) := by decide +kernel
theorem d_GM_cut_192 : decode prog_15_method_11_code 192 = .ok (.putfield 181, 3) := by decide +kernel
theorem d_GM_cut_195 : decode prog_15_method_11_code 195 = .ok (.aload_n 0, 1) := by decide +kernel
theorem d_GM_cut_196 : decode prog_15_method_11_code 196 = .ok (.iconst 2, 1) := by decide +kernel
theorem d_GM_cut_197 : decode prog_15_method_11_code 197 = .ok (.iload 6, 2) := by decide +kernel
theorem d_GM_cut_199 : decode prog_15_method_11_code 199 = .ok (.iconst 1, 1) := by decide +kernel
theorem d_GM_cut_200 : decode prog_15_method_11_code 200 = .ok (.iadd, 1) := by decide +kernel
theorem d_GM_cut_201 : decode prog_15_method_11_code 201 = .ok (.iload_n 3, 1) := by decide +kernel
theorem d_GM_cut_202 : decode prog_15_method_11_code 202 = .ok (.invokevirtual 189, 3) := by decide +kernel
theorem d_GM_cut_205 : decode prog_15_method_11_code 205 = .ok (.iinc 3 1, 3) := by decide +kernel
theorem d_GM_cut_208 : decode prog_15_method_11_code 208 = .ok (.goto 194, 3) := by decide +kernel
set_option maxHeartbeats 4000000 in
theorem w_GM_cut_0 {l : Launch} {G : gG} {d : Nat} {X : gX} {M : gM} {k : gM → Prop} {o : Nat} (hX : gmX X o) {x1 : Int} (hx1 : g32 x1) {x2 : Int} (hx2 : g32 x2) (T : wp l G y_GM_cut (gRm (d + 1)) true (kkV X k) true 7 [.val (gR G o), .unset, .val (gI x2), .val (gI x1), .unset, .unset, .unset] [] X (gUp M o 24 0) 0 0) : wp l G y_GM_cut (gRm (d + 1)) true (kkV X k) false 0 [.val (gR G o), .val (gI x1), .val (gI x2), .unset, .unset, .unset, .unset] [] X M 0 0 := by
  refine wp_aload_n d_GM_cut_0 rfl rfl (g_nz hX.1) ?_
  refine wp_iconst d_GM_cut_1 ?_
  refine xputI d_GM_cut_2 gc_GM f_GM_178.1 f_GM_178.2.1 f_GM_178.2.2.1 hX.1 (gm_o2 hX) hX.2.2.1 f_GM_178.2.2.2.1 f_GM_178.2.2.2.2.1 f_GM_178.2.2.2.2.2 (w32_id (g32_c (x := 0) rfl)) ?_
  refine wp_iload_n d_GM_cut_5 rfl rfl ?_
  refine wp_istore_n (L' := [.val (gR G o), .val (gI x1), .val (gI x2), .val (gI x1), .unset, .unset, .unset]) d_GM_cut_6 rfl (by decide) rfl ?_
  exact wp_md (wpt T (And.intro rfl (And.intro rfl (And.intro rfl True.intro))))
set_option maxHeartbeats 4000000 in
theorem w_GM_cut_7 {l : Launch} {G : gG} {d : Nat} {X : gX} {M : gM} {k : gM → Prop} {o : Nat} (hX : gmX X o) {x2 : Int} (hx2 : g32 x2) {x3 : Int} (hx3 : g32 x3) (T : (x2 ≤ x3 → (wp l G y_GM_cut (gRm (d + 1)) true (kkV X k) true 405 [.unset, .unset, .unset, .unset, .unset, .unset, .unset] [] X M 0 0)) ∧ (¬ x2 ≤ x3 → ((0 ≤ M o 27 ∧ M o 27 ≤ 1) → ((¬ M o 27 = 0 → (wp l G y_GM_cut (gRm (d + 1)) true (kkV X k) true 405 [.unset, .unset, .unset, .unset, .unset, .unset, .unset] [] X M 0 0)) ∧ (M o 27 = 0 → (((0 : Int) ≤ x3 ∧ x3 < 90000) ∧ ((-128 ≤ M (o + 1) (Int.toNat x3) ∧ M (o + 1) (Int.toNat x3) < 128) → ((x2 ≤ (w32 (x3 + 1)) → (wp l G y_GM_cut (gRm (d + 1)) true (kkV X k) true 46 [.val (gR G o), .unset, .val (gI x2), .val (gI x3), .val (gI (M (o + 1) (Int.toNat x3))), .unset, .unset] [gI 0] X M 0 0)) ∧ (¬ x2 ≤ (w32 (x3 + 1)) → (((0 : Int) ≤ x3 + 1 ∧ x3 + 1 < 90000) ∧ ((-128 ≤ M (o + 1) (Int.toNat (x3 + 1)) ∧ M (o + 1) (Int.toNat (x3 + 1)) < 128) → (wp l G y_GM_cut (gRm (d + 1)) true (kkV X k) true 46 [.val (gR G o), .unset, .val (gI x2), .val (gI x3), .val (gI (M (o + 1) (Int.toNat x3))), .unset, .unset] [gI (M (o + 1) (Int.toNat (x3 + 1)))] X M 0 0)))))))))))) : wp l G y_GM_cut (gRm (d + 1)) true (kkV X k) true 7 [.val (gR G o), .unset, .val (gI x2), .val (gI x3), .unset, .unset, .unset] [] X M 0 0 := by
  refine wp_iload_n d_GM_cut_7 rfl rfl ?_
  refine wp_iload_n d_GM_cut_8 rfl rfl ?_
  refine xi_ge (tgt := 405) d_GM_cut_9 (by decide) (w32_id hx3) (w32_id hx2) (fun h6 => ?_) (fun h6 => ?_)
  · have T := T.1 h6
    exact wp_md (wpt T True.intro)
  · have T := T.2 h6
    refine wp_aload_n d_GM_cut_12 rfl rfl (g_nz hX.1) ?_
    refine xgetZ d_GM_cut_13 gc_GM f_GM_181.1 f_GM_181.2.1 f_GM_181.2.2.1 hX.1 (gm_o2 hX) hX.2.2.1 f_GM_181.2.2.2.2.1 (fun h1 => ?_)
    have T := T h1
    refine xz_ne (tgt := 405) d_GM_cut_16 (by decide) (w32_id (g32_z h1)) (fun h5 => ?_) (fun h5 => ?_)
    · have T := T.1 h5
      exact wp_md (wpt T True.intro)
    · have T := T.2 h5
      refine wp_aload_n d_GM_cut_19 rfl rfl (g_nz hX.1) ?_
      refine xgetR d_GM_cut_20 gc_GM f_GM_8.1 f_GM_8.2.1 f_GM_8.2.2.1 hX.1 (gm_o2 hX) hX.2.2.1 f_GM_8.2.2.2.2.1 (gm_row hX 0 rfl).1 ?_
      refine wp_iload_n d_GM_cut_23 rfl rfl ?_
      refine wp_baload d_GM_cut_24 (gm_row hX 0 rfl).2.2.1 (gm_row hX 0 rfl).2.2.2 (gm_row hX 0 rfl).2.1 (g32_n T.1 (by decide)) T.1.1 T.1.2 (fun h2 => ?_)
      have T := T.2 h2
      refine wp_istore (L' := [.val (gR G o), .unset, .val (gI x2), .val (gI x3), .val (gI (M (o + 1) (Int.toNat x3))), .unset, .unset]) d_GM_cut_25 (by decide) rfl ?_
      refine wp_iload_n d_GM_cut_27 rfl rfl ?_
      refine wp_iconst d_GM_cut_28 ?_
      refine wp_iadd d_GM_cut_29 ?_
      refine wp_iload_n d_GM_cut_30 rfl rfl ?_
      refine xi_ge (tgt := 45) d_GM_cut_31 (by decide) rfl (w32_id hx2) (fun h4 => ?_) (fun h4 => ?_)
      · have T := T.1 h4
        refine wp_iconst d_GM_cut_45 ?_
        exact wp_md (wpt T (And.intro rfl (And.intro rfl (And.intro rfl (And.intro rfl True.intro)))))
      · have T := T.2 h4
        refine wp_aload_n d_GM_cut_34 rfl rfl (g_nz hX.1) ?_
        refine xgetR d_GM_cut_35 gc_GM f_GM_8.1 f_GM_8.2.1 f_GM_8.2.2.1 hX.1 (gm_o2 hX) hX.2.2.1 f_GM_8.2.2.2.2.1 (gm_row hX 0 rfl).1 ?_
        refine wp_iload_n d_GM_cut_38 rfl rfl ?_
        refine wp_iconst d_GM_cut_39 ?_
        refine wp_iadd d_GM_cut_40 ?_
        refine wp_baload d_GM_cut_41 (gm_row hX 0 rfl).2.2.1 (gm_row hX 0 rfl).2.2.2 (gm_row hX 0 rfl).2.1 (g32_n T.1 (by decide)) T.1.1 T.1.2 (fun h3 => ?_)
        have T := T.2 h3
        refine wp_goto (tgt := 46) d_GM_cut_42 (by decide) ?_
        exact wp_md (wpt T (And.intro rfl (And.intro rfl (And.intro rfl (And.intro rfl True.intro)))))
set_option maxHeartbeats 4000000 in
theorem w_GM_cut_405 {l : Launch} {G : gG} {d : Nat} {X : gX} {M : gM} {k : gM → Prop} {o : Nat} (hX : gmX X o)  (T : k M) : wp l G y_GM_cut (gRm (d + 1)) true (kkV X k) true 405 [.unset, .unset, .unset, .unset, .unset, .unset, .unset] [] X M 0 0 := by
  exact wp_return d_GM_cut_405 rfl (fun _ => rfl) (Nat.zero_le _) (Nat.zero_le _) (kV_mk T)
set_option maxHeartbeats 4000000 in
theorem w_GM_cut_46 {l : Launch} {G : gG} {d : Nat} {X : gX} {M : gM} {k : gM → Prop} {o : Nat} (hX : gmX X o) {x2 : Int} (hx2 : g32 x2) {x3 : Int} (hx3 : g32 x3) {x4 : Int} (hx4 : g32 x4) {s0 : Int} (hs0 : g32 s0) (T : (¬ x4 = 32 → (cZ l G y_GM_letter (gRm d) false [gI x4] X M (fun v8 M7 => ((¬ v8 = 0 → (wp l G y_GM_cut (gRm (d + 1)) true (kkV X k) true 87 [.val (gR G o), .unset, .val (gI x2), .val (gI (w32 (x3 + 1))), .unset, .unset, .val (gI x3)] [] X M7 0 0)) ∧ (v8 = 0 → (cZ l G y_GM_digit (gRm d) false [gI x4] X M7 (fun v11 M10 => ((¬ v11 = 0 → (wp l G y_GM_cut (gRm (d + 1)) true (kkV X k) true 87 [.val (gR G o), .unset, .val (gI x2), .val (gI (w32 (x3 + 1))), .unset, .unset, .val (gI x3)] [] X M10 0 0)) ∧ (v11 = 0 → ((¬ x4 = 36 → ((¬ x4 = 34 → ((¬ x4 = 60 → (wp l G y_GM_cut (gRm (d + 1)) true (kkV X k) true 232 [.val (gR G o), .unset, .val (gI x2), .val (gI (w32 (x3 + 1))), .val (gI x4), .val (gI s0), .val (gI x3)] [] X M10 0 0)) ∧ (x4 = 60 → ((s0 = 62 → (wp l G y_GM_cut (gRm (d + 1)) true (kkV X k) true 246 [.val (gR G o), .unset, .val (gI x2), .val (gI (w32 (x3 + 1))), .val (gI x4), .val (gI s0), .val (gI x3)] [] X M10 0 0)) ∧ (¬ s0 = 62 → ((s0 = 61 → (wp l G y_GM_cut (gRm (d + 1)) true (kkV X k) true 246 [.val (gR G o), .unset, .val (gI x2), .val (gI (w32 (x3 + 1))), .val (gI x4), .val (gI s0), .val (gI x3)] [] X M10 0 0)) ∧ (¬ s0 = 61 → (wp l G y_GM_cut (gRm (d + 1)) true (kkV X k) true 232 [.val (gR G o), .unset, .val (gI x2), .val (gI (w32 (x3 + 1))), .val (gI x4), .val (gI s0), .val (gI x3)] [] X M10 0 0)))))))) ∧ (x4 = 34 → (wp l G y_GM_cut (gRm (d + 1)) true (kkV X k) true 150 [.val (gR G o), .unset, .val (gI x2), .val (gI (w32 (x3 + 1))), .unset, .unset, .val (gI x3)] [] X M10 0 0)))) ∧ (x4 = 36 → (wp l G y_GM_cut (gRm (d + 1)) true (kkV X k) true 87 [.val (gR G o), .unset, .val (gI x2), .val (gI (w32 (x3 + 1))), .unset, .unset, .val (gI x3)] [] X M10 0 0)))))))))))) ∧ (x4 = 32 → (wp l G y_GM_cut (gRm (d + 1)) true (kkV X k) true 7 [.val (gR G o), .unset, .val (gI x2), .val (gI (w32 (x3 + 1))), .unset, .unset, .unset] [] X M 0 0))) : wp l G y_GM_cut (gRm (d + 1)) true (kkV X k) true 46 [.val (gR G o), .unset, .val (gI x2), .val (gI x3), .val (gI x4), .unset, .unset] [gI s0] X M 0 0 := by
  refine wp_istore (L' := [.val (gR G o), .unset, .val (gI x2), .val (gI x3), .val (gI x4), .val (gI s0), .unset]) d_GM_cut_46 (by decide) rfl ?_
  refine wp_iload_n d_GM_cut_48 rfl rfl ?_
  refine wp_istore (L' := [.val (gR G o), .unset, .val (gI x2), .val (gI x3), .val (gI x4), .val (gI s0), .val (gI x3)]) d_GM_cut_49 (by decide) rfl ?_
  refine wp_iinc (L' := [.val (gR G o), .unset, .val (gI x2), .val (gI (x3 + 1)), .val (gI x4), .val (gI s0), .val (gI x3)]) d_GM_cut_51 rfl (by decide) rfl ?_
  refine wp_iload d_GM_cut_54 rfl ?_
  refine wp_bipush d_GM_cut_56 ⟨by decide, by decide⟩ ?_
  refine xi_ne (tgt := 64) d_GM_cut_58 (by decide) (w32_id hx4) (w32_id (g32_c (x := 32) rfl)) (fun h20 => ?_) (fun h20 => ?_)
  · have T := T.1 h20
    refine wp_iload d_GM_cut_64 rfl ?_
    refine xcS_Z (md' := true) (As := [gI x4]) (st := []) d_GM_cut_66 ca_GM_letter ml_GM_211 sm_GM_letter rfl (by decide) (by decide) rfl (fun _ => rfl) (fun _ => rfl) T (fun v8 M7 h9 T => ?_)
    refine xz_ne (tgt := 87) d_GM_cut_69 (by decide) (w32_id (g32_z h9)) (fun h19 => ?_) (fun h19 => ?_)
    · have T := T.1 h19
      exact wp_md (wpt T (And.intro rfl (And.intro rfl (And.intro (gI_w _) (And.intro rfl True.intro)))))
    · have T := T.2 h19
      refine wp_iload d_GM_cut_72 rfl ?_
      refine xcS_Z (md' := true) (As := [gI x4]) (st := []) d_GM_cut_74 ca_GM_digit ml_GM_165 sm_GM_digit rfl (by decide) (by decide) rfl (fun _ => rfl) (fun _ => rfl) T (fun v11 M10 h12 T => ?_)
      refine xz_ne (tgt := 87) d_GM_cut_77 (by decide) (w32_id (g32_z h12)) (fun h18 => ?_) (fun h18 => ?_)
      · have T := T.1 h18
        exact wp_md (wpt T (And.intro rfl (And.intro rfl (And.intro (gI_w _) (And.intro rfl True.intro)))))
      · have T := T.2 h18
        refine wp_iload d_GM_cut_80 rfl ?_
        refine wp_bipush d_GM_cut_82 ⟨by decide, by decide⟩ ?_
        refine xi_ne (tgt := 143) d_GM_cut_84 (by decide) (w32_id hx4) (w32_id (g32_c (x := 36) rfl)) (fun h17 => ?_) (fun h17 => ?_)
        · have T := T.1 h17
          refine wp_iload d_GM_cut_143 rfl ?_
          refine wp_bipush d_GM_cut_145 ⟨by decide, by decide⟩ ?_
          refine xi_ne (tgt := 211) d_GM_cut_147 (by decide) (w32_id hx4) (w32_id (g32_c (x := 34) rfl)) (fun h16 => ?_) (fun h16 => ?_)
          · have T := T.1 h16
            refine wp_iload d_GM_cut_211 rfl ?_
            refine wp_bipush d_GM_cut_213 ⟨by decide, by decide⟩ ?_
            refine xi_ne (tgt := 232) d_GM_cut_215 (by decide) (w32_id hx4) (w32_id (g32_c (x := 60) rfl)) (fun h15 => ?_) (fun h15 => ?_)
            · have T := T.1 h15
              exact wp_md (wpt T (And.intro rfl (And.intro rfl (And.intro (gI_w _) (And.intro rfl (And.intro rfl (And.intro rfl True.intro)))))))
            · have T := T.2 h15
              refine wp_iload d_GM_cut_218 rfl ?_
              refine wp_bipush d_GM_cut_220 ⟨by decide, by decide⟩ ?_
              refine xi_eq (tgt := 246) d_GM_cut_222 (by decide) (w32_id hs0) (w32_id (g32_c (x := 62) rfl)) (fun h14 => ?_) (fun h14 => ?_)
              · have T := T.1 h14
                exact wp_md (wpt T (And.intro rfl (And.intro rfl (And.intro (gI_w _) (And.intro rfl (And.intro rfl (And.intro rfl True.intro)))))))
              · have T := T.2 h14
                refine wp_iload d_GM_cut_225 rfl ?_
                refine wp_bipush d_GM_cut_227 ⟨by decide, by decide⟩ ?_
                refine xi_eq (tgt := 246) d_GM_cut_229 (by decide) (w32_id hs0) (w32_id (g32_c (x := 61) rfl)) (fun h13 => ?_) (fun h13 => ?_)
                · have T := T.1 h13
                  exact wp_md (wpt T (And.intro rfl (And.intro rfl (And.intro (gI_w _) (And.intro rfl (And.intro rfl (And.intro rfl True.intro)))))))
                · have T := T.2 h13
                  exact wp_md (wpt T (And.intro rfl (And.intro rfl (And.intro (gI_w _) (And.intro rfl (And.intro rfl (And.intro rfl True.intro)))))))
          · have T := T.2 h16
            exact wp_md (wpt T (And.intro rfl (And.intro rfl (And.intro (gI_w _) (And.intro rfl True.intro)))))
        · have T := T.2 h17
          exact wp_md (wpt T (And.intro rfl (And.intro rfl (And.intro (gI_w _) (And.intro rfl True.intro)))))
  · have T := T.2 h20
    refine wp_goto (tgt := 7) d_GM_cut_61 (by decide) ?_
    exact wp_md (wpt T (And.intro rfl (And.intro rfl (And.intro (gI_w _) True.intro))))
set_option maxHeartbeats 4000000 in
theorem w_GM_cut_87 {l : Launch} {G : gG} {d : Nat} {X : gX} {M : gM} {k : gM → Prop} {o : Nat} (hX : gmX X o) {x2 : Int} (hx2 : g32 x2) {x3 : Int} (hx3 : g32 x3) {x6 : Int} (hx6 : g32 x6) (T : (x2 ≤ x3 → (wp l G y_GM_cut (gRm (d + 1)) true (kkV X k) true 133 [.val (gR G o), .unset, .val (gI x2), .val (gI x3), .unset, .unset, .val (gI x6)] [] X M 0 0)) ∧ (¬ x2 ≤ x3 → (((0 : Int) ≤ x3 ∧ x3 < 90000) ∧ ((-128 ≤ M (o + 1) (Int.toNat x3) ∧ M (o + 1) (Int.toNat x3) < 128) → (cZ l G y_GM_letter (gRm d) false [gI (M (o + 1) (Int.toNat x3))] X M (fun v23 M22 => ((¬ v23 = 0 → (wp l G y_GM_cut (gRm (d + 1)) true (kkV X k) true 127 [.val (gR G o), .unset, .val (gI x2), .val (gI x3), .unset, .unset, .val (gI x6)] [] X M22 0 0)) ∧ (v23 = 0 → (((0 : Int) ≤ x3 ∧ x3 < 90000) ∧ ((-128 ≤ M22 (o + 1) (Int.toNat x3) ∧ M22 (o + 1) (Int.toNat x3) < 128) → (cZ l G y_GM_digit (gRm d) false [gI (M22 (o + 1) (Int.toNat x3))] X M22 (fun v27 M26 => ((¬ v27 = 0 → (wp l G y_GM_cut (gRm (d + 1)) true (kkV X k) true 127 [.val (gR G o), .unset, .val (gI x2), .val (gI x3), .unset, .unset, .val (gI x6)] [] X M26 0 0)) ∧ (v27 = 0 → (((0 : Int) ≤ x3 ∧ x3 < 90000) ∧ ((-128 ≤ M26 (o + 1) (Int.toNat x3) ∧ M26 (o + 1) (Int.toNat x3) < 128) → ((¬ M26 (o + 1) (Int.toNat x3) = 36 → (wp l G y_GM_cut (gRm (d + 1)) true (kkV X k) true 133 [.val (gR G o), .unset, .val (gI x2), .val (gI x3), .unset, .unset, .val (gI x6)] [] X M26 0 0)) ∧ (M26 (o + 1) (Int.toNat x3) = 36 → (wp l G y_GM_cut (gRm (d + 1)) true (kkV X k) true 127 [.val (gR G o), .unset, .val (gI x2), .val (gI x3), .unset, .unset, .val (gI x6)] [] X M26 0 0))))))))))))))))))) : wp l G y_GM_cut (gRm (d + 1)) true (kkV X k) true 87 [.val (gR G o), .unset, .val (gI x2), .val (gI x3), .unset, .unset, .val (gI x6)] [] X M 0 0 := by
  refine wp_iload_n d_GM_cut_87 rfl rfl ?_
  refine wp_iload_n d_GM_cut_88 rfl rfl ?_
  refine xi_ge (tgt := 133) d_GM_cut_89 (by decide) (w32_id hx3) (w32_id hx2) (fun h33 => ?_) (fun h33 => ?_)
  · have T := T.1 h33
    exact wp_md (wpt T (And.intro rfl (And.intro rfl (And.intro rfl (And.intro rfl True.intro)))))
  · have T := T.2 h33
    refine wp_aload_n d_GM_cut_92 rfl rfl (g_nz hX.1) ?_
    refine xgetR d_GM_cut_93 gc_GM f_GM_8.1 f_GM_8.2.1 f_GM_8.2.2.1 hX.1 (gm_o2 hX) hX.2.2.1 f_GM_8.2.2.2.2.1 (gm_row hX 0 rfl).1 ?_
    refine wp_iload_n d_GM_cut_96 rfl rfl ?_
    refine wp_baload d_GM_cut_97 (gm_row hX 0 rfl).2.2.1 (gm_row hX 0 rfl).2.2.2 (gm_row hX 0 rfl).2.1 (g32_n T.1 (by decide)) T.1.1 T.1.2 (fun h21 => ?_)
    have T := T.2 h21
    refine xcS_Z (md' := true) (As := [gI (M (o + 1) (Int.toNat x3))]) (st := []) d_GM_cut_98 ca_GM_letter ml_GM_211 sm_GM_letter rfl (by decide) (by decide) rfl (fun _ => rfl) (fun _ => rfl) T (fun v23 M22 h24 T => ?_)
    refine xz_ne (tgt := 127) d_GM_cut_101 (by decide) (w32_id (g32_z h24)) (fun h32 => ?_) (fun h32 => ?_)
    · have T := T.1 h32
      exact wp_md (wpt T (And.intro rfl (And.intro rfl (And.intro rfl (And.intro rfl True.intro)))))
    · have T := T.2 h32
      refine wp_aload_n d_GM_cut_104 rfl rfl (g_nz hX.1) ?_
      refine xgetR d_GM_cut_105 gc_GM f_GM_8.1 f_GM_8.2.1 f_GM_8.2.2.1 hX.1 (gm_o2 hX) hX.2.2.1 f_GM_8.2.2.2.2.1 (gm_row hX 0 rfl).1 ?_
      refine wp_iload_n d_GM_cut_108 rfl rfl ?_
      refine wp_baload d_GM_cut_109 (gm_row hX 0 rfl).2.2.1 (gm_row hX 0 rfl).2.2.2 (gm_row hX 0 rfl).2.1 (g32_n T.1 (by decide)) T.1.1 T.1.2 (fun h25 => ?_)
      have T := T.2 h25
      refine xcS_Z (md' := true) (As := [gI (M22 (o + 1) (Int.toNat x3))]) (st := []) d_GM_cut_110 ca_GM_digit ml_GM_165 sm_GM_digit rfl (by decide) (by decide) rfl (fun _ => rfl) (fun _ => rfl) T (fun v27 M26 h28 T => ?_)
      refine xz_ne (tgt := 127) d_GM_cut_113 (by decide) (w32_id (g32_z h28)) (fun h31 => ?_) (fun h31 => ?_)
      · have T := T.1 h31
        exact wp_md (wpt T (And.intro rfl (And.intro rfl (And.intro rfl (And.intro rfl True.intro)))))
      · have T := T.2 h31
        refine wp_aload_n d_GM_cut_116 rfl rfl (g_nz hX.1) ?_
        refine xgetR d_GM_cut_117 gc_GM f_GM_8.1 f_GM_8.2.1 f_GM_8.2.2.1 hX.1 (gm_o2 hX) hX.2.2.1 f_GM_8.2.2.2.2.1 (gm_row hX 0 rfl).1 ?_
        refine wp_iload_n d_GM_cut_120 rfl rfl ?_
        refine wp_baload d_GM_cut_121 (gm_row hX 0 rfl).2.2.1 (gm_row hX 0 rfl).2.2.2 (gm_row hX 0 rfl).2.1 (g32_n T.1 (by decide)) T.1.1 T.1.2 (fun h29 => ?_)
        have T := T.2 h29
        refine wp_bipush d_GM_cut_122 ⟨by decide, by decide⟩ ?_
        refine xi_ne (tgt := 133) d_GM_cut_124 (by decide) (w32_id (g32_b h29)) (w32_id (g32_c (x := 36) rfl)) (fun h30 => ?_) (fun h30 => ?_)
        · have T := T.1 h30
          exact wp_md (wpt T (And.intro rfl (And.intro rfl (And.intro rfl (And.intro rfl True.intro)))))
        · have T := T.2 h30
          exact wp_md (wpt T (And.intro rfl (And.intro rfl (And.intro rfl (And.intro rfl True.intro)))))
set_option maxHeartbeats 4000000 in
theorem w_GM_cut_232 {l : Launch} {G : gG} {d : Nat} {X : gX} {M : gM} {k : gM → Prop} {o : Nat} (hX : gmX X o) {x2 : Int} (hx2 : g32 x2) {x3 : Int} (hx3 : g32 x3) {x4 : Int} (hx4 : g32 x4) {x5 : Int} (hx5 : g32 x5) {x6 : Int} (hx6 : g32 x6) (T : (¬ x4 = 62 → (wp l G y_GM_cut (gRm (d + 1)) true (kkV X k) true 287 [.val (gR G o), .unset, .val (gI x2), .val (gI x3), .val (gI x4), .unset, .val (gI x6)] [] X M 0 0)) ∧ (x4 = 62 → ((¬ x5 = 61 → (wp l G y_GM_cut (gRm (d + 1)) true (kkV X k) true 287 [.val (gR G o), .unset, .val (gI x2), .val (gI x3), .val (gI x4), .unset, .val (gI x6)] [] X M 0 0)) ∧ (x5 = 61 → (wp l G y_GM_cut (gRm (d + 1)) true (kkV X k) true 246 [.val (gR G o), .unset, .val (gI x2), .val (gI x3), .val (gI x4), .val (gI x5), .val (gI x6)] [] X M 0 0))))) : wp l G y_GM_cut (gRm (d + 1)) true (kkV X k) true 232 [.val (gR G o), .unset, .val (gI x2), .val (gI x3), .val (gI x4), .val (gI x5), .val (gI x6)] [] X M 0 0 := by
  refine wp_iload d_GM_cut_232 rfl ?_
  refine wp_bipush d_GM_cut_234 ⟨by decide, by decide⟩ ?_
  refine xi_ne (tgt := 287) d_GM_cut_236 (by decide) (w32_id hx4) (w32_id (g32_c (x := 62) rfl)) (fun h35 => ?_) (fun h35 => ?_)
  · have T := T.1 h35
    exact wp_md (wpt T (And.intro rfl (And.intro rfl (And.intro rfl (And.intro rfl (And.intro rfl True.intro))))))
  · have T := T.2 h35
    refine wp_iload d_GM_cut_239 rfl ?_
    refine wp_bipush d_GM_cut_241 ⟨by decide, by decide⟩ ?_
    refine xi_ne (tgt := 287) d_GM_cut_243 (by decide) (w32_id hx5) (w32_id (g32_c (x := 61) rfl)) (fun h34 => ?_) (fun h34 => ?_)
    · have T := T.1 h34
      exact wp_md (wpt T (And.intro rfl (And.intro rfl (And.intro rfl (And.intro rfl (And.intro rfl True.intro))))))
    · have T := T.2 h34
      exact wp_md (wpt T (And.intro rfl (And.intro rfl (And.intro rfl (And.intro rfl (And.intro rfl (And.intro rfl True.intro)))))))
set_option maxHeartbeats 4000000 in
theorem w_GM_cut_246 {l : Launch} {G : gG} {d : Nat} {X : gX} {M : gM} {k : gM → Prop} {o : Nat} (hX : gmX X o) {x2 : Int} (hx2 : g32 x2) {x3 : Int} (hx3 : g32 x3) {x4 : Int} (hx4 : g32 x4) {x5 : Int} (hx5 : g32 x5) {x6 : Int} (hx6 : g32 x6) (T : (¬ x4 = 62 → ((¬ x5 = 62 → (wp l G y_GM_cut (gRm (d + 1)) true (kkV X k) true 273 [.val (gR G o), .unset, .val (gI x2), .val (gI x3), .unset, .unset, .val (gI x6)] [gI 108, gR G o] X M 0 0)) ∧ (x5 = 62 → (wp l G y_GM_cut (gRm (d + 1)) true (kkV X k) true 273 [.val (gR G o), .unset, .val (gI x2), .val (gI x3), .unset, .unset, .val (gI x6)] [gI 110, gR G o] X M 0 0)))) ∧ (x4 = 62 → (wp l G y_GM_cut (gRm (d + 1)) true (kkV X k) true 273 [.val (gR G o), .unset, .val (gI x2), .val (gI x3), .unset, .unset, .val (gI x6)] [gI 103, gR G o] X M 0 0))) : wp l G y_GM_cut (gRm (d + 1)) true (kkV X k) true 246 [.val (gR G o), .unset, .val (gI x2), .val (gI x3), .val (gI x4), .val (gI x5), .val (gI x6)] [] X M 0 0 := by
  refine wp_aload_n d_GM_cut_246 rfl rfl (g_nz hX.1) ?_
  refine wp_iload d_GM_cut_247 rfl ?_
  refine wp_bipush d_GM_cut_249 ⟨by decide, by decide⟩ ?_
  refine xi_ne (tgt := 259) d_GM_cut_251 (by decide) (w32_id hx4) (w32_id (g32_c (x := 62) rfl)) (fun h37 => ?_) (fun h37 => ?_)
  · have T := T.1 h37
    refine wp_iload d_GM_cut_259 rfl ?_
    refine wp_bipush d_GM_cut_261 ⟨by decide, by decide⟩ ?_
    refine xi_ne (tgt := 271) d_GM_cut_263 (by decide) (w32_id hx5) (w32_id (g32_c (x := 62) rfl)) (fun h36 => ?_) (fun h36 => ?_)
    · have T := T.1 h36
      refine wp_bipush d_GM_cut_271 ⟨by decide, by decide⟩ ?_
      exact wp_md (wpt T (And.intro rfl (And.intro rfl (And.intro rfl (And.intro rfl True.intro)))))
    · have T := T.2 h36
      refine wp_bipush d_GM_cut_266 ⟨by decide, by decide⟩ ?_
      refine wp_goto (tgt := 273) d_GM_cut_268 (by decide) ?_
      exact wp_md (wpt T (And.intro rfl (And.intro rfl (And.intro rfl (And.intro rfl True.intro)))))
  · have T := T.2 h37
    refine wp_bipush d_GM_cut_254 ⟨by decide, by decide⟩ ?_
    refine wp_goto (tgt := 273) d_GM_cut_256 (by decide) ?_
    exact wp_md (wpt T (And.intro rfl (And.intro rfl (And.intro rfl (And.intro rfl True.intro)))))
set_option maxHeartbeats 4000000 in
theorem w_GM_cut_150 {l : Launch} {G : gG} {d : Nat} {X : gX} {M : gM} {k : gM → Prop} {o : Nat} (hX : gmX X o) {x2 : Int} (hx2 : g32 x2) {x3 : Int} (hx3 : g32 x3) {x6 : Int} (hx6 : g32 x6) (T : (x2 ≤ x3 → (wp l G y_GM_cut (gRm (d + 1)) true (kkV X k) true 172 [.val (gR G o), .unset, .val (gI x2), .val (gI x3), .unset, .unset, .val (gI x6)] [] X M 0 0)) ∧ (¬ x2 ≤ x3 → (((0 : Int) ≤ x3 ∧ x3 < 90000) ∧ ((-128 ≤ M (o + 1) (Int.toNat x3) ∧ M (o + 1) (Int.toNat x3) < 128) → ((M (o + 1) (Int.toNat x3) = 34 → (wp l G y_GM_cut (gRm (d + 1)) true (kkV X k) true 172 [.val (gR G o), .unset, .val (gI x2), .val (gI x3), .unset, .unset, .val (gI x6)] [] X M 0 0)) ∧ (¬ M (o + 1) (Int.toNat x3) = 34 → (wp l G y_GM_cut (gRm (d + 1)) true (kkV X k) true 150 [.val (gR G o), .unset, .val (gI x2), .val (gI (w32 (x3 + 1))), .unset, .unset, .val (gI x6)] [] X M 0 0))))))) : wp l G y_GM_cut (gRm (d + 1)) true (kkV X k) true 150 [.val (gR G o), .unset, .val (gI x2), .val (gI x3), .unset, .unset, .val (gI x6)] [] X M 0 0 := by
  refine wp_iload_n d_GM_cut_150 rfl rfl ?_
  refine wp_iload_n d_GM_cut_151 rfl rfl ?_
  refine xi_ge (tgt := 172) d_GM_cut_152 (by decide) (w32_id hx3) (w32_id hx2) (fun h40 => ?_) (fun h40 => ?_)
  · have T := T.1 h40
    exact wp_md (wpt T (And.intro rfl (And.intro rfl (And.intro rfl (And.intro rfl True.intro)))))
  · have T := T.2 h40
    refine wp_aload_n d_GM_cut_155 rfl rfl (g_nz hX.1) ?_
    refine xgetR d_GM_cut_156 gc_GM f_GM_8.1 f_GM_8.2.1 f_GM_8.2.2.1 hX.1 (gm_o2 hX) hX.2.2.1 f_GM_8.2.2.2.2.1 (gm_row hX 0 rfl).1 ?_
    refine wp_iload_n d_GM_cut_159 rfl rfl ?_
    refine wp_baload d_GM_cut_160 (gm_row hX 0 rfl).2.2.1 (gm_row hX 0 rfl).2.2.2 (gm_row hX 0 rfl).2.1 (g32_n T.1 (by decide)) T.1.1 T.1.2 (fun h38 => ?_)
    have T := T.2 h38
    refine wp_bipush d_GM_cut_161 ⟨by decide, by decide⟩ ?_
    refine xi_eq (tgt := 172) d_GM_cut_163 (by decide) (w32_id (g32_b h38)) (w32_id (g32_c (x := 34) rfl)) (fun h39 => ?_) (fun h39 => ?_)
    · have T := T.1 h39
      exact wp_md (wpt T (And.intro rfl (And.intro rfl (And.intro rfl (And.intro rfl True.intro)))))
    · have T := T.2 h39
      refine wp_iinc (L' := [.val (gR G o), .unset, .val (gI x2), .val (gI (x3 + 1)), .unset, .unset, .val (gI x6)]) d_GM_cut_166 rfl (by decide) rfl ?_
      refine wp_goto (tgt := 150) d_GM_cut_169 (by decide) ?_
      exact wp_md (wpt T (And.intro rfl (And.intro rfl (And.intro (gI_w _) (And.intro rfl True.intro)))))
set_option maxHeartbeats 4000000 in
theorem w_GM_cut_133 {l : Launch} {G : gG} {d : Nat} {X : gX} {M : gM} {k : gM → Prop} {o : Nat} (hX : gmX X o) {x2 : Int} (hx2 : g32 x2) {x3 : Int} (hx3 : g32 x3) {x6 : Int} (hx6 : g32 x6) (T : cV l G y_GM_word (gRm d) true [gR G o, gI x6, gI x3] X M (fun M41 => (wp l G y_GM_cut (gRm (d + 1)) true (kkV X k) true 402 [.val (gR G o), .unset, .val (gI x2), .val (gI x3), .unset, .unset, .unset] [] X M41 0 0))) : wp l G y_GM_cut (gRm (d + 1)) true (kkV X k) true 133 [.val (gR G o), .unset, .val (gI x2), .val (gI x3), .unset, .unset, .val (gI x6)] [] X M 0 0 := by
  refine wp_aload_n d_GM_cut_133 rfl rfl (g_nz hX.1) ?_
  refine wp_iload d_GM_cut_134 rfl ?_
  refine wp_iload_n d_GM_cut_136 rfl rfl ?_
  refine xcV_V (md' := true) (As := [gI x6, gI x3]) (st := []) d_GM_cut_137 ca_GM_word ml_GM_214 im_GM_word se_GM_word gc_GM hX.1 (gm_o2 hX) hX.2.2.1 rfl (by decide) (by decide) rfl (fun _ => rfl) (fun _ => rfl) T (fun M41 T => ?_)
  refine wp_goto (tgt := 402) d_GM_cut_140 (by decide) ?_
  exact wp_md (wpt T (And.intro rfl (And.intro rfl (And.intro rfl True.intro))))
set_option maxHeartbeats 4000000 in
theorem w_GM_cut_127 {l : Launch} {G : gG} {d : Nat} {X : gX} {M : gM} {k : gM → Prop} {o : Nat} (hX : gmX X o) {x2 : Int} (hx2 : g32 x2) {x3 : Int} (hx3 : g32 x3) {x6 : Int} (hx6 : g32 x6) (T : wp l G y_GM_cut (gRm (d + 1)) true (kkV X k) true 87 [.val (gR G o), .unset, .val (gI x2), .val (gI (w32 (x3 + 1))), .unset, .unset, .val (gI x6)] [] X M 0 0) : wp l G y_GM_cut (gRm (d + 1)) true (kkV X k) true 127 [.val (gR G o), .unset, .val (gI x2), .val (gI x3), .unset, .unset, .val (gI x6)] [] X M 0 0 := by
  refine wp_iinc (L' := [.val (gR G o), .unset, .val (gI x2), .val (gI (x3 + 1)), .unset, .unset, .val (gI x6)]) d_GM_cut_127 rfl (by decide) rfl ?_
  refine wp_goto (tgt := 87) d_GM_cut_130 (by decide) ?_
  exact wp_md (wpt T (And.intro rfl (And.intro rfl (And.intro (gI_w _) (And.intro rfl True.intro)))))
set_option maxHeartbeats 4000000 in
theorem w_GM_cut_287 {l : Launch} {G : gG} {d : Nat} {X : gX} {M : gM} {k : gM → Prop} {o : Nat} (hX : gmX X o) {x2 : Int} (hx2 : g32 x2) {x3 : Int} (hx3 : g32 x3) {x4 : Int} (hx4 : g32 x4) {x6 : Int} (hx6 : g32 x6) (T : (x4 = 61 → (wp l G y_GM_cut (gRm (d + 1)) true (kkV X k) true 385 [.val (gR G o), .unset, .val (gI x2), .val (gI x3), .val (gI x4), .unset, .val (gI x6)] [] X M 0 0)) ∧ (¬ x4 = 61 → ((x4 = 60 → (wp l G y_GM_cut (gRm (d + 1)) true (kkV X k) true 385 [.val (gR G o), .unset, .val (gI x2), .val (gI x3), .val (gI x4), .unset, .val (gI x6)] [] X M 0 0)) ∧ (¬ x4 = 60 → ((x4 = 62 → (wp l G y_GM_cut (gRm (d + 1)) true (kkV X k) true 385 [.val (gR G o), .unset, .val (gI x2), .val (gI x3), .val (gI x4), .unset, .val (gI x6)] [] X M 0 0)) ∧ (¬ x4 = 62 → ((x4 = 38 → (wp l G y_GM_cut (gRm (d + 1)) true (kkV X k) true 385 [.val (gR G o), .unset, .val (gI x2), .val (gI x3), .val (gI x4), .unset, .val (gI x6)] [] X M 0 0)) ∧ (¬ x4 = 38 → ((x4 = 43 → (wp l G y_GM_cut (gRm (d + 1)) true (kkV X k) true 385 [.val (gR G o), .unset, .val (gI x2), .val (gI x3), .val (gI x4), .unset, .val (gI x6)] [] X M 0 0)) ∧ (¬ x4 = 43 → ((x4 = 45 → (wp l G y_GM_cut (gRm (d + 1)) true (kkV X k) true 385 [.val (gR G o), .unset, .val (gI x2), .val (gI x3), .val (gI x4), .unset, .val (gI x6)] [] X M 0 0)) ∧ (¬ x4 = 45 → ((x4 = 42 → (wp l G y_GM_cut (gRm (d + 1)) true (kkV X k) true 385 [.val (gR G o), .unset, .val (gI x2), .val (gI x3), .val (gI x4), .unset, .val (gI x6)] [] X M 0 0)) ∧ (¬ x4 = 42 → ((x4 = 47 → (wp l G y_GM_cut (gRm (d + 1)) true (kkV X k) true 385 [.val (gR G o), .unset, .val (gI x2), .val (gI x3), .val (gI x4), .unset, .val (gI x6)] [] X M 0 0)) ∧ (¬ x4 = 47 → ((x4 = 94 → (wp l G y_GM_cut (gRm (d + 1)) true (kkV X k) true 385 [.val (gR G o), .unset, .val (gI x2), .val (gI x3), .val (gI x4), .unset, .val (gI x6)] [] X M 0 0)) ∧ (¬ x4 = 94 → ((x4 = 37 → (wp l G y_GM_cut (gRm (d + 1)) true (kkV X k) true 385 [.val (gR G o), .unset, .val (gI x2), .val (gI x3), .val (gI x4), .unset, .val (gI x6)] [] X M 0 0)) ∧ (¬ x4 = 37 → ((x4 = 40 → (wp l G y_GM_cut (gRm (d + 1)) true (kkV X k) true 385 [.val (gR G o), .unset, .val (gI x2), .val (gI x3), .val (gI x4), .unset, .val (gI x6)] [] X M 0 0)) ∧ (¬ x4 = 40 → ((x4 = 41 → (wp l G y_GM_cut (gRm (d + 1)) true (kkV X k) true 385 [.val (gR G o), .unset, .val (gI x2), .val (gI x3), .val (gI x4), .unset, .val (gI x6)] [] X M 0 0)) ∧ (¬ x4 = 41 → ((x4 = 44 → (wp l G y_GM_cut (gRm (d + 1)) true (kkV X k) true 385 [.val (gR G o), .unset, .val (gI x2), .val (gI x3), .val (gI x4), .unset, .val (gI x6)] [] X M 0 0)) ∧ (¬ x4 = 44 → ((¬ x4 = 58 → (wp l G y_GM_cut (gRm (d + 1)) true (kkV X k) true 402 [.val (gR G o), .unset, .val (gI x2), .val (gI x3), .unset, .unset, .unset] [] X (gUp M o 27 1) 0 0)) ∧ (x4 = 58 → (wp l G y_GM_cut (gRm (d + 1)) true (kkV X k) true 385 [.val (gR G o), .unset, .val (gI x2), .val (gI x3), .val (gI x4), .unset, .val (gI x6)] [] X M 0 0))))))))))))))))))))))))))))) : wp l G y_GM_cut (gRm (d + 1)) true (kkV X k) true 287 [.val (gR G o), .unset, .val (gI x2), .val (gI x3), .val (gI x4), .unset, .val (gI x6)] [] X M 0 0 := by
  refine wp_iload d_GM_cut_287 rfl ?_
  refine wp_bipush d_GM_cut_289 ⟨by decide, by decide⟩ ?_
  refine xi_eq (tgt := 385) d_GM_cut_291 (by decide) (w32_id hx4) (w32_id (g32_c (x := 61) rfl)) (fun h55 => ?_) (fun h55 => ?_)
  · have T := T.1 h55
    exact wp_md (wpt T (And.intro rfl (And.intro rfl (And.intro rfl (And.intro rfl (And.intro rfl True.intro))))))
  · have T := T.2 h55
    refine wp_iload d_GM_cut_294 rfl ?_
    refine wp_bipush d_GM_cut_296 ⟨by decide, by decide⟩ ?_
    refine xi_eq (tgt := 385) d_GM_cut_298 (by decide) (w32_id hx4) (w32_id (g32_c (x := 60) rfl)) (fun h54 => ?_) (fun h54 => ?_)
    · have T := T.1 h54
      exact wp_md (wpt T (And.intro rfl (And.intro rfl (And.intro rfl (And.intro rfl (And.intro rfl True.intro))))))
    · have T := T.2 h54
      refine wp_iload d_GM_cut_301 rfl ?_
      refine wp_bipush d_GM_cut_303 ⟨by decide, by decide⟩ ?_
      refine xi_eq (tgt := 385) d_GM_cut_305 (by decide) (w32_id hx4) (w32_id (g32_c (x := 62) rfl)) (fun h53 => ?_) (fun h53 => ?_)
      · have T := T.1 h53
        exact wp_md (wpt T (And.intro rfl (And.intro rfl (And.intro rfl (And.intro rfl (And.intro rfl True.intro))))))
      · have T := T.2 h53
        refine wp_iload d_GM_cut_308 rfl ?_
        refine wp_bipush d_GM_cut_310 ⟨by decide, by decide⟩ ?_
        refine xi_eq (tgt := 385) d_GM_cut_312 (by decide) (w32_id hx4) (w32_id (g32_c (x := 38) rfl)) (fun h52 => ?_) (fun h52 => ?_)
        · have T := T.1 h52
          exact wp_md (wpt T (And.intro rfl (And.intro rfl (And.intro rfl (And.intro rfl (And.intro rfl True.intro))))))
        · have T := T.2 h52
          refine wp_iload d_GM_cut_315 rfl ?_
          refine wp_bipush d_GM_cut_317 ⟨by decide, by decide⟩ ?_
          refine xi_eq (tgt := 385) d_GM_cut_319 (by decide) (w32_id hx4) (w32_id (g32_c (x := 43) rfl)) (fun h51 => ?_) (fun h51 => ?_)
          · have T := T.1 h51
            exact wp_md (wpt T (And.intro rfl (And.intro rfl (And.intro rfl (And.intro rfl (And.intro rfl True.intro))))))
          · have T := T.2 h51
            refine wp_iload d_GM_cut_322 rfl ?_
            refine wp_bipush d_GM_cut_324 ⟨by decide, by decide⟩ ?_
            refine xi_eq (tgt := 385) d_GM_cut_326 (by decide) (w32_id hx4) (w32_id (g32_c (x := 45) rfl)) (fun h50 => ?_) (fun h50 => ?_)
            · have T := T.1 h50
              exact wp_md (wpt T (And.intro rfl (And.intro rfl (And.intro rfl (And.intro rfl (And.intro rfl True.intro))))))
            · have T := T.2 h50
              refine wp_iload d_GM_cut_329 rfl ?_
              refine wp_bipush d_GM_cut_331 ⟨by decide, by decide⟩ ?_
              refine xi_eq (tgt := 385) d_GM_cut_333 (by decide) (w32_id hx4) (w32_id (g32_c (x := 42) rfl)) (fun h49 => ?_) (fun h49 => ?_)
              · have T := T.1 h49
                exact wp_md (wpt T (And.intro rfl (And.intro rfl (And.intro rfl (And.intro rfl (And.intro rfl True.intro))))))
              · have T := T.2 h49
                refine wp_iload d_GM_cut_336 rfl ?_
                refine wp_bipush d_GM_cut_338 ⟨by decide, by decide⟩ ?_
                refine xi_eq (tgt := 385) d_GM_cut_340 (by decide) (w32_id hx4) (w32_id (g32_c (x := 47) rfl)) (fun h48 => ?_) (fun h48 => ?_)
                · have T := T.1 h48
                  exact wp_md (wpt T (And.intro rfl (And.intro rfl (And.intro rfl (And.intro rfl (And.intro rfl True.intro))))))
                · have T := T.2 h48
                  refine wp_iload d_GM_cut_343 rfl ?_
                  refine wp_bipush d_GM_cut_345 ⟨by decide, by decide⟩ ?_
                  refine xi_eq (tgt := 385) d_GM_cut_347 (by decide) (w32_id hx4) (w32_id (g32_c (x := 94) rfl)) (fun h47 => ?_) (fun h47 => ?_)
                  · have T := T.1 h47
                    exact wp_md (wpt T (And.intro rfl (And.intro rfl (And.intro rfl (And.intro rfl (And.intro rfl True.intro))))))
                  · have T := T.2 h47
                    refine wp_iload d_GM_cut_350 rfl ?_
                    refine wp_bipush d_GM_cut_352 ⟨by decide, by decide⟩ ?_
                    refine xi_eq (tgt := 385) d_GM_cut_354 (by decide) (w32_id hx4) (w32_id (g32_c (x := 37) rfl)) (fun h46 => ?_) (fun h46 => ?_)
                    · have T := T.1 h46
                      exact wp_md (wpt T (And.intro rfl (And.intro rfl (And.intro rfl (And.intro rfl (And.intro rfl True.intro))))))
                    · have T := T.2 h46
                      refine wp_iload d_GM_cut_357 rfl ?_
                      refine wp_bipush d_GM_cut_359 ⟨by decide, by decide⟩ ?_
                      refine xi_eq (tgt := 385) d_GM_cut_361 (by decide) (w32_id hx4) (w32_id (g32_c (x := 40) rfl)) (fun h45 => ?_) (fun h45 => ?_)
                      · have T := T.1 h45
                        exact wp_md (wpt T (And.intro rfl (And.intro rfl (And.intro rfl (And.intro rfl (And.intro rfl True.intro))))))
                      · have T := T.2 h45
                        refine wp_iload d_GM_cut_364 rfl ?_
                        refine wp_bipush d_GM_cut_366 ⟨by decide, by decide⟩ ?_
                        refine xi_eq (tgt := 385) d_GM_cut_368 (by decide) (w32_id hx4) (w32_id (g32_c (x := 41) rfl)) (fun h44 => ?_) (fun h44 => ?_)
                        · have T := T.1 h44
                          exact wp_md (wpt T (And.intro rfl (And.intro rfl (And.intro rfl (And.intro rfl (And.intro rfl True.intro))))))
                        · have T := T.2 h44
                          refine wp_iload d_GM_cut_371 rfl ?_
                          refine wp_bipush d_GM_cut_373 ⟨by decide, by decide⟩ ?_
                          refine xi_eq (tgt := 385) d_GM_cut_375 (by decide) (w32_id hx4) (w32_id (g32_c (x := 44) rfl)) (fun h43 => ?_) (fun h43 => ?_)
                          · have T := T.1 h43
                            exact wp_md (wpt T (And.intro rfl (And.intro rfl (And.intro rfl (And.intro rfl (And.intro rfl True.intro))))))
                          · have T := T.2 h43
                            refine wp_iload d_GM_cut_378 rfl ?_
                            refine wp_bipush d_GM_cut_380 ⟨by decide, by decide⟩ ?_
                            refine xi_ne (tgt := 397) d_GM_cut_382 (by decide) (w32_id hx4) (w32_id (g32_c (x := 58) rfl)) (fun h42 => ?_) (fun h42 => ?_)
                            · have T := T.1 h42
                              refine wp_aload_n d_GM_cut_397 rfl rfl (g_nz hX.1) ?_
                              refine wp_iconst d_GM_cut_398 ?_
                              refine xputZ d_GM_cut_399 gc_GM f_GM_181.1 f_GM_181.2.1 f_GM_181.2.2.1 hX.1 (gm_o2 hX) hX.2.2.1 f_GM_181.2.2.2.1 f_GM_181.2.2.2.2.1 f_GM_181.2.2.2.2.2 (⟨by decide, by decide⟩ : (0 : Int) ≤ 1 ∧ (1 : Int) ≤ 1) ?_
                              exact wp_md (wpt T (And.intro rfl (And.intro rfl (And.intro rfl True.intro))))
                            · have T := T.2 h42
                              exact wp_md (wpt T (And.intro rfl (And.intro rfl (And.intro rfl (And.intro rfl (And.intro rfl True.intro))))))
set_option maxHeartbeats 4000000 in
theorem w_GM_cut_273 {l : Launch} {G : gG} {d : Nat} {X : gX} {M : gM} {k : gM → Prop} {o : Nat} (hX : gmX X o) {x2 : Int} (hx2 : g32 x2) {x3 : Int} (hx3 : g32 x3) {x6 : Int} (hx6 : g32 x6) {s0 : Int} (hs0 : g32 s0) (T : cV l G y_GM_token (gRm d) true [gR G o, gI s0, gI x6, gI (x3 + 1)] X M (fun M56 => (wp l G y_GM_cut (gRm (d + 1)) true (kkV X k) true 402 [.val (gR G o), .unset, .val (gI x2), .val (gI (w32 (x3 + 1))), .unset, .unset, .unset] [] X M56 0 0))) : wp l G y_GM_cut (gRm (d + 1)) true (kkV X k) true 273 [.val (gR G o), .unset, .val (gI x2), .val (gI x3), .unset, .unset, .val (gI x6)] [gI s0, gR G o] X M 0 0 := by
  refine wp_iload d_GM_cut_273 rfl ?_
  refine wp_iload_n d_GM_cut_275 rfl rfl ?_
  refine wp_iconst d_GM_cut_276 ?_
  refine wp_iadd d_GM_cut_277 ?_
  refine xcV_V (md' := true) (As := [gI s0, gI x6, gI (x3 + 1)]) (st := []) d_GM_cut_278 ca_GM_token ml_GM_189 im_GM_token se_GM_token gc_GM hX.1 (gm_o2 hX) hX.2.2.1 rfl (by decide) (by decide) rfl (fun _ => rfl) (fun _ => rfl) T (fun M56 T => ?_)
  refine wp_iinc (L' := [.val (gR G o), .unset, .val (gI x2), .val (gI (x3 + 1)), .unset, .unset, .val (gI x6)]) d_GM_cut_281 rfl (by decide) rfl ?_
  refine wp_goto (tgt := 402) d_GM_cut_284 (by decide) ?_
  exact wp_md (wpt T (And.intro rfl (And.intro rfl (And.intro (gI_w _) True.intro))))
set_option maxHeartbeats 4000000 in
theorem w_GM_cut_172 {l : Launch} {G : gG} {d : Nat} {X : gX} {M : gM} {k : gM → Prop} {o : Nat} (hX : gmX X o) {x2 : Int} (hx2 : g32 x2) {x3 : Int} (hx3 : g32 x3) {x6 : Int} (hx6 : g32 x6) (T : (x3 = x2 → (wp l G y_GM_cut (gRm (d + 1)) true (kkV X k) true 187 [.val (gR G o), .unset, .val (gI x2), .val (gI x3), .unset, .unset, .val (gI x6)] [gR G o] X M 0 0)) ∧ (¬ x3 = x2 → (((w32 (x3 - x6)) ≤ 65 → (wp l G y_GM_cut (gRm (d + 1)) true (kkV X k) true 192 [.val (gR G o), .unset, .val (gI x2), .val (gI x3), .unset, .unset, .val (gI x6)] [gI 0, gR G o] X M 0 0)) ∧ (¬ (w32 (x3 - x6)) ≤ 65 → (wp l G y_GM_cut (gRm (d + 1)) true (kkV X k) true 187 [.val (gR G o), .unset, .val (gI x2), .val (gI x3), .unset, .unset, .val (gI x6)] [gR G o] X M 0 0))))) : wp l G y_GM_cut (gRm (d + 1)) true (kkV X k) true 172 [.val (gR G o), .unset, .val (gI x2), .val (gI x3), .unset, .unset, .val (gI x6)] [] X M 0 0 := by
  refine wp_aload_n d_GM_cut_172 rfl rfl (g_nz hX.1) ?_
  refine wp_iload_n d_GM_cut_173 rfl rfl ?_
  refine wp_iload_n d_GM_cut_174 rfl rfl ?_
  refine xi_eq (tgt := 187) d_GM_cut_175 (by decide) (w32_id hx3) (w32_id hx2) (fun h58 => ?_) (fun h58 => ?_)
  · have T := T.1 h58
    exact wp_md (wpt T (And.intro rfl (And.intro rfl (And.intro rfl (And.intro rfl True.intro)))))
  · have T := T.2 h58
    refine wp_iload_n d_GM_cut_178 rfl rfl ?_
    refine wp_iload d_GM_cut_179 rfl ?_
    refine wp_isub d_GM_cut_181 ?_
    refine wp_bipush d_GM_cut_182 ⟨by decide, by decide⟩ ?_
    refine xi_le (tgt := 191) d_GM_cut_184 (by decide) rfl (w32_id (g32_c (x := 65) rfl)) (fun h57 => ?_) (fun h57 => ?_)
    · have T := T.1 h57
      refine wp_iconst d_GM_cut_191 ?_
      exact wp_md (wpt T (And.intro rfl (And.intro rfl (And.intro rfl (And.intro rfl True.intro)))))
    · have T := T.2 h57
      exact wp_md (wpt T (And.intro rfl (And.intro rfl (And.intro rfl (And.intro rfl True.intro)))))
set_option maxHeartbeats 4000000 in
theorem w_GM_cut_402 {l : Launch} {G : gG} {d : Nat} {X : gX} {M : gM} {k : gM → Prop} {o : Nat} (hX : gmX X o) {x2 : Int} (hx2 : g32 x2) {x3 : Int} (hx3 : g32 x3) (T : wp l G y_GM_cut (gRm (d + 1)) true (kkV X k) true 7 [.val (gR G o), .unset, .val (gI x2), .val (gI x3), .unset, .unset, .unset] [] X M 0 0) : wp l G y_GM_cut (gRm (d + 1)) true (kkV X k) true 402 [.val (gR G o), .unset, .val (gI x2), .val (gI x3), .unset, .unset, .unset] [] X M 0 0 := by
  refine wp_goto (tgt := 7) d_GM_cut_402 (by decide) ?_
  exact wp_md (wpt T (And.intro rfl (And.intro rfl (And.intro rfl True.intro))))
set_option maxHeartbeats 4000000 in
theorem w_GM_cut_385 {l : Launch} {G : gG} {d : Nat} {X : gX} {M : gM} {k : gM → Prop} {o : Nat} (hX : gmX X o) {x2 : Int} (hx2 : g32 x2) {x3 : Int} (hx3 : g32 x3) {x4 : Int} (hx4 : g32 x4) {x6 : Int} (hx6 : g32 x6) (T : cV l G y_GM_token (gRm d) true [gR G o, gI x4, gI x6, gI x3] X M (fun M59 => (wp l G y_GM_cut (gRm (d + 1)) true (kkV X k) true 402 [.val (gR G o), .unset, .val (gI x2), .val (gI x3), .unset, .unset, .unset] [] X M59 0 0))) : wp l G y_GM_cut (gRm (d + 1)) true (kkV X k) true 385 [.val (gR G o), .unset, .val (gI x2), .val (gI x3), .val (gI x4), .unset, .val (gI x6)] [] X M 0 0 := by
  refine wp_aload_n d_GM_cut_385 rfl rfl (g_nz hX.1) ?_
  refine wp_iload d_GM_cut_386 rfl ?_
  refine wp_iload d_GM_cut_388 rfl ?_
  refine wp_iload_n d_GM_cut_390 rfl rfl ?_
  refine xcV_V (md' := true) (As := [gI x4, gI x6, gI x3]) (st := []) d_GM_cut_391 ca_GM_token ml_GM_189 im_GM_token se_GM_token gc_GM hX.1 (gm_o2 hX) hX.2.2.1 rfl (by decide) (by decide) rfl (fun _ => rfl) (fun _ => rfl) T (fun M59 T => ?_)
  refine wp_goto (tgt := 402) d_GM_cut_394 (by decide) ?_
  exact wp_md (wpt T (And.intro rfl (And.intro rfl (And.intro rfl True.intro))))
set_option maxHeartbeats 4000000 in
theorem w_GM_cut_187 {l : Launch} {G : gG} {d : Nat} {X : gX} {M : gM} {k : gM → Prop} {o : Nat} (hX : gmX X o) {x2 : Int} (hx2 : g32 x2) {x3 : Int} (hx3 : g32 x3) {x6 : Int} (hx6 : g32 x6) (T : wp l G y_GM_cut (gRm (d + 1)) true (kkV X k) true 192 [.val (gR G o), .unset, .val (gI x2), .val (gI x3), .unset, .unset, .val (gI x6)] [gI 1, gR G o] X M 0 0) : wp l G y_GM_cut (gRm (d + 1)) true (kkV X k) true 187 [.val (gR G o), .unset, .val (gI x2), .val (gI x3), .unset, .unset, .val (gI x6)] [gR G o] X M 0 0 := by
  refine wp_iconst d_GM_cut_187 ?_
  refine wp_goto (tgt := 192) d_GM_cut_188 (by decide) ?_
  exact wp_md (wpt T (And.intro rfl (And.intro rfl (And.intro rfl (And.intro rfl True.intro)))))
set_option maxHeartbeats 4000000 in
theorem w_GM_cut_192 {l : Launch} {G : gG} {d : Nat} {X : gX} {M : gM} {k : gM → Prop} {o : Nat} (hX : gmX X o) {x2 : Int} (hx2 : g32 x2) {x3 : Int} (hx3 : g32 x3) {x6 : Int} (hx6 : g32 x6) {s0 : Int} (hs0 : g32 s0) (T : (0 ≤ s0 ∧ s0 ≤ 1) ∧ (cV l G y_GM_token (gRm d) true [gR G o, gI 2, gI (x6 + 1), gI x3] X (gUp M o 27 s0) (fun M60 => (wp l G y_GM_cut (gRm (d + 1)) true (kkV X k) true 402 [.val (gR G o), .unset, .val (gI x2), .val (gI (w32 (x3 + 1))), .unset, .unset, .unset] [] X M60 0 0)))) : wp l G y_GM_cut (gRm (d + 1)) true (kkV X k) true 192 [.val (gR G o), .unset, .val (gI x2), .val (gI x3), .unset, .unset, .val (gI x6)] [gI s0, gR G o] X M 0 0 := by
  refine xputZ d_GM_cut_192 gc_GM f_GM_181.1 f_GM_181.2.1 f_GM_181.2.2.1 hX.1 (gm_o2 hX) hX.2.2.1 f_GM_181.2.2.2.1 f_GM_181.2.2.2.2.1 f_GM_181.2.2.2.2.2 T.1 ?_
  have T := T.2
  refine wp_aload_n d_GM_cut_195 rfl rfl (g_nz hX.1) ?_
  refine wp_iconst d_GM_cut_196 ?_
  refine wp_iload d_GM_cut_197 rfl ?_
  refine wp_iconst d_GM_cut_199 ?_
  refine wp_iadd d_GM_cut_200 ?_
  refine wp_iload_n d_GM_cut_201 rfl rfl ?_
  refine xcV_V (md' := true) (As := [gI 2, gI (x6 + 1), gI x3]) (st := []) d_GM_cut_202 ca_GM_token ml_GM_189 im_GM_token se_GM_token gc_GM hX.1 (gm_o2 hX) hX.2.2.1 rfl (by decide) (by decide) rfl (fun _ => rfl) (fun _ => rfl) T (fun M60 T => ?_)
  refine wp_iinc (L' := [.val (gR G o), .unset, .val (gI x2), .val (gI (x3 + 1)), .unset, .unset, .val (gI x6)]) d_GM_cut_205 rfl (by decide) rfl ?_
  refine wp_goto (tgt := 402) d_GM_cut_208 (by decide) ?_
  exact wp_md (wpt T (And.intro rfl (And.intro rfl (And.intro (gI_w _) True.intro))))
theorem e_GM_cut {l : Launch} {G : gG} {d : Nat} {X : gX} {M : gM} {k : gM → Prop} {o : Nat} {x1 : Int} {x2 : Int} (T : wp l G y_GM_cut (gRm (d + 1)) true (kkV X k) false 0 [.val (gR G o), .val (gI x1), .val (gI x2), .unset, .unset, .unset, .unset] [] X M 0 0) : cV l G y_GM_cut (gRm (d + 1)) true [gR G o, gI x1, gI x2] X M k := cen_V (plainFor_of_name rfl) (by simp only [lg_sl_R, lg_sl_I, lg_sl_L, lg_sl_N, List.length_cons, List.length_nil]; decide) (by unfold gEn; simp only [lg_sl_R, lg_sl_I, lg_sl_L, lg_sl_N]; exact wpt T (And.intro rfl (And.intro rfl (And.intro rfl True.intro))))
theorem d_GM_look_0 : decode prog_15_method_12_code 0 = .ok (.aload_n 0, 1) := by decide +kernel
theorem d_GM_look_1 : decode prog_15_method_12_code 1 = .ok (.getfield 218, 3) := by decide +kernel
theorem d_GM_look_4 : decode prog_15_method_12_code 4 = .ok (.iload_n 1, 1) := by decide +kernel
theorem d_GM_look_5 : decode prog_15_method_12_code 5 = .ok (.iadd, 1) := by decide +kernel
theorem d_GM_look_6 : decode prog_15_method_12_code 6 = .ok (.aload_n 0, 1) := by decide +kernel
theorem d_GM_look_7 : decode prog_15_method_12_code 7 = .ok (.getfield 178, 3) := by decide +kernel
theorem d_GM_look_10 : decode prog_15_method_12_code 10 = .ok (.if_icmp .ge 17, 3) := by decide +kernel
theorem d_GM_look_27 : decode prog_15_method_12_code 27 = .ok (.iconst 0, 1) := by decide +kernel
theorem d_GM_look_28 : decode prog_15_method_12_code 28 = .ok (.ireturn, 1) := by decide +kernel
theorem d_GM_look_13 : decode prog_15_method_12_code 13 = .ok (.aload_n 0, 1) := by decide +kernel
theorem d_GM_look_14 : decode prog_15_method_12_code 14 = .ok (.getfield 50, 3) := by decide +kernel
theorem d_GM_look_17 : decode prog_15_method_12_code 17 = .ok (.aload_n 0, 1) := by decide +kernel
theorem d_GM_look_18 : decode prog_15_method_12_code 18 = .ok (.getfield 218, 3) := by decide +kernel
theorem d_GM_look_21 : decode prog_15_method_12_code 21 = .ok (.iload_n 1, 1) := by decide +kernel
theorem d_GM_look_22 : decode prog_15_method_12_code 22 = .ok (.iadd, 1) := by decide +kernel
theorem d_GM_look_23 : decode prog_15_method_12_code 23 = .ok (.iaload, 1) := by decide +kernel
theorem d_GM_look_24 : decode prog_15_method_12_code 24 = .ok (.goto 4, 3) := by decide +kernel
set_option maxHeartbeats 4000000 in
theorem w_GM_look_0 {l : Launch} {G : gG} {d : Nat} {X : gX} {M : gM} {k : Int → gM → Prop} {o : Nat} (hX : gmX X o) {x1 : Int} (hx1 : g32 x1) (T : g32 (M o 25) → (g32 (M o 24) → ((M o 24 ≤ (w32 ((M o 25) + x1)) → (k 0 M)) ∧ (¬ M o 24 ≤ (w32 ((M o 25) + x1)) → (g32 (M o 25) → (((0 : Int) ≤ (M o 25) + x1 ∧ (M o 25) + x1 < 101) ∧ (g32 (M (o + 13) (Int.toNat ((M o 25) + x1))) → (k (M (o + 13) (Int.toNat ((M o 25) + x1))) M)))))))) : wp l G y_GM_look (gRm d) false (kkI X k) false 0 [.val (gR G o), .val (gI x1)] [] X M 0 0 := by
  refine wp_aload_n d_GM_look_0 rfl rfl (g_nz hX.1) ?_
  refine xgetI d_GM_look_1 gc_GM f_GM_218.1 f_GM_218.2.1 f_GM_218.2.2.1 hX.1 (gm_o2 hX) hX.2.2.1 f_GM_218.2.2.2.2.1 (fun h1 => ?_)
  have T := T h1
  refine wp_iload_n d_GM_look_4 rfl rfl ?_
  refine wp_iadd d_GM_look_5 ?_
  refine wp_aload_n d_GM_look_6 rfl rfl (g_nz hX.1) ?_
  refine xgetI d_GM_look_7 gc_GM f_GM_178.1 f_GM_178.2.1 f_GM_178.2.2.1 hX.1 (gm_o2 hX) hX.2.2.1 f_GM_178.2.2.2.2.1 (fun h2 => ?_)
  have T := T h2
  refine xi_ge (tgt := 27) d_GM_look_10 (by decide) rfl (w32_id h2) (fun h5 => ?_) (fun h5 => ?_)
  · have T := T.1 h5
    refine wp_iconst d_GM_look_27 ?_
    exact wp_ireturn d_GM_look_28 rfl id (Nat.zero_le _) (Nat.zero_le _) (kI_mk (g32_c (x := 0) rfl) T)
  · have T := T.2 h5
    refine wp_aload_n d_GM_look_13 rfl rfl (g_nz hX.1) ?_
    refine xgetR d_GM_look_14 gc_GM f_GM_50.1 f_GM_50.2.1 f_GM_50.2.2.1 hX.1 (gm_o2 hX) hX.2.2.1 f_GM_50.2.2.2.2.1 (gm_row hX 12 rfl).1 ?_
    refine wp_aload_n d_GM_look_17 rfl rfl (g_nz hX.1) ?_
    refine xgetI d_GM_look_18 gc_GM f_GM_218.1 f_GM_218.2.1 f_GM_218.2.2.1 hX.1 (gm_o2 hX) hX.2.2.1 f_GM_218.2.2.2.2.1 (fun h3 => ?_)
    have T := T h3
    refine wp_iload_n d_GM_look_21 rfl rfl ?_
    refine wp_iadd d_GM_look_22 ?_
    refine wp_iaload d_GM_look_23 (gm_row hX 12 rfl).2.2.1 (gm_row hX 12 rfl).2.2.2 (gm_row hX 12 rfl).2.1 (g32_n T.1 (by decide)) T.1.1 T.1.2 (fun h4 => ?_)
    have T := T.2 h4
    refine wp_goto (tgt := 28) d_GM_look_24 (by decide) ?_
    exact wp_ireturn d_GM_look_28 rfl id (Nat.zero_le _) (Nat.zero_le _) (kI_mk h4 T)
theorem e_GM_look {l : Launch} {G : gG} {d : Nat} {X : gX} {M : gM} {k : Int → gM → Prop} {o : Nat} {x1 : Int} (T : wp l G y_GM_look (gRm d) false (kkI X k) false 0 [.val (gR G o), .val (gI x1)] [] X M 0 0) : cI l G y_GM_look (gRm d) false [gR G o, gI x1] X M k := cen_I (plainFor_of_name rfl) (by simp only [lg_sl_R, lg_sl_I, lg_sl_L, lg_sl_N, List.length_cons, List.length_nil]; decide) (by unfold gEn; simp only [lg_sl_R, lg_sl_I, lg_sl_L, lg_sl_N]; exact wpt T (And.intro rfl (And.intro rfl True.intro)))
