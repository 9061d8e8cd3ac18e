/-! Walks of the reference's methods, written by wip/whole/gen_model.py -/
theorem d_GM_insert_0 : decode prog_15_method_90_code 0 = .ok (.iload_n 2, 1) := by decide +kernel
theorem d_GM_insert_1 : decode prog_15_method_90_code 1 = .ok (.ifCond .lt 30, 3) := by decide +kernel
theorem d_GM_insert_31 : decode prog_15_method_90_code 31 = .ok (.aload_n 0, 1) := by decide +kernel
theorem d_GM_insert_32 : decode prog_15_method_90_code 32 = .ok (.iconst 1, 1) := by decide +kernel
theorem d_GM_insert_33 : decode prog_15_method_90_code 33 = .ok (.invokevirtual 526, 3) := by decide +kernel
theorem d_GM_insert_36 : decode prog_15_method_90_code 36 = .ok (.ireturn, 1) := by decide +kernel
theorem d_GM_insert_4 : decode prog_15_method_90_code 4 = .ok (.iload_n 2, 1) := by decide +kernel
theorem d_GM_insert_5 : decode prog_15_method_90_code 5 = .ok (.iload_n 1, 1) := by decide +kernel
theorem d_GM_insert_6 : decode prog_15_method_90_code 6 = .ok (.ifCond .eq 8, 3) := by decide +kernel
theorem d_GM_insert_14 : decode prog_15_method_90_code 14 = .ok (.sipush 200, 3) := by decide +kernel
theorem d_GM_insert_17 : decode prog_15_method_90_code 17 = .ok (.if_icmp .ge 14, 3) := by decide +kernel
theorem d_GM_insert_20 : decode prog_15_method_90_code 20 = .ok (.iload_n 3, 1) := by decide +kernel
theorem d_GM_insert_21 : decode prog_15_method_90_code 21 = .ok (.iconst 1, 1) := by decide +kernel
theorem d_GM_insert_22 : decode prog_15_method_90_code 22 = .ok (.if_icmp .lt 9, 3) := by decide +kernel
theorem d_GM_insert_25 : decode prog_15_method_90_code 25 = .ok (.iload_n 3, 1) := by decide +kernel
theorem d_GM_insert_26 : decode prog_15_method_90_code 26 = .ok (.bipush 50, 2) := by decide +kernel
theorem d_GM_insert_28 : decode prog_15_method_90_code 28 = .ok (.if_icmp .le 9, 3) := by decide +kernel
theorem d_GM_insert_37 : decode prog_15_method_90_code 37 = .ok (.aload_n 0, 1) := by decide +kernel
theorem d_GM_insert_38 : decode prog_15_method_90_code 38 = .ok (.iload_n 1, 1) := by decide +kernel
theorem d_GM_insert_39 : decode prog_15_method_90_code 39 = .ok (.iload_n 2, 1) := by decide +kernel
theorem d_GM_insert_40 : decode prog_15_method_90_code 40 = .ok (.iload_n 3, 1) := by decide +kernel
theorem d_GM_insert_41 : decode prog_15_method_90_code 41 = .ok (.invokevirtual 576, 3) := by decide +kernel
theorem d_GM_insert_44 : decode prog_15_method_90_code 44 = .ok (.ireturn, 1) := by decide +kernel
theorem d_GM_insert_9 : decode prog_15_method_90_code 9 = .ok (.bipush 26, 2) := by decide +kernel
theorem d_GM_insert_11 : decode prog_15_method_90_code 11 = .ok (.goto 6, 3) := by decide +kernel
set_option maxHeartbeats 4000000 in
theorem w_GM_insert_0 {l : Launch} {G : gG} {d : Nat} {X : gX} {M : gM} {k : Int → gM → Prop} {o : Nat} (hX : gmX X o) {x1 : Int} (hx1 : 0 ≤ x1 ∧ x1 ≤ 1) {x2 : Int} (hx2 : g32 x2) {x3 : Int} (hx3 : g32 x3) (T : (x2 < 0 → (cI l G y_GM_no (gRm d) true [gR G o, gI 1] X M (fun v2 M1 => (k v2 M1)))) ∧ (¬ x2 < 0 → ((x1 = 0 → ((200 ≤ x2 → (cI l G y_GM_no (gRm d) true [gR G o, gI 1] X M (fun v5 M4 => (k v5 M4)))) ∧ (¬ 200 ≤ x2 → ((x3 < 1 → (cI l G y_GM_no (gRm d) true [gR G o, gI 1] X M (fun v8 M7 => (k v8 M7)))) ∧ (¬ x3 < 1 → ((x3 ≤ 50 → (cI l G y_GM_shift (gRm d) true [gR G o, gI x1, gI x2, gI x3] X M (fun v11 M10 => (k v11 M10)))) ∧ (¬ x3 ≤ 50 → (cI l G y_GM_no (gRm d) true [gR G o, gI 1] X M (fun v14 M13 => (k v14 M13)))))))))) ∧ (¬ x1 = 0 → ((26 ≤ x2 → (cI l G y_GM_no (gRm d) true [gR G o, gI 1] X M (fun v20 M19 => (k v20 M19)))) ∧ (¬ 26 ≤ x2 → ((x3 < 1 → (cI l G y_GM_no (gRm d) true [gR G o, gI 1] X M (fun v23 M22 => (k v23 M22)))) ∧ (¬ x3 < 1 → ((x3 ≤ 50 → (cI l G y_GM_shift (gRm d) true [gR G o, gI x1, gI x2, gI x3] X M (fun v26 M25 => (k v26 M25)))) ∧ (¬ x3 ≤ 50 → (cI l G y_GM_no (gRm d) true [gR G o, gI 1] X M (fun v29 M28 => (k v29 M28))))))))))))) : wp l G y_GM_insert (gRm (d + 1)) true (kkI X k) false 0 [.val (gR G o), .val (gI x1), .val (gI x2), .val (gI x3)] [] X M 0 0 := by
  refine wp_iload_n d_GM_insert_0 rfl rfl ?_
  refine xz_lt (tgt := 31) d_GM_insert_1 (by decide) (w32_id hx2) (fun h35 => ?_) (fun h35 => ?_)
  · have T := T.1 h35
    refine wp_aload_n d_GM_insert_31 rfl rfl (g_nz hX.1) ?_
    refine wp_iconst d_GM_insert_32 ?_
    refine xcV_I (md' := true) (As := [gI 1]) (st := []) d_GM_insert_33 ca_GM_no ml_GM_526 im_GM_no se_GM_no gc_GM hX.1 (gm_o2 hX) hX.2.2.1 rfl (by decide) (by decide) rfl (fun _ => rfl) (fun _ => rfl) T (fun v2 M1 h3 T => ?_)
    exact wp_ireturn d_GM_insert_36 rfl (fun _ => rfl) (Nat.zero_le _) (Nat.zero_le _) (kI_mk h3 T)
  · have T := T.2 h35
    refine wp_iload_n d_GM_insert_4 rfl rfl ?_
    refine wp_iload_n d_GM_insert_5 rfl rfl ?_
    refine xz_eq (tgt := 14) d_GM_insert_6 (by decide) (w32_id (g32_z hx1)) (fun h34 => ?_) (fun h34 => ?_)
    · have T := T.1 h34
      refine wp_sipush d_GM_insert_14 ⟨by decide, by decide⟩ ?_
      refine xi_ge (tgt := 31) d_GM_insert_17 (by decide) (w32_id hx2) (w32_id (g32_c (x := 200) rfl)) (fun h18 => ?_) (fun h18 => ?_)
      · have T := T.1 h18
        refine wp_aload_n d_GM_insert_31 rfl rfl (g_nz hX.1) ?_
        refine wp_iconst d_GM_insert_32 ?_
        refine xcV_I (md' := true) (As := [gI 1]) (st := []) d_GM_insert_33 ca_GM_no ml_GM_526 im_GM_no se_GM_no gc_GM hX.1 (gm_o2 hX) hX.2.2.1 rfl (by decide) (by decide) rfl (fun _ => rfl) (fun _ => rfl) T (fun v5 M4 h6 T => ?_)
        exact wp_ireturn d_GM_insert_36 rfl (fun _ => rfl) (Nat.zero_le _) (Nat.zero_le _) (kI_mk h6 T)
      · have T := T.2 h18
        refine wp_iload_n d_GM_insert_20 rfl rfl ?_
        refine wp_iconst d_GM_insert_21 ?_
        refine xi_lt (tgt := 31) d_GM_insert_22 (by decide) (w32_id hx3) (w32_id (g32_c (x := 1) rfl)) (fun h17 => ?_) (fun h17 => ?_)
        · have T := T.1 h17
          refine wp_aload_n d_GM_insert_31 rfl rfl (g_nz hX.1) ?_
          refine wp_iconst d_GM_insert_32 ?_
          refine xcV_I (md' := true) (As := [gI 1]) (st := []) d_GM_insert_33 ca_GM_no ml_GM_526 im_GM_no se_GM_no gc_GM hX.1 (gm_o2 hX) hX.2.2.1 rfl (by decide) (by decide) rfl (fun _ => rfl) (fun _ => rfl) T (fun v8 M7 h9 T => ?_)
          exact wp_ireturn d_GM_insert_36 rfl (fun _ => rfl) (Nat.zero_le _) (Nat.zero_le _) (kI_mk h9 T)
        · have T := T.2 h17
          refine wp_iload_n d_GM_insert_25 rfl rfl ?_
          refine wp_bipush d_GM_insert_26 ⟨by decide, by decide⟩ ?_
          refine xi_le (tgt := 37) d_GM_insert_28 (by decide) (w32_id hx3) (w32_id (g32_c (x := 50) rfl)) (fun h16 => ?_) (fun h16 => ?_)
          · have T := T.1 h16
            refine wp_aload_n d_GM_insert_37 rfl rfl (g_nz hX.1) ?_
            refine wp_iload_n d_GM_insert_38 rfl rfl ?_
            refine wp_iload_n d_GM_insert_39 rfl rfl ?_
            refine wp_iload_n d_GM_insert_40 rfl rfl ?_
            refine xcV_I (md' := true) (As := [gI x1, gI x2, gI x3]) (st := []) d_GM_insert_41 ca_GM_shift ml_GM_576 im_GM_shift se_GM_shift gc_GM hX.1 (gm_o2 hX) hX.2.2.1 rfl (by decide) (by decide) rfl (fun _ => rfl) (fun _ => rfl) T (fun v11 M10 h12 T => ?_)
            exact wp_ireturn d_GM_insert_44 rfl (fun _ => rfl) (Nat.zero_le _) (Nat.zero_le _) (kI_mk h12 T)
          · have T := T.2 h16
            refine wp_aload_n d_GM_insert_31 rfl rfl (g_nz hX.1) ?_
            refine wp_iconst d_GM_insert_32 ?_
            refine xcV_I (md' := true) (As := [gI 1]) (st := []) d_GM_insert_33 ca_GM_no ml_GM_526 im_GM_no se_GM_no gc_GM hX.1 (gm_o2 hX) hX.2.2.1 rfl (by decide) (by decide) rfl (fun _ => rfl) (fun _ => rfl) T (fun v14 M13 h15 T => ?_)
            exact wp_ireturn d_GM_insert_36 rfl (fun _ => rfl) (Nat.zero_le _) (Nat.zero_le _) (kI_mk h15 T)
    · have T := T.2 h34
      refine wp_bipush d_GM_insert_9 ⟨by decide, by decide⟩ ?_
      refine wp_goto (tgt := 17) d_GM_insert_11 (by decide) ?_
      refine xi_ge (tgt := 31) d_GM_insert_17 (by decide) (w32_id hx2) (w32_id (g32_c (x := 26) rfl)) (fun h33 => ?_) (fun h33 => ?_)
      · have T := T.1 h33
        refine wp_aload_n d_GM_insert_31 rfl rfl (g_nz hX.1) ?_
        refine wp_iconst d_GM_insert_32 ?_
        refine xcV_I (md' := true) (As := [gI 1]) (st := []) d_GM_insert_33 ca_GM_no ml_GM_526 im_GM_no se_GM_no gc_GM hX.1 (gm_o2 hX) hX.2.2.1 rfl (by decide) (by decide) rfl (fun _ => rfl) (fun _ => rfl) T (fun v20 M19 h21 T => ?_)
        exact wp_ireturn d_GM_insert_36 rfl (fun _ => rfl) (Nat.zero_le _) (Nat.zero_le _) (kI_mk h21 T)
      · have T := T.2 h33
        refine wp_iload_n d_GM_insert_20 rfl rfl ?_
        refine wp_iconst d_GM_insert_21 ?_
        refine xi_lt (tgt := 31) d_GM_insert_22 (by decide) (w32_id hx3) (w32_id (g32_c (x := 1) rfl)) (fun h32 => ?_) (fun h32 => ?_)
        · have T := T.1 h32
          refine wp_aload_n d_GM_insert_31 rfl rfl (g_nz hX.1) ?_
          refine wp_iconst d_GM_insert_32 ?_
          refine xcV_I (md' := true) (As := [gI 1]) (st := []) d_GM_insert_33 ca_GM_no ml_GM_526 im_GM_no se_GM_no gc_GM hX.1 (gm_o2 hX) hX.2.2.1 rfl (by decide) (by decide) rfl (fun _ => rfl) (fun _ => rfl) T (fun v23 M22 h24 T => ?_)
          exact wp_ireturn d_GM_insert_36 rfl (fun _ => rfl) (Nat.zero_le _) (Nat.zero_le _) (kI_mk h24 T)
        · have T := T.2 h32
          refine wp_iload_n d_GM_insert_25 rfl rfl ?_
          refine wp_bipush d_GM_insert_26 ⟨by decide, by decide⟩ ?_
          refine xi_le (tgt := 37) d_GM_insert_28 (by decide) (w32_id hx3) (w32_id (g32_c (x := 50) rfl)) (fun h31 => ?_) (fun h31 => ?_)
          · have T := T.1 h31
            refine wp_aload_n d_GM_insert_37 rfl rfl (g_nz hX.1) ?_
            refine wp_iload_n d_GM_insert_38 rfl rfl ?_
            refine wp_iload_n d_GM_insert_39 rfl rfl ?_
            refine wp_iload_n d_GM_insert_40 rfl rfl ?_
            refine xcV_I (md' := true) (As := [gI x1, gI x2, gI x3]) (st := []) d_GM_insert_41 ca_GM_shift ml_GM_576 im_GM_shift se_GM_shift gc_GM hX.1 (gm_o2 hX) hX.2.2.1 rfl (by decide) (by decide) rfl (fun _ => rfl) (fun _ => rfl) T (fun v26 M25 h27 T => ?_)
            exact wp_ireturn d_GM_insert_44 rfl (fun _ => rfl) (Nat.zero_le _) (Nat.zero_le _) (kI_mk h27 T)
          · have T := T.2 h31
            refine wp_aload_n d_GM_insert_31 rfl rfl (g_nz hX.1) ?_
            refine wp_iconst d_GM_insert_32 ?_
            refine xcV_I (md' := true) (As := [gI 1]) (st := []) d_GM_insert_33 ca_GM_no ml_GM_526 im_GM_no se_GM_no gc_GM hX.1 (gm_o2 hX) hX.2.2.1 rfl (by decide) (by decide) rfl (fun _ => rfl) (fun _ => rfl) T (fun v29 M28 h30 T => ?_)
            exact wp_ireturn d_GM_insert_36 rfl (fun _ => rfl) (Nat.zero_le _) (Nat.zero_le _) (kI_mk h30 T)
theorem e_GM_insert {l : Launch} {G : gG} {d : Nat} {X : gX} {M : gM} {k : Int → gM → Prop} {o : Nat} {x1 : Int} {x2 : Int} {x3 : Int} (T : wp l G y_GM_insert (gRm (d + 1)) true (kkI X k) false 0 [.val (gR G o), .val (gI x1), .val (gI x2), .val (gI x3)] [] X M 0 0) : cI l G y_GM_insert (gRm (d + 1)) true [gR G o, gI x1, gI x2, gI x3] X M k := cen_I (plainFor_of_name rfl) (by simp only [lg_sl_R, lg_sl_I, lg_sl_L, lg_sl_N, List.length_cons, List.length_nil]; decide) (by unfold gEn; simp only [lg_sl_R, lg_sl_I, lg_sl_L, lg_sl_N]; exact wpt T (And.intro rfl (And.intro rfl (And.intro rfl (And.intro rfl True.intro)))))
theorem d_GM_erase_0 : decode prog_15_method_91_code 0 = .ok (.iload_n 2, 1) := by decide +kernel
theorem d_GM_erase_1 : decode prog_15_method_91_code 1 = .ok (.ifCond .lt 48, 3) := by decide +kernel
theorem d_GM_erase_4 : decode prog_15_method_91_code 4 = .ok (.iload_n 3, 1) := by decide +kernel
theorem d_GM_erase_5 : decode prog_15_method_91_code 5 = .ok (.iconst 1, 1) := by decide +kernel
theorem d_GM_erase_6 : decode prog_15_method_91_code 6 = .ok (.if_icmp .lt 43, 3) := by decide +kernel
theorem d_GM_erase_9 : decode prog_15_method_91_code 9 = .ok (.iload_n 3, 1) := by decide +kernel
theorem d_GM_erase_10 : decode prog_15_method_91_code 10 = .ok (.bipush 50, 2) := by decide +kernel
theorem d_GM_erase_12 : decode prog_15_method_91_code 12 = .ok (.if_icmp .gt 37, 3) := by decide +kernel
theorem d_GM_erase_15 : decode prog_15_method_91_code 15 = .ok (.iload_n 2, 1) := by decide +kernel
theorem d_GM_erase_16 : decode prog_15_method_91_code 16 = .ok (.iload_n 3, 1) := by decide +kernel
theorem d_GM_erase_17 : decode prog_15_method_91_code 17 = .ok (.iadd, 1) := by decide +kernel
theorem d_GM_erase_18 : decode prog_15_method_91_code 18 = .ok (.iload_n 1, 1) := by decide +kernel
theorem d_GM_erase_19 : decode prog_15_method_91_code 19 = .ok (.ifCond .eq 8, 3) := by decide +kernel
theorem d_GM_erase_27 : decode prog_15_method_91_code 27 = .ok (.sipush 200, 3) := by decide +kernel
theorem d_GM_erase_22 : decode prog_15_method_91_code 22 = .ok (.bipush 26, 2) := by decide +kernel
theorem d_GM_erase_24 : decode prog_15_method_91_code 24 = .ok (.goto 6, 3) := by decide +kernel
theorem d_GM_erase_49 : decode prog_15_method_91_code 49 = .ok (.aload_n 0, 1) := by decide +kernel
theorem d_GM_erase_50 : decode prog_15_method_91_code 50 = .ok (.iconst 1, 1) := by decide +kernel
theorem d_GM_erase_51 : decode prog_15_method_91_code 51 = .ok (.invokevirtual 526, 3) := by decide +kernel
theorem d_GM_erase_54 : decode prog_15_method_91_code 54 = .ok (.ireturn, 1) := by decide +kernel
theorem d_GM_erase_30 : decode prog_15_method_91_code 30 = .ok (.if_icmp .gt 19, 3) := by decide +kernel
theorem d_GM_erase_33 : decode prog_15_method_91_code 33 = .ok (.iload_n 2, 1) := by decide +kernel
theorem d_GM_erase_34 : decode prog_15_method_91_code 34 = .ok (.iload_n 1, 1) := by decide +kernel
theorem d_GM_erase_35 : decode prog_15_method_91_code 35 = .ok (.ifCond .eq 8, 3) := by decide +kernel
theorem d_GM_erase_43 : decode prog_15_method_91_code 43 = .ok (.sipush 200, 3) := by decide +kernel
theorem d_GM_erase_46 : decode prog_15_method_91_code 46 = .ok (.if_icmp .lt 9, 3) := by decide +kernel
theorem d_GM_erase_55 : decode prog_15_method_91_code 55 = .ok (.aload_n 0, 1) := by decide +kernel
theorem d_GM_erase_56 : decode prog_15_method_91_code 56 = .ok (.iload_n 1, 1) := by decide +kernel
theorem d_GM_erase_57 : decode prog_15_method_91_code 57 = .ok (.iload_n 2, 1) := by decide +kernel
theorem d_GM_erase_58 : decode prog_15_method_91_code 58 = .ok (.iload_n 3, 1) := by decide +kernel
theorem d_GM_erase_59 : decode prog_15_method_91_code 59 = .ok (.ineg, 1) := by decide +kernel
theorem d_GM_erase_60 : decode prog_15_method_91_code 60 = .ok (.invokevirtual 576, 3) := by decide +kernel
theorem d_GM_erase_63 : decode prog_15_method_91_code 63 = .ok (.ireturn, 1) := by decide +kernel
theorem d_GM_erase_38 : decode prog_15_method_91_code 38 = .ok (.bipush 26, 2) := by decide +kernel
theorem d_GM_erase_40 : decode prog_15_method_91_code 40 = .ok (.goto 6, 3) := by decide +kernel
set_option maxHeartbeats 4000000 in
theorem w_GM_erase_0 {l : Launch} {G : gG} {d : Nat} {X : gX} {M : gM} {k : Int → gM → Prop} {o : Nat} (hX : gmX X o) {x1 : Int} (hx1 : 0 ≤ x1 ∧ x1 ≤ 1) {x2 : Int} (hx2 : g32 x2) {x3 : Int} (hx3 : g32 x3) (T : (x2 < 0 → (wp l G y_GM_erase (gRm (d + 1)) true (kkI X k) true 49 [.val (gR G o), .unset, .unset, .unset] [] X M 0 0)) ∧ (¬ x2 < 0 → ((x3 < 1 → (wp l G y_GM_erase (gRm (d + 1)) true (kkI X k) true 49 [.val (gR G o), .unset, .unset, .unset] [] X M 0 0)) ∧ (¬ x3 < 1 → ((50 < x3 → (wp l G y_GM_erase (gRm (d + 1)) true (kkI X k) true 49 [.val (gR G o), .unset, .unset, .unset] [] X M 0 0)) ∧ (¬ 50 < x3 → ((x1 = 0 → (wp l G y_GM_erase (gRm (d + 1)) true (kkI X k) true 30 [.val (gR G o), .val (gI x1), .val (gI x2), .val (gI x3)] [gI 200, gI (w32 (x2 + x3))] X M 0 0)) ∧ (¬ x1 = 0 → (wp l G y_GM_erase (gRm (d + 1)) true (kkI X k) true 30 [.val (gR G o), .val (gI x1), .val (gI x2), .val (gI x3)] [gI 26, gI (w32 (x2 + x3))] X M 0 0))))))))) : wp l G y_GM_erase (gRm (d + 1)) true (kkI X k) false 0 [.val (gR G o), .val (gI x1), .val (gI x2), .val (gI x3)] [] X M 0 0 := by
  refine wp_iload_n d_GM_erase_0 rfl rfl ?_
  refine xz_lt (tgt := 49) d_GM_erase_1 (by decide) (w32_id hx2) (fun h4 => ?_) (fun h4 => ?_)
  · have T := T.1 h4
    exact wp_md (wpt T (And.intro rfl True.intro))
  · have T := T.2 h4
    refine wp_iload_n d_GM_erase_4 rfl rfl ?_
    refine wp_iconst d_GM_erase_5 ?_
    refine xi_lt (tgt := 49) d_GM_erase_6 (by decide) (w32_id hx3) (w32_id (g32_c (x := 1) rfl)) (fun h3 => ?_) (fun h3 => ?_)
    · have T := T.1 h3
      exact wp_md (wpt T (And.intro rfl True.intro))
    · have T := T.2 h3
      refine wp_iload_n d_GM_erase_9 rfl rfl ?_
      refine wp_bipush d_GM_erase_10 ⟨by decide, by decide⟩ ?_
      refine xi_gt (tgt := 49) d_GM_erase_12 (by decide) (w32_id hx3) (w32_id (g32_c (x := 50) rfl)) (fun h2 => ?_) (fun h2 => ?_)
      · have T := T.1 h2
        exact wp_md (wpt T (And.intro rfl True.intro))
      · have T := T.2 h2
        refine wp_iload_n d_GM_erase_15 rfl rfl ?_
        refine wp_iload_n d_GM_erase_16 rfl rfl ?_
        refine wp_iadd d_GM_erase_17 ?_
        refine wp_iload_n d_GM_erase_18 rfl rfl ?_
        refine xz_eq (tgt := 27) d_GM_erase_19 (by decide) (w32_id (g32_z hx1)) (fun h1 => ?_) (fun h1 => ?_)
        · have T := T.1 h1
          refine wp_sipush d_GM_erase_27 ⟨by decide, by decide⟩ ?_
          exact wp_md (wp_st (st' := [gI 200, gI (w32 (x2 + x3))]) (by simp only [gI_w, gL_w]) (wpt T (And.intro rfl (And.intro rfl (And.intro rfl (And.intro rfl True.intro))))))
        · have T := T.2 h1
          refine wp_bipush d_GM_erase_22 ⟨by decide, by decide⟩ ?_
          refine wp_goto (tgt := 30) d_GM_erase_24 (by decide) ?_
          exact wp_md (wp_st (st' := [gI 26, gI (w32 (x2 + x3))]) (by simp only [gI_w, gL_w]) (wpt T (And.intro rfl (And.intro rfl (And.intro rfl (And.intro rfl True.intro))))))
set_option maxHeartbeats 4000000 in
theorem w_GM_erase_49 {l : Launch} {G : gG} {d : Nat} {X : gX} {M : gM} {k : Int → gM → Prop} {o : Nat} (hX : gmX X o)  (T : cI l G y_GM_no (gRm d) true [gR G o, gI 1] X M (fun v6 M5 => (k v6 M5))) : wp l G y_GM_erase (gRm (d + 1)) true (kkI X k) true 49 [.val (gR G o), .unset, .unset, .unset] [] X M 0 0 := by
  refine wp_aload_n d_GM_erase_49 rfl rfl (g_nz hX.1) ?_
  refine wp_iconst d_GM_erase_50 ?_
  refine xcV_I (md' := true) (As := [gI 1]) (st := []) d_GM_erase_51 ca_GM_no ml_GM_526 im_GM_no se_GM_no gc_GM hX.1 (gm_o2 hX) hX.2.2.1 rfl (by decide) (by decide) rfl (fun _ => rfl) (fun _ => rfl) T (fun v6 M5 h7 T => ?_)
  exact wp_ireturn d_GM_erase_54 rfl (fun _ => rfl) (Nat.zero_le _) (Nat.zero_le _) (kI_mk h7 T)
set_option maxHeartbeats 4000000 in
theorem w_GM_erase_30 {l : Launch} {G : gG} {d : Nat} {X : gX} {M : gM} {k : Int → gM → Prop} {o : Nat} (hX : gmX X o) {x1 : Int} (hx1 : g32 x1) {x2 : Int} (hx2 : g32 x2) {x3 : Int} (hx3 : g32 x3) {s0 : Int} (hs0 : g32 s0) {s1 : Int} (hs1 : g32 s1) (T : (s0 < s1 → (wp l G y_GM_erase (gRm (d + 1)) true (kkI X k) true 49 [.val (gR G o), .unset, .unset, .unset] [] X M 0 0)) ∧ (¬ s0 < s1 → ((x1 = 0 → ((x2 < 200 → (cI l G y_GM_shift (gRm d) true [gR G o, gI x1, gI x2, gI (-x3)] X M (fun v9 M8 => (k v9 M8)))) ∧ (¬ x2 < 200 → (wp l G y_GM_erase (gRm (d + 1)) true (kkI X k) true 49 [.val (gR G o), .unset, .unset, .unset] [] X M 0 0)))) ∧ (¬ x1 = 0 → ((x2 < 26 → (cI l G y_GM_shift (gRm d) true [gR G o, gI x1, gI x2, gI (-x3)] X M (fun v13 M12 => (k v13 M12)))) ∧ (¬ x2 < 26 → (wp l G y_GM_erase (gRm (d + 1)) true (kkI X k) true 49 [.val (gR G o), .unset, .unset, .unset] [] X M 0 0))))))) : wp l G y_GM_erase (gRm (d + 1)) true (kkI X k) true 30 [.val (gR G o), .val (gI x1), .val (gI x2), .val (gI x3)] [gI s0, gI s1] X M 0 0 := by
  refine xi_gt (tgt := 49) d_GM_erase_30 (by decide) (w32_id hs1) (w32_id hs0) (fun h17 => ?_) (fun h17 => ?_)
  · have T := T.1 h17
    exact wp_md (wpt T (And.intro rfl True.intro))
  · have T := T.2 h17
    refine wp_iload_n d_GM_erase_33 rfl rfl ?_
    refine wp_iload_n d_GM_erase_34 rfl rfl ?_
    refine xz_eq (tgt := 43) d_GM_erase_35 (by decide) (w32_id hx1) (fun h16 => ?_) (fun h16 => ?_)
    · have T := T.1 h16
      refine wp_sipush d_GM_erase_43 ⟨by decide, by decide⟩ ?_
      refine xi_lt (tgt := 55) d_GM_erase_46 (by decide) (w32_id hx2) (w32_id (g32_c (x := 200) rfl)) (fun h11 => ?_) (fun h11 => ?_)
      · have T := T.1 h11
        refine wp_aload_n d_GM_erase_55 rfl rfl (g_nz hX.1) ?_
        refine wp_iload_n d_GM_erase_56 rfl rfl ?_
        refine wp_iload_n d_GM_erase_57 rfl rfl ?_
        refine wp_iload_n d_GM_erase_58 rfl rfl ?_
        refine wp_ineg d_GM_erase_59 ?_
        refine xcV_I (md' := true) (As := [gI x1, gI x2, gI (-x3)]) (st := []) d_GM_erase_60 ca_GM_shift ml_GM_576 im_GM_shift se_GM_shift gc_GM hX.1 (gm_o2 hX) hX.2.2.1 rfl (by decide) (by decide) rfl (fun _ => rfl) (fun _ => rfl) T (fun v9 M8 h10 T => ?_)
        exact wp_ireturn d_GM_erase_63 rfl (fun _ => rfl) (Nat.zero_le _) (Nat.zero_le _) (kI_mk h10 T)
      · have T := T.2 h11
        exact wp_md (wpt T (And.intro rfl True.intro))
    · have T := T.2 h16
      refine wp_bipush d_GM_erase_38 ⟨by decide, by decide⟩ ?_
      refine wp_goto (tgt := 46) d_GM_erase_40 (by decide) ?_
      refine xi_lt (tgt := 55) d_GM_erase_46 (by decide) (w32_id hx2) (w32_id (g32_c (x := 26) rfl)) (fun h15 => ?_) (fun h15 => ?_)
      · have T := T.1 h15
        refine wp_aload_n d_GM_erase_55 rfl rfl (g_nz hX.1) ?_
        refine wp_iload_n d_GM_erase_56 rfl rfl ?_
        refine wp_iload_n d_GM_erase_57 rfl rfl ?_
        refine wp_iload_n d_GM_erase_58 rfl rfl ?_
        refine wp_ineg d_GM_erase_59 ?_
        refine xcV_I (md' := true) (As := [gI x1, gI x2, gI (-x3)]) (st := []) d_GM_erase_60 ca_GM_shift ml_GM_576 im_GM_shift se_GM_shift gc_GM hX.1 (gm_o2 hX) hX.2.2.1 rfl (by decide) (by decide) rfl (fun _ => rfl) (fun _ => rfl) T (fun v13 M12 h14 T => ?_)
        exact wp_ireturn d_GM_erase_63 rfl (fun _ => rfl) (Nat.zero_le _) (Nat.zero_le _) (kI_mk h14 T)
      · have T := T.2 h15
        exact wp_md (wpt T (And.intro rfl True.intro))
theorem e_GM_erase {l : Launch} {G : gG} {d : Nat} {X : gX} {M : gM} {k : Int → gM → Prop} {o : Nat} {x1 : Int} {x2 : Int} {x3 : Int} (T : wp l G y_GM_erase (gRm (d + 1)) true (kkI X k) false 0 [.val (gR G o), .val (gI x1), .val (gI x2), .val (gI x3)] [] X M 0 0) : cI l G y_GM_erase (gRm (d + 1)) true [gR G o, gI x1, gI x2, gI x3] X M k := cen_I (plainFor_of_name rfl) (by simp only [lg_sl_R, lg_sl_I, lg_sl_L, lg_sl_N, List.length_cons, List.length_nil]; decide) (by unfold gEn; simp only [lg_sl_R, lg_sl_I, lg_sl_L, lg_sl_N]; exact wpt T (And.intro rfl (And.intro rfl (And.intro rfl (And.intro rfl True.intro)))))
theorem d_GM_undo_0 : decode prog_15_method_92_code 0 = .ok (.aload_n 0, 1) := by decide +kernel
theorem d_GM_undo_1 : decode prog_15_method_92_code 1 = .ok (.getfield 502, 3) := by decide +kernel
theorem d_GM_undo_4 : decode prog_15_method_92_code 4 = .ok (.aload_n 0, 1) := by decide +kernel
theorem d_GM_undo_5 : decode prog_15_method_92_code 5 = .ok (.getfield 532, 3) := by decide +kernel
theorem d_GM_undo_8 : decode prog_15_method_92_code 8 = .ok (.if_icmp .ne 9, 3) := by decide +kernel
theorem d_GM_undo_17 : decode prog_15_method_92_code 17 = .ok (.aload_n 0, 1) := by decide +kernel
theorem d_GM_undo_18 : decode prog_15_method_92_code 18 = .ok (.dup, 1) := by decide +kernel
theorem d_GM_undo_19 : decode prog_15_method_92_code 19 = .ok (.getfield 502, 3) := by decide +kernel
theorem d_GM_undo_22 : decode prog_15_method_92_code 22 = .ok (.iconst 1, 1) := by decide +kernel
theorem d_GM_undo_23 : decode prog_15_method_92_code 23 = .ok (.isub, 1) := by decide +kernel
theorem d_GM_undo_24 : decode prog_15_method_92_code 24 = .ok (.putfield 502, 3) := by decide +kernel
theorem d_GM_undo_27 : decode prog_15_method_92_code 27 = .ok (.aload_n 0, 1) := by decide +kernel
theorem d_GM_undo_28 : decode prog_15_method_92_code 28 = .ok (.invokevirtual 538, 3) := by decide +kernel
theorem d_GM_undo_31 : decode prog_15_method_92_code 31 = .ok (.ireturn, 1) := by decide +kernel
theorem d_GM_undo_11 : decode prog_15_method_92_code 11 = .ok (.aload_n 0, 1) := by decide +kernel
theorem d_GM_undo_12 : decode prog_15_method_92_code 12 = .ok (.iconst 1, 1) := by decide +kernel
theorem d_GM_undo_13 : decode prog_15_method_92_code 13 = .ok (.invokevirtual 526, 3) := by decide +kernel
theorem d_GM_undo_16 : decode prog_15_method_92_code 16 = .ok (.ireturn, 1) := by decide +kernel
set_option maxHeartbeats 4000000 in
theorem w_GM_undo_0 {l : Launch} {G : gG} {d : Nat} {X : gX} {M : gM} {k : Int → gM → Prop} {o : Nat} (hX : gmX X o)  (T : g32 (M o 36) → (g32 (M o 35) → ((¬ M o 36 = M o 35 → (g32 (M o 36) → (cI l G y_GM_show (gRm d) true [gR G o] X (gUp M o 36 (w32 ((M o 36) - 1))) (fun v5 M4 => (k v5 M4))))) ∧ (M o 36 = M o 35 → (cI l G y_GM_no (gRm d) true [gR G o, gI 1] X M (fun v8 M7 => (k v8 M7))))))) : wp l G y_GM_undo (gRm (d + 1)) true (kkI X k) false 0 [.val (gR G o)] [] X M 0 0 := by
  refine wp_aload_n d_GM_undo_0 rfl rfl (g_nz hX.1) ?_
  refine xgetI d_GM_undo_1 gc_GM f_GM_502.1 f_GM_502.2.1 f_GM_502.2.2.1 hX.1 (gm_o2 hX) hX.2.2.1 f_GM_502.2.2.2.2.1 (fun h1 => ?_)
  have T := T h1
  refine wp_aload_n d_GM_undo_4 rfl rfl (g_nz hX.1) ?_
  refine xgetI d_GM_undo_5 gc_GM f_GM_532.1 f_GM_532.2.1 f_GM_532.2.2.1 hX.1 (gm_o2 hX) hX.2.2.1 f_GM_532.2.2.2.2.1 (fun h2 => ?_)
  have T := T h2
  refine xi_ne (tgt := 17) d_GM_undo_8 (by decide) (w32_id h1) (w32_id h2) (fun h10 => ?_) (fun h10 => ?_)
  · have T := T.1 h10
    refine wp_aload_n d_GM_undo_17 rfl rfl (g_nz hX.1) ?_
    refine wp_dup d_GM_undo_18 (gR_cat _) ?_
    refine xgetI d_GM_undo_19 gc_GM f_GM_502.1 f_GM_502.2.1 f_GM_502.2.2.1 hX.1 (gm_o2 hX) hX.2.2.1 f_GM_502.2.2.2.2.1 (fun h3 => ?_)
    have T := T h3
    refine wp_iconst d_GM_undo_22 ?_
    refine wp_isub d_GM_undo_23 ?_
    refine xputI d_GM_undo_24 gc_GM f_GM_502.1 f_GM_502.2.1 f_GM_502.2.2.1 hX.1 (gm_o2 hX) hX.2.2.1 f_GM_502.2.2.2.1 f_GM_502.2.2.2.2.1 f_GM_502.2.2.2.2.2 rfl ?_
    refine wp_aload_n d_GM_undo_27 rfl rfl (g_nz hX.1) ?_
    refine xcV_I (md' := true) (As := []) (st := []) d_GM_undo_28 ca_GM_show ml_GM_538 im_GM_show se_GM_show gc_GM hX.1 (gm_o2 hX) hX.2.2.1 rfl (by decide) (by decide) rfl (fun _ => rfl) (fun _ => rfl) T (fun v5 M4 h6 T => ?_)
    exact wp_ireturn d_GM_undo_31 rfl (fun _ => rfl) (Nat.zero_le _) (Nat.zero_le _) (kI_mk h6 T)
  · have T := T.2 h10
    refine wp_aload_n d_GM_undo_11 rfl rfl (g_nz hX.1) ?_
    refine wp_iconst d_GM_undo_12 ?_
    refine xcV_I (md' := true) (As := [gI 1]) (st := []) d_GM_undo_13 ca_GM_no ml_GM_526 im_GM_no se_GM_no gc_GM hX.1 (gm_o2 hX) hX.2.2.1 rfl (by decide) (by decide) rfl (fun _ => rfl) (fun _ => rfl) T (fun v8 M7 h9 T => ?_)
    exact wp_ireturn d_GM_undo_16 rfl (fun _ => rfl) (Nat.zero_le _) (Nat.zero_le _) (kI_mk h9 T)
theorem e_GM_undo {l : Launch} {G : gG} {d : Nat} {X : gX} {M : gM} {k : Int → gM → Prop} {o : Nat} (T : wp l G y_GM_undo (gRm (d + 1)) true (kkI X k) false 0 [.val (gR G o)] [] X M 0 0) : cI l G y_GM_undo (gRm (d + 1)) true [gR G o] X M k := cen_I (plainFor_of_name rfl) (by simp only [lg_sl_R, lg_sl_I, lg_sl_L, lg_sl_N, List.length_cons, List.length_nil]; decide) (by unfold gEn; simp only [lg_sl_R, lg_sl_I, lg_sl_L, lg_sl_N]; exact wpt T (And.intro rfl True.intro))
theorem d_GM_redo_0 : decode prog_15_method_93_code 0 = .ok (.aload_n 0, 1) := by decide +kernel
theorem d_GM_redo_1 : decode prog_15_method_93_code 1 = .ok (.getfield 502, 3) := by decide +kernel
theorem d_GM_redo_4 : decode prog_15_method_93_code 4 = .ok (.aload_n 0, 1) := by decide +kernel
theorem d_GM_redo_5 : decode prog_15_method_93_code 5 = .ok (.getfield 529, 3) := by decide +kernel
theorem d_GM_redo_8 : decode prog_15_method_93_code 8 = .ok (.if_icmp .ne 9, 3) := by decide +kernel
theorem d_GM_redo_17 : decode prog_15_method_93_code 17 = .ok (.aload_n 0, 1) := by decide +kernel
theorem d_GM_redo_18 : decode prog_15_method_93_code 18 = .ok (.dup, 1) := by decide +kernel
theorem d_GM_redo_19 : decode prog_15_method_93_code 19 = .ok (.getfield 502, 3) := by decide +kernel
theorem d_GM_redo_22 : decode prog_15_method_93_code 22 = .ok (.iconst 1, 1) := by decide +kernel
theorem d_GM_redo_23 : decode prog_15_method_93_code 23 = .ok (.iadd, 1) := by decide +kernel
theorem d_GM_redo_24 : decode prog_15_method_93_code 24 = .ok (.putfield 502, 3) := by decide +kernel
theorem d_GM_redo_27 : decode prog_15_method_93_code 27 = .ok (.aload_n 0, 1) := by decide +kernel
theorem d_GM_redo_28 : decode prog_15_method_93_code 28 = .ok (.invokevirtual 538, 3) := by decide +kernel
theorem d_GM_redo_31 : decode prog_15_method_93_code 31 = .ok (.ireturn, 1) := by decide +kernel
theorem d_GM_redo_11 : decode prog_15_method_93_code 11 = .ok (.aload_n 0, 1) := by decide +kernel
theorem d_GM_redo_12 : decode prog_15_method_93_code 12 = .ok (.iconst 1, 1) := by decide +kernel
theorem d_GM_redo_13 : decode prog_15_method_93_code 13 = .ok (.invokevirtual 526, 3) := by decide +kernel
theorem d_GM_redo_16 : decode prog_15_method_93_code 16 = .ok (.ireturn, 1) := by decide +kernel
set_option maxHeartbeats 4000000 in
theorem w_GM_redo_0 {l : Launch} {G : gG} {d : Nat} {X : gX} {M : gM} {k : Int → gM → Prop} {o : Nat} (hX : gmX X o)  (T : g32 (M o 36) → (g32 (M o 37) → ((¬ M o 36 = M o 37 → (g32 (M o 36) → (cI l G y_GM_show (gRm d) true [gR G o] X (gUp M o 36 (w32 ((M o 36) + 1))) (fun v5 M4 => (k v5 M4))))) ∧ (M o 36 = M o 37 → (cI l G y_GM_no (gRm d) true [gR G o, gI 1] X M (fun v8 M7 => (k v8 M7))))))) : wp l G y_GM_redo (gRm (d + 1)) true (kkI X k) false 0 [.val (gR G o)] [] X M 0 0 := by
  refine wp_aload_n d_GM_redo_0 rfl rfl (g_nz hX.1) ?_
  refine xgetI d_GM_redo_1 gc_GM f_GM_502.1 f_GM_502.2.1 f_GM_502.2.2.1 hX.1 (gm_o2 hX) hX.2.2.1 f_GM_502.2.2.2.2.1 (fun h1 => ?_)
  have T := T h1
  refine wp_aload_n d_GM_redo_4 rfl rfl (g_nz hX.1) ?_
  refine xgetI d_GM_redo_5 gc_GM f_GM_529.1 f_GM_529.2.1 f_GM_529.2.2.1 hX.1 (gm_o2 hX) hX.2.2.1 f_GM_529.2.2.2.2.1 (fun h2 => ?_)
  have T := T h2
  refine xi_ne (tgt := 17) d_GM_redo_8 (by decide) (w32_id h1) (w32_id h2) (fun h10 => ?_) (fun h10 => ?_)
  · have T := T.1 h10
    refine wp_aload_n d_GM_redo_17 rfl rfl (g_nz hX.1) ?_
    refine wp_dup d_GM_redo_18 (gR_cat _) ?_
    refine xgetI d_GM_redo_19 gc_GM f_GM_502.1 f_GM_502.2.1 f_GM_502.2.2.1 hX.1 (gm_o2 hX) hX.2.2.1 f_GM_502.2.2.2.2.1 (fun h3 => ?_)
    have T := T h3
    refine wp_iconst d_GM_redo_22 ?_
    refine wp_iadd d_GM_redo_23 ?_
    refine xputI d_GM_redo_24 gc_GM f_GM_502.1 f_GM_502.2.1 f_GM_502.2.2.1 hX.1 (gm_o2 hX) hX.2.2.1 f_GM_502.2.2.2.1 f_GM_502.2.2.2.2.1 f_GM_502.2.2.2.2.2 rfl ?_
    refine wp_aload_n d_GM_redo_27 rfl rfl (g_nz hX.1) ?_
    refine xcV_I (md' := true) (As := []) (st := []) d_GM_redo_28 ca_GM_show ml_GM_538 im_GM_show se_GM_show gc_GM hX.1 (gm_o2 hX) hX.2.2.1 rfl (by decide) (by decide) rfl (fun _ => rfl) (fun _ => rfl) T (fun v5 M4 h6 T => ?_)
    exact wp_ireturn d_GM_redo_31 rfl (fun _ => rfl) (Nat.zero_le _) (Nat.zero_le _) (kI_mk h6 T)
  · have T := T.2 h10
    refine wp_aload_n d_GM_redo_11 rfl rfl (g_nz hX.1) ?_
    refine wp_iconst d_GM_redo_12 ?_
    refine xcV_I (md' := true) (As := [gI 1]) (st := []) d_GM_redo_13 ca_GM_no ml_GM_526 im_GM_no se_GM_no gc_GM hX.1 (gm_o2 hX) hX.2.2.1 rfl (by decide) (by decide) rfl (fun _ => rfl) (fun _ => rfl) T (fun v8 M7 h9 T => ?_)
    exact wp_ireturn d_GM_redo_16 rfl (fun _ => rfl) (Nat.zero_le _) (Nat.zero_le _) (kI_mk h9 T)
theorem e_GM_redo {l : Launch} {G : gG} {d : Nat} {X : gX} {M : gM} {k : Int → gM → Prop} {o : Nat} (T : wp l G y_GM_redo (gRm (d + 1)) true (kkI X k) false 0 [.val (gR G o)] [] X M 0 0) : cI l G y_GM_redo (gRm (d + 1)) true [gR G o] X M k := cen_I (plainFor_of_name rfl) (by simp only [lg_sl_R, lg_sl_I, lg_sl_L, lg_sl_N, List.length_cons, List.length_nil]; decide) (by unfold gEn; simp only [lg_sl_R, lg_sl_I, lg_sl_L, lg_sl_N]; exact wpt T (And.intro rfl True.intro))
theorem d_GM_value_0 : decode prog_15_method_94_code 0 = .ok (.iload_n 1, 1) := by decide +kernel
theorem d_GM_value_1 : decode prog_15_method_94_code 1 = .ok (.iload_n 2, 1) := by decide +kernel
theorem d_GM_value_2 : decode prog_15_method_94_code 2 = .ok (.invokestatic 544, 3) := by decide +kernel
theorem d_GM_value_5 : decode prog_15_method_94_code 5 = .ok (.ifCond .eq 12, 3) := by decide +kernel
theorem d_GM_value_17 : decode prog_15_method_94_code 17 = .ok (.aload_n 0, 1) := by decide +kernel
theorem d_GM_value_18 : decode prog_15_method_94_code 18 = .ok (.iconst 1, 1) := by decide +kernel
theorem d_GM_value_19 : decode prog_15_method_94_code 19 = .ok (.invokevirtual 526, 3) := by decide +kernel
theorem d_GM_value_22 : decode prog_15_method_94_code 22 = .ok (.i2l, 1) := by decide +kernel
theorem d_GM_value_23 : decode prog_15_method_94_code 23 = .ok (.lreturn, 1) := by decide +kernel
theorem d_GM_value_8 : decode prog_15_method_94_code 8 = .ok (.iload_n 3, 1) := by decide +kernel
theorem d_GM_value_9 : decode prog_15_method_94_code 9 = .ok (.ifCond .lt 8, 3) := by decide +kernel
theorem d_GM_value_12 : decode prog_15_method_94_code 12 = .ok (.iload_n 3, 1) := by decide +kernel
theorem d_GM_value_13 : decode prog_15_method_94_code 13 = .ok (.iconst 1, 1) := by decide +kernel
theorem d_GM_value_14 : decode prog_15_method_94_code 14 = .ok (.if_icmp .le 10, 3) := by decide +kernel
theorem d_GM_value_24 : decode prog_15_method_94_code 24 = .ok (.aload_n 0, 1) := by decide +kernel
theorem d_GM_value_25 : decode prog_15_method_94_code 25 = .ok (.iconst 0, 1) := by decide +kernel
theorem d_GM_value_26 : decode prog_15_method_94_code 26 = .ok (.putfield 157, 3) := by decide +kernel
theorem d_GM_value_29 : decode prog_15_method_94_code 29 = .ok (.iload_n 1, 1) := by decide +kernel
theorem d_GM_value_30 : decode prog_15_method_94_code 30 = .ok (.bipush 26, 2) := by decide +kernel
theorem d_GM_value_32 : decode prog_15_method_94_code 32 = .ok (.iload_n 2, 1) := by decide +kernel
theorem d_GM_value_33 : decode prog_15_method_94_code 33 = .ok (.imul, 1) := by decide +kernel
theorem d_GM_value_34 : decode prog_15_method_94_code 34 = .ok (.iadd, 1) := by decide +kernel
theorem d_GM_value_35 : decode prog_15_method_94_code 35 = .ok (.istore 4, 2) := by decide +kernel
theorem d_GM_value_37 : decode prog_15_method_94_code 37 = .ok (.iload_n 3, 1) := by decide +kernel
theorem d_GM_value_38 : decode prog_15_method_94_code 38 = .ok (.ifCond .ne 14, 3) := by decide +kernel
theorem d_GM_value_52 : decode prog_15_method_94_code 52 = .ok (.aload_n 0, 1) := by decide +kernel
theorem d_GM_value_53 : decode prog_15_method_94_code 53 = .ok (.getfield 91, 3) := by decide +kernel
theorem d_GM_value_56 : decode prog_15_method_94_code 56 = .ok (.iload 4, 2) := by decide +kernel
theorem d_GM_value_58 : decode prog_15_method_94_code 58 = .ok (.iaload, 1) := by decide +kernel
theorem d_GM_value_59 : decode prog_15_method_94_code 59 = .ok (.iconst 2, 1) := by decide +kernel
theorem d_GM_value_60 : decode prog_15_method_94_code 60 = .ok (.if_icmp .ne 14, 3) := by decide +kernel
theorem d_GM_value_74 : decode prog_15_method_94_code 74 = .ok (.aload_n 0, 1) := by decide +kernel
theorem d_GM_value_75 : decode prog_15_method_94_code 75 = .ok (.getfield 103, 3) := by decide +kernel
theorem d_GM_value_78 : decode prog_15_method_94_code 78 = .ok (.iload 4, 2) := by decide +kernel
theorem d_GM_value_80 : decode prog_15_method_94_code 80 = .ok (.laload, 1) := by decide +kernel
theorem d_GM_value_81 : decode prog_15_method_94_code 81 = .ok (.lreturn, 1) := by decide +kernel
theorem d_GM_value_63 : decode prog_15_method_94_code 63 = .ok (.aload_n 0, 1) := by decide +kernel
theorem d_GM_value_64 : decode prog_15_method_94_code 64 = .ok (.getfield 94, 3) := by decide +kernel
theorem d_GM_value_67 : decode prog_15_method_94_code 67 = .ok (.iload 4, 2) := by decide +kernel
theorem d_GM_value_69 : decode prog_15_method_94_code 69 = .ok (.iaload, 1) := by decide +kernel
theorem d_GM_value_70 : decode prog_15_method_94_code 70 = .ok (.i2l, 1) := by decide +kernel
theorem d_GM_value_71 : decode prog_15_method_94_code 71 = .ok (.goto 10, 3) := by decide +kernel
theorem d_GM_value_41 : decode prog_15_method_94_code 41 = .ok (.aload_n 0, 1) := by decide +kernel
theorem d_GM_value_42 : decode prog_15_method_94_code 42 = .ok (.getfield 91, 3) := by decide +kernel
theorem d_GM_value_45 : decode prog_15_method_94_code 45 = .ok (.iload 4, 2) := by decide +kernel
theorem d_GM_value_47 : decode prog_15_method_94_code 47 = .ok (.iaload, 1) := by decide +kernel
theorem d_GM_value_48 : decode prog_15_method_94_code 48 = .ok (.i2l, 1) := by decide +kernel
theorem d_GM_value_49 : decode prog_15_method_94_code 49 = .ok (.goto 32, 3) := by decide +kernel
set_option maxHeartbeats 4000000 in
theorem w_GM_value_0 {l : Launch} {G : gG} {d : Nat} {X : gX} {M : gM} {k : Int → gM → Prop} {o : Nat} (hX : gmX X o) {x1 : Int} (hx1 : g32 x1) {x2 : Int} (hx2 : g32 x2) {x3 : Int} (hx3 : g32 x3) (T : cZ l G y_GM_inSheet (gRm d) false [gI x1, gI x2] X M (fun v2 M1 => ((v2 = 0 → (cI l G y_GM_no (gRm d) true [gR G o, gI 1] X M1 (fun v5 M4 => (k v5 M4)))) ∧ (¬ v2 = 0 → ((x3 < 0 → (cI l G y_GM_no (gRm d) true [gR G o, gI 1] X M1 (fun v8 M7 => (k v8 M7)))) ∧ (¬ x3 < 0 → ((x3 ≤ 1 → ((¬ x3 = 0 → (((0 : Int) ≤ x1 + (26 * x2) ∧ x1 + (26 * x2) < 5200) ∧ (g32 ((gUp M1 o 0 0) (o + 26) (Int.toNat (x1 + (26 * x2)))) → ((¬ (gUp M1 o 0 0) (o + 26) (Int.toNat (x1 + (26 * x2))) = 2 → (((0 : Int) ≤ x1 + (26 * x2) ∧ x1 + (26 * x2) < 5200) ∧ (g64 ((gUp M1 o 0 0) (o + 30) (Int.toNat (x1 + (26 * x2)))) → (k ((gUp M1 o 0 0) (o + 30) (Int.toNat (x1 + (26 * x2)))) (gUp M1 o 0 0))))) ∧ ((gUp M1 o 0 0) (o + 26) (Int.toNat (x1 + (26 * x2))) = 2 → (((0 : Int) ≤ x1 + (26 * x2) ∧ x1 + (26 * x2) < 5200) ∧ (g32 ((gUp M1 o 0 0) (o + 27) (Int.toNat (x1 + (26 * x2)))) → (k ((gUp M1 o 0 0) (o + 27) (Int.toNat (x1 + (26 * x2)))) (gUp M1 o 0 0))))))))) ∧ (x3 = 0 → (((0 : Int) ≤ x1 + (26 * x2) ∧ x1 + (26 * x2) < 5200) ∧ (g32 ((gUp M1 o 0 0) (o + 26) (Int.toNat (x1 + (26 * x2)))) → (k ((gUp M1 o 0 0) (o + 26) (Int.toNat (x1 + (26 * x2)))) (gUp M1 o 0 0))))))) ∧ (¬ x3 ≤ 1 → (cI l G y_GM_no (gRm d) true [gR G o, gI 1] X M1 (fun v17 M16 => (k v17 M16))))))))))) : wp l G y_GM_value (gRm (d + 1)) true (kkL X k) false 0 [.val (gR G o), .val (gI x1), .val (gI x2), .val (gI x3), .unset] [] X M 0 0 := by
  refine wp_iload_n d_GM_value_0 rfl rfl ?_
  refine wp_iload_n d_GM_value_1 rfl rfl ?_
  refine xcS_Z (md' := false) (As := [gI x1, gI x2]) (st := []) d_GM_value_2 ca_GM_inSheet ml_GM_544 sm_GM_inSheet rfl (by decide) (by decide) rfl id id T (fun v2 M1 h3 T => ?_)
  refine xz_eq (tgt := 17) d_GM_value_5 (by decide) (w32_id (g32_z h3)) (fun h21 => ?_) (fun h21 => ?_)
  · have T := T.1 h21
    refine wp_aload_n d_GM_value_17 rfl rfl (g_nz hX.1) ?_
    refine wp_iconst d_GM_value_18 ?_
    refine xcV_I (md' := true) (As := [gI 1]) (st := []) d_GM_value_19 ca_GM_no ml_GM_526 im_GM_no se_GM_no gc_GM hX.1 (gm_o2 hX) hX.2.2.1 rfl (by decide) (by decide) rfl (fun _ => rfl) (fun _ => rfl) T (fun v5 M4 h6 T => ?_)
    refine xi2l d_GM_value_22 (w32_id h6) ?_
    exact wp_lreturn d_GM_value_23 rfl (fun _ => rfl) (Nat.zero_le _) (Nat.zero_le _) (kL_mk (g64_32 h6) T)
  · have T := T.2 h21
    refine wp_iload_n d_GM_value_8 rfl rfl ?_
    refine xz_lt (tgt := 17) d_GM_value_9 (by decide) (w32_id hx3) (fun h20 => ?_) (fun h20 => ?_)
    · have T := T.1 h20
      refine wp_aload_n d_GM_value_17 rfl rfl (g_nz hX.1) ?_
      refine wp_iconst d_GM_value_18 ?_
      refine xcV_I (md' := true) (As := [gI 1]) (st := []) d_GM_value_19 ca_GM_no ml_GM_526 im_GM_no se_GM_no gc_GM hX.1 (gm_o2 hX) hX.2.2.1 rfl (by decide) (by decide) rfl (fun _ => rfl) (fun _ => rfl) T (fun v8 M7 h9 T => ?_)
      refine xi2l d_GM_value_22 (w32_id h9) ?_
      exact wp_lreturn d_GM_value_23 rfl (fun _ => rfl) (Nat.zero_le _) (Nat.zero_le _) (kL_mk (g64_32 h9) T)
    · have T := T.2 h20
      refine wp_iload_n d_GM_value_12 rfl rfl ?_
      refine wp_iconst d_GM_value_13 ?_
      refine xi_le (tgt := 24) d_GM_value_14 (by decide) (w32_id hx3) (w32_id (g32_c (x := 1) rfl)) (fun h19 => ?_) (fun h19 => ?_)
      · have T := T.1 h19
        refine wp_aload_n d_GM_value_24 rfl rfl (g_nz hX.1) ?_
        refine wp_iconst d_GM_value_25 ?_
        refine xputI d_GM_value_26 gc_GM f_GM_157.1 f_GM_157.2.1 f_GM_157.2.2.1 hX.1 (gm_o2 hX) hX.2.2.1 f_GM_157.2.2.2.1 f_GM_157.2.2.2.2.1 f_GM_157.2.2.2.2.2 (w32_id (g32_c (x := 0) rfl)) ?_
        refine wp_iload_n d_GM_value_29 rfl rfl ?_
        refine wp_bipush d_GM_value_30 ⟨by decide, by decide⟩ ?_
        refine wp_iload_n d_GM_value_32 rfl rfl ?_
        refine wp_imul d_GM_value_33 ?_
        refine wp_iadd d_GM_value_34 ?_
        refine wp_istore (L' := [.val (gR G o), .val (gI x1), .val (gI x2), .val (gI x3), .val (gI (x1 + (26 * x2)))]) d_GM_value_35 (by decide) rfl ?_
        refine wp_iload_n d_GM_value_37 rfl rfl ?_
        refine xz_ne (tgt := 52) d_GM_value_38 (by decide) (w32_id hx3) (fun h15 => ?_) (fun h15 => ?_)
        · have T := T.1 h15
          refine wp_aload_n d_GM_value_52 rfl rfl (g_nz hX.1) ?_
          refine xgetR d_GM_value_53 gc_GM f_GM_91.1 f_GM_91.2.1 f_GM_91.2.2.1 hX.1 (gm_o2 hX) hX.2.2.1 f_GM_91.2.2.2.2.1 (gm_row hX 25 rfl).1 ?_
          refine wp_iload d_GM_value_56 rfl ?_
          refine wp_iaload d_GM_value_58 (gm_row hX 25 rfl).2.2.1 (gm_row hX 25 rfl).2.2.2 (gm_row hX 25 rfl).2.1 (g32_n T.1 (by decide)) T.1.1 T.1.2 (fun h10 => ?_)
          have T := T.2 h10
          refine wp_iconst d_GM_value_59 ?_
          refine xi_ne (tgt := 74) d_GM_value_60 (by decide) (w32_id h10) (w32_id (g32_c (x := 2) rfl)) (fun h13 => ?_) (fun h13 => ?_)
          · have T := T.1 h13
            refine wp_aload_n d_GM_value_74 rfl rfl (g_nz hX.1) ?_
            refine xgetR d_GM_value_75 gc_GM f_GM_103.1 f_GM_103.2.1 f_GM_103.2.2.1 hX.1 (gm_o2 hX) hX.2.2.1 f_GM_103.2.2.2.2.1 (gm_row hX 29 rfl).1 ?_
            refine wp_iload d_GM_value_78 rfl ?_
            refine wp_laload d_GM_value_80 (gm_row hX 29 rfl).2.2.1 (gm_row hX 29 rfl).2.2.2 (gm_row hX 29 rfl).2.1 (g32_n T.1 (by decide)) T.1.1 T.1.2 (fun h11 => ?_)
            have T := T.2 h11
            exact wp_lreturn d_GM_value_81 rfl (fun _ => rfl) (Nat.zero_le _) (Nat.zero_le _) (kL_mk h11 T)
          · have T := T.2 h13
            refine wp_aload_n d_GM_value_63 rfl rfl (g_nz hX.1) ?_
            refine xgetR d_GM_value_64 gc_GM f_GM_94.1 f_GM_94.2.1 f_GM_94.2.2.1 hX.1 (gm_o2 hX) hX.2.2.1 f_GM_94.2.2.2.2.1 (gm_row hX 26 rfl).1 ?_
            refine wp_iload d_GM_value_67 rfl ?_
            refine wp_iaload d_GM_value_69 (gm_row hX 26 rfl).2.2.1 (gm_row hX 26 rfl).2.2.2 (gm_row hX 26 rfl).2.1 (g32_n T.1 (by decide)) T.1.1 T.1.2 (fun h12 => ?_)
            have T := T.2 h12
            refine xi2l d_GM_value_70 (w32_id h12) ?_
            refine wp_goto (tgt := 81) d_GM_value_71 (by decide) ?_
            exact wp_lreturn d_GM_value_81 rfl (fun _ => rfl) (Nat.zero_le _) (Nat.zero_le _) (kL_mk (g64_32 h12) T)
        · have T := T.2 h15
          refine wp_aload_n d_GM_value_41 rfl rfl (g_nz hX.1) ?_
          refine xgetR d_GM_value_42 gc_GM f_GM_91.1 f_GM_91.2.1 f_GM_91.2.2.1 hX.1 (gm_o2 hX) hX.2.2.1 f_GM_91.2.2.2.2.1 (gm_row hX 25 rfl).1 ?_
          refine wp_iload d_GM_value_45 rfl ?_
          refine wp_iaload d_GM_value_47 (gm_row hX 25 rfl).2.2.1 (gm_row hX 25 rfl).2.2.2 (gm_row hX 25 rfl).2.1 (g32_n T.1 (by decide)) T.1.1 T.1.2 (fun h14 => ?_)
          have T := T.2 h14
          refine xi2l d_GM_value_48 (w32_id h14) ?_
          refine wp_goto (tgt := 81) d_GM_value_49 (by decide) ?_
          exact wp_lreturn d_GM_value_81 rfl (fun _ => rfl) (Nat.zero_le _) (Nat.zero_le _) (kL_mk (g64_32 h14) T)
      · have T := T.2 h19
        refine wp_aload_n d_GM_value_17 rfl rfl (g_nz hX.1) ?_
        refine wp_iconst d_GM_value_18 ?_
        refine xcV_I (md' := true) (As := [gI 1]) (st := []) d_GM_value_19 ca_GM_no ml_GM_526 im_GM_no se_GM_no gc_GM hX.1 (gm_o2 hX) hX.2.2.1 rfl (by decide) (by decide) rfl (fun _ => rfl) (fun _ => rfl) T (fun v17 M16 h18 T => ?_)
        refine xi2l d_GM_value_22 (w32_id h18) ?_
        exact wp_lreturn d_GM_value_23 rfl (fun _ => rfl) (Nat.zero_le _) (Nat.zero_le _) (kL_mk (g64_32 h18) T)
theorem e_GM_value {l : Launch} {G : gG} {d : Nat} {X : gX} {M : gM} {k : Int → gM → Prop} {o : Nat} {x1 : Int} {x2 : Int} {x3 : Int} (T : wp l G y_GM_value (gRm (d + 1)) true (kkL X k) false 0 [.val (gR G o), .val (gI x1), .val (gI x2), .val (gI x3), .unset] [] X M 0 0) : cL l G y_GM_value (gRm (d + 1)) true [gR G o, gI x1, gI x2, gI x3] X M k := cen_L (plainFor_of_name rfl) (by simp only [lg_sl_R, lg_sl_I, lg_sl_L, lg_sl_N, List.length_cons, List.length_nil]; decide) (by unfold gEn; simp only [lg_sl_R, lg_sl_I, lg_sl_L, lg_sl_N]; exact wpt T (And.intro rfl (And.intro rfl (And.intro rfl (And.intro rfl True.intro)))))
theorem d_GM_letter_2_0 : decode prog_15_method_95_code 0 = .ok (.iload_n 1, 1) := by decide +kernel
theorem d_GM_letter_2_1 : decode prog_15_method_95_code 1 = .ok (.iload_n 2, 1) := by decide +kernel
theorem d_GM_letter_2_2 : decode prog_15_method_95_code 2 = .ok (.invokestatic 544, 3) := by decide +kernel
theorem d_GM_letter_2_5 : decode prog_15_method_95_code 5 = .ok (.ifCond .ne 9, 3) := by decide +kernel
theorem d_GM_letter_2_14 : decode prog_15_method_95_code 14 = .ok (.iload_n 1, 1) := by decide +kernel
theorem d_GM_letter_2_15 : decode prog_15_method_95_code 15 = .ok (.bipush 26, 2) := by decide +kernel
theorem d_GM_letter_2_17 : decode prog_15_method_95_code 17 = .ok (.iload_n 2, 1) := by decide +kernel
theorem d_GM_letter_2_18 : decode prog_15_method_95_code 18 = .ok (.imul, 1) := by decide +kernel
theorem d_GM_letter_2_19 : decode prog_15_method_95_code 19 = .ok (.iadd, 1) := by decide +kernel
theorem d_GM_letter_2_20 : decode prog_15_method_95_code 20 = .ok (.istore 4, 2) := by decide +kernel
theorem d_GM_letter_2_22 : decode prog_15_method_95_code 22 = .ok (.aload_n 0, 1) := by decide +kernel
theorem d_GM_letter_2_23 : decode prog_15_method_95_code 23 = .ok (.getfield 91, 3) := by decide +kernel
theorem d_GM_letter_2_26 : decode prog_15_method_95_code 26 = .ok (.iload 4, 2) := by decide +kernel
theorem d_GM_letter_2_28 : decode prog_15_method_95_code 28 = .ok (.iaload, 1) := by decide +kernel
theorem d_GM_letter_2_29 : decode prog_15_method_95_code 29 = .ok (.iconst 2, 1) := by decide +kernel
theorem d_GM_letter_2_30 : decode prog_15_method_95_code 30 = .ok (.if_icmp .ne 18, 3) := by decide +kernel
theorem d_GM_letter_2_48 : decode prog_15_method_95_code 48 = .ok (.aload_n 0, 1) := by decide +kernel
theorem d_GM_letter_2_49 : decode prog_15_method_95_code 49 = .ok (.iconst 2, 1) := by decide +kernel
theorem d_GM_letter_2_50 : decode prog_15_method_95_code 50 = .ok (.invokevirtual 526, 3) := by decide +kernel
theorem d_GM_letter_2_53 : decode prog_15_method_95_code 53 = .ok (.ireturn, 1) := by decide +kernel
theorem d_GM_letter_2_33 : decode prog_15_method_95_code 33 = .ok (.iload_n 3, 1) := by decide +kernel
theorem d_GM_letter_2_34 : decode prog_15_method_95_code 34 = .ok (.ifCond .lt 14, 3) := by decide +kernel
theorem d_GM_letter_2_37 : decode prog_15_method_95_code 37 = .ok (.iload_n 3, 1) := by decide +kernel
theorem d_GM_letter_2_38 : decode prog_15_method_95_code 38 = .ok (.aload_n 0, 1) := by decide +kernel
theorem d_GM_letter_2_39 : decode prog_15_method_95_code 39 = .ok (.getfield 94, 3) := by decide +kernel
theorem d_GM_letter_2_42 : decode prog_15_method_95_code 42 = .ok (.iload 4, 2) := by decide +kernel
theorem d_GM_letter_2_44 : decode prog_15_method_95_code 44 = .ok (.iaload, 1) := by decide +kernel
theorem d_GM_letter_2_45 : decode prog_15_method_95_code 45 = .ok (.if_icmp .lt 9, 3) := by decide +kernel
theorem d_GM_letter_2_54 : decode prog_15_method_95_code 54 = .ok (.aload_n 0, 1) := by decide +kernel
theorem d_GM_letter_2_55 : decode prog_15_method_95_code 55 = .ok (.iconst 0, 1) := by decide +kernel
theorem d_GM_letter_2_56 : decode prog_15_method_95_code 56 = .ok (.putfield 157, 3) := by decide +kernel
theorem d_GM_letter_2_59 : decode prog_15_method_95_code 59 = .ok (.aload_n 0, 1) := by decide +kernel
theorem d_GM_letter_2_60 : decode prog_15_method_95_code 60 = .ok (.getfield 110, 3) := by decide +kernel
theorem d_GM_letter_2_63 : decode prog_15_method_95_code 63 = .ok (.bipush 64, 2) := by decide +kernel
theorem d_GM_letter_2_65 : decode prog_15_method_95_code 65 = .ok (.iload 4, 2) := by decide +kernel
theorem d_GM_letter_2_67 : decode prog_15_method_95_code 67 = .ok (.imul, 1) := by decide +kernel
theorem d_GM_letter_2_68 : decode prog_15_method_95_code 68 = .ok (.iload_n 3, 1) := by decide +kernel
theorem d_GM_letter_2_69 : decode prog_15_method_95_code 69 = .ok (.iadd, 1) := by decide +kernel
theorem d_GM_letter_2_70 : decode prog_15_method_95_code 70 = .ok (.baload, 1) := by decide +kernel
theorem d_GM_letter_2_71 : decode prog_15_method_95_code 71 = .ok (.ireturn, 1) := by decide +kernel
theorem d_GM_letter_2_8 : decode prog_15_method_95_code 8 = .ok (.aload_n 0, 1) := by decide +kernel
theorem d_GM_letter_2_9 : decode prog_15_method_95_code 9 = .ok (.iconst 1, 1) := by decide +kernel
theorem d_GM_letter_2_10 : decode prog_15_method_95_code 10 = .ok (.invokevirtual 526, 3) := by decide +kernel
theorem d_GM_letter_2_13 : decode prog_15_method_95_code 13 = .ok (.ireturn, 1) := by decide +kernel
set_option maxHeartbeats 4000000 in
theorem w_GM_letter_2_0 {l : Launch} {G : gG} {d : Nat} {X : gX} {M : gM} {k : Int → gM → Prop} {o : Nat} (hX : gmX X o) {x1 : Int} (hx1 : g32 x1) {x2 : Int} (hx2 : g32 x2) {x3 : Int} (hx3 : g32 x3) (T : cZ l G y_GM_inSheet (gRm d) false [gI x1, gI x2] X M (fun v2 M1 => ((¬ v2 = 0 → (((0 : Int) ≤ x1 + (26 * x2) ∧ x1 + (26 * x2) < 5200) ∧ (g32 (M1 (o + 26) (Int.toNat (x1 + (26 * x2)))) → ((¬ M1 (o + 26) (Int.toNat (x1 + (26 * x2))) = 2 → (cI l G y_GM_no (gRm d) true [gR G o, gI 2] X M1 (fun v6 M5 => (k v6 M5)))) ∧ (M1 (o + 26) (Int.toNat (x1 + (26 * x2))) = 2 → ((x3 < 0 → (cI l G y_GM_no (gRm d) true [gR G o, gI 2] X M1 (fun v9 M8 => (k v9 M8)))) ∧ (¬ x3 < 0 → (((0 : Int) ≤ x1 + (26 * x2) ∧ x1 + (26 * x2) < 5200) ∧ (g32 (M1 (o + 27) (Int.toNat (x1 + (26 * x2)))) → ((x3 < M1 (o + 27) (Int.toNat (x1 + (26 * x2))) → (((0 : Int) ≤ (64 * (x1 + (26 * x2))) + x3 ∧ (64 * (x1 + (26 * x2))) + x3 < 332800) ∧ ((-128 ≤ (gUp M1 o 0 0) (o + 32) (Int.toNat ((64 * (x1 + (26 * x2))) + x3)) ∧ (gUp M1 o 0 0) (o + 32) (Int.toNat ((64 * (x1 + (26 * x2))) + x3)) < 128) → (k ((gUp M1 o 0 0) (o + 32) (Int.toNat ((64 * (x1 + (26 * x2))) + x3))) (gUp M1 o 0 0))))) ∧ (¬ x3 < M1 (o + 27) (Int.toNat (x1 + (26 * x2))) → (cI l G y_GM_no (gRm d) true [gR G o, gI 2] X M1 (fun v14 M13 => (k v14 M13)))))))))))))) ∧ (v2 = 0 → (cI l G y_GM_no (gRm d) true [gR G o, gI 1] X M1 (fun v20 M19 => (k v20 M19))))))) : wp l G y_GM_letter_2 (gRm (d + 1)) true (kkI X k) false 0 [.val (gR G o), .val (gI x1), .val (gI x2), .val (gI x3), .unset] [] X M 0 0 := by
  refine wp_iload_n d_GM_letter_2_0 rfl rfl ?_
  refine wp_iload_n d_GM_letter_2_1 rfl rfl ?_
  refine xcS_Z (md' := false) (As := [gI x1, gI x2]) (st := []) d_GM_letter_2_2 ca_GM_inSheet ml_GM_544 sm_GM_inSheet rfl (by decide) (by decide) rfl id id T (fun v2 M1 h3 T => ?_)
  refine xz_ne (tgt := 14) d_GM_letter_2_5 (by decide) (w32_id (g32_z h3)) (fun h22 => ?_) (fun h22 => ?_)
  · have T := T.1 h22
    refine wp_iload_n d_GM_letter_2_14 rfl rfl ?_
    refine wp_bipush d_GM_letter_2_15 ⟨by decide, by decide⟩ ?_
    refine wp_iload_n d_GM_letter_2_17 rfl rfl ?_
    refine wp_imul d_GM_letter_2_18 ?_
    refine wp_iadd d_GM_letter_2_19 ?_
    refine wp_istore (L' := [.val (gR G o), .val (gI x1), .val (gI x2), .val (gI x3), .val (gI (x1 + (26 * x2)))]) d_GM_letter_2_20 (by decide) rfl ?_
    refine wp_aload_n d_GM_letter_2_22 rfl rfl (g_nz hX.1) ?_
    refine xgetR d_GM_letter_2_23 gc_GM f_GM_91.1 f_GM_91.2.1 f_GM_91.2.2.1 hX.1 (gm_o2 hX) hX.2.2.1 f_GM_91.2.2.2.2.1 (gm_row hX 25 rfl).1 ?_
    refine wp_iload d_GM_letter_2_26 rfl ?_
    refine wp_iaload d_GM_letter_2_28 (gm_row hX 25 rfl).2.2.1 (gm_row hX 25 rfl).2.2.2 (gm_row hX 25 rfl).2.1 (g32_n T.1 (by decide)) T.1.1 T.1.2 (fun h4 => ?_)
    have T := T.2 h4
    refine wp_iconst d_GM_letter_2_29 ?_
    refine xi_ne (tgt := 48) d_GM_letter_2_30 (by decide) (w32_id h4) (w32_id (g32_c (x := 2) rfl)) (fun h18 => ?_) (fun h18 => ?_)
    · have T := T.1 h18
      refine wp_aload_n d_GM_letter_2_48 rfl rfl (g_nz hX.1) ?_
      refine wp_iconst d_GM_letter_2_49 ?_
      refine xcV_I (md' := true) (As := [gI 2]) (st := []) d_GM_letter_2_50 ca_GM_no ml_GM_526 im_GM_no se_GM_no gc_GM hX.1 (gm_o2 hX) hX.2.2.1 rfl (by decide) (by decide) rfl (fun _ => rfl) (fun _ => rfl) T (fun v6 M5 h7 T => ?_)
      exact wp_ireturn d_GM_letter_2_53 rfl (fun _ => rfl) (Nat.zero_le _) (Nat.zero_le _) (kI_mk h7 T)
    · have T := T.2 h18
      refine wp_iload_n d_GM_letter_2_33 rfl rfl ?_
      refine xz_lt (tgt := 48) d_GM_letter_2_34 (by decide) (w32_id hx3) (fun h17 => ?_) (fun h17 => ?_)
      · have T := T.1 h17
        refine wp_aload_n d_GM_letter_2_48 rfl rfl (g_nz hX.1) ?_
        refine wp_iconst d_GM_letter_2_49 ?_
        refine xcV_I (md' := true) (As := [gI 2]) (st := []) d_GM_letter_2_50 ca_GM_no ml_GM_526 im_GM_no se_GM_no gc_GM hX.1 (gm_o2 hX) hX.2.2.1 rfl (by decide) (by decide) rfl (fun _ => rfl) (fun _ => rfl) T (fun v9 M8 h10 T => ?_)
        exact wp_ireturn d_GM_letter_2_53 rfl (fun _ => rfl) (Nat.zero_le _) (Nat.zero_le _) (kI_mk h10 T)
      · have T := T.2 h17
        refine wp_iload_n d_GM_letter_2_37 rfl rfl ?_
        refine wp_aload_n d_GM_letter_2_38 rfl rfl (g_nz hX.1) ?_
        refine xgetR d_GM_letter_2_39 gc_GM f_GM_94.1 f_GM_94.2.1 f_GM_94.2.2.1 hX.1 (gm_o2 hX) hX.2.2.1 f_GM_94.2.2.2.2.1 (gm_row hX 26 rfl).1 ?_
        refine wp_iload d_GM_letter_2_42 rfl ?_
        refine wp_iaload d_GM_letter_2_44 (gm_row hX 26 rfl).2.2.1 (gm_row hX 26 rfl).2.2.2 (gm_row hX 26 rfl).2.1 (g32_n T.1 (by decide)) T.1.1 T.1.2 (fun h11 => ?_)
        have T := T.2 h11
        refine xi_lt (tgt := 54) d_GM_letter_2_45 (by decide) (w32_id hx3) (w32_id h11) (fun h16 => ?_) (fun h16 => ?_)
        · have T := T.1 h16
          refine wp_aload_n d_GM_letter_2_54 rfl rfl (g_nz hX.1) ?_
          refine wp_iconst d_GM_letter_2_55 ?_
          refine xputI d_GM_letter_2_56 gc_GM f_GM_157.1 f_GM_157.2.1 f_GM_157.2.2.1 hX.1 (gm_o2 hX) hX.2.2.1 f_GM_157.2.2.2.1 f_GM_157.2.2.2.2.1 f_GM_157.2.2.2.2.2 (w32_id (g32_c (x := 0) rfl)) ?_
          refine wp_aload_n d_GM_letter_2_59 rfl rfl (g_nz hX.1) ?_
          refine xgetR d_GM_letter_2_60 gc_GM f_GM_110.1 f_GM_110.2.1 f_GM_110.2.2.1 hX.1 (gm_o2 hX) hX.2.2.1 f_GM_110.2.2.2.2.1 (gm_row hX 31 rfl).1 ?_
          refine wp_bipush d_GM_letter_2_63 ⟨by decide, by decide⟩ ?_
          refine wp_iload d_GM_letter_2_65 rfl ?_
          refine wp_imul d_GM_letter_2_67 ?_
          refine wp_iload_n d_GM_letter_2_68 rfl rfl ?_
          refine wp_iadd d_GM_letter_2_69 ?_
          refine wp_baload d_GM_letter_2_70 (gm_row hX 31 rfl).2.2.1 (gm_row hX 31 rfl).2.2.2 (gm_row hX 31 rfl).2.1 (g32_n T.1 (by decide)) T.1.1 T.1.2 (fun h12 => ?_)
          have T := T.2 h12
          exact wp_ireturn d_GM_letter_2_71 rfl (fun _ => rfl) (Nat.zero_le _) (Nat.zero_le _) (kI_mk (g32_b h12) T)
        · have T := T.2 h16
          refine wp_aload_n d_GM_letter_2_48 rfl rfl (g_nz hX.1) ?_
          refine wp_iconst d_GM_letter_2_49 ?_
          refine xcV_I (md' := true) (As := [gI 2]) (st := []) d_GM_letter_2_50 ca_GM_no ml_GM_526 im_GM_no se_GM_no gc_GM hX.1 (gm_o2 hX) hX.2.2.1 rfl (by decide) (by decide) rfl (fun _ => rfl) (fun _ => rfl) T (fun v14 M13 h15 T => ?_)
          exact wp_ireturn d_GM_letter_2_53 rfl (fun _ => rfl) (Nat.zero_le _) (Nat.zero_le _) (kI_mk h15 T)
  · have T := T.2 h22
    refine wp_aload_n d_GM_letter_2_8 rfl rfl (g_nz hX.1) ?_
    refine wp_iconst d_GM_letter_2_9 ?_
    refine xcV_I (md' := true) (As := [gI 1]) (st := []) d_GM_letter_2_10 ca_GM_no ml_GM_526 im_GM_no se_GM_no gc_GM hX.1 (gm_o2 hX) hX.2.2.1 rfl (by decide) (by decide) rfl (fun _ => rfl) (fun _ => rfl) T (fun v20 M19 h21 T => ?_)
    exact wp_ireturn d_GM_letter_2_13 rfl (fun _ => rfl) (Nat.zero_le _) (Nat.zero_le _) (kI_mk h21 T)
theorem e_GM_letter_2 {l : Launch} {G : gG} {d : Nat} {X : gX} {M : gM} {k : Int → gM → Prop} {o : Nat} {x1 : Int} {x2 : Int} {x3 : Int} (T : wp l G y_GM_letter_2 (gRm (d + 1)) true (kkI X k) false 0 [.val (gR G o), .val (gI x1), .val (gI x2), .val (gI x3), .unset] [] X M 0 0) : cI l G y_GM_letter_2 (gRm (d + 1)) true [gR G o, gI x1, gI x2, gI x3] X M k := cen_I (plainFor_of_name rfl) (by simp only [lg_sl_R, lg_sl_I, lg_sl_L, lg_sl_N, List.length_cons, List.length_nil]; decide) (by unfold gEn; simp only [lg_sl_R, lg_sl_I, lg_sl_L, lg_sl_N]; exact wpt T (And.intro rfl (And.intro rfl (And.intro rfl (And.intro rfl True.intro)))))
theorem d_GM_content_0 : decode prog_15_method_96_code 0 = .ok (.iload_n 1, 1) := by decide +kernel
theorem d_GM_content_1 : decode prog_15_method_96_code 1 = .ok (.iload_n 2, 1) := by decide +kernel
theorem d_GM_content_2 : decode prog_15_method_96_code 2 = .ok (.invokestatic 544, 3) := by decide +kernel
theorem d_GM_content_5 : decode prog_15_method_96_code 5 = .ok (.ifCond .eq 12, 3) := by decide +kernel
theorem d_GM_content_17 : decode prog_15_method_96_code 17 = .ok (.aload_n 0, 1) := by decide +kernel
theorem d_GM_content_18 : decode prog_15_method_96_code 18 = .ok (.iconst 1, 1) := by decide +kernel
theorem d_GM_content_19 : decode prog_15_method_96_code 19 = .ok (.invokevirtual 526, 3) := by decide +kernel
theorem d_GM_content_22 : decode prog_15_method_96_code 22 = .ok (.ireturn, 1) := by decide +kernel
theorem d_GM_content_8 : decode prog_15_method_96_code 8 = .ok (.iload_n 3, 1) := by decide +kernel
theorem d_GM_content_9 : decode prog_15_method_96_code 9 = .ok (.ifCond .lt 8, 3) := by decide +kernel
theorem d_GM_content_12 : decode prog_15_method_96_code 12 = .ok (.iload_n 3, 1) := by decide +kernel
theorem d_GM_content_13 : decode prog_15_method_96_code 13 = .ok (.iconst 2, 1) := by decide +kernel
theorem d_GM_content_14 : decode prog_15_method_96_code 14 = .ok (.if_icmp .le 9, 3) := by decide +kernel
theorem d_GM_content_23 : decode prog_15_method_96_code 23 = .ok (.aload_n 0, 1) := by decide +kernel
theorem d_GM_content_24 : decode prog_15_method_96_code 24 = .ok (.iconst 0, 1) := by decide +kernel
theorem d_GM_content_25 : decode prog_15_method_96_code 25 = .ok (.putfield 157, 3) := by decide +kernel
theorem d_GM_content_28 : decode prog_15_method_96_code 28 = .ok (.iload_n 1, 1) := by decide +kernel
theorem d_GM_content_29 : decode prog_15_method_96_code 29 = .ok (.bipush 26, 2) := by decide +kernel
theorem d_GM_content_31 : decode prog_15_method_96_code 31 = .ok (.iload_n 2, 1) := by decide +kernel
theorem d_GM_content_32 : decode prog_15_method_96_code 32 = .ok (.imul, 1) := by decide +kernel
theorem d_GM_content_33 : decode prog_15_method_96_code 33 = .ok (.iadd, 1) := by decide +kernel
theorem d_GM_content_34 : decode prog_15_method_96_code 34 = .ok (.istore 4, 2) := by decide +kernel
theorem d_GM_content_36 : decode prog_15_method_96_code 36 = .ok (.aload_n 0, 1) := by decide +kernel
theorem d_GM_content_37 : decode prog_15_method_96_code 37 = .ok (.getfield 502, 3) := by decide +kernel
theorem d_GM_content_40 : decode prog_15_method_96_code 40 = .ok (.invokestatic 505, 3) := by decide +kernel
theorem d_GM_content_43 : decode prog_15_method_96_code 43 = .ok (.istore 5, 2) := by decide +kernel
theorem d_GM_content_45 : decode prog_15_method_96_code 45 = .ok (.iload_n 3, 1) := by decide +kernel
theorem d_GM_content_46 : decode prog_15_method_96_code 46 = .ok (.ifCond .ne 18, 3) := by decide +kernel
theorem d_GM_content_64 : decode prog_15_method_96_code 64 = .ok (.aload_n 0, 1) := by decide +kernel
theorem d_GM_content_65 : decode prog_15_method_96_code 65 = .ok (.getfield 69, 3) := by decide +kernel
theorem d_GM_content_68 : decode prog_15_method_96_code 68 = .ok (.iload 5, 2) := by decide +kernel
theorem d_GM_content_70 : decode prog_15_method_96_code 70 = .ok (.sipush 5200, 3) := by decide +kernel
theorem d_GM_content_73 : decode prog_15_method_96_code 73 = .ok (.imul, 1) := by decide +kernel
theorem d_GM_content_74 : decode prog_15_method_96_code 74 = .ok (.iload 4, 2) := by decide +kernel
theorem d_GM_content_76 : decode prog_15_method_96_code 76 = .ok (.iadd, 1) := by decide +kernel
theorem d_GM_content_77 : decode prog_15_method_96_code 77 = .ok (.iaload, 1) := by decide +kernel
theorem d_GM_content_78 : decode prog_15_method_96_code 78 = .ok (.iconst 3, 1) := by decide +kernel
theorem d_GM_content_79 : decode prog_15_method_96_code 79 = .ok (.if_icmp .eq 5, 3) := by decide +kernel
theorem d_GM_content_84 : decode prog_15_method_96_code 84 = .ok (.aload_n 0, 1) := by decide +kernel
theorem d_GM_content_85 : decode prog_15_method_96_code 85 = .ok (.getfield 37, 3) := by decide +kernel
theorem d_GM_content_88 : decode prog_15_method_96_code 88 = .ok (.aload_n 0, 1) := by decide +kernel
theorem d_GM_content_89 : decode prog_15_method_96_code 89 = .ok (.getfield 72, 3) := by decide +kernel
theorem d_GM_content_92 : decode prog_15_method_96_code 92 = .ok (.iload 5, 2) := by decide +kernel
theorem d_GM_content_94 : decode prog_15_method_96_code 94 = .ok (.sipush 5200, 3) := by decide +kernel
theorem d_GM_content_97 : decode prog_15_method_96_code 97 = .ok (.imul, 1) := by decide +kernel
theorem d_GM_content_98 : decode prog_15_method_96_code 98 = .ok (.iload 4, 2) := by decide +kernel
theorem d_GM_content_100 : decode prog_15_method_96_code 100 = .ok (.iadd, 1) := by decide +kernel
theorem d_GM_content_101 : decode prog_15_method_96_code 101 = .ok (.iaload, 1) := by decide +kernel
theorem d_GM_content_102 : decode prog_15_method_96_code 102 = .ok (.iaload, 1) := by decide +kernel
theorem d_GM_content_103 : decode prog_15_method_96_code 103 = .ok (.istore 6, 2) := by decide +kernel
theorem d_GM_content_105 : decode prog_15_method_96_code 105 = .ok (.iconst 0, 1) := by decide +kernel
theorem d_GM_content_106 : decode prog_15_method_96_code 106 = .ok (.istore 7, 2) := by decide +kernel
theorem d_GM_content_108 : decode prog_15_method_96_code 108 = .ok (.iconst 0, 1) := by decide +kernel
theorem d_GM_content_109 : decode prog_15_method_96_code 109 = .ok (.istore 8, 2) := by decide +kernel
theorem d_GM_content_82 : decode prog_15_method_96_code 82 = .ok (.iconst 0, 1) := by decide +kernel
theorem d_GM_content_83 : decode prog_15_method_96_code 83 = .ok (.ireturn, 1) := by decide +kernel
theorem d_GM_content_49 : decode prog_15_method_96_code 49 = .ok (.aload_n 0, 1) := by decide +kernel
theorem d_GM_content_50 : decode prog_15_method_96_code 50 = .ok (.getfield 69, 3) := by decide +kernel
theorem d_GM_content_53 : decode prog_15_method_96_code 53 = .ok (.iload 5, 2) := by decide +kernel
theorem d_GM_content_55 : decode prog_15_method_96_code 55 = .ok (.sipush 5200, 3) := by decide +kernel
theorem d_GM_content_58 : decode prog_15_method_96_code 58 = .ok (.imul, 1) := by decide +kernel
theorem d_GM_content_59 : decode prog_15_method_96_code 59 = .ok (.iload 4, 2) := by decide +kernel
theorem d_GM_content_61 : decode prog_15_method_96_code 61 = .ok (.iadd, 1) := by decide +kernel
theorem d_GM_content_62 : decode prog_15_method_96_code 62 = .ok (.iaload, 1) := by decide +kernel
theorem d_GM_content_63 : decode prog_15_method_96_code 63 = .ok (.ireturn, 1) := by decide +kernel
set_option maxHeartbeats 4000000 in
theorem w_GM_content_0 {l : Launch} {G : gG} {d : Nat} {X : gX} {M : gM} {k : Int → gM → Prop} {o : Nat} (hX : gmX X o) {x1 : Int} (hx1 : g32 x1) {x2 : Int} (hx2 : g32 x2) {x3 : Int} (hx3 : g32 x3) (T : cZ l G y_GM_inSheet (gRm d) false [gI x1, gI x2] X M (fun v2 M1 => ((v2 = 0 → (cI l G y_GM_no (gRm d) true [gR G o, gI 1] X M1 (fun v5 M4 => (k v5 M4)))) ∧ (¬ v2 = 0 → ((x3 < 0 → (cI l G y_GM_no (gRm d) true [gR G o, gI 1] X M1 (fun v8 M7 => (k v8 M7)))) ∧ (¬ x3 < 0 → ((x3 ≤ 2 → (g32 ((gUp M1 o 0 0) o 36) → (cI l G y_GM_slot (gRm d) false [gI ((gUp M1 o 0 0) o 36)] X (gUp M1 o 0 0) (fun v12 M11 => ((¬ x3 = 0 → (((0 : Int) ≤ (v12 * 5200) + (x1 + (26 * x2)) ∧ (v12 * 5200) + (x1 + (26 * x2)) < 218400) ∧ (g32 (M11 (o + 19) (Int.toNat ((v12 * 5200) + (x1 + (26 * x2))))) → ((M11 (o + 19) (Int.toNat ((v12 * 5200) + (x1 + (26 * x2)))) = 3 → (((0 : Int) ≤ (v12 * 5200) + (x1 + (26 * x2)) ∧ (v12 * 5200) + (x1 + (26 * x2)) < 218400) ∧ (g32 (M11 (o + 20) (Int.toNat ((v12 * 5200) + (x1 + (26 * x2))))) → (((0 : Int) ≤ M11 (o + 20) (Int.toNat ((v12 * 5200) + (x1 + (26 * x2)))) ∧ M11 (o + 20) (Int.toNat ((v12 * 5200) + (x1 + (26 * x2)))) < 4200) ∧ (g32 (M11 (o + 9) (Int.toNat (M11 (o + 20) (Int.toNat ((v12 * 5200) + (x1 + (26 * x2))))))) → (wp l G y_GM_content (gRm (d + 1)) true (kkI X k) true 111 [.val (gR G o), .unset, .unset, .val (gI x3), .val (gI (w32 (x1 + (26 * x2)))), .val (gI v12), .val (gI (M11 (o + 9) (Int.toNat (M11 (o + 20) (Int.toNat ((v12 * 5200) + (x1 + (26 * x2)))))))), .val (gI 0), .val (gI 0)] [] X M11 0 0)))))) ∧ (¬ M11 (o + 19) (Int.toNat ((v12 * 5200) + (x1 + (26 * x2)))) = 3 → (k 0 M11)))))) ∧ (x3 = 0 → (((0 : Int) ≤ (v12 * 5200) + (x1 + (26 * x2)) ∧ (v12 * 5200) + (x1 + (26 * x2)) < 218400) ∧ (g32 (M11 (o + 19) (Int.toNat ((v12 * 5200) + (x1 + (26 * x2))))) → (k (M11 (o + 19) (Int.toNat ((v12 * 5200) + (x1 + (26 * x2))))) M11))))))))) ∧ (¬ x3 ≤ 2 → (cI l G y_GM_no (gRm d) true [gR G o, gI 1] X M1 (fun v21 M20 => (k v21 M20))))))))))) : wp l G y_GM_content (gRm (d + 1)) true (kkI X k) false 0 [.val (gR G o), .val (gI x1), .val (gI x2), .val (gI x3), .unset, .unset, .unset, .unset, .unset] [] X M 0 0 := by
  refine wp_iload_n d_GM_content_0 rfl rfl ?_
  refine wp_iload_n d_GM_content_1 rfl rfl ?_
  refine xcS_Z (md' := false) (As := [gI x1, gI x2]) (st := []) d_GM_content_2 ca_GM_inSheet ml_GM_544 sm_GM_inSheet rfl (by decide) (by decide) rfl id id T (fun v2 M1 h3 T => ?_)
  refine xz_eq (tgt := 17) d_GM_content_5 (by decide) (w32_id (g32_z h3)) (fun h25 => ?_) (fun h25 => ?_)
  · have T := T.1 h25
    refine wp_aload_n d_GM_content_17 rfl rfl (g_nz hX.1) ?_
    refine wp_iconst d_GM_content_18 ?_
    refine xcV_I (md' := true) (As := [gI 1]) (st := []) d_GM_content_19 ca_GM_no ml_GM_526 im_GM_no se_GM_no gc_GM hX.1 (gm_o2 hX) hX.2.2.1 rfl (by decide) (by decide) rfl (fun _ => rfl) (fun _ => rfl) T (fun v5 M4 h6 T => ?_)
    exact wp_ireturn d_GM_content_22 rfl (fun _ => rfl) (Nat.zero_le _) (Nat.zero_le _) (kI_mk h6 T)
  · have T := T.2 h25
    refine wp_iload_n d_GM_content_8 rfl rfl ?_
    refine xz_lt (tgt := 17) d_GM_content_9 (by decide) (w32_id hx3) (fun h24 => ?_) (fun h24 => ?_)
    · have T := T.1 h24
      refine wp_aload_n d_GM_content_17 rfl rfl (g_nz hX.1) ?_
      refine wp_iconst d_GM_content_18 ?_
      refine xcV_I (md' := true) (As := [gI 1]) (st := []) d_GM_content_19 ca_GM_no ml_GM_526 im_GM_no se_GM_no gc_GM hX.1 (gm_o2 hX) hX.2.2.1 rfl (by decide) (by decide) rfl (fun _ => rfl) (fun _ => rfl) T (fun v8 M7 h9 T => ?_)
      exact wp_ireturn d_GM_content_22 rfl (fun _ => rfl) (Nat.zero_le _) (Nat.zero_le _) (kI_mk h9 T)
    · have T := T.2 h24
      refine wp_iload_n d_GM_content_12 rfl rfl ?_
      refine wp_iconst d_GM_content_13 ?_
      refine xi_le (tgt := 23) d_GM_content_14 (by decide) (w32_id hx3) (w32_id (g32_c (x := 2) rfl)) (fun h23 => ?_) (fun h23 => ?_)
      · have T := T.1 h23
        refine wp_aload_n d_GM_content_23 rfl rfl (g_nz hX.1) ?_
        refine wp_iconst d_GM_content_24 ?_
        refine xputI d_GM_content_25 gc_GM f_GM_157.1 f_GM_157.2.1 f_GM_157.2.2.1 hX.1 (gm_o2 hX) hX.2.2.1 f_GM_157.2.2.2.1 f_GM_157.2.2.2.2.1 f_GM_157.2.2.2.2.2 (w32_id (g32_c (x := 0) rfl)) ?_
        refine wp_iload_n d_GM_content_28 rfl rfl ?_
        refine wp_bipush d_GM_content_29 ⟨by decide, by decide⟩ ?_
        refine wp_iload_n d_GM_content_31 rfl rfl ?_
        refine wp_imul d_GM_content_32 ?_
        refine wp_iadd d_GM_content_33 ?_
        refine wp_istore (L' := [.val (gR G o), .val (gI x1), .val (gI x2), .val (gI x3), .val (gI (x1 + (26 * x2))), .unset, .unset, .unset, .unset]) d_GM_content_34 (by decide) rfl ?_
        refine wp_aload_n d_GM_content_36 rfl rfl (g_nz hX.1) ?_
        refine xgetI d_GM_content_37 gc_GM f_GM_502.1 f_GM_502.2.1 f_GM_502.2.2.1 hX.1 (gm_o2 hX) hX.2.2.1 f_GM_502.2.2.2.2.1 (fun h10 => ?_)
        have T := T h10
        refine xcS_I (md' := true) (As := [gI ((gUp M1 o 0 0) o 36)]) (st := []) d_GM_content_40 ca_GM_slot ml_GM_505 sm_GM_slot rfl (by decide) (by decide) rfl (fun _ => rfl) (fun _ => rfl) T (fun v12 M11 h13 T => ?_)
        refine wp_istore (L' := [.val (gR G o), .val (gI x1), .val (gI x2), .val (gI x3), .val (gI (x1 + (26 * x2))), .val (gI v12), .unset, .unset, .unset]) d_GM_content_43 (by decide) rfl ?_
        refine wp_iload_n d_GM_content_45 rfl rfl ?_
        refine xz_ne (tgt := 64) d_GM_content_46 (by decide) (w32_id hx3) (fun h19 => ?_) (fun h19 => ?_)
        · have T := T.1 h19
          refine wp_aload_n d_GM_content_64 rfl rfl (g_nz hX.1) ?_
          refine xgetR d_GM_content_65 gc_GM f_GM_69.1 f_GM_69.2.1 f_GM_69.2.2.1 hX.1 (gm_o2 hX) hX.2.2.1 f_GM_69.2.2.2.2.1 (gm_row hX 18 rfl).1 ?_
          refine wp_iload d_GM_content_68 rfl ?_
          refine wp_sipush d_GM_content_70 ⟨by decide, by decide⟩ ?_
          refine wp_imul d_GM_content_73 ?_
          refine wp_iload d_GM_content_74 rfl ?_
          refine wp_iadd d_GM_content_76 ?_
          refine wp_iaload d_GM_content_77 (gm_row hX 18 rfl).2.2.1 (gm_row hX 18 rfl).2.2.2 (gm_row hX 18 rfl).2.1 (g32_n T.1 (by decide)) T.1.1 T.1.2 (fun h14 => ?_)
          have T := T.2 h14
          refine wp_iconst d_GM_content_78 ?_
          refine xi_eq (tgt := 84) d_GM_content_79 (by decide) (w32_id h14) (w32_id (g32_c (x := 3) rfl)) (fun h17 => ?_) (fun h17 => ?_)
          · have T := T.1 h17
            refine wp_aload_n d_GM_content_84 rfl rfl (g_nz hX.1) ?_
            refine xgetR d_GM_content_85 gc_GM f_GM_37.1 f_GM_37.2.1 f_GM_37.2.2.1 hX.1 (gm_o2 hX) hX.2.2.1 f_GM_37.2.2.2.2.1 (gm_row hX 8 rfl).1 ?_
            refine wp_aload_n d_GM_content_88 rfl rfl (g_nz hX.1) ?_
            refine xgetR d_GM_content_89 gc_GM f_GM_72.1 f_GM_72.2.1 f_GM_72.2.2.1 hX.1 (gm_o2 hX) hX.2.2.1 f_GM_72.2.2.2.2.1 (gm_row hX 19 rfl).1 ?_
            refine wp_iload d_GM_content_92 rfl ?_
            refine wp_sipush d_GM_content_94 ⟨by decide, by decide⟩ ?_
            refine wp_imul d_GM_content_97 ?_
            refine wp_iload d_GM_content_98 rfl ?_
            refine wp_iadd d_GM_content_100 ?_
            refine wp_iaload d_GM_content_101 (gm_row hX 19 rfl).2.2.1 (gm_row hX 19 rfl).2.2.2 (gm_row hX 19 rfl).2.1 (g32_n T.1 (by decide)) T.1.1 T.1.2 (fun h15 => ?_)
            have T := T.2 h15
            refine wp_iaload d_GM_content_102 (gm_row hX 8 rfl).2.2.1 (gm_row hX 8 rfl).2.2.2 (gm_row hX 8 rfl).2.1 (g32_n T.1 (by decide)) T.1.1 T.1.2 (fun h16 => ?_)
            have T := T.2 h16
            refine wp_istore (L' := [.val (gR G o), .val (gI x1), .val (gI x2), .val (gI x3), .val (gI (x1 + (26 * x2))), .val (gI v12), .val (gI (M11 (o + 9) (Int.toNat (M11 (o + 20) (Int.toNat ((v12 * 5200) + (x1 + (26 * x2)))))))), .unset, .unset]) d_GM_content_103 (by decide) rfl ?_
            refine wp_iconst d_GM_content_105 ?_
            refine wp_istore (L' := [.val (gR G o), .val (gI x1), .val (gI x2), .val (gI x3), .val (gI (x1 + (26 * x2))), .val (gI v12), .val (gI (M11 (o + 9) (Int.toNat (M11 (o + 20) (Int.toNat ((v12 * 5200) + (x1 + (26 * x2)))))))), .val (gI 0), .unset]) d_GM_content_106 (by decide) rfl ?_
            refine wp_iconst d_GM_content_108 ?_
            refine wp_istore (L' := [.val (gR G o), .val (gI x1), .val (gI x2), .val (gI x3), .val (gI (x1 + (26 * x2))), .val (gI v12), .val (gI (M11 (o + 9) (Int.toNat (M11 (o + 20) (Int.toNat ((v12 * 5200) + (x1 + (26 * x2)))))))), .val (gI 0), .val (gI 0)]) d_GM_content_109 (by decide) rfl ?_
            exact wp_md (wpt T (And.intro rfl (And.intro rfl (And.intro (gI_w _) (And.intro rfl (And.intro rfl (And.intro rfl (And.intro rfl True.intro))))))))
          · have T := T.2 h17
            refine wp_iconst d_GM_content_82 ?_
            exact wp_ireturn d_GM_content_83 rfl (fun _ => rfl) (Nat.zero_le _) (Nat.zero_le _) (kI_mk (g32_c (x := 0) rfl) T)
        · have T := T.2 h19
          refine wp_aload_n d_GM_content_49 rfl rfl (g_nz hX.1) ?_
          refine xgetR d_GM_content_50 gc_GM f_GM_69.1 f_GM_69.2.1 f_GM_69.2.2.1 hX.1 (gm_o2 hX) hX.2.2.1 f_GM_69.2.2.2.2.1 (gm_row hX 18 rfl).1 ?_
          refine wp_iload d_GM_content_53 rfl ?_
          refine wp_sipush d_GM_content_55 ⟨by decide, by decide⟩ ?_
          refine wp_imul d_GM_content_58 ?_
          refine wp_iload d_GM_content_59 rfl ?_
          refine wp_iadd d_GM_content_61 ?_
          refine wp_iaload d_GM_content_62 (gm_row hX 18 rfl).2.2.1 (gm_row hX 18 rfl).2.2.2 (gm_row hX 18 rfl).2.1 (g32_n T.1 (by decide)) T.1.1 T.1.2 (fun h18 => ?_)
          have T := T.2 h18
          exact wp_ireturn d_GM_content_63 rfl (fun _ => rfl) (Nat.zero_le _) (Nat.zero_le _) (kI_mk h18 T)
      · have T := T.2 h23
        refine wp_aload_n d_GM_content_17 rfl rfl (g_nz hX.1) ?_
        refine wp_iconst d_GM_content_18 ?_
        refine xcV_I (md' := true) (As := [gI 1]) (st := []) d_GM_content_19 ca_GM_no ml_GM_526 im_GM_no se_GM_no gc_GM hX.1 (gm_o2 hX) hX.2.2.1 rfl (by decide) (by decide) rfl (fun _ => rfl) (fun _ => rfl) T (fun v21 M20 h22 T => ?_)
        exact wp_ireturn d_GM_content_22 rfl (fun _ => rfl) (Nat.zero_le _) (Nat.zero_le _) (kI_mk h22 T)
theorem e_GM_content {l : Launch} {G : gG} {d : Nat} {X : gX} {M : gM} {k : Int → gM → Prop} {o : Nat} {x1 : Int} {x2 : Int} {x3 : Int} (T : wp l G y_GM_content (gRm (d + 1)) true (kkI X k) false 0 [.val (gR G o), .val (gI x1), .val (gI x2), .val (gI x3), .unset, .unset, .unset, .unset, .unset] [] X M 0 0) : cI l G y_GM_content (gRm (d + 1)) true [gR G o, gI x1, gI x2, gI x3] X M k := cen_I (plainFor_of_name rfl) (by simp only [lg_sl_R, lg_sl_I, lg_sl_L, lg_sl_N, List.length_cons, List.length_nil]; decide) (by unfold gEn; simp only [lg_sl_R, lg_sl_I, lg_sl_L, lg_sl_N]; exact wpt T (And.intro rfl (And.intro rfl (And.intro rfl (And.intro rfl True.intro)))))
theorem d_GM_reference_0 : decode prog_15_method_97_code 0 = .ok (.iload_n 1, 1) := by decide +kernel
theorem d_GM_reference_1 : decode prog_15_method_97_code 1 = .ok (.iload_n 2, 1) := by decide +kernel
theorem d_GM_reference_2 : decode prog_15_method_97_code 2 = .ok (.invokestatic 544, 3) := by decide +kernel
theorem d_GM_reference_5 : decode prog_15_method_97_code 5 = .ok (.ifCond .ne 9, 3) := by decide +kernel
theorem d_GM_reference_14 : decode prog_15_method_97_code 14 = .ok (.iload_n 1, 1) := by decide +kernel
theorem d_GM_reference_15 : decode prog_15_method_97_code 15 = .ok (.bipush 26, 2) := by decide +kernel
theorem d_GM_reference_17 : decode prog_15_method_97_code 17 = .ok (.iload_n 2, 1) := by decide +kernel
theorem d_GM_reference_18 : decode prog_15_method_97_code 18 = .ok (.imul, 1) := by decide +kernel
theorem d_GM_reference_19 : decode prog_15_method_97_code 19 = .ok (.iadd, 1) := by decide +kernel
theorem d_GM_reference_20 : decode prog_15_method_97_code 20 = .ok (.istore 4, 2) := by decide +kernel
theorem d_GM_reference_22 : decode prog_15_method_97_code 22 = .ok (.aload_n 0, 1) := by decide +kernel
theorem d_GM_reference_23 : decode prog_15_method_97_code 23 = .ok (.getfield 502, 3) := by decide +kernel
theorem d_GM_reference_26 : decode prog_15_method_97_code 26 = .ok (.invokestatic 505, 3) := by decide +kernel
theorem d_GM_reference_29 : decode prog_15_method_97_code 29 = .ok (.istore 5, 2) := by decide +kernel
theorem d_GM_reference_31 : decode prog_15_method_97_code 31 = .ok (.aload_n 0, 1) := by decide +kernel
theorem d_GM_reference_32 : decode prog_15_method_97_code 32 = .ok (.getfield 69, 3) := by decide +kernel
theorem d_GM_reference_35 : decode prog_15_method_97_code 35 = .ok (.iload 5, 2) := by decide +kernel
theorem d_GM_reference_37 : decode prog_15_method_97_code 37 = .ok (.sipush 5200, 3) := by decide +kernel
theorem d_GM_reference_40 : decode prog_15_method_97_code 40 = .ok (.imul, 1) := by decide +kernel
theorem d_GM_reference_41 : decode prog_15_method_97_code 41 = .ok (.iload 4, 2) := by decide +kernel
theorem d_GM_reference_43 : decode prog_15_method_97_code 43 = .ok (.iadd, 1) := by decide +kernel
theorem d_GM_reference_44 : decode prog_15_method_97_code 44 = .ok (.iaload, 1) := by decide +kernel
theorem d_GM_reference_45 : decode prog_15_method_97_code 45 = .ok (.iconst 3, 1) := by decide +kernel
theorem d_GM_reference_46 : decode prog_15_method_97_code 46 = .ok (.if_icmp .ne 30, 3) := by decide +kernel
theorem d_GM_reference_76 : decode prog_15_method_97_code 76 = .ok (.aload_n 0, 1) := by decide +kernel
theorem d_GM_reference_77 : decode prog_15_method_97_code 77 = .ok (.iconst 2, 1) := by decide +kernel
theorem d_GM_reference_78 : decode prog_15_method_97_code 78 = .ok (.invokevirtual 526, 3) := by decide +kernel
theorem d_GM_reference_81 : decode prog_15_method_97_code 81 = .ok (.ireturn, 1) := by decide +kernel
theorem d_GM_reference_49 : decode prog_15_method_97_code 49 = .ok (.iload_n 3, 1) := by decide +kernel
theorem d_GM_reference_50 : decode prog_15_method_97_code 50 = .ok (.ifCond .lt 26, 3) := by decide +kernel
theorem d_GM_reference_53 : decode prog_15_method_97_code 53 = .ok (.iload_n 3, 1) := by decide +kernel
theorem d_GM_reference_54 : decode prog_15_method_97_code 54 = .ok (.aload_n 0, 1) := by decide +kernel
theorem d_GM_reference_55 : decode prog_15_method_97_code 55 = .ok (.getfield 37, 3) := by decide +kernel
theorem d_GM_reference_58 : decode prog_15_method_97_code 58 = .ok (.aload_n 0, 1) := by decide +kernel
theorem d_GM_reference_59 : decode prog_15_method_97_code 59 = .ok (.getfield 72, 3) := by decide +kernel
theorem d_GM_reference_62 : decode prog_15_method_97_code 62 = .ok (.iload 5, 2) := by decide +kernel
theorem d_GM_reference_64 : decode prog_15_method_97_code 64 = .ok (.sipush 5200, 3) := by decide +kernel
theorem d_GM_reference_67 : decode prog_15_method_97_code 67 = .ok (.imul, 1) := by decide +kernel
theorem d_GM_reference_68 : decode prog_15_method_97_code 68 = .ok (.iload 4, 2) := by decide +kernel
theorem d_GM_reference_70 : decode prog_15_method_97_code 70 = .ok (.iadd, 1) := by decide +kernel
theorem d_GM_reference_71 : decode prog_15_method_97_code 71 = .ok (.iaload, 1) := by decide +kernel
theorem d_GM_reference_72 : decode prog_15_method_97_code 72 = .ok (.iaload, 1) := by decide +kernel
theorem d_GM_reference_73 : decode prog_15_method_97_code 73 = .ok (.if_icmp .lt 9, 3) := by decide +kernel
theorem d_GM_reference_82 : decode prog_15_method_97_code 82 = .ok (.aload_n 0, 1) := by decide +kernel
theorem d_GM_reference_83 : decode prog_15_method_97_code 83 = .ok (.iconst 0, 1) := by decide +kernel
theorem d_GM_reference_84 : decode prog_15_method_97_code 84 = .ok (.putfield 157, 3) := by decide +kernel
theorem d_GM_reference_87 : decode prog_15_method_97_code 87 = .ok (.aload_n 0, 1) := by decide +kernel
theorem d_GM_reference_88 : decode prog_15_method_97_code 88 = .ok (.iload 5, 2) := by decide +kernel
theorem d_GM_reference_90 : decode prog_15_method_97_code 90 = .ok (.iload 4, 2) := by decide +kernel
theorem d_GM_reference_92 : decode prog_15_method_97_code 92 = .ok (.iload_n 3, 1) := by decide +kernel
theorem d_GM_reference_93 : decode prog_15_method_97_code 93 = .ok (.invokevirtual 299, 3) := by decide +kernel
theorem d_GM_reference_96 : decode prog_15_method_97_code 96 = .ok (.ireturn, 1) := by decide +kernel
theorem d_GM_reference_8 : decode prog_15_method_97_code 8 = .ok (.aload_n 0, 1) := by decide +kernel
theorem d_GM_reference_9 : decode prog_15_method_97_code 9 = .ok (.iconst 1, 1) := by decide +kernel
theorem d_GM_reference_10 : decode prog_15_method_97_code 10 = .ok (.invokevirtual 526, 3) := by decide +kernel
theorem d_GM_reference_13 : decode prog_15_method_97_code 13 = .ok (.ireturn, 1) := by decide +kernel
set_option maxHeartbeats 4000000 in
theorem w_GM_reference_0 {l : Launch} {G : gG} {d : Nat} {X : gX} {M : gM} {k : Int → gM → Prop} {o : Nat} (hX : gmX X o) {x1 : Int} (hx1 : g32 x1) {x2 : Int} (hx2 : g32 x2) {x3 : Int} (hx3 : g32 x3) (T : cZ l G y_GM_inSheet (gRm d) false [gI x1, gI x2] X M (fun v2 M1 => ((¬ v2 = 0 → (g32 (M1 o 36) → (cI l G y_GM_slot (gRm d) false [gI (M1 o 36)] X M1 (fun v6 M5 => (((0 : Int) ≤ (v6 * 5200) + (x1 + (26 * x2)) ∧ (v6 * 5200) + (x1 + (26 * x2)) < 218400) ∧ (g32 (M5 (o + 19) (Int.toNat ((v6 * 5200) + (x1 + (26 * x2))))) → ((¬ M5 (o + 19) (Int.toNat ((v6 * 5200) + (x1 + (26 * x2)))) = 3 → (cI l G y_GM_no (gRm d) true [gR G o, gI 2] X M5 (fun v10 M9 => (k v10 M9)))) ∧ (M5 (o + 19) (Int.toNat ((v6 * 5200) + (x1 + (26 * x2)))) = 3 → ((x3 < 0 → (cI l G y_GM_no (gRm d) true [gR G o, gI 2] X M5 (fun v13 M12 => (k v13 M12)))) ∧ (¬ x3 < 0 → (((0 : Int) ≤ (v6 * 5200) + (x1 + (26 * x2)) ∧ (v6 * 5200) + (x1 + (26 * x2)) < 218400) ∧ (g32 (M5 (o + 20) (Int.toNat ((v6 * 5200) + (x1 + (26 * x2))))) → (((0 : Int) ≤ M5 (o + 20) (Int.toNat ((v6 * 5200) + (x1 + (26 * x2)))) ∧ M5 (o + 20) (Int.toNat ((v6 * 5200) + (x1 + (26 * x2)))) < 4200) ∧ (g32 (M5 (o + 9) (Int.toNat (M5 (o + 20) (Int.toNat ((v6 * 5200) + (x1 + (26 * x2))))))) → ((x3 < M5 (o + 9) (Int.toNat (M5 (o + 20) (Int.toNat ((v6 * 5200) + (x1 + (26 * x2)))))) → (cI l G y_GM_ref_2 (gRm d) false [gR G o, gI v6, gI (x1 + (26 * x2)), gI x3] X (gUp M5 o 0 0) (fun v18 M17 => (k v18 M17)))) ∧ (¬ x3 < M5 (o + 9) (Int.toNat (M5 (o + 20) (Int.toNat ((v6 * 5200) + (x1 + (26 * x2)))))) → (cI l G y_GM_no (gRm d) true [gR G o, gI 2] X M5 (fun v21 M20 => (k v21 M20))))))))))))))))))) ∧ (v2 = 0 → (cI l G y_GM_no (gRm d) true [gR G o, gI 1] X M1 (fun v27 M26 => (k v27 M26))))))) : wp l G y_GM_reference (gRm (d + 1)) true (kkI X k) false 0 [.val (gR G o), .val (gI x1), .val (gI x2), .val (gI x3), .unset, .unset] [] X M 0 0 := by
  refine wp_iload_n d_GM_reference_0 rfl rfl ?_
  refine wp_iload_n d_GM_reference_1 rfl rfl ?_
  refine xcS_Z (md' := false) (As := [gI x1, gI x2]) (st := []) d_GM_reference_2 ca_GM_inSheet ml_GM_544 sm_GM_inSheet rfl (by decide) (by decide) rfl id id T (fun v2 M1 h3 T => ?_)
  refine xz_ne (tgt := 14) d_GM_reference_5 (by decide) (w32_id (g32_z h3)) (fun h29 => ?_) (fun h29 => ?_)
  · have T := T.1 h29
    refine wp_iload_n d_GM_reference_14 rfl rfl ?_
    refine wp_bipush d_GM_reference_15 ⟨by decide, by decide⟩ ?_
    refine wp_iload_n d_GM_reference_17 rfl rfl ?_
    refine wp_imul d_GM_reference_18 ?_
    refine wp_iadd d_GM_reference_19 ?_
    refine wp_istore (L' := [.val (gR G o), .val (gI x1), .val (gI x2), .val (gI x3), .val (gI (x1 + (26 * x2))), .unset]) d_GM_reference_20 (by decide) rfl ?_
    refine wp_aload_n d_GM_reference_22 rfl rfl (g_nz hX.1) ?_
    refine xgetI d_GM_reference_23 gc_GM f_GM_502.1 f_GM_502.2.1 f_GM_502.2.2.1 hX.1 (gm_o2 hX) hX.2.2.1 f_GM_502.2.2.2.2.1 (fun h4 => ?_)
    have T := T h4
    refine xcS_I (md' := false) (As := [gI (M1 o 36)]) (st := []) d_GM_reference_26 ca_GM_slot ml_GM_505 sm_GM_slot rfl (by decide) (by decide) rfl id id T (fun v6 M5 h7 T => ?_)
    refine wp_istore (L' := [.val (gR G o), .val (gI x1), .val (gI x2), .val (gI x3), .val (gI (x1 + (26 * x2))), .val (gI v6)]) d_GM_reference_29 (by decide) rfl ?_
    refine wp_aload_n d_GM_reference_31 rfl rfl (g_nz hX.1) ?_
    refine xgetR d_GM_reference_32 gc_GM f_GM_69.1 f_GM_69.2.1 f_GM_69.2.2.1 hX.1 (gm_o2 hX) hX.2.2.1 f_GM_69.2.2.2.2.1 (gm_row hX 18 rfl).1 ?_
    refine wp_iload d_GM_reference_35 rfl ?_
    refine wp_sipush d_GM_reference_37 ⟨by decide, by decide⟩ ?_
    refine wp_imul d_GM_reference_40 ?_
    refine wp_iload d_GM_reference_41 rfl ?_
    refine wp_iadd d_GM_reference_43 ?_
    refine wp_iaload d_GM_reference_44 (gm_row hX 18 rfl).2.2.1 (gm_row hX 18 rfl).2.2.2 (gm_row hX 18 rfl).2.1 (g32_n T.1 (by decide)) T.1.1 T.1.2 (fun h8 => ?_)
    have T := T.2 h8
    refine wp_iconst d_GM_reference_45 ?_
    refine xi_ne (tgt := 76) d_GM_reference_46 (by decide) (w32_id h8) (w32_id (g32_c (x := 3) rfl)) (fun h25 => ?_) (fun h25 => ?_)
    · have T := T.1 h25
      refine wp_aload_n d_GM_reference_76 rfl rfl (g_nz hX.1) ?_
      refine wp_iconst d_GM_reference_77 ?_
      refine xcV_I (md' := true) (As := [gI 2]) (st := []) d_GM_reference_78 ca_GM_no ml_GM_526 im_GM_no se_GM_no gc_GM hX.1 (gm_o2 hX) hX.2.2.1 rfl (by decide) (by decide) rfl (fun _ => rfl) (fun _ => rfl) T (fun v10 M9 h11 T => ?_)
      exact wp_ireturn d_GM_reference_81 rfl (fun _ => rfl) (Nat.zero_le _) (Nat.zero_le _) (kI_mk h11 T)
    · have T := T.2 h25
      refine wp_iload_n d_GM_reference_49 rfl rfl ?_
      refine xz_lt (tgt := 76) d_GM_reference_50 (by decide) (w32_id hx3) (fun h24 => ?_) (fun h24 => ?_)
      · have T := T.1 h24
        refine wp_aload_n d_GM_reference_76 rfl rfl (g_nz hX.1) ?_
        refine wp_iconst d_GM_reference_77 ?_
        refine xcV_I (md' := true) (As := [gI 2]) (st := []) d_GM_reference_78 ca_GM_no ml_GM_526 im_GM_no se_GM_no gc_GM hX.1 (gm_o2 hX) hX.2.2.1 rfl (by decide) (by decide) rfl (fun _ => rfl) (fun _ => rfl) T (fun v13 M12 h14 T => ?_)
        exact wp_ireturn d_GM_reference_81 rfl (fun _ => rfl) (Nat.zero_le _) (Nat.zero_le _) (kI_mk h14 T)
      · have T := T.2 h24
        refine wp_iload_n d_GM_reference_53 rfl rfl ?_
        refine wp_aload_n d_GM_reference_54 rfl rfl (g_nz hX.1) ?_
        refine xgetR d_GM_reference_55 gc_GM f_GM_37.1 f_GM_37.2.1 f_GM_37.2.2.1 hX.1 (gm_o2 hX) hX.2.2.1 f_GM_37.2.2.2.2.1 (gm_row hX 8 rfl).1 ?_
        refine wp_aload_n d_GM_reference_58 rfl rfl (g_nz hX.1) ?_
        refine xgetR d_GM_reference_59 gc_GM f_GM_72.1 f_GM_72.2.1 f_GM_72.2.2.1 hX.1 (gm_o2 hX) hX.2.2.1 f_GM_72.2.2.2.2.1 (gm_row hX 19 rfl).1 ?_
        refine wp_iload d_GM_reference_62 rfl ?_
        refine wp_sipush d_GM_reference_64 ⟨by decide, by decide⟩ ?_
        refine wp_imul d_GM_reference_67 ?_
        refine wp_iload d_GM_reference_68 rfl ?_
        refine wp_iadd d_GM_reference_70 ?_
        refine wp_iaload d_GM_reference_71 (gm_row hX 19 rfl).2.2.1 (gm_row hX 19 rfl).2.2.2 (gm_row hX 19 rfl).2.1 (g32_n T.1 (by decide)) T.1.1 T.1.2 (fun h15 => ?_)
        have T := T.2 h15
        refine wp_iaload d_GM_reference_72 (gm_row hX 8 rfl).2.2.1 (gm_row hX 8 rfl).2.2.2 (gm_row hX 8 rfl).2.1 (g32_n T.1 (by decide)) T.1.1 T.1.2 (fun h16 => ?_)
        have T := T.2 h16
        refine xi_lt (tgt := 82) d_GM_reference_73 (by decide) (w32_id hx3) (w32_id h16) (fun h23 => ?_) (fun h23 => ?_)
        · have T := T.1 h23
          refine wp_aload_n d_GM_reference_82 rfl rfl (g_nz hX.1) ?_
          refine wp_iconst d_GM_reference_83 ?_
          refine xputI d_GM_reference_84 gc_GM f_GM_157.1 f_GM_157.2.1 f_GM_157.2.2.1 hX.1 (gm_o2 hX) hX.2.2.1 f_GM_157.2.2.2.1 f_GM_157.2.2.2.2.1 f_GM_157.2.2.2.2.2 (w32_id (g32_c (x := 0) rfl)) ?_
          refine wp_aload_n d_GM_reference_87 rfl rfl (g_nz hX.1) ?_
          refine wp_iload d_GM_reference_88 rfl ?_
          refine wp_iload d_GM_reference_90 rfl ?_
          refine wp_iload_n d_GM_reference_92 rfl rfl ?_
          refine xcV_I (md' := true) (As := [gI v6, gI (x1 + (26 * x2)), gI x3]) (st := []) d_GM_reference_93 ca_GM_ref_2 ml_GM_299 im_GM_ref_2 se_GM_ref_2 gc_GM hX.1 (gm_o2 hX) hX.2.2.1 rfl (by decide) (by decide) rfl (fun _ => rfl) (fun _ => rfl) T (fun v18 M17 h19 T => ?_)
          exact wp_ireturn d_GM_reference_96 rfl (fun _ => rfl) (Nat.zero_le _) (Nat.zero_le _) (kI_mk h19 T)
        · have T := T.2 h23
          refine wp_aload_n d_GM_reference_76 rfl rfl (g_nz hX.1) ?_
          refine wp_iconst d_GM_reference_77 ?_
          refine xcV_I (md' := true) (As := [gI 2]) (st := []) d_GM_reference_78 ca_GM_no ml_GM_526 im_GM_no se_GM_no gc_GM hX.1 (gm_o2 hX) hX.2.2.1 rfl (by decide) (by decide) rfl (fun _ => rfl) (fun _ => rfl) T (fun v21 M20 h22 T => ?_)
          exact wp_ireturn d_GM_reference_81 rfl (fun _ => rfl) (Nat.zero_le _) (Nat.zero_le _) (kI_mk h22 T)
  · have T := T.2 h29
    refine wp_aload_n d_GM_reference_8 rfl rfl (g_nz hX.1) ?_
    refine wp_iconst d_GM_reference_9 ?_
    refine xcV_I (md' := true) (As := [gI 1]) (st := []) d_GM_reference_10 ca_GM_no ml_GM_526 im_GM_no se_GM_no gc_GM hX.1 (gm_o2 hX) hX.2.2.1 rfl (by decide) (by decide) rfl (fun _ => rfl) (fun _ => rfl) T (fun v27 M26 h28 T => ?_)
    exact wp_ireturn d_GM_reference_13 rfl (fun _ => rfl) (Nat.zero_le _) (Nat.zero_le _) (kI_mk h28 T)
theorem e_GM_reference {l : Launch} {G : gG} {d : Nat} {X : gX} {M : gM} {k : Int → gM → Prop} {o : Nat} {x1 : Int} {x2 : Int} {x3 : Int} (T : wp l G y_GM_reference (gRm (d + 1)) true (kkI X k) false 0 [.val (gR G o), .val (gI x1), .val (gI x2), .val (gI x3), .unset, .unset] [] X M 0 0) : cI l G y_GM_reference (gRm (d + 1)) true [gR G o, gI x1, gI x2, gI x3] X M k := cen_I (plainFor_of_name rfl) (by simp only [lg_sl_R, lg_sl_I, lg_sl_L, lg_sl_N, List.length_cons, List.length_nil]; decide) (by unfold gEn; simp only [lg_sl_R, lg_sl_I, lg_sl_L, lg_sl_N]; exact wpt T (And.intro rfl (And.intro rfl (And.intro rfl (And.intro rfl True.intro)))))
theorem d_GM_changed_0 : decode prog_15_method_98_code 0 = .ok (.iload_n 1, 1) := by decide +kernel
theorem d_GM_changed_1 : decode prog_15_method_98_code 1 = .ok (.ifCond .lt 11, 3) := by decide +kernel
theorem d_GM_changed_12 : decode prog_15_method_98_code 12 = .ok (.aload_n 0, 1) := by decide +kernel
theorem d_GM_changed_13 : decode prog_15_method_98_code 13 = .ok (.iconst 1, 1) := by decide +kernel
theorem d_GM_changed_14 : decode prog_15_method_98_code 14 = .ok (.invokevirtual 526, 3) := by decide +kernel
theorem d_GM_changed_17 : decode prog_15_method_98_code 17 = .ok (.ireturn, 1) := by decide +kernel
theorem d_GM_changed_4 : decode prog_15_method_98_code 4 = .ok (.iload_n 1, 1) := by decide +kernel
theorem d_GM_changed_5 : decode prog_15_method_98_code 5 = .ok (.aload_n 0, 1) := by decide +kernel
theorem d_GM_changed_6 : decode prog_15_method_98_code 6 = .ok (.getfield 511, 3) := by decide +kernel
theorem d_GM_changed_9 : decode prog_15_method_98_code 9 = .ok (.if_icmp .lt 9, 3) := by decide +kernel
theorem d_GM_changed_18 : decode prog_15_method_98_code 18 = .ok (.aload_n 0, 1) := by decide +kernel
theorem d_GM_changed_19 : decode prog_15_method_98_code 19 = .ok (.iconst 0, 1) := by decide +kernel
theorem d_GM_changed_20 : decode prog_15_method_98_code 20 = .ok (.putfield 157, 3) := by decide +kernel
theorem d_GM_changed_23 : decode prog_15_method_98_code 23 = .ok (.aload_n 0, 1) := by decide +kernel
theorem d_GM_changed_24 : decode prog_15_method_98_code 24 = .ok (.getfield 151, 3) := by decide +kernel
theorem d_GM_changed_27 : decode prog_15_method_98_code 27 = .ok (.iload_n 1, 1) := by decide +kernel
theorem d_GM_changed_28 : decode prog_15_method_98_code 28 = .ok (.iaload, 1) := by decide +kernel
theorem d_GM_changed_29 : decode prog_15_method_98_code 29 = .ok (.ireturn, 1) := by decide +kernel
set_option maxHeartbeats 4000000 in
theorem w_GM_changed_0 {l : Launch} {G : gG} {d : Nat} {X : gX} {M : gM} {k : Int → gM → Prop} {o : Nat} (hX : gmX X o) {x1 : Int} (hx1 : g32 x1) (T : (x1 < 0 → (cI l G y_GM_no (gRm d) true [gR G o, gI 1] X M (fun v2 M1 => (k v2 M1)))) ∧ (¬ x1 < 0 → (g32 (M o 69) → ((x1 < M o 69 → (((0 : Int) ≤ x1 ∧ x1 < 5200) ∧ (g32 ((gUp M o 0 0) (o + 45) (Int.toNat x1)) → (k ((gUp M o 0 0) (o + 45) (Int.toNat x1)) (gUp M o 0 0))))) ∧ (¬ x1 < M o 69 → (cI l G y_GM_no (gRm d) true [gR G o, gI 1] X M (fun v7 M6 => (k v7 M6)))))))) : wp l G y_GM_changed (gRm (d + 1)) true (kkI X k) false 0 [.val (gR G o), .val (gI x1)] [] X M 0 0 := by
  refine wp_iload_n d_GM_changed_0 rfl rfl ?_
  refine xz_lt (tgt := 12) d_GM_changed_1 (by decide) (w32_id hx1) (fun h10 => ?_) (fun h10 => ?_)
  · have T := T.1 h10
    refine wp_aload_n d_GM_changed_12 rfl rfl (g_nz hX.1) ?_
    refine wp_iconst d_GM_changed_13 ?_
    refine xcV_I (md' := true) (As := [gI 1]) (st := []) d_GM_changed_14 ca_GM_no ml_GM_526 im_GM_no se_GM_no gc_GM hX.1 (gm_o2 hX) hX.2.2.1 rfl (by decide) (by decide) rfl (fun _ => rfl) (fun _ => rfl) T (fun v2 M1 h3 T => ?_)
    exact wp_ireturn d_GM_changed_17 rfl (fun _ => rfl) (Nat.zero_le _) (Nat.zero_le _) (kI_mk h3 T)
  · have T := T.2 h10
    refine wp_iload_n d_GM_changed_4 rfl rfl ?_
    refine wp_aload_n d_GM_changed_5 rfl rfl (g_nz hX.1) ?_
    refine xgetI d_GM_changed_6 gc_GM f_GM_511.1 f_GM_511.2.1 f_GM_511.2.2.1 hX.1 (gm_o2 hX) hX.2.2.1 f_GM_511.2.2.2.2.1 (fun h4 => ?_)
    have T := T h4
    refine xi_lt (tgt := 18) d_GM_changed_9 (by decide) (w32_id hx1) (w32_id h4) (fun h9 => ?_) (fun h9 => ?_)
    · have T := T.1 h9
      refine wp_aload_n d_GM_changed_18 rfl rfl (g_nz hX.1) ?_
      refine wp_iconst d_GM_changed_19 ?_
      refine xputI d_GM_changed_20 gc_GM f_GM_157.1 f_GM_157.2.1 f_GM_157.2.2.1 hX.1 (gm_o2 hX) hX.2.2.1 f_GM_157.2.2.2.1 f_GM_157.2.2.2.2.1 f_GM_157.2.2.2.2.2 (w32_id (g32_c (x := 0) rfl)) ?_
      refine wp_aload_n d_GM_changed_23 rfl rfl (g_nz hX.1) ?_
      refine xgetR d_GM_changed_24 gc_GM f_GM_151.1 f_GM_151.2.1 f_GM_151.2.2.1 hX.1 (gm_o2 hX) hX.2.2.1 f_GM_151.2.2.2.2.1 (gm_row hX 44 rfl).1 ?_
      refine wp_iload_n d_GM_changed_27 rfl rfl ?_
      refine wp_iaload d_GM_changed_28 (gm_row hX 44 rfl).2.2.1 (gm_row hX 44 rfl).2.2.2 (gm_row hX 44 rfl).2.1 (g32_n T.1 (by decide)) T.1.1 T.1.2 (fun h5 => ?_)
      have T := T.2 h5
      exact wp_ireturn d_GM_changed_29 rfl (fun _ => rfl) (Nat.zero_le _) (Nat.zero_le _) (kI_mk h5 T)
    · have T := T.2 h9
      refine wp_aload_n d_GM_changed_12 rfl rfl (g_nz hX.1) ?_
      refine wp_iconst d_GM_changed_13 ?_
      refine xcV_I (md' := true) (As := [gI 1]) (st := []) d_GM_changed_14 ca_GM_no ml_GM_526 im_GM_no se_GM_no gc_GM hX.1 (gm_o2 hX) hX.2.2.1 rfl (by decide) (by decide) rfl (fun _ => rfl) (fun _ => rfl) T (fun v7 M6 h8 T => ?_)
      exact wp_ireturn d_GM_changed_17 rfl (fun _ => rfl) (Nat.zero_le _) (Nat.zero_le _) (kI_mk h8 T)
theorem e_GM_changed {l : Launch} {G : gG} {d : Nat} {X : gX} {M : gM} {k : Int → gM → Prop} {o : Nat} {x1 : Int} (T : wp l G y_GM_changed (gRm (d + 1)) true (kkI X k) false 0 [.val (gR G o), .val (gI x1)] [] X M 0 0) : cI l G y_GM_changed (gRm (d + 1)) true [gR G o, gI x1] X M k := cen_I (plainFor_of_name rfl) (by simp only [lg_sl_R, lg_sl_I, lg_sl_L, lg_sl_N, List.length_cons, List.length_nil]; decide) (by unfold gEn; simp only [lg_sl_R, lg_sl_I, lg_sl_L, lg_sl_N]; exact wpt T (And.intro rfl (And.intro rfl True.intro)))
theorem d_GM_count_0 : decode prog_15_method_99_code 0 = .ok (.aload_n 0, 1) := by decide +kernel
theorem d_GM_count_1 : decode prog_15_method_99_code 1 = .ok (.iconst 0, 1) := by decide +kernel
theorem d_GM_count_2 : decode prog_15_method_99_code 2 = .ok (.putfield 157, 3) := by decide +kernel
theorem d_GM_count_5 : decode prog_15_method_99_code 5 = .ok (.iload_n 1, 1) := by decide +kernel
theorem d_GM_count_6 : decode prog_15_method_99_code 6 = .ok (.tableswitch 103 0 7 #[46, 51, 56, 66, 76, 88, 93, 98], 46) := by decide +kernel
theorem d_GM_count_52 : decode prog_15_method_99_code 52 = .ok (.aload_n 0, 1) := by decide +kernel
theorem d_GM_count_53 : decode prog_15_method_99_code 53 = .ok (.getfield 541, 3) := by decide +kernel
theorem d_GM_count_56 : decode prog_15_method_99_code 56 = .ok (.ireturn, 1) := by decide +kernel
theorem d_GM_count_57 : decode prog_15_method_99_code 57 = .ok (.aload_n 0, 1) := by decide +kernel
theorem d_GM_count_58 : decode prog_15_method_99_code 58 = .ok (.getfield 511, 3) := by decide +kernel
theorem d_GM_count_61 : decode prog_15_method_99_code 61 = .ok (.ireturn, 1) := by decide +kernel
theorem d_GM_count_62 : decode prog_15_method_99_code 62 = .ok (.aload_n 0, 1) := by decide +kernel
theorem d_GM_count_63 : decode prog_15_method_99_code 63 = .ok (.getfield 502, 3) := by decide +kernel
theorem d_GM_count_66 : decode prog_15_method_99_code 66 = .ok (.aload_n 0, 1) := by decide +kernel
theorem d_GM_count_67 : decode prog_15_method_99_code 67 = .ok (.getfield 532, 3) := by decide +kernel
theorem d_GM_count_70 : decode prog_15_method_99_code 70 = .ok (.isub, 1) := by decide +kernel
theorem d_GM_count_71 : decode prog_15_method_99_code 71 = .ok (.ireturn, 1) := by decide +kernel
theorem d_GM_count_72 : decode prog_15_method_99_code 72 = .ok (.aload_n 0, 1) := by decide +kernel
theorem d_GM_count_73 : decode prog_15_method_99_code 73 = .ok (.getfield 529, 3) := by decide +kernel
theorem d_GM_count_76 : decode prog_15_method_99_code 76 = .ok (.aload_n 0, 1) := by decide +kernel
theorem d_GM_count_77 : decode prog_15_method_99_code 77 = .ok (.getfield 502, 3) := by decide +kernel
theorem d_GM_count_80 : decode prog_15_method_99_code 80 = .ok (.isub, 1) := by decide +kernel
theorem d_GM_count_81 : decode prog_15_method_99_code 81 = .ok (.ireturn, 1) := by decide +kernel
theorem d_GM_count_82 : decode prog_15_method_99_code 82 = .ok (.aload_n 0, 1) := by decide +kernel
theorem d_GM_count_83 : decode prog_15_method_99_code 83 = .ok (.aload_n 0, 1) := by decide +kernel
theorem d_GM_count_84 : decode prog_15_method_99_code 84 = .ok (.getfield 502, 3) := by decide +kernel
theorem d_GM_count_87 : decode prog_15_method_99_code 87 = .ok (.invokestatic 505, 3) := by decide +kernel
theorem d_GM_count_90 : decode prog_15_method_99_code 90 = .ok (.invokevirtual 520, 3) := by decide +kernel
theorem d_GM_count_93 : decode prog_15_method_99_code 93 = .ok (.ireturn, 1) := by decide +kernel
theorem d_GM_count_94 : decode prog_15_method_99_code 94 = .ok (.aload_n 0, 1) := by decide +kernel
theorem d_GM_count_95 : decode prog_15_method_99_code 95 = .ok (.getfield 476, 3) := by decide +kernel
theorem d_GM_count_98 : decode prog_15_method_99_code 98 = .ok (.ireturn, 1) := by decide +kernel
theorem d_GM_count_99 : decode prog_15_method_99_code 99 = .ok (.aload_n 0, 1) := by decide +kernel
theorem d_GM_count_100 : decode prog_15_method_99_code 100 = .ok (.getfield 485, 3) := by decide +kernel
theorem d_GM_count_103 : decode prog_15_method_99_code 103 = .ok (.ireturn, 1) := by decide +kernel
theorem d_GM_count_104 : decode prog_15_method_99_code 104 = .ok (.aload_n 0, 1) := by decide +kernel
theorem d_GM_count_105 : decode prog_15_method_99_code 105 = .ok (.getfield 517, 3) := by decide +kernel
theorem d_GM_count_108 : decode prog_15_method_99_code 108 = .ok (.ireturn, 1) := by decide +kernel
theorem d_GM_count_109 : decode prog_15_method_99_code 109 = .ok (.iconst (-1), 1) := by decide +kernel
theorem d_GM_count_110 : decode prog_15_method_99_code 110 = .ok (.ireturn, 1) := by decide +kernel
set_option maxHeartbeats 4000000 in
theorem w_GM_count_0 {l : Launch} {G : gG} {d : Nat} {X : gX} {M : gM} {k : Int → gM → Prop} {o : Nat} (hX : gmX X o) {x1 : Int} (hx1 : g32 x1) (T : (x1 = 0 → (g32 ((gUp M o 0 0) o 72) → (k ((gUp M o 0 0) o 72) (gUp M o 0 0)))) ∧ (x1 = 1 → (g32 ((gUp M o 0 0) o 69) → (k ((gUp M o 0 0) o 69) (gUp M o 0 0)))) ∧ (x1 = 2 → (g32 ((gUp M o 0 0) o 36) → (g32 ((gUp M o 0 0) o 35) → (k (w32 (((gUp M o 0 0) o 36) - ((gUp M o 0 0) o 35))) (gUp M o 0 0))))) ∧ (x1 = 3 → (g32 ((gUp M o 0 0) o 37) → (g32 ((gUp M o 0 0) o 36) → (k (w32 (((gUp M o 0 0) o 37) - ((gUp M o 0 0) o 36))) (gUp M o 0 0))))) ∧ (x1 = 4 → (g32 ((gUp M o 0 0) o 36) → (cI l G y_GM_slot (gRm d) false [gI ((gUp M o 0 0) o 36)] X (gUp M o 0 0) (fun v9 M8 => (cI l G y_GM_contents (gRm d) false [gR G o, gI v9] X M8 (fun v12 M11 => (k v12 M11))))))) ∧ (x1 = 5 → (g32 ((gUp M o 0 0) o 66) → (k ((gUp M o 0 0) o 66) (gUp M o 0 0)))) ∧ (x1 = 6 → (g32 ((gUp M o 0 0) o 65) → (k ((gUp M o 0 0) o 65) (gUp M o 0 0)))) ∧ (x1 = 7 → (g32 ((gUp M o 0 0) o 70) → (k ((gUp M o 0 0) o 70) (gUp M o 0 0)))) ∧ ((¬ x1 = 0 ∧ ¬ x1 = 1 ∧ ¬ x1 = 2 ∧ ¬ x1 = 3 ∧ ¬ x1 = 4 ∧ ¬ x1 = 5 ∧ ¬ x1 = 6 ∧ ¬ x1 = 7) → (k (-1) (gUp M o 0 0)))) : wp l G y_GM_count (gRm (d + 1)) true (kkI X k) false 0 [.val (gR G o), .val (gI x1)] [] X M 0 0 := by
  refine wp_aload_n d_GM_count_0 rfl rfl (g_nz hX.1) ?_
  refine wp_iconst d_GM_count_1 ?_
  refine xputI d_GM_count_2 gc_GM f_GM_157.1 f_GM_157.2.1 f_GM_157.2.2.1 hX.1 (gm_o2 hX) hX.2.2.1 f_GM_157.2.2.2.1 f_GM_157.2.2.2.2.1 f_GM_157.2.2.2.2.2 (w32_id (g32_c (x := 0) rfl)) ?_
  refine wp_iload_n d_GM_count_5 rfl rfl ?_
  obtain ⟨T0, T1, T2, T3, T4, T5, T6, T7, T8⟩ := T
  by_cases hc0 : x1 = 0
  · refine xtabIn (tgt := 52) d_GM_count_6 (w32_id hx1) 0 hc0 rfl rfl (by decide) ?_
    have T := T0 hc0
    refine wp_aload_n d_GM_count_52 rfl rfl (g_nz hX.1) ?_
    refine xgetI d_GM_count_53 gc_GM f_GM_541.1 f_GM_541.2.1 f_GM_541.2.2.1 hX.1 (gm_o2 hX) hX.2.2.1 f_GM_541.2.2.2.2.1 (fun h1 => ?_)
    have T := T h1
    exact wp_ireturn d_GM_count_56 rfl (fun _ => rfl) (Nat.zero_le _) (Nat.zero_le _) (kI_mk h1 T)
  by_cases hc1 : x1 = 1
  · refine xtabIn (tgt := 57) d_GM_count_6 (w32_id hx1) 1 hc1 rfl rfl (by decide) ?_
    have T := T1 hc1
    refine wp_aload_n d_GM_count_57 rfl rfl (g_nz hX.1) ?_
    refine xgetI d_GM_count_58 gc_GM f_GM_511.1 f_GM_511.2.1 f_GM_511.2.2.1 hX.1 (gm_o2 hX) hX.2.2.1 f_GM_511.2.2.2.2.1 (fun h2 => ?_)
    have T := T h2
    exact wp_ireturn d_GM_count_61 rfl (fun _ => rfl) (Nat.zero_le _) (Nat.zero_le _) (kI_mk h2 T)
  by_cases hc2 : x1 = 2
  · refine xtabIn (tgt := 62) d_GM_count_6 (w32_id hx1) 2 hc2 rfl rfl (by decide) ?_
    have T := T2 hc2
    refine wp_aload_n d_GM_count_62 rfl rfl (g_nz hX.1) ?_
    refine xgetI d_GM_count_63 gc_GM f_GM_502.1 f_GM_502.2.1 f_GM_502.2.2.1 hX.1 (gm_o2 hX) hX.2.2.1 f_GM_502.2.2.2.2.1 (fun h3 => ?_)
    have T := T h3
    refine wp_aload_n d_GM_count_66 rfl rfl (g_nz hX.1) ?_
    refine xgetI d_GM_count_67 gc_GM f_GM_532.1 f_GM_532.2.1 f_GM_532.2.2.1 hX.1 (gm_o2 hX) hX.2.2.1 f_GM_532.2.2.2.2.1 (fun h4 => ?_)
    have T := T h4
    refine wp_isub d_GM_count_70 ?_
    exact wp_st (st' := [gI (w32 (((gUp M o 0 0) o 36) - ((gUp M o 0 0) o 35)))]) (by rw [gI_w]) (wp_ireturn d_GM_count_71 rfl (fun _ => rfl) (Nat.zero_le _) (Nat.zero_le _) (kI_mk (w32_ok _) T))
  by_cases hc3 : x1 = 3
  · refine xtabIn (tgt := 72) d_GM_count_6 (w32_id hx1) 3 hc3 rfl rfl (by decide) ?_
    have T := T3 hc3
    refine wp_aload_n d_GM_count_72 rfl rfl (g_nz hX.1) ?_
    refine xgetI d_GM_count_73 gc_GM f_GM_529.1 f_GM_529.2.1 f_GM_529.2.2.1 hX.1 (gm_o2 hX) hX.2.2.1 f_GM_529.2.2.2.2.1 (fun h5 => ?_)
    have T := T h5
    refine wp_aload_n d_GM_count_76 rfl rfl (g_nz hX.1) ?_
    refine xgetI d_GM_count_77 gc_GM f_GM_502.1 f_GM_502.2.1 f_GM_502.2.2.1 hX.1 (gm_o2 hX) hX.2.2.1 f_GM_502.2.2.2.2.1 (fun h6 => ?_)
    have T := T h6
    refine wp_isub d_GM_count_80 ?_
    exact wp_st (st' := [gI (w32 (((gUp M o 0 0) o 37) - ((gUp M o 0 0) o 36)))]) (by rw [gI_w]) (wp_ireturn d_GM_count_81 rfl (fun _ => rfl) (Nat.zero_le _) (Nat.zero_le _) (kI_mk (w32_ok _) T))
  by_cases hc4 : x1 = 4
  · refine xtabIn (tgt := 82) d_GM_count_6 (w32_id hx1) 4 hc4 rfl rfl (by decide) ?_
    have T := T4 hc4
    refine wp_aload_n d_GM_count_82 rfl rfl (g_nz hX.1) ?_
    refine wp_aload_n d_GM_count_83 rfl rfl (g_nz hX.1) ?_
    refine xgetI d_GM_count_84 gc_GM f_GM_502.1 f_GM_502.2.1 f_GM_502.2.2.1 hX.1 (gm_o2 hX) hX.2.2.1 f_GM_502.2.2.2.2.1 (fun h7 => ?_)
    have T := T h7
    refine xcS_I (md' := true) (As := [gI ((gUp M o 0 0) o 36)]) (st := [gR G o]) d_GM_count_87 ca_GM_slot ml_GM_505 sm_GM_slot rfl (by decide) (by simp only [List.map, gR_cat, gI_cat, gL_cat, List.sum_cons, List.sum_nil]; decide) rfl (fun _ => rfl) (fun _ => rfl) T (fun v9 M8 h10 T => ?_)
    refine xcV_I (md' := true) (As := [gI v9]) (st := []) d_GM_count_90 ca_GM_contents ml_GM_520 im_GM_contents se_GM_contents gc_GM hX.1 (gm_o2 hX) hX.2.2.1 rfl (by decide) (by decide) rfl (fun _ => rfl) (fun _ => rfl) T (fun v12 M11 h13 T => ?_)
    exact wp_ireturn d_GM_count_93 rfl (fun _ => rfl) (Nat.zero_le _) (Nat.zero_le _) (kI_mk h13 T)
  by_cases hc5 : x1 = 5
  · refine xtabIn (tgt := 94) d_GM_count_6 (w32_id hx1) 5 hc5 rfl rfl (by decide) ?_
    have T := T5 hc5
    refine wp_aload_n d_GM_count_94 rfl rfl (g_nz hX.1) ?_
    refine xgetI d_GM_count_95 gc_GM f_GM_476.1 f_GM_476.2.1 f_GM_476.2.2.1 hX.1 (gm_o2 hX) hX.2.2.1 f_GM_476.2.2.2.2.1 (fun h14 => ?_)
    have T := T h14
    exact wp_ireturn d_GM_count_98 rfl (fun _ => rfl) (Nat.zero_le _) (Nat.zero_le _) (kI_mk h14 T)
  by_cases hc6 : x1 = 6
  · refine xtabIn (tgt := 99) d_GM_count_6 (w32_id hx1) 6 hc6 rfl rfl (by decide) ?_
    have T := T6 hc6
    refine wp_aload_n d_GM_count_99 rfl rfl (g_nz hX.1) ?_
    refine xgetI d_GM_count_100 gc_GM f_GM_485.1 f_GM_485.2.1 f_GM_485.2.2.1 hX.1 (gm_o2 hX) hX.2.2.1 f_GM_485.2.2.2.2.1 (fun h15 => ?_)
    have T := T h15
    exact wp_ireturn d_GM_count_103 rfl (fun _ => rfl) (Nat.zero_le _) (Nat.zero_le _) (kI_mk h15 T)
  by_cases hc7 : x1 = 7
  · refine xtabIn (tgt := 104) d_GM_count_6 (w32_id hx1) 7 hc7 rfl rfl (by decide) ?_
    have T := T7 hc7
    refine wp_aload_n d_GM_count_104 rfl rfl (g_nz hX.1) ?_
    refine xgetI d_GM_count_105 gc_GM f_GM_517.1 f_GM_517.2.1 f_GM_517.2.2.1 hX.1 (gm_o2 hX) hX.2.2.1 f_GM_517.2.2.2.2.1 (fun h16 => ?_)
    have T := T h16
    exact wp_ireturn d_GM_count_108 rfl (fun _ => rfl) (Nat.zero_le _) (Nat.zero_le _) (kI_mk h16 T)
  refine xtabOut (tgt := 109) d_GM_count_6 (w32_id hx1) (by omega) (by decide) ?_
  have T := T8 ⟨hc0, hc1, hc2, hc3, hc4, hc5, hc6, hc7⟩
  refine wp_iconst d_GM_count_109 ?_
  exact wp_ireturn d_GM_count_110 rfl (fun _ => rfl) (Nat.zero_le _) (Nat.zero_le _) (kI_mk (g32_c (x := (-1)) rfl) T)
theorem e_GM_count {l : Launch} {G : gG} {d : Nat} {X : gX} {M : gM} {k : Int → gM → Prop} {o : Nat} {x1 : Int} (T : wp l G y_GM_count (gRm (d + 1)) true (kkI X k) false 0 [.val (gR G o), .val (gI x1)] [] X M 0 0) : cI l G y_GM_count (gRm (d + 1)) true [gR G o, gI x1] X M k := cen_I (plainFor_of_name rfl) (by simp only [lg_sl_R, lg_sl_I, lg_sl_L, lg_sl_N, List.length_cons, List.length_nil]; decide) (by unfold gEn; simp only [lg_sl_R, lg_sl_I, lg_sl_L, lg_sl_N]; exact wpt T (And.intro rfl (And.intro rfl True.intro)))
