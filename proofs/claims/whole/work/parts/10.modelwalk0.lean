/-! Walks of the reference's methods, written by wip/whole/gen_model.py -/
theorem d_GM_thrown_0 : decode prog_15_method_2_code 0 = .ok (.aload_n 0, 1) := by decide +kernel
theorem d_GM_thrown_1 : decode prog_15_method_2_code 1 = .ok (.getfield 157, 3) := by decide +kernel
theorem d_GM_thrown_4 : decode prog_15_method_2_code 4 = .ok (.ireturn, 1) := by decide +kernel
set_option maxHeartbeats 4000000 in
theorem w_GM_thrown_0 {l : Launch} {G : gG} {d : Nat} {X : gX} {M : gM} {k : Int → gM → Prop} {o : Nat} (hX : gmX X o)  (T : g32 (M o 0) → (k (M o 0) M)) : wp l G y_GM_thrown (gRm d) (kkI X k) 0 [.val (gR G o)] [] X M 0 0 := by
  refine wp_aload_n d_GM_thrown_0 rfl rfl (g_nz hX.1) ?_
  refine xgetI d_GM_thrown_1 gc_GM f_GM_157.1 f_GM_157.2.1 f_GM_157.2.2.1 hX.1 (gm_o2 hX) hX.2.2.1 f_GM_157.2.2.2.2.1 (fun h1 => ?_)
  have T := T h1
  exact wp_ireturn d_GM_thrown_4 rfl (Nat.zero_le _) (Nat.zero_le _) (kI_mk h1 T)
theorem e_GM_thrown {l : Launch} {G : gG} {d : Nat} {X : gX} {M : gM} {k : Int → gM → Prop} {o : Nat} (T : wp l G y_GM_thrown (gRm d) (kkI X k) 0 [.val (gR G o)] [] X M 0 0) : cI l G y_GM_thrown (gRm d) [gR G o] X M k := cen_I rfl (by simp only [lg_sl_R, lg_sl_I, lg_sl_L, lg_sl_N, List.length_cons, List.length_nil]; decide) (by unfold gEn; simp only [lg_sl_R, lg_sl_I, lg_sl_L, lg_sl_N]; exact wpt T (And.intro rfl True.intro))
theorem d_GM_no_0 : decode prog_15_method_3_code 0 = .ok (.aload_n 0, 1) := by decide +kernel
theorem d_GM_no_1 : decode prog_15_method_3_code 1 = .ok (.iload_n 1, 1) := by decide +kernel
theorem d_GM_no_2 : decode prog_15_method_3_code 2 = .ok (.putfield 157, 3) := by decide +kernel
theorem d_GM_no_5 : decode prog_15_method_3_code 5 = .ok (.iconst 0, 1) := by decide +kernel
theorem d_GM_no_6 : decode prog_15_method_3_code 6 = .ok (.ireturn, 1) := by decide +kernel
set_option maxHeartbeats 4000000 in
theorem w_GM_no_0 {l : Launch} {G : gG} {d : Nat} {X : gX} {M : gM} {k : Int → gM → Prop} {o : Nat} (hX : gmX X o) {x1 : Int} (hx1 : g32 x1) (T : k 0 (gUp M o 0 x1)) : wp l G y_GM_no (gRm d) (kkI X k) 0 [.val (gR G o), .val (gI x1)] [] X M 0 0 := by
  refine wp_aload_n d_GM_no_0 rfl rfl (g_nz hX.1) ?_
  refine wp_iload_n d_GM_no_1 rfl rfl ?_
  refine xputI d_GM_no_2 gc_GM f_GM_157.1 f_GM_157.2.1 f_GM_157.2.2.1 hX.1 (gm_o2 hX) hX.2.2.1 f_GM_157.2.2.2.1 f_GM_157.2.2.2.2.1 f_GM_157.2.2.2.2.2 (w32_id hx1) ?_
  refine wp_iconst d_GM_no_5 ?_
  exact wp_ireturn d_GM_no_6 rfl (Nat.zero_le _) (Nat.zero_le _) (kI_mk (g32_c (x := 0) rfl) T)
theorem e_GM_no {l : Launch} {G : gG} {d : Nat} {X : gX} {M : gM} {k : Int → gM → Prop} {o : Nat} {x1 : Int} (T : wp l G y_GM_no (gRm d) (kkI X k) 0 [.val (gR G o), .val (gI x1)] [] X M 0 0) : cI l G y_GM_no (gRm d) [gR G o, gI x1] X M k := cen_I rfl (by simp only [lg_sl_R, lg_sl_I, lg_sl_L, lg_sl_N, List.length_cons, List.length_nil]; decide) (by unfold gEn; simp only [lg_sl_R, lg_sl_I, lg_sl_L, lg_sl_N]; exact wpt T (And.intro rfl (And.intro rfl True.intro)))
theorem d_GM_digit_0 : decode prog_15_method_4_code 0 = .ok (.iload_n 0, 1) := by decide +kernel
theorem d_GM_digit_1 : decode prog_15_method_4_code 1 = .ok (.bipush 48, 2) := by decide +kernel
theorem d_GM_digit_3 : decode prog_15_method_4_code 3 = .ok (.if_icmp .lt 13, 3) := by decide +kernel
theorem d_GM_digit_16 : decode prog_15_method_4_code 16 = .ok (.iconst 0, 1) := by decide +kernel
theorem d_GM_digit_17 : decode prog_15_method_4_code 17 = .ok (.ireturn, 1) := by decide +kernel
theorem d_GM_digit_6 : decode prog_15_method_4_code 6 = .ok (.iload_n 0, 1) := by decide +kernel
theorem d_GM_digit_7 : decode prog_15_method_4_code 7 = .ok (.bipush 57, 2) := by decide +kernel
theorem d_GM_digit_9 : decode prog_15_method_4_code 9 = .ok (.if_icmp .gt 7, 3) := by decide +kernel
theorem d_GM_digit_12 : decode prog_15_method_4_code 12 = .ok (.iconst 1, 1) := by decide +kernel
theorem d_GM_digit_13 : decode prog_15_method_4_code 13 = .ok (.goto 4, 3) := by decide +kernel
set_option maxHeartbeats 4000000 in
theorem w_GM_digit_0 {l : Launch} {G : gG} {d : Nat} {X : gX} {M : gM} {k : Int → gM → Prop}  {x0 : Int} (hx0 : g32 x0) (T : (x0 < 48 → (k 0 M)) ∧ (¬ x0 < 48 → ((57 < x0 → (k 0 M)) ∧ (¬ 57 < x0 → (k 1 M))))) : wp l G y_GM_digit (gRm d) (kkZ X k) 0 [.val (gI x0)] [] X M 0 0 := by
  refine wp_iload_n d_GM_digit_0 rfl rfl ?_
  refine wp_bipush d_GM_digit_1 ⟨by decide, by decide⟩ ?_
  refine xi_lt (tgt := 16) d_GM_digit_3 (by decide) (w32_id hx0) (w32_id (g32_c (x := 48) rfl)) (fun h2 => ?_) (fun h2 => ?_)
  · have T := T.1 h2
    refine wp_iconst d_GM_digit_16 ?_
    exact wp_zreturn d_GM_digit_17 rfl (g_narz (⟨by decide, by decide⟩ : (0 : Int) ≤ 0 ∧ (0 : Int) ≤ 1)) (Nat.zero_le _) (Nat.zero_le _) (kZ_mk (⟨by decide, by decide⟩ : (0 : Int) ≤ 0 ∧ (0 : Int) ≤ 1) T)
  · have T := T.2 h2
    refine wp_iload_n d_GM_digit_6 rfl rfl ?_
    refine wp_bipush d_GM_digit_7 ⟨by decide, by decide⟩ ?_
    refine xi_gt (tgt := 16) d_GM_digit_9 (by decide) (w32_id hx0) (w32_id (g32_c (x := 57) rfl)) (fun h1 => ?_) (fun h1 => ?_)
    · have T := T.1 h1
      refine wp_iconst d_GM_digit_16 ?_
      exact wp_zreturn d_GM_digit_17 rfl (g_narz (⟨by decide, by decide⟩ : (0 : Int) ≤ 0 ∧ (0 : Int) ≤ 1)) (Nat.zero_le _) (Nat.zero_le _) (kZ_mk (⟨by decide, by decide⟩ : (0 : Int) ≤ 0 ∧ (0 : Int) ≤ 1) T)
    · have T := T.2 h1
      refine wp_iconst d_GM_digit_12 ?_
      refine wp_goto (tgt := 17) d_GM_digit_13 (by decide) ?_
      exact wp_zreturn d_GM_digit_17 rfl (g_narz (⟨by decide, by decide⟩ : (0 : Int) ≤ 1 ∧ (1 : Int) ≤ 1)) (Nat.zero_le _) (Nat.zero_le _) (kZ_mk (⟨by decide, by decide⟩ : (0 : Int) ≤ 1 ∧ (1 : Int) ≤ 1) T)
theorem e_GM_digit {l : Launch} {G : gG} {d : Nat} {X : gX} {M : gM} {k : Int → gM → Prop}  {x0 : Int} (T : wp l G y_GM_digit (gRm d) (kkZ X k) 0 [.val (gI x0)] [] X M 0 0) : cZ l G y_GM_digit (gRm d) [gI x0] X M k := cen_Z rfl (by simp only [lg_sl_R, lg_sl_I, lg_sl_L, lg_sl_N, List.length_cons, List.length_nil]; decide) (by unfold gEn; simp only [lg_sl_R, lg_sl_I, lg_sl_L, lg_sl_N]; exact wpt T (And.intro rfl True.intro))
theorem d_GM_capital_0 : decode prog_15_method_5_code 0 = .ok (.iload_n 0, 1) := by decide +kernel
theorem d_GM_capital_1 : decode prog_15_method_5_code 1 = .ok (.bipush 65, 2) := by decide +kernel
theorem d_GM_capital_3 : decode prog_15_method_5_code 3 = .ok (.if_icmp .lt 13, 3) := by decide +kernel
theorem d_GM_capital_16 : decode prog_15_method_5_code 16 = .ok (.iconst 0, 1) := by decide +kernel
theorem d_GM_capital_17 : decode prog_15_method_5_code 17 = .ok (.ireturn, 1) := by decide +kernel
theorem d_GM_capital_6 : decode prog_15_method_5_code 6 = .ok (.iload_n 0, 1) := by decide +kernel
theorem d_GM_capital_7 : decode prog_15_method_5_code 7 = .ok (.bipush 90, 2) := by decide +kernel
theorem d_GM_capital_9 : decode prog_15_method_5_code 9 = .ok (.if_icmp .gt 7, 3) := by decide +kernel
theorem d_GM_capital_12 : decode prog_15_method_5_code 12 = .ok (.iconst 1, 1) := by decide +kernel
theorem d_GM_capital_13 : decode prog_15_method_5_code 13 = .ok (.goto 4, 3) := by decide +kernel
set_option maxHeartbeats 4000000 in
theorem w_GM_capital_0 {l : Launch} {G : gG} {d : Nat} {X : gX} {M : gM} {k : Int → gM → Prop}  {x0 : Int} (hx0 : g32 x0) (T : (x0 < 65 → (k 0 M)) ∧ (¬ x0 < 65 → ((90 < x0 → (k 0 M)) ∧ (¬ 90 < x0 → (k 1 M))))) : wp l G y_GM_capital (gRm d) (kkZ X k) 0 [.val (gI x0)] [] X M 0 0 := by
  refine wp_iload_n d_GM_capital_0 rfl rfl ?_
  refine wp_bipush d_GM_capital_1 ⟨by decide, by decide⟩ ?_
  refine xi_lt (tgt := 16) d_GM_capital_3 (by decide) (w32_id hx0) (w32_id (g32_c (x := 65) rfl)) (fun h2 => ?_) (fun h2 => ?_)
  · have T := T.1 h2
    refine wp_iconst d_GM_capital_16 ?_
    exact wp_zreturn d_GM_capital_17 rfl (g_narz (⟨by decide, by decide⟩ : (0 : Int) ≤ 0 ∧ (0 : Int) ≤ 1)) (Nat.zero_le _) (Nat.zero_le _) (kZ_mk (⟨by decide, by decide⟩ : (0 : Int) ≤ 0 ∧ (0 : Int) ≤ 1) T)
  · have T := T.2 h2
    refine wp_iload_n d_GM_capital_6 rfl rfl ?_
    refine wp_bipush d_GM_capital_7 ⟨by decide, by decide⟩ ?_
    refine xi_gt (tgt := 16) d_GM_capital_9 (by decide) (w32_id hx0) (w32_id (g32_c (x := 90) rfl)) (fun h1 => ?_) (fun h1 => ?_)
    · have T := T.1 h1
      refine wp_iconst d_GM_capital_16 ?_
      exact wp_zreturn d_GM_capital_17 rfl (g_narz (⟨by decide, by decide⟩ : (0 : Int) ≤ 0 ∧ (0 : Int) ≤ 1)) (Nat.zero_le _) (Nat.zero_le _) (kZ_mk (⟨by decide, by decide⟩ : (0 : Int) ≤ 0 ∧ (0 : Int) ≤ 1) T)
    · have T := T.2 h1
      refine wp_iconst d_GM_capital_12 ?_
      refine wp_goto (tgt := 17) d_GM_capital_13 (by decide) ?_
      exact wp_zreturn d_GM_capital_17 rfl (g_narz (⟨by decide, by decide⟩ : (0 : Int) ≤ 1 ∧ (1 : Int) ≤ 1)) (Nat.zero_le _) (Nat.zero_le _) (kZ_mk (⟨by decide, by decide⟩ : (0 : Int) ≤ 1 ∧ (1 : Int) ≤ 1) T)
theorem e_GM_capital {l : Launch} {G : gG} {d : Nat} {X : gX} {M : gM} {k : Int → gM → Prop}  {x0 : Int} (T : wp l G y_GM_capital (gRm d) (kkZ X k) 0 [.val (gI x0)] [] X M 0 0) : cZ l G y_GM_capital (gRm d) [gI x0] X M k := cen_Z rfl (by simp only [lg_sl_R, lg_sl_I, lg_sl_L, lg_sl_N, List.length_cons, List.length_nil]; decide) (by unfold gEn; simp only [lg_sl_R, lg_sl_I, lg_sl_L, lg_sl_N]; exact wpt T (And.intro rfl True.intro))
theorem d_GM_letter_0 : decode prog_15_method_6_code 0 = .ok (.iload_n 0, 1) := by decide +kernel
theorem d_GM_letter_1 : decode prog_15_method_6_code 1 = .ok (.invokestatic 161, 3) := by decide +kernel
theorem d_GM_letter_4 : decode prog_15_method_6_code 4 = .ok (.ifCond .ne 15, 3) := by decide +kernel
theorem d_GM_letter_19 : decode prog_15_method_6_code 19 = .ok (.iconst 1, 1) := by decide +kernel
theorem d_GM_letter_20 : decode prog_15_method_6_code 20 = .ok (.goto 4, 3) := by decide +kernel
theorem d_GM_letter_24 : decode prog_15_method_6_code 24 = .ok (.ireturn, 1) := by decide +kernel
theorem d_GM_letter_7 : decode prog_15_method_6_code 7 = .ok (.iload_n 0, 1) := by decide +kernel
theorem d_GM_letter_8 : decode prog_15_method_6_code 8 = .ok (.bipush 97, 2) := by decide +kernel
theorem d_GM_letter_10 : decode prog_15_method_6_code 10 = .ok (.if_icmp .lt 13, 3) := by decide +kernel
theorem d_GM_letter_23 : decode prog_15_method_6_code 23 = .ok (.iconst 0, 1) := by decide +kernel
theorem d_GM_letter_13 : decode prog_15_method_6_code 13 = .ok (.iload_n 0, 1) := by decide +kernel
theorem d_GM_letter_14 : decode prog_15_method_6_code 14 = .ok (.bipush 122, 2) := by decide +kernel
theorem d_GM_letter_16 : decode prog_15_method_6_code 16 = .ok (.if_icmp .gt 7, 3) := by decide +kernel
set_option maxHeartbeats 4000000 in
theorem w_GM_letter_0 {l : Launch} {G : gG} {d : Nat} {X : gX} {M : gM} {k : Int → gM → Prop}  {x0 : Int} (hx0 : g32 x0) (T : cZ l G y_GM_capital (gRm d) [gI x0] X M (fun v2 M1 => ((¬ v2 = 0 → (k 1 M1)) ∧ (v2 = 0 → ((x0 < 97 → (k 0 M1)) ∧ (¬ x0 < 97 → ((122 < x0 → (k 0 M1)) ∧ (¬ 122 < x0 → (k 1 M1))))))))) : wp l G y_GM_letter (gRm (d + 1)) (kkZ X k) 0 [.val (gI x0)] [] X M 0 0 := by
  refine wp_iload_n d_GM_letter_0 rfl rfl ?_
  refine xcS_Z (As := [gI x0]) (st := []) d_GM_letter_1 ca_GM_capital ml_GM_161 sm_GM_capital rfl (by decide) (by decide) rfl T (fun v2 M1 h3 T => ?_)
  refine xz_ne (tgt := 19) d_GM_letter_4 (by decide) (w32_id (g32_z h3)) (fun h6 => ?_) (fun h6 => ?_)
  · have T := T.1 h6
    refine wp_iconst d_GM_letter_19 ?_
    refine wp_goto (tgt := 24) d_GM_letter_20 (by decide) ?_
    exact wp_zreturn d_GM_letter_24 rfl (g_narz (⟨by decide, by decide⟩ : (0 : Int) ≤ 1 ∧ (1 : Int) ≤ 1)) (Nat.zero_le _) (Nat.zero_le _) (kZ_mk (⟨by decide, by decide⟩ : (0 : Int) ≤ 1 ∧ (1 : Int) ≤ 1) T)
  · have T := T.2 h6
    refine wp_iload_n d_GM_letter_7 rfl rfl ?_
    refine wp_bipush d_GM_letter_8 ⟨by decide, by decide⟩ ?_
    refine xi_lt (tgt := 23) d_GM_letter_10 (by decide) (w32_id hx0) (w32_id (g32_c (x := 97) rfl)) (fun h5 => ?_) (fun h5 => ?_)
    · have T := T.1 h5
      refine wp_iconst d_GM_letter_23 ?_
      exact wp_zreturn d_GM_letter_24 rfl (g_narz (⟨by decide, by decide⟩ : (0 : Int) ≤ 0 ∧ (0 : Int) ≤ 1)) (Nat.zero_le _) (Nat.zero_le _) (kZ_mk (⟨by decide, by decide⟩ : (0 : Int) ≤ 0 ∧ (0 : Int) ≤ 1) T)
    · have T := T.2 h5
      refine wp_iload_n d_GM_letter_13 rfl rfl ?_
      refine wp_bipush d_GM_letter_14 ⟨by decide, by decide⟩ ?_
      refine xi_gt (tgt := 23) d_GM_letter_16 (by decide) (w32_id hx0) (w32_id (g32_c (x := 122) rfl)) (fun h4 => ?_) (fun h4 => ?_)
      · have T := T.1 h4
        refine wp_iconst d_GM_letter_23 ?_
        exact wp_zreturn d_GM_letter_24 rfl (g_narz (⟨by decide, by decide⟩ : (0 : Int) ≤ 0 ∧ (0 : Int) ≤ 1)) (Nat.zero_le _) (Nat.zero_le _) (kZ_mk (⟨by decide, by decide⟩ : (0 : Int) ≤ 0 ∧ (0 : Int) ≤ 1) T)
      · have T := T.2 h4
        refine wp_iconst d_GM_letter_19 ?_
        refine wp_goto (tgt := 24) d_GM_letter_20 (by decide) ?_
        exact wp_zreturn d_GM_letter_24 rfl (g_narz (⟨by decide, by decide⟩ : (0 : Int) ≤ 1 ∧ (1 : Int) ≤ 1)) (Nat.zero_le _) (Nat.zero_le _) (kZ_mk (⟨by decide, by decide⟩ : (0 : Int) ≤ 1 ∧ (1 : Int) ≤ 1) T)
theorem e_GM_letter {l : Launch} {G : gG} {d : Nat} {X : gX} {M : gM} {k : Int → gM → Prop}  {x0 : Int} (T : wp l G y_GM_letter (gRm (d + 1)) (kkZ X k) 0 [.val (gI x0)] [] X M 0 0) : cZ l G y_GM_letter (gRm (d + 1)) [gI x0] X M k := cen_Z rfl (by simp only [lg_sl_R, lg_sl_I, lg_sl_L, lg_sl_N, List.length_cons, List.length_nil]; decide) (by unfold gEn; simp only [lg_sl_R, lg_sl_I, lg_sl_L, lg_sl_N]; exact wpt T (And.intro rfl True.intro))
theorem d_GM_isNumber_0 : decode prog_15_method_7_code 0 = .ok (.iload_n 2, 1) := by decide +kernel
theorem d_GM_isNumber_1 : decode prog_15_method_7_code 1 = .ok (.iload_n 3, 1) := by decide +kernel
theorem d_GM_isNumber_2 : decode prog_15_method_7_code 2 = .ok (.if_icmp .ge 15, 3) := by decide +kernel
theorem d_GM_isNumber_17 : decode prog_15_method_7_code 17 = .ok (.iconst 0, 1) := by decide +kernel
theorem d_GM_isNumber_18 : decode prog_15_method_7_code 18 = .ok (.istore 4, 2) := by decide +kernel
theorem d_GM_isNumber_20 : decode prog_15_method_7_code 20 = .ok (.iload 4, 2) := by decide +kernel
theorem d_GM_isNumber_22 : decode prog_15_method_7_code 22 = .ok (.ifCond .eq 9, 3) := by decide +kernel
theorem d_GM_isNumber_31 : decode prog_15_method_7_code 31 = .ok (.iload_n 2, 1) := by decide +kernel
theorem d_GM_isNumber_32 : decode prog_15_method_7_code 32 = .ok (.istore 5, 2) := by decide +kernel
theorem d_GM_isNumber_34 : decode prog_15_method_7_code 34 = .ok (.iload 5, 2) := by decide +kernel
theorem d_GM_isNumber_36 : decode prog_15_method_7_code 36 = .ok (.iload_n 3, 1) := by decide +kernel
theorem d_GM_isNumber_37 : decode prog_15_method_7_code 37 = .ok (.if_icmp .lt 5, 3) := by decide +kernel
theorem d_GM_isNumber_42 : decode prog_15_method_7_code 42 = .ok (.lconst 0, 1) := by decide +kernel
theorem d_GM_isNumber_43 : decode prog_15_method_7_code 43 = .ok (.lstore 6, 2) := by decide +kernel
theorem d_GM_isNumber_40 : decode prog_15_method_7_code 40 = .ok (.iconst 0, 1) := by decide +kernel
theorem d_GM_isNumber_41 : decode prog_15_method_7_code 41 = .ok (.ireturn, 1) := by decide +kernel
theorem d_GM_isNumber_25 : decode prog_15_method_7_code 25 = .ok (.iload_n 2, 1) := by decide +kernel
theorem d_GM_isNumber_26 : decode prog_15_method_7_code 26 = .ok (.iconst 1, 1) := by decide +kernel
theorem d_GM_isNumber_27 : decode prog_15_method_7_code 27 = .ok (.iadd, 1) := by decide +kernel
theorem d_GM_isNumber_28 : decode prog_15_method_7_code 28 = .ok (.goto 4, 3) := by decide +kernel
theorem d_GM_isNumber_5 : decode prog_15_method_7_code 5 = .ok (.aload_n 1, 1) := by decide +kernel
theorem d_GM_isNumber_6 : decode prog_15_method_7_code 6 = .ok (.iload_n 2, 1) := by decide +kernel
theorem d_GM_isNumber_7 : decode prog_15_method_7_code 7 = .ok (.baload, 1) := by decide +kernel
theorem d_GM_isNumber_8 : decode prog_15_method_7_code 8 = .ok (.bipush 45, 2) := by decide +kernel
theorem d_GM_isNumber_10 : decode prog_15_method_7_code 10 = .ok (.if_icmp .ne 7, 3) := by decide +kernel
theorem d_GM_isNumber_13 : decode prog_15_method_7_code 13 = .ok (.iconst 1, 1) := by decide +kernel
theorem d_GM_isNumber_14 : decode prog_15_method_7_code 14 = .ok (.goto 4, 3) := by decide +kernel
theorem d_GM_isNumber_45 : decode prog_15_method_7_code 45 = .ok (.iload 5, 2) := by decide +kernel
theorem d_GM_isNumber_47 : decode prog_15_method_7_code 47 = .ok (.iload_n 3, 1) := by decide +kernel
theorem d_GM_isNumber_48 : decode prog_15_method_7_code 48 = .ok (.if_icmp .ge 61, 3) := by decide +kernel
theorem d_GM_isNumber_109 : decode prog_15_method_7_code 109 = .ok (.iload 4, 2) := by decide +kernel
theorem d_GM_isNumber_111 : decode prog_15_method_7_code 111 = .ok (.ifCond .ne 14, 3) := by decide +kernel
theorem d_GM_isNumber_125 : decode prog_15_method_7_code 125 = .ok (.aload_n 0, 1) := by decide +kernel
theorem d_GM_isNumber_126 : decode prog_15_method_7_code 126 = .ok (.iload 4, 2) := by decide +kernel
theorem d_GM_isNumber_128 : decode prog_15_method_7_code 128 = .ok (.ifCond .eq 8, 3) := by decide +kernel
theorem d_GM_isNumber_136 : decode prog_15_method_7_code 136 = .ok (.lload 6, 2) := by decide +kernel
theorem d_GM_isNumber_138 : decode prog_15_method_7_code 138 = .ok (.lneg, 1) := by decide +kernel
theorem d_GM_isNumber_139 : decode prog_15_method_7_code 139 = .ok (.putfield 174, 3) := by decide +kernel
theorem d_GM_isNumber_142 : decode prog_15_method_7_code 142 = .ok (.iconst 1, 1) := by decide +kernel
theorem d_GM_isNumber_143 : decode prog_15_method_7_code 143 = .ok (.ireturn, 1) := by decide +kernel
theorem d_GM_isNumber_131 : decode prog_15_method_7_code 131 = .ok (.lload 6, 2) := by decide +kernel
theorem d_GM_isNumber_133 : decode prog_15_method_7_code 133 = .ok (.goto 6, 3) := by decide +kernel
theorem d_GM_isNumber_114 : decode prog_15_method_7_code 114 = .ok (.lload 6, 2) := by decide +kernel
theorem d_GM_isNumber_116 : decode prog_15_method_7_code 116 = .ok (.ldc2_w 170, 3) := by decide +kernel
theorem d_GM_isNumber_119 : decode prog_15_method_7_code 119 = .ok (.lcmp, 1) := by decide +kernel
theorem d_GM_isNumber_120 : decode prog_15_method_7_code 120 = .ok (.ifCond .ne 5, 3) := by decide +kernel
theorem d_GM_isNumber_123 : decode prog_15_method_7_code 123 = .ok (.iconst 0, 1) := by decide +kernel
theorem d_GM_isNumber_124 : decode prog_15_method_7_code 124 = .ok (.ireturn, 1) := by decide +kernel
theorem d_GM_isNumber_51 : decode prog_15_method_7_code 51 = .ok (.aload_n 1, 1) := by decide +kernel
theorem d_GM_isNumber_52 : decode prog_15_method_7_code 52 = .ok (.iload 5, 2) := by decide +kernel
theorem d_GM_isNumber_54 : decode prog_15_method_7_code 54 = .ok (.baload, 1) := by decide +kernel
theorem d_GM_isNumber_55 : decode prog_15_method_7_code 55 = .ok (.invokestatic 165, 3) := by decide +kernel
theorem d_GM_isNumber_58 : decode prog_15_method_7_code 58 = .ok (.ifCond .ne 5, 3) := by decide +kernel
theorem d_GM_isNumber_63 : decode prog_15_method_7_code 63 = .ok (.aload_n 1, 1) := by decide +kernel
theorem d_GM_isNumber_64 : decode prog_15_method_7_code 64 = .ok (.iload 5, 2) := by decide +kernel
theorem d_GM_isNumber_66 : decode prog_15_method_7_code 66 = .ok (.baload, 1) := by decide +kernel
theorem d_GM_isNumber_67 : decode prog_15_method_7_code 67 = .ok (.bipush 48, 2) := by decide +kernel
theorem d_GM_isNumber_69 : decode prog_15_method_7_code 69 = .ok (.isub, 1) := by decide +kernel
theorem d_GM_isNumber_70 : decode prog_15_method_7_code 70 = .ok (.istore 8, 2) := by decide +kernel
theorem d_GM_isNumber_72 : decode prog_15_method_7_code 72 = .ok (.lload 6, 2) := by decide +kernel
theorem d_GM_isNumber_74 : decode prog_15_method_7_code 74 = .ok (.ldc2_w 170, 3) := by decide +kernel
theorem d_GM_isNumber_77 : decode prog_15_method_7_code 77 = .ok (.iload 8, 2) := by decide +kernel
theorem d_GM_isNumber_79 : decode prog_15_method_7_code 79 = .ok (.i2l, 1) := by decide +kernel
theorem d_GM_isNumber_80 : decode prog_15_method_7_code 80 = .ok (.ladd, 1) := by decide +kernel
theorem d_GM_isNumber_81 : decode prog_15_method_7_code 81 = .ok (.ldc2_w 172, 3) := by decide +kernel
theorem d_GM_isNumber_84 : decode prog_15_method_7_code 84 = .ok (.ldiv, 1) := by decide +kernel
theorem d_GM_isNumber_85 : decode prog_15_method_7_code 85 = .ok (.lcmp, 1) := by decide +kernel
theorem d_GM_isNumber_86 : decode prog_15_method_7_code 86 = .ok (.ifCond .ge 5, 3) := by decide +kernel
theorem d_GM_isNumber_91 : decode prog_15_method_7_code 91 = .ok (.lload 6, 2) := by decide +kernel
theorem d_GM_isNumber_93 : decode prog_15_method_7_code 93 = .ok (.ldc2_w 172, 3) := by decide +kernel
theorem d_GM_isNumber_96 : decode prog_15_method_7_code 96 = .ok (.lmul, 1) := by decide +kernel
theorem d_GM_isNumber_97 : decode prog_15_method_7_code 97 = .ok (.iload 8, 2) := by decide +kernel
theorem d_GM_isNumber_99 : decode prog_15_method_7_code 99 = .ok (.i2l, 1) := by decide +kernel
theorem d_GM_isNumber_100 : decode prog_15_method_7_code 100 = .ok (.lsub, 1) := by decide +kernel
theorem d_GM_isNumber_101 : decode prog_15_method_7_code 101 = .ok (.lstore 6, 2) := by decide +kernel
theorem d_GM_isNumber_103 : decode prog_15_method_7_code 103 = .ok (.iinc 5 1, 3) := by decide +kernel
theorem d_GM_isNumber_106 : decode prog_15_method_7_code 106 = .ok (.goto (-61), 3) := by decide +kernel
theorem d_GM_isNumber_89 : decode prog_15_method_7_code 89 = .ok (.iconst 0, 1) := by decide +kernel
theorem d_GM_isNumber_90 : decode prog_15_method_7_code 90 = .ok (.ireturn, 1) := by decide +kernel
theorem d_GM_isNumber_61 : decode prog_15_method_7_code 61 = .ok (.iconst 0, 1) := by decide +kernel
theorem d_GM_isNumber_62 : decode prog_15_method_7_code 62 = .ok (.ireturn, 1) := by decide +kernel
set_option maxHeartbeats 4000000 in
theorem w_GM_isNumber_0 {l : Launch} {G : gG} {d : Nat} {X : gX} {M : gM} {k : Int → gM → Prop} {o : Nat} (hX : gmX X o) {r1 n1 : Nat} (hr1 : 1 ≤ r1 ∧ r1 ≤ X.1 ∧ X.2.1 r1 = (2, n1) ∧ n1 ≤ 2147483648) {x2 : Int} (hx2 : g32 x2) {x3 : Int} (hx3 : g32 x3) (T : (x3 ≤ x2 → (((0 : Int) = 0 → ((x2 < x3 → (wp l G y_GM_isNumber (gRm (d + 1)) (kkZ X k) 45 [.val (gR G o), .val (gR G r1), .unset, .val (gI x3), .val (gI 0), .val (gI x2), .val (gL 0), .unset, .unset] [] X M 0 0)) ∧ (¬ x2 < x3 → (k 0 M)))) ∧ (¬ (0 : Int) = 0 → (((w32 (x2 + 1)) < x3 → (wp l G y_GM_isNumber (gRm (d + 1)) (kkZ X k) 45 [.val (gR G o), .val (gR G r1), .unset, .val (gI x3), .val (gI 0), .val (gI (w32 (x2 + 1))), .val (gL 0), .unset, .unset] [] X M 0 0)) ∧ (¬ (w32 (x2 + 1)) < x3 → (k 0 M)))))) ∧ (¬ x3 ≤ x2 → ((0 ≤ x2 ∧ x2 < (n1 : Int)) ∧ ((-128 ≤ M r1 (Int.toNat x2) ∧ M r1 (Int.toNat x2) < 128) → ((¬ M r1 (Int.toNat x2) = 45 → (((0 : Int) = 0 → ((x2 < x3 → (wp l G y_GM_isNumber (gRm (d + 1)) (kkZ X k) 45 [.val (gR G o), .val (gR G r1), .unset, .val (gI x3), .val (gI 0), .val (gI x2), .val (gL 0), .unset, .unset] [] X M 0 0)) ∧ (¬ x2 < x3 → (k 0 M)))) ∧ (¬ (0 : Int) = 0 → (((w32 (x2 + 1)) < x3 → (wp l G y_GM_isNumber (gRm (d + 1)) (kkZ X k) 45 [.val (gR G o), .val (gR G r1), .unset, .val (gI x3), .val (gI 0), .val (gI (w32 (x2 + 1))), .val (gL 0), .unset, .unset] [] X M 0 0)) ∧ (¬ (w32 (x2 + 1)) < x3 → (k 0 M)))))) ∧ (M r1 (Int.toNat x2) = 45 → (((1 : Int) = 0 → ((x2 < x3 → (wp l G y_GM_isNumber (gRm (d + 1)) (kkZ X k) 45 [.val (gR G o), .val (gR G r1), .unset, .val (gI x3), .val (gI 1), .val (gI x2), .val (gL 0), .unset, .unset] [] X M 0 0)) ∧ (¬ x2 < x3 → (k 0 M)))) ∧ (¬ (1 : Int) = 0 → (((w32 (x2 + 1)) < x3 → (wp l G y_GM_isNumber (gRm (d + 1)) (kkZ X k) 45 [.val (gR G o), .val (gR G r1), .unset, .val (gI x3), .val (gI 1), .val (gI (w32 (x2 + 1))), .val (gL 0), .unset, .unset] [] X M 0 0)) ∧ (¬ (w32 (x2 + 1)) < x3 → (k 0 M))))))))))) : wp l G y_GM_isNumber (gRm (d + 1)) (kkZ X k) 0 [.val (gR G o), .val (gR G r1), .val (gI x2), .val (gI x3), .unset, .unset, .unset, .unset, .unset] [] X M 0 0 := by
  refine wp_iload_n d_GM_isNumber_0 rfl rfl ?_
  refine wp_iload_n d_GM_isNumber_1 rfl rfl ?_
  refine xi_ge (tgt := 17) d_GM_isNumber_2 (by decide) (w32_id hx2) (w32_id hx3) (fun h12 => ?_) (fun h12 => ?_)
  · have T := T.1 h12
    refine wp_iconst d_GM_isNumber_17 ?_
    refine wp_istore (L' := [.val (gR G o), .val (gR G r1), .val (gI x2), .val (gI x3), .val (gI 0), .unset, .unset, .unset, .unset]) d_GM_isNumber_18 (by decide) rfl ?_
    refine wp_iload d_GM_isNumber_20 rfl ?_
    refine xz_eq (tgt := 31) d_GM_isNumber_22 (by decide) (w32_id (g32_c (x := 0) rfl)) (fun h3 => ?_) (fun h3 => ?_)
    · have T := T.1 h3
      refine wp_iload_n d_GM_isNumber_31 rfl rfl ?_
      refine wp_istore (L' := [.val (gR G o), .val (gR G r1), .val (gI x2), .val (gI x3), .val (gI 0), .val (gI x2), .unset, .unset, .unset]) d_GM_isNumber_32 (by decide) rfl ?_
      refine wp_iload d_GM_isNumber_34 rfl ?_
      refine wp_iload_n d_GM_isNumber_36 rfl rfl ?_
      refine xi_lt (tgt := 42) d_GM_isNumber_37 (by decide) (w32_id hx2) (w32_id hx3) (fun h1 => ?_) (fun h1 => ?_)
      · have T := T.1 h1
        refine wp_lconst0 d_GM_isNumber_42 ?_
        refine wp_lstore (L' := [.val (gR G o), .val (gR G r1), .val (gI x2), .val (gI x3), .val (gI 0), .val (gI x2), .val (gL 0), .unset, .unset]) d_GM_isNumber_43 (by decide) rfl ?_
        exact wpt T (And.intro rfl (And.intro rfl (And.intro rfl (And.intro rfl (And.intro rfl (And.intro rfl True.intro))))))
      · have T := T.2 h1
        refine wp_iconst d_GM_isNumber_40 ?_
        exact wp_zreturn d_GM_isNumber_41 rfl (g_narz (⟨by decide, by decide⟩ : (0 : Int) ≤ 0 ∧ (0 : Int) ≤ 1)) (Nat.zero_le _) (Nat.zero_le _) (kZ_mk (⟨by decide, by decide⟩ : (0 : Int) ≤ 0 ∧ (0 : Int) ≤ 1) T)
    · have T := T.2 h3
      refine wp_iload_n d_GM_isNumber_25 rfl rfl ?_
      refine wp_iconst d_GM_isNumber_26 ?_
      refine wp_iadd d_GM_isNumber_27 ?_
      refine wp_goto (tgt := 32) d_GM_isNumber_28 (by decide) ?_
      refine wp_istore (L' := [.val (gR G o), .val (gR G r1), .val (gI x2), .val (gI x3), .val (gI 0), .val (gI (x2 + 1)), .unset, .unset, .unset]) d_GM_isNumber_32 (by decide) rfl ?_
      refine wp_iload d_GM_isNumber_34 rfl ?_
      refine wp_iload_n d_GM_isNumber_36 rfl rfl ?_
      refine xi_lt (tgt := 42) d_GM_isNumber_37 (by decide) rfl (w32_id hx3) (fun h2 => ?_) (fun h2 => ?_)
      · have T := T.1 h2
        refine wp_lconst0 d_GM_isNumber_42 ?_
        refine wp_lstore (L' := [.val (gR G o), .val (gR G r1), .val (gI x2), .val (gI x3), .val (gI 0), .val (gI (x2 + 1)), .val (gL 0), .unset, .unset]) d_GM_isNumber_43 (by decide) rfl ?_
        exact wpt T (And.intro rfl (And.intro rfl (And.intro rfl (And.intro rfl (And.intro (gI_w _) (And.intro rfl True.intro))))))
      · have T := T.2 h2
        refine wp_iconst d_GM_isNumber_40 ?_
        exact wp_zreturn d_GM_isNumber_41 rfl (g_narz (⟨by decide, by decide⟩ : (0 : Int) ≤ 0 ∧ (0 : Int) ≤ 1)) (Nat.zero_le _) (Nat.zero_le _) (kZ_mk (⟨by decide, by decide⟩ : (0 : Int) ≤ 0 ∧ (0 : Int) ≤ 1) T)
  · have T := T.2 h12
    refine wp_aload_n d_GM_isNumber_5 rfl rfl (g_nz hr1.1) ?_
    refine wp_iload_n d_GM_isNumber_6 rfl rfl ?_
    refine wp_baload d_GM_isNumber_7 hr1.1 hr1.2.1 hr1.2.2.1 (g32_n T.1 hr1.2.2.2) T.1.1 T.1.2 (fun h4 => ?_)
    have T := T.2 h4
    refine wp_bipush d_GM_isNumber_8 ⟨by decide, by decide⟩ ?_
    refine xi_ne (tgt := 17) d_GM_isNumber_10 (by decide) (w32_id (g32_b h4)) (w32_id (g32_c (x := 45) rfl)) (fun h11 => ?_) (fun h11 => ?_)
    · have T := T.1 h11
      refine wp_iconst d_GM_isNumber_17 ?_
      refine wp_istore (L' := [.val (gR G o), .val (gR G r1), .val (gI x2), .val (gI x3), .val (gI 0), .unset, .unset, .unset, .unset]) d_GM_isNumber_18 (by decide) rfl ?_
      refine wp_iload d_GM_isNumber_20 rfl ?_
      refine xz_eq (tgt := 31) d_GM_isNumber_22 (by decide) (w32_id (g32_c (x := 0) rfl)) (fun h7 => ?_) (fun h7 => ?_)
      · have T := T.1 h7
        refine wp_iload_n d_GM_isNumber_31 rfl rfl ?_
        refine wp_istore (L' := [.val (gR G o), .val (gR G r1), .val (gI x2), .val (gI x3), .val (gI 0), .val (gI x2), .unset, .unset, .unset]) d_GM_isNumber_32 (by decide) rfl ?_
        refine wp_iload d_GM_isNumber_34 rfl ?_
        refine wp_iload_n d_GM_isNumber_36 rfl rfl ?_
        refine xi_lt (tgt := 42) d_GM_isNumber_37 (by decide) (w32_id hx2) (w32_id hx3) (fun h5 => ?_) (fun h5 => ?_)
        · have T := T.1 h5
          refine wp_lconst0 d_GM_isNumber_42 ?_
          refine wp_lstore (L' := [.val (gR G o), .val (gR G r1), .val (gI x2), .val (gI x3), .val (gI 0), .val (gI x2), .val (gL 0), .unset, .unset]) d_GM_isNumber_43 (by decide) rfl ?_
          exact wpt T (And.intro rfl (And.intro rfl (And.intro rfl (And.intro rfl (And.intro rfl (And.intro rfl True.intro))))))
        · have T := T.2 h5
          refine wp_iconst d_GM_isNumber_40 ?_
          exact wp_zreturn d_GM_isNumber_41 rfl (g_narz (⟨by decide, by decide⟩ : (0 : Int) ≤ 0 ∧ (0 : Int) ≤ 1)) (Nat.zero_le _) (Nat.zero_le _) (kZ_mk (⟨by decide, by decide⟩ : (0 : Int) ≤ 0 ∧ (0 : Int) ≤ 1) T)
      · have T := T.2 h7
        refine wp_iload_n d_GM_isNumber_25 rfl rfl ?_
        refine wp_iconst d_GM_isNumber_26 ?_
        refine wp_iadd d_GM_isNumber_27 ?_
        refine wp_goto (tgt := 32) d_GM_isNumber_28 (by decide) ?_
        refine wp_istore (L' := [.val (gR G o), .val (gR G r1), .val (gI x2), .val (gI x3), .val (gI 0), .val (gI (x2 + 1)), .unset, .unset, .unset]) d_GM_isNumber_32 (by decide) rfl ?_
        refine wp_iload d_GM_isNumber_34 rfl ?_
        refine wp_iload_n d_GM_isNumber_36 rfl rfl ?_
        refine xi_lt (tgt := 42) d_GM_isNumber_37 (by decide) rfl (w32_id hx3) (fun h6 => ?_) (fun h6 => ?_)
        · have T := T.1 h6
          refine wp_lconst0 d_GM_isNumber_42 ?_
          refine wp_lstore (L' := [.val (gR G o), .val (gR G r1), .val (gI x2), .val (gI x3), .val (gI 0), .val (gI (x2 + 1)), .val (gL 0), .unset, .unset]) d_GM_isNumber_43 (by decide) rfl ?_
          exact wpt T (And.intro rfl (And.intro rfl (And.intro rfl (And.intro rfl (And.intro (gI_w _) (And.intro rfl True.intro))))))
        · have T := T.2 h6
          refine wp_iconst d_GM_isNumber_40 ?_
          exact wp_zreturn d_GM_isNumber_41 rfl (g_narz (⟨by decide, by decide⟩ : (0 : Int) ≤ 0 ∧ (0 : Int) ≤ 1)) (Nat.zero_le _) (Nat.zero_le _) (kZ_mk (⟨by decide, by decide⟩ : (0 : Int) ≤ 0 ∧ (0 : Int) ≤ 1) T)
    · have T := T.2 h11
      refine wp_iconst d_GM_isNumber_13 ?_
      refine wp_goto (tgt := 18) d_GM_isNumber_14 (by decide) ?_
      refine wp_istore (L' := [.val (gR G o), .val (gR G r1), .val (gI x2), .val (gI x3), .val (gI 1), .unset, .unset, .unset, .unset]) d_GM_isNumber_18 (by decide) rfl ?_
      refine wp_iload d_GM_isNumber_20 rfl ?_
      refine xz_eq (tgt := 31) d_GM_isNumber_22 (by decide) (w32_id (g32_c (x := 1) rfl)) (fun h10 => ?_) (fun h10 => ?_)
      · have T := T.1 h10
        refine wp_iload_n d_GM_isNumber_31 rfl rfl ?_
        refine wp_istore (L' := [.val (gR G o), .val (gR G r1), .val (gI x2), .val (gI x3), .val (gI 1), .val (gI x2), .unset, .unset, .unset]) d_GM_isNumber_32 (by decide) rfl ?_
        refine wp_iload d_GM_isNumber_34 rfl ?_
        refine wp_iload_n d_GM_isNumber_36 rfl rfl ?_
        refine xi_lt (tgt := 42) d_GM_isNumber_37 (by decide) (w32_id hx2) (w32_id hx3) (fun h8 => ?_) (fun h8 => ?_)
        · have T := T.1 h8
          refine wp_lconst0 d_GM_isNumber_42 ?_
          refine wp_lstore (L' := [.val (gR G o), .val (gR G r1), .val (gI x2), .val (gI x3), .val (gI 1), .val (gI x2), .val (gL 0), .unset, .unset]) d_GM_isNumber_43 (by decide) rfl ?_
          exact wpt T (And.intro rfl (And.intro rfl (And.intro rfl (And.intro rfl (And.intro rfl (And.intro rfl True.intro))))))
        · have T := T.2 h8
          refine wp_iconst d_GM_isNumber_40 ?_
          exact wp_zreturn d_GM_isNumber_41 rfl (g_narz (⟨by decide, by decide⟩ : (0 : Int) ≤ 0 ∧ (0 : Int) ≤ 1)) (Nat.zero_le _) (Nat.zero_le _) (kZ_mk (⟨by decide, by decide⟩ : (0 : Int) ≤ 0 ∧ (0 : Int) ≤ 1) T)
      · have T := T.2 h10
        refine wp_iload_n d_GM_isNumber_25 rfl rfl ?_
        refine wp_iconst d_GM_isNumber_26 ?_
        refine wp_iadd d_GM_isNumber_27 ?_
        refine wp_goto (tgt := 32) d_GM_isNumber_28 (by decide) ?_
        refine wp_istore (L' := [.val (gR G o), .val (gR G r1), .val (gI x2), .val (gI x3), .val (gI 1), .val (gI (x2 + 1)), .unset, .unset, .unset]) d_GM_isNumber_32 (by decide) rfl ?_
        refine wp_iload d_GM_isNumber_34 rfl ?_
        refine wp_iload_n d_GM_isNumber_36 rfl rfl ?_
        refine xi_lt (tgt := 42) d_GM_isNumber_37 (by decide) rfl (w32_id hx3) (fun h9 => ?_) (fun h9 => ?_)
        · have T := T.1 h9
          refine wp_lconst0 d_GM_isNumber_42 ?_
          refine wp_lstore (L' := [.val (gR G o), .val (gR G r1), .val (gI x2), .val (gI x3), .val (gI 1), .val (gI (x2 + 1)), .val (gL 0), .unset, .unset]) d_GM_isNumber_43 (by decide) rfl ?_
          exact wpt T (And.intro rfl (And.intro rfl (And.intro rfl (And.intro rfl (And.intro (gI_w _) (And.intro rfl True.intro))))))
        · have T := T.2 h9
          refine wp_iconst d_GM_isNumber_40 ?_
          exact wp_zreturn d_GM_isNumber_41 rfl (g_narz (⟨by decide, by decide⟩ : (0 : Int) ≤ 0 ∧ (0 : Int) ≤ 1)) (Nat.zero_le _) (Nat.zero_le _) (kZ_mk (⟨by decide, by decide⟩ : (0 : Int) ≤ 0 ∧ (0 : Int) ≤ 1) T)
set_option maxHeartbeats 4000000 in
theorem w_GM_isNumber_45 {l : Launch} {G : gG} {d : Nat} {X : gX} {M : gM} {k : Int → gM → Prop} {o : Nat} (hX : gmX X o) {x3 : Int} (hx3 : g32 x3) {x4 : Int} (hx4 : g32 x4) {x5 : Int} (hx5 : g32 x5) {x6 : Int} (hx6 : g64 x6) {r1 n1 : Nat} (hr1 : 1 ≤ r1 ∧ r1 ≤ X.1 ∧ X.2.1 r1 = (2, n1) ∧ n1 ≤ 2147483648) (T : (x3 ≤ x5 → ((¬ x4 = 0 → ((x4 = 0 → (k 1 (gUp M o 3 (w64 (-x6))))) ∧ (¬ x4 = 0 → (k 1 (gUp M o 3 x6))))) ∧ (x4 = 0 → ((¬ x6 = (-9223372036854775808) → ((x4 = 0 → (k 1 (gUp M o 3 (w64 (-x6))))) ∧ (¬ x4 = 0 → (k 1 (gUp M o 3 x6))))) ∧ (x6 = (-9223372036854775808) → (k 0 M)))))) ∧ (¬ x3 ≤ x5 → ((0 ≤ x5 ∧ x5 < (n1 : Int)) ∧ ((-128 ≤ M r1 (Int.toNat x5) ∧ M r1 (Int.toNat x5) < 128) → (cZ l G y_GM_digit (gRm d) [gI (M r1 (Int.toNat x5))] X M (fun v19 M18 => ((¬ v19 = 0 → ((0 ≤ x5 ∧ x5 < (n1 : Int)) ∧ ((-128 ≤ M18 r1 (Int.toNat x5) ∧ M18 r1 (Int.toNat x5) < 128) → (((w64 ((w64 ((-9223372036854775808) + (w32 ((M18 r1 (Int.toNat x5)) - 48)))).tdiv 10)) ≤ x6 → (wp l G y_GM_isNumber (gRm (d + 1)) (kkZ X k) 45 [.val (gR G o), .val (gR G r1), .unset, .val (gI x3), .val (gI x4), .val (gI (w32 (x5 + 1))), .val (gL (w64 ((x6 * 10) - (w32 ((M18 r1 (Int.toNat x5)) - 48))))), .unset, .unset] [] X M18 0 0)) ∧ (¬ (w64 ((w64 ((-9223372036854775808) + (w32 ((M18 r1 (Int.toNat x5)) - 48)))).tdiv 10)) ≤ x6 → (k 0 M18)))))) ∧ (v19 = 0 → (k 0 M18))))))))) : wp l G y_GM_isNumber (gRm (d + 1)) (kkZ X k) 45 [.val (gR G o), .val (gR G r1), .unset, .val (gI x3), .val (gI x4), .val (gI x5), .val (gL x6), .unset, .unset] [] X M 0 0 := by
  refine wp_iload d_GM_isNumber_45 rfl ?_
  refine wp_iload_n d_GM_isNumber_47 rfl rfl ?_
  refine xi_ge (tgt := 109) d_GM_isNumber_48 (by decide) (w32_id hx5) (w32_id hx3) (fun h24 => ?_) (fun h24 => ?_)
  · have T := T.1 h24
    refine wp_iload d_GM_isNumber_109 rfl ?_
    refine xz_ne (tgt := 125) d_GM_isNumber_111 (by decide) (w32_id hx4) (fun h16 => ?_) (fun h16 => ?_)
    · have T := T.1 h16
      refine wp_aload_n d_GM_isNumber_125 rfl rfl (g_nz hX.1) ?_
      refine wp_iload d_GM_isNumber_126 rfl ?_
      refine xz_eq (tgt := 136) d_GM_isNumber_128 (by decide) (w32_id hx4) (fun h13 => ?_) (fun h13 => ?_)
      · have T := T.1 h13
        refine wp_lload d_GM_isNumber_136 rfl ?_
        refine wp_lneg d_GM_isNumber_138 ?_
        refine xputJ d_GM_isNumber_139 gc_GM f_GM_174.1 f_GM_174.2.1 f_GM_174.2.2.1 hX.1 (gm_o2 hX) hX.2.2.1 f_GM_174.2.2.2.1 f_GM_174.2.2.2.2.1 f_GM_174.2.2.2.2.2 rfl ?_
        refine wp_iconst d_GM_isNumber_142 ?_
        exact wp_zreturn d_GM_isNumber_143 rfl (g_narz (⟨by decide, by decide⟩ : (0 : Int) ≤ 1 ∧ (1 : Int) ≤ 1)) (Nat.zero_le _) (Nat.zero_le _) (kZ_mk (⟨by decide, by decide⟩ : (0 : Int) ≤ 1 ∧ (1 : Int) ≤ 1) T)
      · have T := T.2 h13
        refine wp_lload d_GM_isNumber_131 rfl ?_
        refine wp_goto (tgt := 139) d_GM_isNumber_133 (by decide) ?_
        refine xputJ d_GM_isNumber_139 gc_GM f_GM_174.1 f_GM_174.2.1 f_GM_174.2.2.1 hX.1 (gm_o2 hX) hX.2.2.1 f_GM_174.2.2.2.1 f_GM_174.2.2.2.2.1 f_GM_174.2.2.2.2.2 (w64_id hx6) ?_
        refine wp_iconst d_GM_isNumber_142 ?_
        exact wp_zreturn d_GM_isNumber_143 rfl (g_narz (⟨by decide, by decide⟩ : (0 : Int) ≤ 1 ∧ (1 : Int) ≤ 1)) (Nat.zero_le _) (Nat.zero_le _) (kZ_mk (⟨by decide, by decide⟩ : (0 : Int) ≤ 1 ∧ (1 : Int) ≤ 1) T)
    · have T := T.2 h16
      refine wp_lload d_GM_isNumber_114 rfl ?_
      refine wp_ldc2 (n := (-9223372036854775808)) d_GM_isNumber_116 c_GM_170 rfl ?_
      refine xl_ne (tgt := 125) d_GM_isNumber_119 d_GM_isNumber_120 (by decide) (w64_id hx6) (w64_id (g64_c (x := (-9223372036854775808)) rfl)) (fun h15 => ?_) (fun h15 => ?_)
      · have T := T.1 h15
        refine wp_aload_n d_GM_isNumber_125 rfl rfl (g_nz hX.1) ?_
        refine wp_iload d_GM_isNumber_126 rfl ?_
        refine xz_eq (tgt := 136) d_GM_isNumber_128 (by decide) (w32_id hx4) (fun h14 => ?_) (fun h14 => ?_)
        · have T := T.1 h14
          refine wp_lload d_GM_isNumber_136 rfl ?_
          refine wp_lneg d_GM_isNumber_138 ?_
          refine xputJ d_GM_isNumber_139 gc_GM f_GM_174.1 f_GM_174.2.1 f_GM_174.2.2.1 hX.1 (gm_o2 hX) hX.2.2.1 f_GM_174.2.2.2.1 f_GM_174.2.2.2.2.1 f_GM_174.2.2.2.2.2 rfl ?_
          refine wp_iconst d_GM_isNumber_142 ?_
          exact wp_zreturn d_GM_isNumber_143 rfl (g_narz (⟨by decide, by decide⟩ : (0 : Int) ≤ 1 ∧ (1 : Int) ≤ 1)) (Nat.zero_le _) (Nat.zero_le _) (kZ_mk (⟨by decide, by decide⟩ : (0 : Int) ≤ 1 ∧ (1 : Int) ≤ 1) T)
        · have T := T.2 h14
          refine wp_lload d_GM_isNumber_131 rfl ?_
          refine wp_goto (tgt := 139) d_GM_isNumber_133 (by decide) ?_
          refine xputJ d_GM_isNumber_139 gc_GM f_GM_174.1 f_GM_174.2.1 f_GM_174.2.2.1 hX.1 (gm_o2 hX) hX.2.2.1 f_GM_174.2.2.2.1 f_GM_174.2.2.2.2.1 f_GM_174.2.2.2.2.2 (w64_id hx6) ?_
          refine wp_iconst d_GM_isNumber_142 ?_
          exact wp_zreturn d_GM_isNumber_143 rfl (g_narz (⟨by decide, by decide⟩ : (0 : Int) ≤ 1 ∧ (1 : Int) ≤ 1)) (Nat.zero_le _) (Nat.zero_le _) (kZ_mk (⟨by decide, by decide⟩ : (0 : Int) ≤ 1 ∧ (1 : Int) ≤ 1) T)
      · have T := T.2 h15
        refine wp_iconst d_GM_isNumber_123 ?_
        exact wp_zreturn d_GM_isNumber_124 rfl (g_narz (⟨by decide, by decide⟩ : (0 : Int) ≤ 0 ∧ (0 : Int) ≤ 1)) (Nat.zero_le _) (Nat.zero_le _) (kZ_mk (⟨by decide, by decide⟩ : (0 : Int) ≤ 0 ∧ (0 : Int) ≤ 1) T)
  · have T := T.2 h24
    refine wp_aload_n d_GM_isNumber_51 rfl rfl (g_nz hr1.1) ?_
    refine wp_iload d_GM_isNumber_52 rfl ?_
    refine wp_baload d_GM_isNumber_54 hr1.1 hr1.2.1 hr1.2.2.1 (g32_n T.1 hr1.2.2.2) T.1.1 T.1.2 (fun h17 => ?_)
    have T := T.2 h17
    refine xcS_Z (As := [gI (M r1 (Int.toNat x5))]) (st := []) d_GM_isNumber_55 ca_GM_digit ml_GM_165 sm_GM_digit rfl (by decide) (by decide) rfl T (fun v19 M18 h20 T => ?_)
    refine xz_ne (tgt := 63) d_GM_isNumber_58 (by decide) (w32_id (g32_z h20)) (fun h23 => ?_) (fun h23 => ?_)
    · have T := T.1 h23
      refine wp_aload_n d_GM_isNumber_63 rfl rfl (g_nz hr1.1) ?_
      refine wp_iload d_GM_isNumber_64 rfl ?_
      refine wp_baload d_GM_isNumber_66 hr1.1 hr1.2.1 hr1.2.2.1 (g32_n T.1 hr1.2.2.2) T.1.1 T.1.2 (fun h21 => ?_)
      have T := T.2 h21
      refine wp_bipush d_GM_isNumber_67 ⟨by decide, by decide⟩ ?_
      refine wp_isub d_GM_isNumber_69 ?_
      refine wp_istore (L' := [.val (gR G o), .val (gR G r1), .unset, .val (gI x3), .val (gI x4), .val (gI x5), .val (gL x6), .unset, .val (gI ((M18 r1 (Int.toNat x5)) - 48))]) d_GM_isNumber_70 (by decide) rfl ?_
      refine wp_lload d_GM_isNumber_72 rfl ?_
      refine wp_ldc2 (n := (-9223372036854775808)) d_GM_isNumber_74 c_GM_170 rfl ?_
      refine wp_iload d_GM_isNumber_77 rfl ?_
      refine xi2l d_GM_isNumber_79 rfl ?_
      refine wp_ladd d_GM_isNumber_80 ?_
      refine wp_ldc2 (n := 10) d_GM_isNumber_81 c_GM_172 rfl ?_
      refine xldiv d_GM_isNumber_84 rfl (w64_id (g64_c (x := 10) rfl)) (by decide) ?_
      refine xl_ge (tgt := 91) d_GM_isNumber_85 d_GM_isNumber_86 (by decide) (w64_id hx6) rfl (fun h22 => ?_) (fun h22 => ?_)
      · have T := T.1 h22
        refine wp_lload d_GM_isNumber_91 rfl ?_
        refine wp_ldc2 (n := 10) d_GM_isNumber_93 c_GM_172 rfl ?_
        refine wp_lmul d_GM_isNumber_96 ?_
        refine wp_iload d_GM_isNumber_97 rfl ?_
        refine xi2l d_GM_isNumber_99 rfl ?_
        refine wp_lsub d_GM_isNumber_100 ?_
        refine wp_lstore (L' := [.val (gR G o), .val (gR G r1), .unset, .val (gI x3), .val (gI x4), .val (gI x5), .val (gL ((x6 * 10) - (w32 ((M18 r1 (Int.toNat x5)) - 48)))), .unset, .val (gI ((M18 r1 (Int.toNat x5)) - 48))]) d_GM_isNumber_101 (by decide) rfl ?_
        refine wp_iinc (L' := [.val (gR G o), .val (gR G r1), .unset, .val (gI x3), .val (gI x4), .val (gI (x5 + 1)), .val (gL ((x6 * 10) - (w32 ((M18 r1 (Int.toNat x5)) - 48)))), .unset, .val (gI ((M18 r1 (Int.toNat x5)) - 48))]) d_GM_isNumber_103 rfl (by decide) rfl ?_
        refine wp_goto (tgt := 45) d_GM_isNumber_106 (by decide) ?_
        exact wpt T (And.intro rfl (And.intro rfl (And.intro rfl (And.intro rfl (And.intro (gI_w _) (And.intro (gL_w _) True.intro))))))
      · have T := T.2 h22
        refine wp_iconst d_GM_isNumber_89 ?_
        exact wp_zreturn d_GM_isNumber_90 rfl (g_narz (⟨by decide, by decide⟩ : (0 : Int) ≤ 0 ∧ (0 : Int) ≤ 1)) (Nat.zero_le _) (Nat.zero_le _) (kZ_mk (⟨by decide, by decide⟩ : (0 : Int) ≤ 0 ∧ (0 : Int) ≤ 1) T)
    · have T := T.2 h23
      refine wp_iconst d_GM_isNumber_61 ?_
      exact wp_zreturn d_GM_isNumber_62 rfl (g_narz (⟨by decide, by decide⟩ : (0 : Int) ≤ 0 ∧ (0 : Int) ≤ 1)) (Nat.zero_le _) (Nat.zero_le _) (kZ_mk (⟨by decide, by decide⟩ : (0 : Int) ≤ 0 ∧ (0 : Int) ≤ 1) T)
theorem e_GM_isNumber {l : Launch} {G : gG} {d : Nat} {X : gX} {M : gM} {k : Int → gM → Prop} {o : Nat} {r1 : Nat} {x2 : Int} {x3 : Int} (T : wp l G y_GM_isNumber (gRm (d + 1)) (kkZ X k) 0 [.val (gR G o), .val (gR G r1), .val (gI x2), .val (gI x3), .unset, .unset, .unset, .unset, .unset] [] X M 0 0) : cZ l G y_GM_isNumber (gRm (d + 1)) [gR G o, gR G r1, gI x2, gI x3] X M k := cen_Z rfl (by simp only [lg_sl_R, lg_sl_I, lg_sl_L, lg_sl_N, List.length_cons, List.length_nil]; decide) (by unfold gEn; simp only [lg_sl_R, lg_sl_I, lg_sl_L, lg_sl_N]; exact wpt T (And.intro rfl (And.intro rfl (And.intro rfl (And.intro rfl True.intro)))))
theorem d_GM_token_0 : decode prog_15_method_8_code 0 = .ok (.aload_n 0, 1) := by decide +kernel
theorem d_GM_token_1 : decode prog_15_method_8_code 1 = .ok (.getfield 178, 3) := by decide +kernel
theorem d_GM_token_4 : decode prog_15_method_8_code 4 = .ok (.bipush 100, 2) := by decide +kernel
theorem d_GM_token_6 : decode prog_15_method_8_code 6 = .ok (.if_icmp .ne 9, 3) := by decide +kernel
theorem d_GM_token_15 : decode prog_15_method_8_code 15 = .ok (.aload_n 0, 1) := by decide +kernel
theorem d_GM_token_16 : decode prog_15_method_8_code 16 = .ok (.getfield 50, 3) := by decide +kernel
theorem d_GM_token_19 : decode prog_15_method_8_code 19 = .ok (.aload_n 0, 1) := by decide +kernel
theorem d_GM_token_20 : decode prog_15_method_8_code 20 = .ok (.getfield 178, 3) := by decide +kernel
theorem d_GM_token_23 : decode prog_15_method_8_code 23 = .ok (.iload_n 1, 1) := by decide +kernel
theorem d_GM_token_24 : decode prog_15_method_8_code 24 = .ok (.iastore, 1) := by decide +kernel
theorem d_GM_token_25 : decode prog_15_method_8_code 25 = .ok (.aload_n 0, 1) := by decide +kernel
theorem d_GM_token_26 : decode prog_15_method_8_code 26 = .ok (.getfield 53, 3) := by decide +kernel
theorem d_GM_token_29 : decode prog_15_method_8_code 29 = .ok (.aload_n 0, 1) := by decide +kernel
theorem d_GM_token_30 : decode prog_15_method_8_code 30 = .ok (.getfield 178, 3) := by decide +kernel
theorem d_GM_token_33 : decode prog_15_method_8_code 33 = .ok (.iload_n 2, 1) := by decide +kernel
theorem d_GM_token_34 : decode prog_15_method_8_code 34 = .ok (.iastore, 1) := by decide +kernel
theorem d_GM_token_35 : decode prog_15_method_8_code 35 = .ok (.aload_n 0, 1) := by decide +kernel
theorem d_GM_token_36 : decode prog_15_method_8_code 36 = .ok (.getfield 56, 3) := by decide +kernel
theorem d_GM_token_39 : decode prog_15_method_8_code 39 = .ok (.aload_n 0, 1) := by decide +kernel
theorem d_GM_token_40 : decode prog_15_method_8_code 40 = .ok (.getfield 178, 3) := by decide +kernel
theorem d_GM_token_43 : decode prog_15_method_8_code 43 = .ok (.iload_n 3, 1) := by decide +kernel
theorem d_GM_token_44 : decode prog_15_method_8_code 44 = .ok (.iastore, 1) := by decide +kernel
theorem d_GM_token_45 : decode prog_15_method_8_code 45 = .ok (.aload_n 0, 1) := by decide +kernel
theorem d_GM_token_46 : decode prog_15_method_8_code 46 = .ok (.dup, 1) := by decide +kernel
theorem d_GM_token_47 : decode prog_15_method_8_code 47 = .ok (.getfield 178, 3) := by decide +kernel
theorem d_GM_token_50 : decode prog_15_method_8_code 50 = .ok (.iconst 1, 1) := by decide +kernel
theorem d_GM_token_51 : decode prog_15_method_8_code 51 = .ok (.iadd, 1) := by decide +kernel
theorem d_GM_token_52 : decode prog_15_method_8_code 52 = .ok (.putfield 178, 3) := by decide +kernel
theorem d_GM_token_55 : decode prog_15_method_8_code 55 = .ok (.return_, 1) := by decide +kernel
theorem d_GM_token_9 : decode prog_15_method_8_code 9 = .ok (.aload_n 0, 1) := by decide +kernel
theorem d_GM_token_10 : decode prog_15_method_8_code 10 = .ok (.iconst 1, 1) := by decide +kernel
theorem d_GM_token_11 : decode prog_15_method_8_code 11 = .ok (.putfield 181, 3) := by decide +kernel
theorem d_GM_token_14 : decode prog_15_method_8_code 14 = .ok (.return_, 1) := by decide +kernel
set_option maxHeartbeats 4000000 in
theorem w_GM_token_0 {l : Launch} {G : gG} {d : Nat} {X : gX} {M : gM} {k : gM → Prop} {o : Nat} (hX : gmX X o) {x1 : Int} (hx1 : g32 x1) {x2 : Int} (hx2 : g32 x2) {x3 : Int} (hx3 : g32 x3) (T : g32 (M o 24) → ((¬ M o 24 = 100 → (g32 (M o 24) → ((0 ≤ M o 24 ∧ M o 24 < 101) ∧ (g32 ((gUp M (o + 13) (Int.toNat (M o 24)) x1) o 24) → ((0 ≤ (gUp M (o + 13) (Int.toNat (M o 24)) x1) o 24 ∧ (gUp M (o + 13) (Int.toNat (M o 24)) x1) o 24 < 101) ∧ (g32 ((gUp (gUp M (o + 13) (Int.toNat (M o 24)) x1) (o + 14) (Int.toNat ((gUp M (o + 13) (Int.toNat (M o 24)) x1) o 24)) x2) o 24) → ((0 ≤ (gUp (gUp M (o + 13) (Int.toNat (M o 24)) x1) (o + 14) (Int.toNat ((gUp M (o + 13) (Int.toNat (M o 24)) x1) o 24)) x2) o 24 ∧ (gUp (gUp M (o + 13) (Int.toNat (M o 24)) x1) (o + 14) (Int.toNat ((gUp M (o + 13) (Int.toNat (M o 24)) x1) o 24)) x2) o 24 < 101) ∧ (g32 ((gUp (gUp (gUp M (o + 13) (Int.toNat (M o 24)) x1) (o + 14) (Int.toNat ((gUp M (o + 13) (Int.toNat (M o 24)) x1) o 24)) x2) (o + 15) (Int.toNat ((gUp (gUp M (o + 13) (Int.toNat (M o 24)) x1) (o + 14) (Int.toNat ((gUp M (o + 13) (Int.toNat (M o 24)) x1) o 24)) x2) o 24)) x3) o 24) → (k (gUp (gUp (gUp (gUp M (o + 13) (Int.toNat (M o 24)) x1) (o + 14) (Int.toNat ((gUp M (o + 13) (Int.toNat (M o 24)) x1) o 24)) x2) (o + 15) (Int.toNat ((gUp (gUp M (o + 13) (Int.toNat (M o 24)) x1) (o + 14) (Int.toNat ((gUp M (o + 13) (Int.toNat (M o 24)) x1) o 24)) x2) o 24)) x3) o 24 (w32 (((gUp (gUp (gUp M (o + 13) (Int.toNat (M o 24)) x1) (o + 14) (Int.toNat ((gUp M (o + 13) (Int.toNat (M o 24)) x1) o 24)) x2) (o + 15) (Int.toNat ((gUp (gUp M (o + 13) (Int.toNat (M o 24)) x1) (o + 14) (Int.toNat ((gUp M (o + 13) (Int.toNat (M o 24)) x1) o 24)) x2) o 24)) x3) o 24) + 1)))))))))))) ∧ (M o 24 = 100 → (k (gUp M o 27 1))))) : wp l G y_GM_token (gRm d) (kkV X k) 0 [.val (gR G o), .val (gI x1), .val (gI x2), .val (gI x3)] [] X M 0 0 := by
  refine wp_aload_n d_GM_token_0 rfl rfl (g_nz hX.1) ?_
  refine xgetI d_GM_token_1 gc_GM f_GM_178.1 f_GM_178.2.1 f_GM_178.2.2.1 hX.1 (gm_o2 hX) hX.2.2.1 f_GM_178.2.2.2.2.1 (fun h1 => ?_)
  have T := T h1
  refine wp_bipush d_GM_token_4 ⟨by decide, by decide⟩ ?_
  refine xi_ne (tgt := 15) d_GM_token_6 (by decide) (w32_id h1) (w32_id (g32_c (x := 100) rfl)) (fun h6 => ?_) (fun h6 => ?_)
  · have T := T.1 h6
    refine wp_aload_n d_GM_token_15 rfl rfl (g_nz hX.1) ?_
    refine xgetR d_GM_token_16 gc_GM f_GM_50.1 f_GM_50.2.1 f_GM_50.2.2.1 hX.1 (gm_o2 hX) hX.2.2.1 f_GM_50.2.2.2.2.1 (gm_row hX 12 rfl).1 ?_
    refine wp_aload_n d_GM_token_19 rfl rfl (g_nz hX.1) ?_
    refine xgetI d_GM_token_20 gc_GM f_GM_178.1 f_GM_178.2.1 f_GM_178.2.2.1 hX.1 (gm_o2 hX) hX.2.2.1 f_GM_178.2.2.2.2.1 (fun h2 => ?_)
    have T := T h2
    refine wp_iload_n d_GM_token_23 rfl rfl ?_
    refine xiast d_GM_token_24 (gm_row hX 12 rfl).2.2.1 (gm_row hX 12 rfl).2.2.2 (gm_row hX 12 rfl).2.1 (by decide) T.1 (w32_id hx1) ?_
    have T := T.2
    refine wp_aload_n d_GM_token_25 rfl rfl (g_nz hX.1) ?_
    refine xgetR d_GM_token_26 gc_GM f_GM_53.1 f_GM_53.2.1 f_GM_53.2.2.1 hX.1 (gm_o2 hX) hX.2.2.1 f_GM_53.2.2.2.2.1 (gm_row hX 13 rfl).1 ?_
    refine wp_aload_n d_GM_token_29 rfl rfl (g_nz hX.1) ?_
    refine xgetI d_GM_token_30 gc_GM f_GM_178.1 f_GM_178.2.1 f_GM_178.2.2.1 hX.1 (gm_o2 hX) hX.2.2.1 f_GM_178.2.2.2.2.1 (fun h3 => ?_)
    have T := T h3
    refine wp_iload_n d_GM_token_33 rfl rfl ?_
    refine xiast d_GM_token_34 (gm_row hX 13 rfl).2.2.1 (gm_row hX 13 rfl).2.2.2 (gm_row hX 13 rfl).2.1 (by decide) T.1 (w32_id hx2) ?_
    have T := T.2
    refine wp_aload_n d_GM_token_35 rfl rfl (g_nz hX.1) ?_
    refine xgetR d_GM_token_36 gc_GM f_GM_56.1 f_GM_56.2.1 f_GM_56.2.2.1 hX.1 (gm_o2 hX) hX.2.2.1 f_GM_56.2.2.2.2.1 (gm_row hX 14 rfl).1 ?_
    refine wp_aload_n d_GM_token_39 rfl rfl (g_nz hX.1) ?_
    refine xgetI d_GM_token_40 gc_GM f_GM_178.1 f_GM_178.2.1 f_GM_178.2.2.1 hX.1 (gm_o2 hX) hX.2.2.1 f_GM_178.2.2.2.2.1 (fun h4 => ?_)
    have T := T h4
    refine wp_iload_n d_GM_token_43 rfl rfl ?_
    refine xiast d_GM_token_44 (gm_row hX 14 rfl).2.2.1 (gm_row hX 14 rfl).2.2.2 (gm_row hX 14 rfl).2.1 (by decide) T.1 (w32_id hx3) ?_
    have T := T.2
    refine wp_aload_n d_GM_token_45 rfl rfl (g_nz hX.1) ?_
    refine wp_dup d_GM_token_46 (gR_cat _) ?_
    refine xgetI d_GM_token_47 gc_GM f_GM_178.1 f_GM_178.2.1 f_GM_178.2.2.1 hX.1 (gm_o2 hX) hX.2.2.1 f_GM_178.2.2.2.2.1 (fun h5 => ?_)
    have T := T h5
    refine wp_iconst d_GM_token_50 ?_
    refine wp_iadd d_GM_token_51 ?_
    refine xputI d_GM_token_52 gc_GM f_GM_178.1 f_GM_178.2.1 f_GM_178.2.2.1 hX.1 (gm_o2 hX) hX.2.2.1 f_GM_178.2.2.2.1 f_GM_178.2.2.2.2.1 f_GM_178.2.2.2.2.2 rfl ?_
    exact wp_return d_GM_token_55 rfl (Nat.zero_le _) (Nat.zero_le _) (kV_mk T)
  · have T := T.2 h6
    refine wp_aload_n d_GM_token_9 rfl rfl (g_nz hX.1) ?_
    refine wp_iconst d_GM_token_10 ?_
    refine xputZ d_GM_token_11 gc_GM f_GM_181.1 f_GM_181.2.1 f_GM_181.2.2.1 hX.1 (gm_o2 hX) hX.2.2.1 f_GM_181.2.2.2.1 f_GM_181.2.2.2.2.1 f_GM_181.2.2.2.2.2 (⟨by decide, by decide⟩ : (0 : Int) ≤ 1 ∧ (1 : Int) ≤ 1) ?_
    exact wp_return d_GM_token_14 rfl (Nat.zero_le _) (Nat.zero_le _) (kV_mk T)
theorem e_GM_token {l : Launch} {G : gG} {d : Nat} {X : gX} {M : gM} {k : gM → Prop} {o : Nat} {x1 : Int} {x2 : Int} {x3 : Int} (T : wp l G y_GM_token (gRm d) (kkV X k) 0 [.val (gR G o), .val (gI x1), .val (gI x2), .val (gI x3)] [] X M 0 0) : cV l G y_GM_token (gRm d) [gR G o, gI x1, gI x2, gI x3] X M k := cen_V rfl (by simp only [lg_sl_R, lg_sl_I, lg_sl_L, lg_sl_N, List.length_cons, List.length_nil]; decide) (by unfold gEn; simp only [lg_sl_R, lg_sl_I, lg_sl_L, lg_sl_N]; exact wpt T (And.intro rfl (And.intro rfl (And.intro rfl (And.intro rfl True.intro)))))
theorem d_GM_cut_0 : decode prog_15_method_11_code 0 = .ok (.aload_n 0, 1) := by decide +kernel
theorem d_GM_cut_1 : decode prog_15_method_11_code 1 = .ok (.iconst 0, 1) := by decide +kernel
theorem d_GM_cut_2 : decode prog_15_method_11_code 2 = .ok (.putfield 178, 3) := by decide +kernel
theorem d_GM_cut_5 : decode prog_15_method_11_code 5 = .ok (.iload_n 1, 1) := by decide +kernel
theorem d_GM_cut_6 : decode prog_15_method_11_code 6 = .ok (.istore_n 3, 1) := by decide +kernel
theorem d_GM_cut_7 : decode prog_15_method_11_code 7 = .ok (.iload_n 3, 1) := by decide +kernel
theorem d_GM_cut_8 : decode prog_15_method_11_code 8 = .ok (.iload_n 2, 1) := by decide +kernel
theorem d_GM_cut_9 : decode prog_15_method_11_code 9 = .ok (.if_icmp .ge 396, 3) := by decide +kernel
theorem d_GM_cut_405 : decode prog_15_method_11_code 405 = .ok (.return_, 1) := by decide +kernel
theorem d_GM_cut_12 : decode prog_15_method_11_code 12 = .ok (.aload_n 0, 1) := by decide +kernel
theorem d_GM_cut_13 : decode prog_15_method_11_code 13 = .ok (.getfield 181, 3) := by decide +kernel
theorem d_GM_cut_16 : decode prog_15_method_11_code 16 = .ok (.ifCond .ne 389, 3) := by decide +kernel
theorem d_GM_cut_19 : decode prog_15_method_11_code 19 = .ok (.aload_n 0, 1) := by decide +kernel
theorem d_GM_cut_20 : decode prog_15_method_11_code 20 = .ok (.getfield 8, 3) := by decide +kernel
theorem d_GM_cut_23 : decode prog_15_method_11_code 23 = .ok (.iload_n 3, 1) := by decide +kernel
theorem d_GM_cut_24 : decode prog_15_method_11_code 24 = .ok (.baload, 1) := by decide +kernel
theorem d_GM_cut_25 : decode prog_15_method_11_code 25 = .ok (.istore 4, 2) := by decide +kernel
theorem d_GM_cut_27 : decode prog_15_method_11_code 27 = .ok (.iload_n 3, 1) := by decide +kernel
theorem d_GM_cut_28 : decode prog_15_method_11_code 28 = .ok (.iconst 1, 1) := by decide +kernel
theorem d_GM_cut_29 : decode prog_15_method_11_code 29 = .ok (.iadd, 1) := by decide +kernel
theorem d_GM_cut_30 : decode prog_15_method_11_code 30 = .ok (.iload_n 2, 1) := by decide +kernel
theorem d_GM_cut_31 : decode prog_15_method_11_code 31 = .ok (.if_icmp .ge 14, 3) := by decide +kernel
theorem d_GM_cut_45 : decode prog_15_method_11_code 45 = .ok (.iconst 0, 1) := by decide +kernel
theorem d_GM_cut_46 : decode prog_15_method_11_code 46 = .ok (.istore 5, 2) := by decide +kernel
theorem d_GM_cut_48 : decode prog_15_method_11_code 48 = .ok (.iload_n 3, 1) := by decide +kernel
theorem d_GM_cut_49 : decode prog_15_method_11_code 49 = .ok (.istore 6, 2) := by decide +kernel
theorem d_GM_cut_51 : decode prog_15_method_11_code 51 = .ok (.iinc 3 1, 3) := by decide +kernel
theorem d_GM_cut_54 : decode prog_15_method_11_code 54 = .ok (.iload 4, 2) := by decide +kernel
theorem d_GM_cut_56 : decode prog_15_method_11_code 56 = .ok (.bipush 32, 2) := by decide +kernel
theorem d_GM_cut_58 : decode prog_15_method_11_code 58 = .ok (.if_icmp .ne 6, 3) := by decide +kernel
theorem d_GM_cut_64 : decode prog_15_method_11_code 64 = .ok (.iload 4, 2) := by decide +kernel
theorem d_GM_cut_66 : decode prog_15_method_11_code 66 = .ok (.invokestatic 211, 3) := by decide +kernel
theorem d_GM_cut_69 : decode prog_15_method_11_code 69 = .ok (.ifCond .ne 18, 3) := by decide +kernel
theorem d_GM_cut_72 : decode prog_15_method_11_code 72 = .ok (.iload 4, 2) := by decide +kernel
theorem d_GM_cut_74 : decode prog_15_method_11_code 74 = .ok (.invokestatic 165, 3) := by decide +kernel
theorem d_GM_cut_77 : decode prog_15_method_11_code 77 = .ok (.ifCond .ne 10, 3) := by decide +kernel
theorem d_GM_cut_80 : decode prog_15_method_11_code 80 = .ok (.iload 4, 2) := by decide +kernel
theorem d_GM_cut_82 : decode prog_15_method_11_code 82 = .ok (.bipush 36, 2) := by decide +kernel
theorem d_GM_cut_84 : decode prog_15_method_11_code 84 = .ok (.if_icmp .ne 59, 3) := by decide +kernel
theorem d_GM_cut_143 : decode prog_15_method_11_code 143 = .ok (.iload 4, 2) := by decide +kernel
theorem d_GM_cut_145 : decode prog_15_method_11_code 145 = .ok (.bipush 34, 2) := by decide +kernel
theorem d_GM_cut_147 : decode prog_15_method_11_code 147 = .ok (.if_icmp .ne 64, 3) := by decide +kernel
theorem d_GM_cut_211 : decode prog_15_method_11_code 211 = .ok (.iload 4, 2) := by decide +kernel
theorem d_GM_cut_213 : decode prog_15_method_11_code 213 = .ok (.bipush 60, 2) := by decide +kernel
theorem d_GM_cut_215 : decode prog_15_method_11_code 215 = .ok (.if_icmp .ne 17, 3) := by decide +kernel
theorem d_GM_cut_218 : decode prog_15_method_11_code 218 = .ok (.iload 5, 2) := by decide +kernel
theorem d_GM_cut_220 : decode prog_15_method_11_code 220 = .ok (.bipush 62, 2) := by decide +kernel
theorem d_GM_cut_222 : decode prog_15_method_11_code 222 = .ok (.if_icmp .eq 24, 3) := by decide +kernel
theorem d_GM_cut_225 : decode prog_15_method_11_code 225 = .ok (.iload 5, 2) := by decide +kernel
theorem d_GM_cut_227 : decode prog_15_method_11_code 227 = .ok (.bipush 61, 2) := by decide +kernel
theorem d_GM_cut_229 : decode prog_15_method_11_code 229 = .ok (.if_icmp .eq 17, 3) := by decide +kernel
theorem d_GM_cut_61 : decode prog_15_method_11_code 61 = .ok (.goto (-54), 3) := by decide +kernel
theorem d_GM_cut_34 : decode prog_15_method_11_code 34 = .ok (.aload_n 0, 1) := by decide +kernel
theorem d_GM_cut_35 : decode prog_15_method_11_code 35 = .ok (.getfield 8, 3) := by decide +kernel
theorem d_GM_cut_38 : decode prog_15_method_11_code 38 = .ok (.iload_n 3, 1) := by decide +kernel
theorem d_GM_cut_39 : decode prog_15_method_11_code 39 = .ok (.iconst 1, 1) := by decide +kernel
theorem d_GM_cut_40 : decode prog_15_method_11_code 40 = .ok (.iadd, 1) := by decide +kernel
theorem d_GM_cut_41 : decode prog_15_method_11_code 41 = .ok (.baload, 1) := by decide +kernel
theorem d_GM_cut_42 : decode prog_15_method_11_code 42 = .ok (.goto 4, 3) := by decide +kernel
theorem d_GM_cut_87 : decode prog_15_method_11_code 87 = .ok (.iload_n 3, 1) := by decide +kernel
theorem d_GM_cut_88 : decode prog_15_method_11_code 88 = .ok (.iload_n 2, 1) := by decide +kernel
theorem d_GM_cut_89 : decode prog_15_method_11_code 89 = .ok (.if_icmp .ge 44, 3) := by decide +kernel
theorem d_GM_cut_133 : decode prog_15_method_11_code 133 = .ok (.aload_n 0, 1) := by decide +kernel
theorem d_GM_cut_134 : decode prog_15_method_11_code 134 = .ok (.iload 6, 2) := by decide +kernel
theorem d_GM_cut_136 : decode prog_15_method_11_code 136 = .ok (.iload_n 3, 1) := by decide +kernel
theorem d_GM_cut_137 : decode prog_15_method_11_code 137 = .ok (.invokevirtual 214, 3) := by decide +kernel
theorem d_GM_cut_140 : decode prog_15_method_11_code 140 = .ok (.goto 262, 3) := by decide +kernel
theorem d_GM_cut_402 : decode prog_15_method_11_code 402 = .ok (.goto (-395), 3) := by decide +kernel
theorem d_GM_cut_92 : decode prog_15_method_11_code 92 = .ok (.aload_n 0, 1) := by decide +kernel
theorem d_GM_cut_93 : decode prog_15_method_11_code 93 = .ok (.getfield 8, 3) := by decide +kernel
theorem d_GM_cut_96 : decode prog_15_method_11_code 96 = .ok (.iload_n 3, 1) := by decide +kernel
theorem d_GM_cut_97 : decode prog_15_method_11_code 97 = .ok (.baload, 1) := by decide +kernel
theorem d_GM_cut_98 : decode prog_15_method_11_code 98 = .ok (.invokestatic 211, 3) := by decide +kernel
theorem d_GM_cut_101 : decode prog_15_method_11_code 101 = .ok (.ifCond .ne 26, 3) := by decide +kernel
theorem d_GM_cut_127 : decode prog_15_method_11_code 127 = .ok (.iinc 3 1, 3) := by decide +kernel
theorem d_GM_cut_130 : decode prog_15_method_11_code 130 = .ok (.goto (-43), 3) := by decide +kernel
theorem d_GM_cut_104 : decode prog_15_method_11_code 104 = .ok (.aload_n 0, 1) := by decide +kernel
theorem d_GM_cut_105 : decode prog_15_method_11_code 105 = .ok (.getfield 8, 3) := by decide +kernel
theorem d_GM_cut_108 : decode prog_15_method_11_code 108 = .ok (.iload_n 3, 1) := by decide +kernel
theorem d_GM_cut_109 : decode prog_15_method_11_code 109 = .ok (.baload, 1) := by decide +kernel
theorem d_GM_cut_110 : decode prog_15_method_11_code 110 = .ok (.invokestatic 165, 3) := by decide +kernel
theorem d_GM_cut_113 : decode prog_15_method_11_code 113 = .ok (.ifCond .ne 14, 3) := by decide +kernel
theorem d_GM_cut_116 : decode prog_15_method_11_code 116 = .ok (.aload_n 0, 1) := by decide +kernel
theorem d_GM_cut_117 : decode prog_15_method_11_code 117 = .ok (.getfield 8, 3) := by decide +kernel
theorem d_GM_cut_120 : decode prog_15_method_11_code 120 = .ok (.iload_n 3, 1) := by decide +kernel
theorem d_GM_cut_121 : decode prog_15_method_11_code 121 = .ok (.baload, 1) := by decide +kernel
theorem d_GM_cut_122 : decode prog_15_method_11_code 122 = .ok (.bipush 36, 2) := by decide +kernel
theorem d_GM_cut_124 : decode prog_15_method_11_code 124 = .ok (.if_icmp .ne 9, 3) := by decide +kernel
theorem d_GM_cut_232 : decode prog_15_method_11_code 232 = .ok (.iload 4, 2) := by decide +kernel
theorem d_GM_cut_234 : decode prog_15_method_11_code 234 = .ok (.bipush 62, 2) := by decide +kernel
theorem d_GM_cut_236 : decode prog_15_method_11_code 236 = .ok (.if_icmp .ne 51, 3) := by decide +kernel
theorem d_GM_cut_239 : decode prog_15_method_11_code 239 = .ok (.iload 5, 2) := by decide +kernel
theorem d_GM_cut_241 : decode prog_15_method_11_code 241 = .ok (.bipush 61, 2) := by decide +kernel
theorem d_GM_cut_243 : decode prog_15_method_11_code 243 = .ok (.if_icmp .ne 44, 3) := by decide +kernel
theorem d_GM_cut_246 : decode prog_15_method_11_code 246 = .ok (.aload_n 0, 1) := by decide +kernel
theorem d_GM_cut_247 : decode prog_15_method_11_code 247 = .ok (.iload 4, 2) := by decide +kernel
theorem d_GM_cut_249 : decode prog_15_method_11_code 249 = .ok (.bipush 62, 2) := by decide +kernel
theorem d_GM_cut_251 : decode prog_15_method_11_code 251 = .ok (.if_icmp .ne 8, 3) := by decide +kernel
theorem d_GM_cut_259 : decode prog_15_method_11_code 259 = .ok (.iload 5, 2) := by decide +kernel
theorem d_GM_cut_261 : decode prog_15_method_11_code 261 = .ok (.bipush 62, 2) := by decide +kernel
theorem d_GM_cut_263 : decode prog_15_method_11_code 263 = .ok (.if_icmp .ne 8, 3) := by decide +kernel
theorem d_GM_cut_271 : decode prog_15_method_11_code 271 = .ok (.bipush 108, 2) := by decide +kernel
theorem d_GM_cut_273 : decode prog_15_method_11_code 273 = .ok (.iload 6, 2) := by decide +kernel
theorem d_GM_cut_275 : decode prog_15_method_11_code 275 = .ok (.iload_n 3, 1) := by decide +kernel
theorem d_GM_cut_276 : decode prog_15_method_11_code 276 = .ok (.iconst 1, 1) := by decide +kernel
theorem d_GM_cut_277 : decode prog_15_method_11_code 277 = .ok (.iadd, 1) := by decide +kernel
theorem d_GM_cut_278 : decode prog_15_method_11_code 278 = .ok (.invokevirtual 189, 3) := by decide +kernel
theorem d_GM_cut_281 : decode prog_15_method_11_code 281 = .ok (.iinc 3 1, 3) := by decide +kernel
theorem d_GM_cut_284 : decode prog_15_method_11_code 284 = .ok (.goto 118, 3) := by decide +kernel
theorem d_GM_cut_266 : decode prog_15_method_11_code 266 = .ok (.bipush 110, 2) := by decide +kernel
theorem d_GM_cut_268 : decode prog_15_method_11_code 268 = .ok (.goto 5, 3) := by decide +kernel
theorem d_GM_cut_254 : decode prog_15_method_11_code 254 = .ok (.bipush 103, 2) := by decide +kernel
theorem d_GM_cut_256 : decode prog_15_method_11_code 256 = .ok (.goto 17, 3) := by decide +kernel
theorem d_GM_cut_150 : decode prog_15_method_11_code 150 = .ok (.iload_n 3, 1) := by decide +kernel
theorem d_GM_cut_151 : decode prog_15_method_11_code 151 = .ok (.iload_n 2, 1) := by decide +kernel
theorem d_GM_cut_152 : decode prog_15_method_11_code 152 = .ok (.if_icmp .ge 20, 3) := by decide +kernel
theorem d_GM_cut_172 : decode prog_15_method_11_code 172 = .ok (.aload_n 0, 1) := by decide +kernel
theorem d_GM_cut_173 : decode prog_15_method_11_code 173 = .ok (.iload_n 3, 1) := by decide +kernel
theorem d_GM_cut_174 : decode prog_15_method_11_code 174 = .ok (.iload_n 2, 1) := by decide +kernel
theorem d_GM_cut_175 : decode prog_15_method_11_code 175 = .ok (.if_icmp .eq 12, 3) := by decide +kernel
theorem d_GM_cut_187 : decode prog_15_method_11_code 187 = .ok (.iconst 1, 1) := by decide +kernel
theorem d_GM_cut_188 : decode prog_15_method_11_code 188 = .ok (.goto 4, 3) := by decide +kernel
theorem d_GM_cut_192 : decode prog_15_method_11_code 192 = .ok (.putfield 181, 3) := by decide +kernel
theorem d_GM_cut_195 : decode prog_15_method_11_code 195 = .ok (.aload_n 0, 1) := by decide +kernel
theorem d_GM_cut_196 : decode prog_15_method_11_code 196 = .ok (.iconst 2, 1) := by decide +kernel
theorem d_GM_cut_197 : decode prog_15_method_11_code 197 = .ok (.iload 6, 2) := by decide +kernel
theorem d_GM_cut_199 : decode prog_15_method_11_code 199 = .ok (.iconst 1, 1) := by decide +kernel
theorem d_GM_cut_200 : decode prog_15_method_11_code 200 = .ok (.iadd, 1) := by decide +kernel
theorem d_GM_cut_201 : decode prog_15_method_11_code 201 = .ok (.iload_n 3, 1) := by decide +kernel
theorem d_GM_cut_202 : decode prog_15_method_11_code 202 = .ok (.invokevirtual 189, 3) := by decide +kernel
theorem d_GM_cut_205 : decode prog_15_method_11_code 205 = .ok (.iinc 3 1, 3) := by decide +kernel
theorem d_GM_cut_208 : decode prog_15_method_11_code 208 = .ok (.goto 194, 3) := by decide +kernel
theorem d_GM_cut_178 : decode prog_15_method_11_code 178 = .ok (.iload_n 3, 1) := by decide +kernel
theorem d_GM_cut_179 : decode prog_15_method_11_code 179 = .ok (.iload 6, 2) := by decide +kernel
theorem d_GM_cut_181 : decode prog_15_method_11_code 181 = .ok (.isub, 1) := by decide +kernel
theorem d_GM_cut_182 : decode prog_15_method_11_code 182 = .ok (.bipush 65, 2) := by decide +kernel
theorem d_GM_cut_184 : decode prog_15_method_11_code 184 = .ok (.if_icmp .le 7, 3) := by decide +kernel
theorem d_GM_cut_191 : decode prog_15_method_11_code 191 = .ok (.iconst 0, 1) := by decide +kernel
theorem d_GM_cut_155 : decode prog_15_method_11_code 155 = .ok (.aload_n 0, 1) := by decide +kernel
theorem d_GM_cut_156 : decode prog_15_method_11_code 156 = .ok (.getfield 8, 3) := by decide +kernel
theorem d_GM_cut_159 : decode prog_15_method_11_code 159 = .ok (.iload_n 3, 1) := by decide +kernel
theorem d_GM_cut_160 : decode prog_15_method_11_code 160 = .ok (.baload, 1) := by decide +kernel
theorem d_GM_cut_161 : decode prog_15_method_11_code 161 = .ok (.bipush 34, 2) := by decide +kernel
theorem d_GM_cut_163 : decode prog_15_method_11_code 163 = .ok (.if_icmp .eq 9, 3) := by decide +kernel
theorem d_GM_cut_166 : decode prog_15_method_11_code 166 = .ok (.iinc 3 1, 3) := by decide +kernel
theorem d_GM_cut_169 : decode prog_15_method_11_code 169 = .ok (.goto (-19), 3) := by decide +kernel
theorem d_GM_cut_287 : decode prog_15_method_11_code 287 = .ok (.iload 4, 2) := by decide +kernel
theorem d_GM_cut_289 : decode prog_15_method_11_code 289 = .ok (.bipush 61, 2) := by decide +kernel
theorem d_GM_cut_291 : decode prog_15_method_11_code 291 = .ok (.if_icmp .eq 94, 3) := by decide +kernel
theorem d_GM_cut_294 : decode prog_15_method_11_code 294 = .ok (.iload 4, 2) := by decide +kernel
theorem d_GM_cut_296 : decode prog_15_method_11_code 296 = .ok (.bipush 60, 2) := by decide +kernel
theorem d_GM_cut_298 : decode prog_15_method_11_code 298 = .ok (.if_icmp .eq 87, 3) := by decide +kernel
theorem d_GM_cut_301 : decode prog_15_method_11_code 301 = .ok (.iload 4, 2) := by decide +kernel
theorem d_GM_cut_303 : decode prog_15_method_11_code 303 = .ok (.bipush 62, 2) := by decide +kernel
theorem d_GM_cut_305 : decode prog_15_method_11_code 305 = .ok (.if_icmp .eq 80, 3) := by decide +kernel
theorem d_GM_cut_308 : decode prog_15_method_11_code 308 = .ok (.iload 4, 2) := by decide +kernel
theorem d_GM_cut_310 : decode prog_15_method_11_code 310 = .ok (.bipush 38, 2) := by decide +kernel
theorem d_GM_cut_312 : decode prog_15_method_11_code 312 = .ok (.if_icmp .eq 73, 3) := by decide +kernel
theorem d_GM_cut_315 : decode prog_15_method_11_code 315 = .ok (.iload 4, 2) := by decide +kernel
theorem d_GM_cut_317 : decode prog_15_method_11_code 317 = .ok (.bipush 43, 2) := by decide +kernel
theorem d_GM_cut_319 : decode prog_15_method_11_code 319 = .ok (.if_icmp .eq 66, 3) := by decide +kernel
theorem d_GM_cut_322 : decode prog_15_method_11_code 322 = .ok (.iload 4, 2) := by decide +kernel
theorem d_GM_cut_324 : decode prog_15_method_11_code 324 = .ok (.bipush 45, 2) := by decide +kernel
theorem d_GM_cut_326 : decode prog_15_method_11_code 326 = .ok (.if_icmp .eq 59, 3) := by decide +kernel
theorem d_GM_cut_329 : decode prog_15_method_11_code 329 = .ok (.iload 4, 2) := by decide +kernel
theorem d_GM_cut_331 : decode prog_15_method_11_code 331 = .ok (.bipush 42, 2) := by decide +kernel
theorem d_GM_cut_333 : decode prog_15_method_11_code 333 = .ok (.if_icmp .eq 52, 3) := by decide +kernel
theorem d_GM_cut_336 : decode prog_15_method_11_code 336 = .ok (.iload 4, 2) := by decide +kernel
theorem d_GM_cut_338 : decode prog_15_method_11_code 338 = .ok (.bipush 47, 2) := by decide +kernel
theorem d_GM_cut_340 : decode prog_15_method_11_code 340 = .ok (.if_icmp .eq 45, 3) := by decide +kernel
theorem d_GM_cut_343 : decode prog_15_method_11_code 343 = .ok (.iload 4, 2) := by decide +kernel
theorem d_GM_cut_345 : decode prog_15_method_11_code 345 = .ok (.bipush 94, 2) := by decide +kernel
theorem d_GM_cut_347 : decode prog_15_method_11_code 347 = .ok (.if_icmp .eq 38, 3) := by decide +kernel
theorem d_GM_cut_350 : decode prog_15_method_11_code 350 = .ok (.iload 4, 2) := by decide +kernel
theorem d_GM_cut_352 : decode prog_15_method_11_code 352 = .ok (.bipush 37, 2) := by decide +kernel
theorem d_GM_cut_354 : decode prog_15_method_11_code 354 = .ok (.if_icmp .eq 31, 3) := by decide +kernel
theorem d_GM_cut_357 : decode prog_15_method_11_code 357 = .ok (.iload 4, 2) := by decide +kernel
theorem d_GM_cut_359 : decode prog_15_method_11_code 359 = .ok (.bipush 40, 2) := by decide +kernel
theorem d_GM_cut_361 : decode prog_15_method_11_code 361 = .ok (.if_icmp .eq 24, 3) := by decide +kernel
theorem d_GM_cut_364 : decode prog_15_method_11_code 364 = .ok (.iload 4, 2) := by decide +kernel
theorem d_GM_cut_366 : decode prog_15_method_11_code 366 = .ok (.bipush 41, 2) := by decide +kernel
theorem d_GM_cut_368 : decode prog_15_method_11_code 368 = .ok (.if_icmp .eq 17, 3) := by decide +kernel
theorem d_GM_cut_371 : decode prog_15_method_11_code 371 = .ok (.iload 4, 2) := by decide +kernel
theorem d_GM_cut_373 : decode prog_15_method_11_code 373 = .ok (.bipush 44, 2) := by decide +kernel
theorem d_GM_cut_375 : decode prog_15_method_11_code 375 = .ok (.if_icmp .eq 10, 3) := by decide +kernel
theorem d_GM_cut_378 : decode prog_15_method_11_code 378 = .ok (.iload 4, 2) := by decide +kernel
theorem d_GM_cut_380 : decode prog_15_method_11_code 380 = .ok (.bipush 58, 2) := by decide +kernel
theorem d_GM_cut_382 : decode prog_15_method_11_code 382 = .ok (.if_icmp .ne 15, 3) := by decide +kernel
theorem d_GM_cut_397 : decode prog_15_method_11_code 397 = .ok (.aload_n 0, 1) := by decide +kernel
theorem d_GM_cut_398 : decode prog_15_method_11_code 398 = .ok (.iconst 1, 1) := by decide +kernel
theorem d_GM_cut_399 : decode prog_15_method_11_code 399 = .ok (.putfield 181, 3) := by decide +kernel
theorem d_GM_cut_385 : decode prog_15_method_11_code 385 = .ok (.aload_n 0, 1) := by decide +kernel
theorem d_GM_cut_386 : decode prog_15_method_11_code 386 = .ok (.iload 4, 2) := by decide +kernel
theorem d_GM_cut_388 : decode prog_15_method_11_code 388 = .ok (.iload 6, 2) := by decide +kernel
theorem d_GM_cut_390 : decode prog_15_method_11_code 390 = .ok (.iload_n 3, 1) := by decide +kernel
theorem d_GM_cut_391 : decode prog_15_method_11_code 391 = .ok (.invokevirtual 189, 3) := by decide +kernel
theorem d_GM_cut_394 : decode prog_15_method_11_code 394 = .ok (.goto 8, 3) := by decide +kernel
set_option maxHeartbeats 4000000 in
theorem w_GM_cut_0 {l : Launch} {G : gG} {d : Nat} {X : gX} {M : gM} {k : gM → Prop} {o : Nat} (hX : gmX X o) {x1 : Int} (hx1 : g32 x1) {x2 : Int} (hx2 : g32 x2) (T : wp l G y_GM_cut (gRm (d + 1)) (kkV X k) 7 [.val (gR G o), .unset, .val (gI x2), .val (gI x1), .unset, .unset, .unset] [] X (gUp M o 24 0) 0 0) : wp l G y_GM_cut (gRm (d + 1)) (kkV X k) 0 [.val (gR G o), .val (gI x1), .val (gI x2), .unset, .unset, .unset, .unset] [] X M 0 0 := by
  refine wp_aload_n d_GM_cut_0 rfl rfl (g_nz hX.1) ?_
  refine wp_iconst d_GM_cut_1 ?_
  refine xputI d_GM_cut_2 gc_GM f_GM_178.1 f_GM_178.2.1 f_GM_178.2.2.1 hX.1 (gm_o2 hX) hX.2.2.1 f_GM_178.2.2.2.1 f_GM_178.2.2.2.2.1 f_GM_178.2.2.2.2.2 (w32_id (g32_c (x := 0) rfl)) ?_
  refine wp_iload_n d_GM_cut_5 rfl rfl ?_
  refine wp_istore_n (L' := [.val (gR G o), .val (gI x1), .val (gI x2), .val (gI x1), .unset, .unset, .unset]) d_GM_cut_6 rfl (by decide) rfl ?_
  exact wpt T (And.intro rfl (And.intro rfl (And.intro rfl True.intro)))
set_option maxHeartbeats 4000000 in
theorem w_GM_cut_7 {l : Launch} {G : gG} {d : Nat} {X : gX} {M : gM} {k : gM → Prop} {o : Nat} (hX : gmX X o) {x2 : Int} (hx2 : g32 x2) {x3 : Int} (hx3 : g32 x3) (T : (x2 ≤ x3 → (k M)) ∧ (¬ x2 ≤ x3 → ((0 ≤ M o 27 ∧ M o 27 ≤ 1) → ((¬ M o 27 = 0 → (k M)) ∧ (M o 27 = 0 → ((0 ≤ x3 ∧ x3 < 90000) ∧ ((-128 ≤ M (o + 1) (Int.toNat x3) ∧ M (o + 1) (Int.toNat x3) < 128) → ((x2 ≤ (w32 (x3 + 1)) → ((¬ M (o + 1) (Int.toNat x3) = 32 → (cZ l G y_GM_letter (gRm d) [gI (M (o + 1) (Int.toNat x3))] X M (fun v4 M3 => ((¬ v4 = 0 → (wp l G y_GM_cut (gRm (d + 1)) (kkV X k) 87 [.val (gR G o), .unset, .val (gI x2), .val (gI (w32 (x3 + 1))), .unset, .unset, .val (gI x3)] [] X M3 0 0)) ∧ (v4 = 0 → (cZ l G y_GM_digit (gRm d) [gI (M (o + 1) (Int.toNat x3))] X M3 (fun v7 M6 => ((¬ v7 = 0 → (wp l G y_GM_cut (gRm (d + 1)) (kkV X k) 87 [.val (gR G o), .unset, .val (gI x2), .val (gI (w32 (x3 + 1))), .unset, .unset, .val (gI x3)] [] X M6 0 0)) ∧ (v7 = 0 → ((¬ M (o + 1) (Int.toNat x3) = 36 → ((¬ M (o + 1) (Int.toNat x3) = 34 → ((¬ M (o + 1) (Int.toNat x3) = 60 → (wp l G y_GM_cut (gRm (d + 1)) (kkV X k) 232 [.val (gR G o), .unset, .val (gI x2), .val (gI (w32 (x3 + 1))), .val (gI (M (o + 1) (Int.toNat x3))), .val (gI 0), .val (gI x3)] [] X M6 0 0)) ∧ (M (o + 1) (Int.toNat x3) = 60 → (((0 : Int) = 62 → (wp l G y_GM_cut (gRm (d + 1)) (kkV X k) 246 [.val (gR G o), .unset, .val (gI x2), .val (gI (w32 (x3 + 1))), .val (gI (M (o + 1) (Int.toNat x3))), .val (gI 0), .val (gI x3)] [] X M6 0 0)) ∧ (¬ (0 : Int) = 62 → (((0 : Int) = 61 → (wp l G y_GM_cut (gRm (d + 1)) (kkV X k) 246 [.val (gR G o), .unset, .val (gI x2), .val (gI (w32 (x3 + 1))), .val (gI (M (o + 1) (Int.toNat x3))), .val (gI 0), .val (gI x3)] [] X M6 0 0)) ∧ (¬ (0 : Int) = 61 → (wp l G y_GM_cut (gRm (d + 1)) (kkV X k) 232 [.val (gR G o), .unset, .val (gI x2), .val (gI (w32 (x3 + 1))), .val (gI (M (o + 1) (Int.toNat x3))), .val (gI 0), .val (gI x3)] [] X M6 0 0)))))))) ∧ (M (o + 1) (Int.toNat x3) = 34 → (wp l G y_GM_cut (gRm (d + 1)) (kkV X k) 150 [.val (gR G o), .unset, .val (gI x2), .val (gI (w32 (x3 + 1))), .unset, .unset, .val (gI x3)] [] X M6 0 0)))) ∧ (M (o + 1) (Int.toNat x3) = 36 → (wp l G y_GM_cut (gRm (d + 1)) (kkV X k) 87 [.val (gR G o), .unset, .val (gI x2), .val (gI (w32 (x3 + 1))), .unset, .unset, .val (gI x3)] [] X M6 0 0)))))))))))) ∧ (M (o + 1) (Int.toNat x3) = 32 → (wp l G y_GM_cut (gRm (d + 1)) (kkV X k) 7 [.val (gR G o), .unset, .val (gI x2), .val (gI (w32 (x3 + 1))), .unset, .unset, .unset] [] X M 0 0)))) ∧ (¬ x2 ≤ (w32 (x3 + 1)) → ((0 ≤ x3 + 1 ∧ x3 + 1 < 90000) ∧ ((-128 ≤ M (o + 1) (Int.toNat (x3 + 1)) ∧ M (o + 1) (Int.toNat (x3 + 1)) < 128) → ((¬ M (o + 1) (Int.toNat x3) = 32 → (cZ l G y_GM_letter (gRm d) [gI (M (o + 1) (Int.toNat x3))] X M (fun v19 M18 => ((¬ v19 = 0 → (wp l G y_GM_cut (gRm (d + 1)) (kkV X k) 87 [.val (gR G o), .unset, .val (gI x2), .val (gI (w32 (x3 + 1))), .unset, .unset, .val (gI x3)] [] X M18 0 0)) ∧ (v19 = 0 → (cZ l G y_GM_digit (gRm d) [gI (M (o + 1) (Int.toNat x3))] X M18 (fun v22 M21 => ((¬ v22 = 0 → (wp l G y_GM_cut (gRm (d + 1)) (kkV X k) 87 [.val (gR G o), .unset, .val (gI x2), .val (gI (w32 (x3 + 1))), .unset, .unset, .val (gI x3)] [] X M21 0 0)) ∧ (v22 = 0 → ((¬ M (o + 1) (Int.toNat x3) = 36 → ((¬ M (o + 1) (Int.toNat x3) = 34 → ((¬ M (o + 1) (Int.toNat x3) = 60 → (wp l G y_GM_cut (gRm (d + 1)) (kkV X k) 232 [.val (gR G o), .unset, .val (gI x2), .val (gI (w32 (x3 + 1))), .val (gI (M (o + 1) (Int.toNat x3))), .val (gI (M (o + 1) (Int.toNat (x3 + 1)))), .val (gI x3)] [] X M21 0 0)) ∧ (M (o + 1) (Int.toNat x3) = 60 → ((M (o + 1) (Int.toNat (x3 + 1)) = 62 → (wp l G y_GM_cut (gRm (d + 1)) (kkV X k) 246 [.val (gR G o), .unset, .val (gI x2), .val (gI (w32 (x3 + 1))), .val (gI (M (o + 1) (Int.toNat x3))), .val (gI (M (o + 1) (Int.toNat (x3 + 1)))), .val (gI x3)] [] X M21 0 0)) ∧ (¬ M (o + 1) (Int.toNat (x3 + 1)) = 62 → ((M (o + 1) (Int.toNat (x3 + 1)) = 61 → (wp l G y_GM_cut (gRm (d + 1)) (kkV X k) 246 [.val (gR G o), .unset, .val (gI x2), .val (gI (w32 (x3 + 1))), .val (gI (M (o + 1) (Int.toNat x3))), .val (gI (M (o + 1) (Int.toNat (x3 + 1)))), .val (gI x3)] [] X M21 0 0)) ∧ (¬ M (o + 1) (Int.toNat (x3 + 1)) = 61 → (wp l G y_GM_cut (gRm (d + 1)) (kkV X k) 232 [.val (gR G o), .unset, .val (gI x2), .val (gI (w32 (x3 + 1))), .val (gI (M (o + 1) (Int.toNat x3))), .val (gI (M (o + 1) (Int.toNat (x3 + 1)))), .val (gI x3)] [] X M21 0 0)))))))) ∧ (M (o + 1) (Int.toNat x3) = 34 → (wp l G y_GM_cut (gRm (d + 1)) (kkV X k) 150 [.val (gR G o), .unset, .val (gI x2), .val (gI (w32 (x3 + 1))), .unset, .unset, .val (gI x3)] [] X M21 0 0)))) ∧ (M (o + 1) (Int.toNat x3) = 36 → (wp l G y_GM_cut (gRm (d + 1)) (kkV X k) 87 [.val (gR G o), .unset, .val (gI x2), .val (gI (w32 (x3 + 1))), .unset, .unset, .val (gI x3)] [] X M21 0 0)))))))))))) ∧ (M (o + 1) (Int.toNat x3) = 32 → (wp l G y_GM_cut (gRm (d + 1)) (kkV X k) 7 [.val (gR G o), .unset, .val (gI x2), .val (gI (w32 (x3 + 1))), .unset, .unset, .unset] [] X M 0 0)))))))))))))) : wp l G y_GM_cut (gRm (d + 1)) (kkV X k) 7 [.val (gR G o), .unset, .val (gI x2), .val (gI x3), .unset, .unset, .unset] [] X M 0 0 := by
  refine wp_iload_n d_GM_cut_7 rfl rfl ?_
  refine wp_iload_n d_GM_cut_8 rfl rfl ?_
  refine xi_ge (tgt := 405) d_GM_cut_9 (by decide) (w32_id hx3) (w32_id hx2) (fun h34 => ?_) (fun h34 => ?_)
  · have T := T.1 h34
    exact wp_return d_GM_cut_405 rfl (Nat.zero_le _) (Nat.zero_le _) (kV_mk T)
  · have T := T.2 h34
    refine wp_aload_n d_GM_cut_12 rfl rfl (g_nz hX.1) ?_
    refine xgetZ d_GM_cut_13 gc_GM f_GM_181.1 f_GM_181.2.1 f_GM_181.2.2.1 hX.1 (gm_o2 hX) hX.2.2.1 f_GM_181.2.2.2.2.1 (fun h1 => ?_)
    have T := T h1
    refine xz_ne (tgt := 405) d_GM_cut_16 (by decide) (w32_id (g32_z h1)) (fun h33 => ?_) (fun h33 => ?_)
    · have T := T.1 h33
      exact wp_return d_GM_cut_405 rfl (Nat.zero_le _) (Nat.zero_le _) (kV_mk T)
    · have T := T.2 h33
      refine wp_aload_n d_GM_cut_19 rfl rfl (g_nz hX.1) ?_
      refine xgetR d_GM_cut_20 gc_GM f_GM_8.1 f_GM_8.2.1 f_GM_8.2.2.1 hX.1 (gm_o2 hX) hX.2.2.1 f_GM_8.2.2.2.2.1 (gm_row hX 0 rfl).1 ?_
      refine wp_iload_n d_GM_cut_23 rfl rfl ?_
      refine wp_baload d_GM_cut_24 (gm_row hX 0 rfl).2.2.1 (gm_row hX 0 rfl).2.2.2 (gm_row hX 0 rfl).2.1 (g32_n T.1 (by decide)) T.1.1 T.1.2 (fun h2 => ?_)
      have T := T.2 h2
      refine wp_istore (L' := [.val (gR G o), .unset, .val (gI x2), .val (gI x3), .val (gI (M (o + 1) (Int.toNat x3))), .unset, .unset]) d_GM_cut_25 (by decide) rfl ?_
      refine wp_iload_n d_GM_cut_27 rfl rfl ?_
      refine wp_iconst d_GM_cut_28 ?_
      refine wp_iadd d_GM_cut_29 ?_
      refine wp_iload_n d_GM_cut_30 rfl rfl ?_
      refine xi_ge (tgt := 45) d_GM_cut_31 (by decide) rfl (w32_id hx2) (fun h32 => ?_) (fun h32 => ?_)
      · have T := T.1 h32
        refine wp_iconst d_GM_cut_45 ?_
        refine wp_istore (L' := [.val (gR G o), .unset, .val (gI x2), .val (gI x3), .val (gI (M (o + 1) (Int.toNat x3))), .val (gI 0), .unset]) d_GM_cut_46 (by decide) rfl ?_
        refine wp_iload_n d_GM_cut_48 rfl rfl ?_
        refine wp_istore (L' := [.val (gR G o), .unset, .val (gI x2), .val (gI x3), .val (gI (M (o + 1) (Int.toNat x3))), .val (gI 0), .val (gI x3)]) d_GM_cut_49 (by decide) rfl ?_
        refine wp_iinc (L' := [.val (gR G o), .unset, .val (gI x2), .val (gI (x3 + 1)), .val (gI (M (o + 1) (Int.toNat x3))), .val (gI 0), .val (gI x3)]) d_GM_cut_51 rfl (by decide) rfl ?_
        refine wp_iload d_GM_cut_54 rfl ?_
        refine wp_bipush d_GM_cut_56 ⟨by decide, by decide⟩ ?_
        refine xi_ne (tgt := 64) d_GM_cut_58 (by decide) (w32_id (g32_b h2)) (w32_id (g32_c (x := 32) rfl)) (fun h16 => ?_) (fun h16 => ?_)
        · have T := T.1 h16
          refine wp_iload d_GM_cut_64 rfl ?_
          refine xcS_Z (As := [gI (M (o + 1) (Int.toNat x3))]) (st := []) d_GM_cut_66 ca_GM_letter ml_GM_211 sm_GM_letter rfl (by decide) (by decide) rfl T (fun v4 M3 h5 T => ?_)
          refine xz_ne (tgt := 87) d_GM_cut_69 (by decide) (w32_id (g32_z h5)) (fun h15 => ?_) (fun h15 => ?_)
          · have T := T.1 h15
            exact wpt T (And.intro rfl (And.intro rfl (And.intro (gI_w _) (And.intro rfl True.intro))))
          · have T := T.2 h15
            refine wp_iload d_GM_cut_72 rfl ?_
            refine xcS_Z (As := [gI (M (o + 1) (Int.toNat x3))]) (st := []) d_GM_cut_74 ca_GM_digit ml_GM_165 sm_GM_digit rfl (by decide) (by decide) rfl T (fun v7 M6 h8 T => ?_)
            refine xz_ne (tgt := 87) d_GM_cut_77 (by decide) (w32_id (g32_z h8)) (fun h14 => ?_) (fun h14 => ?_)
            · have T := T.1 h14
              exact wpt T (And.intro rfl (And.intro rfl (And.intro (gI_w _) (And.intro rfl True.intro))))
            · have T := T.2 h14
              refine wp_iload d_GM_cut_80 rfl ?_
              refine wp_bipush d_GM_cut_82 ⟨by decide, by decide⟩ ?_
              refine xi_ne (tgt := 143) d_GM_cut_84 (by decide) (w32_id (g32_b h2)) (w32_id (g32_c (x := 36) rfl)) (fun h13 => ?_) (fun h13 => ?_)
              · have T := T.1 h13
                refine wp_iload d_GM_cut_143 rfl ?_
                refine wp_bipush d_GM_cut_145 ⟨by decide, by decide⟩ ?_
                refine xi_ne (tgt := 211) d_GM_cut_147 (by decide) (w32_id (g32_b h2)) (w32_id (g32_c (x := 34) rfl)) (fun h12 => ?_) (fun h12 => ?_)
                · have T := T.1 h12
                  refine wp_iload d_GM_cut_211 rfl ?_
                  refine wp_bipush d_GM_cut_213 ⟨by decide, by decide⟩ ?_
                  refine xi_ne (tgt := 232) d_GM_cut_215 (by decide) (w32_id (g32_b h2)) (w32_id (g32_c (x := 60) rfl)) (fun h11 => ?_) (fun h11 => ?_)
                  · have T := T.1 h11
                    exact wpt T (And.intro rfl (And.intro rfl (And.intro (gI_w _) (And.intro rfl (And.intro rfl (And.intro rfl True.intro))))))
                  · have T := T.2 h11
                    refine wp_iload d_GM_cut_218 rfl ?_
                    refine wp_bipush d_GM_cut_220 ⟨by decide, by decide⟩ ?_
                    refine xi_eq (tgt := 246) d_GM_cut_222 (by decide) (w32_id (g32_c (x := 0) rfl)) (w32_id (g32_c (x := 62) rfl)) (fun h10 => ?_) (fun h10 => ?_)
                    · have T := T.1 h10
                      exact wpt T (And.intro rfl (And.intro rfl (And.intro (gI_w _) (And.intro rfl (And.intro rfl (And.intro rfl True.intro))))))
                    · have T := T.2 h10
                      refine wp_iload d_GM_cut_225 rfl ?_
                      refine wp_bipush d_GM_cut_227 ⟨by decide, by decide⟩ ?_
                      refine xi_eq (tgt := 246) d_GM_cut_229 (by decide) (w32_id (g32_c (x := 0) rfl)) (w32_id (g32_c (x := 61) rfl)) (fun h9 => ?_) (fun h9 => ?_)
                      · have T := T.1 h9
                        exact wpt T (And.intro rfl (And.intro rfl (And.intro (gI_w _) (And.intro rfl (And.intro rfl (And.intro rfl True.intro))))))
                      · have T := T.2 h9
                        exact wpt T (And.intro rfl (And.intro rfl (And.intro (gI_w _) (And.intro rfl (And.intro rfl (And.intro rfl True.intro))))))
                · have T := T.2 h12
                  exact wpt T (And.intro rfl (And.intro rfl (And.intro (gI_w _) (And.intro rfl True.intro))))
              · have T := T.2 h13
                exact wpt T (And.intro rfl (And.intro rfl (And.intro (gI_w _) (And.intro rfl True.intro))))
        · have T := T.2 h16
          refine wp_goto (tgt := 7) d_GM_cut_61 (by decide) ?_
          exact wpt T (And.intro rfl (And.intro rfl (And.intro (gI_w _) True.intro)))
      · have T := T.2 h32
        refine wp_aload_n d_GM_cut_34 rfl rfl (g_nz hX.1) ?_
        refine xgetR d_GM_cut_35 gc_GM f_GM_8.1 f_GM_8.2.1 f_GM_8.2.2.1 hX.1 (gm_o2 hX) hX.2.2.1 f_GM_8.2.2.2.2.1 (gm_row hX 0 rfl).1 ?_
        refine wp_iload_n d_GM_cut_38 rfl rfl ?_
        refine wp_iconst d_GM_cut_39 ?_
        refine wp_iadd d_GM_cut_40 ?_
        refine wp_baload d_GM_cut_41 (gm_row hX 0 rfl).2.2.1 (gm_row hX 0 rfl).2.2.2 (gm_row hX 0 rfl).2.1 (g32_n T.1 (by decide)) T.1.1 T.1.2 (fun h17 => ?_)
        have T := T.2 h17
        refine wp_goto (tgt := 46) d_GM_cut_42 (by decide) ?_
        refine wp_istore (L' := [.val (gR G o), .unset, .val (gI x2), .val (gI x3), .val (gI (M (o + 1) (Int.toNat x3))), .val (gI (M (o + 1) (Int.toNat (x3 + 1)))), .unset]) d_GM_cut_46 (by decide) rfl ?_
        refine wp_iload_n d_GM_cut_48 rfl rfl ?_
        refine wp_istore (L' := [.val (gR G o), .unset, .val (gI x2), .val (gI x3), .val (gI (M (o + 1) (Int.toNat x3))), .val (gI (M (o + 1) (Int.toNat (x3 + 1)))), .val (gI x3)]) d_GM_cut_49 (by decide) rfl ?_
        refine wp_iinc (L' := [.val (gR G o), .unset, .val (gI x2), .val (gI (x3 + 1)), .val (gI (M (o + 1) (Int.toNat x3))), .val (gI (M (o + 1) (Int.toNat (x3 + 1)))), .val (gI x3)]) d_GM_cut_51 rfl (by decide) rfl ?_
        refine wp_iload d_GM_cut_54 rfl ?_
        refine wp_bipush d_GM_cut_56 ⟨by decide, by decide⟩ ?_
        refine xi_ne (tgt := 64) d_GM_cut_58 (by decide) (w32_id (g32_b h2)) (w32_id (g32_c (x := 32) rfl)) (fun h31 => ?_) (fun h31 => ?_)
        · have T := T.1 h31
          refine wp_iload d_GM_cut_64 rfl ?_
          refine xcS_Z (As := [gI (M (o + 1) (Int.toNat x3))]) (st := []) d_GM_cut_66 ca_GM_letter ml_GM_211 sm_GM_letter rfl (by decide) (by decide) rfl T (fun v19 M18 h20 T => ?_)
          refine xz_ne (tgt := 87) d_GM_cut_69 (by decide) (w32_id (g32_z h20)) (fun h30 => ?_) (fun h30 => ?_)
          · have T := T.1 h30
            exact wpt T (And.intro rfl (And.intro rfl (And.intro (gI_w _) (And.intro rfl True.intro))))
          · have T := T.2 h30
            refine wp_iload d_GM_cut_72 rfl ?_
            refine xcS_Z (As := [gI (M (o + 1) (Int.toNat x3))]) (st := []) d_GM_cut_74 ca_GM_digit ml_GM_165 sm_GM_digit rfl (by decide) (by decide) rfl T (fun v22 M21 h23 T => ?_)
            refine xz_ne (tgt := 87) d_GM_cut_77 (by decide) (w32_id (g32_z h23)) (fun h29 => ?_) (fun h29 => ?_)
            · have T := T.1 h29
              exact wpt T (And.intro rfl (And.intro rfl (And.intro (gI_w _) (And.intro rfl True.intro))))
            · have T := T.2 h29
              refine wp_iload d_GM_cut_80 rfl ?_
              refine wp_bipush d_GM_cut_82 ⟨by decide, by decide⟩ ?_
              refine xi_ne (tgt := 143) d_GM_cut_84 (by decide) (w32_id (g32_b h2)) (w32_id (g32_c (x := 36) rfl)) (fun h28 => ?_) (fun h28 => ?_)
              · have T := T.1 h28
                refine wp_iload d_GM_cut_143 rfl ?_
                refine wp_bipush d_GM_cut_145 ⟨by decide, by decide⟩ ?_
                refine xi_ne (tgt := 211) d_GM_cut_147 (by decide) (w32_id (g32_b h2)) (w32_id (g32_c (x := 34) rfl)) (fun h27 => ?_) (fun h27 => ?_)
                · have T := T.1 h27
                  refine wp_iload d_GM_cut_211 rfl ?_
                  refine wp_bipush d_GM_cut_213 ⟨by decide, by decide⟩ ?_
                  refine xi_ne (tgt := 232) d_GM_cut_215 (by decide) (w32_id (g32_b h2)) (w32_id (g32_c (x := 60) rfl)) (fun h26 => ?_) (fun h26 => ?_)
                  · have T := T.1 h26
                    exact wpt T (And.intro rfl (And.intro rfl (And.intro (gI_w _) (And.intro rfl (And.intro rfl (And.intro rfl True.intro))))))
                  · have T := T.2 h26
                    refine wp_iload d_GM_cut_218 rfl ?_
                    refine wp_bipush d_GM_cut_220 ⟨by decide, by decide⟩ ?_
                    refine xi_eq (tgt := 246) d_GM_cut_222 (by decide) (w32_id (g32_b h17)) (w32_id (g32_c (x := 62) rfl)) (fun h25 => ?_) (fun h25 => ?_)
                    · have T := T.1 h25
                      exact wpt T (And.intro rfl (And.intro rfl (And.intro (gI_w _) (And.intro rfl (And.intro rfl (And.intro rfl True.intro))))))
                    · have T := T.2 h25
                      refine wp_iload d_GM_cut_225 rfl ?_
                      refine wp_bipush d_GM_cut_227 ⟨by decide, by decide⟩ ?_
                      refine xi_eq (tgt := 246) d_GM_cut_229 (by decide) (w32_id (g32_b h17)) (w32_id (g32_c (x := 61) rfl)) (fun h24 => ?_) (fun h24 => ?_)
                      · have T := T.1 h24
                        exact wpt T (And.intro rfl (And.intro rfl (And.intro (gI_w _) (And.intro rfl (And.intro rfl (And.intro rfl True.intro))))))
                      · have T := T.2 h24
                        exact wpt T (And.intro rfl (And.intro rfl (And.intro (gI_w _) (And.intro rfl (And.intro rfl (And.intro rfl True.intro))))))
                · have T := T.2 h27
                  exact wpt T (And.intro rfl (And.intro rfl (And.intro (gI_w _) (And.intro rfl True.intro))))
              · have T := T.2 h28
                exact wpt T (And.intro rfl (And.intro rfl (And.intro (gI_w _) (And.intro rfl True.intro))))
        · have T := T.2 h31
          refine wp_goto (tgt := 7) d_GM_cut_61 (by decide) ?_
          exact wpt T (And.intro rfl (And.intro rfl (And.intro (gI_w _) True.intro)))
set_option maxHeartbeats 4000000 in
theorem w_GM_cut_87 {l : Launch} {G : gG} {d : Nat} {X : gX} {M : gM} {k : gM → Prop} {o : Nat} (hX : gmX X o) {x2 : Int} (hx2 : g32 x2) {x3 : Int} (hx3 : g32 x3) {x6 : Int} (hx6 : g32 x6) (T : (x2 ≤ x3 → (cV l G y_GM_word (gRm d) [gR G o, gI x6, gI x3] X M (fun M35 => (wp l G y_GM_cut (gRm (d + 1)) (kkV X k) 7 [.val (gR G o), .unset, .val (gI x2), .val (gI x3), .unset, .unset, .unset] [] X M35 0 0)))) ∧ (¬ x2 ≤ x3 → ((0 ≤ x3 ∧ x3 < 90000) ∧ ((-128 ≤ M (o + 1) (Int.toNat x3) ∧ M (o + 1) (Int.toNat x3) < 128) → (cZ l G y_GM_letter (gRm d) [gI (M (o + 1) (Int.toNat x3))] X M (fun v38 M37 => ((¬ v38 = 0 → (wp l G y_GM_cut (gRm (d + 1)) (kkV X k) 87 [.val (gR G o), .unset, .val (gI x2), .val (gI (w32 (x3 + 1))), .unset, .unset, .val (gI x6)] [] X M37 0 0)) ∧ (v38 = 0 → ((0 ≤ x3 ∧ x3 < 90000) ∧ ((-128 ≤ M37 (o + 1) (Int.toNat x3) ∧ M37 (o + 1) (Int.toNat x3) < 128) → (cZ l G y_GM_digit (gRm d) [gI (M37 (o + 1) (Int.toNat x3))] X M37 (fun v42 M41 => ((¬ v42 = 0 → (wp l G y_GM_cut (gRm (d + 1)) (kkV X k) 87 [.val (gR G o), .unset, .val (gI x2), .val (gI (w32 (x3 + 1))), .unset, .unset, .val (gI x6)] [] X M41 0 0)) ∧ (v42 = 0 → ((0 ≤ x3 ∧ x3 < 90000) ∧ ((-128 ≤ M41 (o + 1) (Int.toNat x3) ∧ M41 (o + 1) (Int.toNat x3) < 128) → ((¬ M41 (o + 1) (Int.toNat x3) = 36 → (cV l G y_GM_word (gRm d) [gR G o, gI x6, gI x3] X M41 (fun M45 => (wp l G y_GM_cut (gRm (d + 1)) (kkV X k) 7 [.val (gR G o), .unset, .val (gI x2), .val (gI x3), .unset, .unset, .unset] [] X M45 0 0)))) ∧ (M41 (o + 1) (Int.toNat x3) = 36 → (wp l G y_GM_cut (gRm (d + 1)) (kkV X k) 87 [.val (gR G o), .unset, .val (gI x2), .val (gI (w32 (x3 + 1))), .unset, .unset, .val (gI x6)] [] X M41 0 0))))))))))))))))))) : wp l G y_GM_cut (gRm (d + 1)) (kkV X k) 87 [.val (gR G o), .unset, .val (gI x2), .val (gI x3), .unset, .unset, .val (gI x6)] [] X M 0 0 := by
  refine wp_iload_n d_GM_cut_87 rfl rfl ?_
  refine wp_iload_n d_GM_cut_88 rfl rfl ?_
  refine xi_ge (tgt := 133) d_GM_cut_89 (by decide) (w32_id hx3) (w32_id hx2) (fun h49 => ?_) (fun h49 => ?_)
  · have T := T.1 h49
    refine wp_aload_n d_GM_cut_133 rfl rfl (g_nz hX.1) ?_
    refine wp_iload d_GM_cut_134 rfl ?_
    refine wp_iload_n d_GM_cut_136 rfl rfl ?_
    refine xcV_V (As := [gI x6, gI x3]) (st := []) d_GM_cut_137 ca_GM_word ml_GM_214 im_GM_word se_GM_word gc_GM hX.1 (gm_o2 hX) hX.2.2.1 rfl (by decide) (by decide) rfl T (fun M35 T => ?_)
    refine wp_goto (tgt := 402) d_GM_cut_140 (by decide) ?_
    refine wp_goto (tgt := 7) d_GM_cut_402 (by decide) ?_
    exact wpt T (And.intro rfl (And.intro rfl (And.intro rfl True.intro)))
  · have T := T.2 h49
    refine wp_aload_n d_GM_cut_92 rfl rfl (g_nz hX.1) ?_
    refine xgetR d_GM_cut_93 gc_GM f_GM_8.1 f_GM_8.2.1 f_GM_8.2.2.1 hX.1 (gm_o2 hX) hX.2.2.1 f_GM_8.2.2.2.2.1 (gm_row hX 0 rfl).1 ?_
    refine wp_iload_n d_GM_cut_96 rfl rfl ?_
    refine wp_baload d_GM_cut_97 (gm_row hX 0 rfl).2.2.1 (gm_row hX 0 rfl).2.2.2 (gm_row hX 0 rfl).2.1 (g32_n T.1 (by decide)) T.1.1 T.1.2 (fun h36 => ?_)
    have T := T.2 h36
    refine xcS_Z (As := [gI (M (o + 1) (Int.toNat x3))]) (st := []) d_GM_cut_98 ca_GM_letter ml_GM_211 sm_GM_letter rfl (by decide) (by decide) rfl T (fun v38 M37 h39 T => ?_)
    refine xz_ne (tgt := 127) d_GM_cut_101 (by decide) (w32_id (g32_z h39)) (fun h48 => ?_) (fun h48 => ?_)
    · have T := T.1 h48
      refine wp_iinc (L' := [.val (gR G o), .unset, .val (gI x2), .val (gI (x3 + 1)), .unset, .unset, .val (gI x6)]) d_GM_cut_127 rfl (by decide) rfl ?_
      refine wp_goto (tgt := 87) d_GM_cut_130 (by decide) ?_
      exact wpt T (And.intro rfl (And.intro rfl (And.intro (gI_w _) (And.intro rfl True.intro))))
    · have T := T.2 h48
      refine wp_aload_n d_GM_cut_104 rfl rfl (g_nz hX.1) ?_
      refine xgetR d_GM_cut_105 gc_GM f_GM_8.1 f_GM_8.2.1 f_GM_8.2.2.1 hX.1 (gm_o2 hX) hX.2.2.1 f_GM_8.2.2.2.2.1 (gm_row hX 0 rfl).1 ?_
      refine wp_iload_n d_GM_cut_108 rfl rfl ?_
      refine wp_baload d_GM_cut_109 (gm_row hX 0 rfl).2.2.1 (gm_row hX 0 rfl).2.2.2 (gm_row hX 0 rfl).2.1 (g32_n T.1 (by decide)) T.1.1 T.1.2 (fun h40 => ?_)
      have T := T.2 h40
      refine xcS_Z (As := [gI (M37 (o + 1) (Int.toNat x3))]) (st := []) d_GM_cut_110 ca_GM_digit ml_GM_165 sm_GM_digit rfl (by decide) (by decide) rfl T (fun v42 M41 h43 T => ?_)
      refine xz_ne (tgt := 127) d_GM_cut_113 (by decide) (w32_id (g32_z h43)) (fun h47 => ?_) (fun h47 => ?_)
      · have T := T.1 h47
        refine wp_iinc (L' := [.val (gR G o), .unset, .val (gI x2), .val (gI (x3 + 1)), .unset, .unset, .val (gI x6)]) d_GM_cut_127 rfl (by decide) rfl ?_
        refine wp_goto (tgt := 87) d_GM_cut_130 (by decide) ?_
        exact wpt T (And.intro rfl (And.intro rfl (And.intro (gI_w _) (And.intro rfl True.intro))))
      · have T := T.2 h47
        refine wp_aload_n d_GM_cut_116 rfl rfl (g_nz hX.1) ?_
        refine xgetR d_GM_cut_117 gc_GM f_GM_8.1 f_GM_8.2.1 f_GM_8.2.2.1 hX.1 (gm_o2 hX) hX.2.2.1 f_GM_8.2.2.2.2.1 (gm_row hX 0 rfl).1 ?_
        refine wp_iload_n d_GM_cut_120 rfl rfl ?_
        refine wp_baload d_GM_cut_121 (gm_row hX 0 rfl).2.2.1 (gm_row hX 0 rfl).2.2.2 (gm_row hX 0 rfl).2.1 (g32_n T.1 (by decide)) T.1.1 T.1.2 (fun h44 => ?_)
        have T := T.2 h44
        refine wp_bipush d_GM_cut_122 ⟨by decide, by decide⟩ ?_
        refine xi_ne (tgt := 133) d_GM_cut_124 (by decide) (w32_id (g32_b h44)) (w32_id (g32_c (x := 36) rfl)) (fun h46 => ?_) (fun h46 => ?_)
        · have T := T.1 h46
          refine wp_aload_n d_GM_cut_133 rfl rfl (g_nz hX.1) ?_
          refine wp_iload d_GM_cut_134 rfl ?_
          refine wp_iload_n d_GM_cut_136 rfl rfl ?_
          refine xcV_V (As := [gI x6, gI x3]) (st := []) d_GM_cut_137 ca_GM_word ml_GM_214 im_GM_word se_GM_word gc_GM hX.1 (gm_o2 hX) hX.2.2.1 rfl (by decide) (by decide) rfl T (fun M45 T => ?_)
          refine wp_goto (tgt := 402) d_GM_cut_140 (by decide) ?_
          refine wp_goto (tgt := 7) d_GM_cut_402 (by decide) ?_
          exact wpt T (And.intro rfl (And.intro rfl (And.intro rfl True.intro)))
        · have T := T.2 h46
          refine wp_iinc (L' := [.val (gR G o), .unset, .val (gI x2), .val (gI (x3 + 1)), .unset, .unset, .val (gI x6)]) d_GM_cut_127 rfl (by decide) rfl ?_
          refine wp_goto (tgt := 87) d_GM_cut_130 (by decide) ?_
          exact wpt T (And.intro rfl (And.intro rfl (And.intro (gI_w _) (And.intro rfl True.intro))))
set_option maxHeartbeats 4000000 in
theorem w_GM_cut_232 {l : Launch} {G : gG} {d : Nat} {X : gX} {M : gM} {k : gM → Prop} {o : Nat} (hX : gmX X o) {x2 : Int} (hx2 : g32 x2) {x3 : Int} (hx3 : g32 x3) {x4 : Int} (hx4 : g32 x4) {x5 : Int} (hx5 : g32 x5) {x6 : Int} (hx6 : g32 x6) (T : (¬ x4 = 62 → (wp l G y_GM_cut (gRm (d + 1)) (kkV X k) 287 [.val (gR G o), .unset, .val (gI x2), .val (gI x3), .val (gI x4), .unset, .val (gI x6)] [] X M 0 0)) ∧ (x4 = 62 → ((¬ x5 = 61 → (wp l G y_GM_cut (gRm (d + 1)) (kkV X k) 287 [.val (gR G o), .unset, .val (gI x2), .val (gI x3), .val (gI x4), .unset, .val (gI x6)] [] X M 0 0)) ∧ (x5 = 61 → (wp l G y_GM_cut (gRm (d + 1)) (kkV X k) 246 [.val (gR G o), .unset, .val (gI x2), .val (gI x3), .val (gI x4), .val (gI x5), .val (gI x6)] [] X M 0 0))))) : wp l G y_GM_cut (gRm (d + 1)) (kkV X k) 232 [.val (gR G o), .unset, .val (gI x2), .val (gI x3), .val (gI x4), .val (gI x5), .val (gI x6)] [] X M 0 0 := by
  refine wp_iload d_GM_cut_232 rfl ?_
  refine wp_bipush d_GM_cut_234 ⟨by decide, by decide⟩ ?_
  refine xi_ne (tgt := 287) d_GM_cut_236 (by decide) (w32_id hx4) (w32_id (g32_c (x := 62) rfl)) (fun h51 => ?_) (fun h51 => ?_)
  · have T := T.1 h51
    exact wpt T (And.intro rfl (And.intro rfl (And.intro rfl (And.intro rfl (And.intro rfl True.intro)))))
  · have T := T.2 h51
    refine wp_iload d_GM_cut_239 rfl ?_
    refine wp_bipush d_GM_cut_241 ⟨by decide, by decide⟩ ?_
    refine xi_ne (tgt := 287) d_GM_cut_243 (by decide) (w32_id hx5) (w32_id (g32_c (x := 61) rfl)) (fun h50 => ?_) (fun h50 => ?_)
    · have T := T.1 h50
      exact wpt T (And.intro rfl (And.intro rfl (And.intro rfl (And.intro rfl (And.intro rfl True.intro)))))
    · have T := T.2 h50
      exact wpt T (And.intro rfl (And.intro rfl (And.intro rfl (And.intro rfl (And.intro rfl (And.intro rfl True.intro))))))
set_option maxHeartbeats 4000000 in
theorem w_GM_cut_246 {l : Launch} {G : gG} {d : Nat} {X : gX} {M : gM} {k : gM → Prop} {o : Nat} (hX : gmX X o) {x2 : Int} (hx2 : g32 x2) {x3 : Int} (hx3 : g32 x3) {x4 : Int} (hx4 : g32 x4) {x5 : Int} (hx5 : g32 x5) {x6 : Int} (hx6 : g32 x6) (T : (¬ x4 = 62 → ((¬ x5 = 62 → (cV l G y_GM_token (gRm d) [gR G o, gI 108, gI x6, gI (x3 + 1)] X M (fun M52 => (wp l G y_GM_cut (gRm (d + 1)) (kkV X k) 7 [.val (gR G o), .unset, .val (gI x2), .val (gI (w32 (x3 + 1))), .unset, .unset, .unset] [] X M52 0 0)))) ∧ (x5 = 62 → (cV l G y_GM_token (gRm d) [gR G o, gI 110, gI x6, gI (x3 + 1)] X M (fun M53 => (wp l G y_GM_cut (gRm (d + 1)) (kkV X k) 7 [.val (gR G o), .unset, .val (gI x2), .val (gI (w32 (x3 + 1))), .unset, .unset, .unset] [] X M53 0 0)))))) ∧ (x4 = 62 → (cV l G y_GM_token (gRm d) [gR G o, gI 103, gI x6, gI (x3 + 1)] X M (fun M55 => (wp l G y_GM_cut (gRm (d + 1)) (kkV X k) 7 [.val (gR G o), .unset, .val (gI x2), .val (gI (w32 (x3 + 1))), .unset, .unset, .unset] [] X M55 0 0))))) : wp l G y_GM_cut (gRm (d + 1)) (kkV X k) 246 [.val (gR G o), .unset, .val (gI x2), .val (gI x3), .val (gI x4), .val (gI x5), .val (gI x6)] [] X M 0 0 := by
  refine wp_aload_n d_GM_cut_246 rfl rfl (g_nz hX.1) ?_
  refine wp_iload d_GM_cut_247 rfl ?_
  refine wp_bipush d_GM_cut_249 ⟨by decide, by decide⟩ ?_
  refine xi_ne (tgt := 259) d_GM_cut_251 (by decide) (w32_id hx4) (w32_id (g32_c (x := 62) rfl)) (fun h56 => ?_) (fun h56 => ?_)
  · have T := T.1 h56
    refine wp_iload d_GM_cut_259 rfl ?_
    refine wp_bipush d_GM_cut_261 ⟨by decide, by decide⟩ ?_
    refine xi_ne (tgt := 271) d_GM_cut_263 (by decide) (w32_id hx5) (w32_id (g32_c (x := 62) rfl)) (fun h54 => ?_) (fun h54 => ?_)
    · have T := T.1 h54
      refine wp_bipush d_GM_cut_271 ⟨by decide, by decide⟩ ?_
      refine wp_iload d_GM_cut_273 rfl ?_
      refine wp_iload_n d_GM_cut_275 rfl rfl ?_
      refine wp_iconst d_GM_cut_276 ?_
      refine wp_iadd d_GM_cut_277 ?_
      refine xcV_V (As := [gI 108, gI x6, gI (x3 + 1)]) (st := []) d_GM_cut_278 ca_GM_token ml_GM_189 im_GM_token se_GM_token gc_GM hX.1 (gm_o2 hX) hX.2.2.1 rfl (by decide) (by decide) rfl T (fun M52 T => ?_)
      refine wp_iinc (L' := [.val (gR G o), .unset, .val (gI x2), .val (gI (x3 + 1)), .val (gI x4), .val (gI x5), .val (gI x6)]) d_GM_cut_281 rfl (by decide) rfl ?_
      refine wp_goto (tgt := 402) d_GM_cut_284 (by decide) ?_
      refine wp_goto (tgt := 7) d_GM_cut_402 (by decide) ?_
      exact wpt T (And.intro rfl (And.intro rfl (And.intro (gI_w _) True.intro)))
    · have T := T.2 h54
      refine wp_bipush d_GM_cut_266 ⟨by decide, by decide⟩ ?_
      refine wp_goto (tgt := 273) d_GM_cut_268 (by decide) ?_
      refine wp_iload d_GM_cut_273 rfl ?_
      refine wp_iload_n d_GM_cut_275 rfl rfl ?_
      refine wp_iconst d_GM_cut_276 ?_
      refine wp_iadd d_GM_cut_277 ?_
      refine xcV_V (As := [gI 110, gI x6, gI (x3 + 1)]) (st := []) d_GM_cut_278 ca_GM_token ml_GM_189 im_GM_token se_GM_token gc_GM hX.1 (gm_o2 hX) hX.2.2.1 rfl (by decide) (by decide) rfl T (fun M53 T => ?_)
      refine wp_iinc (L' := [.val (gR G o), .unset, .val (gI x2), .val (gI (x3 + 1)), .val (gI x4), .val (gI x5), .val (gI x6)]) d_GM_cut_281 rfl (by decide) rfl ?_
      refine wp_goto (tgt := 402) d_GM_cut_284 (by decide) ?_
      refine wp_goto (tgt := 7) d_GM_cut_402 (by decide) ?_
      exact wpt T (And.intro rfl (And.intro rfl (And.intro (gI_w _) True.intro)))
  · have T := T.2 h56
    refine wp_bipush d_GM_cut_254 ⟨by decide, by decide⟩ ?_
    refine wp_goto (tgt := 273) d_GM_cut_256 (by decide) ?_
    refine wp_iload d_GM_cut_273 rfl ?_
    refine wp_iload_n d_GM_cut_275 rfl rfl ?_
    refine wp_iconst d_GM_cut_276 ?_
    refine wp_iadd d_GM_cut_277 ?_
    refine xcV_V (As := [gI 103, gI x6, gI (x3 + 1)]) (st := []) d_GM_cut_278 ca_GM_token ml_GM_189 im_GM_token se_GM_token gc_GM hX.1 (gm_o2 hX) hX.2.2.1 rfl (by decide) (by decide) rfl T (fun M55 T => ?_)
    refine wp_iinc (L' := [.val (gR G o), .unset, .val (gI x2), .val (gI (x3 + 1)), .val (gI x4), .val (gI x5), .val (gI x6)]) d_GM_cut_281 rfl (by decide) rfl ?_
    refine wp_goto (tgt := 402) d_GM_cut_284 (by decide) ?_
    refine wp_goto (tgt := 7) d_GM_cut_402 (by decide) ?_
    exact wpt T (And.intro rfl (And.intro rfl (And.intro (gI_w _) True.intro)))
set_option maxHeartbeats 4000000 in
theorem w_GM_cut_150 {l : Launch} {G : gG} {d : Nat} {X : gX} {M : gM} {k : gM → Prop} {o : Nat} (hX : gmX X o) {x2 : Int} (hx2 : g32 x2) {x3 : Int} (hx3 : g32 x3) {x6 : Int} (hx6 : g32 x6) (T : (x2 ≤ x3 → ((x3 = x2 → (cV l G y_GM_token (gRm d) [gR G o, gI 2, gI (x6 + 1), gI x3] X (gUp M o 27 1) (fun M57 => (wp l G y_GM_cut (gRm (d + 1)) (kkV X k) 7 [.val (gR G o), .unset, .val (gI x2), .val (gI (w32 (x3 + 1))), .unset, .unset, .unset] [] X M57 0 0)))) ∧ (¬ x3 = x2 → (((w32 (x3 - x6)) ≤ 65 → (cV l G y_GM_token (gRm d) [gR G o, gI 2, gI (x6 + 1), gI x3] X (gUp M o 27 0) (fun M58 => (wp l G y_GM_cut (gRm (d + 1)) (kkV X k) 7 [.val (gR G o), .unset, .val (gI x2), .val (gI (w32 (x3 + 1))), .unset, .unset, .unset] [] X M58 0 0)))) ∧ (¬ (w32 (x3 - x6)) ≤ 65 → (cV l G y_GM_token (gRm d) [gR G o, gI 2, gI (x6 + 1), gI x3] X (gUp M o 27 1) (fun M59 => (wp l G y_GM_cut (gRm (d + 1)) (kkV X k) 7 [.val (gR G o), .unset, .val (gI x2), .val (gI (w32 (x3 + 1))), .unset, .unset, .unset] [] X M59 0 0)))))))) ∧ (¬ x2 ≤ x3 → ((0 ≤ x3 ∧ x3 < 90000) ∧ ((-128 ≤ M (o + 1) (Int.toNat x3) ∧ M (o + 1) (Int.toNat x3) < 128) → ((M (o + 1) (Int.toNat x3) = 34 → ((x3 = x2 → (cV l G y_GM_token (gRm d) [gR G o, gI 2, gI (x6 + 1), gI x3] X (gUp M o 27 1) (fun M63 => (wp l G y_GM_cut (gRm (d + 1)) (kkV X k) 7 [.val (gR G o), .unset, .val (gI x2), .val (gI (w32 (x3 + 1))), .unset, .unset, .unset] [] X M63 0 0)))) ∧ (¬ x3 = x2 → (((w32 (x3 - x6)) ≤ 65 → (cV l G y_GM_token (gRm d) [gR G o, gI 2, gI (x6 + 1), gI x3] X (gUp M o 27 0) (fun M64 => (wp l G y_GM_cut (gRm (d + 1)) (kkV X k) 7 [.val (gR G o), .unset, .val (gI x2), .val (gI (w32 (x3 + 1))), .unset, .unset, .unset] [] X M64 0 0)))) ∧ (¬ (w32 (x3 - x6)) ≤ 65 → (cV l G y_GM_token (gRm d) [gR G o, gI 2, gI (x6 + 1), gI x3] X (gUp M o 27 1) (fun M65 => (wp l G y_GM_cut (gRm (d + 1)) (kkV X k) 7 [.val (gR G o), .unset, .val (gI x2), .val (gI (w32 (x3 + 1))), .unset, .unset, .unset] [] X M65 0 0)))))))) ∧ (¬ M (o + 1) (Int.toNat x3) = 34 → (wp l G y_GM_cut (gRm (d + 1)) (kkV X k) 150 [.val (gR G o), .unset, .val (gI x2), .val (gI (w32 (x3 + 1))), .unset, .unset, .val (gI x6)] [] X M 0 0))))))) : wp l G y_GM_cut (gRm (d + 1)) (kkV X k) 150 [.val (gR G o), .unset, .val (gI x2), .val (gI x3), .unset, .unset, .val (gI x6)] [] X M 0 0 := by
  refine wp_iload_n d_GM_cut_150 rfl rfl ?_
  refine wp_iload_n d_GM_cut_151 rfl rfl ?_
  refine xi_ge (tgt := 172) d_GM_cut_152 (by decide) (w32_id hx3) (w32_id hx2) (fun h69 => ?_) (fun h69 => ?_)
  · have T := T.1 h69
    refine wp_aload_n d_GM_cut_172 rfl rfl (g_nz hX.1) ?_
    refine wp_iload_n d_GM_cut_173 rfl rfl ?_
    refine wp_iload_n d_GM_cut_174 rfl rfl ?_
    refine xi_eq (tgt := 187) d_GM_cut_175 (by decide) (w32_id hx3) (w32_id hx2) (fun h61 => ?_) (fun h61 => ?_)
    · have T := T.1 h61
      refine wp_iconst d_GM_cut_187 ?_
      refine wp_goto (tgt := 192) d_GM_cut_188 (by decide) ?_
      refine xputZ d_GM_cut_192 gc_GM f_GM_181.1 f_GM_181.2.1 f_GM_181.2.2.1 hX.1 (gm_o2 hX) hX.2.2.1 f_GM_181.2.2.2.1 f_GM_181.2.2.2.2.1 f_GM_181.2.2.2.2.2 (⟨by decide, by decide⟩ : (0 : Int) ≤ 1 ∧ (1 : Int) ≤ 1) ?_
      refine wp_aload_n d_GM_cut_195 rfl rfl (g_nz hX.1) ?_
      refine wp_iconst d_GM_cut_196 ?_
      refine wp_iload d_GM_cut_197 rfl ?_
      refine wp_iconst d_GM_cut_199 ?_
      refine wp_iadd d_GM_cut_200 ?_
      refine wp_iload_n d_GM_cut_201 rfl rfl ?_
      refine xcV_V (As := [gI 2, gI (x6 + 1), gI x3]) (st := []) d_GM_cut_202 ca_GM_token ml_GM_189 im_GM_token se_GM_token gc_GM hX.1 (gm_o2 hX) hX.2.2.1 rfl (by decide) (by decide) rfl T (fun M57 T => ?_)
      refine wp_iinc (L' := [.val (gR G o), .unset, .val (gI x2), .val (gI (x3 + 1)), .unset, .unset, .val (gI x6)]) d_GM_cut_205 rfl (by decide) rfl ?_
      refine wp_goto (tgt := 402) d_GM_cut_208 (by decide) ?_
      refine wp_goto (tgt := 7) d_GM_cut_402 (by decide) ?_
      exact wpt T (And.intro rfl (And.intro rfl (And.intro (gI_w _) True.intro)))
    · have T := T.2 h61
      refine wp_iload_n d_GM_cut_178 rfl rfl ?_
      refine wp_iload d_GM_cut_179 rfl ?_
      refine wp_isub d_GM_cut_181 ?_
      refine wp_bipush d_GM_cut_182 ⟨by decide, by decide⟩ ?_
      refine xi_le (tgt := 191) d_GM_cut_184 (by decide) rfl (w32_id (g32_c (x := 65) rfl)) (fun h60 => ?_) (fun h60 => ?_)
      · have T := T.1 h60
        refine wp_iconst d_GM_cut_191 ?_
        refine xputZ d_GM_cut_192 gc_GM f_GM_181.1 f_GM_181.2.1 f_GM_181.2.2.1 hX.1 (gm_o2 hX) hX.2.2.1 f_GM_181.2.2.2.1 f_GM_181.2.2.2.2.1 f_GM_181.2.2.2.2.2 (⟨by decide, by decide⟩ : (0 : Int) ≤ 0 ∧ (0 : Int) ≤ 1) ?_
        refine wp_aload_n d_GM_cut_195 rfl rfl (g_nz hX.1) ?_
        refine wp_iconst d_GM_cut_196 ?_
        refine wp_iload d_GM_cut_197 rfl ?_
        refine wp_iconst d_GM_cut_199 ?_
        refine wp_iadd d_GM_cut_200 ?_
        refine wp_iload_n d_GM_cut_201 rfl rfl ?_
        refine xcV_V (As := [gI 2, gI (x6 + 1), gI x3]) (st := []) d_GM_cut_202 ca_GM_token ml_GM_189 im_GM_token se_GM_token gc_GM hX.1 (gm_o2 hX) hX.2.2.1 rfl (by decide) (by decide) rfl T (fun M58 T => ?_)
        refine wp_iinc (L' := [.val (gR G o), .unset, .val (gI x2), .val (gI (x3 + 1)), .unset, .unset, .val (gI x6)]) d_GM_cut_205 rfl (by decide) rfl ?_
        refine wp_goto (tgt := 402) d_GM_cut_208 (by decide) ?_
        refine wp_goto (tgt := 7) d_GM_cut_402 (by decide) ?_
        exact wpt T (And.intro rfl (And.intro rfl (And.intro (gI_w _) True.intro)))
      · have T := T.2 h60
        refine wp_iconst d_GM_cut_187 ?_
        refine wp_goto (tgt := 192) d_GM_cut_188 (by decide) ?_
        refine xputZ d_GM_cut_192 gc_GM f_GM_181.1 f_GM_181.2.1 f_GM_181.2.2.1 hX.1 (gm_o2 hX) hX.2.2.1 f_GM_181.2.2.2.1 f_GM_181.2.2.2.2.1 f_GM_181.2.2.2.2.2 (⟨by decide, by decide⟩ : (0 : Int) ≤ 1 ∧ (1 : Int) ≤ 1) ?_
        refine wp_aload_n d_GM_cut_195 rfl rfl (g_nz hX.1) ?_
        refine wp_iconst d_GM_cut_196 ?_
        refine wp_iload d_GM_cut_197 rfl ?_
        refine wp_iconst d_GM_cut_199 ?_
        refine wp_iadd d_GM_cut_200 ?_
        refine wp_iload_n d_GM_cut_201 rfl rfl ?_
        refine xcV_V (As := [gI 2, gI (x6 + 1), gI x3]) (st := []) d_GM_cut_202 ca_GM_token ml_GM_189 im_GM_token se_GM_token gc_GM hX.1 (gm_o2 hX) hX.2.2.1 rfl (by decide) (by decide) rfl T (fun M59 T => ?_)
        refine wp_iinc (L' := [.val (gR G o), .unset, .val (gI x2), .val (gI (x3 + 1)), .unset, .unset, .val (gI x6)]) d_GM_cut_205 rfl (by decide) rfl ?_
        refine wp_goto (tgt := 402) d_GM_cut_208 (by decide) ?_
        refine wp_goto (tgt := 7) d_GM_cut_402 (by decide) ?_
        exact wpt T (And.intro rfl (And.intro rfl (And.intro (gI_w _) True.intro)))
  · have T := T.2 h69
    refine wp_aload_n d_GM_cut_155 rfl rfl (g_nz hX.1) ?_
    refine xgetR d_GM_cut_156 gc_GM f_GM_8.1 f_GM_8.2.1 f_GM_8.2.2.1 hX.1 (gm_o2 hX) hX.2.2.1 f_GM_8.2.2.2.2.1 (gm_row hX 0 rfl).1 ?_
    refine wp_iload_n d_GM_cut_159 rfl rfl ?_
    refine wp_baload d_GM_cut_160 (gm_row hX 0 rfl).2.2.1 (gm_row hX 0 rfl).2.2.2 (gm_row hX 0 rfl).2.1 (g32_n T.1 (by decide)) T.1.1 T.1.2 (fun h62 => ?_)
    have T := T.2 h62
    refine wp_bipush d_GM_cut_161 ⟨by decide, by decide⟩ ?_
    refine xi_eq (tgt := 172) d_GM_cut_163 (by decide) (w32_id (g32_b h62)) (w32_id (g32_c (x := 34) rfl)) (fun h68 => ?_) (fun h68 => ?_)
    · have T := T.1 h68
      refine wp_aload_n d_GM_cut_172 rfl rfl (g_nz hX.1) ?_
      refine wp_iload_n d_GM_cut_173 rfl rfl ?_
      refine wp_iload_n d_GM_cut_174 rfl rfl ?_
      refine xi_eq (tgt := 187) d_GM_cut_175 (by decide) (w32_id hx3) (w32_id hx2) (fun h67 => ?_) (fun h67 => ?_)
      · have T := T.1 h67
        refine wp_iconst d_GM_cut_187 ?_
        refine wp_goto (tgt := 192) d_GM_cut_188 (by decide) ?_
        refine xputZ d_GM_cut_192 gc_GM f_GM_181.1 f_GM_181.2.1 f_GM_181.2.2.1 hX.1 (gm_o2 hX) hX.2.2.1 f_GM_181.2.2.2.1 f_GM_181.2.2.2.2.1 f_GM_181.2.2.2.2.2 (⟨by decide, by decide⟩ : (0 : Int) ≤ 1 ∧ (1 : Int) ≤ 1) ?_
        refine wp_aload_n d_GM_cut_195 rfl rfl (g_nz hX.1) ?_
        refine wp_iconst d_GM_cut_196 ?_
        refine wp_iload d_GM_cut_197 rfl ?_
        refine wp_iconst d_GM_cut_199 ?_
        refine wp_iadd d_GM_cut_200 ?_
        refine wp_iload_n d_GM_cut_201 rfl rfl ?_
        refine xcV_V (As := [gI 2, gI (x6 + 1), gI x3]) (st := []) d_GM_cut_202 ca_GM_token ml_GM_189 im_GM_token se_GM_token gc_GM hX.1 (gm_o2 hX) hX.2.2.1 rfl (by decide) (by decide) rfl T (fun M63 T => ?_)
        refine wp_iinc (L' := [.val (gR G o), .unset, .val (gI x2), .val (gI (x3 + 1)), .unset, .unset, .val (gI x6)]) d_GM_cut_205 rfl (by decide) rfl ?_
        refine wp_goto (tgt := 402) d_GM_cut_208 (by decide) ?_
        refine wp_goto (tgt := 7) d_GM_cut_402 (by decide) ?_
        exact wpt T (And.intro rfl (And.intro rfl (And.intro (gI_w _) True.intro)))
      · have T := T.2 h67
        refine wp_iload_n d_GM_cut_178 rfl rfl ?_
        refine wp_iload d_GM_cut_179 rfl ?_
        refine wp_isub d_GM_cut_181 ?_
        refine wp_bipush d_GM_cut_182 ⟨by decide, by decide⟩ ?_
        refine xi_le (tgt := 191) d_GM_cut_184 (by decide) rfl (w32_id (g32_c (x := 65) rfl)) (fun h66 => ?_) (fun h66 => ?_)
        · have T := T.1 h66
          refine wp_iconst d_GM_cut_191 ?_
          refine xputZ d_GM_cut_192 gc_GM f_GM_181.1 f_GM_181.2.1 f_GM_181.2.2.1 hX.1 (gm_o2 hX) hX.2.2.1 f_GM_181.2.2.2.1 f_GM_181.2.2.2.2.1 f_GM_181.2.2.2.2.2 (⟨by decide, by decide⟩ : (0 : Int) ≤ 0 ∧ (0 : Int) ≤ 1) ?_
          refine wp_aload_n d_GM_cut_195 rfl rfl (g_nz hX.1) ?_
          refine wp_iconst d_GM_cut_196 ?_
          refine wp_iload d_GM_cut_197 rfl ?_
          refine wp_iconst d_GM_cut_199 ?_
          refine wp_iadd d_GM_cut_200 ?_
          refine wp_iload_n d_GM_cut_201 rfl rfl ?_
          refine xcV_V (As := [gI 2, gI (x6 + 1), gI x3]) (st := []) d_GM_cut_202 ca_GM_token ml_GM_189 im_GM_token se_GM_token gc_GM hX.1 (gm_o2 hX) hX.2.2.1 rfl (by decide) (by decide) rfl T (fun M64 T => ?_)
          refine wp_iinc (L' := [.val (gR G o), .unset, .val (gI x2), .val (gI (x3 + 1)), .unset, .unset, .val (gI x6)]) d_GM_cut_205 rfl (by decide) rfl ?_
          refine wp_goto (tgt := 402) d_GM_cut_208 (by decide) ?_
          refine wp_goto (tgt := 7) d_GM_cut_402 (by decide) ?_
          exact wpt T (And.intro rfl (And.intro rfl (And.intro (gI_w _) True.intro)))
        · have T := T.2 h66
          refine wp_iconst d_GM_cut_187 ?_
          refine wp_goto (tgt := 192) d_GM_cut_188 (by decide) ?_
          refine xputZ d_GM_cut_192 gc_GM f_GM_181.1 f_GM_181.2.1 f_GM_181.2.2.1 hX.1 (gm_o2 hX) hX.2.2.1 f_GM_181.2.2.2.1 f_GM_181.2.2.2.2.1 f_GM_181.2.2.2.2.2 (⟨by decide, by decide⟩ : (0 : Int) ≤ 1 ∧ (1 : Int) ≤ 1) ?_
          refine wp_aload_n d_GM_cut_195 rfl rfl (g_nz hX.1) ?_
          refine wp_iconst d_GM_cut_196 ?_
          refine wp_iload d_GM_cut_197 rfl ?_
          refine wp_iconst d_GM_cut_199 ?_
          refine wp_iadd d_GM_cut_200 ?_
          refine wp_iload_n d_GM_cut_201 rfl rfl ?_
          refine xcV_V (As := [gI 2, gI (x6 + 1), gI x3]) (st := []) d_GM_cut_202 ca_GM_token ml_GM_189 im_GM_token se_GM_token gc_GM hX.1 (gm_o2 hX) hX.2.2.1 rfl (by decide) (by decide) rfl T (fun M65 T => ?_)
          refine wp_iinc (L' := [.val (gR G o), .unset, .val (gI x2), .val (gI (x3 + 1)), .unset, .unset, .val (gI x6)]) d_GM_cut_205 rfl (by decide) rfl ?_
          refine wp_goto (tgt := 402) d_GM_cut_208 (by decide) ?_
          refine wp_goto (tgt := 7) d_GM_cut_402 (by decide) ?_
          exact wpt T (And.intro rfl (And.intro rfl (And.intro (gI_w _) True.intro)))
    · have T := T.2 h68
      refine wp_iinc (L' := [.val (gR G o), .unset, .val (gI x2), .val (gI (x3 + 1)), .unset, .unset, .val (gI x6)]) d_GM_cut_166 rfl (by decide) rfl ?_
      refine wp_goto (tgt := 150) d_GM_cut_169 (by decide) ?_
      exact wpt T (And.intro rfl (And.intro rfl (And.intro (gI_w _) (And.intro rfl True.intro))))
set_option maxHeartbeats 4000000 in
theorem w_GM_cut_287 {l : Launch} {G : gG} {d : Nat} {X : gX} {M : gM} {k : gM → Prop} {o : Nat} (hX : gmX X o) {x2 : Int} (hx2 : g32 x2) {x3 : Int} (hx3 : g32 x3) {x4 : Int} (hx4 : g32 x4) {x6 : Int} (hx6 : g32 x6) (T : (x4 = 61 → (wp l G y_GM_cut (gRm (d + 1)) (kkV X k) 385 [.val (gR G o), .unset, .val (gI x2), .val (gI x3), .val (gI x4), .unset, .val (gI x6)] [] X M 0 0)) ∧ (¬ x4 = 61 → ((x4 = 60 → (wp l G y_GM_cut (gRm (d + 1)) (kkV X k) 385 [.val (gR G o), .unset, .val (gI x2), .val (gI x3), .val (gI x4), .unset, .val (gI x6)] [] X M 0 0)) ∧ (¬ x4 = 60 → ((x4 = 62 → (wp l G y_GM_cut (gRm (d + 1)) (kkV X k) 385 [.val (gR G o), .unset, .val (gI x2), .val (gI x3), .val (gI x4), .unset, .val (gI x6)] [] X M 0 0)) ∧ (¬ x4 = 62 → ((x4 = 38 → (wp l G y_GM_cut (gRm (d + 1)) (kkV X k) 385 [.val (gR G o), .unset, .val (gI x2), .val (gI x3), .val (gI x4), .unset, .val (gI x6)] [] X M 0 0)) ∧ (¬ x4 = 38 → ((x4 = 43 → (wp l G y_GM_cut (gRm (d + 1)) (kkV X k) 385 [.val (gR G o), .unset, .val (gI x2), .val (gI x3), .val (gI x4), .unset, .val (gI x6)] [] X M 0 0)) ∧ (¬ x4 = 43 → ((x4 = 45 → (wp l G y_GM_cut (gRm (d + 1)) (kkV X k) 385 [.val (gR G o), .unset, .val (gI x2), .val (gI x3), .val (gI x4), .unset, .val (gI x6)] [] X M 0 0)) ∧ (¬ x4 = 45 → ((x4 = 42 → (wp l G y_GM_cut (gRm (d + 1)) (kkV X k) 385 [.val (gR G o), .unset, .val (gI x2), .val (gI x3), .val (gI x4), .unset, .val (gI x6)] [] X M 0 0)) ∧ (¬ x4 = 42 → ((x4 = 47 → (wp l G y_GM_cut (gRm (d + 1)) (kkV X k) 385 [.val (gR G o), .unset, .val (gI x2), .val (gI x3), .val (gI x4), .unset, .val (gI x6)] [] X M 0 0)) ∧ (¬ x4 = 47 → ((x4 = 94 → (wp l G y_GM_cut (gRm (d + 1)) (kkV X k) 385 [.val (gR G o), .unset, .val (gI x2), .val (gI x3), .val (gI x4), .unset, .val (gI x6)] [] X M 0 0)) ∧ (¬ x4 = 94 → ((x4 = 37 → (wp l G y_GM_cut (gRm (d + 1)) (kkV X k) 385 [.val (gR G o), .unset, .val (gI x2), .val (gI x3), .val (gI x4), .unset, .val (gI x6)] [] X M 0 0)) ∧ (¬ x4 = 37 → ((x4 = 40 → (wp l G y_GM_cut (gRm (d + 1)) (kkV X k) 385 [.val (gR G o), .unset, .val (gI x2), .val (gI x3), .val (gI x4), .unset, .val (gI x6)] [] X M 0 0)) ∧ (¬ x4 = 40 → ((x4 = 41 → (wp l G y_GM_cut (gRm (d + 1)) (kkV X k) 385 [.val (gR G o), .unset, .val (gI x2), .val (gI x3), .val (gI x4), .unset, .val (gI x6)] [] X M 0 0)) ∧ (¬ x4 = 41 → ((x4 = 44 → (wp l G y_GM_cut (gRm (d + 1)) (kkV X k) 385 [.val (gR G o), .unset, .val (gI x2), .val (gI x3), .val (gI x4), .unset, .val (gI x6)] [] X M 0 0)) ∧ (¬ x4 = 44 → ((¬ x4 = 58 → (wp l G y_GM_cut (gRm (d + 1)) (kkV X k) 7 [.val (gR G o), .unset, .val (gI x2), .val (gI x3), .unset, .unset, .unset] [] X (gUp M o 27 1) 0 0)) ∧ (x4 = 58 → (wp l G y_GM_cut (gRm (d + 1)) (kkV X k) 385 [.val (gR G o), .unset, .val (gI x2), .val (gI x3), .val (gI x4), .unset, .val (gI x6)] [] X M 0 0))))))))))))))))))))))))))))) : wp l G y_GM_cut (gRm (d + 1)) (kkV X k) 287 [.val (gR G o), .unset, .val (gI x2), .val (gI x3), .val (gI x4), .unset, .val (gI x6)] [] X M 0 0 := by
  refine wp_iload d_GM_cut_287 rfl ?_
  refine wp_bipush d_GM_cut_289 ⟨by decide, by decide⟩ ?_
  refine xi_eq (tgt := 385) d_GM_cut_291 (by decide) (w32_id hx4) (w32_id (g32_c (x := 61) rfl)) (fun h83 => ?_) (fun h83 => ?_)
  · have T := T.1 h83
    exact wpt T (And.intro rfl (And.intro rfl (And.intro rfl (And.intro rfl (And.intro rfl True.intro)))))
  · have T := T.2 h83
    refine wp_iload d_GM_cut_294 rfl ?_
    refine wp_bipush d_GM_cut_296 ⟨by decide, by decide⟩ ?_
    refine xi_eq (tgt := 385) d_GM_cut_298 (by decide) (w32_id hx4) (w32_id (g32_c (x := 60) rfl)) (fun h82 => ?_) (fun h82 => ?_)
    · have T := T.1 h82
      exact wpt T (And.intro rfl (And.intro rfl (And.intro rfl (And.intro rfl (And.intro rfl True.intro)))))
    · have T := T.2 h82
      refine wp_iload d_GM_cut_301 rfl ?_
      refine wp_bipush d_GM_cut_303 ⟨by decide, by decide⟩ ?_
      refine xi_eq (tgt := 385) d_GM_cut_305 (by decide) (w32_id hx4) (w32_id (g32_c (x := 62) rfl)) (fun h81 => ?_) (fun h81 => ?_)
      · have T := T.1 h81
        exact wpt T (And.intro rfl (And.intro rfl (And.intro rfl (And.intro rfl (And.intro rfl True.intro)))))
      · have T := T.2 h81
        refine wp_iload d_GM_cut_308 rfl ?_
        refine wp_bipush d_GM_cut_310 ⟨by decide, by decide⟩ ?_
        refine xi_eq (tgt := 385) d_GM_cut_312 (by decide) (w32_id hx4) (w32_id (g32_c (x := 38) rfl)) (fun h80 => ?_) (fun h80 => ?_)
        · have T := T.1 h80
          exact wpt T (And.intro rfl (And.intro rfl (And.intro rfl (And.intro rfl (And.intro rfl True.intro)))))
        · have T := T.2 h80
          refine wp_iload d_GM_cut_315 rfl ?_
          refine wp_bipush d_GM_cut_317 ⟨by decide, by decide⟩ ?_
          refine xi_eq (tgt := 385) d_GM_cut_319 (by decide) (w32_id hx4) (w32_id (g32_c (x := 43) rfl)) (fun h79 => ?_) (fun h79 => ?_)
          · have T := T.1 h79
            exact wpt T (And.intro rfl (And.intro rfl (And.intro rfl (And.intro rfl (And.intro rfl True.intro)))))
          · have T := T.2 h79
            refine wp_iload d_GM_cut_322 rfl ?_
            refine wp_bipush d_GM_cut_324 ⟨by decide, by decide⟩ ?_
            refine xi_eq (tgt := 385) d_GM_cut_326 (by decide) (w32_id hx4) (w32_id (g32_c (x := 45) rfl)) (fun h78 => ?_) (fun h78 => ?_)
            · have T := T.1 h78
              exact wpt T (And.intro rfl (And.intro rfl (And.intro rfl (And.intro rfl (And.intro rfl True.intro)))))
            · have T := T.2 h78
              refine wp_iload d_GM_cut_329 rfl ?_
              refine wp_bipush d_GM_cut_331 ⟨by decide, by decide⟩ ?_
              refine xi_eq (tgt := 385) d_GM_cut_333 (by decide) (w32_id hx4) (w32_id (g32_c (x := 42) rfl)) (fun h77 => ?_) (fun h77 => ?_)
              · have T := T.1 h77
                exact wpt T (And.intro rfl (And.intro rfl (And.intro rfl (And.intro rfl (And.intro rfl True.intro)))))
              · have T := T.2 h77
                refine wp_iload d_GM_cut_336 rfl ?_
                refine wp_bipush d_GM_cut_338 ⟨by decide, by decide⟩ ?_
                refine xi_eq (tgt := 385) d_GM_cut_340 (by decide) (w32_id hx4) (w32_id (g32_c (x := 47) rfl)) (fun h76 => ?_) (fun h76 => ?_)
                · have T := T.1 h76
                  exact wpt T (And.intro rfl (And.intro rfl (And.intro rfl (And.intro rfl (And.intro rfl True.intro)))))
                · have T := T.2 h76
                  refine wp_iload d_GM_cut_343 rfl ?_
                  refine wp_bipush d_GM_cut_345 ⟨by decide, by decide⟩ ?_
                  refine xi_eq (tgt := 385) d_GM_cut_347 (by decide) (w32_id hx4) (w32_id (g32_c (x := 94) rfl)) (fun h75 => ?_) (fun h75 => ?_)
                  · have T := T.1 h75
                    exact wpt T (And.intro rfl (And.intro rfl (And.intro rfl (And.intro rfl (And.intro rfl True.intro)))))
                  · have T := T.2 h75
                    refine wp_iload d_GM_cut_350 rfl ?_
                    refine wp_bipush d_GM_cut_352 ⟨by decide, by decide⟩ ?_
                    refine xi_eq (tgt := 385) d_GM_cut_354 (by decide) (w32_id hx4) (w32_id (g32_c (x := 37) rfl)) (fun h74 => ?_) (fun h74 => ?_)
                    · have T := T.1 h74
                      exact wpt T (And.intro rfl (And.intro rfl (And.intro rfl (And.intro rfl (And.intro rfl True.intro)))))
                    · have T := T.2 h74
                      refine wp_iload d_GM_cut_357 rfl ?_
                      refine wp_bipush d_GM_cut_359 ⟨by decide, by decide⟩ ?_
                      refine xi_eq (tgt := 385) d_GM_cut_361 (by decide) (w32_id hx4) (w32_id (g32_c (x := 40) rfl)) (fun h73 => ?_) (fun h73 => ?_)
                      · have T := T.1 h73
                        exact wpt T (And.intro rfl (And.intro rfl (And.intro rfl (And.intro rfl (And.intro rfl True.intro)))))
                      · have T := T.2 h73
                        refine wp_iload d_GM_cut_364 rfl ?_
                        refine wp_bipush d_GM_cut_366 ⟨by decide, by decide⟩ ?_
                        refine xi_eq (tgt := 385) d_GM_cut_368 (by decide) (w32_id hx4) (w32_id (g32_c (x := 41) rfl)) (fun h72 => ?_) (fun h72 => ?_)
                        · have T := T.1 h72
                          exact wpt T (And.intro rfl (And.intro rfl (And.intro rfl (And.intro rfl (And.intro rfl True.intro)))))
                        · have T := T.2 h72
                          refine wp_iload d_GM_cut_371 rfl ?_
                          refine wp_bipush d_GM_cut_373 ⟨by decide, by decide⟩ ?_
                          refine xi_eq (tgt := 385) d_GM_cut_375 (by decide) (w32_id hx4) (w32_id (g32_c (x := 44) rfl)) (fun h71 => ?_) (fun h71 => ?_)
                          · have T := T.1 h71
                            exact wpt T (And.intro rfl (And.intro rfl (And.intro rfl (And.intro rfl (And.intro rfl True.intro)))))
                          · have T := T.2 h71
                            refine wp_iload d_GM_cut_378 rfl ?_
                            refine wp_bipush d_GM_cut_380 ⟨by decide, by decide⟩ ?_
                            refine xi_ne (tgt := 397) d_GM_cut_382 (by decide) (w32_id hx4) (w32_id (g32_c (x := 58) rfl)) (fun h70 => ?_) (fun h70 => ?_)
                            · have T := T.1 h70
                              refine wp_aload_n d_GM_cut_397 rfl rfl (g_nz hX.1) ?_
                              refine wp_iconst d_GM_cut_398 ?_
                              refine xputZ d_GM_cut_399 gc_GM f_GM_181.1 f_GM_181.2.1 f_GM_181.2.2.1 hX.1 (gm_o2 hX) hX.2.2.1 f_GM_181.2.2.2.1 f_GM_181.2.2.2.2.1 f_GM_181.2.2.2.2.2 (⟨by decide, by decide⟩ : (0 : Int) ≤ 1 ∧ (1 : Int) ≤ 1) ?_
                              refine wp_goto (tgt := 7) d_GM_cut_402 (by decide) ?_
                              exact wpt T (And.intro rfl (And.intro rfl (And.intro rfl True.intro)))
                            · have T := T.2 h70
                              exact wpt T (And.intro rfl (And.intro rfl (And.intro rfl (And.intro rfl (And.intro rfl True.intro)))))
set_option maxHeartbeats 4000000 in
theorem w_GM_cut_385 {l : Launch} {G : gG} {d : Nat} {X : gX} {M : gM} {k : gM → Prop} {o : Nat} (hX : gmX X o) {x2 : Int} (hx2 : g32 x2) {x3 : Int} (hx3 : g32 x3) {x4 : Int} (hx4 : g32 x4) {x6 : Int} (hx6 : g32 x6) (T : cV l G y_GM_token (gRm d) [gR G o, gI x4, gI x6, gI x3] X M (fun M84 => (wp l G y_GM_cut (gRm (d + 1)) (kkV X k) 7 [.val (gR G o), .unset, .val (gI x2), .val (gI x3), .unset, .unset, .unset] [] X M84 0 0))) : wp l G y_GM_cut (gRm (d + 1)) (kkV X k) 385 [.val (gR G o), .unset, .val (gI x2), .val (gI x3), .val (gI x4), .unset, .val (gI x6)] [] X M 0 0 := by
  refine wp_aload_n d_GM_cut_385 rfl rfl (g_nz hX.1) ?_
  refine wp_iload d_GM_cut_386 rfl ?_
  refine wp_iload d_GM_cut_388 rfl ?_
  refine wp_iload_n d_GM_cut_390 rfl rfl ?_
  refine xcV_V (As := [gI x4, gI x6, gI x3]) (st := []) d_GM_cut_391 ca_GM_token ml_GM_189 im_GM_token se_GM_token gc_GM hX.1 (gm_o2 hX) hX.2.2.1 rfl (by decide) (by decide) rfl T (fun M84 T => ?_)
  refine wp_goto (tgt := 402) d_GM_cut_394 (by decide) ?_
  refine wp_goto (tgt := 7) d_GM_cut_402 (by decide) ?_
  exact wpt T (And.intro rfl (And.intro rfl (And.intro rfl True.intro)))
theorem e_GM_cut {l : Launch} {G : gG} {d : Nat} {X : gX} {M : gM} {k : gM → Prop} {o : Nat} {x1 : Int} {x2 : Int} (T : wp l G y_GM_cut (gRm (d + 1)) (kkV X k) 0 [.val (gR G o), .val (gI x1), .val (gI x2), .unset, .unset, .unset, .unset] [] X M 0 0) : cV l G y_GM_cut (gRm (d + 1)) [gR G o, gI x1, gI x2] X M k := cen_V rfl (by simp only [lg_sl_R, lg_sl_I, lg_sl_L, lg_sl_N, List.length_cons, List.length_nil]; decide) (by unfold gEn; simp only [lg_sl_R, lg_sl_I, lg_sl_L, lg_sl_N]; exact wpt T (And.intro rfl (And.intro rfl (And.intro rfl True.intro))))
theorem d_GM_look_0 : decode prog_15_method_12_code 0 = .ok (.aload_n 0, 1) := by decide +kernel
theorem d_GM_look_1 : decode prog_15_method_12_code 1 = .ok (.getfield 218, 3) := by decide +kernel
theorem d_GM_look_4 : decode prog_15_method_12_code 4 = .ok (.iload_n 1, 1) := by decide +kernel
theorem d_GM_look_5 : decode prog_15_method_12_code 5 = .ok (.iadd, 1) := by decide +kernel
theorem d_GM_look_6 : decode prog_15_method_12_code 6 = .ok (.aload_n 0, 1) := by decide +kernel
theorem d_GM_look_7 : decode prog_15_method_12_code 7 = .ok (.getfield 178, 3) := by decide +kernel
theorem d_GM_look_10 : decode prog_15_method_12_code 10 = .ok (.if_icmp .ge 17, 3) := by decide +kernel
theorem d_GM_look_27 : decode prog_15_method_12_code 27 = .ok (.iconst 0, 1) := by decide +kernel
theorem d_GM_look_28 : decode prog_15_method_12_code 28 = .ok (.ireturn, 1) := by decide +kernel
theorem d_GM_look_13 : decode prog_15_method_12_code 13 = .ok (.aload_n 0, 1) := by decide +kernel
theorem d_GM_look_14 : decode prog_15_method_12_code 14 = .ok (.getfield 50, 3) := by decide +kernel
theorem d_GM_look_17 : decode prog_15_method_12_code 17 = .ok (.aload_n 0, 1) := by decide +kernel
theorem d_GM_look_18 : decode prog_15_method_12_code 18 = .ok (.getfield 218, 3) := by decide +kernel
theorem d_GM_look_21 : decode prog_15_method_12_code 21 = .ok (.iload_n 1, 1) := by decide +kernel
theorem d_GM_look_22 : decode prog_15_method_12_code 22 = .ok (.iadd, 1) := by decide +kernel
theorem d_GM_look_23 : decode prog_15_method_12_code 23 = .ok (.iaload, 1) := by decide +kernel
theorem d_GM_look_24 : decode prog_15_method_12_code 24 = .ok (.goto 4, 3) := by decide +kernel
set_option maxHeartbeats 4000000 in
theorem w_GM_look_0 {l : Launch} {G : gG} {d : Nat} {X : gX} {M : gM} {k : Int → gM → Prop} {o : Nat} (hX : gmX X o) {x1 : Int} (hx1 : g32 x1) (T : g32 (M o 25) → (g32 (M o 24) → ((M o 24 ≤ (w32 ((M o 25) + x1)) → (k 0 M)) ∧ (¬ M o 24 ≤ (w32 ((M o 25) + x1)) → (g32 (M o 25) → ((0 ≤ (M o 25) + x1 ∧ (M o 25) + x1 < 101) ∧ (g32 (M (o + 13) (Int.toNat ((M o 25) + x1))) → (k (M (o + 13) (Int.toNat ((M o 25) + x1))) M)))))))) : wp l G y_GM_look (gRm d) (kkI X k) 0 [.val (gR G o), .val (gI x1)] [] X M 0 0 := by
  refine wp_aload_n d_GM_look_0 rfl rfl (g_nz hX.1) ?_
  refine xgetI d_GM_look_1 gc_GM f_GM_218.1 f_GM_218.2.1 f_GM_218.2.2.1 hX.1 (gm_o2 hX) hX.2.2.1 f_GM_218.2.2.2.2.1 (fun h1 => ?_)
  have T := T h1
  refine wp_iload_n d_GM_look_4 rfl rfl ?_
  refine wp_iadd d_GM_look_5 ?_
  refine wp_aload_n d_GM_look_6 rfl rfl (g_nz hX.1) ?_
  refine xgetI d_GM_look_7 gc_GM f_GM_178.1 f_GM_178.2.1 f_GM_178.2.2.1 hX.1 (gm_o2 hX) hX.2.2.1 f_GM_178.2.2.2.2.1 (fun h2 => ?_)
  have T := T h2
  refine xi_ge (tgt := 27) d_GM_look_10 (by decide) rfl (w32_id h2) (fun h5 => ?_) (fun h5 => ?_)
  · have T := T.1 h5
    refine wp_iconst d_GM_look_27 ?_
    exact wp_ireturn d_GM_look_28 rfl (Nat.zero_le _) (Nat.zero_le _) (kI_mk (g32_c (x := 0) rfl) T)
  · have T := T.2 h5
    refine wp_aload_n d_GM_look_13 rfl rfl (g_nz hX.1) ?_
    refine xgetR d_GM_look_14 gc_GM f_GM_50.1 f_GM_50.2.1 f_GM_50.2.2.1 hX.1 (gm_o2 hX) hX.2.2.1 f_GM_50.2.2.2.2.1 (gm_row hX 12 rfl).1 ?_
    refine wp_aload_n d_GM_look_17 rfl rfl (g_nz hX.1) ?_
    refine xgetI d_GM_look_18 gc_GM f_GM_218.1 f_GM_218.2.1 f_GM_218.2.2.1 hX.1 (gm_o2 hX) hX.2.2.1 f_GM_218.2.2.2.2.1 (fun h3 => ?_)
    have T := T h3
    refine wp_iload_n d_GM_look_21 rfl rfl ?_
    refine wp_iadd d_GM_look_22 ?_
    refine wp_iaload d_GM_look_23 (gm_row hX 12 rfl).2.2.1 (gm_row hX 12 rfl).2.2.2 (gm_row hX 12 rfl).2.1 (g32_n T.1 (by decide)) T.1.1 T.1.2 (fun h4 => ?_)
    have T := T.2 h4
    refine wp_goto (tgt := 28) d_GM_look_24 (by decide) ?_
    exact wp_ireturn d_GM_look_28 rfl (Nat.zero_le _) (Nat.zero_le _) (kI_mk h4 T)
theorem e_GM_look {l : Launch} {G : gG} {d : Nat} {X : gX} {M : gM} {k : Int → gM → Prop} {o : Nat} {x1 : Int} (T : wp l G y_GM_look (gRm d) (kkI X k) 0 [.val (gR G o), .val (gI x1)] [] X M 0 0) : cI l G y_GM_look (gRm d) [gR G o, gI x1] X M k := cen_I rfl (by simp only [lg_sl_R, lg_sl_I, lg_sl_L, lg_sl_N, List.length_cons, List.length_nil]; decide) (by unfold gEn; simp only [lg_sl_R, lg_sl_I, lg_sl_L, lg_sl_N]; exact wpt T (And.intro rfl (And.intro rfl True.intro)))
theorem d_GM_pass_0 : decode prog_15_method_13_code 0 = .ok (.aload_n 0, 1) := by decide +kernel
theorem d_GM_pass_1 : decode prog_15_method_13_code 1 = .ok (.getfield 221, 3) := by decide +kernel
theorem d_GM_pass_4 : decode prog_15_method_13_code 4 = .ok (.bipush 20, 2) := by decide +kernel
theorem d_GM_pass_6 : decode prog_15_method_13_code 6 = .ok (.if_icmp .gt 14, 3) := by decide +kernel
theorem d_GM_pass_20 : decode prog_15_method_13_code 20 = .ok (.aload_n 0, 1) := by decide +kernel
theorem d_GM_pass_21 : decode prog_15_method_13_code 21 = .ok (.iconst 1, 1) := by decide +kernel
theorem d_GM_pass_22 : decode prog_15_method_13_code 22 = .ok (.putfield 181, 3) := by decide +kernel
theorem d_GM_pass_25 : decode prog_15_method_13_code 25 = .ok (.aload_n 0, 1) := by decide +kernel
theorem d_GM_pass_26 : decode prog_15_method_13_code 26 = .ok (.dup, 1) := by decide +kernel
theorem d_GM_pass_27 : decode prog_15_method_13_code 27 = .ok (.getfield 218, 3) := by decide +kernel
theorem d_GM_pass_30 : decode prog_15_method_13_code 30 = .ok (.iconst 1, 1) := by decide +kernel
theorem d_GM_pass_31 : decode prog_15_method_13_code 31 = .ok (.iadd, 1) := by decide +kernel
theorem d_GM_pass_32 : decode prog_15_method_13_code 32 = .ok (.putfield 218, 3) := by decide +kernel
theorem d_GM_pass_35 : decode prog_15_method_13_code 35 = .ok (.return_, 1) := by decide +kernel
theorem d_GM_pass_9 : decode prog_15_method_13_code 9 = .ok (.aload_n 0, 1) := by decide +kernel
theorem d_GM_pass_10 : decode prog_15_method_13_code 10 = .ok (.getfield 218, 3) := by decide +kernel
theorem d_GM_pass_13 : decode prog_15_method_13_code 13 = .ok (.aload_n 0, 1) := by decide +kernel
theorem d_GM_pass_14 : decode prog_15_method_13_code 14 = .ok (.getfield 178, 3) := by decide +kernel
theorem d_GM_pass_17 : decode prog_15_method_13_code 17 = .ok (.if_icmp .lt 8, 3) := by decide +kernel
set_option maxHeartbeats 4000000 in
theorem w_GM_pass_0 {l : Launch} {G : gG} {d : Nat} {X : gX} {M : gM} {k : gM → Prop} {o : Nat} (hX : gmX X o)  (T : g32 (M o 26) → ((20 < M o 26 → (g32 ((gUp M o 27 1) o 25) → (k (gUp (gUp M o 27 1) o 25 (w32 (((gUp M o 27 1) o 25) + 1)))))) ∧ (¬ 20 < M o 26 → (g32 (M o 25) → (g32 (M o 24) → ((M o 25 < M o 24 → (g32 (M o 25) → (k (gUp M o 25 (w32 ((M o 25) + 1)))))) ∧ (¬ M o 25 < M o 24 → (g32 ((gUp M o 27 1) o 25) → (k (gUp (gUp M o 27 1) o 25 (w32 (((gUp M o 27 1) o 25) + 1)))))))))))) : wp l G y_GM_pass (gRm d) (kkV X k) 0 [.val (gR G o)] [] X M 0 0 := by
  refine wp_aload_n d_GM_pass_0 rfl rfl (g_nz hX.1) ?_
  refine xgetI d_GM_pass_1 gc_GM f_GM_221.1 f_GM_221.2.1 f_GM_221.2.2.1 hX.1 (gm_o2 hX) hX.2.2.1 f_GM_221.2.2.2.2.1 (fun h1 => ?_)
  have T := T h1
  refine wp_bipush d_GM_pass_4 ⟨by decide, by decide⟩ ?_
  refine xi_gt (tgt := 20) d_GM_pass_6 (by decide) (w32_id h1) (w32_id (g32_c (x := 20) rfl)) (fun h8 => ?_) (fun h8 => ?_)
  · have T := T.1 h8
    refine wp_aload_n d_GM_pass_20 rfl rfl (g_nz hX.1) ?_
    refine wp_iconst d_GM_pass_21 ?_
    refine xputZ d_GM_pass_22 gc_GM f_GM_181.1 f_GM_181.2.1 f_GM_181.2.2.1 hX.1 (gm_o2 hX) hX.2.2.1 f_GM_181.2.2.2.1 f_GM_181.2.2.2.2.1 f_GM_181.2.2.2.2.2 (⟨by decide, by decide⟩ : (0 : Int) ≤ 1 ∧ (1 : Int) ≤ 1) ?_
    refine wp_aload_n d_GM_pass_25 rfl rfl (g_nz hX.1) ?_
    refine wp_dup d_GM_pass_26 (gR_cat _) ?_
    refine xgetI d_GM_pass_27 gc_GM f_GM_218.1 f_GM_218.2.1 f_GM_218.2.2.1 hX.1 (gm_o2 hX) hX.2.2.1 f_GM_218.2.2.2.2.1 (fun h2 => ?_)
    have T := T h2
    refine wp_iconst d_GM_pass_30 ?_
    refine wp_iadd d_GM_pass_31 ?_
    refine xputI d_GM_pass_32 gc_GM f_GM_218.1 f_GM_218.2.1 f_GM_218.2.2.1 hX.1 (gm_o2 hX) hX.2.2.1 f_GM_218.2.2.2.1 f_GM_218.2.2.2.2.1 f_GM_218.2.2.2.2.2 rfl ?_
    exact wp_return d_GM_pass_35 rfl (Nat.zero_le _) (Nat.zero_le _) (kV_mk T)
  · have T := T.2 h8
    refine wp_aload_n d_GM_pass_9 rfl rfl (g_nz hX.1) ?_
    refine xgetI d_GM_pass_10 gc_GM f_GM_218.1 f_GM_218.2.1 f_GM_218.2.2.1 hX.1 (gm_o2 hX) hX.2.2.1 f_GM_218.2.2.2.2.1 (fun h3 => ?_)
    have T := T h3
    refine wp_aload_n d_GM_pass_13 rfl rfl (g_nz hX.1) ?_
    refine xgetI d_GM_pass_14 gc_GM f_GM_178.1 f_GM_178.2.1 f_GM_178.2.2.1 hX.1 (gm_o2 hX) hX.2.2.1 f_GM_178.2.2.2.2.1 (fun h4 => ?_)
    have T := T h4
    refine xi_lt (tgt := 25) d_GM_pass_17 (by decide) (w32_id h3) (w32_id h4) (fun h7 => ?_) (fun h7 => ?_)
    · have T := T.1 h7
      refine wp_aload_n d_GM_pass_25 rfl rfl (g_nz hX.1) ?_
      refine wp_dup d_GM_pass_26 (gR_cat _) ?_
      refine xgetI d_GM_pass_27 gc_GM f_GM_218.1 f_GM_218.2.1 f_GM_218.2.2.1 hX.1 (gm_o2 hX) hX.2.2.1 f_GM_218.2.2.2.2.1 (fun h5 => ?_)
      have T := T h5
      refine wp_iconst d_GM_pass_30 ?_
      refine wp_iadd d_GM_pass_31 ?_
      refine xputI d_GM_pass_32 gc_GM f_GM_218.1 f_GM_218.2.1 f_GM_218.2.2.1 hX.1 (gm_o2 hX) hX.2.2.1 f_GM_218.2.2.2.1 f_GM_218.2.2.2.2.1 f_GM_218.2.2.2.2.2 rfl ?_
      exact wp_return d_GM_pass_35 rfl (Nat.zero_le _) (Nat.zero_le _) (kV_mk T)
    · have T := T.2 h7
      refine wp_aload_n d_GM_pass_20 rfl rfl (g_nz hX.1) ?_
      refine wp_iconst d_GM_pass_21 ?_
      refine xputZ d_GM_pass_22 gc_GM f_GM_181.1 f_GM_181.2.1 f_GM_181.2.2.1 hX.1 (gm_o2 hX) hX.2.2.1 f_GM_181.2.2.2.1 f_GM_181.2.2.2.2.1 f_GM_181.2.2.2.2.2 (⟨by decide, by decide⟩ : (0 : Int) ≤ 1 ∧ (1 : Int) ≤ 1) ?_
      refine wp_aload_n d_GM_pass_25 rfl rfl (g_nz hX.1) ?_
      refine wp_dup d_GM_pass_26 (gR_cat _) ?_
      refine xgetI d_GM_pass_27 gc_GM f_GM_218.1 f_GM_218.2.1 f_GM_218.2.2.1 hX.1 (gm_o2 hX) hX.2.2.1 f_GM_218.2.2.2.2.1 (fun h6 => ?_)
      have T := T h6
      refine wp_iconst d_GM_pass_30 ?_
      refine wp_iadd d_GM_pass_31 ?_
      refine xputI d_GM_pass_32 gc_GM f_GM_218.1 f_GM_218.2.1 f_GM_218.2.2.1 hX.1 (gm_o2 hX) hX.2.2.1 f_GM_218.2.2.2.1 f_GM_218.2.2.2.2.1 f_GM_218.2.2.2.2.2 rfl ?_
      exact wp_return d_GM_pass_35 rfl (Nat.zero_le _) (Nat.zero_le _) (kV_mk T)
theorem e_GM_pass {l : Launch} {G : gG} {d : Nat} {X : gX} {M : gM} {k : gM → Prop} {o : Nat} (T : wp l G y_GM_pass (gRm d) (kkV X k) 0 [.val (gR G o)] [] X M 0 0) : cV l G y_GM_pass (gRm d) [gR G o] X M k := cen_V rfl (by simp only [lg_sl_R, lg_sl_I, lg_sl_L, lg_sl_N, List.length_cons, List.length_nil]; decide) (by unfold gEn; simp only [lg_sl_R, lg_sl_I, lg_sl_L, lg_sl_N]; exact wpt T (And.intro rfl True.intro))
theorem d_GM_need_0 : decode prog_15_method_14_code 0 = .ok (.aload_n 0, 1) := by decide +kernel
theorem d_GM_need_1 : decode prog_15_method_14_code 1 = .ok (.iconst 0, 1) := by decide +kernel
theorem d_GM_need_2 : decode prog_15_method_14_code 2 = .ok (.invokevirtual 224, 3) := by decide +kernel
theorem d_GM_need_5 : decode prog_15_method_14_code 5 = .ok (.iload_n 1, 1) := by decide +kernel
theorem d_GM_need_6 : decode prog_15_method_14_code 6 = .ok (.if_icmp .eq 8, 3) := by decide +kernel
theorem d_GM_need_14 : decode prog_15_method_14_code 14 = .ok (.aload_n 0, 1) := by decide +kernel
theorem d_GM_need_15 : decode prog_15_method_14_code 15 = .ok (.invokevirtual 228, 3) := by decide +kernel
theorem d_GM_need_18 : decode prog_15_method_14_code 18 = .ok (.return_, 1) := by decide +kernel
theorem d_GM_need_9 : decode prog_15_method_14_code 9 = .ok (.aload_n 0, 1) := by decide +kernel
theorem d_GM_need_10 : decode prog_15_method_14_code 10 = .ok (.iconst 1, 1) := by decide +kernel
theorem d_GM_need_11 : decode prog_15_method_14_code 11 = .ok (.putfield 181, 3) := by decide +kernel
set_option maxHeartbeats 4000000 in
theorem w_GM_need_0 {l : Launch} {G : gG} {d : Nat} {X : gX} {M : gM} {k : gM → Prop} {o : Nat} (hX : gmX X o) {x1 : Int} (hx1 : g32 x1) (T : cI l G y_GM_look (gRm d) [gR G o, gI 0] X M (fun v2 M1 => ((v2 = x1 → (cV l G y_GM_pass (gRm d) [gR G o] X M1 (fun M4 => (k M4)))) ∧ (¬ v2 = x1 → (cV l G y_GM_pass (gRm d) [gR G o] X (gUp M1 o 27 1) (fun M5 => (k M5))))))) : wp l G y_GM_need (gRm (d + 1)) (kkV X k) 0 [.val (gR G o), .val (gI x1)] [] X M 0 0 := by
  refine wp_aload_n d_GM_need_0 rfl rfl (g_nz hX.1) ?_
  refine wp_iconst d_GM_need_1 ?_
  refine xcV_I (As := [gI 0]) (st := []) d_GM_need_2 ca_GM_look ml_GM_224 im_GM_look se_GM_look gc_GM hX.1 (gm_o2 hX) hX.2.2.1 rfl (by decide) (by decide) rfl T (fun v2 M1 h3 T => ?_)
  refine wp_iload_n d_GM_need_5 rfl rfl ?_
  refine xi_eq (tgt := 14) d_GM_need_6 (by decide) (w32_id h3) (w32_id hx1) (fun h6 => ?_) (fun h6 => ?_)
  · have T := T.1 h6
    refine wp_aload_n d_GM_need_14 rfl rfl (g_nz hX.1) ?_
    refine xcV_V (As := []) (st := []) d_GM_need_15 ca_GM_pass ml_GM_228 im_GM_pass se_GM_pass gc_GM hX.1 (gm_o2 hX) hX.2.2.1 rfl (by decide) (by decide) rfl T (fun M4 T => ?_)
    exact wp_return d_GM_need_18 rfl (Nat.zero_le _) (Nat.zero_le _) (kV_mk T)
  · have T := T.2 h6
    refine wp_aload_n d_GM_need_9 rfl rfl (g_nz hX.1) ?_
    refine wp_iconst d_GM_need_10 ?_
    refine xputZ d_GM_need_11 gc_GM f_GM_181.1 f_GM_181.2.1 f_GM_181.2.2.1 hX.1 (gm_o2 hX) hX.2.2.1 f_GM_181.2.2.2.1 f_GM_181.2.2.2.2.1 f_GM_181.2.2.2.2.2 (⟨by decide, by decide⟩ : (0 : Int) ≤ 1 ∧ (1 : Int) ≤ 1) ?_
    refine wp_aload_n d_GM_need_14 rfl rfl (g_nz hX.1) ?_
    refine xcV_V (As := []) (st := []) d_GM_need_15 ca_GM_pass ml_GM_228 im_GM_pass se_GM_pass gc_GM hX.1 (gm_o2 hX) hX.2.2.1 rfl (by decide) (by decide) rfl T (fun M5 T => ?_)
    exact wp_return d_GM_need_18 rfl (Nat.zero_le _) (Nat.zero_le _) (kV_mk T)
theorem e_GM_need {l : Launch} {G : gG} {d : Nat} {X : gX} {M : gM} {k : gM → Prop} {o : Nat} {x1 : Int} (T : wp l G y_GM_need (gRm (d + 1)) (kkV X k) 0 [.val (gR G o), .val (gI x1)] [] X M 0 0) : cV l G y_GM_need (gRm (d + 1)) [gR G o, gI x1] X M k := cen_V rfl (by simp only [lg_sl_R, lg_sl_I, lg_sl_L, lg_sl_N, List.length_cons, List.length_nil]; decide) (by unfold gEn; simp only [lg_sl_R, lg_sl_I, lg_sl_L, lg_sl_N]; exact wpt T (And.intro rfl (And.intro rfl True.intro)))
