/-! Walks of the reference's methods, written by wip/whole/gen_model.py -/
theorem d_GM_remember_0 : decode prog_15_method_76_code 0 = .ok (.iconst 0, 1) := by decide +kernel
theorem d_GM_remember_1 : decode prog_15_method_76_code 1 = .ok (.istore_n 1, 1) := by decide +kernel
theorem d_GM_remember_2 : decode prog_15_method_76_code 2 = .ok (.iload_n 1, 1) := by decide +kernel
theorem d_GM_remember_3 : decode prog_15_method_76_code 3 = .ok (.sipush 5200, 3) := by decide +kernel
theorem d_GM_remember_6 : decode prog_15_method_76_code 6 = .ok (.if_icmp .ge 85, 3) := by decide +kernel
theorem d_GM_remember_91 : decode prog_15_method_76_code 91 = .ok (.return_, 1) := by decide +kernel
theorem d_GM_remember_9 : decode prog_15_method_76_code 9 = .ok (.aload_n 0, 1) := by decide +kernel
theorem d_GM_remember_10 : decode prog_15_method_76_code 10 = .ok (.getfield 97, 3) := by decide +kernel
theorem d_GM_remember_13 : decode prog_15_method_76_code 13 = .ok (.iload_n 1, 1) := by decide +kernel
theorem d_GM_remember_14 : decode prog_15_method_76_code 14 = .ok (.aload_n 0, 1) := by decide +kernel
theorem d_GM_remember_15 : decode prog_15_method_76_code 15 = .ok (.getfield 91, 3) := by decide +kernel
theorem d_GM_remember_18 : decode prog_15_method_76_code 18 = .ok (.iload_n 1, 1) := by decide +kernel
theorem d_GM_remember_19 : decode prog_15_method_76_code 19 = .ok (.iaload, 1) := by decide +kernel
theorem d_GM_remember_20 : decode prog_15_method_76_code 20 = .ok (.iastore, 1) := by decide +kernel
theorem d_GM_remember_21 : decode prog_15_method_76_code 21 = .ok (.aload_n 0, 1) := by decide +kernel
theorem d_GM_remember_22 : decode prog_15_method_76_code 22 = .ok (.getfield 106, 3) := by decide +kernel
theorem d_GM_remember_25 : decode prog_15_method_76_code 25 = .ok (.iload_n 1, 1) := by decide +kernel
theorem d_GM_remember_26 : decode prog_15_method_76_code 26 = .ok (.aload_n 0, 1) := by decide +kernel
theorem d_GM_remember_27 : decode prog_15_method_76_code 27 = .ok (.getfield 103, 3) := by decide +kernel
theorem d_GM_remember_30 : decode prog_15_method_76_code 30 = .ok (.iload_n 1, 1) := by decide +kernel
theorem d_GM_remember_31 : decode prog_15_method_76_code 31 = .ok (.laload, 1) := by decide +kernel
theorem d_GM_remember_32 : decode prog_15_method_76_code 32 = .ok (.lastore, 1) := by decide +kernel
theorem d_GM_remember_33 : decode prog_15_method_76_code 33 = .ok (.aload_n 0, 1) := by decide +kernel
theorem d_GM_remember_34 : decode prog_15_method_76_code 34 = .ok (.getfield 100, 3) := by decide +kernel
theorem d_GM_remember_37 : decode prog_15_method_76_code 37 = .ok (.iload_n 1, 1) := by decide +kernel
theorem d_GM_remember_38 : decode prog_15_method_76_code 38 = .ok (.aload_n 0, 1) := by decide +kernel
theorem d_GM_remember_39 : decode prog_15_method_76_code 39 = .ok (.getfield 94, 3) := by decide +kernel
theorem d_GM_remember_42 : decode prog_15_method_76_code 42 = .ok (.iload_n 1, 1) := by decide +kernel
theorem d_GM_remember_43 : decode prog_15_method_76_code 43 = .ok (.iaload, 1) := by decide +kernel
theorem d_GM_remember_44 : decode prog_15_method_76_code 44 = .ok (.iastore, 1) := by decide +kernel
theorem d_GM_remember_45 : decode prog_15_method_76_code 45 = .ok (.iconst 0, 1) := by decide +kernel
theorem d_GM_remember_46 : decode prog_15_method_76_code 46 = .ok (.istore_n 2, 1) := by decide +kernel
theorem d_GM_remember_47 : decode prog_15_method_76_code 47 = .ok (.iload_n 2, 1) := by decide +kernel
theorem d_GM_remember_48 : decode prog_15_method_76_code 48 = .ok (.aload_n 0, 1) := by decide +kernel
theorem d_GM_remember_49 : decode prog_15_method_76_code 49 = .ok (.getfield 94, 3) := by decide +kernel
theorem d_GM_remember_52 : decode prog_15_method_76_code 52 = .ok (.iload_n 1, 1) := by decide +kernel
theorem d_GM_remember_53 : decode prog_15_method_76_code 53 = .ok (.iaload, 1) := by decide +kernel
theorem d_GM_remember_54 : decode prog_15_method_76_code 54 = .ok (.if_icmp .ge 31, 3) := by decide +kernel
theorem d_GM_remember_85 : decode prog_15_method_76_code 85 = .ok (.iinc 1 1, 3) := by decide +kernel
theorem d_GM_remember_88 : decode prog_15_method_76_code 88 = .ok (.goto (-86), 3) := by decide +kernel
theorem d_GM_remember_57 : decode prog_15_method_76_code 57 = .ok (.aload_n 0, 1) := by decide +kernel
theorem d_GM_remember_58 : decode prog_15_method_76_code 58 = .ok (.getfield 113, 3) := by decide +kernel
theorem d_GM_remember_61 : decode prog_15_method_76_code 61 = .ok (.bipush 64, 2) := by decide +kernel
theorem d_GM_remember_63 : decode prog_15_method_76_code 63 = .ok (.iload_n 1, 1) := by decide +kernel
theorem d_GM_remember_64 : decode prog_15_method_76_code 64 = .ok (.imul, 1) := by decide +kernel
theorem d_GM_remember_65 : decode prog_15_method_76_code 65 = .ok (.iload_n 2, 1) := by decide +kernel
theorem d_GM_remember_66 : decode prog_15_method_76_code 66 = .ok (.iadd, 1) := by decide +kernel
theorem d_GM_remember_67 : decode prog_15_method_76_code 67 = .ok (.aload_n 0, 1) := by decide +kernel
theorem d_GM_remember_68 : decode prog_15_method_76_code 68 = .ok (.getfield 110, 3) := by decide +kernel
theorem d_GM_remember_71 : decode prog_15_method_76_code 71 = .ok (.bipush 64, 2) := by decide +kernel
theorem d_GM_remember_73 : decode prog_15_method_76_code 73 = .ok (.iload_n 1, 1) := by decide +kernel
theorem d_GM_remember_74 : decode prog_15_method_76_code 74 = .ok (.imul, 1) := by decide +kernel
theorem d_GM_remember_75 : decode prog_15_method_76_code 75 = .ok (.iload_n 2, 1) := by decide +kernel
theorem d_GM_remember_76 : decode prog_15_method_76_code 76 = .ok (.iadd, 1) := by decide +kernel
theorem d_GM_remember_77 : decode prog_15_method_76_code 77 = .ok (.baload, 1) := by decide +kernel
theorem d_GM_remember_78 : decode prog_15_method_76_code 78 = .ok (.bastore, 1) := by decide +kernel
theorem d_GM_remember_79 : decode prog_15_method_76_code 79 = .ok (.iinc 2 1, 3) := by decide +kernel
theorem d_GM_remember_82 : decode prog_15_method_76_code 82 = .ok (.goto (-35), 3) := by decide +kernel
set_option maxHeartbeats 4000000 in
theorem w_GM_remember_0 {l : Launch} {G : gG} {d : Nat} {X : gX} {M : gM} {k : gM → Prop} {o : Nat} (hX : gmX X o)  (T : wp l G y_GM_remember (gRm d) true (kkV X k) true 2 [.val (gR G o), .val (gI 0), .unset] [] X M 0 0) : wp l G y_GM_remember (gRm d) true (kkV X k) false 0 [.val (gR G o), .unset, .unset] [] X M 0 0 := by
  refine wp_iconst d_GM_remember_0 ?_
  refine wp_istore_n (L' := [.val (gR G o), .val (gI 0), .unset]) d_GM_remember_1 rfl (by decide) (gS1_R rfl rfl) ?_
  exact wp_md (wpt T (And.intro rfl (And.intro rfl True.intro)))
set_option maxHeartbeats 4000000 in
theorem w_GM_remember_2 {l : Launch} {G : gG} {d : Nat} {X : gX} {M : gM} {k : gM → Prop} {o : Nat} (hX : gmX X o) {x1 : Int} (hx1 : g32 x1) (T : (5200 ≤ x1 → (k M)) ∧ (¬ 5200 ≤ x1 → (((0 : Int) ≤ x1 ∧ x1 < 5200) ∧ (g32 (M (o + 26) (Int.toNat x1)) → (((0 : Int) ≤ x1 ∧ x1 < 5200) ∧ (((0 : Int) ≤ x1 ∧ x1 < 5200) ∧ (g64 ((gUp M (o + 28) (Int.toNat x1) (M (o + 26) (Int.toNat x1))) (o + 30) (Int.toNat x1)) → (((0 : Int) ≤ x1 ∧ x1 < 5200) ∧ (((0 : Int) ≤ x1 ∧ x1 < 5200) ∧ (g32 ((gUp (gUp M (o + 28) (Int.toNat x1) (M (o + 26) (Int.toNat x1))) (o + 31) (Int.toNat x1) ((gUp M (o + 28) (Int.toNat x1) (M (o + 26) (Int.toNat x1))) (o + 30) (Int.toNat x1))) (o + 27) (Int.toNat x1)) → (((0 : Int) ≤ x1 ∧ x1 < 5200) ∧ (wp l G y_GM_remember (gRm d) true (kkV X k) true 47 [.val (gR G o), .val (gI x1), .val (gI 0)] [] X (gUp (gUp (gUp M (o + 28) (Int.toNat x1) (M (o + 26) (Int.toNat x1))) (o + 31) (Int.toNat x1) ((gUp M (o + 28) (Int.toNat x1) (M (o + 26) (Int.toNat x1))) (o + 30) (Int.toNat x1))) (o + 29) (Int.toNat x1) ((gUp (gUp M (o + 28) (Int.toNat x1) (M (o + 26) (Int.toNat x1))) (o + 31) (Int.toNat x1) ((gUp M (o + 28) (Int.toNat x1) (M (o + 26) (Int.toNat x1))) (o + 30) (Int.toNat x1))) (o + 27) (Int.toNat x1))) 0 0)))))))))))) : wp l G y_GM_remember (gRm d) true (kkV X k) true 2 [.val (gR G o), .val (gI x1), .unset] [] X M 0 0 := by
  refine wp_iload_n d_GM_remember_2 rfl rfl ?_
  refine wp_sipush d_GM_remember_3 ⟨by decide, by decide⟩ ?_
  refine xi_ge (tgt := 91) d_GM_remember_6 (by decide) (w32_id hx1) (w32_id (g32_c (x := 5200) rfl)) (fun h4 => ?_) (fun h4 => ?_)
  · have T := T.1 h4
    exact wp_return d_GM_remember_91 rfl (fun _ => rfl) (Nat.zero_le _) (Nat.zero_le _) (kV_mk T)
  · have T := T.2 h4
    refine wp_aload_n d_GM_remember_9 rfl rfl (g_nz hX.1) ?_
    refine xgetR d_GM_remember_10 gc_GM f_GM_97.1 f_GM_97.2.1 f_GM_97.2.2.1 hX.1 (gm_o2 hX) hX.2.2.1 f_GM_97.2.2.2.2.1 (gm_row hX 27 rfl).1 ?_
    refine wp_iload_n d_GM_remember_13 rfl rfl ?_
    refine wp_aload_n d_GM_remember_14 rfl rfl (g_nz hX.1) ?_
    refine xgetR d_GM_remember_15 gc_GM f_GM_91.1 f_GM_91.2.1 f_GM_91.2.2.1 hX.1 (gm_o2 hX) hX.2.2.1 f_GM_91.2.2.2.2.1 (gm_row hX 25 rfl).1 ?_
    refine wp_iload_n d_GM_remember_18 rfl rfl ?_
    refine wp_iaload d_GM_remember_19 (gm_row hX 25 rfl).2.2.1 (gm_row hX 25 rfl).2.2.2 (gm_row hX 25 rfl).2.1 (g32_n T.1 (by decide)) T.1.1 T.1.2 (fun h1 => ?_)
    have T := T.2 h1
    refine xiast d_GM_remember_20 (gm_row hX 27 rfl).2.2.1 (gm_row hX 27 rfl).2.2.2 (gm_row hX 27 rfl).2.1 (by decide) T.1 (w32_id h1) ?_
    have T := T.2
    refine wp_aload_n d_GM_remember_21 rfl rfl (g_nz hX.1) ?_
    refine xgetR d_GM_remember_22 gc_GM f_GM_106.1 f_GM_106.2.1 f_GM_106.2.2.1 hX.1 (gm_o2 hX) hX.2.2.1 f_GM_106.2.2.2.2.1 (gm_row hX 30 rfl).1 ?_
    refine wp_iload_n d_GM_remember_25 rfl rfl ?_
    refine wp_aload_n d_GM_remember_26 rfl rfl (g_nz hX.1) ?_
    refine xgetR d_GM_remember_27 gc_GM f_GM_103.1 f_GM_103.2.1 f_GM_103.2.2.1 hX.1 (gm_o2 hX) hX.2.2.1 f_GM_103.2.2.2.2.1 (gm_row hX 29 rfl).1 ?_
    refine wp_iload_n d_GM_remember_30 rfl rfl ?_
    refine wp_laload d_GM_remember_31 (gm_row hX 29 rfl).2.2.1 (gm_row hX 29 rfl).2.2.2 (gm_row hX 29 rfl).2.1 (g32_n T.1 (by decide)) T.1.1 T.1.2 (fun h2 => ?_)
    have T := T.2 h2
    refine xlast d_GM_remember_32 (gm_row hX 30 rfl).2.2.1 (gm_row hX 30 rfl).2.2.2 (gm_row hX 30 rfl).2.1 (by decide) T.1 (w64_id h2) ?_
    have T := T.2
    refine wp_aload_n d_GM_remember_33 rfl rfl (g_nz hX.1) ?_
    refine xgetR d_GM_remember_34 gc_GM f_GM_100.1 f_GM_100.2.1 f_GM_100.2.2.1 hX.1 (gm_o2 hX) hX.2.2.1 f_GM_100.2.2.2.2.1 (gm_row hX 28 rfl).1 ?_
    refine wp_iload_n d_GM_remember_37 rfl rfl ?_
    refine wp_aload_n d_GM_remember_38 rfl rfl (g_nz hX.1) ?_
    refine xgetR d_GM_remember_39 gc_GM f_GM_94.1 f_GM_94.2.1 f_GM_94.2.2.1 hX.1 (gm_o2 hX) hX.2.2.1 f_GM_94.2.2.2.2.1 (gm_row hX 26 rfl).1 ?_
    refine wp_iload_n d_GM_remember_42 rfl rfl ?_
    refine wp_iaload d_GM_remember_43 (gm_row hX 26 rfl).2.2.1 (gm_row hX 26 rfl).2.2.2 (gm_row hX 26 rfl).2.1 (g32_n T.1 (by decide)) T.1.1 T.1.2 (fun h3 => ?_)
    have T := T.2 h3
    refine xiast d_GM_remember_44 (gm_row hX 28 rfl).2.2.1 (gm_row hX 28 rfl).2.2.2 (gm_row hX 28 rfl).2.1 (by decide) T.1 (w32_id h3) ?_
    have T := T.2
    refine wp_iconst d_GM_remember_45 ?_
    refine wp_istore_n (L' := [.val (gR G o), .val (gI x1), .val (gI 0)]) d_GM_remember_46 rfl (by decide) rfl ?_
    exact wp_md (wpt T (And.intro rfl (And.intro rfl (And.intro rfl True.intro))))
set_option maxHeartbeats 4000000 in
theorem w_GM_remember_47 {l : Launch} {G : gG} {d : Nat} {X : gX} {M : gM} {k : gM → Prop} {o : Nat} (hX : gmX X o) {x1 : Int} (hx1 : g32 x1) {x2 : Int} (hx2 : g32 x2) (T : ((0 : Int) ≤ x1 ∧ x1 < 5200) ∧ (g32 (M (o + 27) (Int.toNat x1)) → ((M (o + 27) (Int.toNat x1) ≤ x2 → (wp l G y_GM_remember (gRm d) true (kkV X k) true 2 [.val (gR G o), .val (gI (w32 (x1 + 1))), .unset] [] X M 0 0)) ∧ (¬ M (o + 27) (Int.toNat x1) ≤ x2 → (((0 : Int) ≤ (64 * x1) + x2 ∧ (64 * x1) + x2 < 332800) ∧ ((-128 ≤ M (o + 32) (Int.toNat ((64 * x1) + x2)) ∧ M (o + 32) (Int.toNat ((64 * x1) + x2)) < 128) → (((0 : Int) ≤ (64 * x1) + x2 ∧ (64 * x1) + x2 < 332800) ∧ (wp l G y_GM_remember (gRm d) true (kkV X k) true 47 [.val (gR G o), .val (gI x1), .val (gI (w32 (x2 + 1)))] [] X (gUp M (o + 33) (Int.toNat ((64 * x1) + x2)) (gByte (M (o + 32) (Int.toNat ((64 * x1) + x2))))) 0 0)))))))) : wp l G y_GM_remember (gRm d) true (kkV X k) true 47 [.val (gR G o), .val (gI x1), .val (gI x2)] [] X M 0 0 := by
  refine wp_iload_n d_GM_remember_47 rfl rfl ?_
  refine wp_aload_n d_GM_remember_48 rfl rfl (g_nz hX.1) ?_
  refine xgetR d_GM_remember_49 gc_GM f_GM_94.1 f_GM_94.2.1 f_GM_94.2.2.1 hX.1 (gm_o2 hX) hX.2.2.1 f_GM_94.2.2.2.2.1 (gm_row hX 26 rfl).1 ?_
  refine wp_iload_n d_GM_remember_52 rfl rfl ?_
  refine wp_iaload d_GM_remember_53 (gm_row hX 26 rfl).2.2.1 (gm_row hX 26 rfl).2.2.2 (gm_row hX 26 rfl).2.1 (g32_n T.1 (by decide)) T.1.1 T.1.2 (fun h5 => ?_)
  have T := T.2 h5
  refine xi_ge (tgt := 85) d_GM_remember_54 (by decide) (w32_id hx2) (w32_id h5) (fun h7 => ?_) (fun h7 => ?_)
  · have T := T.1 h7
    refine wp_iinc (L' := [.val (gR G o), .val (gI (x1 + 1)), .val (gI x2)]) d_GM_remember_85 rfl (by decide) (gS1_R rfl rfl) ?_
    refine wp_goto (tgt := 2) d_GM_remember_88 (by decide) ?_
    exact wp_md (wpt T (And.intro rfl (And.intro (gI_w _) True.intro)))
  · have T := T.2 h7
    refine wp_aload_n d_GM_remember_57 rfl rfl (g_nz hX.1) ?_
    refine xgetR d_GM_remember_58 gc_GM f_GM_113.1 f_GM_113.2.1 f_GM_113.2.2.1 hX.1 (gm_o2 hX) hX.2.2.1 f_GM_113.2.2.2.2.1 (gm_row hX 32 rfl).1 ?_
    refine wp_bipush d_GM_remember_61 ⟨by decide, by decide⟩ ?_
    refine wp_iload_n d_GM_remember_63 rfl rfl ?_
    refine wp_imul d_GM_remember_64 ?_
    refine wp_iload_n d_GM_remember_65 rfl rfl ?_
    refine wp_iadd d_GM_remember_66 ?_
    refine wp_aload_n d_GM_remember_67 rfl rfl (g_nz hX.1) ?_
    refine xgetR d_GM_remember_68 gc_GM f_GM_110.1 f_GM_110.2.1 f_GM_110.2.2.1 hX.1 (gm_o2 hX) hX.2.2.1 f_GM_110.2.2.2.2.1 (gm_row hX 31 rfl).1 ?_
    refine wp_bipush d_GM_remember_71 ⟨by decide, by decide⟩ ?_
    refine wp_iload_n d_GM_remember_73 rfl rfl ?_
    refine wp_imul d_GM_remember_74 ?_
    refine wp_iload_n d_GM_remember_75 rfl rfl ?_
    refine wp_iadd d_GM_remember_76 ?_
    refine wp_baload d_GM_remember_77 (gm_row hX 31 rfl).2.2.1 (gm_row hX 31 rfl).2.2.2 (gm_row hX 31 rfl).2.1 (g32_n T.1 (by decide)) T.1.1 T.1.2 (fun h6 => ?_)
    have T := T.2 h6
    refine xbast d_GM_remember_78 (gm_row hX 32 rfl).2.2.1 (gm_row hX 32 rfl).2.2.2 (gm_row hX 32 rfl).2.1 (by decide) T.1 ?_
    have T := T.2
    refine wp_iinc (L' := [.val (gR G o), .val (gI x1), .val (gI (x2 + 1))]) d_GM_remember_79 rfl (by decide) rfl ?_
    refine wp_goto (tgt := 47) d_GM_remember_82 (by decide) ?_
    exact wp_md (wpt T (And.intro rfl (And.intro rfl (And.intro (gI_w _) True.intro))))
theorem e_GM_remember {l : Launch} {G : gG} {d : Nat} {X : gX} {M : gM} {k : gM → Prop} {o : Nat} (T : wp l G y_GM_remember (gRm d) true (kkV X k) false 0 [.val (gR G o), .unset, .unset] [] X M 0 0) : cV l G y_GM_remember (gRm d) true [gR G o] X M k := cen_V (plainFor_of_name rfl) (by simp only [lg_sl_R, lg_sl_I, lg_sl_L, lg_sl_N, List.length_cons, List.length_nil]; decide) (by unfold gEn; simp only [lg_sl_R, lg_sl_I, lg_sl_L, lg_sl_N]; exact wpt T (And.intro rfl True.intro))
theorem d_GM_isChanged_0 : decode prog_15_method_77_code 0 = .ok (.aload_n 0, 1) := by decide +kernel
theorem d_GM_isChanged_1 : decode prog_15_method_77_code 1 = .ok (.getfield 97, 3) := by decide +kernel
theorem d_GM_isChanged_4 : decode prog_15_method_77_code 4 = .ok (.iload_n 1, 1) := by decide +kernel
theorem d_GM_isChanged_5 : decode prog_15_method_77_code 5 = .ok (.iaload, 1) := by decide +kernel
theorem d_GM_isChanged_6 : decode prog_15_method_77_code 6 = .ok (.aload_n 0, 1) := by decide +kernel
theorem d_GM_isChanged_7 : decode prog_15_method_77_code 7 = .ok (.getfield 91, 3) := by decide +kernel
theorem d_GM_isChanged_10 : decode prog_15_method_77_code 10 = .ok (.iload_n 1, 1) := by decide +kernel
theorem d_GM_isChanged_11 : decode prog_15_method_77_code 11 = .ok (.iaload, 1) := by decide +kernel
theorem d_GM_isChanged_12 : decode prog_15_method_77_code 12 = .ok (.if_icmp .ne 34, 3) := by decide +kernel
theorem d_GM_isChanged_46 : decode prog_15_method_77_code 46 = .ok (.iconst 1, 1) := by decide +kernel
theorem d_GM_isChanged_47 : decode prog_15_method_77_code 47 = .ok (.ireturn, 1) := by decide +kernel
theorem d_GM_isChanged_15 : decode prog_15_method_77_code 15 = .ok (.aload_n 0, 1) := by decide +kernel
theorem d_GM_isChanged_16 : decode prog_15_method_77_code 16 = .ok (.getfield 106, 3) := by decide +kernel
theorem d_GM_isChanged_19 : decode prog_15_method_77_code 19 = .ok (.iload_n 1, 1) := by decide +kernel
theorem d_GM_isChanged_20 : decode prog_15_method_77_code 20 = .ok (.laload, 1) := by decide +kernel
theorem d_GM_isChanged_21 : decode prog_15_method_77_code 21 = .ok (.aload_n 0, 1) := by decide +kernel
theorem d_GM_isChanged_22 : decode prog_15_method_77_code 22 = .ok (.getfield 103, 3) := by decide +kernel
theorem d_GM_isChanged_25 : decode prog_15_method_77_code 25 = .ok (.iload_n 1, 1) := by decide +kernel
theorem d_GM_isChanged_26 : decode prog_15_method_77_code 26 = .ok (.laload, 1) := by decide +kernel
theorem d_GM_isChanged_27 : decode prog_15_method_77_code 27 = .ok (.lcmp, 1) := by decide +kernel
theorem d_GM_isChanged_28 : decode prog_15_method_77_code 28 = .ok (.ifCond .ne 18, 3) := by decide +kernel
theorem d_GM_isChanged_31 : decode prog_15_method_77_code 31 = .ok (.aload_n 0, 1) := by decide +kernel
theorem d_GM_isChanged_32 : decode prog_15_method_77_code 32 = .ok (.getfield 100, 3) := by decide +kernel
theorem d_GM_isChanged_35 : decode prog_15_method_77_code 35 = .ok (.iload_n 1, 1) := by decide +kernel
theorem d_GM_isChanged_36 : decode prog_15_method_77_code 36 = .ok (.iaload, 1) := by decide +kernel
theorem d_GM_isChanged_37 : decode prog_15_method_77_code 37 = .ok (.aload_n 0, 1) := by decide +kernel
theorem d_GM_isChanged_38 : decode prog_15_method_77_code 38 = .ok (.getfield 94, 3) := by decide +kernel
theorem d_GM_isChanged_41 : decode prog_15_method_77_code 41 = .ok (.iload_n 1, 1) := by decide +kernel
theorem d_GM_isChanged_42 : decode prog_15_method_77_code 42 = .ok (.iaload, 1) := by decide +kernel
theorem d_GM_isChanged_43 : decode prog_15_method_77_code 43 = .ok (.if_icmp .eq 5, 3) := by decide +kernel
theorem d_GM_isChanged_48 : decode prog_15_method_77_code 48 = .ok (.iconst 0, 1) := by decide +kernel
theorem d_GM_isChanged_49 : decode prog_15_method_77_code 49 = .ok (.istore_n 2, 1) := by decide +kernel
theorem d_GM_isChanged_50 : decode prog_15_method_77_code 50 = .ok (.iload_n 2, 1) := by decide +kernel
theorem d_GM_isChanged_51 : decode prog_15_method_77_code 51 = .ok (.aload_n 0, 1) := by decide +kernel
theorem d_GM_isChanged_52 : decode prog_15_method_77_code 52 = .ok (.getfield 94, 3) := by decide +kernel
theorem d_GM_isChanged_55 : decode prog_15_method_77_code 55 = .ok (.iload_n 1, 1) := by decide +kernel
theorem d_GM_isChanged_56 : decode prog_15_method_77_code 56 = .ok (.iaload, 1) := by decide +kernel
theorem d_GM_isChanged_57 : decode prog_15_method_77_code 57 = .ok (.if_icmp .ge 36, 3) := by decide +kernel
theorem d_GM_isChanged_93 : decode prog_15_method_77_code 93 = .ok (.iconst 0, 1) := by decide +kernel
theorem d_GM_isChanged_94 : decode prog_15_method_77_code 94 = .ok (.ireturn, 1) := by decide +kernel
theorem d_GM_isChanged_60 : decode prog_15_method_77_code 60 = .ok (.aload_n 0, 1) := by decide +kernel
theorem d_GM_isChanged_61 : decode prog_15_method_77_code 61 = .ok (.getfield 113, 3) := by decide +kernel
theorem d_GM_isChanged_64 : decode prog_15_method_77_code 64 = .ok (.bipush 64, 2) := by decide +kernel
theorem d_GM_isChanged_66 : decode prog_15_method_77_code 66 = .ok (.iload_n 1, 1) := by decide +kernel
theorem d_GM_isChanged_67 : decode prog_15_method_77_code 67 = .ok (.imul, 1) := by decide +kernel
theorem d_GM_isChanged_68 : decode prog_15_method_77_code 68 = .ok (.iload_n 2, 1) := by decide +kernel
theorem d_GM_isChanged_69 : decode prog_15_method_77_code 69 = .ok (.iadd, 1) := by decide +kernel
theorem d_GM_isChanged_70 : decode prog_15_method_77_code 70 = .ok (.baload, 1) := by decide +kernel
theorem d_GM_isChanged_71 : decode prog_15_method_77_code 71 = .ok (.aload_n 0, 1) := by decide +kernel
theorem d_GM_isChanged_72 : decode prog_15_method_77_code 72 = .ok (.getfield 110, 3) := by decide +kernel
theorem d_GM_isChanged_75 : decode prog_15_method_77_code 75 = .ok (.bipush 64, 2) := by decide +kernel
theorem d_GM_isChanged_77 : decode prog_15_method_77_code 77 = .ok (.iload_n 1, 1) := by decide +kernel
theorem d_GM_isChanged_78 : decode prog_15_method_77_code 78 = .ok (.imul, 1) := by decide +kernel
theorem d_GM_isChanged_79 : decode prog_15_method_77_code 79 = .ok (.iload_n 2, 1) := by decide +kernel
theorem d_GM_isChanged_80 : decode prog_15_method_77_code 80 = .ok (.iadd, 1) := by decide +kernel
theorem d_GM_isChanged_81 : decode prog_15_method_77_code 81 = .ok (.baload, 1) := by decide +kernel
theorem d_GM_isChanged_82 : decode prog_15_method_77_code 82 = .ok (.if_icmp .eq 5, 3) := by decide +kernel
theorem d_GM_isChanged_87 : decode prog_15_method_77_code 87 = .ok (.iinc 2 1, 3) := by decide +kernel
theorem d_GM_isChanged_90 : decode prog_15_method_77_code 90 = .ok (.goto (-40), 3) := by decide +kernel
theorem d_GM_isChanged_85 : decode prog_15_method_77_code 85 = .ok (.iconst 1, 1) := by decide +kernel
theorem d_GM_isChanged_86 : decode prog_15_method_77_code 86 = .ok (.ireturn, 1) := by decide +kernel
set_option maxHeartbeats 4000000 in
theorem w_GM_isChanged_0 {l : Launch} {G : gG} {d : Nat} {X : gX} {M : gM} {k : Int → gM → Prop} {o : Nat} (hX : gmX X o) {x1 : Int} (hx1 : g32 x1) (T : ((0 : Int) ≤ x1 ∧ x1 < 5200) ∧ (g32 (M (o + 28) (Int.toNat x1)) → (((0 : Int) ≤ x1 ∧ x1 < 5200) ∧ (g32 (M (o + 26) (Int.toNat x1)) → ((¬ M (o + 28) (Int.toNat x1) = M (o + 26) (Int.toNat x1) → (k 1 M)) ∧ (M (o + 28) (Int.toNat x1) = M (o + 26) (Int.toNat x1) → (((0 : Int) ≤ x1 ∧ x1 < 5200) ∧ (g64 (M (o + 31) (Int.toNat x1)) → (((0 : Int) ≤ x1 ∧ x1 < 5200) ∧ (g64 (M (o + 30) (Int.toNat x1)) → ((¬ M (o + 31) (Int.toNat x1) = M (o + 30) (Int.toNat x1) → (k 1 M)) ∧ (M (o + 31) (Int.toNat x1) = M (o + 30) (Int.toNat x1) → (((0 : Int) ≤ x1 ∧ x1 < 5200) ∧ (g32 (M (o + 29) (Int.toNat x1)) → (((0 : Int) ≤ x1 ∧ x1 < 5200) ∧ (g32 (M (o + 27) (Int.toNat x1)) → ((M (o + 29) (Int.toNat x1) = M (o + 27) (Int.toNat x1) → (wp l G y_GM_isChanged (gRm d) false (kkZ X k) false 50 [.val (gR G o), .val (gI x1), .val (gI 0)] [] X M 0 0)) ∧ (¬ M (o + 29) (Int.toNat x1) = M (o + 27) (Int.toNat x1) → (k 1 M))))))))))))))))))) : wp l G y_GM_isChanged (gRm d) false (kkZ X k) false 0 [.val (gR G o), .val (gI x1), .unset] [] X M 0 0 := by
  refine wp_aload_n d_GM_isChanged_0 rfl rfl (g_nz hX.1) ?_
  refine xgetR d_GM_isChanged_1 gc_GM f_GM_97.1 f_GM_97.2.1 f_GM_97.2.2.1 hX.1 (gm_o2 hX) hX.2.2.1 f_GM_97.2.2.2.2.1 (gm_row hX 27 rfl).1 ?_
  refine wp_iload_n d_GM_isChanged_4 rfl rfl ?_
  refine wp_iaload d_GM_isChanged_5 (gm_row hX 27 rfl).2.2.1 (gm_row hX 27 rfl).2.2.2 (gm_row hX 27 rfl).2.1 (g32_n T.1 (by decide)) T.1.1 T.1.2 (fun h1 => ?_)
  have T := T.2 h1
  refine wp_aload_n d_GM_isChanged_6 rfl rfl (g_nz hX.1) ?_
  refine xgetR d_GM_isChanged_7 gc_GM f_GM_91.1 f_GM_91.2.1 f_GM_91.2.2.1 hX.1 (gm_o2 hX) hX.2.2.1 f_GM_91.2.2.2.2.1 (gm_row hX 25 rfl).1 ?_
  refine wp_iload_n d_GM_isChanged_10 rfl rfl ?_
  refine wp_iaload d_GM_isChanged_11 (gm_row hX 25 rfl).2.2.1 (gm_row hX 25 rfl).2.2.2 (gm_row hX 25 rfl).2.1 (g32_n T.1 (by decide)) T.1.1 T.1.2 (fun h2 => ?_)
  have T := T.2 h2
  refine xi_ne (tgt := 46) d_GM_isChanged_12 (by decide) (w32_id h1) (w32_id h2) (fun h9 => ?_) (fun h9 => ?_)
  · have T := T.1 h9
    refine wp_iconst d_GM_isChanged_46 ?_
    exact wp_zreturn d_GM_isChanged_47 rfl (g_narz (⟨by decide, by decide⟩ : (0 : Int) ≤ 1 ∧ (1 : Int) ≤ 1)) id (Nat.zero_le _) (Nat.zero_le _) (kZ_mk (⟨by decide, by decide⟩ : (0 : Int) ≤ 1 ∧ (1 : Int) ≤ 1) T)
  · have T := T.2 h9
    refine wp_aload_n d_GM_isChanged_15 rfl rfl (g_nz hX.1) ?_
    refine xgetR d_GM_isChanged_16 gc_GM f_GM_106.1 f_GM_106.2.1 f_GM_106.2.2.1 hX.1 (gm_o2 hX) hX.2.2.1 f_GM_106.2.2.2.2.1 (gm_row hX 30 rfl).1 ?_
    refine wp_iload_n d_GM_isChanged_19 rfl rfl ?_
    refine wp_laload d_GM_isChanged_20 (gm_row hX 30 rfl).2.2.1 (gm_row hX 30 rfl).2.2.2 (gm_row hX 30 rfl).2.1 (g32_n T.1 (by decide)) T.1.1 T.1.2 (fun h3 => ?_)
    have T := T.2 h3
    refine wp_aload_n d_GM_isChanged_21 rfl rfl (g_nz hX.1) ?_
    refine xgetR d_GM_isChanged_22 gc_GM f_GM_103.1 f_GM_103.2.1 f_GM_103.2.2.1 hX.1 (gm_o2 hX) hX.2.2.1 f_GM_103.2.2.2.2.1 (gm_row hX 29 rfl).1 ?_
    refine wp_iload_n d_GM_isChanged_25 rfl rfl ?_
    refine wp_laload d_GM_isChanged_26 (gm_row hX 29 rfl).2.2.1 (gm_row hX 29 rfl).2.2.2 (gm_row hX 29 rfl).2.1 (g32_n T.1 (by decide)) T.1.1 T.1.2 (fun h4 => ?_)
    have T := T.2 h4
    refine xl_ne (tgt := 46) d_GM_isChanged_27 d_GM_isChanged_28 (by decide) (w64_id h3) (w64_id h4) (fun h8 => ?_) (fun h8 => ?_)
    · have T := T.1 h8
      refine wp_iconst d_GM_isChanged_46 ?_
      exact wp_zreturn d_GM_isChanged_47 rfl (g_narz (⟨by decide, by decide⟩ : (0 : Int) ≤ 1 ∧ (1 : Int) ≤ 1)) id (Nat.zero_le _) (Nat.zero_le _) (kZ_mk (⟨by decide, by decide⟩ : (0 : Int) ≤ 1 ∧ (1 : Int) ≤ 1) T)
    · have T := T.2 h8
      refine wp_aload_n d_GM_isChanged_31 rfl rfl (g_nz hX.1) ?_
      refine xgetR d_GM_isChanged_32 gc_GM f_GM_100.1 f_GM_100.2.1 f_GM_100.2.2.1 hX.1 (gm_o2 hX) hX.2.2.1 f_GM_100.2.2.2.2.1 (gm_row hX 28 rfl).1 ?_
      refine wp_iload_n d_GM_isChanged_35 rfl rfl ?_
      refine wp_iaload d_GM_isChanged_36 (gm_row hX 28 rfl).2.2.1 (gm_row hX 28 rfl).2.2.2 (gm_row hX 28 rfl).2.1 (g32_n T.1 (by decide)) T.1.1 T.1.2 (fun h5 => ?_)
      have T := T.2 h5
      refine wp_aload_n d_GM_isChanged_37 rfl rfl (g_nz hX.1) ?_
      refine xgetR d_GM_isChanged_38 gc_GM f_GM_94.1 f_GM_94.2.1 f_GM_94.2.2.1 hX.1 (gm_o2 hX) hX.2.2.1 f_GM_94.2.2.2.2.1 (gm_row hX 26 rfl).1 ?_
      refine wp_iload_n d_GM_isChanged_41 rfl rfl ?_
      refine wp_iaload d_GM_isChanged_42 (gm_row hX 26 rfl).2.2.1 (gm_row hX 26 rfl).2.2.2 (gm_row hX 26 rfl).2.1 (g32_n T.1 (by decide)) T.1.1 T.1.2 (fun h6 => ?_)
      have T := T.2 h6
      refine xi_eq (tgt := 48) d_GM_isChanged_43 (by decide) (w32_id h5) (w32_id h6) (fun h7 => ?_) (fun h7 => ?_)
      · have T := T.1 h7
        refine wp_iconst d_GM_isChanged_48 ?_
        refine wp_istore_n (L' := [.val (gR G o), .val (gI x1), .val (gI 0)]) d_GM_isChanged_49 rfl (by decide) rfl ?_
        exact (wpt T (And.intro rfl (And.intro rfl (And.intro rfl True.intro))))
      · have T := T.2 h7
        refine wp_iconst d_GM_isChanged_46 ?_
        exact wp_zreturn d_GM_isChanged_47 rfl (g_narz (⟨by decide, by decide⟩ : (0 : Int) ≤ 1 ∧ (1 : Int) ≤ 1)) id (Nat.zero_le _) (Nat.zero_le _) (kZ_mk (⟨by decide, by decide⟩ : (0 : Int) ≤ 1 ∧ (1 : Int) ≤ 1) T)
set_option maxHeartbeats 4000000 in
theorem w_GM_isChanged_50 {l : Launch} {G : gG} {d : Nat} {X : gX} {M : gM} {k : Int → gM → Prop} {o : Nat} (hX : gmX X o) {x1 : Int} (hx1 : g32 x1) {x2 : Int} (hx2 : g32 x2) (T : ((0 : Int) ≤ x1 ∧ x1 < 5200) ∧ (g32 (M (o + 27) (Int.toNat x1)) → ((M (o + 27) (Int.toNat x1) ≤ x2 → (k 0 M)) ∧ (¬ M (o + 27) (Int.toNat x1) ≤ x2 → (((0 : Int) ≤ (64 * x1) + x2 ∧ (64 * x1) + x2 < 332800) ∧ ((-128 ≤ M (o + 33) (Int.toNat ((64 * x1) + x2)) ∧ M (o + 33) (Int.toNat ((64 * x1) + x2)) < 128) → (((0 : Int) ≤ (64 * x1) + x2 ∧ (64 * x1) + x2 < 332800) ∧ ((-128 ≤ M (o + 32) (Int.toNat ((64 * x1) + x2)) ∧ M (o + 32) (Int.toNat ((64 * x1) + x2)) < 128) → ((M (o + 33) (Int.toNat ((64 * x1) + x2)) = M (o + 32) (Int.toNat ((64 * x1) + x2)) → (wp l G y_GM_isChanged (gRm d) false (kkZ X k) false 50 [.val (gR G o), .val (gI x1), .val (gI (w32 (x2 + 1)))] [] X M 0 0)) ∧ (¬ M (o + 33) (Int.toNat ((64 * x1) + x2)) = M (o + 32) (Int.toNat ((64 * x1) + x2)) → (k 1 M))))))))))) : wp l G y_GM_isChanged (gRm d) false (kkZ X k) false 50 [.val (gR G o), .val (gI x1), .val (gI x2)] [] X M 0 0 := by
  refine wp_iload_n d_GM_isChanged_50 rfl rfl ?_
  refine wp_aload_n d_GM_isChanged_51 rfl rfl (g_nz hX.1) ?_
  refine xgetR d_GM_isChanged_52 gc_GM f_GM_94.1 f_GM_94.2.1 f_GM_94.2.2.1 hX.1 (gm_o2 hX) hX.2.2.1 f_GM_94.2.2.2.2.1 (gm_row hX 26 rfl).1 ?_
  refine wp_iload_n d_GM_isChanged_55 rfl rfl ?_
  refine wp_iaload d_GM_isChanged_56 (gm_row hX 26 rfl).2.2.1 (gm_row hX 26 rfl).2.2.2 (gm_row hX 26 rfl).2.1 (g32_n T.1 (by decide)) T.1.1 T.1.2 (fun h10 => ?_)
  have T := T.2 h10
  refine xi_ge (tgt := 93) d_GM_isChanged_57 (by decide) (w32_id hx2) (w32_id h10) (fun h14 => ?_) (fun h14 => ?_)
  · have T := T.1 h14
    refine wp_iconst d_GM_isChanged_93 ?_
    exact wp_zreturn d_GM_isChanged_94 rfl (g_narz (⟨by decide, by decide⟩ : (0 : Int) ≤ 0 ∧ (0 : Int) ≤ 1)) id (Nat.zero_le _) (Nat.zero_le _) (kZ_mk (⟨by decide, by decide⟩ : (0 : Int) ≤ 0 ∧ (0 : Int) ≤ 1) T)
  · have T := T.2 h14
    refine wp_aload_n d_GM_isChanged_60 rfl rfl (g_nz hX.1) ?_
    refine xgetR d_GM_isChanged_61 gc_GM f_GM_113.1 f_GM_113.2.1 f_GM_113.2.2.1 hX.1 (gm_o2 hX) hX.2.2.1 f_GM_113.2.2.2.2.1 (gm_row hX 32 rfl).1 ?_
    refine wp_bipush d_GM_isChanged_64 ⟨by decide, by decide⟩ ?_
    refine wp_iload_n d_GM_isChanged_66 rfl rfl ?_
    refine wp_imul d_GM_isChanged_67 ?_
    refine wp_iload_n d_GM_isChanged_68 rfl rfl ?_
    refine wp_iadd d_GM_isChanged_69 ?_
    refine wp_baload d_GM_isChanged_70 (gm_row hX 32 rfl).2.2.1 (gm_row hX 32 rfl).2.2.2 (gm_row hX 32 rfl).2.1 (g32_n T.1 (by decide)) T.1.1 T.1.2 (fun h11 => ?_)
    have T := T.2 h11
    refine wp_aload_n d_GM_isChanged_71 rfl rfl (g_nz hX.1) ?_
    refine xgetR d_GM_isChanged_72 gc_GM f_GM_110.1 f_GM_110.2.1 f_GM_110.2.2.1 hX.1 (gm_o2 hX) hX.2.2.1 f_GM_110.2.2.2.2.1 (gm_row hX 31 rfl).1 ?_
    refine wp_bipush d_GM_isChanged_75 ⟨by decide, by decide⟩ ?_
    refine wp_iload_n d_GM_isChanged_77 rfl rfl ?_
    refine wp_imul d_GM_isChanged_78 ?_
    refine wp_iload_n d_GM_isChanged_79 rfl rfl ?_
    refine wp_iadd d_GM_isChanged_80 ?_
    refine wp_baload d_GM_isChanged_81 (gm_row hX 31 rfl).2.2.1 (gm_row hX 31 rfl).2.2.2 (gm_row hX 31 rfl).2.1 (g32_n T.1 (by decide)) T.1.1 T.1.2 (fun h12 => ?_)
    have T := T.2 h12
    refine xi_eq (tgt := 87) d_GM_isChanged_82 (by decide) (w32_id (g32_b h11)) (w32_id (g32_b h12)) (fun h13 => ?_) (fun h13 => ?_)
    · have T := T.1 h13
      refine wp_iinc (L' := [.val (gR G o), .val (gI x1), .val (gI (x2 + 1))]) d_GM_isChanged_87 rfl (by decide) rfl ?_
      refine wp_goto (tgt := 50) d_GM_isChanged_90 (by decide) ?_
      exact (wpt T (And.intro rfl (And.intro rfl (And.intro (gI_w _) True.intro))))
    · have T := T.2 h13
      refine wp_iconst d_GM_isChanged_85 ?_
      exact wp_zreturn d_GM_isChanged_86 rfl (g_narz (⟨by decide, by decide⟩ : (0 : Int) ≤ 1 ∧ (1 : Int) ≤ 1)) id (Nat.zero_le _) (Nat.zero_le _) (kZ_mk (⟨by decide, by decide⟩ : (0 : Int) ≤ 1 ∧ (1 : Int) ≤ 1) T)
theorem e_GM_isChanged {l : Launch} {G : gG} {d : Nat} {X : gX} {M : gM} {k : Int → gM → Prop} {o : Nat} {x1 : Int} (T : wp l G y_GM_isChanged (gRm d) false (kkZ X k) false 0 [.val (gR G o), .val (gI x1), .unset] [] X M 0 0) : cZ l G y_GM_isChanged (gRm d) false [gR G o, gI x1] X M k := cen_Z (plainFor_of_name rfl) (by simp only [lg_sl_R, lg_sl_I, lg_sl_L, lg_sl_N, List.length_cons, List.length_nil]; decide) (by unfold gEn; simp only [lg_sl_R, lg_sl_I, lg_sl_L, lg_sl_N]; exact wpt T (And.intro rfl (And.intro rfl True.intro)))
theorem d_GM_show_0 : decode prog_15_method_78_code 0 = .ok (.aload_n 0, 1) := by decide +kernel
theorem d_GM_show_1 : decode prog_15_method_78_code 1 = .ok (.invokevirtual 499, 3) := by decide +kernel
theorem d_GM_show_4 : decode prog_15_method_78_code 4 = .ok (.aload_n 0, 1) := by decide +kernel
theorem d_GM_show_5 : decode prog_15_method_78_code 5 = .ok (.aload_n 0, 1) := by decide +kernel
theorem d_GM_show_6 : decode prog_15_method_78_code 6 = .ok (.getfield 502, 3) := by decide +kernel
theorem d_GM_show_9 : decode prog_15_method_78_code 9 = .ok (.invokestatic 505, 3) := by decide +kernel
theorem d_GM_show_12 : decode prog_15_method_78_code 12 = .ok (.invokevirtual 508, 3) := by decide +kernel
theorem d_GM_show_15 : decode prog_15_method_78_code 15 = .ok (.aload_n 0, 1) := by decide +kernel
theorem d_GM_show_16 : decode prog_15_method_78_code 16 = .ok (.iconst 0, 1) := by decide +kernel
theorem d_GM_show_17 : decode prog_15_method_78_code 17 = .ok (.putfield 511, 3) := by decide +kernel
theorem d_GM_show_20 : decode prog_15_method_78_code 20 = .ok (.iconst 0, 1) := by decide +kernel
theorem d_GM_show_21 : decode prog_15_method_78_code 21 = .ok (.istore_n 1, 1) := by decide +kernel
theorem d_GM_show_22 : decode prog_15_method_78_code 22 = .ok (.iload_n 1, 1) := by decide +kernel
theorem d_GM_show_23 : decode prog_15_method_78_code 23 = .ok (.sipush 5200, 3) := by decide +kernel
theorem d_GM_show_26 : decode prog_15_method_78_code 26 = .ok (.if_icmp .ge 40, 3) := by decide +kernel
theorem d_GM_show_66 : decode prog_15_method_78_code 66 = .ok (.aload_n 0, 1) := by decide +kernel
theorem d_GM_show_67 : decode prog_15_method_78_code 67 = .ok (.dup, 1) := by decide +kernel
theorem d_GM_show_68 : decode prog_15_method_78_code 68 = .ok (.getfield 517, 3) := by decide +kernel
theorem d_GM_show_71 : decode prog_15_method_78_code 71 = .ok (.iconst 1, 1) := by decide +kernel
theorem d_GM_show_72 : decode prog_15_method_78_code 72 = .ok (.iadd, 1) := by decide +kernel
theorem d_GM_show_73 : decode prog_15_method_78_code 73 = .ok (.putfield 517, 3) := by decide +kernel
theorem d_GM_show_76 : decode prog_15_method_78_code 76 = .ok (.aload_n 0, 1) := by decide +kernel
theorem d_GM_show_77 : decode prog_15_method_78_code 77 = .ok (.iconst 0, 1) := by decide +kernel
theorem d_GM_show_78 : decode prog_15_method_78_code 78 = .ok (.putfield 157, 3) := by decide +kernel
theorem d_GM_show_81 : decode prog_15_method_78_code 81 = .ok (.aload_n 0, 1) := by decide +kernel
theorem d_GM_show_82 : decode prog_15_method_78_code 82 = .ok (.getfield 511, 3) := by decide +kernel
theorem d_GM_show_85 : decode prog_15_method_78_code 85 = .ok (.ireturn, 1) := by decide +kernel
theorem d_GM_show_29 : decode prog_15_method_78_code 29 = .ok (.aload_n 0, 1) := by decide +kernel
theorem d_GM_show_30 : decode prog_15_method_78_code 30 = .ok (.iload_n 1, 1) := by decide +kernel
theorem d_GM_show_31 : decode prog_15_method_78_code 31 = .ok (.invokevirtual 514, 3) := by decide +kernel
theorem d_GM_show_34 : decode prog_15_method_78_code 34 = .ok (.ifCond .ne 6, 3) := by decide +kernel
theorem d_GM_show_40 : decode prog_15_method_78_code 40 = .ok (.aload_n 0, 1) := by decide +kernel
theorem d_GM_show_41 : decode prog_15_method_78_code 41 = .ok (.getfield 151, 3) := by decide +kernel
theorem d_GM_show_44 : decode prog_15_method_78_code 44 = .ok (.aload_n 0, 1) := by decide +kernel
theorem d_GM_show_45 : decode prog_15_method_78_code 45 = .ok (.getfield 511, 3) := by decide +kernel
theorem d_GM_show_48 : decode prog_15_method_78_code 48 = .ok (.iload_n 1, 1) := by decide +kernel
theorem d_GM_show_49 : decode prog_15_method_78_code 49 = .ok (.iastore, 1) := by decide +kernel
theorem d_GM_show_50 : decode prog_15_method_78_code 50 = .ok (.aload_n 0, 1) := by decide +kernel
theorem d_GM_show_51 : decode prog_15_method_78_code 51 = .ok (.dup, 1) := by decide +kernel
theorem d_GM_show_52 : decode prog_15_method_78_code 52 = .ok (.getfield 511, 3) := by decide +kernel
theorem d_GM_show_55 : decode prog_15_method_78_code 55 = .ok (.iconst 1, 1) := by decide +kernel
theorem d_GM_show_56 : decode prog_15_method_78_code 56 = .ok (.iadd, 1) := by decide +kernel
theorem d_GM_show_57 : decode prog_15_method_78_code 57 = .ok (.putfield 511, 3) := by decide +kernel
theorem d_GM_show_60 : decode prog_15_method_78_code 60 = .ok (.iinc 1 1, 3) := by decide +kernel
theorem d_GM_show_63 : decode prog_15_method_78_code 63 = .ok (.goto (-41), 3) := by decide +kernel
theorem d_GM_show_37 : decode prog_15_method_78_code 37 = .ok (.goto 23, 3) := by decide +kernel
set_option maxHeartbeats 4000000 in
theorem w_GM_show_0 {l : Launch} {G : gG} {d : Nat} {X : gX} {M : gM} {k : Int → gM → Prop} {o : Nat} (hX : gmX X o)  (T : cV l G y_GM_remember (gRm d) true [gR G o] X M (fun M1 => (g32 (M1 o 36) → (cI l G y_GM_slot (gRm d) false [gI (M1 o 36)] X M1 (fun v4 M3 => (cV l G y_GM_evaluate (gRm d) true [gR G o, gI v4] X M3 (fun M6 => (wp l G y_GM_show (gRm (d + 1)) true (kkI X k) true 22 [.val (gR G o), .val (gI 0)] [] X (gUp M6 o 69 0) 0 0)))))))) : wp l G y_GM_show (gRm (d + 1)) true (kkI X k) false 0 [.val (gR G o), .unset] [] X M 0 0 := by
  refine wp_aload_n d_GM_show_0 rfl rfl (g_nz hX.1) ?_
  refine xcV_V (md' := true) (As := []) (st := []) d_GM_show_1 ca_GM_remember ml_GM_499 im_GM_remember se_GM_remember gc_GM hX.1 (gm_o2 hX) hX.2.2.1 rfl (by decide) (by decide) rfl (fun _ => rfl) (fun _ => rfl) T (fun M1 T => ?_)
  refine wp_aload_n d_GM_show_4 rfl rfl (g_nz hX.1) ?_
  refine wp_aload_n d_GM_show_5 rfl rfl (g_nz hX.1) ?_
  refine xgetI d_GM_show_6 gc_GM f_GM_502.1 f_GM_502.2.1 f_GM_502.2.2.1 hX.1 (gm_o2 hX) hX.2.2.1 f_GM_502.2.2.2.2.1 (fun h2 => ?_)
  have T := T h2
  refine xcS_I (md' := true) (As := [gI (M1 o 36)]) (st := [gR G o]) d_GM_show_9 ca_GM_slot ml_GM_505 sm_GM_slot rfl (by decide) (by simp only [List.map, gR_cat, gI_cat, gL_cat, List.sum_cons, List.sum_nil]; decide) rfl (fun _ => rfl) (fun _ => rfl) T (fun v4 M3 h5 T => ?_)
  refine xcV_V (md' := true) (As := [gI v4]) (st := []) d_GM_show_12 ca_GM_evaluate ml_GM_508 im_GM_evaluate se_GM_evaluate gc_GM hX.1 (gm_o2 hX) hX.2.2.1 rfl (by decide) (by decide) rfl (fun _ => rfl) (fun _ => rfl) T (fun M6 T => ?_)
  refine wp_aload_n d_GM_show_15 rfl rfl (g_nz hX.1) ?_
  refine wp_iconst d_GM_show_16 ?_
  refine xputI d_GM_show_17 gc_GM f_GM_511.1 f_GM_511.2.1 f_GM_511.2.2.1 hX.1 (gm_o2 hX) hX.2.2.1 f_GM_511.2.2.2.1 f_GM_511.2.2.2.2.1 f_GM_511.2.2.2.2.2 (w32_id (g32_c (x := 0) rfl)) ?_
  refine wp_iconst d_GM_show_20 ?_
  refine wp_istore_n (L' := [.val (gR G o), .val (gI 0)]) d_GM_show_21 rfl (by decide) (gS1_R rfl rfl) ?_
  exact wp_md (wpt T (And.intro rfl (And.intro rfl True.intro)))
set_option maxHeartbeats 4000000 in
theorem w_GM_show_22 {l : Launch} {G : gG} {d : Nat} {X : gX} {M : gM} {k : Int → gM → Prop} {o : Nat} (hX : gmX X o) {x1 : Int} (hx1 : g32 x1) (T : (5200 ≤ x1 → (g32 (M o 70) → (g32 ((gUp (gUp M o 70 (w32 ((M o 70) + 1))) o 0 0) o 69) → (k ((gUp (gUp M o 70 (w32 ((M o 70) + 1))) o 0 0) o 69) (gUp (gUp M o 70 (w32 ((M o 70) + 1))) o 0 0))))) ∧ (¬ 5200 ≤ x1 → (cZ l G y_GM_isChanged (gRm d) false [gR G o, gI x1] X M (fun v10 M9 => ((¬ v10 = 0 → (g32 (M9 o 69) → (((0 : Int) ≤ M9 o 69 ∧ M9 o 69 < 5200) ∧ (g32 ((gUp M9 (o + 45) (Int.toNat (M9 o 69)) x1) o 69) → (wp l G y_GM_show (gRm (d + 1)) true (kkI X k) true 22 [.val (gR G o), .val (gI (w32 (x1 + 1)))] [] X (gUp (gUp M9 (o + 45) (Int.toNat (M9 o 69)) x1) o 69 (w32 (((gUp M9 (o + 45) (Int.toNat (M9 o 69)) x1) o 69) + 1))) 0 0))))) ∧ (v10 = 0 → (wp l G y_GM_show (gRm (d + 1)) true (kkI X k) true 22 [.val (gR G o), .val (gI (w32 (x1 + 1)))] [] X M9 0 0))))))) : wp l G y_GM_show (gRm (d + 1)) true (kkI X k) true 22 [.val (gR G o), .val (gI x1)] [] X M 0 0 := by
  refine wp_iload_n d_GM_show_22 rfl rfl ?_
  refine wp_sipush d_GM_show_23 ⟨by decide, by decide⟩ ?_
  refine xi_ge (tgt := 66) d_GM_show_26 (by decide) (w32_id hx1) (w32_id (g32_c (x := 5200) rfl)) (fun h15 => ?_) (fun h15 => ?_)
  · have T := T.1 h15
    refine wp_aload_n d_GM_show_66 rfl rfl (g_nz hX.1) ?_
    refine wp_dup d_GM_show_67 (gR_cat _) ?_
    refine xgetI d_GM_show_68 gc_GM f_GM_517.1 f_GM_517.2.1 f_GM_517.2.2.1 hX.1 (gm_o2 hX) hX.2.2.1 f_GM_517.2.2.2.2.1 (fun h7 => ?_)
    have T := T h7
    refine wp_iconst d_GM_show_71 ?_
    refine wp_iadd d_GM_show_72 ?_
    refine xputI d_GM_show_73 gc_GM f_GM_517.1 f_GM_517.2.1 f_GM_517.2.2.1 hX.1 (gm_o2 hX) hX.2.2.1 f_GM_517.2.2.2.1 f_GM_517.2.2.2.2.1 f_GM_517.2.2.2.2.2 rfl ?_
    refine wp_aload_n d_GM_show_76 rfl rfl (g_nz hX.1) ?_
    refine wp_iconst d_GM_show_77 ?_
    refine xputI d_GM_show_78 gc_GM f_GM_157.1 f_GM_157.2.1 f_GM_157.2.2.1 hX.1 (gm_o2 hX) hX.2.2.1 f_GM_157.2.2.2.1 f_GM_157.2.2.2.2.1 f_GM_157.2.2.2.2.2 (w32_id (g32_c (x := 0) rfl)) ?_
    refine wp_aload_n d_GM_show_81 rfl rfl (g_nz hX.1) ?_
    refine xgetI d_GM_show_82 gc_GM f_GM_511.1 f_GM_511.2.1 f_GM_511.2.2.1 hX.1 (gm_o2 hX) hX.2.2.1 f_GM_511.2.2.2.2.1 (fun h8 => ?_)
    have T := T h8
    exact wp_ireturn d_GM_show_85 rfl (fun _ => rfl) (Nat.zero_le _) (Nat.zero_le _) (kI_mk h8 T)
  · have T := T.2 h15
    refine wp_aload_n d_GM_show_29 rfl rfl (g_nz hX.1) ?_
    refine wp_iload_n d_GM_show_30 rfl rfl ?_
    refine xcV_Z (md' := true) (As := [gI x1]) (st := []) d_GM_show_31 ca_GM_isChanged ml_GM_514 im_GM_isChanged se_GM_isChanged gc_GM hX.1 (gm_o2 hX) hX.2.2.1 rfl (by decide) (by decide) rfl (fun _ => rfl) (fun _ => rfl) T (fun v10 M9 h11 T => ?_)
    refine xz_ne (tgt := 40) d_GM_show_34 (by decide) (w32_id (g32_z h11)) (fun h14 => ?_) (fun h14 => ?_)
    · have T := T.1 h14
      refine wp_aload_n d_GM_show_40 rfl rfl (g_nz hX.1) ?_
      refine xgetR d_GM_show_41 gc_GM f_GM_151.1 f_GM_151.2.1 f_GM_151.2.2.1 hX.1 (gm_o2 hX) hX.2.2.1 f_GM_151.2.2.2.2.1 (gm_row hX 44 rfl).1 ?_
      refine wp_aload_n d_GM_show_44 rfl rfl (g_nz hX.1) ?_
      refine xgetI d_GM_show_45 gc_GM f_GM_511.1 f_GM_511.2.1 f_GM_511.2.2.1 hX.1 (gm_o2 hX) hX.2.2.1 f_GM_511.2.2.2.2.1 (fun h12 => ?_)
      have T := T h12
      refine wp_iload_n d_GM_show_48 rfl rfl ?_
      refine xiast d_GM_show_49 (gm_row hX 44 rfl).2.2.1 (gm_row hX 44 rfl).2.2.2 (gm_row hX 44 rfl).2.1 (by decide) T.1 (w32_id hx1) ?_
      have T := T.2
      refine wp_aload_n d_GM_show_50 rfl rfl (g_nz hX.1) ?_
      refine wp_dup d_GM_show_51 (gR_cat _) ?_
      refine xgetI d_GM_show_52 gc_GM f_GM_511.1 f_GM_511.2.1 f_GM_511.2.2.1 hX.1 (gm_o2 hX) hX.2.2.1 f_GM_511.2.2.2.2.1 (fun h13 => ?_)
      have T := T h13
      refine wp_iconst d_GM_show_55 ?_
      refine wp_iadd d_GM_show_56 ?_
      refine xputI d_GM_show_57 gc_GM f_GM_511.1 f_GM_511.2.1 f_GM_511.2.2.1 hX.1 (gm_o2 hX) hX.2.2.1 f_GM_511.2.2.2.1 f_GM_511.2.2.2.2.1 f_GM_511.2.2.2.2.2 rfl ?_
      refine wp_iinc (L' := [.val (gR G o), .val (gI (x1 + 1))]) d_GM_show_60 rfl (by decide) (gS1_R rfl rfl) ?_
      refine wp_goto (tgt := 22) d_GM_show_63 (by decide) ?_
      exact wp_md (wpt T (And.intro rfl (And.intro (gI_w _) True.intro)))
    · have T := T.2 h14
      refine wp_goto (tgt := 60) d_GM_show_37 (by decide) ?_
      refine wp_iinc (L' := [.val (gR G o), .val (gI (x1 + 1))]) d_GM_show_60 rfl (by decide) (gS1_R rfl rfl) ?_
      refine wp_goto (tgt := 22) d_GM_show_63 (by decide) ?_
      exact wp_md (wpt T (And.intro rfl (And.intro (gI_w _) True.intro)))
theorem e_GM_show {l : Launch} {G : gG} {d : Nat} {X : gX} {M : gM} {k : Int → gM → Prop} {o : Nat} (T : wp l G y_GM_show (gRm (d + 1)) true (kkI X k) false 0 [.val (gR G o), .unset] [] X M 0 0) : cI l G y_GM_show (gRm (d + 1)) true [gR G o] X M k := cen_I (plainFor_of_name rfl) (by simp only [lg_sl_R, lg_sl_I, lg_sl_L, lg_sl_N, List.length_cons, List.length_nil]; decide) (by unfold gEn; simp only [lg_sl_R, lg_sl_I, lg_sl_L, lg_sl_N]; exact wpt T (And.intro rfl True.intro))
theorem d_GM_accept_0 : decode prog_15_method_79_code 0 = .ok (.aload_n 0, 1) := by decide +kernel
theorem d_GM_accept_1 : decode prog_15_method_79_code 1 = .ok (.bipush 41, 2) := by decide +kernel
theorem d_GM_accept_3 : decode prog_15_method_79_code 3 = .ok (.invokevirtual 520, 3) := by decide +kernel
theorem d_GM_accept_6 : decode prog_15_method_79_code 6 = .ok (.sipush 400, 3) := by decide +kernel
theorem d_GM_accept_9 : decode prog_15_method_79_code 9 = .ok (.if_icmp .gt 15, 3) := by decide +kernel
theorem d_GM_accept_24 : decode prog_15_method_79_code 24 = .ok (.aload_n 0, 1) := by decide +kernel
theorem d_GM_accept_25 : decode prog_15_method_79_code 25 = .ok (.iconst 2, 1) := by decide +kernel
theorem d_GM_accept_26 : decode prog_15_method_79_code 26 = .ok (.invokevirtual 526, 3) := by decide +kernel
theorem d_GM_accept_29 : decode prog_15_method_79_code 29 = .ok (.ireturn, 1) := by decide +kernel
theorem d_GM_accept_12 : decode prog_15_method_79_code 12 = .ok (.aload_n 0, 1) := by decide +kernel
theorem d_GM_accept_13 : decode prog_15_method_79_code 13 = .ok (.bipush 41, 2) := by decide +kernel
theorem d_GM_accept_15 : decode prog_15_method_79_code 15 = .ok (.invokevirtual 523, 3) := by decide +kernel
theorem d_GM_accept_18 : decode prog_15_method_79_code 18 = .ok (.sipush 20000, 3) := by decide +kernel
theorem d_GM_accept_21 : decode prog_15_method_79_code 21 = .ok (.if_icmp .le 9, 3) := by decide +kernel
theorem d_GM_accept_30 : decode prog_15_method_79_code 30 = .ok (.aload_n 0, 1) := by decide +kernel
theorem d_GM_accept_31 : decode prog_15_method_79_code 31 = .ok (.dup, 1) := by decide +kernel
theorem d_GM_accept_32 : decode prog_15_method_79_code 32 = .ok (.getfield 502, 3) := by decide +kernel
theorem d_GM_accept_35 : decode prog_15_method_79_code 35 = .ok (.iconst 1, 1) := by decide +kernel
theorem d_GM_accept_36 : decode prog_15_method_79_code 36 = .ok (.iadd, 1) := by decide +kernel
theorem d_GM_accept_37 : decode prog_15_method_79_code 37 = .ok (.putfield 502, 3) := by decide +kernel
theorem d_GM_accept_40 : decode prog_15_method_79_code 40 = .ok (.aload_n 0, 1) := by decide +kernel
theorem d_GM_accept_41 : decode prog_15_method_79_code 41 = .ok (.aload_n 0, 1) := by decide +kernel
theorem d_GM_accept_42 : decode prog_15_method_79_code 42 = .ok (.getfield 502, 3) := by decide +kernel
theorem d_GM_accept_45 : decode prog_15_method_79_code 45 = .ok (.putfield 529, 3) := by decide +kernel
theorem d_GM_accept_48 : decode prog_15_method_79_code 48 = .ok (.aload_n 0, 1) := by decide +kernel
theorem d_GM_accept_49 : decode prog_15_method_79_code 49 = .ok (.getfield 502, 3) := by decide +kernel
theorem d_GM_accept_52 : decode prog_15_method_79_code 52 = .ok (.aload_n 0, 1) := by decide +kernel
theorem d_GM_accept_53 : decode prog_15_method_79_code 53 = .ok (.getfield 532, 3) := by decide +kernel
theorem d_GM_accept_56 : decode prog_15_method_79_code 56 = .ok (.isub, 1) := by decide +kernel
theorem d_GM_accept_57 : decode prog_15_method_79_code 57 = .ok (.bipush 40, 2) := by decide +kernel
theorem d_GM_accept_59 : decode prog_15_method_79_code 59 = .ok (.if_icmp .le 14, 3) := by decide +kernel
theorem d_GM_accept_73 : decode prog_15_method_79_code 73 = .ok (.aload_n 0, 1) := by decide +kernel
theorem d_GM_accept_74 : decode prog_15_method_79_code 74 = .ok (.bipush 41, 2) := by decide +kernel
theorem d_GM_accept_76 : decode prog_15_method_79_code 76 = .ok (.aload_n 0, 1) := by decide +kernel
theorem d_GM_accept_77 : decode prog_15_method_79_code 77 = .ok (.getfield 502, 3) := by decide +kernel
theorem d_GM_accept_80 : decode prog_15_method_79_code 80 = .ok (.invokestatic 505, 3) := by decide +kernel
theorem d_GM_accept_83 : decode prog_15_method_79_code 83 = .ok (.invokevirtual 535, 3) := by decide +kernel
theorem d_GM_accept_86 : decode prog_15_method_79_code 86 = .ok (.aload_n 0, 1) := by decide +kernel
theorem d_GM_accept_87 : decode prog_15_method_79_code 87 = .ok (.invokevirtual 538, 3) := by decide +kernel
theorem d_GM_accept_90 : decode prog_15_method_79_code 90 = .ok (.ireturn, 1) := by decide +kernel
theorem d_GM_accept_62 : decode prog_15_method_79_code 62 = .ok (.aload_n 0, 1) := by decide +kernel
theorem d_GM_accept_63 : decode prog_15_method_79_code 63 = .ok (.aload_n 0, 1) := by decide +kernel
theorem d_GM_accept_64 : decode prog_15_method_79_code 64 = .ok (.getfield 502, 3) := by decide +kernel
theorem d_GM_accept_67 : decode prog_15_method_79_code 67 = .ok (.bipush 40, 2) := by decide +kernel
theorem d_GM_accept_69 : decode prog_15_method_79_code 69 = .ok (.isub, 1) := by decide +kernel
theorem d_GM_accept_70 : decode prog_15_method_79_code 70 = .ok (.putfield 532, 3) := by decide +kernel
set_option maxHeartbeats 4000000 in
theorem w_GM_accept_0 {l : Launch} {G : gG} {d : Nat} {X : gX} {M : gM} {k : Int → gM → Prop} {o : Nat} (hX : gmX X o)  (T : cI l G y_GM_contents (gRm d) false [gR G o, gI 41] X M (fun v2 M1 => ((400 < v2 → (cI l G y_GM_no (gRm d) true [gR G o, gI 2] X M1 (fun v5 M4 => (k v5 M4)))) ∧ (¬ 400 < v2 → (cI l G y_GM_ranges (gRm d) false [gR G o, gI 41] X M1 (fun v8 M7 => ((v8 ≤ 20000 → (g32 (M7 o 36) → (g32 ((gUp M7 o 36 (w32 ((M7 o 36) + 1))) o 36) → (g32 ((gUp (gUp M7 o 36 (w32 ((M7 o 36) + 1))) o 37 ((gUp M7 o 36 (w32 ((M7 o 36) + 1))) o 36)) o 36) → (g32 ((gUp (gUp M7 o 36 (w32 ((M7 o 36) + 1))) o 37 ((gUp M7 o 36 (w32 ((M7 o 36) + 1))) o 36)) o 35) → (((w32 (((gUp (gUp M7 o 36 (w32 ((M7 o 36) + 1))) o 37 ((gUp M7 o 36 (w32 ((M7 o 36) + 1))) o 36)) o 36) - ((gUp (gUp M7 o 36 (w32 ((M7 o 36) + 1))) o 37 ((gUp M7 o 36 (w32 ((M7 o 36) + 1))) o 36)) o 35))) ≤ 40 → (g32 ((gUp (gUp M7 o 36 (w32 ((M7 o 36) + 1))) o 37 ((gUp M7 o 36 (w32 ((M7 o 36) + 1))) o 36)) o 36) → (cI l G y_GM_slot (gRm d) false [gI ((gUp (gUp M7 o 36 (w32 ((M7 o 36) + 1))) o 37 ((gUp M7 o 36 (w32 ((M7 o 36) + 1))) o 36)) o 36)] X (gUp (gUp M7 o 36 (w32 ((M7 o 36) + 1))) o 37 ((gUp M7 o 36 (w32 ((M7 o 36) + 1))) o 36)) (fun v16 M15 => (cV l G y_GM_copyAll (gRm d) true [gR G o, gI 41, gI v16] X M15 (fun M18 => (cI l G y_GM_show (gRm d) true [gR G o] X M18 (fun v20 M19 => (k v20 M19))))))))) ∧ (¬ (w32 (((gUp (gUp M7 o 36 (w32 ((M7 o 36) + 1))) o 37 ((gUp M7 o 36 (w32 ((M7 o 36) + 1))) o 36)) o 36) - ((gUp (gUp M7 o 36 (w32 ((M7 o 36) + 1))) o 37 ((gUp M7 o 36 (w32 ((M7 o 36) + 1))) o 36)) o 35))) ≤ 40 → (g32 ((gUp (gUp M7 o 36 (w32 ((M7 o 36) + 1))) o 37 ((gUp M7 o 36 (w32 ((M7 o 36) + 1))) o 36)) o 36) → (g32 ((gUp (gUp (gUp M7 o 36 (w32 ((M7 o 36) + 1))) o 37 ((gUp M7 o 36 (w32 ((M7 o 36) + 1))) o 36)) o 35 (w32 (((gUp (gUp M7 o 36 (w32 ((M7 o 36) + 1))) o 37 ((gUp M7 o 36 (w32 ((M7 o 36) + 1))) o 36)) o 36) - 40))) o 36) → (cI l G y_GM_slot (gRm d) false [gI ((gUp (gUp (gUp M7 o 36 (w32 ((M7 o 36) + 1))) o 37 ((gUp M7 o 36 (w32 ((M7 o 36) + 1))) o 36)) o 35 (w32 (((gUp (gUp M7 o 36 (w32 ((M7 o 36) + 1))) o 37 ((gUp M7 o 36 (w32 ((M7 o 36) + 1))) o 36)) o 36) - 40))) o 36)] X (gUp (gUp (gUp M7 o 36 (w32 ((M7 o 36) + 1))) o 37 ((gUp M7 o 36 (w32 ((M7 o 36) + 1))) o 36)) o 35 (w32 (((gUp (gUp M7 o 36 (w32 ((M7 o 36) + 1))) o 37 ((gUp M7 o 36 (w32 ((M7 o 36) + 1))) o 36)) o 36) - 40))) (fun v25 M24 => (cV l G y_GM_copyAll (gRm d) true [gR G o, gI 41, gI v25] X M24 (fun M27 => (cI l G y_GM_show (gRm d) true [gR G o] X M27 (fun v29 M28 => (k v29 M28)))))))))))))))) ∧ (¬ v8 ≤ 20000 → (cI l G y_GM_no (gRm d) true [gR G o, gI 2] X M7 (fun v33 M32 => (k v33 M32))))))))))) : wp l G y_GM_accept (gRm (d + 1)) true (kkI X k) false 0 [.val (gR G o)] [] X M 0 0 := by
  refine wp_aload_n d_GM_accept_0 rfl rfl (g_nz hX.1) ?_
  refine wp_bipush d_GM_accept_1 ⟨by decide, by decide⟩ ?_
  refine xcV_I (md' := false) (As := [gI 41]) (st := []) d_GM_accept_3 ca_GM_contents ml_GM_520 im_GM_contents se_GM_contents gc_GM hX.1 (gm_o2 hX) hX.2.2.1 rfl (by decide) (by decide) rfl id id T (fun v2 M1 h3 T => ?_)
  refine wp_sipush d_GM_accept_6 ⟨by decide, by decide⟩ ?_
  refine xi_gt (tgt := 24) d_GM_accept_9 (by decide) (w32_id h3) (w32_id (g32_c (x := 400) rfl)) (fun h36 => ?_) (fun h36 => ?_)
  · have T := T.1 h36
    refine wp_aload_n d_GM_accept_24 rfl rfl (g_nz hX.1) ?_
    refine wp_iconst d_GM_accept_25 ?_
    refine xcV_I (md' := true) (As := [gI 2]) (st := []) d_GM_accept_26 ca_GM_no ml_GM_526 im_GM_no se_GM_no gc_GM hX.1 (gm_o2 hX) hX.2.2.1 rfl (by decide) (by decide) rfl (fun _ => rfl) (fun _ => rfl) T (fun v5 M4 h6 T => ?_)
    exact wp_ireturn d_GM_accept_29 rfl (fun _ => rfl) (Nat.zero_le _) (Nat.zero_le _) (kI_mk h6 T)
  · have T := T.2 h36
    refine wp_aload_n d_GM_accept_12 rfl rfl (g_nz hX.1) ?_
    refine wp_bipush d_GM_accept_13 ⟨by decide, by decide⟩ ?_
    refine xcV_I (md' := false) (As := [gI 41]) (st := []) d_GM_accept_15 ca_GM_ranges ml_GM_523 im_GM_ranges se_GM_ranges gc_GM hX.1 (gm_o2 hX) hX.2.2.1 rfl (by decide) (by decide) rfl id id T (fun v8 M7 h9 T => ?_)
    refine wp_sipush d_GM_accept_18 ⟨by decide, by decide⟩ ?_
    refine xi_le (tgt := 30) d_GM_accept_21 (by decide) (w32_id h9) (w32_id (g32_c (x := 20000) rfl)) (fun h35 => ?_) (fun h35 => ?_)
    · have T := T.1 h35
      refine wp_aload_n d_GM_accept_30 rfl rfl (g_nz hX.1) ?_
      refine wp_dup d_GM_accept_31 (gR_cat _) ?_
      refine xgetI d_GM_accept_32 gc_GM f_GM_502.1 f_GM_502.2.1 f_GM_502.2.2.1 hX.1 (gm_o2 hX) hX.2.2.1 f_GM_502.2.2.2.2.1 (fun h10 => ?_)
      have T := T h10
      refine wp_iconst d_GM_accept_35 ?_
      refine wp_iadd d_GM_accept_36 ?_
      refine xputI d_GM_accept_37 gc_GM f_GM_502.1 f_GM_502.2.1 f_GM_502.2.2.1 hX.1 (gm_o2 hX) hX.2.2.1 f_GM_502.2.2.2.1 f_GM_502.2.2.2.2.1 f_GM_502.2.2.2.2.2 rfl ?_
      refine wp_aload_n d_GM_accept_40 rfl rfl (g_nz hX.1) ?_
      refine wp_aload_n d_GM_accept_41 rfl rfl (g_nz hX.1) ?_
      refine xgetI d_GM_accept_42 gc_GM f_GM_502.1 f_GM_502.2.1 f_GM_502.2.2.1 hX.1 (gm_o2 hX) hX.2.2.1 f_GM_502.2.2.2.2.1 (fun h11 => ?_)
      have T := T h11
      refine xputI d_GM_accept_45 gc_GM f_GM_529.1 f_GM_529.2.1 f_GM_529.2.2.1 hX.1 (gm_o2 hX) hX.2.2.1 f_GM_529.2.2.2.1 f_GM_529.2.2.2.2.1 f_GM_529.2.2.2.2.2 (w32_id h11) ?_
      refine wp_aload_n d_GM_accept_48 rfl rfl (g_nz hX.1) ?_
      refine xgetI d_GM_accept_49 gc_GM f_GM_502.1 f_GM_502.2.1 f_GM_502.2.2.1 hX.1 (gm_o2 hX) hX.2.2.1 f_GM_502.2.2.2.2.1 (fun h12 => ?_)
      have T := T h12
      refine wp_aload_n d_GM_accept_52 rfl rfl (g_nz hX.1) ?_
      refine xgetI d_GM_accept_53 gc_GM f_GM_532.1 f_GM_532.2.1 f_GM_532.2.2.1 hX.1 (gm_o2 hX) hX.2.2.1 f_GM_532.2.2.2.2.1 (fun h13 => ?_)
      have T := T h13
      refine wp_isub d_GM_accept_56 ?_
      refine wp_bipush d_GM_accept_57 ⟨by decide, by decide⟩ ?_
      refine xi_le (tgt := 73) d_GM_accept_59 (by decide) rfl (w32_id (g32_c (x := 40) rfl)) (fun h31 => ?_) (fun h31 => ?_)
      · have T := T.1 h31
        refine wp_aload_n d_GM_accept_73 rfl rfl (g_nz hX.1) ?_
        refine wp_bipush d_GM_accept_74 ⟨by decide, by decide⟩ ?_
        refine wp_aload_n d_GM_accept_76 rfl rfl (g_nz hX.1) ?_
        refine xgetI d_GM_accept_77 gc_GM f_GM_502.1 f_GM_502.2.1 f_GM_502.2.2.1 hX.1 (gm_o2 hX) hX.2.2.1 f_GM_502.2.2.2.2.1 (fun h14 => ?_)
        have T := T h14
        refine xcS_I (md' := true) (As := [gI ((gUp (gUp M7 o 36 (w32 ((M7 o 36) + 1))) o 37 ((gUp M7 o 36 (w32 ((M7 o 36) + 1))) o 36)) o 36)]) (st := [gI 41, gR G o]) d_GM_accept_80 ca_GM_slot ml_GM_505 sm_GM_slot rfl (by decide) (by simp only [List.map, gR_cat, gI_cat, gL_cat, List.sum_cons, List.sum_nil]; decide) rfl (fun _ => rfl) (fun _ => rfl) T (fun v16 M15 h17 T => ?_)
        refine xcV_V (md' := true) (As := [gI 41, gI v16]) (st := []) d_GM_accept_83 ca_GM_copyAll ml_GM_535 im_GM_copyAll se_GM_copyAll gc_GM hX.1 (gm_o2 hX) hX.2.2.1 rfl (by decide) (by decide) rfl (fun _ => rfl) (fun _ => rfl) T (fun M18 T => ?_)
        refine wp_aload_n d_GM_accept_86 rfl rfl (g_nz hX.1) ?_
        refine xcV_I (md' := true) (As := []) (st := []) d_GM_accept_87 ca_GM_show ml_GM_538 im_GM_show se_GM_show gc_GM hX.1 (gm_o2 hX) hX.2.2.1 rfl (by decide) (by decide) rfl (fun _ => rfl) (fun _ => rfl) T (fun v20 M19 h21 T => ?_)
        exact wp_ireturn d_GM_accept_90 rfl (fun _ => rfl) (Nat.zero_le _) (Nat.zero_le _) (kI_mk h21 T)
      · have T := T.2 h31
        refine wp_aload_n d_GM_accept_62 rfl rfl (g_nz hX.1) ?_
        refine wp_aload_n d_GM_accept_63 rfl rfl (g_nz hX.1) ?_
        refine xgetI d_GM_accept_64 gc_GM f_GM_502.1 f_GM_502.2.1 f_GM_502.2.2.1 hX.1 (gm_o2 hX) hX.2.2.1 f_GM_502.2.2.2.2.1 (fun h22 => ?_)
        have T := T h22
        refine wp_bipush d_GM_accept_67 ⟨by decide, by decide⟩ ?_
        refine wp_isub d_GM_accept_69 ?_
        refine xputI d_GM_accept_70 gc_GM f_GM_532.1 f_GM_532.2.1 f_GM_532.2.2.1 hX.1 (gm_o2 hX) hX.2.2.1 f_GM_532.2.2.2.1 f_GM_532.2.2.2.2.1 f_GM_532.2.2.2.2.2 rfl ?_
        refine wp_aload_n d_GM_accept_73 rfl rfl (g_nz hX.1) ?_
        refine wp_bipush d_GM_accept_74 ⟨by decide, by decide⟩ ?_
        refine wp_aload_n d_GM_accept_76 rfl rfl (g_nz hX.1) ?_
        refine xgetI d_GM_accept_77 gc_GM f_GM_502.1 f_GM_502.2.1 f_GM_502.2.2.1 hX.1 (gm_o2 hX) hX.2.2.1 f_GM_502.2.2.2.2.1 (fun h23 => ?_)
        have T := T h23
        refine xcS_I (md' := true) (As := [gI ((gUp (gUp (gUp M7 o 36 (w32 ((M7 o 36) + 1))) o 37 ((gUp M7 o 36 (w32 ((M7 o 36) + 1))) o 36)) o 35 (w32 (((gUp (gUp M7 o 36 (w32 ((M7 o 36) + 1))) o 37 ((gUp M7 o 36 (w32 ((M7 o 36) + 1))) o 36)) o 36) - 40))) o 36)]) (st := [gI 41, gR G o]) d_GM_accept_80 ca_GM_slot ml_GM_505 sm_GM_slot rfl (by decide) (by simp only [List.map, gR_cat, gI_cat, gL_cat, List.sum_cons, List.sum_nil]; decide) rfl (fun _ => rfl) (fun _ => rfl) T (fun v25 M24 h26 T => ?_)
        refine xcV_V (md' := true) (As := [gI 41, gI v25]) (st := []) d_GM_accept_83 ca_GM_copyAll ml_GM_535 im_GM_copyAll se_GM_copyAll gc_GM hX.1 (gm_o2 hX) hX.2.2.1 rfl (by decide) (by decide) rfl (fun _ => rfl) (fun _ => rfl) T (fun M27 T => ?_)
        refine wp_aload_n d_GM_accept_86 rfl rfl (g_nz hX.1) ?_
        refine xcV_I (md' := true) (As := []) (st := []) d_GM_accept_87 ca_GM_show ml_GM_538 im_GM_show se_GM_show gc_GM hX.1 (gm_o2 hX) hX.2.2.1 rfl (by decide) (by decide) rfl (fun _ => rfl) (fun _ => rfl) T (fun v29 M28 h30 T => ?_)
        exact wp_ireturn d_GM_accept_90 rfl (fun _ => rfl) (Nat.zero_le _) (Nat.zero_le _) (kI_mk h30 T)
    · have T := T.2 h35
      refine wp_aload_n d_GM_accept_24 rfl rfl (g_nz hX.1) ?_
      refine wp_iconst d_GM_accept_25 ?_
      refine xcV_I (md' := true) (As := [gI 2]) (st := []) d_GM_accept_26 ca_GM_no ml_GM_526 im_GM_no se_GM_no gc_GM hX.1 (gm_o2 hX) hX.2.2.1 rfl (by decide) (by decide) rfl (fun _ => rfl) (fun _ => rfl) T (fun v33 M32 h34 T => ?_)
      exact wp_ireturn d_GM_accept_29 rfl (fun _ => rfl) (Nat.zero_le _) (Nat.zero_le _) (kI_mk h34 T)
theorem e_GM_accept {l : Launch} {G : gG} {d : Nat} {X : gX} {M : gM} {k : Int → gM → Prop} {o : Nat} (T : wp l G y_GM_accept (gRm (d + 1)) true (kkI X k) false 0 [.val (gR G o)] [] X M 0 0) : cI l G y_GM_accept (gRm (d + 1)) true [gR G o] X M k := cen_I (plainFor_of_name rfl) (by simp only [lg_sl_R, lg_sl_I, lg_sl_L, lg_sl_N, List.length_cons, List.length_nil]; decide) (by unfold gEn; simp only [lg_sl_R, lg_sl_I, lg_sl_L, lg_sl_N]; exact wpt T (And.intro rfl True.intro))
theorem d_GM_feed_0 : decode prog_15_method_80_code 0 = .ok (.aload_n 0, 1) := by decide +kernel
theorem d_GM_feed_1 : decode prog_15_method_80_code 1 = .ok (.getfield 541, 3) := by decide +kernel
theorem d_GM_feed_4 : decode prog_15_method_80_code 4 = .ok (.bipush 20, 2) := by decide +kernel
theorem d_GM_feed_6 : decode prog_15_method_80_code 6 = .ok (.iadd, 1) := by decide +kernel
theorem d_GM_feed_7 : decode prog_15_method_80_code 7 = .ok (.sipush 240, 3) := by decide +kernel
theorem d_GM_feed_10 : decode prog_15_method_80_code 10 = .ok (.if_icmp .le 9, 3) := by decide +kernel
theorem d_GM_feed_19 : decode prog_15_method_80_code 19 = .ok (.aload_n 0, 1) := by decide +kernel
theorem d_GM_feed_20 : decode prog_15_method_80_code 20 = .ok (.iconst 0, 1) := by decide +kernel
theorem d_GM_feed_21 : decode prog_15_method_80_code 21 = .ok (.putfield 157, 3) := by decide +kernel
theorem d_GM_feed_24 : decode prog_15_method_80_code 24 = .ok (.iconst 0, 1) := by decide +kernel
theorem d_GM_feed_25 : decode prog_15_method_80_code 25 = .ok (.istore 6, 2) := by decide +kernel
theorem d_GM_feed_13 : decode prog_15_method_80_code 13 = .ok (.aload_n 0, 1) := by decide +kernel
theorem d_GM_feed_14 : decode prog_15_method_80_code 14 = .ok (.iconst 1, 1) := by decide +kernel
theorem d_GM_feed_15 : decode prog_15_method_80_code 15 = .ok (.invokevirtual 526, 3) := by decide +kernel
theorem d_GM_feed_18 : decode prog_15_method_80_code 18 = .ok (.ireturn, 1) := by decide +kernel
theorem d_GM_feed_27 : decode prog_15_method_80_code 27 = .ok (.iload 6, 2) := by decide +kernel
theorem d_GM_feed_29 : decode prog_15_method_80_code 29 = .ok (.bipush 20, 2) := by decide +kernel
theorem d_GM_feed_31 : decode prog_15_method_80_code 31 = .ok (.if_icmp .ge 82, 3) := by decide +kernel
theorem d_GM_feed_113 : decode prog_15_method_80_code 113 = .ok (.aload_n 0, 1) := by decide +kernel
theorem d_GM_feed_114 : decode prog_15_method_80_code 114 = .ok (.dup, 1) := by decide +kernel
theorem d_GM_feed_115 : decode prog_15_method_80_code 115 = .ok (.getfield 541, 3) := by decide +kernel
theorem d_GM_feed_118 : decode prog_15_method_80_code 118 = .ok (.bipush 20, 2) := by decide +kernel
theorem d_GM_feed_120 : decode prog_15_method_80_code 120 = .ok (.iadd, 1) := by decide +kernel
theorem d_GM_feed_121 : decode prog_15_method_80_code 121 = .ok (.putfield 541, 3) := by decide +kernel
theorem d_GM_feed_124 : decode prog_15_method_80_code 124 = .ok (.aload_n 0, 1) := by decide +kernel
theorem d_GM_feed_125 : decode prog_15_method_80_code 125 = .ok (.getfield 541, 3) := by decide +kernel
theorem d_GM_feed_128 : decode prog_15_method_80_code 128 = .ok (.ireturn, 1) := by decide +kernel
theorem d_GM_feed_34 : decode prog_15_method_80_code 34 = .ok (.iload 6, 2) := by decide +kernel
theorem d_GM_feed_36 : decode prog_15_method_80_code 36 = .ok (.iconst 4, 1) := by decide +kernel
theorem d_GM_feed_37 : decode prog_15_method_80_code 37 = .ok (.if_icmp .ge 7, 3) := by decide +kernel
theorem d_GM_feed_44 : decode prog_15_method_80_code 44 = .ok (.iload 6, 2) := by decide +kernel
theorem d_GM_feed_46 : decode prog_15_method_80_code 46 = .ok (.bipush 8, 2) := by decide +kernel
theorem d_GM_feed_48 : decode prog_15_method_80_code 48 = .ok (.if_icmp .ge 7, 3) := by decide +kernel
theorem d_GM_feed_55 : decode prog_15_method_80_code 55 = .ok (.iload 6, 2) := by decide +kernel
theorem d_GM_feed_57 : decode prog_15_method_80_code 57 = .ok (.bipush 12, 2) := by decide +kernel
theorem d_GM_feed_59 : decode prog_15_method_80_code 59 = .ok (.if_icmp .ge 7, 3) := by decide +kernel
theorem d_GM_feed_66 : decode prog_15_method_80_code 66 = .ok (.iload 6, 2) := by decide +kernel
theorem d_GM_feed_68 : decode prog_15_method_80_code 68 = .ok (.bipush 16, 2) := by decide +kernel
theorem d_GM_feed_70 : decode prog_15_method_80_code 70 = .ok (.if_icmp .ge 8, 3) := by decide +kernel
theorem d_GM_feed_78 : decode prog_15_method_80_code 78 = .ok (.iload 5, 2) := by decide +kernel
theorem d_GM_feed_80 : decode prog_15_method_80_code 80 = .ok (.istore 7, 2) := by decide +kernel
theorem d_GM_feed_82 : decode prog_15_method_80_code 82 = .ok (.aload_n 0, 1) := by decide +kernel
theorem d_GM_feed_83 : decode prog_15_method_80_code 83 = .ok (.getfield 154, 3) := by decide +kernel
theorem d_GM_feed_86 : decode prog_15_method_80_code 86 = .ok (.aload_n 0, 1) := by decide +kernel
theorem d_GM_feed_87 : decode prog_15_method_80_code 87 = .ok (.getfield 541, 3) := by decide +kernel
theorem d_GM_feed_90 : decode prog_15_method_80_code 90 = .ok (.iload 6, 2) := by decide +kernel
theorem d_GM_feed_92 : decode prog_15_method_80_code 92 = .ok (.iadd, 1) := by decide +kernel
theorem d_GM_feed_93 : decode prog_15_method_80_code 93 = .ok (.iload 7, 2) := by decide +kernel
theorem d_GM_feed_95 : decode prog_15_method_80_code 95 = .ok (.bipush 8, 2) := by decide +kernel
theorem d_GM_feed_97 : decode prog_15_method_80_code 97 = .ok (.iconst 3, 1) := by decide +kernel
theorem d_GM_feed_98 : decode prog_15_method_80_code 98 = .ok (.iload 6, 2) := by decide +kernel
theorem d_GM_feed_100 : decode prog_15_method_80_code 100 = .ok (.iconst 4, 1) := by decide +kernel
theorem d_GM_feed_101 : decode prog_15_method_80_code 101 = .ok (.irem, 1) := by decide +kernel
theorem d_GM_feed_102 : decode prog_15_method_80_code 102 = .ok (.isub, 1) := by decide +kernel
theorem d_GM_feed_103 : decode prog_15_method_80_code 103 = .ok (.imul, 1) := by decide +kernel
theorem d_GM_feed_104 : decode prog_15_method_80_code 104 = .ok (.ishr, 1) := by decide +kernel
theorem d_GM_feed_105 : decode prog_15_method_80_code 105 = .ok (.i2b, 1) := by decide +kernel
theorem d_GM_feed_106 : decode prog_15_method_80_code 106 = .ok (.bastore, 1) := by decide +kernel
theorem d_GM_feed_107 : decode prog_15_method_80_code 107 = .ok (.iinc 6 1, 3) := by decide +kernel
theorem d_GM_feed_110 : decode prog_15_method_80_code 110 = .ok (.goto (-83), 3) := by decide +kernel
theorem d_GM_feed_73 : decode prog_15_method_80_code 73 = .ok (.iload 4, 2) := by decide +kernel
theorem d_GM_feed_75 : decode prog_15_method_80_code 75 = .ok (.goto 5, 3) := by decide +kernel
theorem d_GM_feed_62 : decode prog_15_method_80_code 62 = .ok (.iload_n 3, 1) := by decide +kernel
theorem d_GM_feed_63 : decode prog_15_method_80_code 63 = .ok (.goto 17, 3) := by decide +kernel
theorem d_GM_feed_51 : decode prog_15_method_80_code 51 = .ok (.iload_n 2, 1) := by decide +kernel
theorem d_GM_feed_52 : decode prog_15_method_80_code 52 = .ok (.goto 28, 3) := by decide +kernel
theorem d_GM_feed_40 : decode prog_15_method_80_code 40 = .ok (.iload_n 1, 1) := by decide +kernel
theorem d_GM_feed_41 : decode prog_15_method_80_code 41 = .ok (.goto 39, 3) := by decide +kernel
set_option maxHeartbeats 4000000 in
theorem w_GM_feed_0 {l : Launch} {G : gG} {d : Nat} {X : gX} {M : gM} {k : Int → gM → Prop} {o : Nat} (hX : gmX X o) {x1 : Int} (hx1 : g32 x1) {x2 : Int} (hx2 : g32 x2) {x3 : Int} (hx3 : g32 x3) {x4 : Int} (hx4 : g32 x4) {x5 : Int} (hx5 : g32 x5) (T : g32 (M o 72) → (((w32 ((M o 72) + 20)) ≤ 240 → (wp l G y_GM_feed (gRm (d + 1)) true (kkI X k) true 27 [.val (gR G o), .val (gI x1), .val (gI x2), .val (gI x3), .val (gI x4), .val (gI x5), .val (gI 0), .unset] [] X (gUp M o 0 0) 0 0)) ∧ (¬ (w32 ((M o 72) + 20)) ≤ 240 → (cI l G y_GM_no (gRm d) true [gR G o, gI 1] X M (fun v3 M2 => (k v3 M2)))))) : wp l G y_GM_feed (gRm (d + 1)) true (kkI X k) false 0 [.val (gR G o), .val (gI x1), .val (gI x2), .val (gI x3), .val (gI x4), .val (gI x5), .unset, .unset] [] X M 0 0 := by
  refine wp_aload_n d_GM_feed_0 rfl rfl (g_nz hX.1) ?_
  refine xgetI d_GM_feed_1 gc_GM f_GM_541.1 f_GM_541.2.1 f_GM_541.2.2.1 hX.1 (gm_o2 hX) hX.2.2.1 f_GM_541.2.2.2.2.1 (fun h1 => ?_)
  have T := T h1
  refine wp_bipush d_GM_feed_4 ⟨by decide, by decide⟩ ?_
  refine wp_iadd d_GM_feed_6 ?_
  refine wp_sipush d_GM_feed_7 ⟨by decide, by decide⟩ ?_
  refine xi_le (tgt := 19) d_GM_feed_10 (by decide) rfl (w32_id (g32_c (x := 240) rfl)) (fun h5 => ?_) (fun h5 => ?_)
  · have T := T.1 h5
    refine wp_aload_n d_GM_feed_19 rfl rfl (g_nz hX.1) ?_
    refine wp_iconst d_GM_feed_20 ?_
    refine xputI d_GM_feed_21 gc_GM f_GM_157.1 f_GM_157.2.1 f_GM_157.2.2.1 hX.1 (gm_o2 hX) hX.2.2.1 f_GM_157.2.2.2.1 f_GM_157.2.2.2.2.1 f_GM_157.2.2.2.2.2 (w32_id (g32_c (x := 0) rfl)) ?_
    refine wp_iconst d_GM_feed_24 ?_
    refine wp_istore (L' := [.val (gR G o), .val (gI x1), .val (gI x2), .val (gI x3), .val (gI x4), .val (gI x5), .val (gI 0), .unset]) d_GM_feed_25 (by decide) rfl ?_
    exact wp_md (wpt T (And.intro rfl (And.intro rfl (And.intro rfl (And.intro rfl (And.intro rfl (And.intro rfl (And.intro rfl True.intro))))))))
  · have T := T.2 h5
    refine wp_aload_n d_GM_feed_13 rfl rfl (g_nz hX.1) ?_
    refine wp_iconst d_GM_feed_14 ?_
    refine xcV_I (md' := true) (As := [gI 1]) (st := []) d_GM_feed_15 ca_GM_no ml_GM_526 im_GM_no se_GM_no gc_GM hX.1 (gm_o2 hX) hX.2.2.1 rfl (by decide) (by decide) rfl (fun _ => rfl) (fun _ => rfl) T (fun v3 M2 h4 T => ?_)
    exact wp_ireturn d_GM_feed_18 rfl (fun _ => rfl) (Nat.zero_le _) (Nat.zero_le _) (kI_mk h4 T)
set_option maxHeartbeats 4000000 in
theorem w_GM_feed_27 {l : Launch} {G : gG} {d : Nat} {X : gX} {M : gM} {k : Int → gM → Prop} {o : Nat} (hX : gmX X o) {x1 : Int} (hx1 : g32 x1) {x2 : Int} (hx2 : g32 x2) {x3 : Int} (hx3 : g32 x3) {x4 : Int} (hx4 : g32 x4) {x5 : Int} (hx5 : g32 x5) {x6 : Int} (hx6 : g32 x6) (T : (20 ≤ x6 → (g32 (M o 72) → (g32 ((gUp M o 72 (w32 ((M o 72) + 20))) o 72) → (k ((gUp M o 72 (w32 ((M o 72) + 20))) o 72) (gUp M o 72 (w32 ((M o 72) + 20))))))) ∧ (¬ 20 ≤ x6 → ((4 ≤ x6 → ((8 ≤ x6 → ((12 ≤ x6 → ((16 ≤ x6 → (g32 (M o 72) → (((0 : Int) ≤ (M o 72) + x6 ∧ (M o 72) + x6 < 240) ∧ (wp l G y_GM_feed (gRm (d + 1)) true (kkI X k) true 27 [.val (gR G o), .val (gI x1), .val (gI x2), .val (gI x3), .val (gI x4), .val (gI x5), .val (gI (w32 (x6 + 1))), .unset] [] X (gUp M (o + 46) (Int.toNat ((M o 72) + x6)) (gByte (gByte (gShr x5 (8 * (3 - (x6.tmod 4))))))) 0 0)))) ∧ (¬ 16 ≤ x6 → (g32 (M o 72) → (((0 : Int) ≤ (M o 72) + x6 ∧ (M o 72) + x6 < 240) ∧ (wp l G y_GM_feed (gRm (d + 1)) true (kkI X k) true 27 [.val (gR G o), .val (gI x1), .val (gI x2), .val (gI x3), .val (gI x4), .val (gI x5), .val (gI (w32 (x6 + 1))), .unset] [] X (gUp M (o + 46) (Int.toNat ((M o 72) + x6)) (gByte (gByte (gShr x4 (8 * (3 - (x6.tmod 4))))))) 0 0)))))) ∧ (¬ 12 ≤ x6 → (g32 (M o 72) → (((0 : Int) ≤ (M o 72) + x6 ∧ (M o 72) + x6 < 240) ∧ (wp l G y_GM_feed (gRm (d + 1)) true (kkI X k) true 27 [.val (gR G o), .val (gI x1), .val (gI x2), .val (gI x3), .val (gI x4), .val (gI x5), .val (gI (w32 (x6 + 1))), .unset] [] X (gUp M (o + 46) (Int.toNat ((M o 72) + x6)) (gByte (gByte (gShr x3 (8 * (3 - (x6.tmod 4))))))) 0 0)))))) ∧ (¬ 8 ≤ x6 → (g32 (M o 72) → (((0 : Int) ≤ (M o 72) + x6 ∧ (M o 72) + x6 < 240) ∧ (wp l G y_GM_feed (gRm (d + 1)) true (kkI X k) true 27 [.val (gR G o), .val (gI x1), .val (gI x2), .val (gI x3), .val (gI x4), .val (gI x5), .val (gI (w32 (x6 + 1))), .unset] [] X (gUp M (o + 46) (Int.toNat ((M o 72) + x6)) (gByte (gByte (gShr x2 (8 * (3 - (x6.tmod 4))))))) 0 0)))))) ∧ (¬ 4 ≤ x6 → (g32 (M o 72) → (((0 : Int) ≤ (M o 72) + x6 ∧ (M o 72) + x6 < 240) ∧ (wp l G y_GM_feed (gRm (d + 1)) true (kkI X k) true 27 [.val (gR G o), .val (gI x1), .val (gI x2), .val (gI x3), .val (gI x4), .val (gI x5), .val (gI (w32 (x6 + 1))), .unset] [] X (gUp M (o + 46) (Int.toNat ((M o 72) + x6)) (gByte (gByte (gShr x1 (8 * (3 - (x6.tmod 4))))))) 0 0))))))) : wp l G y_GM_feed (gRm (d + 1)) true (kkI X k) true 27 [.val (gR G o), .val (gI x1), .val (gI x2), .val (gI x3), .val (gI x4), .val (gI x5), .val (gI x6), .unset] [] X M 0 0 := by
  refine wp_iload d_GM_feed_27 rfl ?_
  refine wp_bipush d_GM_feed_29 ⟨by decide, by decide⟩ ?_
  refine xi_ge (tgt := 113) d_GM_feed_31 (by decide) (w32_id hx6) (w32_id (g32_c (x := 20) rfl)) (fun h17 => ?_) (fun h17 => ?_)
  · have T := T.1 h17
    refine wp_aload_n d_GM_feed_113 rfl rfl (g_nz hX.1) ?_
    refine wp_dup d_GM_feed_114 (gR_cat _) ?_
    refine xgetI d_GM_feed_115 gc_GM f_GM_541.1 f_GM_541.2.1 f_GM_541.2.2.1 hX.1 (gm_o2 hX) hX.2.2.1 f_GM_541.2.2.2.2.1 (fun h6 => ?_)
    have T := T h6
    refine wp_bipush d_GM_feed_118 ⟨by decide, by decide⟩ ?_
    refine wp_iadd d_GM_feed_120 ?_
    refine xputI d_GM_feed_121 gc_GM f_GM_541.1 f_GM_541.2.1 f_GM_541.2.2.1 hX.1 (gm_o2 hX) hX.2.2.1 f_GM_541.2.2.2.1 f_GM_541.2.2.2.2.1 f_GM_541.2.2.2.2.2 rfl ?_
    refine wp_aload_n d_GM_feed_124 rfl rfl (g_nz hX.1) ?_
    refine xgetI d_GM_feed_125 gc_GM f_GM_541.1 f_GM_541.2.1 f_GM_541.2.2.1 hX.1 (gm_o2 hX) hX.2.2.1 f_GM_541.2.2.2.2.1 (fun h7 => ?_)
    have T := T h7
    exact wp_ireturn d_GM_feed_128 rfl (fun _ => rfl) (Nat.zero_le _) (Nat.zero_le _) (kI_mk h7 T)
  · have T := T.2 h17
    refine wp_iload d_GM_feed_34 rfl ?_
    refine wp_iconst d_GM_feed_36 ?_
    refine xi_ge (tgt := 44) d_GM_feed_37 (by decide) (w32_id hx6) (w32_id (g32_c (x := 4) rfl)) (fun h16 => ?_) (fun h16 => ?_)
    · have T := T.1 h16
      refine wp_iload d_GM_feed_44 rfl ?_
      refine wp_bipush d_GM_feed_46 ⟨by decide, by decide⟩ ?_
      refine xi_ge (tgt := 55) d_GM_feed_48 (by decide) (w32_id hx6) (w32_id (g32_c (x := 8) rfl)) (fun h14 => ?_) (fun h14 => ?_)
      · have T := T.1 h14
        refine wp_iload d_GM_feed_55 rfl ?_
        refine wp_bipush d_GM_feed_57 ⟨by decide, by decide⟩ ?_
        refine xi_ge (tgt := 66) d_GM_feed_59 (by decide) (w32_id hx6) (w32_id (g32_c (x := 12) rfl)) (fun h12 => ?_) (fun h12 => ?_)
        · have T := T.1 h12
          refine wp_iload d_GM_feed_66 rfl ?_
          refine wp_bipush d_GM_feed_68 ⟨by decide, by decide⟩ ?_
          refine xi_ge (tgt := 78) d_GM_feed_70 (by decide) (w32_id hx6) (w32_id (g32_c (x := 16) rfl)) (fun h10 => ?_) (fun h10 => ?_)
          · have T := T.1 h10
            refine wp_iload d_GM_feed_78 rfl ?_
            refine wp_istore (L' := [.val (gR G o), .val (gI x1), .val (gI x2), .val (gI x3), .val (gI x4), .val (gI x5), .val (gI x6), .val (gI x5)]) d_GM_feed_80 (by decide) rfl ?_
            refine wp_aload_n d_GM_feed_82 rfl rfl (g_nz hX.1) ?_
            refine xgetR d_GM_feed_83 gc_GM f_GM_154.1 f_GM_154.2.1 f_GM_154.2.2.1 hX.1 (gm_o2 hX) hX.2.2.1 f_GM_154.2.2.2.2.1 (gm_row hX 45 rfl).1 ?_
            refine wp_aload_n d_GM_feed_86 rfl rfl (g_nz hX.1) ?_
            refine xgetI d_GM_feed_87 gc_GM f_GM_541.1 f_GM_541.2.1 f_GM_541.2.2.1 hX.1 (gm_o2 hX) hX.2.2.1 f_GM_541.2.2.2.2.1 (fun h8 => ?_)
            have T := T h8
            refine wp_iload d_GM_feed_90 rfl ?_
            refine wp_iadd d_GM_feed_92 ?_
            refine wp_iload d_GM_feed_93 rfl ?_
            refine wp_bipush d_GM_feed_95 ⟨by decide, by decide⟩ ?_
            refine wp_iconst d_GM_feed_97 ?_
            refine wp_iload d_GM_feed_98 rfl ?_
            refine wp_iconst d_GM_feed_100 ?_
            refine xirem d_GM_feed_101 (w32_id hx6) (w32_id (g32_c (x := 4) rfl)) (by decide) ?_
            refine wp_isub d_GM_feed_102 ?_
            refine wp_imul d_GM_feed_103 ?_
            refine wp_ishr d_GM_feed_104 ?_
            refine wp_i2b d_GM_feed_105 ?_
            refine xbast d_GM_feed_106 (gm_row hX 45 rfl).2.2.1 (gm_row hX 45 rfl).2.2.2 (gm_row hX 45 rfl).2.1 (by decide) T.1 ?_
            have T := T.2
            refine wp_iinc (L' := [.val (gR G o), .val (gI x1), .val (gI x2), .val (gI x3), .val (gI x4), .val (gI x5), .val (gI (x6 + 1)), .val (gI x5)]) d_GM_feed_107 rfl (by decide) rfl ?_
            refine wp_goto (tgt := 27) d_GM_feed_110 (by decide) ?_
            exact wp_md (wpt T (And.intro rfl (And.intro rfl (And.intro rfl (And.intro rfl (And.intro rfl (And.intro rfl (And.intro (gI_w _) True.intro))))))))
          · have T := T.2 h10
            refine wp_iload d_GM_feed_73 rfl ?_
            refine wp_goto (tgt := 80) d_GM_feed_75 (by decide) ?_
            refine wp_istore (L' := [.val (gR G o), .val (gI x1), .val (gI x2), .val (gI x3), .val (gI x4), .val (gI x5), .val (gI x6), .val (gI x4)]) d_GM_feed_80 (by decide) rfl ?_
            refine wp_aload_n d_GM_feed_82 rfl rfl (g_nz hX.1) ?_
            refine xgetR d_GM_feed_83 gc_GM f_GM_154.1 f_GM_154.2.1 f_GM_154.2.2.1 hX.1 (gm_o2 hX) hX.2.2.1 f_GM_154.2.2.2.2.1 (gm_row hX 45 rfl).1 ?_
            refine wp_aload_n d_GM_feed_86 rfl rfl (g_nz hX.1) ?_
            refine xgetI d_GM_feed_87 gc_GM f_GM_541.1 f_GM_541.2.1 f_GM_541.2.2.1 hX.1 (gm_o2 hX) hX.2.2.1 f_GM_541.2.2.2.2.1 (fun h9 => ?_)
            have T := T h9
            refine wp_iload d_GM_feed_90 rfl ?_
            refine wp_iadd d_GM_feed_92 ?_
            refine wp_iload d_GM_feed_93 rfl ?_
            refine wp_bipush d_GM_feed_95 ⟨by decide, by decide⟩ ?_
            refine wp_iconst d_GM_feed_97 ?_
            refine wp_iload d_GM_feed_98 rfl ?_
            refine wp_iconst d_GM_feed_100 ?_
            refine xirem d_GM_feed_101 (w32_id hx6) (w32_id (g32_c (x := 4) rfl)) (by decide) ?_
            refine wp_isub d_GM_feed_102 ?_
            refine wp_imul d_GM_feed_103 ?_
            refine wp_ishr d_GM_feed_104 ?_
            refine wp_i2b d_GM_feed_105 ?_
            refine xbast d_GM_feed_106 (gm_row hX 45 rfl).2.2.1 (gm_row hX 45 rfl).2.2.2 (gm_row hX 45 rfl).2.1 (by decide) T.1 ?_
            have T := T.2
            refine wp_iinc (L' := [.val (gR G o), .val (gI x1), .val (gI x2), .val (gI x3), .val (gI x4), .val (gI x5), .val (gI (x6 + 1)), .val (gI x4)]) d_GM_feed_107 rfl (by decide) rfl ?_
            refine wp_goto (tgt := 27) d_GM_feed_110 (by decide) ?_
            exact wp_md (wpt T (And.intro rfl (And.intro rfl (And.intro rfl (And.intro rfl (And.intro rfl (And.intro rfl (And.intro (gI_w _) True.intro))))))))
        · have T := T.2 h12
          refine wp_iload_n d_GM_feed_62 rfl rfl ?_
          refine wp_goto (tgt := 80) d_GM_feed_63 (by decide) ?_
          refine wp_istore (L' := [.val (gR G o), .val (gI x1), .val (gI x2), .val (gI x3), .val (gI x4), .val (gI x5), .val (gI x6), .val (gI x3)]) d_GM_feed_80 (by decide) rfl ?_
          refine wp_aload_n d_GM_feed_82 rfl rfl (g_nz hX.1) ?_
          refine xgetR d_GM_feed_83 gc_GM f_GM_154.1 f_GM_154.2.1 f_GM_154.2.2.1 hX.1 (gm_o2 hX) hX.2.2.1 f_GM_154.2.2.2.2.1 (gm_row hX 45 rfl).1 ?_
          refine wp_aload_n d_GM_feed_86 rfl rfl (g_nz hX.1) ?_
          refine xgetI d_GM_feed_87 gc_GM f_GM_541.1 f_GM_541.2.1 f_GM_541.2.2.1 hX.1 (gm_o2 hX) hX.2.2.1 f_GM_541.2.2.2.2.1 (fun h11 => ?_)
          have T := T h11
          refine wp_iload d_GM_feed_90 rfl ?_
          refine wp_iadd d_GM_feed_92 ?_
          refine wp_iload d_GM_feed_93 rfl ?_
          refine wp_bipush d_GM_feed_95 ⟨by decide, by decide⟩ ?_
          refine wp_iconst d_GM_feed_97 ?_
          refine wp_iload d_GM_feed_98 rfl ?_
          refine wp_iconst d_GM_feed_100 ?_
          refine xirem d_GM_feed_101 (w32_id hx6) (w32_id (g32_c (x := 4) rfl)) (by decide) ?_
          refine wp_isub d_GM_feed_102 ?_
          refine wp_imul d_GM_feed_103 ?_
          refine wp_ishr d_GM_feed_104 ?_
          refine wp_i2b d_GM_feed_105 ?_
          refine xbast d_GM_feed_106 (gm_row hX 45 rfl).2.2.1 (gm_row hX 45 rfl).2.2.2 (gm_row hX 45 rfl).2.1 (by decide) T.1 ?_
          have T := T.2
          refine wp_iinc (L' := [.val (gR G o), .val (gI x1), .val (gI x2), .val (gI x3), .val (gI x4), .val (gI x5), .val (gI (x6 + 1)), .val (gI x3)]) d_GM_feed_107 rfl (by decide) rfl ?_
          refine wp_goto (tgt := 27) d_GM_feed_110 (by decide) ?_
          exact wp_md (wpt T (And.intro rfl (And.intro rfl (And.intro rfl (And.intro rfl (And.intro rfl (And.intro rfl (And.intro (gI_w _) True.intro))))))))
      · have T := T.2 h14
        refine wp_iload_n d_GM_feed_51 rfl rfl ?_
        refine wp_goto (tgt := 80) d_GM_feed_52 (by decide) ?_
        refine wp_istore (L' := [.val (gR G o), .val (gI x1), .val (gI x2), .val (gI x3), .val (gI x4), .val (gI x5), .val (gI x6), .val (gI x2)]) d_GM_feed_80 (by decide) rfl ?_
        refine wp_aload_n d_GM_feed_82 rfl rfl (g_nz hX.1) ?_
        refine xgetR d_GM_feed_83 gc_GM f_GM_154.1 f_GM_154.2.1 f_GM_154.2.2.1 hX.1 (gm_o2 hX) hX.2.2.1 f_GM_154.2.2.2.2.1 (gm_row hX 45 rfl).1 ?_
        refine wp_aload_n d_GM_feed_86 rfl rfl (g_nz hX.1) ?_
        refine xgetI d_GM_feed_87 gc_GM f_GM_541.1 f_GM_541.2.1 f_GM_541.2.2.1 hX.1 (gm_o2 hX) hX.2.2.1 f_GM_541.2.2.2.2.1 (fun h13 => ?_)
        have T := T h13
        refine wp_iload d_GM_feed_90 rfl ?_
        refine wp_iadd d_GM_feed_92 ?_
        refine wp_iload d_GM_feed_93 rfl ?_
        refine wp_bipush d_GM_feed_95 ⟨by decide, by decide⟩ ?_
        refine wp_iconst d_GM_feed_97 ?_
        refine wp_iload d_GM_feed_98 rfl ?_
        refine wp_iconst d_GM_feed_100 ?_
        refine xirem d_GM_feed_101 (w32_id hx6) (w32_id (g32_c (x := 4) rfl)) (by decide) ?_
        refine wp_isub d_GM_feed_102 ?_
        refine wp_imul d_GM_feed_103 ?_
        refine wp_ishr d_GM_feed_104 ?_
        refine wp_i2b d_GM_feed_105 ?_
        refine xbast d_GM_feed_106 (gm_row hX 45 rfl).2.2.1 (gm_row hX 45 rfl).2.2.2 (gm_row hX 45 rfl).2.1 (by decide) T.1 ?_
        have T := T.2
        refine wp_iinc (L' := [.val (gR G o), .val (gI x1), .val (gI x2), .val (gI x3), .val (gI x4), .val (gI x5), .val (gI (x6 + 1)), .val (gI x2)]) d_GM_feed_107 rfl (by decide) rfl ?_
        refine wp_goto (tgt := 27) d_GM_feed_110 (by decide) ?_
        exact wp_md (wpt T (And.intro rfl (And.intro rfl (And.intro rfl (And.intro rfl (And.intro rfl (And.intro rfl (And.intro (gI_w _) True.intro))))))))
    · have T := T.2 h16
      refine wp_iload_n d_GM_feed_40 rfl rfl ?_
      refine wp_goto (tgt := 80) d_GM_feed_41 (by decide) ?_
      refine wp_istore (L' := [.val (gR G o), .val (gI x1), .val (gI x2), .val (gI x3), .val (gI x4), .val (gI x5), .val (gI x6), .val (gI x1)]) d_GM_feed_80 (by decide) rfl ?_
      refine wp_aload_n d_GM_feed_82 rfl rfl (g_nz hX.1) ?_
      refine xgetR d_GM_feed_83 gc_GM f_GM_154.1 f_GM_154.2.1 f_GM_154.2.2.1 hX.1 (gm_o2 hX) hX.2.2.1 f_GM_154.2.2.2.2.1 (gm_row hX 45 rfl).1 ?_
      refine wp_aload_n d_GM_feed_86 rfl rfl (g_nz hX.1) ?_
      refine xgetI d_GM_feed_87 gc_GM f_GM_541.1 f_GM_541.2.1 f_GM_541.2.2.1 hX.1 (gm_o2 hX) hX.2.2.1 f_GM_541.2.2.2.2.1 (fun h15 => ?_)
      have T := T h15
      refine wp_iload d_GM_feed_90 rfl ?_
      refine wp_iadd d_GM_feed_92 ?_
      refine wp_iload d_GM_feed_93 rfl ?_
      refine wp_bipush d_GM_feed_95 ⟨by decide, by decide⟩ ?_
      refine wp_iconst d_GM_feed_97 ?_
      refine wp_iload d_GM_feed_98 rfl ?_
      refine wp_iconst d_GM_feed_100 ?_
      refine xirem d_GM_feed_101 (w32_id hx6) (w32_id (g32_c (x := 4) rfl)) (by decide) ?_
      refine wp_isub d_GM_feed_102 ?_
      refine wp_imul d_GM_feed_103 ?_
      refine wp_ishr d_GM_feed_104 ?_
      refine wp_i2b d_GM_feed_105 ?_
      refine xbast d_GM_feed_106 (gm_row hX 45 rfl).2.2.1 (gm_row hX 45 rfl).2.2.2 (gm_row hX 45 rfl).2.1 (by decide) T.1 ?_
      have T := T.2
      refine wp_iinc (L' := [.val (gR G o), .val (gI x1), .val (gI x2), .val (gI x3), .val (gI x4), .val (gI x5), .val (gI (x6 + 1)), .val (gI x1)]) d_GM_feed_107 rfl (by decide) rfl ?_
      refine wp_goto (tgt := 27) d_GM_feed_110 (by decide) ?_
      exact wp_md (wpt T (And.intro rfl (And.intro rfl (And.intro rfl (And.intro rfl (And.intro rfl (And.intro rfl (And.intro (gI_w _) True.intro))))))))
theorem e_GM_feed {l : Launch} {G : gG} {d : Nat} {X : gX} {M : gM} {k : Int → gM → Prop} {o : Nat} {x1 : Int} {x2 : Int} {x3 : Int} {x4 : Int} {x5 : Int} (T : wp l G y_GM_feed (gRm (d + 1)) true (kkI X k) false 0 [.val (gR G o), .val (gI x1), .val (gI x2), .val (gI x3), .val (gI x4), .val (gI x5), .unset, .unset] [] X M 0 0) : cI l G y_GM_feed (gRm (d + 1)) true [gR G o, gI x1, gI x2, gI x3, gI x4, gI x5] X M k := cen_I (plainFor_of_name rfl) (by simp only [lg_sl_R, lg_sl_I, lg_sl_L, lg_sl_N, List.length_cons, List.length_nil]; decide) (by unfold gEn; simp only [lg_sl_R, lg_sl_I, lg_sl_L, lg_sl_N]; exact wpt T (And.intro rfl (And.intro rfl (And.intro rfl (And.intro rfl (And.intro rfl (And.intro rfl True.intro)))))))
theorem d_GM_end_0 : decode prog_15_method_81_code 0 = .ok (.iload_n 1, 1) := by decide +kernel
theorem d_GM_end_1 : decode prog_15_method_81_code 1 = .ok (.ifCond .lt 11, 3) := by decide +kernel
theorem d_GM_end_12 : decode prog_15_method_81_code 12 = .ok (.aload_n 0, 1) := by decide +kernel
theorem d_GM_end_13 : decode prog_15_method_81_code 13 = .ok (.iconst 1, 1) := by decide +kernel
theorem d_GM_end_14 : decode prog_15_method_81_code 14 = .ok (.invokevirtual 526, 3) := by decide +kernel
theorem d_GM_end_17 : decode prog_15_method_81_code 17 = .ok (.ireturn, 1) := by decide +kernel
theorem d_GM_end_4 : decode prog_15_method_81_code 4 = .ok (.iload_n 1, 1) := by decide +kernel
theorem d_GM_end_5 : decode prog_15_method_81_code 5 = .ok (.aload_n 0, 1) := by decide +kernel
theorem d_GM_end_6 : decode prog_15_method_81_code 6 = .ok (.getfield 541, 3) := by decide +kernel
theorem d_GM_end_9 : decode prog_15_method_81_code 9 = .ok (.if_icmp .le 9, 3) := by decide +kernel
theorem d_GM_end_18 : decode prog_15_method_81_code 18 = .ok (.aload_n 0, 1) := by decide +kernel
theorem d_GM_end_19 : decode prog_15_method_81_code 19 = .ok (.iconst 0, 1) := by decide +kernel
theorem d_GM_end_20 : decode prog_15_method_81_code 20 = .ok (.putfield 157, 3) := by decide +kernel
theorem d_GM_end_23 : decode prog_15_method_81_code 23 = .ok (.aload_n 0, 1) := by decide +kernel
theorem d_GM_end_24 : decode prog_15_method_81_code 24 = .ok (.dup, 1) := by decide +kernel
theorem d_GM_end_25 : decode prog_15_method_81_code 25 = .ok (.getfield 541, 3) := by decide +kernel
theorem d_GM_end_28 : decode prog_15_method_81_code 28 = .ok (.iload_n 1, 1) := by decide +kernel
theorem d_GM_end_29 : decode prog_15_method_81_code 29 = .ok (.isub, 1) := by decide +kernel
theorem d_GM_end_30 : decode prog_15_method_81_code 30 = .ok (.putfield 541, 3) := by decide +kernel
theorem d_GM_end_33 : decode prog_15_method_81_code 33 = .ok (.aload_n 0, 1) := by decide +kernel
theorem d_GM_end_34 : decode prog_15_method_81_code 34 = .ok (.getfield 541, 3) := by decide +kernel
theorem d_GM_end_37 : decode prog_15_method_81_code 37 = .ok (.ireturn, 1) := by decide +kernel
set_option maxHeartbeats 4000000 in
theorem w_GM_end_0 {l : Launch} {G : gG} {d : Nat} {X : gX} {M : gM} {k : Int → gM → Prop} {o : Nat} (hX : gmX X o) {x1 : Int} (hx1 : g32 x1) (T : (x1 < 0 → (cI l G y_GM_no (gRm d) true [gR G o, gI 1] X M (fun v2 M1 => (k v2 M1)))) ∧ (¬ x1 < 0 → (g32 (M o 72) → ((x1 ≤ M o 72 → (g32 ((gUp M o 0 0) o 72) → (g32 ((gUp (gUp M o 0 0) o 72 (w32 (((gUp M o 0 0) o 72) - x1))) o 72) → (k ((gUp (gUp M o 0 0) o 72 (w32 (((gUp M o 0 0) o 72) - x1))) o 72) (gUp (gUp M o 0 0) o 72 (w32 (((gUp M o 0 0) o 72) - x1))))))) ∧ (¬ x1 ≤ M o 72 → (cI l G y_GM_no (gRm d) true [gR G o, gI 1] X M (fun v8 M7 => (k v8 M7)))))))) : wp l G y_GM_end (gRm (d + 1)) true (kkI X k) false 0 [.val (gR G o), .val (gI x1)] [] X M 0 0 := by
  refine wp_iload_n d_GM_end_0 rfl rfl ?_
  refine xz_lt (tgt := 12) d_GM_end_1 (by decide) (w32_id hx1) (fun h11 => ?_) (fun h11 => ?_)
  · have T := T.1 h11
    refine wp_aload_n d_GM_end_12 rfl rfl (g_nz hX.1) ?_
    refine wp_iconst d_GM_end_13 ?_
    refine xcV_I (md' := true) (As := [gI 1]) (st := []) d_GM_end_14 ca_GM_no ml_GM_526 im_GM_no se_GM_no gc_GM hX.1 (gm_o2 hX) hX.2.2.1 rfl (by decide) (by decide) rfl (fun _ => rfl) (fun _ => rfl) T (fun v2 M1 h3 T => ?_)
    exact wp_ireturn d_GM_end_17 rfl (fun _ => rfl) (Nat.zero_le _) (Nat.zero_le _) (kI_mk h3 T)
  · have T := T.2 h11
    refine wp_iload_n d_GM_end_4 rfl rfl ?_
    refine wp_aload_n d_GM_end_5 rfl rfl (g_nz hX.1) ?_
    refine xgetI d_GM_end_6 gc_GM f_GM_541.1 f_GM_541.2.1 f_GM_541.2.2.1 hX.1 (gm_o2 hX) hX.2.2.1 f_GM_541.2.2.2.2.1 (fun h4 => ?_)
    have T := T h4
    refine xi_le (tgt := 18) d_GM_end_9 (by decide) (w32_id hx1) (w32_id h4) (fun h10 => ?_) (fun h10 => ?_)
    · have T := T.1 h10
      refine wp_aload_n d_GM_end_18 rfl rfl (g_nz hX.1) ?_
      refine wp_iconst d_GM_end_19 ?_
      refine xputI d_GM_end_20 gc_GM f_GM_157.1 f_GM_157.2.1 f_GM_157.2.2.1 hX.1 (gm_o2 hX) hX.2.2.1 f_GM_157.2.2.2.1 f_GM_157.2.2.2.2.1 f_GM_157.2.2.2.2.2 (w32_id (g32_c (x := 0) rfl)) ?_
      refine wp_aload_n d_GM_end_23 rfl rfl (g_nz hX.1) ?_
      refine wp_dup d_GM_end_24 (gR_cat _) ?_
      refine xgetI d_GM_end_25 gc_GM f_GM_541.1 f_GM_541.2.1 f_GM_541.2.2.1 hX.1 (gm_o2 hX) hX.2.2.1 f_GM_541.2.2.2.2.1 (fun h5 => ?_)
      have T := T h5
      refine wp_iload_n d_GM_end_28 rfl rfl ?_
      refine wp_isub d_GM_end_29 ?_
      refine xputI d_GM_end_30 gc_GM f_GM_541.1 f_GM_541.2.1 f_GM_541.2.2.1 hX.1 (gm_o2 hX) hX.2.2.1 f_GM_541.2.2.2.1 f_GM_541.2.2.2.2.1 f_GM_541.2.2.2.2.2 rfl ?_
      refine wp_aload_n d_GM_end_33 rfl rfl (g_nz hX.1) ?_
      refine xgetI d_GM_end_34 gc_GM f_GM_541.1 f_GM_541.2.1 f_GM_541.2.2.1 hX.1 (gm_o2 hX) hX.2.2.1 f_GM_541.2.2.2.2.1 (fun h6 => ?_)
      have T := T h6
      exact wp_ireturn d_GM_end_37 rfl (fun _ => rfl) (Nat.zero_le _) (Nat.zero_le _) (kI_mk h6 T)
    · have T := T.2 h10
      refine wp_aload_n d_GM_end_12 rfl rfl (g_nz hX.1) ?_
      refine wp_iconst d_GM_end_13 ?_
      refine xcV_I (md' := true) (As := [gI 1]) (st := []) d_GM_end_14 ca_GM_no ml_GM_526 im_GM_no se_GM_no gc_GM hX.1 (gm_o2 hX) hX.2.2.1 rfl (by decide) (by decide) rfl (fun _ => rfl) (fun _ => rfl) T (fun v8 M7 h9 T => ?_)
      exact wp_ireturn d_GM_end_17 rfl (fun _ => rfl) (Nat.zero_le _) (Nat.zero_le _) (kI_mk h9 T)
theorem e_GM_end {l : Launch} {G : gG} {d : Nat} {X : gX} {M : gM} {k : Int → gM → Prop} {o : Nat} {x1 : Int} (T : wp l G y_GM_end (gRm (d + 1)) true (kkI X k) false 0 [.val (gR G o), .val (gI x1)] [] X M 0 0) : cI l G y_GM_end (gRm (d + 1)) true [gR G o, gI x1] X M k := cen_I (plainFor_of_name rfl) (by simp only [lg_sl_R, lg_sl_I, lg_sl_L, lg_sl_N, List.length_cons, List.length_nil]; decide) (by unfold gEn; simp only [lg_sl_R, lg_sl_I, lg_sl_L, lg_sl_N]; exact wpt T (And.intro rfl (And.intro rfl True.intro)))
theorem d_GM_inSheet_0 : decode prog_15_method_82_code 0 = .ok (.iload_n 0, 1) := by decide +kernel
theorem d_GM_inSheet_1 : decode prog_15_method_82_code 1 = .ok (.ifCond .lt 24, 3) := by decide +kernel
theorem d_GM_inSheet_25 : decode prog_15_method_82_code 25 = .ok (.iconst 0, 1) := by decide +kernel
theorem d_GM_inSheet_26 : decode prog_15_method_82_code 26 = .ok (.ireturn, 1) := by decide +kernel
theorem d_GM_inSheet_4 : decode prog_15_method_82_code 4 = .ok (.iload_n 0, 1) := by decide +kernel
theorem d_GM_inSheet_5 : decode prog_15_method_82_code 5 = .ok (.bipush 26, 2) := by decide +kernel
theorem d_GM_inSheet_7 : decode prog_15_method_82_code 7 = .ok (.if_icmp .ge 18, 3) := by decide +kernel
theorem d_GM_inSheet_10 : decode prog_15_method_82_code 10 = .ok (.iload_n 1, 1) := by decide +kernel
theorem d_GM_inSheet_11 : decode prog_15_method_82_code 11 = .ok (.ifCond .lt 14, 3) := by decide +kernel
theorem d_GM_inSheet_14 : decode prog_15_method_82_code 14 = .ok (.iload_n 1, 1) := by decide +kernel
theorem d_GM_inSheet_15 : decode prog_15_method_82_code 15 = .ok (.sipush 200, 3) := by decide +kernel
theorem d_GM_inSheet_18 : decode prog_15_method_82_code 18 = .ok (.if_icmp .ge 7, 3) := by decide +kernel
theorem d_GM_inSheet_21 : decode prog_15_method_82_code 21 = .ok (.iconst 1, 1) := by decide +kernel
theorem d_GM_inSheet_22 : decode prog_15_method_82_code 22 = .ok (.goto 4, 3) := by decide +kernel
set_option maxHeartbeats 4000000 in
theorem w_GM_inSheet_0 {l : Launch} {G : gG} {d : Nat} {X : gX} {M : gM} {k : Int → gM → Prop}  {x0 : Int} (hx0 : g32 x0) {x1 : Int} (hx1 : g32 x1) (T : (x0 < 0 → (k 0 M)) ∧ (¬ x0 < 0 → ((26 ≤ x0 → (k 0 M)) ∧ (¬ 26 ≤ x0 → ((x1 < 0 → (k 0 M)) ∧ (¬ x1 < 0 → ((200 ≤ x1 → (k 0 M)) ∧ (¬ 200 ≤ x1 → (k 1 M))))))))) : wp l G y_GM_inSheet (gRm d) false (kkZ X k) false 0 [.val (gI x0), .val (gI x1)] [] X M 0 0 := by
  refine wp_iload_n d_GM_inSheet_0 rfl rfl ?_
  refine xz_lt (tgt := 25) d_GM_inSheet_1 (by decide) (w32_id hx0) (fun h4 => ?_) (fun h4 => ?_)
  · have T := T.1 h4
    refine wp_iconst d_GM_inSheet_25 ?_
    exact wp_zreturn d_GM_inSheet_26 rfl (g_narz (⟨by decide, by decide⟩ : (0 : Int) ≤ 0 ∧ (0 : Int) ≤ 1)) id (Nat.zero_le _) (Nat.zero_le _) (kZ_mk (⟨by decide, by decide⟩ : (0 : Int) ≤ 0 ∧ (0 : Int) ≤ 1) T)
  · have T := T.2 h4
    refine wp_iload_n d_GM_inSheet_4 rfl rfl ?_
    refine wp_bipush d_GM_inSheet_5 ⟨by decide, by decide⟩ ?_
    refine xi_ge (tgt := 25) d_GM_inSheet_7 (by decide) (w32_id hx0) (w32_id (g32_c (x := 26) rfl)) (fun h3 => ?_) (fun h3 => ?_)
    · have T := T.1 h3
      refine wp_iconst d_GM_inSheet_25 ?_
      exact wp_zreturn d_GM_inSheet_26 rfl (g_narz (⟨by decide, by decide⟩ : (0 : Int) ≤ 0 ∧ (0 : Int) ≤ 1)) id (Nat.zero_le _) (Nat.zero_le _) (kZ_mk (⟨by decide, by decide⟩ : (0 : Int) ≤ 0 ∧ (0 : Int) ≤ 1) T)
    · have T := T.2 h3
      refine wp_iload_n d_GM_inSheet_10 rfl rfl ?_
      refine xz_lt (tgt := 25) d_GM_inSheet_11 (by decide) (w32_id hx1) (fun h2 => ?_) (fun h2 => ?_)
      · have T := T.1 h2
        refine wp_iconst d_GM_inSheet_25 ?_
        exact wp_zreturn d_GM_inSheet_26 rfl (g_narz (⟨by decide, by decide⟩ : (0 : Int) ≤ 0 ∧ (0 : Int) ≤ 1)) id (Nat.zero_le _) (Nat.zero_le _) (kZ_mk (⟨by decide, by decide⟩ : (0 : Int) ≤ 0 ∧ (0 : Int) ≤ 1) T)
      · have T := T.2 h2
        refine wp_iload_n d_GM_inSheet_14 rfl rfl ?_
        refine wp_sipush d_GM_inSheet_15 ⟨by decide, by decide⟩ ?_
        refine xi_ge (tgt := 25) d_GM_inSheet_18 (by decide) (w32_id hx1) (w32_id (g32_c (x := 200) rfl)) (fun h1 => ?_) (fun h1 => ?_)
        · have T := T.1 h1
          refine wp_iconst d_GM_inSheet_25 ?_
          exact wp_zreturn d_GM_inSheet_26 rfl (g_narz (⟨by decide, by decide⟩ : (0 : Int) ≤ 0 ∧ (0 : Int) ≤ 1)) id (Nat.zero_le _) (Nat.zero_le _) (kZ_mk (⟨by decide, by decide⟩ : (0 : Int) ≤ 0 ∧ (0 : Int) ≤ 1) T)
        · have T := T.2 h1
          refine wp_iconst d_GM_inSheet_21 ?_
          refine wp_goto (tgt := 26) d_GM_inSheet_22 (by decide) ?_
          exact wp_zreturn d_GM_inSheet_26 rfl (g_narz (⟨by decide, by decide⟩ : (0 : Int) ≤ 1 ∧ (1 : Int) ≤ 1)) id (Nat.zero_le _) (Nat.zero_le _) (kZ_mk (⟨by decide, by decide⟩ : (0 : Int) ≤ 1 ∧ (1 : Int) ≤ 1) T)
theorem e_GM_inSheet {l : Launch} {G : gG} {d : Nat} {X : gX} {M : gM} {k : Int → gM → Prop}  {x0 : Int} {x1 : Int} (T : wp l G y_GM_inSheet (gRm d) false (kkZ X k) false 0 [.val (gI x0), .val (gI x1)] [] X M 0 0) : cZ l G y_GM_inSheet (gRm d) false [gI x0, gI x1] X M k := cen_Z (plainFor_of_name rfl) (by simp only [lg_sl_R, lg_sl_I, lg_sl_L, lg_sl_N, List.length_cons, List.length_nil]; decide) (by unfold gEn; simp only [lg_sl_R, lg_sl_I, lg_sl_L, lg_sl_N]; exact wpt T (And.intro rfl (And.intro rfl True.intro)))
