/-! Walks of the reference's methods, written by wip/whole/gen_model.py -/
theorem d_GM_slot_0 : decode prog_15_method_24_code 0 = .ok (.iload_n 0, 1) := by decide +kernel
theorem d_GM_slot_1 : decode prog_15_method_24_code 1 = .ok (.bipush 41, 2) := by decide +kernel
theorem d_GM_slot_3 : decode prog_15_method_24_code 3 = .ok (.irem, 1) := by decide +kernel
theorem d_GM_slot_4 : decode prog_15_method_24_code 4 = .ok (.ireturn, 1) := by decide +kernel
set_option maxHeartbeats 4000000 in
theorem w_GM_slot_0 {l : Launch} {G : gG} {d : Nat} {X : gX} {M : gM} {k : Int → gM → Prop}  {x0 : Int} (hx0 : g32 x0) (T : k (w32 (x0.tmod 41)) M) : wp l G y_GM_slot (gRm d) false (kkI X k) false 0 [.val (gI x0)] [] X M 0 0 := by
  refine wp_iload_n d_GM_slot_0 rfl rfl ?_
  refine wp_bipush d_GM_slot_1 ⟨by decide, by decide⟩ ?_
  refine xirem d_GM_slot_3 (w32_id hx0) (w32_id (g32_c (x := 41) rfl)) (by decide) ?_
  exact wp_st (st' := [gI (w32 (x0.tmod 41))]) (by rw [gI_w]) (wp_ireturn d_GM_slot_4 rfl id (Nat.zero_le _) (Nat.zero_le _) (kI_mk (w32_ok _) T))
theorem e_GM_slot {l : Launch} {G : gG} {d : Nat} {X : gX} {M : gM} {k : Int → gM → Prop}  {x0 : Int} (T : wp l G y_GM_slot (gRm d) false (kkI X k) false 0 [.val (gI x0)] [] X M 0 0) : cI l G y_GM_slot (gRm d) false [gI x0] X M k := cen_I (plainFor_of_name rfl) (by simp only [lg_sl_R, lg_sl_I, lg_sl_L, lg_sl_N, List.length_cons, List.length_nil]; decide) (by unfold gEn; simp only [lg_sl_R, lg_sl_I, lg_sl_L, lg_sl_N]; exact wpt T (And.intro rfl True.intro))
theorem d_GM_clear_0 : decode prog_15_method_25_code 0 = .ok (.iconst 0, 1) := by decide +kernel
theorem d_GM_clear_1 : decode prog_15_method_25_code 1 = .ok (.istore_n 2, 1) := by decide +kernel
theorem d_GM_clear_2 : decode prog_15_method_25_code 2 = .ok (.iload_n 2, 1) := by decide +kernel
theorem d_GM_clear_3 : decode prog_15_method_25_code 3 = .ok (.sipush 5200, 3) := by decide +kernel
theorem d_GM_clear_6 : decode prog_15_method_25_code 6 = .ok (.if_icmp .ge 22, 3) := by decide +kernel
theorem d_GM_clear_28 : decode prog_15_method_25_code 28 = .ok (.aload_n 0, 1) := by decide +kernel
theorem d_GM_clear_29 : decode prog_15_method_25_code 29 = .ok (.getfield 88, 3) := by decide +kernel
theorem d_GM_clear_32 : decode prog_15_method_25_code 32 = .ok (.iload_n 1, 1) := by decide +kernel
theorem d_GM_clear_33 : decode prog_15_method_25_code 33 = .ok (.iconst 0, 1) := by decide +kernel
theorem d_GM_clear_34 : decode prog_15_method_25_code 34 = .ok (.iastore, 1) := by decide +kernel
theorem d_GM_clear_35 : decode prog_15_method_25_code 35 = .ok (.return_, 1) := by decide +kernel
theorem d_GM_clear_9 : decode prog_15_method_25_code 9 = .ok (.aload_n 0, 1) := by decide +kernel
theorem d_GM_clear_10 : decode prog_15_method_25_code 10 = .ok (.getfield 69, 3) := by decide +kernel
theorem d_GM_clear_13 : decode prog_15_method_25_code 13 = .ok (.iload_n 1, 1) := by decide +kernel
theorem d_GM_clear_14 : decode prog_15_method_25_code 14 = .ok (.sipush 5200, 3) := by decide +kernel
theorem d_GM_clear_17 : decode prog_15_method_25_code 17 = .ok (.imul, 1) := by decide +kernel
theorem d_GM_clear_18 : decode prog_15_method_25_code 18 = .ok (.iload_n 2, 1) := by decide +kernel
theorem d_GM_clear_19 : decode prog_15_method_25_code 19 = .ok (.iadd, 1) := by decide +kernel
theorem d_GM_clear_20 : decode prog_15_method_25_code 20 = .ok (.iconst 0, 1) := by decide +kernel
theorem d_GM_clear_21 : decode prog_15_method_25_code 21 = .ok (.iastore, 1) := by decide +kernel
theorem d_GM_clear_22 : decode prog_15_method_25_code 22 = .ok (.iinc 2 1, 3) := by decide +kernel
theorem d_GM_clear_25 : decode prog_15_method_25_code 25 = .ok (.goto (-23), 3) := by decide +kernel
set_option maxHeartbeats 4000000 in
theorem w_GM_clear_0 {l : Launch} {G : gG} {d : Nat} {X : gX} {M : gM} {k : gM → Prop} {o : Nat} (hX : gmX X o) {x1 : Int} (hx1 : g32 x1) (T : wp l G y_GM_clear (gRm d) true (kkV X k) true 2 [.val (gR G o), .val (gI x1), .val (gI 0)] [] X M 0 0) : wp l G y_GM_clear (gRm d) true (kkV X k) false 0 [.val (gR G o), .val (gI x1), .unset] [] X M 0 0 := by
  refine wp_iconst d_GM_clear_0 ?_
  refine wp_istore_n (L' := [.val (gR G o), .val (gI x1), .val (gI 0)]) d_GM_clear_1 rfl (by decide) rfl ?_
  exact wp_md (wpt T (And.intro rfl (And.intro rfl (And.intro rfl True.intro))))
set_option maxHeartbeats 4000000 in
theorem w_GM_clear_2 {l : Launch} {G : gG} {d : Nat} {X : gX} {M : gM} {k : gM → Prop} {o : Nat} (hX : gmX X o) {x1 : Int} (hx1 : g32 x1) {x2 : Int} (hx2 : g32 x2) (T : (5200 ≤ x2 → (((0 : Int) ≤ x1 ∧ x1 < 42) ∧ (k (gUp M (o + 25) (Int.toNat x1) 0)))) ∧ (¬ 5200 ≤ x2 → (((0 : Int) ≤ (x1 * 5200) + x2 ∧ (x1 * 5200) + x2 < 218400) ∧ (wp l G y_GM_clear (gRm d) true (kkV X k) true 2 [.val (gR G o), .val (gI x1), .val (gI (w32 (x2 + 1)))] [] X (gUp M (o + 19) (Int.toNat ((x1 * 5200) + x2)) 0) 0 0)))) : wp l G y_GM_clear (gRm d) true (kkV X k) true 2 [.val (gR G o), .val (gI x1), .val (gI x2)] [] X M 0 0 := by
  refine wp_iload_n d_GM_clear_2 rfl rfl ?_
  refine wp_sipush d_GM_clear_3 ⟨by decide, by decide⟩ ?_
  refine xi_ge (tgt := 28) d_GM_clear_6 (by decide) (w32_id hx2) (w32_id (g32_c (x := 5200) rfl)) (fun h1 => ?_) (fun h1 => ?_)
  · have T := T.1 h1
    refine wp_aload_n d_GM_clear_28 rfl rfl (g_nz hX.1) ?_
    refine xgetR d_GM_clear_29 gc_GM f_GM_88.1 f_GM_88.2.1 f_GM_88.2.2.1 hX.1 (gm_o2 hX) hX.2.2.1 f_GM_88.2.2.2.2.1 (gm_row hX 24 rfl).1 ?_
    refine wp_iload_n d_GM_clear_32 rfl rfl ?_
    refine wp_iconst d_GM_clear_33 ?_
    refine xiast d_GM_clear_34 (gm_row hX 24 rfl).2.2.1 (gm_row hX 24 rfl).2.2.2 (gm_row hX 24 rfl).2.1 (by decide) T.1 (w32_id (g32_c (x := 0) rfl)) ?_
    have T := T.2
    exact wp_return d_GM_clear_35 rfl (fun _ => rfl) (Nat.zero_le _) (Nat.zero_le _) (kV_mk T)
  · have T := T.2 h1
    refine wp_aload_n d_GM_clear_9 rfl rfl (g_nz hX.1) ?_
    refine xgetR d_GM_clear_10 gc_GM f_GM_69.1 f_GM_69.2.1 f_GM_69.2.2.1 hX.1 (gm_o2 hX) hX.2.2.1 f_GM_69.2.2.2.2.1 (gm_row hX 18 rfl).1 ?_
    refine wp_iload_n d_GM_clear_13 rfl rfl ?_
    refine wp_sipush d_GM_clear_14 ⟨by decide, by decide⟩ ?_
    refine wp_imul d_GM_clear_17 ?_
    refine wp_iload_n d_GM_clear_18 rfl rfl ?_
    refine wp_iadd d_GM_clear_19 ?_
    refine wp_iconst d_GM_clear_20 ?_
    refine xiast d_GM_clear_21 (gm_row hX 18 rfl).2.2.1 (gm_row hX 18 rfl).2.2.2 (gm_row hX 18 rfl).2.1 (by decide) T.1 (w32_id (g32_c (x := 0) rfl)) ?_
    have T := T.2
    refine wp_iinc (L' := [.val (gR G o), .val (gI x1), .val (gI (x2 + 1))]) d_GM_clear_22 rfl (by decide) rfl ?_
    refine wp_goto (tgt := 2) d_GM_clear_25 (by decide) ?_
    exact wp_md (wpt T (And.intro rfl (And.intro rfl (And.intro (gI_w _) True.intro))))
theorem e_GM_clear {l : Launch} {G : gG} {d : Nat} {X : gX} {M : gM} {k : gM → Prop} {o : Nat} {x1 : Int} (T : wp l G y_GM_clear (gRm d) true (kkV X k) false 0 [.val (gR G o), .val (gI x1), .unset] [] X M 0 0) : cV l G y_GM_clear (gRm d) true [gR G o, gI x1] X M k := cen_V (plainFor_of_name rfl) (by simp only [lg_sl_R, lg_sl_I, lg_sl_L, lg_sl_N, List.length_cons, List.length_nil]; decide) (by unfold gEn; simp only [lg_sl_R, lg_sl_I, lg_sl_L, lg_sl_N]; exact wpt T (And.intro rfl (And.intro rfl True.intro)))
theorem d_GM_copy_0 : decode prog_15_method_26_code 0 = .ok (.iload_n 1, 1) := by decide +kernel
theorem d_GM_copy_1 : decode prog_15_method_26_code 1 = .ok (.sipush 5200, 3) := by decide +kernel
theorem d_GM_copy_4 : decode prog_15_method_26_code 4 = .ok (.imul, 1) := by decide +kernel
theorem d_GM_copy_5 : decode prog_15_method_26_code 5 = .ok (.iload_n 2, 1) := by decide +kernel
theorem d_GM_copy_6 : decode prog_15_method_26_code 6 = .ok (.iadd, 1) := by decide +kernel
theorem d_GM_copy_7 : decode prog_15_method_26_code 7 = .ok (.istore 5, 2) := by decide +kernel
theorem d_GM_copy_9 : decode prog_15_method_26_code 9 = .ok (.iload_n 3, 1) := by decide +kernel
theorem d_GM_copy_10 : decode prog_15_method_26_code 10 = .ok (.sipush 5200, 3) := by decide +kernel
theorem d_GM_copy_13 : decode prog_15_method_26_code 13 = .ok (.imul, 1) := by decide +kernel
theorem d_GM_copy_14 : decode prog_15_method_26_code 14 = .ok (.iload 4, 2) := by decide +kernel
theorem d_GM_copy_16 : decode prog_15_method_26_code 16 = .ok (.iadd, 1) := by decide +kernel
theorem d_GM_copy_17 : decode prog_15_method_26_code 17 = .ok (.istore 6, 2) := by decide +kernel
theorem d_GM_copy_19 : decode prog_15_method_26_code 19 = .ok (.aload_n 0, 1) := by decide +kernel
theorem d_GM_copy_20 : decode prog_15_method_26_code 20 = .ok (.getfield 69, 3) := by decide +kernel
theorem d_GM_copy_23 : decode prog_15_method_26_code 23 = .ok (.iload 6, 2) := by decide +kernel
theorem d_GM_copy_25 : decode prog_15_method_26_code 25 = .ok (.aload_n 0, 1) := by decide +kernel
theorem d_GM_copy_26 : decode prog_15_method_26_code 26 = .ok (.getfield 69, 3) := by decide +kernel
theorem d_GM_copy_29 : decode prog_15_method_26_code 29 = .ok (.iload 5, 2) := by decide +kernel
theorem d_GM_copy_31 : decode prog_15_method_26_code 31 = .ok (.iaload, 1) := by decide +kernel
theorem d_GM_copy_32 : decode prog_15_method_26_code 32 = .ok (.iastore, 1) := by decide +kernel
theorem d_GM_copy_33 : decode prog_15_method_26_code 33 = .ok (.aload_n 0, 1) := by decide +kernel
theorem d_GM_copy_34 : decode prog_15_method_26_code 34 = .ok (.getfield 81, 3) := by decide +kernel
theorem d_GM_copy_37 : decode prog_15_method_26_code 37 = .ok (.iload 6, 2) := by decide +kernel
theorem d_GM_copy_39 : decode prog_15_method_26_code 39 = .ok (.aload_n 0, 1) := by decide +kernel
theorem d_GM_copy_40 : decode prog_15_method_26_code 40 = .ok (.getfield 81, 3) := by decide +kernel
theorem d_GM_copy_43 : decode prog_15_method_26_code 43 = .ok (.iload 5, 2) := by decide +kernel
theorem d_GM_copy_45 : decode prog_15_method_26_code 45 = .ok (.laload, 1) := by decide +kernel
theorem d_GM_copy_46 : decode prog_15_method_26_code 46 = .ok (.lastore, 1) := by decide +kernel
theorem d_GM_copy_47 : decode prog_15_method_26_code 47 = .ok (.aload_n 0, 1) := by decide +kernel
theorem d_GM_copy_48 : decode prog_15_method_26_code 48 = .ok (.getfield 72, 3) := by decide +kernel
theorem d_GM_copy_51 : decode prog_15_method_26_code 51 = .ok (.iload 6, 2) := by decide +kernel
theorem d_GM_copy_53 : decode prog_15_method_26_code 53 = .ok (.aload_n 0, 1) := by decide +kernel
theorem d_GM_copy_54 : decode prog_15_method_26_code 54 = .ok (.getfield 72, 3) := by decide +kernel
theorem d_GM_copy_57 : decode prog_15_method_26_code 57 = .ok (.iload 5, 2) := by decide +kernel
theorem d_GM_copy_59 : decode prog_15_method_26_code 59 = .ok (.iaload, 1) := by decide +kernel
theorem d_GM_copy_60 : decode prog_15_method_26_code 60 = .ok (.iastore, 1) := by decide +kernel
theorem d_GM_copy_61 : decode prog_15_method_26_code 61 = .ok (.aload_n 0, 1) := by decide +kernel
theorem d_GM_copy_62 : decode prog_15_method_26_code 62 = .ok (.getfield 75, 3) := by decide +kernel
theorem d_GM_copy_65 : decode prog_15_method_26_code 65 = .ok (.iload 6, 2) := by decide +kernel
theorem d_GM_copy_67 : decode prog_15_method_26_code 67 = .ok (.aload_n 0, 1) := by decide +kernel
theorem d_GM_copy_68 : decode prog_15_method_26_code 68 = .ok (.getfield 75, 3) := by decide +kernel
theorem d_GM_copy_71 : decode prog_15_method_26_code 71 = .ok (.iload 5, 2) := by decide +kernel
theorem d_GM_copy_73 : decode prog_15_method_26_code 73 = .ok (.iaload, 1) := by decide +kernel
theorem d_GM_copy_74 : decode prog_15_method_26_code 74 = .ok (.iastore, 1) := by decide +kernel
theorem d_GM_copy_75 : decode prog_15_method_26_code 75 = .ok (.aload_n 0, 1) := by decide +kernel
theorem d_GM_copy_76 : decode prog_15_method_26_code 76 = .ok (.getfield 69, 3) := by decide +kernel
theorem d_GM_copy_79 : decode prog_15_method_26_code 79 = .ok (.iload 5, 2) := by decide +kernel
theorem d_GM_copy_81 : decode prog_15_method_26_code 81 = .ok (.iaload, 1) := by decide +kernel
theorem d_GM_copy_82 : decode prog_15_method_26_code 82 = .ok (.iconst 3, 1) := by decide +kernel
theorem d_GM_copy_83 : decode prog_15_method_26_code 83 = .ok (.if_icmp .eq 4, 3) := by decide +kernel
theorem d_GM_copy_87 : decode prog_15_method_26_code 87 = .ok (.aload_n 0, 1) := by decide +kernel
theorem d_GM_copy_88 : decode prog_15_method_26_code 88 = .ok (.getfield 37, 3) := by decide +kernel
theorem d_GM_copy_91 : decode prog_15_method_26_code 91 = .ok (.aload_n 0, 1) := by decide +kernel
theorem d_GM_copy_92 : decode prog_15_method_26_code 92 = .ok (.getfield 72, 3) := by decide +kernel
theorem d_GM_copy_95 : decode prog_15_method_26_code 95 = .ok (.iload 5, 2) := by decide +kernel
theorem d_GM_copy_97 : decode prog_15_method_26_code 97 = .ok (.iaload, 1) := by decide +kernel
theorem d_GM_copy_98 : decode prog_15_method_26_code 98 = .ok (.iaload, 1) := by decide +kernel
theorem d_GM_copy_99 : decode prog_15_method_26_code 99 = .ok (.istore 7, 2) := by decide +kernel
theorem d_GM_copy_101 : decode prog_15_method_26_code 101 = .ok (.aload_n 0, 1) := by decide +kernel
theorem d_GM_copy_102 : decode prog_15_method_26_code 102 = .ok (.getfield 78, 3) := by decide +kernel
theorem d_GM_copy_105 : decode prog_15_method_26_code 105 = .ok (.iload 6, 2) := by decide +kernel
theorem d_GM_copy_107 : decode prog_15_method_26_code 107 = .ok (.aload_n 0, 1) := by decide +kernel
theorem d_GM_copy_108 : decode prog_15_method_26_code 108 = .ok (.getfield 88, 3) := by decide +kernel
theorem d_GM_copy_111 : decode prog_15_method_26_code 111 = .ok (.iload_n 3, 1) := by decide +kernel
theorem d_GM_copy_112 : decode prog_15_method_26_code 112 = .ok (.iaload, 1) := by decide +kernel
theorem d_GM_copy_113 : decode prog_15_method_26_code 113 = .ok (.iastore, 1) := by decide +kernel
theorem d_GM_copy_114 : decode prog_15_method_26_code 114 = .ok (.iconst 0, 1) := by decide +kernel
theorem d_GM_copy_115 : decode prog_15_method_26_code 115 = .ok (.istore 8, 2) := by decide +kernel
theorem d_GM_copy_86 : decode prog_15_method_26_code 86 = .ok (.return_, 1) := by decide +kernel
set_option maxHeartbeats 4000000 in
theorem w_GM_copy_0 {l : Launch} {G : gG} {d : Nat} {X : gX} {M : gM} {k : gM → Prop} {o : Nat} (hX : gmX X o) {x1 : Int} (hx1 : g32 x1) {x2 : Int} (hx2 : g32 x2) {x3 : Int} (hx3 : g32 x3) {x4 : Int} (hx4 : g32 x4) (T : ((0 : Int) ≤ (x1 * 5200) + x2 ∧ (x1 * 5200) + x2 < 218400) ∧ (g32 (M (o + 19) (Int.toNat ((x1 * 5200) + x2))) → (((0 : Int) ≤ (x3 * 5200) + x4 ∧ (x3 * 5200) + x4 < 218400) ∧ (((0 : Int) ≤ (x1 * 5200) + x2 ∧ (x1 * 5200) + x2 < 218400) ∧ (g64 ((gUp M (o + 19) (Int.toNat ((x3 * 5200) + x4)) (M (o + 19) (Int.toNat ((x1 * 5200) + x2)))) (o + 23) (Int.toNat ((x1 * 5200) + x2))) → (((0 : Int) ≤ (x3 * 5200) + x4 ∧ (x3 * 5200) + x4 < 218400) ∧ (((0 : Int) ≤ (x1 * 5200) + x2 ∧ (x1 * 5200) + x2 < 218400) ∧ (g32 ((gUp (gUp M (o + 19) (Int.toNat ((x3 * 5200) + x4)) (M (o + 19) (Int.toNat ((x1 * 5200) + x2)))) (o + 23) (Int.toNat ((x3 * 5200) + x4)) ((gUp M (o + 19) (Int.toNat ((x3 * 5200) + x4)) (M (o + 19) (Int.toNat ((x1 * 5200) + x2)))) (o + 23) (Int.toNat ((x1 * 5200) + x2)))) (o + 20) (Int.toNat ((x1 * 5200) + x2))) → (((0 : Int) ≤ (x3 * 5200) + x4 ∧ (x3 * 5200) + x4 < 218400) ∧ (((0 : Int) ≤ (x1 * 5200) + x2 ∧ (x1 * 5200) + x2 < 218400) ∧ (g32 ((gUp (gUp (gUp M (o + 19) (Int.toNat ((x3 * 5200) + x4)) (M (o + 19) (Int.toNat ((x1 * 5200) + x2)))) (o + 23) (Int.toNat ((x3 * 5200) + x4)) ((gUp M (o + 19) (Int.toNat ((x3 * 5200) + x4)) (M (o + 19) (Int.toNat ((x1 * 5200) + x2)))) (o + 23) (Int.toNat ((x1 * 5200) + x2)))) (o + 20) (Int.toNat ((x3 * 5200) + x4)) ((gUp (gUp M (o + 19) (Int.toNat ((x3 * 5200) + x4)) (M (o + 19) (Int.toNat ((x1 * 5200) + x2)))) (o + 23) (Int.toNat ((x3 * 5200) + x4)) ((gUp M (o + 19) (Int.toNat ((x3 * 5200) + x4)) (M (o + 19) (Int.toNat ((x1 * 5200) + x2)))) (o + 23) (Int.toNat ((x1 * 5200) + x2)))) (o + 20) (Int.toNat ((x1 * 5200) + x2)))) (o + 21) (Int.toNat ((x1 * 5200) + x2))) → (((0 : Int) ≤ (x3 * 5200) + x4 ∧ (x3 * 5200) + x4 < 218400) ∧ (((0 : Int) ≤ (x1 * 5200) + x2 ∧ (x1 * 5200) + x2 < 218400) ∧ (g32 ((gUp (gUp (gUp (gUp M (o + 19) (Int.toNat ((x3 * 5200) + x4)) (M (o + 19) (Int.toNat ((x1 * 5200) + x2)))) (o + 23) (Int.toNat ((x3 * 5200) + x4)) ((gUp M (o + 19) (Int.toNat ((x3 * 5200) + x4)) (M (o + 19) (Int.toNat ((x1 * 5200) + x2)))) (o + 23) (Int.toNat ((x1 * 5200) + x2)))) (o + 20) (Int.toNat ((x3 * 5200) + x4)) ((gUp (gUp M (o + 19) (Int.toNat ((x3 * 5200) + x4)) (M (o + 19) (Int.toNat ((x1 * 5200) + x2)))) (o + 23) (Int.toNat ((x3 * 5200) + x4)) ((gUp M (o + 19) (Int.toNat ((x3 * 5200) + x4)) (M (o + 19) (Int.toNat ((x1 * 5200) + x2)))) (o + 23) (Int.toNat ((x1 * 5200) + x2)))) (o + 20) (Int.toNat ((x1 * 5200) + x2)))) (o + 21) (Int.toNat ((x3 * 5200) + x4)) ((gUp (gUp (gUp M (o + 19) (Int.toNat ((x3 * 5200) + x4)) (M (o + 19) (Int.toNat ((x1 * 5200) + x2)))) (o + 23) (Int.toNat ((x3 * 5200) + x4)) ((gUp M (o + 19) (Int.toNat ((x3 * 5200) + x4)) (M (o + 19) (Int.toNat ((x1 * 5200) + x2)))) (o + 23) (Int.toNat ((x1 * 5200) + x2)))) (o + 20) (Int.toNat ((x3 * 5200) + x4)) ((gUp (gUp M (o + 19) (Int.toNat ((x3 * 5200) + x4)) (M (o + 19) (Int.toNat ((x1 * 5200) + x2)))) (o + 23) (Int.toNat ((x3 * 5200) + x4)) ((gUp M (o + 19) (Int.toNat ((x3 * 5200) + x4)) (M (o + 19) (Int.toNat ((x1 * 5200) + x2)))) (o + 23) (Int.toNat ((x1 * 5200) + x2)))) (o + 20) (Int.toNat ((x1 * 5200) + x2)))) (o + 21) (Int.toNat ((x1 * 5200) + x2)))) (o + 19) (Int.toNat ((x1 * 5200) + x2))) → (((gUp (gUp (gUp (gUp M (o + 19) (Int.toNat ((x3 * 5200) + x4)) (M (o + 19) (Int.toNat ((x1 * 5200) + x2)))) (o + 23) (Int.toNat ((x3 * 5200) + x4)) ((gUp M (o + 19) (Int.toNat ((x3 * 5200) + x4)) (M (o + 19) (Int.toNat ((x1 * 5200) + x2)))) (o + 23) (Int.toNat ((x1 * 5200) + x2)))) (o + 20) (Int.toNat ((x3 * 5200) + x4)) ((gUp (gUp M (o + 19) (Int.toNat ((x3 * 5200) + x4)) (M (o + 19) (Int.toNat ((x1 * 5200) + x2)))) (o + 23) (Int.toNat ((x3 * 5200) + x4)) ((gUp M (o + 19) (Int.toNat ((x3 * 5200) + x4)) (M (o + 19) (Int.toNat ((x1 * 5200) + x2)))) (o + 23) (Int.toNat ((x1 * 5200) + x2)))) (o + 20) (Int.toNat ((x1 * 5200) + x2)))) (o + 21) (Int.toNat ((x3 * 5200) + x4)) ((gUp (gUp (gUp M (o + 19) (Int.toNat ((x3 * 5200) + x4)) (M (o + 19) (Int.toNat ((x1 * 5200) + x2)))) (o + 23) (Int.toNat ((x3 * 5200) + x4)) ((gUp M (o + 19) (Int.toNat ((x3 * 5200) + x4)) (M (o + 19) (Int.toNat ((x1 * 5200) + x2)))) (o + 23) (Int.toNat ((x1 * 5200) + x2)))) (o + 20) (Int.toNat ((x3 * 5200) + x4)) ((gUp (gUp M (o + 19) (Int.toNat ((x3 * 5200) + x4)) (M (o + 19) (Int.toNat ((x1 * 5200) + x2)))) (o + 23) (Int.toNat ((x3 * 5200) + x4)) ((gUp M (o + 19) (Int.toNat ((x3 * 5200) + x4)) (M (o + 19) (Int.toNat ((x1 * 5200) + x2)))) (o + 23) (Int.toNat ((x1 * 5200) + x2)))) (o + 20) (Int.toNat ((x1 * 5200) + x2)))) (o + 21) (Int.toNat ((x1 * 5200) + x2)))) (o + 19) (Int.toNat ((x1 * 5200) + x2)) = 3 → (((0 : Int) ≤ (x1 * 5200) + x2 ∧ (x1 * 5200) + x2 < 218400) ∧ (g32 ((gUp (gUp (gUp (gUp M (o + 19) (Int.toNat ((x3 * 5200) + x4)) (M (o + 19) (Int.toNat ((x1 * 5200) + x2)))) (o + 23) (Int.toNat ((x3 * 5200) + x4)) ((gUp M (o + 19) (Int.toNat ((x3 * 5200) + x4)) (M (o + 19) (Int.toNat ((x1 * 5200) + x2)))) (o + 23) (Int.toNat ((x1 * 5200) + x2)))) (o + 20) (Int.toNat ((x3 * 5200) + x4)) ((gUp (gUp M (o + 19) (Int.toNat ((x3 * 5200) + x4)) (M (o + 19) (Int.toNat ((x1 * 5200) + x2)))) (o + 23) (Int.toNat ((x3 * 5200) + x4)) ((gUp M (o + 19) (Int.toNat ((x3 * 5200) + x4)) (M (o + 19) (Int.toNat ((x1 * 5200) + x2)))) (o + 23) (Int.toNat ((x1 * 5200) + x2)))) (o + 20) (Int.toNat ((x1 * 5200) + x2)))) (o + 21) (Int.toNat ((x3 * 5200) + x4)) ((gUp (gUp (gUp M (o + 19) (Int.toNat ((x3 * 5200) + x4)) (M (o + 19) (Int.toNat ((x1 * 5200) + x2)))) (o + 23) (Int.toNat ((x3 * 5200) + x4)) ((gUp M (o + 19) (Int.toNat ((x3 * 5200) + x4)) (M (o + 19) (Int.toNat ((x1 * 5200) + x2)))) (o + 23) (Int.toNat ((x1 * 5200) + x2)))) (o + 20) (Int.toNat ((x3 * 5200) + x4)) ((gUp (gUp M (o + 19) (Int.toNat ((x3 * 5200) + x4)) (M (o + 19) (Int.toNat ((x1 * 5200) + x2)))) (o + 23) (Int.toNat ((x3 * 5200) + x4)) ((gUp M (o + 19) (Int.toNat ((x3 * 5200) + x4)) (M (o + 19) (Int.toNat ((x1 * 5200) + x2)))) (o + 23) (Int.toNat ((x1 * 5200) + x2)))) (o + 20) (Int.toNat ((x1 * 5200) + x2)))) (o + 21) (Int.toNat ((x1 * 5200) + x2)))) (o + 20) (Int.toNat ((x1 * 5200) + x2))) → (((0 : Int) ≤ (gUp (gUp (gUp (gUp M (o + 19) (Int.toNat ((x3 * 5200) + x4)) (M (o + 19) (Int.toNat ((x1 * 5200) + x2)))) (o + 23) (Int.toNat ((x3 * 5200) + x4)) ((gUp M (o + 19) (Int.toNat ((x3 * 5200) + x4)) (M (o + 19) (Int.toNat ((x1 * 5200) + x2)))) (o + 23) (Int.toNat ((x1 * 5200) + x2)))) (o + 20) (Int.toNat ((x3 * 5200) + x4)) ((gUp (gUp M (o + 19) (Int.toNat ((x3 * 5200) + x4)) (M (o + 19) (Int.toNat ((x1 * 5200) + x2)))) (o + 23) (Int.toNat ((x3 * 5200) + x4)) ((gUp M (o + 19) (Int.toNat ((x3 * 5200) + x4)) (M (o + 19) (Int.toNat ((x1 * 5200) + x2)))) (o + 23) (Int.toNat ((x1 * 5200) + x2)))) (o + 20) (Int.toNat ((x1 * 5200) + x2)))) (o + 21) (Int.toNat ((x3 * 5200) + x4)) ((gUp (gUp (gUp M (o + 19) (Int.toNat ((x3 * 5200) + x4)) (M (o + 19) (Int.toNat ((x1 * 5200) + x2)))) (o + 23) (Int.toNat ((x3 * 5200) + x4)) ((gUp M (o + 19) (Int.toNat ((x3 * 5200) + x4)) (M (o + 19) (Int.toNat ((x1 * 5200) + x2)))) (o + 23) (Int.toNat ((x1 * 5200) + x2)))) (o + 20) (Int.toNat ((x3 * 5200) + x4)) ((gUp (gUp M (o + 19) (Int.toNat ((x3 * 5200) + x4)) (M (o + 19) (Int.toNat ((x1 * 5200) + x2)))) (o + 23) (Int.toNat ((x3 * 5200) + x4)) ((gUp M (o + 19) (Int.toNat ((x3 * 5200) + x4)) (M (o + 19) (Int.toNat ((x1 * 5200) + x2)))) (o + 23) (Int.toNat ((x1 * 5200) + x2)))) (o + 20) (Int.toNat ((x1 * 5200) + x2)))) (o + 21) (Int.toNat ((x1 * 5200) + x2)))) (o + 20) (Int.toNat ((x1 * 5200) + x2)) ∧ (gUp (gUp (gUp (gUp M (o + 19) (Int.toNat ((x3 * 5200) + x4)) (M (o + 19) (Int.toNat ((x1 * 5200) + x2)))) (o + 23) (Int.toNat ((x3 * 5200) + x4)) ((gUp M (o + 19) (Int.toNat ((x3 * 5200) + x4)) (M (o + 19) (Int.toNat ((x1 * 5200) + x2)))) (o + 23) (Int.toNat ((x1 * 5200) + x2)))) (o + 20) (Int.toNat ((x3 * 5200) + x4)) ((gUp (gUp M (o + 19) (Int.toNat ((x3 * 5200) + x4)) (M (o + 19) (Int.toNat ((x1 * 5200) + x2)))) (o + 23) (Int.toNat ((x3 * 5200) + x4)) ((gUp M (o + 19) (Int.toNat ((x3 * 5200) + x4)) (M (o + 19) (Int.toNat ((x1 * 5200) + x2)))) (o + 23) (Int.toNat ((x1 * 5200) + x2)))) (o + 20) (Int.toNat ((x1 * 5200) + x2)))) (o + 21) (Int.toNat ((x3 * 5200) + x4)) ((gUp (gUp (gUp M (o + 19) (Int.toNat ((x3 * 5200) + x4)) (M (o + 19) (Int.toNat ((x1 * 5200) + x2)))) (o + 23) (Int.toNat ((x3 * 5200) + x4)) ((gUp M (o + 19) (Int.toNat ((x3 * 5200) + x4)) (M (o + 19) (Int.toNat ((x1 * 5200) + x2)))) (o + 23) (Int.toNat ((x1 * 5200) + x2)))) (o + 20) (Int.toNat ((x3 * 5200) + x4)) ((gUp (gUp M (o + 19) (Int.toNat ((x3 * 5200) + x4)) (M (o + 19) (Int.toNat ((x1 * 5200) + x2)))) (o + 23) (Int.toNat ((x3 * 5200) + x4)) ((gUp M (o + 19) (Int.toNat ((x3 * 5200) + x4)) (M (o + 19) (Int.toNat ((x1 * 5200) + x2)))) (o + 23) (Int.toNat ((x1 * 5200) + x2)))) (o + 20) (Int.toNat ((x1 * 5200) + x2)))) (o + 21) (Int.toNat ((x1 * 5200) + x2)))) (o + 20) (Int.toNat ((x1 * 5200) + x2)) < 4200) ∧ (g32 ((gUp (gUp (gUp (gUp M (o + 19) (Int.toNat ((x3 * 5200) + x4)) (M (o + 19) (Int.toNat ((x1 * 5200) + x2)))) (o + 23) (Int.toNat ((x3 * 5200) + x4)) ((gUp M (o + 19) (Int.toNat ((x3 * 5200) + x4)) (M (o + 19) (Int.toNat ((x1 * 5200) + x2)))) (o + 23) (Int.toNat ((x1 * 5200) + x2)))) (o + 20) (Int.toNat ((x3 * 5200) + x4)) ((gUp (gUp M (o + 19) (Int.toNat ((x3 * 5200) + x4)) (M (o + 19) (Int.toNat ((x1 * 5200) + x2)))) (o + 23) (Int.toNat ((x3 * 5200) + x4)) ((gUp M (o + 19) (Int.toNat ((x3 * 5200) + x4)) (M (o + 19) (Int.toNat ((x1 * 5200) + x2)))) (o + 23) (Int.toNat ((x1 * 5200) + x2)))) (o + 20) (Int.toNat ((x1 * 5200) + x2)))) (o + 21) (Int.toNat ((x3 * 5200) + x4)) ((gUp (gUp (gUp M (o + 19) (Int.toNat ((x3 * 5200) + x4)) (M (o + 19) (Int.toNat ((x1 * 5200) + x2)))) (o + 23) (Int.toNat ((x3 * 5200) + x4)) ((gUp M (o + 19) (Int.toNat ((x3 * 5200) + x4)) (M (o + 19) (Int.toNat ((x1 * 5200) + x2)))) (o + 23) (Int.toNat ((x1 * 5200) + x2)))) (o + 20) (Int.toNat ((x3 * 5200) + x4)) ((gUp (gUp M (o + 19) (Int.toNat ((x3 * 5200) + x4)) (M (o + 19) (Int.toNat ((x1 * 5200) + x2)))) (o + 23) (Int.toNat ((x3 * 5200) + x4)) ((gUp M (o + 19) (Int.toNat ((x3 * 5200) + x4)) (M (o + 19) (Int.toNat ((x1 * 5200) + x2)))) (o + 23) (Int.toNat ((x1 * 5200) + x2)))) (o + 20) (Int.toNat ((x1 * 5200) + x2)))) (o + 21) (Int.toNat ((x1 * 5200) + x2)))) (o + 9) (Int.toNat ((gUp (gUp (gUp (gUp M (o + 19) (Int.toNat ((x3 * 5200) + x4)) (M (o + 19) (Int.toNat ((x1 * 5200) + x2)))) (o + 23) (Int.toNat ((x3 * 5200) + x4)) ((gUp M (o + 19) (Int.toNat ((x3 * 5200) + x4)) (M (o + 19) (Int.toNat ((x1 * 5200) + x2)))) (o + 23) (Int.toNat ((x1 * 5200) + x2)))) (o + 20) (Int.toNat ((x3 * 5200) + x4)) ((gUp (gUp M (o + 19) (Int.toNat ((x3 * 5200) + x4)) (M (o + 19) (Int.toNat ((x1 * 5200) + x2)))) (o + 23) (Int.toNat ((x3 * 5200) + x4)) ((gUp M (o + 19) (Int.toNat ((x3 * 5200) + x4)) (M (o + 19) (Int.toNat ((x1 * 5200) + x2)))) (o + 23) (Int.toNat ((x1 * 5200) + x2)))) (o + 20) (Int.toNat ((x1 * 5200) + x2)))) (o + 21) (Int.toNat ((x3 * 5200) + x4)) ((gUp (gUp (gUp M (o + 19) (Int.toNat ((x3 * 5200) + x4)) (M (o + 19) (Int.toNat ((x1 * 5200) + x2)))) (o + 23) (Int.toNat ((x3 * 5200) + x4)) ((gUp M (o + 19) (Int.toNat ((x3 * 5200) + x4)) (M (o + 19) (Int.toNat ((x1 * 5200) + x2)))) (o + 23) (Int.toNat ((x1 * 5200) + x2)))) (o + 20) (Int.toNat ((x3 * 5200) + x4)) ((gUp (gUp M (o + 19) (Int.toNat ((x3 * 5200) + x4)) (M (o + 19) (Int.toNat ((x1 * 5200) + x2)))) (o + 23) (Int.toNat ((x3 * 5200) + x4)) ((gUp M (o + 19) (Int.toNat ((x3 * 5200) + x4)) (M (o + 19) (Int.toNat ((x1 * 5200) + x2)))) (o + 23) (Int.toNat ((x1 * 5200) + x2)))) (o + 20) (Int.toNat ((x1 * 5200) + x2)))) (o + 21) (Int.toNat ((x1 * 5200) + x2)))) (o + 20) (Int.toNat ((x1 * 5200) + x2))))) → (((0 : Int) ≤ x3 ∧ x3 < 42) ∧ (g32 ((gUp (gUp (gUp (gUp M (o + 19) (Int.toNat ((x3 * 5200) + x4)) (M (o + 19) (Int.toNat ((x1 * 5200) + x2)))) (o + 23) (Int.toNat ((x3 * 5200) + x4)) ((gUp M (o + 19) (Int.toNat ((x3 * 5200) + x4)) (M (o + 19) (Int.toNat ((x1 * 5200) + x2)))) (o + 23) (Int.toNat ((x1 * 5200) + x2)))) (o + 20) (Int.toNat ((x3 * 5200) + x4)) ((gUp (gUp M (o + 19) (Int.toNat ((x3 * 5200) + x4)) (M (o + 19) (Int.toNat ((x1 * 5200) + x2)))) (o + 23) (Int.toNat ((x3 * 5200) + x4)) ((gUp M (o + 19) (Int.toNat ((x3 * 5200) + x4)) (M (o + 19) (Int.toNat ((x1 * 5200) + x2)))) (o + 23) (Int.toNat ((x1 * 5200) + x2)))) (o + 20) (Int.toNat ((x1 * 5200) + x2)))) (o + 21) (Int.toNat ((x3 * 5200) + x4)) ((gUp (gUp (gUp M (o + 19) (Int.toNat ((x3 * 5200) + x4)) (M (o + 19) (Int.toNat ((x1 * 5200) + x2)))) (o + 23) (Int.toNat ((x3 * 5200) + x4)) ((gUp M (o + 19) (Int.toNat ((x3 * 5200) + x4)) (M (o + 19) (Int.toNat ((x1 * 5200) + x2)))) (o + 23) (Int.toNat ((x1 * 5200) + x2)))) (o + 20) (Int.toNat ((x3 * 5200) + x4)) ((gUp (gUp M (o + 19) (Int.toNat ((x3 * 5200) + x4)) (M (o + 19) (Int.toNat ((x1 * 5200) + x2)))) (o + 23) (Int.toNat ((x3 * 5200) + x4)) ((gUp M (o + 19) (Int.toNat ((x3 * 5200) + x4)) (M (o + 19) (Int.toNat ((x1 * 5200) + x2)))) (o + 23) (Int.toNat ((x1 * 5200) + x2)))) (o + 20) (Int.toNat ((x1 * 5200) + x2)))) (o + 21) (Int.toNat ((x1 * 5200) + x2)))) (o + 25) (Int.toNat x3)) → (((0 : Int) ≤ (x3 * 5200) + x4 ∧ (x3 * 5200) + x4 < 218400) ∧ (wp l G y_GM_copy (gRm d) true (kkV X k) true 117 [.val (gR G o), .val (gI x1), .unset, .val (gI x3), .unset, .val (gI (w32 ((x1 * 5200) + x2))), .unset, .val (gI ((gUp (gUp (gUp (gUp M (o + 19) (Int.toNat ((x3 * 5200) + x4)) (M (o + 19) (Int.toNat ((x1 * 5200) + x2)))) (o + 23) (Int.toNat ((x3 * 5200) + x4)) ((gUp M (o + 19) (Int.toNat ((x3 * 5200) + x4)) (M (o + 19) (Int.toNat ((x1 * 5200) + x2)))) (o + 23) (Int.toNat ((x1 * 5200) + x2)))) (o + 20) (Int.toNat ((x3 * 5200) + x4)) ((gUp (gUp M (o + 19) (Int.toNat ((x3 * 5200) + x4)) (M (o + 19) (Int.toNat ((x1 * 5200) + x2)))) (o + 23) (Int.toNat ((x3 * 5200) + x4)) ((gUp M (o + 19) (Int.toNat ((x3 * 5200) + x4)) (M (o + 19) (Int.toNat ((x1 * 5200) + x2)))) (o + 23) (Int.toNat ((x1 * 5200) + x2)))) (o + 20) (Int.toNat ((x1 * 5200) + x2)))) (o + 21) (Int.toNat ((x3 * 5200) + x4)) ((gUp (gUp (gUp M (o + 19) (Int.toNat ((x3 * 5200) + x4)) (M (o + 19) (Int.toNat ((x1 * 5200) + x2)))) (o + 23) (Int.toNat ((x3 * 5200) + x4)) ((gUp M (o + 19) (Int.toNat ((x3 * 5200) + x4)) (M (o + 19) (Int.toNat ((x1 * 5200) + x2)))) (o + 23) (Int.toNat ((x1 * 5200) + x2)))) (o + 20) (Int.toNat ((x3 * 5200) + x4)) ((gUp (gUp M (o + 19) (Int.toNat ((x3 * 5200) + x4)) (M (o + 19) (Int.toNat ((x1 * 5200) + x2)))) (o + 23) (Int.toNat ((x3 * 5200) + x4)) ((gUp M (o + 19) (Int.toNat ((x3 * 5200) + x4)) (M (o + 19) (Int.toNat ((x1 * 5200) + x2)))) (o + 23) (Int.toNat ((x1 * 5200) + x2)))) (o + 20) (Int.toNat ((x1 * 5200) + x2)))) (o + 21) (Int.toNat ((x1 * 5200) + x2)))) (o + 9) (Int.toNat ((gUp (gUp (gUp (gUp M (o + 19) (Int.toNat ((x3 * 5200) + x4)) (M (o + 19) (Int.toNat ((x1 * 5200) + x2)))) (o + 23) (Int.toNat ((x3 * 5200) + x4)) ((gUp M (o + 19) (Int.toNat ((x3 * 5200) + x4)) (M (o + 19) (Int.toNat ((x1 * 5200) + x2)))) (o + 23) (Int.toNat ((x1 * 5200) + x2)))) (o + 20) (Int.toNat ((x3 * 5200) + x4)) ((gUp (gUp M (o + 19) (Int.toNat ((x3 * 5200) + x4)) (M (o + 19) (Int.toNat ((x1 * 5200) + x2)))) (o + 23) (Int.toNat ((x3 * 5200) + x4)) ((gUp M (o + 19) (Int.toNat ((x3 * 5200) + x4)) (M (o + 19) (Int.toNat ((x1 * 5200) + x2)))) (o + 23) (Int.toNat ((x1 * 5200) + x2)))) (o + 20) (Int.toNat ((x1 * 5200) + x2)))) (o + 21) (Int.toNat ((x3 * 5200) + x4)) ((gUp (gUp (gUp M (o + 19) (Int.toNat ((x3 * 5200) + x4)) (M (o + 19) (Int.toNat ((x1 * 5200) + x2)))) (o + 23) (Int.toNat ((x3 * 5200) + x4)) ((gUp M (o + 19) (Int.toNat ((x3 * 5200) + x4)) (M (o + 19) (Int.toNat ((x1 * 5200) + x2)))) (o + 23) (Int.toNat ((x1 * 5200) + x2)))) (o + 20) (Int.toNat ((x3 * 5200) + x4)) ((gUp (gUp M (o + 19) (Int.toNat ((x3 * 5200) + x4)) (M (o + 19) (Int.toNat ((x1 * 5200) + x2)))) (o + 23) (Int.toNat ((x3 * 5200) + x4)) ((gUp M (o + 19) (Int.toNat ((x3 * 5200) + x4)) (M (o + 19) (Int.toNat ((x1 * 5200) + x2)))) (o + 23) (Int.toNat ((x1 * 5200) + x2)))) (o + 20) (Int.toNat ((x1 * 5200) + x2)))) (o + 21) (Int.toNat ((x1 * 5200) + x2)))) (o + 20) (Int.toNat ((x1 * 5200) + x2)))))), .val (gI 0)] [] X (gUp (gUp (gUp (gUp (gUp M (o + 19) (Int.toNat ((x3 * 5200) + x4)) (M (o + 19) (Int.toNat ((x1 * 5200) + x2)))) (o + 23) (Int.toNat ((x3 * 5200) + x4)) ((gUp M (o + 19) (Int.toNat ((x3 * 5200) + x4)) (M (o + 19) (Int.toNat ((x1 * 5200) + x2)))) (o + 23) (Int.toNat ((x1 * 5200) + x2)))) (o + 20) (Int.toNat ((x3 * 5200) + x4)) ((gUp (gUp M (o + 19) (Int.toNat ((x3 * 5200) + x4)) (M (o + 19) (Int.toNat ((x1 * 5200) + x2)))) (o + 23) (Int.toNat ((x3 * 5200) + x4)) ((gUp M (o + 19) (Int.toNat ((x3 * 5200) + x4)) (M (o + 19) (Int.toNat ((x1 * 5200) + x2)))) (o + 23) (Int.toNat ((x1 * 5200) + x2)))) (o + 20) (Int.toNat ((x1 * 5200) + x2)))) (o + 21) (Int.toNat ((x3 * 5200) + x4)) ((gUp (gUp (gUp M (o + 19) (Int.toNat ((x3 * 5200) + x4)) (M (o + 19) (Int.toNat ((x1 * 5200) + x2)))) (o + 23) (Int.toNat ((x3 * 5200) + x4)) ((gUp M (o + 19) (Int.toNat ((x3 * 5200) + x4)) (M (o + 19) (Int.toNat ((x1 * 5200) + x2)))) (o + 23) (Int.toNat ((x1 * 5200) + x2)))) (o + 20) (Int.toNat ((x3 * 5200) + x4)) ((gUp (gUp M (o + 19) (Int.toNat ((x3 * 5200) + x4)) (M (o + 19) (Int.toNat ((x1 * 5200) + x2)))) (o + 23) (Int.toNat ((x3 * 5200) + x4)) ((gUp M (o + 19) (Int.toNat ((x3 * 5200) + x4)) (M (o + 19) (Int.toNat ((x1 * 5200) + x2)))) (o + 23) (Int.toNat ((x1 * 5200) + x2)))) (o + 20) (Int.toNat ((x1 * 5200) + x2)))) (o + 21) (Int.toNat ((x1 * 5200) + x2)))) (o + 22) (Int.toNat ((x3 * 5200) + x4)) ((gUp (gUp (gUp (gUp M (o + 19) (Int.toNat ((x3 * 5200) + x4)) (M (o + 19) (Int.toNat ((x1 * 5200) + x2)))) (o + 23) (Int.toNat ((x3 * 5200) + x4)) ((gUp M (o + 19) (Int.toNat ((x3 * 5200) + x4)) (M (o + 19) (Int.toNat ((x1 * 5200) + x2)))) (o + 23) (Int.toNat ((x1 * 5200) + x2)))) (o + 20) (Int.toNat ((x3 * 5200) + x4)) ((gUp (gUp M (o + 19) (Int.toNat ((x3 * 5200) + x4)) (M (o + 19) (Int.toNat ((x1 * 5200) + x2)))) (o + 23) (Int.toNat ((x3 * 5200) + x4)) ((gUp M (o + 19) (Int.toNat ((x3 * 5200) + x4)) (M (o + 19) (Int.toNat ((x1 * 5200) + x2)))) (o + 23) (Int.toNat ((x1 * 5200) + x2)))) (o + 20) (Int.toNat ((x1 * 5200) + x2)))) (o + 21) (Int.toNat ((x3 * 5200) + x4)) ((gUp (gUp (gUp M (o + 19) (Int.toNat ((x3 * 5200) + x4)) (M (o + 19) (Int.toNat ((x1 * 5200) + x2)))) (o + 23) (Int.toNat ((x3 * 5200) + x4)) ((gUp M (o + 19) (Int.toNat ((x3 * 5200) + x4)) (M (o + 19) (Int.toNat ((x1 * 5200) + x2)))) (o + 23) (Int.toNat ((x1 * 5200) + x2)))) (o + 20) (Int.toNat ((x3 * 5200) + x4)) ((gUp (gUp M (o + 19) (Int.toNat ((x3 * 5200) + x4)) (M (o + 19) (Int.toNat ((x1 * 5200) + x2)))) (o + 23) (Int.toNat ((x3 * 5200) + x4)) ((gUp M (o + 19) (Int.toNat ((x3 * 5200) + x4)) (M (o + 19) (Int.toNat ((x1 * 5200) + x2)))) (o + 23) (Int.toNat ((x1 * 5200) + x2)))) (o + 20) (Int.toNat ((x1 * 5200) + x2)))) (o + 21) (Int.toNat ((x1 * 5200) + x2)))) (o + 25) (Int.toNat x3))) 0 0))))))))) ∧ (¬ (gUp (gUp (gUp (gUp M (o + 19) (Int.toNat ((x3 * 5200) + x4)) (M (o + 19) (Int.toNat ((x1 * 5200) + x2)))) (o + 23) (Int.toNat ((x3 * 5200) + x4)) ((gUp M (o + 19) (Int.toNat ((x3 * 5200) + x4)) (M (o + 19) (Int.toNat ((x1 * 5200) + x2)))) (o + 23) (Int.toNat ((x1 * 5200) + x2)))) (o + 20) (Int.toNat ((x3 * 5200) + x4)) ((gUp (gUp M (o + 19) (Int.toNat ((x3 * 5200) + x4)) (M (o + 19) (Int.toNat ((x1 * 5200) + x2)))) (o + 23) (Int.toNat ((x3 * 5200) + x4)) ((gUp M (o + 19) (Int.toNat ((x3 * 5200) + x4)) (M (o + 19) (Int.toNat ((x1 * 5200) + x2)))) (o + 23) (Int.toNat ((x1 * 5200) + x2)))) (o + 20) (Int.toNat ((x1 * 5200) + x2)))) (o + 21) (Int.toNat ((x3 * 5200) + x4)) ((gUp (gUp (gUp M (o + 19) (Int.toNat ((x3 * 5200) + x4)) (M (o + 19) (Int.toNat ((x1 * 5200) + x2)))) (o + 23) (Int.toNat ((x3 * 5200) + x4)) ((gUp M (o + 19) (Int.toNat ((x3 * 5200) + x4)) (M (o + 19) (Int.toNat ((x1 * 5200) + x2)))) (o + 23) (Int.toNat ((x1 * 5200) + x2)))) (o + 20) (Int.toNat ((x3 * 5200) + x4)) ((gUp (gUp M (o + 19) (Int.toNat ((x3 * 5200) + x4)) (M (o + 19) (Int.toNat ((x1 * 5200) + x2)))) (o + 23) (Int.toNat ((x3 * 5200) + x4)) ((gUp M (o + 19) (Int.toNat ((x3 * 5200) + x4)) (M (o + 19) (Int.toNat ((x1 * 5200) + x2)))) (o + 23) (Int.toNat ((x1 * 5200) + x2)))) (o + 20) (Int.toNat ((x1 * 5200) + x2)))) (o + 21) (Int.toNat ((x1 * 5200) + x2)))) (o + 19) (Int.toNat ((x1 * 5200) + x2)) = 3 → (k (gUp (gUp (gUp (gUp M (o + 19) (Int.toNat ((x3 * 5200) + x4)) (M (o + 19) (Int.toNat ((x1 * 5200) + x2)))) (o + 23) (Int.toNat ((x3 * 5200) + x4)) ((gUp M (o + 19) (Int.toNat ((x3 * 5200) + x4)) (M (o + 19) (Int.toNat ((x1 * 5200) + x2)))) (o + 23) (Int.toNat ((x1 * 5200) + x2)))) (o + 20) (Int.toNat ((x3 * 5200) + x4)) ((gUp (gUp M (o + 19) (Int.toNat ((x3 * 5200) + x4)) (M (o + 19) (Int.toNat ((x1 * 5200) + x2)))) (o + 23) (Int.toNat ((x3 * 5200) + x4)) ((gUp M (o + 19) (Int.toNat ((x3 * 5200) + x4)) (M (o + 19) (Int.toNat ((x1 * 5200) + x2)))) (o + 23) (Int.toNat ((x1 * 5200) + x2)))) (o + 20) (Int.toNat ((x1 * 5200) + x2)))) (o + 21) (Int.toNat ((x3 * 5200) + x4)) ((gUp (gUp (gUp M (o + 19) (Int.toNat ((x3 * 5200) + x4)) (M (o + 19) (Int.toNat ((x1 * 5200) + x2)))) (o + 23) (Int.toNat ((x3 * 5200) + x4)) ((gUp M (o + 19) (Int.toNat ((x3 * 5200) + x4)) (M (o + 19) (Int.toNat ((x1 * 5200) + x2)))) (o + 23) (Int.toNat ((x1 * 5200) + x2)))) (o + 20) (Int.toNat ((x3 * 5200) + x4)) ((gUp (gUp M (o + 19) (Int.toNat ((x3 * 5200) + x4)) (M (o + 19) (Int.toNat ((x1 * 5200) + x2)))) (o + 23) (Int.toNat ((x3 * 5200) + x4)) ((gUp M (o + 19) (Int.toNat ((x3 * 5200) + x4)) (M (o + 19) (Int.toNat ((x1 * 5200) + x2)))) (o + 23) (Int.toNat ((x1 * 5200) + x2)))) (o + 20) (Int.toNat ((x1 * 5200) + x2)))) (o + 21) (Int.toNat ((x1 * 5200) + x2))))))))))))))))))))) : wp l G y_GM_copy (gRm d) true (kkV X k) false 0 [.val (gR G o), .val (gI x1), .val (gI x2), .val (gI x3), .val (gI x4), .unset, .unset, .unset, .unset] [] X M 0 0 := by
  refine wp_iload_n d_GM_copy_0 rfl rfl ?_
  refine wp_sipush d_GM_copy_1 ⟨by decide, by decide⟩ ?_
  refine wp_imul d_GM_copy_4 ?_
  refine wp_iload_n d_GM_copy_5 rfl rfl ?_
  refine wp_iadd d_GM_copy_6 ?_
  refine wp_istore (L' := [.val (gR G o), .val (gI x1), .val (gI x2), .val (gI x3), .val (gI x4), .val (gI ((x1 * 5200) + x2)), .unset, .unset, .unset]) d_GM_copy_7 (by decide) rfl ?_
  refine wp_iload_n d_GM_copy_9 rfl rfl ?_
  refine wp_sipush d_GM_copy_10 ⟨by decide, by decide⟩ ?_
  refine wp_imul d_GM_copy_13 ?_
  refine wp_iload d_GM_copy_14 rfl ?_
  refine wp_iadd d_GM_copy_16 ?_
  refine wp_istore (L' := [.val (gR G o), .val (gI x1), .val (gI x2), .val (gI x3), .val (gI x4), .val (gI ((x1 * 5200) + x2)), .val (gI ((x3 * 5200) + x4)), .unset, .unset]) d_GM_copy_17 (by decide) rfl ?_
  refine wp_aload_n d_GM_copy_19 rfl rfl (g_nz hX.1) ?_
  refine xgetR d_GM_copy_20 gc_GM f_GM_69.1 f_GM_69.2.1 f_GM_69.2.2.1 hX.1 (gm_o2 hX) hX.2.2.1 f_GM_69.2.2.2.2.1 (gm_row hX 18 rfl).1 ?_
  refine wp_iload d_GM_copy_23 rfl ?_
  refine wp_aload_n d_GM_copy_25 rfl rfl (g_nz hX.1) ?_
  refine xgetR d_GM_copy_26 gc_GM f_GM_69.1 f_GM_69.2.1 f_GM_69.2.2.1 hX.1 (gm_o2 hX) hX.2.2.1 f_GM_69.2.2.2.2.1 (gm_row hX 18 rfl).1 ?_
  refine wp_iload d_GM_copy_29 rfl ?_
  refine wp_iaload d_GM_copy_31 (gm_row hX 18 rfl).2.2.1 (gm_row hX 18 rfl).2.2.2 (gm_row hX 18 rfl).2.1 (g32_n T.1 (by decide)) T.1.1 T.1.2 (fun h1 => ?_)
  have T := T.2 h1
  refine xiast d_GM_copy_32 (gm_row hX 18 rfl).2.2.1 (gm_row hX 18 rfl).2.2.2 (gm_row hX 18 rfl).2.1 (by decide) T.1 (w32_id h1) ?_
  have T := T.2
  refine wp_aload_n d_GM_copy_33 rfl rfl (g_nz hX.1) ?_
  refine xgetR d_GM_copy_34 gc_GM f_GM_81.1 f_GM_81.2.1 f_GM_81.2.2.1 hX.1 (gm_o2 hX) hX.2.2.1 f_GM_81.2.2.2.2.1 (gm_row hX 22 rfl).1 ?_
  refine wp_iload d_GM_copy_37 rfl ?_
  refine wp_aload_n d_GM_copy_39 rfl rfl (g_nz hX.1) ?_
  refine xgetR d_GM_copy_40 gc_GM f_GM_81.1 f_GM_81.2.1 f_GM_81.2.2.1 hX.1 (gm_o2 hX) hX.2.2.1 f_GM_81.2.2.2.2.1 (gm_row hX 22 rfl).1 ?_
  refine wp_iload d_GM_copy_43 rfl ?_
  refine wp_laload d_GM_copy_45 (gm_row hX 22 rfl).2.2.1 (gm_row hX 22 rfl).2.2.2 (gm_row hX 22 rfl).2.1 (g32_n T.1 (by decide)) T.1.1 T.1.2 (fun h2 => ?_)
  have T := T.2 h2
  refine xlast d_GM_copy_46 (gm_row hX 22 rfl).2.2.1 (gm_row hX 22 rfl).2.2.2 (gm_row hX 22 rfl).2.1 (by decide) T.1 (w64_id h2) ?_
  have T := T.2
  refine wp_aload_n d_GM_copy_47 rfl rfl (g_nz hX.1) ?_
  refine xgetR d_GM_copy_48 gc_GM f_GM_72.1 f_GM_72.2.1 f_GM_72.2.2.1 hX.1 (gm_o2 hX) hX.2.2.1 f_GM_72.2.2.2.2.1 (gm_row hX 19 rfl).1 ?_
  refine wp_iload d_GM_copy_51 rfl ?_
  refine wp_aload_n d_GM_copy_53 rfl rfl (g_nz hX.1) ?_
  refine xgetR d_GM_copy_54 gc_GM f_GM_72.1 f_GM_72.2.1 f_GM_72.2.2.1 hX.1 (gm_o2 hX) hX.2.2.1 f_GM_72.2.2.2.2.1 (gm_row hX 19 rfl).1 ?_
  refine wp_iload d_GM_copy_57 rfl ?_
  refine wp_iaload d_GM_copy_59 (gm_row hX 19 rfl).2.2.1 (gm_row hX 19 rfl).2.2.2 (gm_row hX 19 rfl).2.1 (g32_n T.1 (by decide)) T.1.1 T.1.2 (fun h3 => ?_)
  have T := T.2 h3
  refine xiast d_GM_copy_60 (gm_row hX 19 rfl).2.2.1 (gm_row hX 19 rfl).2.2.2 (gm_row hX 19 rfl).2.1 (by decide) T.1 (w32_id h3) ?_
  have T := T.2
  refine wp_aload_n d_GM_copy_61 rfl rfl (g_nz hX.1) ?_
  refine xgetR d_GM_copy_62 gc_GM f_GM_75.1 f_GM_75.2.1 f_GM_75.2.2.1 hX.1 (gm_o2 hX) hX.2.2.1 f_GM_75.2.2.2.2.1 (gm_row hX 20 rfl).1 ?_
  refine wp_iload d_GM_copy_65 rfl ?_
  refine wp_aload_n d_GM_copy_67 rfl rfl (g_nz hX.1) ?_
  refine xgetR d_GM_copy_68 gc_GM f_GM_75.1 f_GM_75.2.1 f_GM_75.2.2.1 hX.1 (gm_o2 hX) hX.2.2.1 f_GM_75.2.2.2.2.1 (gm_row hX 20 rfl).1 ?_
  refine wp_iload d_GM_copy_71 rfl ?_
  refine wp_iaload d_GM_copy_73 (gm_row hX 20 rfl).2.2.1 (gm_row hX 20 rfl).2.2.2 (gm_row hX 20 rfl).2.1 (g32_n T.1 (by decide)) T.1.1 T.1.2 (fun h4 => ?_)
  have T := T.2 h4
  refine xiast d_GM_copy_74 (gm_row hX 20 rfl).2.2.1 (gm_row hX 20 rfl).2.2.2 (gm_row hX 20 rfl).2.1 (by decide) T.1 (w32_id h4) ?_
  have T := T.2
  refine wp_aload_n d_GM_copy_75 rfl rfl (g_nz hX.1) ?_
  refine xgetR d_GM_copy_76 gc_GM f_GM_69.1 f_GM_69.2.1 f_GM_69.2.2.1 hX.1 (gm_o2 hX) hX.2.2.1 f_GM_69.2.2.2.2.1 (gm_row hX 18 rfl).1 ?_
  refine wp_iload d_GM_copy_79 rfl ?_
  refine wp_iaload d_GM_copy_81 (gm_row hX 18 rfl).2.2.1 (gm_row hX 18 rfl).2.2.2 (gm_row hX 18 rfl).2.1 (g32_n T.1 (by decide)) T.1.1 T.1.2 (fun h5 => ?_)
  have T := T.2 h5
  refine wp_iconst d_GM_copy_82 ?_
  refine xi_eq (tgt := 87) d_GM_copy_83 (by decide) (w32_id h5) (w32_id (g32_c (x := 3) rfl)) (fun h9 => ?_) (fun h9 => ?_)
  · have T := T.1 h9
    refine wp_aload_n d_GM_copy_87 rfl rfl (g_nz hX.1) ?_
    refine xgetR d_GM_copy_88 gc_GM f_GM_37.1 f_GM_37.2.1 f_GM_37.2.2.1 hX.1 (gm_o2 hX) hX.2.2.1 f_GM_37.2.2.2.2.1 (gm_row hX 8 rfl).1 ?_
    refine wp_aload_n d_GM_copy_91 rfl rfl (g_nz hX.1) ?_
    refine xgetR d_GM_copy_92 gc_GM f_GM_72.1 f_GM_72.2.1 f_GM_72.2.2.1 hX.1 (gm_o2 hX) hX.2.2.1 f_GM_72.2.2.2.2.1 (gm_row hX 19 rfl).1 ?_
    refine wp_iload d_GM_copy_95 rfl ?_
    refine wp_iaload d_GM_copy_97 (gm_row hX 19 rfl).2.2.1 (gm_row hX 19 rfl).2.2.2 (gm_row hX 19 rfl).2.1 (g32_n T.1 (by decide)) T.1.1 T.1.2 (fun h6 => ?_)
    have T := T.2 h6
    refine wp_iaload d_GM_copy_98 (gm_row hX 8 rfl).2.2.1 (gm_row hX 8 rfl).2.2.2 (gm_row hX 8 rfl).2.1 (g32_n T.1 (by decide)) T.1.1 T.1.2 (fun h7 => ?_)
    have T := T.2 h7
    refine wp_istore (L' := [.val (gR G o), .val (gI x1), .val (gI x2), .val (gI x3), .val (gI x4), .val (gI ((x1 * 5200) + x2)), .val (gI ((x3 * 5200) + x4)), .val (gI ((gUp (gUp (gUp (gUp M (o + 19) (Int.toNat ((x3 * 5200) + x4)) (M (o + 19) (Int.toNat ((x1 * 5200) + x2)))) (o + 23) (Int.toNat ((x3 * 5200) + x4)) ((gUp M (o + 19) (Int.toNat ((x3 * 5200) + x4)) (M (o + 19) (Int.toNat ((x1 * 5200) + x2)))) (o + 23) (Int.toNat ((x1 * 5200) + x2)))) (o + 20) (Int.toNat ((x3 * 5200) + x4)) ((gUp (gUp M (o + 19) (Int.toNat ((x3 * 5200) + x4)) (M (o + 19) (Int.toNat ((x1 * 5200) + x2)))) (o + 23) (Int.toNat ((x3 * 5200) + x4)) ((gUp M (o + 19) (Int.toNat ((x3 * 5200) + x4)) (M (o + 19) (Int.toNat ((x1 * 5200) + x2)))) (o + 23) (Int.toNat ((x1 * 5200) + x2)))) (o + 20) (Int.toNat ((x1 * 5200) + x2)))) (o + 21) (Int.toNat ((x3 * 5200) + x4)) ((gUp (gUp (gUp M (o + 19) (Int.toNat ((x3 * 5200) + x4)) (M (o + 19) (Int.toNat ((x1 * 5200) + x2)))) (o + 23) (Int.toNat ((x3 * 5200) + x4)) ((gUp M (o + 19) (Int.toNat ((x3 * 5200) + x4)) (M (o + 19) (Int.toNat ((x1 * 5200) + x2)))) (o + 23) (Int.toNat ((x1 * 5200) + x2)))) (o + 20) (Int.toNat ((x3 * 5200) + x4)) ((gUp (gUp M (o + 19) (Int.toNat ((x3 * 5200) + x4)) (M (o + 19) (Int.toNat ((x1 * 5200) + x2)))) (o + 23) (Int.toNat ((x3 * 5200) + x4)) ((gUp M (o + 19) (Int.toNat ((x3 * 5200) + x4)) (M (o + 19) (Int.toNat ((x1 * 5200) + x2)))) (o + 23) (Int.toNat ((x1 * 5200) + x2)))) (o + 20) (Int.toNat ((x1 * 5200) + x2)))) (o + 21) (Int.toNat ((x1 * 5200) + x2)))) (o + 9) (Int.toNat ((gUp (gUp (gUp (gUp M (o + 19) (Int.toNat ((x3 * 5200) + x4)) (M (o + 19) (Int.toNat ((x1 * 5200) + x2)))) (o + 23) (Int.toNat ((x3 * 5200) + x4)) ((gUp M (o + 19) (Int.toNat ((x3 * 5200) + x4)) (M (o + 19) (Int.toNat ((x1 * 5200) + x2)))) (o + 23) (Int.toNat ((x1 * 5200) + x2)))) (o + 20) (Int.toNat ((x3 * 5200) + x4)) ((gUp (gUp M (o + 19) (Int.toNat ((x3 * 5200) + x4)) (M (o + 19) (Int.toNat ((x1 * 5200) + x2)))) (o + 23) (Int.toNat ((x3 * 5200) + x4)) ((gUp M (o + 19) (Int.toNat ((x3 * 5200) + x4)) (M (o + 19) (Int.toNat ((x1 * 5200) + x2)))) (o + 23) (Int.toNat ((x1 * 5200) + x2)))) (o + 20) (Int.toNat ((x1 * 5200) + x2)))) (o + 21) (Int.toNat ((x3 * 5200) + x4)) ((gUp (gUp (gUp M (o + 19) (Int.toNat ((x3 * 5200) + x4)) (M (o + 19) (Int.toNat ((x1 * 5200) + x2)))) (o + 23) (Int.toNat ((x3 * 5200) + x4)) ((gUp M (o + 19) (Int.toNat ((x3 * 5200) + x4)) (M (o + 19) (Int.toNat ((x1 * 5200) + x2)))) (o + 23) (Int.toNat ((x1 * 5200) + x2)))) (o + 20) (Int.toNat ((x3 * 5200) + x4)) ((gUp (gUp M (o + 19) (Int.toNat ((x3 * 5200) + x4)) (M (o + 19) (Int.toNat ((x1 * 5200) + x2)))) (o + 23) (Int.toNat ((x3 * 5200) + x4)) ((gUp M (o + 19) (Int.toNat ((x3 * 5200) + x4)) (M (o + 19) (Int.toNat ((x1 * 5200) + x2)))) (o + 23) (Int.toNat ((x1 * 5200) + x2)))) (o + 20) (Int.toNat ((x1 * 5200) + x2)))) (o + 21) (Int.toNat ((x1 * 5200) + x2)))) (o + 20) (Int.toNat ((x1 * 5200) + x2)))))), .unset]) d_GM_copy_99 (by decide) rfl ?_
    refine wp_aload_n d_GM_copy_101 rfl rfl (g_nz hX.1) ?_
    refine xgetR d_GM_copy_102 gc_GM f_GM_78.1 f_GM_78.2.1 f_GM_78.2.2.1 hX.1 (gm_o2 hX) hX.2.2.1 f_GM_78.2.2.2.2.1 (gm_row hX 21 rfl).1 ?_
    refine wp_iload d_GM_copy_105 rfl ?_
    refine wp_aload_n d_GM_copy_107 rfl rfl (g_nz hX.1) ?_
    refine xgetR d_GM_copy_108 gc_GM f_GM_88.1 f_GM_88.2.1 f_GM_88.2.2.1 hX.1 (gm_o2 hX) hX.2.2.1 f_GM_88.2.2.2.2.1 (gm_row hX 24 rfl).1 ?_
    refine wp_iload_n d_GM_copy_111 rfl rfl ?_
    refine wp_iaload d_GM_copy_112 (gm_row hX 24 rfl).2.2.1 (gm_row hX 24 rfl).2.2.2 (gm_row hX 24 rfl).2.1 (g32_n T.1 (by decide)) T.1.1 T.1.2 (fun h8 => ?_)
    have T := T.2 h8
    refine xiast d_GM_copy_113 (gm_row hX 21 rfl).2.2.1 (gm_row hX 21 rfl).2.2.2 (gm_row hX 21 rfl).2.1 (by decide) T.1 (w32_id h8) ?_
    have T := T.2
    refine wp_iconst d_GM_copy_114 ?_
    refine wp_istore (L' := [.val (gR G o), .val (gI x1), .val (gI x2), .val (gI x3), .val (gI x4), .val (gI ((x1 * 5200) + x2)), .val (gI ((x3 * 5200) + x4)), .val (gI ((gUp (gUp (gUp (gUp M (o + 19) (Int.toNat ((x3 * 5200) + x4)) (M (o + 19) (Int.toNat ((x1 * 5200) + x2)))) (o + 23) (Int.toNat ((x3 * 5200) + x4)) ((gUp M (o + 19) (Int.toNat ((x3 * 5200) + x4)) (M (o + 19) (Int.toNat ((x1 * 5200) + x2)))) (o + 23) (Int.toNat ((x1 * 5200) + x2)))) (o + 20) (Int.toNat ((x3 * 5200) + x4)) ((gUp (gUp M (o + 19) (Int.toNat ((x3 * 5200) + x4)) (M (o + 19) (Int.toNat ((x1 * 5200) + x2)))) (o + 23) (Int.toNat ((x3 * 5200) + x4)) ((gUp M (o + 19) (Int.toNat ((x3 * 5200) + x4)) (M (o + 19) (Int.toNat ((x1 * 5200) + x2)))) (o + 23) (Int.toNat ((x1 * 5200) + x2)))) (o + 20) (Int.toNat ((x1 * 5200) + x2)))) (o + 21) (Int.toNat ((x3 * 5200) + x4)) ((gUp (gUp (gUp M (o + 19) (Int.toNat ((x3 * 5200) + x4)) (M (o + 19) (Int.toNat ((x1 * 5200) + x2)))) (o + 23) (Int.toNat ((x3 * 5200) + x4)) ((gUp M (o + 19) (Int.toNat ((x3 * 5200) + x4)) (M (o + 19) (Int.toNat ((x1 * 5200) + x2)))) (o + 23) (Int.toNat ((x1 * 5200) + x2)))) (o + 20) (Int.toNat ((x3 * 5200) + x4)) ((gUp (gUp M (o + 19) (Int.toNat ((x3 * 5200) + x4)) (M (o + 19) (Int.toNat ((x1 * 5200) + x2)))) (o + 23) (Int.toNat ((x3 * 5200) + x4)) ((gUp M (o + 19) (Int.toNat ((x3 * 5200) + x4)) (M (o + 19) (Int.toNat ((x1 * 5200) + x2)))) (o + 23) (Int.toNat ((x1 * 5200) + x2)))) (o + 20) (Int.toNat ((x1 * 5200) + x2)))) (o + 21) (Int.toNat ((x1 * 5200) + x2)))) (o + 9) (Int.toNat ((gUp (gUp (gUp (gUp M (o + 19) (Int.toNat ((x3 * 5200) + x4)) (M (o + 19) (Int.toNat ((x1 * 5200) + x2)))) (o + 23) (Int.toNat ((x3 * 5200) + x4)) ((gUp M (o + 19) (Int.toNat ((x3 * 5200) + x4)) (M (o + 19) (Int.toNat ((x1 * 5200) + x2)))) (o + 23) (Int.toNat ((x1 * 5200) + x2)))) (o + 20) (Int.toNat ((x3 * 5200) + x4)) ((gUp (gUp M (o + 19) (Int.toNat ((x3 * 5200) + x4)) (M (o + 19) (Int.toNat ((x1 * 5200) + x2)))) (o + 23) (Int.toNat ((x3 * 5200) + x4)) ((gUp M (o + 19) (Int.toNat ((x3 * 5200) + x4)) (M (o + 19) (Int.toNat ((x1 * 5200) + x2)))) (o + 23) (Int.toNat ((x1 * 5200) + x2)))) (o + 20) (Int.toNat ((x1 * 5200) + x2)))) (o + 21) (Int.toNat ((x3 * 5200) + x4)) ((gUp (gUp (gUp M (o + 19) (Int.toNat ((x3 * 5200) + x4)) (M (o + 19) (Int.toNat ((x1 * 5200) + x2)))) (o + 23) (Int.toNat ((x3 * 5200) + x4)) ((gUp M (o + 19) (Int.toNat ((x3 * 5200) + x4)) (M (o + 19) (Int.toNat ((x1 * 5200) + x2)))) (o + 23) (Int.toNat ((x1 * 5200) + x2)))) (o + 20) (Int.toNat ((x3 * 5200) + x4)) ((gUp (gUp M (o + 19) (Int.toNat ((x3 * 5200) + x4)) (M (o + 19) (Int.toNat ((x1 * 5200) + x2)))) (o + 23) (Int.toNat ((x3 * 5200) + x4)) ((gUp M (o + 19) (Int.toNat ((x3 * 5200) + x4)) (M (o + 19) (Int.toNat ((x1 * 5200) + x2)))) (o + 23) (Int.toNat ((x1 * 5200) + x2)))) (o + 20) (Int.toNat ((x1 * 5200) + x2)))) (o + 21) (Int.toNat ((x1 * 5200) + x2)))) (o + 20) (Int.toNat ((x1 * 5200) + x2)))))), .val (gI 0)]) d_GM_copy_115 (by decide) rfl ?_
    exact wp_md (wpt T (And.intro rfl (And.intro rfl (And.intro rfl (And.intro (gI_w _) (And.intro rfl (And.intro rfl True.intro)))))))
  · have T := T.2 h9
    exact wp_return d_GM_copy_86 rfl (fun _ => rfl) (Nat.zero_le _) (Nat.zero_le _) (kV_mk T)
theorem e_GM_copy {l : Launch} {G : gG} {d : Nat} {X : gX} {M : gM} {k : gM → Prop} {o : Nat} {x1 : Int} {x2 : Int} {x3 : Int} {x4 : Int} (T : wp l G y_GM_copy (gRm d) true (kkV X k) false 0 [.val (gR G o), .val (gI x1), .val (gI x2), .val (gI x3), .val (gI x4), .unset, .unset, .unset, .unset] [] X M 0 0) : cV l G y_GM_copy (gRm d) true [gR G o, gI x1, gI x2, gI x3, gI x4] X M k := cen_V (plainFor_of_name rfl) (by simp only [lg_sl_R, lg_sl_I, lg_sl_L, lg_sl_N, List.length_cons, List.length_nil]; decide) (by unfold gEn; simp only [lg_sl_R, lg_sl_I, lg_sl_L, lg_sl_N]; exact wpt T (And.intro rfl (And.intro rfl (And.intro rfl (And.intro rfl (And.intro rfl True.intro))))))
theorem d_GM_copyAll_0 : decode prog_15_method_27_code 0 = .ok (.aload_n 0, 1) := by decide +kernel
theorem d_GM_copyAll_1 : decode prog_15_method_27_code 1 = .ok (.iload_n 2, 1) := by decide +kernel
theorem d_GM_copyAll_2 : decode prog_15_method_27_code 2 = .ok (.invokevirtual 272, 3) := by decide +kernel
theorem d_GM_copyAll_5 : decode prog_15_method_27_code 5 = .ok (.iconst 0, 1) := by decide +kernel
theorem d_GM_copyAll_6 : decode prog_15_method_27_code 6 = .ok (.istore_n 3, 1) := by decide +kernel
theorem d_GM_copyAll_7 : decode prog_15_method_27_code 7 = .ok (.iload_n 3, 1) := by decide +kernel
theorem d_GM_copyAll_8 : decode prog_15_method_27_code 8 = .ok (.sipush 5200, 3) := by decide +kernel
theorem d_GM_copyAll_11 : decode prog_15_method_27_code 11 = .ok (.if_icmp .ge 17, 3) := by decide +kernel
theorem d_GM_copyAll_28 : decode prog_15_method_27_code 28 = .ok (.return_, 1) := by decide +kernel
theorem d_GM_copyAll_14 : decode prog_15_method_27_code 14 = .ok (.aload_n 0, 1) := by decide +kernel
theorem d_GM_copyAll_15 : decode prog_15_method_27_code 15 = .ok (.iload_n 1, 1) := by decide +kernel
theorem d_GM_copyAll_16 : decode prog_15_method_27_code 16 = .ok (.iload_n 3, 1) := by decide +kernel
theorem d_GM_copyAll_17 : decode prog_15_method_27_code 17 = .ok (.iload_n 2, 1) := by decide +kernel
theorem d_GM_copyAll_18 : decode prog_15_method_27_code 18 = .ok (.iload_n 3, 1) := by decide +kernel
theorem d_GM_copyAll_19 : decode prog_15_method_27_code 19 = .ok (.invokevirtual 275, 3) := by decide +kernel
theorem d_GM_copyAll_22 : decode prog_15_method_27_code 22 = .ok (.iinc 3 1, 3) := by decide +kernel
theorem d_GM_copyAll_25 : decode prog_15_method_27_code 25 = .ok (.goto (-18), 3) := by decide +kernel
set_option maxHeartbeats 4000000 in
theorem w_GM_copyAll_0 {l : Launch} {G : gG} {d : Nat} {X : gX} {M : gM} {k : gM → Prop} {o : Nat} (hX : gmX X o) {x1 : Int} (hx1 : g32 x1) {x2 : Int} (hx2 : g32 x2) (T : cV l G y_GM_clear (gRm d) true [gR G o, gI x2] X M (fun M1 => (wp l G y_GM_copyAll (gRm (d + 1)) true (kkV X k) true 7 [.val (gR G o), .val (gI x1), .val (gI x2), .val (gI 0)] [] X M1 0 0))) : wp l G y_GM_copyAll (gRm (d + 1)) true (kkV X k) false 0 [.val (gR G o), .val (gI x1), .val (gI x2), .unset] [] X M 0 0 := by
  refine wp_aload_n d_GM_copyAll_0 rfl rfl (g_nz hX.1) ?_
  refine wp_iload_n d_GM_copyAll_1 rfl rfl ?_
  refine xcV_V (md' := true) (As := [gI x2]) (st := []) d_GM_copyAll_2 ca_GM_clear ml_GM_272 im_GM_clear se_GM_clear gc_GM hX.1 (gm_o2 hX) hX.2.2.1 rfl (by decide) (by decide) rfl (fun _ => rfl) (fun _ => rfl) T (fun M1 T => ?_)
  refine wp_iconst d_GM_copyAll_5 ?_
  refine wp_istore_n (L' := [.val (gR G o), .val (gI x1), .val (gI x2), .val (gI 0)]) d_GM_copyAll_6 rfl (by decide) rfl ?_
  exact wp_md (wpt T (And.intro rfl (And.intro rfl (And.intro rfl (And.intro rfl True.intro)))))
set_option maxHeartbeats 4000000 in
theorem w_GM_copyAll_7 {l : Launch} {G : gG} {d : Nat} {X : gX} {M : gM} {k : gM → Prop} {o : Nat} (hX : gmX X o) {x1 : Int} (hx1 : g32 x1) {x2 : Int} (hx2 : g32 x2) {x3 : Int} (hx3 : g32 x3) (T : (5200 ≤ x3 → (k M)) ∧ (¬ 5200 ≤ x3 → (cV l G y_GM_copy (gRm d) true [gR G o, gI x1, gI x3, gI x2, gI x3] X M (fun M2 => (wp l G y_GM_copyAll (gRm (d + 1)) true (kkV X k) true 7 [.val (gR G o), .val (gI x1), .val (gI x2), .val (gI (w32 (x3 + 1)))] [] X M2 0 0))))) : wp l G y_GM_copyAll (gRm (d + 1)) true (kkV X k) true 7 [.val (gR G o), .val (gI x1), .val (gI x2), .val (gI x3)] [] X M 0 0 := by
  refine wp_iload_n d_GM_copyAll_7 rfl rfl ?_
  refine wp_sipush d_GM_copyAll_8 ⟨by decide, by decide⟩ ?_
  refine xi_ge (tgt := 28) d_GM_copyAll_11 (by decide) (w32_id hx3) (w32_id (g32_c (x := 5200) rfl)) (fun h3 => ?_) (fun h3 => ?_)
  · have T := T.1 h3
    exact wp_return d_GM_copyAll_28 rfl (fun _ => rfl) (Nat.zero_le _) (Nat.zero_le _) (kV_mk T)
  · have T := T.2 h3
    refine wp_aload_n d_GM_copyAll_14 rfl rfl (g_nz hX.1) ?_
    refine wp_iload_n d_GM_copyAll_15 rfl rfl ?_
    refine wp_iload_n d_GM_copyAll_16 rfl rfl ?_
    refine wp_iload_n d_GM_copyAll_17 rfl rfl ?_
    refine wp_iload_n d_GM_copyAll_18 rfl rfl ?_
    refine xcV_V (md' := true) (As := [gI x1, gI x3, gI x2, gI x3]) (st := []) d_GM_copyAll_19 ca_GM_copy ml_GM_275 im_GM_copy se_GM_copy gc_GM hX.1 (gm_o2 hX) hX.2.2.1 rfl (by decide) (by decide) rfl (fun _ => rfl) (fun _ => rfl) T (fun M2 T => ?_)
    refine wp_iinc (L' := [.val (gR G o), .val (gI x1), .val (gI x2), .val (gI (x3 + 1))]) d_GM_copyAll_22 rfl (by decide) rfl ?_
    refine wp_goto (tgt := 7) d_GM_copyAll_25 (by decide) ?_
    exact wp_md (wpt T (And.intro rfl (And.intro rfl (And.intro rfl (And.intro (gI_w _) True.intro)))))
theorem e_GM_copyAll {l : Launch} {G : gG} {d : Nat} {X : gX} {M : gM} {k : gM → Prop} {o : Nat} {x1 : Int} {x2 : Int} (T : wp l G y_GM_copyAll (gRm (d + 1)) true (kkV X k) false 0 [.val (gR G o), .val (gI x1), .val (gI x2), .unset] [] X M 0 0) : cV l G y_GM_copyAll (gRm (d + 1)) true [gR G o, gI x1, gI x2] X M k := cen_V (plainFor_of_name rfl) (by simp only [lg_sl_R, lg_sl_I, lg_sl_L, lg_sl_N, List.length_cons, List.length_nil]; decide) (by unfold gEn; simp only [lg_sl_R, lg_sl_I, lg_sl_L, lg_sl_N]; exact wpt T (And.intro rfl (And.intro rfl (And.intro rfl True.intro))))
theorem d_GM_contents_0 : decode prog_15_method_28_code 0 = .ok (.iconst 0, 1) := by decide +kernel
theorem d_GM_contents_1 : decode prog_15_method_28_code 1 = .ok (.istore_n 2, 1) := by decide +kernel
theorem d_GM_contents_2 : decode prog_15_method_28_code 2 = .ok (.iconst 0, 1) := by decide +kernel
theorem d_GM_contents_3 : decode prog_15_method_28_code 3 = .ok (.istore_n 3, 1) := by decide +kernel
theorem d_GM_contents_4 : decode prog_15_method_28_code 4 = .ok (.iload_n 3, 1) := by decide +kernel
theorem d_GM_contents_5 : decode prog_15_method_28_code 5 = .ok (.sipush 5200, 3) := by decide +kernel
theorem d_GM_contents_8 : decode prog_15_method_28_code 8 = .ok (.if_icmp .ge 27, 3) := by decide +kernel
theorem d_GM_contents_35 : decode prog_15_method_28_code 35 = .ok (.iload_n 2, 1) := by decide +kernel
theorem d_GM_contents_36 : decode prog_15_method_28_code 36 = .ok (.ireturn, 1) := by decide +kernel
theorem d_GM_contents_11 : decode prog_15_method_28_code 11 = .ok (.aload_n 0, 1) := by decide +kernel
theorem d_GM_contents_12 : decode prog_15_method_28_code 12 = .ok (.getfield 69, 3) := by decide +kernel
theorem d_GM_contents_15 : decode prog_15_method_28_code 15 = .ok (.iload_n 1, 1) := by decide +kernel
theorem d_GM_contents_16 : decode prog_15_method_28_code 16 = .ok (.sipush 5200, 3) := by decide +kernel
theorem d_GM_contents_19 : decode prog_15_method_28_code 19 = .ok (.imul, 1) := by decide +kernel
theorem d_GM_contents_20 : decode prog_15_method_28_code 20 = .ok (.iload_n 3, 1) := by decide +kernel
theorem d_GM_contents_21 : decode prog_15_method_28_code 21 = .ok (.iadd, 1) := by decide +kernel
theorem d_GM_contents_22 : decode prog_15_method_28_code 22 = .ok (.iaload, 1) := by decide +kernel
theorem d_GM_contents_23 : decode prog_15_method_28_code 23 = .ok (.ifCond .eq 6, 3) := by decide +kernel
theorem d_GM_contents_29 : decode prog_15_method_28_code 29 = .ok (.iinc 3 1, 3) := by decide +kernel
theorem d_GM_contents_32 : decode prog_15_method_28_code 32 = .ok (.goto (-28), 3) := by decide +kernel
theorem d_GM_contents_26 : decode prog_15_method_28_code 26 = .ok (.iinc 2 1, 3) := by decide +kernel
set_option maxHeartbeats 4000000 in
theorem w_GM_contents_0 {l : Launch} {G : gG} {d : Nat} {X : gX} {M : gM} {k : Int → gM → Prop} {o : Nat} (hX : gmX X o) {x1 : Int} (hx1 : g32 x1) (T : wp l G y_GM_contents (gRm d) false (kkI X k) false 4 [.val (gR G o), .val (gI x1), .val (gI 0), .val (gI 0)] [] X M 0 0) : wp l G y_GM_contents (gRm d) false (kkI X k) false 0 [.val (gR G o), .val (gI x1), .unset, .unset] [] X M 0 0 := by
  refine wp_iconst d_GM_contents_0 ?_
  refine wp_istore_n (L' := [.val (gR G o), .val (gI x1), .val (gI 0), .unset]) d_GM_contents_1 rfl (by decide) rfl ?_
  refine wp_iconst d_GM_contents_2 ?_
  refine wp_istore_n (L' := [.val (gR G o), .val (gI x1), .val (gI 0), .val (gI 0)]) d_GM_contents_3 rfl (by decide) rfl ?_
  exact (wpt T (And.intro rfl (And.intro rfl (And.intro rfl (And.intro rfl True.intro)))))
set_option maxHeartbeats 4000000 in
theorem w_GM_contents_4 {l : Launch} {G : gG} {d : Nat} {X : gX} {M : gM} {k : Int → gM → Prop} {o : Nat} (hX : gmX X o) {x1 : Int} (hx1 : g32 x1) {x2 : Int} (hx2 : g32 x2) {x3 : Int} (hx3 : g32 x3) (T : (5200 ≤ x3 → (k x2 M)) ∧ (¬ 5200 ≤ x3 → (((0 : Int) ≤ (x1 * 5200) + x3 ∧ (x1 * 5200) + x3 < 218400) ∧ (g32 (M (o + 19) (Int.toNat ((x1 * 5200) + x3))) → ((M (o + 19) (Int.toNat ((x1 * 5200) + x3)) = 0 → (wp l G y_GM_contents (gRm d) false (kkI X k) false 4 [.val (gR G o), .val (gI x1), .val (gI x2), .val (gI (w32 (x3 + 1)))] [] X M 0 0)) ∧ (¬ M (o + 19) (Int.toNat ((x1 * 5200) + x3)) = 0 → (wp l G y_GM_contents (gRm d) false (kkI X k) false 4 [.val (gR G o), .val (gI x1), .val (gI (w32 (x2 + 1))), .val (gI (w32 (x3 + 1)))] [] X M 0 0))))))) : wp l G y_GM_contents (gRm d) false (kkI X k) false 4 [.val (gR G o), .val (gI x1), .val (gI x2), .val (gI x3)] [] X M 0 0 := by
  refine wp_iload_n d_GM_contents_4 rfl rfl ?_
  refine wp_sipush d_GM_contents_5 ⟨by decide, by decide⟩ ?_
  refine xi_ge (tgt := 35) d_GM_contents_8 (by decide) (w32_id hx3) (w32_id (g32_c (x := 5200) rfl)) (fun h3 => ?_) (fun h3 => ?_)
  · have T := T.1 h3
    refine wp_iload_n d_GM_contents_35 rfl rfl ?_
    exact wp_ireturn d_GM_contents_36 rfl id (Nat.zero_le _) (Nat.zero_le _) (kI_mk hx2 T)
  · have T := T.2 h3
    refine wp_aload_n d_GM_contents_11 rfl rfl (g_nz hX.1) ?_
    refine xgetR d_GM_contents_12 gc_GM f_GM_69.1 f_GM_69.2.1 f_GM_69.2.2.1 hX.1 (gm_o2 hX) hX.2.2.1 f_GM_69.2.2.2.2.1 (gm_row hX 18 rfl).1 ?_
    refine wp_iload_n d_GM_contents_15 rfl rfl ?_
    refine wp_sipush d_GM_contents_16 ⟨by decide, by decide⟩ ?_
    refine wp_imul d_GM_contents_19 ?_
    refine wp_iload_n d_GM_contents_20 rfl rfl ?_
    refine wp_iadd d_GM_contents_21 ?_
    refine wp_iaload d_GM_contents_22 (gm_row hX 18 rfl).2.2.1 (gm_row hX 18 rfl).2.2.2 (gm_row hX 18 rfl).2.1 (g32_n T.1 (by decide)) T.1.1 T.1.2 (fun h1 => ?_)
    have T := T.2 h1
    refine xz_eq (tgt := 29) d_GM_contents_23 (by decide) (w32_id h1) (fun h2 => ?_) (fun h2 => ?_)
    · have T := T.1 h2
      refine wp_iinc (L' := [.val (gR G o), .val (gI x1), .val (gI x2), .val (gI (x3 + 1))]) d_GM_contents_29 rfl (by decide) rfl ?_
      refine wp_goto (tgt := 4) d_GM_contents_32 (by decide) ?_
      exact (wpt T (And.intro rfl (And.intro rfl (And.intro rfl (And.intro (gI_w _) True.intro)))))
    · have T := T.2 h2
      refine wp_iinc (L' := [.val (gR G o), .val (gI x1), .val (gI (x2 + 1)), .val (gI x3)]) d_GM_contents_26 rfl (by decide) rfl ?_
      refine wp_iinc (L' := [.val (gR G o), .val (gI x1), .val (gI (x2 + 1)), .val (gI (x3 + 1))]) d_GM_contents_29 rfl (by decide) rfl ?_
      refine wp_goto (tgt := 4) d_GM_contents_32 (by decide) ?_
      exact (wpt T (And.intro rfl (And.intro rfl (And.intro (gI_w _) (And.intro (gI_w _) True.intro)))))
theorem e_GM_contents {l : Launch} {G : gG} {d : Nat} {X : gX} {M : gM} {k : Int → gM → Prop} {o : Nat} {x1 : Int} (T : wp l G y_GM_contents (gRm d) false (kkI X k) false 0 [.val (gR G o), .val (gI x1), .unset, .unset] [] X M 0 0) : cI l G y_GM_contents (gRm d) false [gR G o, gI x1] X M k := cen_I (plainFor_of_name rfl) (by simp only [lg_sl_R, lg_sl_I, lg_sl_L, lg_sl_N, List.length_cons, List.length_nil]; decide) (by unfold gEn; simp only [lg_sl_R, lg_sl_I, lg_sl_L, lg_sl_N]; exact wpt T (And.intro rfl (And.intro rfl True.intro)))
theorem d_GM_ranges_0 : decode prog_15_method_35_code 0 = .ok (.iconst 0, 1) := by decide +kernel
theorem d_GM_ranges_1 : decode prog_15_method_35_code 1 = .ok (.istore_n 2, 1) := by decide +kernel
theorem d_GM_ranges_2 : decode prog_15_method_35_code 2 = .ok (.iconst 0, 1) := by decide +kernel
theorem d_GM_ranges_3 : decode prog_15_method_35_code 3 = .ok (.istore_n 3, 1) := by decide +kernel
theorem d_GM_ranges_4 : decode prog_15_method_35_code 4 = .ok (.iload_n 3, 1) := by decide +kernel
theorem d_GM_ranges_5 : decode prog_15_method_35_code 5 = .ok (.sipush 5200, 3) := by decide +kernel
theorem d_GM_ranges_8 : decode prog_15_method_35_code 8 = .ok (.if_icmp .ge 107, 3) := by decide +kernel
theorem d_GM_ranges_115 : decode prog_15_method_35_code 115 = .ok (.iload_n 2, 1) := by decide +kernel
theorem d_GM_ranges_116 : decode prog_15_method_35_code 116 = .ok (.ireturn, 1) := by decide +kernel
theorem d_GM_ranges_11 : decode prog_15_method_35_code 11 = .ok (.aload_n 0, 1) := by decide +kernel
theorem d_GM_ranges_12 : decode prog_15_method_35_code 12 = .ok (.getfield 69, 3) := by decide +kernel
theorem d_GM_ranges_15 : decode prog_15_method_35_code 15 = .ok (.iload_n 1, 1) := by decide +kernel
theorem d_GM_ranges_16 : decode prog_15_method_35_code 16 = .ok (.sipush 5200, 3) := by decide +kernel
theorem d_GM_ranges_19 : decode prog_15_method_35_code 19 = .ok (.imul, 1) := by decide +kernel
theorem d_GM_ranges_20 : decode prog_15_method_35_code 20 = .ok (.iload_n 3, 1) := by decide +kernel
theorem d_GM_ranges_21 : decode prog_15_method_35_code 21 = .ok (.iadd, 1) := by decide +kernel
theorem d_GM_ranges_22 : decode prog_15_method_35_code 22 = .ok (.iaload, 1) := by decide +kernel
theorem d_GM_ranges_23 : decode prog_15_method_35_code 23 = .ok (.iconst 3, 1) := by decide +kernel
theorem d_GM_ranges_24 : decode prog_15_method_35_code 24 = .ok (.if_icmp .eq 6, 3) := by decide +kernel
theorem d_GM_ranges_30 : decode prog_15_method_35_code 30 = .ok (.iconst 0, 1) := by decide +kernel
theorem d_GM_ranges_31 : decode prog_15_method_35_code 31 = .ok (.istore 4, 2) := by decide +kernel
theorem d_GM_ranges_27 : decode prog_15_method_35_code 27 = .ok (.goto 82, 3) := by decide +kernel
theorem d_GM_ranges_109 : decode prog_15_method_35_code 109 = .ok (.iinc 3 1, 3) := by decide +kernel
theorem d_GM_ranges_112 : decode prog_15_method_35_code 112 = .ok (.goto (-108), 3) := by decide +kernel
set_option maxHeartbeats 4000000 in
theorem w_GM_ranges_0 {l : Launch} {G : gG} {d : Nat} {X : gX} {M : gM} {k : Int → gM → Prop} {o : Nat} (hX : gmX X o) {x1 : Int} (hx1 : g32 x1) (T : wp l G y_GM_ranges (gRm (d + 1)) false (kkI X k) false 4 [.val (gR G o), .val (gI x1), .val (gI 0), .val (gI 0), .unset] [] X M 0 0) : wp l G y_GM_ranges (gRm (d + 1)) false (kkI X k) false 0 [.val (gR G o), .val (gI x1), .unset, .unset, .unset] [] X M 0 0 := by
  refine wp_iconst d_GM_ranges_0 ?_
  refine wp_istore_n (L' := [.val (gR G o), .val (gI x1), .val (gI 0), .unset, .unset]) d_GM_ranges_1 rfl (by decide) rfl ?_
  refine wp_iconst d_GM_ranges_2 ?_
  refine wp_istore_n (L' := [.val (gR G o), .val (gI x1), .val (gI 0), .val (gI 0), .unset]) d_GM_ranges_3 rfl (by decide) rfl ?_
  exact (wpt T (And.intro rfl (And.intro rfl (And.intro rfl (And.intro rfl True.intro)))))
set_option maxHeartbeats 4000000 in
theorem w_GM_ranges_4 {l : Launch} {G : gG} {d : Nat} {X : gX} {M : gM} {k : Int → gM → Prop} {o : Nat} (hX : gmX X o) {x1 : Int} (hx1 : g32 x1) {x2 : Int} (hx2 : g32 x2) {x3 : Int} (hx3 : g32 x3) (T : (5200 ≤ x3 → (k x2 M)) ∧ (¬ 5200 ≤ x3 → (((0 : Int) ≤ (x1 * 5200) + x3 ∧ (x1 * 5200) + x3 < 218400) ∧ (g32 (M (o + 19) (Int.toNat ((x1 * 5200) + x3))) → ((M (o + 19) (Int.toNat ((x1 * 5200) + x3)) = 3 → (wp l G y_GM_ranges (gRm (d + 1)) false (kkI X k) false 33 [.val (gR G o), .val (gI x1), .val (gI x2), .val (gI x3), .val (gI 0)] [] X M 0 0)) ∧ (¬ M (o + 19) (Int.toNat ((x1 * 5200) + x3)) = 3 → (wp l G y_GM_ranges (gRm (d + 1)) false (kkI X k) false 4 [.val (gR G o), .val (gI x1), .val (gI x2), .val (gI (w32 (x3 + 1))), .unset] [] X M 0 0))))))) : wp l G y_GM_ranges (gRm (d + 1)) false (kkI X k) false 4 [.val (gR G o), .val (gI x1), .val (gI x2), .val (gI x3), .unset] [] X M 0 0 := by
  refine wp_iload_n d_GM_ranges_4 rfl rfl ?_
  refine wp_sipush d_GM_ranges_5 ⟨by decide, by decide⟩ ?_
  refine xi_ge (tgt := 115) d_GM_ranges_8 (by decide) (w32_id hx3) (w32_id (g32_c (x := 5200) rfl)) (fun h3 => ?_) (fun h3 => ?_)
  · have T := T.1 h3
    refine wp_iload_n d_GM_ranges_115 rfl rfl ?_
    exact wp_ireturn d_GM_ranges_116 rfl id (Nat.zero_le _) (Nat.zero_le _) (kI_mk hx2 T)
  · have T := T.2 h3
    refine wp_aload_n d_GM_ranges_11 rfl rfl (g_nz hX.1) ?_
    refine xgetR d_GM_ranges_12 gc_GM f_GM_69.1 f_GM_69.2.1 f_GM_69.2.2.1 hX.1 (gm_o2 hX) hX.2.2.1 f_GM_69.2.2.2.2.1 (gm_row hX 18 rfl).1 ?_
    refine wp_iload_n d_GM_ranges_15 rfl rfl ?_
    refine wp_sipush d_GM_ranges_16 ⟨by decide, by decide⟩ ?_
    refine wp_imul d_GM_ranges_19 ?_
    refine wp_iload_n d_GM_ranges_20 rfl rfl ?_
    refine wp_iadd d_GM_ranges_21 ?_
    refine wp_iaload d_GM_ranges_22 (gm_row hX 18 rfl).2.2.1 (gm_row hX 18 rfl).2.2.2 (gm_row hX 18 rfl).2.1 (g32_n T.1 (by decide)) T.1.1 T.1.2 (fun h1 => ?_)
    have T := T.2 h1
    refine wp_iconst d_GM_ranges_23 ?_
    refine xi_eq (tgt := 30) d_GM_ranges_24 (by decide) (w32_id h1) (w32_id (g32_c (x := 3) rfl)) (fun h2 => ?_) (fun h2 => ?_)
    · have T := T.1 h2
      refine wp_iconst d_GM_ranges_30 ?_
      refine wp_istore (L' := [.val (gR G o), .val (gI x1), .val (gI x2), .val (gI x3), .val (gI 0)]) d_GM_ranges_31 (by decide) rfl ?_
      exact (wpt T (And.intro rfl (And.intro rfl (And.intro rfl (And.intro rfl (And.intro rfl True.intro))))))
    · have T := T.2 h2
      refine wp_goto (tgt := 109) d_GM_ranges_27 (by decide) ?_
      refine wp_iinc (L' := [.val (gR G o), .val (gI x1), .val (gI x2), .val (gI (x3 + 1)), .unset]) d_GM_ranges_109 rfl (by decide) rfl ?_
      refine wp_goto (tgt := 4) d_GM_ranges_112 (by decide) ?_
      exact (wpt T (And.intro rfl (And.intro rfl (And.intro rfl (And.intro (gI_w _) True.intro)))))
theorem e_GM_ranges {l : Launch} {G : gG} {d : Nat} {X : gX} {M : gM} {k : Int → gM → Prop} {o : Nat} {x1 : Int} (T : wp l G y_GM_ranges (gRm (d + 1)) false (kkI X k) false 0 [.val (gR G o), .val (gI x1), .unset, .unset, .unset] [] X M 0 0) : cI l G y_GM_ranges (gRm (d + 1)) false [gR G o, gI x1] X M k := cen_I (plainFor_of_name rfl) (by simp only [lg_sl_R, lg_sl_I, lg_sl_L, lg_sl_N, List.length_cons, List.length_nil]; decide) (by unfold gEn; simp only [lg_sl_R, lg_sl_I, lg_sl_L, lg_sl_N]; exact wpt T (And.intro rfl (And.intro rfl True.intro)))
