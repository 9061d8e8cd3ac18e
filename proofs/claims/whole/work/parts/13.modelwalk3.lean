/-! Walks of the reference's methods, written by wip/whole/gen_model.py -/
theorem d_GM_pushCell_0 : decode prog_15_method_38_code 0 = .ok (.aload_n 0, 1) := by decide +kernel
theorem d_GM_pushCell_1 : decode prog_15_method_38_code 1 = .ok (.aload_n 0, 1) := by decide +kernel
theorem d_GM_pushCell_2 : decode prog_15_method_38_code 2 = .ok (.getfield 91, 3) := by decide +kernel
theorem d_GM_pushCell_5 : decode prog_15_method_38_code 5 = .ok (.iload_n 1, 1) := by decide +kernel
theorem d_GM_pushCell_6 : decode prog_15_method_38_code 6 = .ok (.iaload, 1) := by decide +kernel
theorem d_GM_pushCell_7 : decode prog_15_method_38_code 7 = .ok (.aload_n 0, 1) := by decide +kernel
theorem d_GM_pushCell_8 : decode prog_15_method_38_code 8 = .ok (.getfield 103, 3) := by decide +kernel
theorem d_GM_pushCell_11 : decode prog_15_method_38_code 11 = .ok (.iload_n 1, 1) := by decide +kernel
theorem d_GM_pushCell_12 : decode prog_15_method_38_code 12 = .ok (.laload, 1) := by decide +kernel
theorem d_GM_pushCell_13 : decode prog_15_method_38_code 13 = .ok (.invokevirtual 307, 3) := by decide +kernel
theorem d_GM_pushCell_16 : decode prog_15_method_38_code 16 = .ok (.aload_n 0, 1) := by decide +kernel
theorem d_GM_pushCell_17 : decode prog_15_method_38_code 17 = .ok (.getfield 119, 3) := by decide +kernel
theorem d_GM_pushCell_20 : decode prog_15_method_38_code 20 = .ok (.aload_n 0, 1) := by decide +kernel
theorem d_GM_pushCell_21 : decode prog_15_method_38_code 21 = .ok (.getfield 304, 3) := by decide +kernel
theorem d_GM_pushCell_24 : decode prog_15_method_38_code 24 = .ok (.iconst 1, 1) := by decide +kernel
theorem d_GM_pushCell_25 : decode prog_15_method_38_code 25 = .ok (.isub, 1) := by decide +kernel
theorem d_GM_pushCell_26 : decode prog_15_method_38_code 26 = .ok (.aload_n 0, 1) := by decide +kernel
theorem d_GM_pushCell_27 : decode prog_15_method_38_code 27 = .ok (.getfield 94, 3) := by decide +kernel
theorem d_GM_pushCell_30 : decode prog_15_method_38_code 30 = .ok (.iload_n 1, 1) := by decide +kernel
theorem d_GM_pushCell_31 : decode prog_15_method_38_code 31 = .ok (.iaload, 1) := by decide +kernel
theorem d_GM_pushCell_32 : decode prog_15_method_38_code 32 = .ok (.iastore, 1) := by decide +kernel
theorem d_GM_pushCell_33 : decode prog_15_method_38_code 33 = .ok (.iconst 0, 1) := by decide +kernel
theorem d_GM_pushCell_34 : decode prog_15_method_38_code 34 = .ok (.istore_n 2, 1) := by decide +kernel
theorem d_GM_pushCell_35 : decode prog_15_method_38_code 35 = .ok (.iload_n 2, 1) := by decide +kernel
theorem d_GM_pushCell_36 : decode prog_15_method_38_code 36 = .ok (.aload_n 0, 1) := by decide +kernel
theorem d_GM_pushCell_37 : decode prog_15_method_38_code 37 = .ok (.getfield 94, 3) := by decide +kernel
theorem d_GM_pushCell_40 : decode prog_15_method_38_code 40 = .ok (.iload_n 1, 1) := by decide +kernel
theorem d_GM_pushCell_41 : decode prog_15_method_38_code 41 = .ok (.iaload, 1) := by decide +kernel
theorem d_GM_pushCell_42 : decode prog_15_method_38_code 42 = .ok (.if_icmp .ge 36, 3) := by decide +kernel
theorem d_GM_pushCell_78 : decode prog_15_method_38_code 78 = .ok (.return_, 1) := by decide +kernel
theorem d_GM_pushCell_45 : decode prog_15_method_38_code 45 = .ok (.aload_n 0, 1) := by decide +kernel
theorem d_GM_pushCell_46 : decode prog_15_method_38_code 46 = .ok (.getfield 126, 3) := by decide +kernel
theorem d_GM_pushCell_49 : decode prog_15_method_38_code 49 = .ok (.bipush 64, 2) := by decide +kernel
theorem d_GM_pushCell_51 : decode prog_15_method_38_code 51 = .ok (.aload_n 0, 1) := by decide +kernel
theorem d_GM_pushCell_52 : decode prog_15_method_38_code 52 = .ok (.getfield 304, 3) := by decide +kernel
theorem d_GM_pushCell_55 : decode prog_15_method_38_code 55 = .ok (.iconst 1, 1) := by decide +kernel
theorem d_GM_pushCell_56 : decode prog_15_method_38_code 56 = .ok (.isub, 1) := by decide +kernel
theorem d_GM_pushCell_57 : decode prog_15_method_38_code 57 = .ok (.imul, 1) := by decide +kernel
theorem d_GM_pushCell_58 : decode prog_15_method_38_code 58 = .ok (.iload_n 2, 1) := by decide +kernel
theorem d_GM_pushCell_59 : decode prog_15_method_38_code 59 = .ok (.iadd, 1) := by decide +kernel
theorem d_GM_pushCell_60 : decode prog_15_method_38_code 60 = .ok (.aload_n 0, 1) := by decide +kernel
theorem d_GM_pushCell_61 : decode prog_15_method_38_code 61 = .ok (.getfield 110, 3) := by decide +kernel
theorem d_GM_pushCell_64 : decode prog_15_method_38_code 64 = .ok (.bipush 64, 2) := by decide +kernel
theorem d_GM_pushCell_66 : decode prog_15_method_38_code 66 = .ok (.iload_n 1, 1) := by decide +kernel
theorem d_GM_pushCell_67 : decode prog_15_method_38_code 67 = .ok (.imul, 1) := by decide +kernel
theorem d_GM_pushCell_68 : decode prog_15_method_38_code 68 = .ok (.iload_n 2, 1) := by decide +kernel
theorem d_GM_pushCell_69 : decode prog_15_method_38_code 69 = .ok (.iadd, 1) := by decide +kernel
theorem d_GM_pushCell_70 : decode prog_15_method_38_code 70 = .ok (.baload, 1) := by decide +kernel
theorem d_GM_pushCell_71 : decode prog_15_method_38_code 71 = .ok (.bastore, 1) := by decide +kernel
theorem d_GM_pushCell_72 : decode prog_15_method_38_code 72 = .ok (.iinc 2 1, 3) := by decide +kernel
theorem d_GM_pushCell_75 : decode prog_15_method_38_code 75 = .ok (.goto (-40), 3) := by decide +kernel
set_option maxHeartbeats 4000000 in
theorem w_GM_pushCell_0 {l : Launch} {G : gG} {d : Nat} {X : gX} {M : gM} {k : gM → Prop} {o : Nat} (hX : gmX X o) {x1 : Int} (hx1 : g32 x1) (T : ((0 : Int) ≤ x1 ∧ x1 < 5200) ∧ (g32 (M (o + 26) (Int.toNat x1)) → (((0 : Int) ≤ x1 ∧ x1 < 5200) ∧ (g64 (M (o + 30) (Int.toNat x1)) → (cV l G y_GM_push (gRm d) true [gR G o, gI (M (o + 26) (Int.toNat x1)), gL (M (o + 30) (Int.toNat x1))] X M (fun M3 => (g32 (M3 o 50) → (((0 : Int) ≤ x1 ∧ x1 < 5200) ∧ (g32 (M3 (o + 27) (Int.toNat x1)) → (((0 : Int) ≤ (M3 o 50) - 1 ∧ (M3 o 50) - 1 < 1200) ∧ (wp l G y_GM_pushCell (gRm (d + 1)) true (kkV X k) true 35 [.val (gR G o), .val (gI x1), .val (gI 0)] [] X (gUp M3 (o + 35) (Int.toNat ((M3 o 50) - 1)) (M3 (o + 27) (Int.toNat x1))) 0 0))))))))))) : wp l G y_GM_pushCell (gRm (d + 1)) true (kkV X k) false 0 [.val (gR G o), .val (gI x1), .unset] [] X M 0 0 := by
  refine wp_aload_n d_GM_pushCell_0 rfl rfl (g_nz hX.1) ?_
  refine wp_aload_n d_GM_pushCell_1 rfl rfl (g_nz hX.1) ?_
  refine xgetR d_GM_pushCell_2 gc_GM f_GM_91.1 f_GM_91.2.1 f_GM_91.2.2.1 hX.1 (gm_o2 hX) hX.2.2.1 f_GM_91.2.2.2.2.1 (gm_row hX 25 rfl).1 ?_
  refine wp_iload_n d_GM_pushCell_5 rfl rfl ?_
  refine wp_iaload d_GM_pushCell_6 (gm_row hX 25 rfl).2.2.1 (gm_row hX 25 rfl).2.2.2 (gm_row hX 25 rfl).2.1 (g32_n T.1 (by decide)) T.1.1 T.1.2 (fun h1 => ?_)
  have T := T.2 h1
  refine wp_aload_n d_GM_pushCell_7 rfl rfl (g_nz hX.1) ?_
  refine xgetR d_GM_pushCell_8 gc_GM f_GM_103.1 f_GM_103.2.1 f_GM_103.2.2.1 hX.1 (gm_o2 hX) hX.2.2.1 f_GM_103.2.2.2.2.1 (gm_row hX 29 rfl).1 ?_
  refine wp_iload_n d_GM_pushCell_11 rfl rfl ?_
  refine wp_laload d_GM_pushCell_12 (gm_row hX 29 rfl).2.2.1 (gm_row hX 29 rfl).2.2.2 (gm_row hX 29 rfl).2.1 (g32_n T.1 (by decide)) T.1.1 T.1.2 (fun h2 => ?_)
  have T := T.2 h2
  refine xcV_V (md' := true) (As := [gI (M (o + 26) (Int.toNat x1)), gL (M (o + 30) (Int.toNat x1))]) (st := []) d_GM_pushCell_13 ca_GM_push ml_GM_307 im_GM_push se_GM_push gc_GM hX.1 (gm_o2 hX) hX.2.2.1 rfl (by decide) (by decide) rfl (fun _ => rfl) (fun _ => rfl) T (fun M3 T => ?_)
  refine wp_aload_n d_GM_pushCell_16 rfl rfl (g_nz hX.1) ?_
  refine xgetR d_GM_pushCell_17 gc_GM f_GM_119.1 f_GM_119.2.1 f_GM_119.2.2.1 hX.1 (gm_o2 hX) hX.2.2.1 f_GM_119.2.2.2.2.1 (gm_row hX 34 rfl).1 ?_
  refine wp_aload_n d_GM_pushCell_20 rfl rfl (g_nz hX.1) ?_
  refine xgetI d_GM_pushCell_21 gc_GM f_GM_304.1 f_GM_304.2.1 f_GM_304.2.2.1 hX.1 (gm_o2 hX) hX.2.2.1 f_GM_304.2.2.2.2.1 (fun h4 => ?_)
  have T := T h4
  refine wp_iconst d_GM_pushCell_24 ?_
  refine wp_isub d_GM_pushCell_25 ?_
  refine wp_aload_n d_GM_pushCell_26 rfl rfl (g_nz hX.1) ?_
  refine xgetR d_GM_pushCell_27 gc_GM f_GM_94.1 f_GM_94.2.1 f_GM_94.2.2.1 hX.1 (gm_o2 hX) hX.2.2.1 f_GM_94.2.2.2.2.1 (gm_row hX 26 rfl).1 ?_
  refine wp_iload_n d_GM_pushCell_30 rfl rfl ?_
  refine wp_iaload d_GM_pushCell_31 (gm_row hX 26 rfl).2.2.1 (gm_row hX 26 rfl).2.2.2 (gm_row hX 26 rfl).2.1 (g32_n T.1 (by decide)) T.1.1 T.1.2 (fun h5 => ?_)
  have T := T.2 h5
  refine xiast d_GM_pushCell_32 (gm_row hX 34 rfl).2.2.1 (gm_row hX 34 rfl).2.2.2 (gm_row hX 34 rfl).2.1 (by decide) T.1 (w32_id h5) ?_
  have T := T.2
  refine wp_iconst d_GM_pushCell_33 ?_
  refine wp_istore_n (L' := [.val (gR G o), .val (gI x1), .val (gI 0)]) d_GM_pushCell_34 rfl (by decide) rfl ?_
  exact wp_md (wpt T (And.intro rfl (And.intro rfl (And.intro rfl True.intro))))
set_option maxHeartbeats 4000000 in
theorem w_GM_pushCell_35 {l : Launch} {G : gG} {d : Nat} {X : gX} {M : gM} {k : gM → Prop} {o : Nat} (hX : gmX X o) {x1 : Int} (hx1 : g32 x1) {x2 : Int} (hx2 : g32 x2) (T : ((0 : Int) ≤ x1 ∧ x1 < 5200) ∧ (g32 (M (o + 27) (Int.toNat x1)) → ((M (o + 27) (Int.toNat x1) ≤ x2 → (k M)) ∧ (¬ M (o + 27) (Int.toNat x1) ≤ x2 → (g32 (M o 50) → (((0 : Int) ≤ (64 * x1) + x2 ∧ (64 * x1) + x2 < 332800) ∧ ((-128 ≤ M (o + 32) (Int.toNat ((64 * x1) + x2)) ∧ M (o + 32) (Int.toNat ((64 * x1) + x2)) < 128) → (((0 : Int) ≤ (64 * ((M o 50) - 1)) + x2 ∧ (64 * ((M o 50) - 1)) + x2 < 76800) ∧ (wp l G y_GM_pushCell (gRm (d + 1)) true (kkV X k) true 35 [.val (gR G o), .val (gI x1), .val (gI (w32 (x2 + 1)))] [] X (gUp M (o + 37) (Int.toNat ((64 * ((M o 50) - 1)) + x2)) (gByte (M (o + 32) (Int.toNat ((64 * x1) + x2))))) 0 0))))))))) : wp l G y_GM_pushCell (gRm (d + 1)) true (kkV X k) true 35 [.val (gR G o), .val (gI x1), .val (gI x2)] [] X M 0 0 := by
  refine wp_iload_n d_GM_pushCell_35 rfl rfl ?_
  refine wp_aload_n d_GM_pushCell_36 rfl rfl (g_nz hX.1) ?_
  refine xgetR d_GM_pushCell_37 gc_GM f_GM_94.1 f_GM_94.2.1 f_GM_94.2.2.1 hX.1 (gm_o2 hX) hX.2.2.1 f_GM_94.2.2.2.2.1 (gm_row hX 26 rfl).1 ?_
  refine wp_iload_n d_GM_pushCell_40 rfl rfl ?_
  refine wp_iaload d_GM_pushCell_41 (gm_row hX 26 rfl).2.2.1 (gm_row hX 26 rfl).2.2.2 (gm_row hX 26 rfl).2.1 (g32_n T.1 (by decide)) T.1.1 T.1.2 (fun h6 => ?_)
  have T := T.2 h6
  refine xi_ge (tgt := 78) d_GM_pushCell_42 (by decide) (w32_id hx2) (w32_id h6) (fun h9 => ?_) (fun h9 => ?_)
  · have T := T.1 h9
    exact wp_return d_GM_pushCell_78 rfl (fun _ => rfl) (Nat.zero_le _) (Nat.zero_le _) (kV_mk T)
  · have T := T.2 h9
    refine wp_aload_n d_GM_pushCell_45 rfl rfl (g_nz hX.1) ?_
    refine xgetR d_GM_pushCell_46 gc_GM f_GM_126.1 f_GM_126.2.1 f_GM_126.2.2.1 hX.1 (gm_o2 hX) hX.2.2.1 f_GM_126.2.2.2.2.1 (gm_row hX 36 rfl).1 ?_
    refine wp_bipush d_GM_pushCell_49 ⟨by decide, by decide⟩ ?_
    refine wp_aload_n d_GM_pushCell_51 rfl rfl (g_nz hX.1) ?_
    refine xgetI d_GM_pushCell_52 gc_GM f_GM_304.1 f_GM_304.2.1 f_GM_304.2.2.1 hX.1 (gm_o2 hX) hX.2.2.1 f_GM_304.2.2.2.2.1 (fun h7 => ?_)
    have T := T h7
    refine wp_iconst d_GM_pushCell_55 ?_
    refine wp_isub d_GM_pushCell_56 ?_
    refine wp_imul d_GM_pushCell_57 ?_
    refine wp_iload_n d_GM_pushCell_58 rfl rfl ?_
    refine wp_iadd d_GM_pushCell_59 ?_
    refine wp_aload_n d_GM_pushCell_60 rfl rfl (g_nz hX.1) ?_
    refine xgetR d_GM_pushCell_61 gc_GM f_GM_110.1 f_GM_110.2.1 f_GM_110.2.2.1 hX.1 (gm_o2 hX) hX.2.2.1 f_GM_110.2.2.2.2.1 (gm_row hX 31 rfl).1 ?_
    refine wp_bipush d_GM_pushCell_64 ⟨by decide, by decide⟩ ?_
    refine wp_iload_n d_GM_pushCell_66 rfl rfl ?_
    refine wp_imul d_GM_pushCell_67 ?_
    refine wp_iload_n d_GM_pushCell_68 rfl rfl ?_
    refine wp_iadd d_GM_pushCell_69 ?_
    refine wp_baload d_GM_pushCell_70 (gm_row hX 31 rfl).2.2.1 (gm_row hX 31 rfl).2.2.2 (gm_row hX 31 rfl).2.1 (g32_n T.1 (by decide)) T.1.1 T.1.2 (fun h8 => ?_)
    have T := T.2 h8
    refine xbast d_GM_pushCell_71 (gm_row hX 36 rfl).2.2.1 (gm_row hX 36 rfl).2.2.2 (gm_row hX 36 rfl).2.1 (by decide) T.1 ?_
    have T := T.2
    refine wp_iinc (L' := [.val (gR G o), .val (gI x1), .val (gI (x2 + 1))]) d_GM_pushCell_72 rfl (by decide) rfl ?_
    refine wp_goto (tgt := 35) d_GM_pushCell_75 (by decide) ?_
    exact wp_md (wpt T (And.intro rfl (And.intro rfl (And.intro (gI_w _) True.intro))))
theorem e_GM_pushCell {l : Launch} {G : gG} {d : Nat} {X : gX} {M : gM} {k : gM → Prop} {o : Nat} {x1 : Int} (T : wp l G y_GM_pushCell (gRm (d + 1)) true (kkV X k) false 0 [.val (gR G o), .val (gI x1), .unset] [] X M 0 0) : cV l G y_GM_pushCell (gRm (d + 1)) true [gR G o, gI x1] X M k := cen_V (plainFor_of_name rfl) (by simp only [lg_sl_R, lg_sl_I, lg_sl_L, lg_sl_N, List.length_cons, List.length_nil]; decide) (by unfold gEn; simp only [lg_sl_R, lg_sl_I, lg_sl_L, lg_sl_N]; exact wpt T (And.intro rfl (And.intro rfl True.intro)))
theorem d_GM_isFault_0 : decode prog_15_method_39_code 0 = .ok (.aload_n 0, 1) := by decide +kernel
theorem d_GM_isFault_1 : decode prog_15_method_39_code 1 = .ok (.getfield 116, 3) := by decide +kernel
theorem d_GM_isFault_4 : decode prog_15_method_39_code 4 = .ok (.iload_n 1, 1) := by decide +kernel
theorem d_GM_isFault_5 : decode prog_15_method_39_code 5 = .ok (.iaload, 1) := by decide +kernel
theorem d_GM_isFault_6 : decode prog_15_method_39_code 6 = .ok (.iconst 4, 1) := by decide +kernel
theorem d_GM_isFault_7 : decode prog_15_method_39_code 7 = .ok (.if_icmp .ne 7, 3) := by decide +kernel
theorem d_GM_isFault_14 : decode prog_15_method_39_code 14 = .ok (.iconst 0, 1) := by decide +kernel
theorem d_GM_isFault_15 : decode prog_15_method_39_code 15 = .ok (.ireturn, 1) := by decide +kernel
theorem d_GM_isFault_10 : decode prog_15_method_39_code 10 = .ok (.iconst 1, 1) := by decide +kernel
theorem d_GM_isFault_11 : decode prog_15_method_39_code 11 = .ok (.goto 4, 3) := by decide +kernel
set_option maxHeartbeats 4000000 in
theorem w_GM_isFault_0 {l : Launch} {G : gG} {d : Nat} {X : gX} {M : gM} {k : Int → gM → Prop} {o : Nat} (hX : gmX X o) {x1 : Int} (hx1 : g32 x1) (T : ((0 : Int) ≤ x1 ∧ x1 < 1200) ∧ (g32 (M (o + 34) (Int.toNat x1)) → ((¬ M (o + 34) (Int.toNat x1) = 4 → (k 0 M)) ∧ (M (o + 34) (Int.toNat x1) = 4 → (k 1 M))))) : wp l G y_GM_isFault (gRm d) false (kkZ X k) false 0 [.val (gR G o), .val (gI x1)] [] X M 0 0 := by
  refine wp_aload_n d_GM_isFault_0 rfl rfl (g_nz hX.1) ?_
  refine xgetR d_GM_isFault_1 gc_GM f_GM_116.1 f_GM_116.2.1 f_GM_116.2.2.1 hX.1 (gm_o2 hX) hX.2.2.1 f_GM_116.2.2.2.2.1 (gm_row hX 33 rfl).1 ?_
  refine wp_iload_n d_GM_isFault_4 rfl rfl ?_
  refine wp_iaload d_GM_isFault_5 (gm_row hX 33 rfl).2.2.1 (gm_row hX 33 rfl).2.2.2 (gm_row hX 33 rfl).2.1 (g32_n T.1 (by decide)) T.1.1 T.1.2 (fun h1 => ?_)
  have T := T.2 h1
  refine wp_iconst d_GM_isFault_6 ?_
  refine xi_ne (tgt := 14) d_GM_isFault_7 (by decide) (w32_id h1) (w32_id (g32_c (x := 4) rfl)) (fun h2 => ?_) (fun h2 => ?_)
  · have T := T.1 h2
    refine wp_iconst d_GM_isFault_14 ?_
    exact wp_zreturn d_GM_isFault_15 rfl (g_narz (⟨by decide, by decide⟩ : (0 : Int) ≤ 0 ∧ (0 : Int) ≤ 1)) id (Nat.zero_le _) (Nat.zero_le _) (kZ_mk (⟨by decide, by decide⟩ : (0 : Int) ≤ 0 ∧ (0 : Int) ≤ 1) T)
  · have T := T.2 h2
    refine wp_iconst d_GM_isFault_10 ?_
    refine wp_goto (tgt := 15) d_GM_isFault_11 (by decide) ?_
    exact wp_zreturn d_GM_isFault_15 rfl (g_narz (⟨by decide, by decide⟩ : (0 : Int) ≤ 1 ∧ (1 : Int) ≤ 1)) id (Nat.zero_le _) (Nat.zero_le _) (kZ_mk (⟨by decide, by decide⟩ : (0 : Int) ≤ 1 ∧ (1 : Int) ≤ 1) T)
theorem e_GM_isFault {l : Launch} {G : gG} {d : Nat} {X : gX} {M : gM} {k : Int → gM → Prop} {o : Nat} {x1 : Int} (T : wp l G y_GM_isFault (gRm d) false (kkZ X k) false 0 [.val (gR G o), .val (gI x1)] [] X M 0 0) : cZ l G y_GM_isFault (gRm d) false [gR G o, gI x1] X M k := cen_Z (plainFor_of_name rfl) (by simp only [lg_sl_R, lg_sl_I, lg_sl_L, lg_sl_N, List.length_cons, List.length_nil]; decide) (by unfold gEn; simp only [lg_sl_R, lg_sl_I, lg_sl_L, lg_sl_N]; exact wpt T (And.intro rfl (And.intro rfl True.intro)))
theorem d_GM_spoilt_0 : decode prog_15_method_40_code 0 = .ok (.aload_n 0, 1) := by decide +kernel
theorem d_GM_spoilt_1 : decode prog_15_method_40_code 1 = .ok (.getfield 304, 3) := by decide +kernel
theorem d_GM_spoilt_4 : decode prog_15_method_40_code 4 = .ok (.iload_n 1, 1) := by decide +kernel
theorem d_GM_spoilt_5 : decode prog_15_method_40_code 5 = .ok (.isub, 1) := by decide +kernel
theorem d_GM_spoilt_6 : decode prog_15_method_40_code 6 = .ok (.istore_n 2, 1) := by decide +kernel
theorem d_GM_spoilt_7 : decode prog_15_method_40_code 7 = .ok (.iload_n 2, 1) := by decide +kernel
theorem d_GM_spoilt_8 : decode prog_15_method_40_code 8 = .ok (.aload_n 0, 1) := by decide +kernel
theorem d_GM_spoilt_9 : decode prog_15_method_40_code 9 = .ok (.getfield 304, 3) := by decide +kernel
theorem d_GM_spoilt_12 : decode prog_15_method_40_code 12 = .ok (.if_icmp .ge 45, 3) := by decide +kernel
theorem d_GM_spoilt_57 : decode prog_15_method_40_code 57 = .ok (.iconst 0, 1) := by decide +kernel
theorem d_GM_spoilt_58 : decode prog_15_method_40_code 58 = .ok (.ireturn, 1) := by decide +kernel
theorem d_GM_spoilt_15 : decode prog_15_method_40_code 15 = .ok (.aload_n 0, 1) := by decide +kernel
theorem d_GM_spoilt_16 : decode prog_15_method_40_code 16 = .ok (.iload_n 2, 1) := by decide +kernel
theorem d_GM_spoilt_17 : decode prog_15_method_40_code 17 = .ok (.invokevirtual 311, 3) := by decide +kernel
theorem d_GM_spoilt_20 : decode prog_15_method_40_code 20 = .ok (.ifCond .ne 6, 3) := by decide +kernel
theorem d_GM_spoilt_26 : decode prog_15_method_40_code 26 = .ok (.aload_n 0, 1) := by decide +kernel
theorem d_GM_spoilt_27 : decode prog_15_method_40_code 27 = .ok (.getfield 122, 3) := by decide +kernel
theorem d_GM_spoilt_30 : decode prog_15_method_40_code 30 = .ok (.iload_n 2, 1) := by decide +kernel
theorem d_GM_spoilt_31 : decode prog_15_method_40_code 31 = .ok (.laload, 1) := by decide +kernel
theorem d_GM_spoilt_32 : decode prog_15_method_40_code 32 = .ok (.lstore_n 3, 1) := by decide +kernel
theorem d_GM_spoilt_33 : decode prog_15_method_40_code 33 = .ok (.aload_n 0, 1) := by decide +kernel
theorem d_GM_spoilt_34 : decode prog_15_method_40_code 34 = .ok (.dup, 1) := by decide +kernel
theorem d_GM_spoilt_35 : decode prog_15_method_40_code 35 = .ok (.getfield 304, 3) := by decide +kernel
theorem d_GM_spoilt_38 : decode prog_15_method_40_code 38 = .ok (.iload_n 1, 1) := by decide +kernel
theorem d_GM_spoilt_39 : decode prog_15_method_40_code 39 = .ok (.isub, 1) := by decide +kernel
theorem d_GM_spoilt_40 : decode prog_15_method_40_code 40 = .ok (.putfield 304, 3) := by decide +kernel
theorem d_GM_spoilt_43 : decode prog_15_method_40_code 43 = .ok (.aload_n 0, 1) := by decide +kernel
theorem d_GM_spoilt_44 : decode prog_15_method_40_code 44 = .ok (.lload_n 3, 1) := by decide +kernel
theorem d_GM_spoilt_45 : decode prog_15_method_40_code 45 = .ok (.l2i, 1) := by decide +kernel
theorem d_GM_spoilt_46 : decode prog_15_method_40_code 46 = .ok (.invokevirtual 314, 3) := by decide +kernel
theorem d_GM_spoilt_49 : decode prog_15_method_40_code 49 = .ok (.iconst 1, 1) := by decide +kernel
theorem d_GM_spoilt_50 : decode prog_15_method_40_code 50 = .ok (.ireturn, 1) := by decide +kernel
theorem d_GM_spoilt_23 : decode prog_15_method_40_code 23 = .ok (.goto 28, 3) := by decide +kernel
theorem d_GM_spoilt_51 : decode prog_15_method_40_code 51 = .ok (.iinc 2 1, 3) := by decide +kernel
theorem d_GM_spoilt_54 : decode prog_15_method_40_code 54 = .ok (.goto (-47), 3) := by decide +kernel
set_option maxHeartbeats 4000000 in
theorem w_GM_spoilt_0 {l : Launch} {G : gG} {d : Nat} {X : gX} {M : gM} {k : Int → gM → Prop} {o : Nat} (hX : gmX X o) {x1 : Int} (hx1 : g32 x1) (T : g32 (M o 50) → (wp l G y_GM_spoilt (gRm (d + 1)) true (kkZ X k) true 7 [.val (gR G o), .val (gI x1), .val (gI (w32 ((M o 50) - x1))), .unset, .unset] [] X M 0 0)) : wp l G y_GM_spoilt (gRm (d + 1)) true (kkZ X k) false 0 [.val (gR G o), .val (gI x1), .unset, .unset, .unset] [] X M 0 0 := by
  refine wp_aload_n d_GM_spoilt_0 rfl rfl (g_nz hX.1) ?_
  refine xgetI d_GM_spoilt_1 gc_GM f_GM_304.1 f_GM_304.2.1 f_GM_304.2.2.1 hX.1 (gm_o2 hX) hX.2.2.1 f_GM_304.2.2.2.2.1 (fun h1 => ?_)
  have T := T h1
  refine wp_iload_n d_GM_spoilt_4 rfl rfl ?_
  refine wp_isub d_GM_spoilt_5 ?_
  refine wp_istore_n (L' := [.val (gR G o), .val (gI x1), .val (gI ((M o 50) - x1)), .unset, .unset]) d_GM_spoilt_6 rfl (by decide) rfl ?_
  exact wp_md (wpt T (And.intro rfl (And.intro rfl (And.intro (gI_w _) True.intro))))
set_option maxHeartbeats 4000000 in
theorem w_GM_spoilt_7 {l : Launch} {G : gG} {d : Nat} {X : gX} {M : gM} {k : Int → gM → Prop} {o : Nat} (hX : gmX X o) {x1 : Int} (hx1 : g32 x1) {x2 : Int} (hx2 : g32 x2) (T : g32 (M o 50) → ((M o 50 ≤ x2 → (k 0 M)) ∧ (¬ M o 50 ≤ x2 → (cZ l G y_GM_isFault (gRm d) false [gR G o, gI x2] X M (fun v4 M3 => ((¬ v4 = 0 → (((0 : Int) ≤ x2 ∧ x2 < 1200) ∧ (g64 (M3 (o + 36) (Int.toNat x2)) → (g32 (M3 o 50) → (cV l G y_GM_fault (gRm d) true [gR G o, gI (M3 (o + 36) (Int.toNat x2))] X (gUp M3 o 50 (w32 ((M3 o 50) - x1))) (fun M8 => (k 1 M8))))))) ∧ (v4 = 0 → (wp l G y_GM_spoilt (gRm (d + 1)) true (kkZ X k) true 7 [.val (gR G o), .val (gI x1), .val (gI (w32 (x2 + 1))), .unset, .unset] [] X M3 0 0)))))))) : wp l G y_GM_spoilt (gRm (d + 1)) true (kkZ X k) true 7 [.val (gR G o), .val (gI x1), .val (gI x2), .unset, .unset] [] X M 0 0 := by
  refine wp_iload_n d_GM_spoilt_7 rfl rfl ?_
  refine wp_aload_n d_GM_spoilt_8 rfl rfl (g_nz hX.1) ?_
  refine xgetI d_GM_spoilt_9 gc_GM f_GM_304.1 f_GM_304.2.1 f_GM_304.2.2.1 hX.1 (gm_o2 hX) hX.2.2.1 f_GM_304.2.2.2.2.1 (fun h2 => ?_)
  have T := T h2
  refine xi_ge (tgt := 57) d_GM_spoilt_12 (by decide) (w32_id hx2) (w32_id h2) (fun h10 => ?_) (fun h10 => ?_)
  · have T := T.1 h10
    refine wp_iconst d_GM_spoilt_57 ?_
    exact wp_zreturn d_GM_spoilt_58 rfl (g_narz (⟨by decide, by decide⟩ : (0 : Int) ≤ 0 ∧ (0 : Int) ≤ 1)) (fun _ => rfl) (Nat.zero_le _) (Nat.zero_le _) (kZ_mk (⟨by decide, by decide⟩ : (0 : Int) ≤ 0 ∧ (0 : Int) ≤ 1) T)
  · have T := T.2 h10
    refine wp_aload_n d_GM_spoilt_15 rfl rfl (g_nz hX.1) ?_
    refine wp_iload_n d_GM_spoilt_16 rfl rfl ?_
    refine xcV_Z (md' := true) (As := [gI x2]) (st := []) d_GM_spoilt_17 ca_GM_isFault ml_GM_311 im_GM_isFault se_GM_isFault gc_GM hX.1 (gm_o2 hX) hX.2.2.1 rfl (by decide) (by decide) rfl (fun _ => rfl) (fun _ => rfl) T (fun v4 M3 h5 T => ?_)
    refine xz_ne (tgt := 26) d_GM_spoilt_20 (by decide) (w32_id (g32_z h5)) (fun h9 => ?_) (fun h9 => ?_)
    · have T := T.1 h9
      refine wp_aload_n d_GM_spoilt_26 rfl rfl (g_nz hX.1) ?_
      refine xgetR d_GM_spoilt_27 gc_GM f_GM_122.1 f_GM_122.2.1 f_GM_122.2.2.1 hX.1 (gm_o2 hX) hX.2.2.1 f_GM_122.2.2.2.2.1 (gm_row hX 35 rfl).1 ?_
      refine wp_iload_n d_GM_spoilt_30 rfl rfl ?_
      refine wp_laload d_GM_spoilt_31 (gm_row hX 35 rfl).2.2.1 (gm_row hX 35 rfl).2.2.2 (gm_row hX 35 rfl).2.1 (g32_n T.1 (by decide)) T.1.1 T.1.2 (fun h6 => ?_)
      have T := T.2 h6
      refine wp_lstore_n (L' := [.val (gR G o), .val (gI x1), .val (gI x2), .val (gL (M3 (o + 36) (Int.toNat x2))), .unset]) d_GM_spoilt_32 rfl (by decide) rfl ?_
      refine wp_aload_n d_GM_spoilt_33 rfl rfl (g_nz hX.1) ?_
      refine wp_dup d_GM_spoilt_34 (gR_cat _) ?_
      refine xgetI d_GM_spoilt_35 gc_GM f_GM_304.1 f_GM_304.2.1 f_GM_304.2.2.1 hX.1 (gm_o2 hX) hX.2.2.1 f_GM_304.2.2.2.2.1 (fun h7 => ?_)
      have T := T h7
      refine wp_iload_n d_GM_spoilt_38 rfl rfl ?_
      refine wp_isub d_GM_spoilt_39 ?_
      refine xputI d_GM_spoilt_40 gc_GM f_GM_304.1 f_GM_304.2.1 f_GM_304.2.2.1 hX.1 (gm_o2 hX) hX.2.2.1 f_GM_304.2.2.2.1 f_GM_304.2.2.2.2.1 f_GM_304.2.2.2.2.2 rfl ?_
      refine wp_aload_n d_GM_spoilt_43 rfl rfl (g_nz hX.1) ?_
      refine wp_lload_n d_GM_spoilt_44 rfl rfl ?_
      refine wp_l2i d_GM_spoilt_45 ?_
      refine xcV_V (md' := true) (As := [gI (M3 (o + 36) (Int.toNat x2))]) (st := []) d_GM_spoilt_46 ca_GM_fault ml_GM_314 im_GM_fault se_GM_fault gc_GM hX.1 (gm_o2 hX) hX.2.2.1 rfl (by decide) (by decide) rfl (fun _ => rfl) (fun _ => rfl) T (fun M8 T => ?_)
      refine wp_iconst d_GM_spoilt_49 ?_
      exact wp_zreturn d_GM_spoilt_50 rfl (g_narz (⟨by decide, by decide⟩ : (0 : Int) ≤ 1 ∧ (1 : Int) ≤ 1)) (fun _ => rfl) (Nat.zero_le _) (Nat.zero_le _) (kZ_mk (⟨by decide, by decide⟩ : (0 : Int) ≤ 1 ∧ (1 : Int) ≤ 1) T)
    · have T := T.2 h9
      refine wp_goto (tgt := 51) d_GM_spoilt_23 (by decide) ?_
      refine wp_iinc (L' := [.val (gR G o), .val (gI x1), .val (gI (x2 + 1)), .unset, .unset]) d_GM_spoilt_51 rfl (by decide) rfl ?_
      refine wp_goto (tgt := 7) d_GM_spoilt_54 (by decide) ?_
      exact wp_md (wpt T (And.intro rfl (And.intro rfl (And.intro (gI_w _) True.intro))))
theorem e_GM_spoilt {l : Launch} {G : gG} {d : Nat} {X : gX} {M : gM} {k : Int → gM → Prop} {o : Nat} {x1 : Int} (T : wp l G y_GM_spoilt (gRm (d + 1)) true (kkZ X k) false 0 [.val (gR G o), .val (gI x1), .unset, .unset, .unset] [] X M 0 0) : cZ l G y_GM_spoilt (gRm (d + 1)) true [gR G o, gI x1] X M k := cen_Z (plainFor_of_name rfl) (by simp only [lg_sl_R, lg_sl_I, lg_sl_L, lg_sl_N, List.length_cons, List.length_nil]; decide) (by unfold gEn; simp only [lg_sl_R, lg_sl_I, lg_sl_L, lg_sl_N]; exact wpt T (And.intro rfl (And.intro rfl True.intro)))
theorem d_GM_become_0 : decode prog_15_method_41_code 0 = .ok (.aload_n 0, 1) := by decide +kernel
theorem d_GM_become_1 : decode prog_15_method_41_code 1 = .ok (.dup, 1) := by decide +kernel
theorem d_GM_become_2 : decode prog_15_method_41_code 2 = .ok (.getfield 304, 3) := by decide +kernel
theorem d_GM_become_5 : decode prog_15_method_41_code 5 = .ok (.iload_n 1, 1) := by decide +kernel
theorem d_GM_become_6 : decode prog_15_method_41_code 6 = .ok (.isub, 1) := by decide +kernel
theorem d_GM_become_7 : decode prog_15_method_41_code 7 = .ok (.putfield 304, 3) := by decide +kernel
theorem d_GM_become_10 : decode prog_15_method_41_code 10 = .ok (.aload_n 0, 1) := by decide +kernel
theorem d_GM_become_11 : decode prog_15_method_41_code 11 = .ok (.iload_n 2, 1) := by decide +kernel
theorem d_GM_become_12 : decode prog_15_method_41_code 12 = .ok (.lload_n 3, 1) := by decide +kernel
theorem d_GM_become_13 : decode prog_15_method_41_code 13 = .ok (.invokevirtual 307, 3) := by decide +kernel
theorem d_GM_become_16 : decode prog_15_method_41_code 16 = .ok (.return_, 1) := by decide +kernel
set_option maxHeartbeats 4000000 in
theorem w_GM_become_0 {l : Launch} {G : gG} {d : Nat} {X : gX} {M : gM} {k : gM → Prop} {o : Nat} (hX : gmX X o) {x1 : Int} (hx1 : g32 x1) {x2 : Int} (hx2 : g32 x2) {x3 : Int} (hx3 : g64 x3) (T : g32 (M o 50) → (cV l G y_GM_push (gRm d) true [gR G o, gI x2, gL x3] X (gUp M o 50 (w32 ((M o 50) - x1))) (fun M2 => (k M2)))) : wp l G y_GM_become (gRm (d + 1)) true (kkV X k) false 0 [.val (gR G o), .val (gI x1), .val (gI x2), .val (gL x3), .unset] [] X M 0 0 := by
  refine wp_aload_n d_GM_become_0 rfl rfl (g_nz hX.1) ?_
  refine wp_dup d_GM_become_1 (gR_cat _) ?_
  refine xgetI d_GM_become_2 gc_GM f_GM_304.1 f_GM_304.2.1 f_GM_304.2.2.1 hX.1 (gm_o2 hX) hX.2.2.1 f_GM_304.2.2.2.2.1 (fun h1 => ?_)
  have T := T h1
  refine wp_iload_n d_GM_become_5 rfl rfl ?_
  refine wp_isub d_GM_become_6 ?_
  refine xputI d_GM_become_7 gc_GM f_GM_304.1 f_GM_304.2.1 f_GM_304.2.2.1 hX.1 (gm_o2 hX) hX.2.2.1 f_GM_304.2.2.2.1 f_GM_304.2.2.2.2.1 f_GM_304.2.2.2.2.2 rfl ?_
  refine wp_aload_n d_GM_become_10 rfl rfl (g_nz hX.1) ?_
  refine wp_iload_n d_GM_become_11 rfl rfl ?_
  refine wp_lload_n d_GM_become_12 rfl rfl ?_
  refine xcV_V (md' := true) (As := [gI x2, gL x3]) (st := []) d_GM_become_13 ca_GM_push ml_GM_307 im_GM_push se_GM_push gc_GM hX.1 (gm_o2 hX) hX.2.2.1 rfl (by decide) (by decide) rfl (fun _ => rfl) (fun _ => rfl) T (fun M2 T => ?_)
  exact wp_return d_GM_become_16 rfl (fun _ => rfl) (Nat.zero_le _) (Nat.zero_le _) (kV_mk T)
theorem e_GM_become {l : Launch} {G : gG} {d : Nat} {X : gX} {M : gM} {k : gM → Prop} {o : Nat} {x1 : Int} {x2 : Int} {x3 : Int} (T : wp l G y_GM_become (gRm (d + 1)) true (kkV X k) false 0 [.val (gR G o), .val (gI x1), .val (gI x2), .val (gL x3), .unset] [] X M 0 0) : cV l G y_GM_become (gRm (d + 1)) true [gR G o, gI x1, gI x2, gL x3] X M k := cen_V (plainFor_of_name rfl) (by simp only [lg_sl_R, lg_sl_I, lg_sl_L, lg_sl_N, List.length_cons, List.length_nil]; decide) (by unfold gEn; simp only [lg_sl_R, lg_sl_I, lg_sl_L, lg_sl_N]; exact wpt T (And.intro rfl (And.intro rfl (And.intro rfl (And.intro rfl True.intro)))))
theorem d_GM_asNumber_0 : decode prog_15_method_42_code 0 = .ok (.aload_n 0, 1) := by decide +kernel
theorem d_GM_asNumber_1 : decode prog_15_method_42_code 1 = .ok (.getfield 116, 3) := by decide +kernel
theorem d_GM_asNumber_4 : decode prog_15_method_42_code 4 = .ok (.iload_n 1, 1) := by decide +kernel
theorem d_GM_asNumber_5 : decode prog_15_method_42_code 5 = .ok (.iaload, 1) := by decide +kernel
theorem d_GM_asNumber_6 : decode prog_15_method_42_code 6 = .ok (.iconst 2, 1) := by decide +kernel
theorem d_GM_asNumber_7 : decode prog_15_method_42_code 7 = .ok (.if_icmp .ne 68, 3) := by decide +kernel
theorem d_GM_asNumber_75 : decode prog_15_method_42_code 75 = .ok (.aload_n 0, 1) := by decide +kernel
theorem d_GM_asNumber_76 : decode prog_15_method_42_code 76 = .ok (.getfield 116, 3) := by decide +kernel
theorem d_GM_asNumber_79 : decode prog_15_method_42_code 79 = .ok (.iload_n 1, 1) := by decide +kernel
theorem d_GM_asNumber_80 : decode prog_15_method_42_code 80 = .ok (.iaload, 1) := by decide +kernel
theorem d_GM_asNumber_81 : decode prog_15_method_42_code 81 = .ok (.ifCond .ne 10, 3) := by decide +kernel
theorem d_GM_asNumber_91 : decode prog_15_method_42_code 91 = .ok (.aload_n 0, 1) := by decide +kernel
theorem d_GM_asNumber_92 : decode prog_15_method_42_code 92 = .ok (.getfield 116, 3) := by decide +kernel
theorem d_GM_asNumber_95 : decode prog_15_method_42_code 95 = .ok (.iload_n 1, 1) := by decide +kernel
theorem d_GM_asNumber_96 : decode prog_15_method_42_code 96 = .ok (.iconst 1, 1) := by decide +kernel
theorem d_GM_asNumber_97 : decode prog_15_method_42_code 97 = .ok (.iastore, 1) := by decide +kernel
theorem d_GM_asNumber_98 : decode prog_15_method_42_code 98 = .ok (.aload_n 0, 1) := by decide +kernel
theorem d_GM_asNumber_99 : decode prog_15_method_42_code 99 = .ok (.getfield 119, 3) := by decide +kernel
theorem d_GM_asNumber_102 : decode prog_15_method_42_code 102 = .ok (.iload_n 1, 1) := by decide +kernel
theorem d_GM_asNumber_103 : decode prog_15_method_42_code 103 = .ok (.iconst 0, 1) := by decide +kernel
theorem d_GM_asNumber_104 : decode prog_15_method_42_code 104 = .ok (.iastore, 1) := by decide +kernel
theorem d_GM_asNumber_105 : decode prog_15_method_42_code 105 = .ok (.iconst 1, 1) := by decide +kernel
theorem d_GM_asNumber_106 : decode prog_15_method_42_code 106 = .ok (.ireturn, 1) := by decide +kernel
theorem d_GM_asNumber_84 : decode prog_15_method_42_code 84 = .ok (.aload_n 0, 1) := by decide +kernel
theorem d_GM_asNumber_85 : decode prog_15_method_42_code 85 = .ok (.getfield 122, 3) := by decide +kernel
theorem d_GM_asNumber_88 : decode prog_15_method_42_code 88 = .ok (.iload_n 1, 1) := by decide +kernel
theorem d_GM_asNumber_89 : decode prog_15_method_42_code 89 = .ok (.lconst 0, 1) := by decide +kernel
theorem d_GM_asNumber_90 : decode prog_15_method_42_code 90 = .ok (.lastore, 1) := by decide +kernel
theorem d_GM_asNumber_10 : decode prog_15_method_42_code 10 = .ok (.iconst 0, 1) := by decide +kernel
theorem d_GM_asNumber_11 : decode prog_15_method_42_code 11 = .ok (.istore_n 2, 1) := by decide +kernel
theorem d_GM_asNumber_12 : decode prog_15_method_42_code 12 = .ok (.iload_n 2, 1) := by decide +kernel
theorem d_GM_asNumber_13 : decode prog_15_method_42_code 13 = .ok (.aload_n 0, 1) := by decide +kernel
theorem d_GM_asNumber_14 : decode prog_15_method_42_code 14 = .ok (.getfield 119, 3) := by decide +kernel
theorem d_GM_asNumber_17 : decode prog_15_method_42_code 17 = .ok (.iload_n 1, 1) := by decide +kernel
theorem d_GM_asNumber_18 : decode prog_15_method_42_code 18 = .ok (.iaload, 1) := by decide +kernel
theorem d_GM_asNumber_19 : decode prog_15_method_42_code 19 = .ok (.if_icmp .ge 26, 3) := by decide +kernel
theorem d_GM_asNumber_45 : decode prog_15_method_42_code 45 = .ok (.aload_n 0, 1) := by decide +kernel
theorem d_GM_asNumber_46 : decode prog_15_method_42_code 46 = .ok (.aload_n 0, 1) := by decide +kernel
theorem d_GM_asNumber_47 : decode prog_15_method_42_code 47 = .ok (.getfield 129, 3) := by decide +kernel
theorem d_GM_asNumber_50 : decode prog_15_method_42_code 50 = .ok (.iconst 0, 1) := by decide +kernel
theorem d_GM_asNumber_51 : decode prog_15_method_42_code 51 = .ok (.aload_n 0, 1) := by decide +kernel
theorem d_GM_asNumber_52 : decode prog_15_method_42_code 52 = .ok (.getfield 119, 3) := by decide +kernel
theorem d_GM_asNumber_55 : decode prog_15_method_42_code 55 = .ok (.iload_n 1, 1) := by decide +kernel
theorem d_GM_asNumber_56 : decode prog_15_method_42_code 56 = .ok (.iaload, 1) := by decide +kernel
theorem d_GM_asNumber_57 : decode prog_15_method_42_code 57 = .ok (.invokevirtual 185, 3) := by decide +kernel
theorem d_GM_asNumber_60 : decode prog_15_method_42_code 60 = .ok (.ifCond .ne 5, 3) := by decide +kernel
theorem d_GM_asNumber_65 : decode prog_15_method_42_code 65 = .ok (.aload_n 0, 1) := by decide +kernel
theorem d_GM_asNumber_66 : decode prog_15_method_42_code 66 = .ok (.getfield 122, 3) := by decide +kernel
theorem d_GM_asNumber_69 : decode prog_15_method_42_code 69 = .ok (.iload_n 1, 1) := by decide +kernel
theorem d_GM_asNumber_70 : decode prog_15_method_42_code 70 = .ok (.aload_n 0, 1) := by decide +kernel
theorem d_GM_asNumber_71 : decode prog_15_method_42_code 71 = .ok (.getfield 174, 3) := by decide +kernel
theorem d_GM_asNumber_74 : decode prog_15_method_42_code 74 = .ok (.lastore, 1) := by decide +kernel
theorem d_GM_asNumber_63 : decode prog_15_method_42_code 63 = .ok (.iconst 0, 1) := by decide +kernel
theorem d_GM_asNumber_64 : decode prog_15_method_42_code 64 = .ok (.ireturn, 1) := by decide +kernel
theorem d_GM_asNumber_22 : decode prog_15_method_42_code 22 = .ok (.aload_n 0, 1) := by decide +kernel
theorem d_GM_asNumber_23 : decode prog_15_method_42_code 23 = .ok (.getfield 129, 3) := by decide +kernel
theorem d_GM_asNumber_26 : decode prog_15_method_42_code 26 = .ok (.iload_n 2, 1) := by decide +kernel
theorem d_GM_asNumber_27 : decode prog_15_method_42_code 27 = .ok (.aload_n 0, 1) := by decide +kernel
theorem d_GM_asNumber_28 : decode prog_15_method_42_code 28 = .ok (.getfield 126, 3) := by decide +kernel
theorem d_GM_asNumber_31 : decode prog_15_method_42_code 31 = .ok (.bipush 64, 2) := by decide +kernel
theorem d_GM_asNumber_33 : decode prog_15_method_42_code 33 = .ok (.iload_n 1, 1) := by decide +kernel
theorem d_GM_asNumber_34 : decode prog_15_method_42_code 34 = .ok (.imul, 1) := by decide +kernel
theorem d_GM_asNumber_35 : decode prog_15_method_42_code 35 = .ok (.iload_n 2, 1) := by decide +kernel
theorem d_GM_asNumber_36 : decode prog_15_method_42_code 36 = .ok (.iadd, 1) := by decide +kernel
theorem d_GM_asNumber_37 : decode prog_15_method_42_code 37 = .ok (.baload, 1) := by decide +kernel
theorem d_GM_asNumber_38 : decode prog_15_method_42_code 38 = .ok (.bastore, 1) := by decide +kernel
theorem d_GM_asNumber_39 : decode prog_15_method_42_code 39 = .ok (.iinc 2 1, 3) := by decide +kernel
theorem d_GM_asNumber_42 : decode prog_15_method_42_code 42 = .ok (.goto (-30), 3) := by decide +kernel
set_option maxHeartbeats 4000000 in
theorem w_GM_asNumber_0 {l : Launch} {G : gG} {d : Nat} {X : gX} {M : gM} {k : Int → gM → Prop} {o : Nat} (hX : gmX X o) {x1 : Int} (hx1 : g32 x1) (T : ((0 : Int) ≤ x1 ∧ x1 < 1200) ∧ (g32 (M (o + 34) (Int.toNat x1)) → ((¬ M (o + 34) (Int.toNat x1) = 2 → (((0 : Int) ≤ x1 ∧ x1 < 1200) ∧ (g32 (M (o + 34) (Int.toNat x1)) → ((¬ M (o + 34) (Int.toNat x1) = 0 → (((0 : Int) ≤ x1 ∧ x1 < 1200) ∧ (((0 : Int) ≤ x1 ∧ x1 < 1200) ∧ (k 1 (gUp (gUp M (o + 34) (Int.toNat x1) 1) (o + 35) (Int.toNat x1) 0))))) ∧ (M (o + 34) (Int.toNat x1) = 0 → (((0 : Int) ≤ x1 ∧ x1 < 1200) ∧ (((0 : Int) ≤ x1 ∧ x1 < 1200) ∧ (((0 : Int) ≤ x1 ∧ x1 < 1200) ∧ (k 1 (gUp (gUp (gUp M (o + 36) (Int.toNat x1) 0) (o + 34) (Int.toNat x1) 1) (o + 35) (Int.toNat x1) 0)))))))))) ∧ (M (o + 34) (Int.toNat x1) = 2 → (wp l G y_GM_asNumber (gRm (d + 1)) true (kkZ X k) true 12 [.val (gR G o), .val (gI x1), .val (gI 0)] [] X M 0 0))))) : wp l G y_GM_asNumber (gRm (d + 1)) true (kkZ X k) false 0 [.val (gR G o), .val (gI x1), .unset] [] X M 0 0 := by
  refine wp_aload_n d_GM_asNumber_0 rfl rfl (g_nz hX.1) ?_
  refine xgetR d_GM_asNumber_1 gc_GM f_GM_116.1 f_GM_116.2.1 f_GM_116.2.2.1 hX.1 (gm_o2 hX) hX.2.2.1 f_GM_116.2.2.2.2.1 (gm_row hX 33 rfl).1 ?_
  refine wp_iload_n d_GM_asNumber_4 rfl rfl ?_
  refine wp_iaload d_GM_asNumber_5 (gm_row hX 33 rfl).2.2.1 (gm_row hX 33 rfl).2.2.2 (gm_row hX 33 rfl).2.1 (g32_n T.1 (by decide)) T.1.1 T.1.2 (fun h1 => ?_)
  have T := T.2 h1
  refine wp_iconst d_GM_asNumber_6 ?_
  refine xi_ne (tgt := 75) d_GM_asNumber_7 (by decide) (w32_id h1) (w32_id (g32_c (x := 2) rfl)) (fun h4 => ?_) (fun h4 => ?_)
  · have T := T.1 h4
    refine wp_aload_n d_GM_asNumber_75 rfl rfl (g_nz hX.1) ?_
    refine xgetR d_GM_asNumber_76 gc_GM f_GM_116.1 f_GM_116.2.1 f_GM_116.2.2.1 hX.1 (gm_o2 hX) hX.2.2.1 f_GM_116.2.2.2.2.1 (gm_row hX 33 rfl).1 ?_
    refine wp_iload_n d_GM_asNumber_79 rfl rfl ?_
    refine wp_iaload d_GM_asNumber_80 (gm_row hX 33 rfl).2.2.1 (gm_row hX 33 rfl).2.2.2 (gm_row hX 33 rfl).2.1 (g32_n T.1 (by decide)) T.1.1 T.1.2 (fun h2 => ?_)
    have T := T.2 h2
    refine xz_ne (tgt := 91) d_GM_asNumber_81 (by decide) (w32_id h2) (fun h3 => ?_) (fun h3 => ?_)
    · have T := T.1 h3
      refine wp_aload_n d_GM_asNumber_91 rfl rfl (g_nz hX.1) ?_
      refine xgetR d_GM_asNumber_92 gc_GM f_GM_116.1 f_GM_116.2.1 f_GM_116.2.2.1 hX.1 (gm_o2 hX) hX.2.2.1 f_GM_116.2.2.2.2.1 (gm_row hX 33 rfl).1 ?_
      refine wp_iload_n d_GM_asNumber_95 rfl rfl ?_
      refine wp_iconst d_GM_asNumber_96 ?_
      refine xiast d_GM_asNumber_97 (gm_row hX 33 rfl).2.2.1 (gm_row hX 33 rfl).2.2.2 (gm_row hX 33 rfl).2.1 (by decide) T.1 (w32_id (g32_c (x := 1) rfl)) ?_
      have T := T.2
      refine wp_aload_n d_GM_asNumber_98 rfl rfl (g_nz hX.1) ?_
      refine xgetR d_GM_asNumber_99 gc_GM f_GM_119.1 f_GM_119.2.1 f_GM_119.2.2.1 hX.1 (gm_o2 hX) hX.2.2.1 f_GM_119.2.2.2.2.1 (gm_row hX 34 rfl).1 ?_
      refine wp_iload_n d_GM_asNumber_102 rfl rfl ?_
      refine wp_iconst d_GM_asNumber_103 ?_
      refine xiast d_GM_asNumber_104 (gm_row hX 34 rfl).2.2.1 (gm_row hX 34 rfl).2.2.2 (gm_row hX 34 rfl).2.1 (by decide) T.1 (w32_id (g32_c (x := 0) rfl)) ?_
      have T := T.2
      refine wp_iconst d_GM_asNumber_105 ?_
      exact wp_zreturn d_GM_asNumber_106 rfl (g_narz (⟨by decide, by decide⟩ : (0 : Int) ≤ 1 ∧ (1 : Int) ≤ 1)) (fun _ => rfl) (Nat.zero_le _) (Nat.zero_le _) (kZ_mk (⟨by decide, by decide⟩ : (0 : Int) ≤ 1 ∧ (1 : Int) ≤ 1) T)
    · have T := T.2 h3
      refine wp_aload_n d_GM_asNumber_84 rfl rfl (g_nz hX.1) ?_
      refine xgetR d_GM_asNumber_85 gc_GM f_GM_122.1 f_GM_122.2.1 f_GM_122.2.2.1 hX.1 (gm_o2 hX) hX.2.2.1 f_GM_122.2.2.2.2.1 (gm_row hX 35 rfl).1 ?_
      refine wp_iload_n d_GM_asNumber_88 rfl rfl ?_
      refine wp_lconst0 d_GM_asNumber_89 ?_
      refine xlast d_GM_asNumber_90 (gm_row hX 35 rfl).2.2.1 (gm_row hX 35 rfl).2.2.2 (gm_row hX 35 rfl).2.1 (by decide) T.1 (w64_id (g64_c (x := 0) rfl)) ?_
      have T := T.2
      refine wp_aload_n d_GM_asNumber_91 rfl rfl (g_nz hX.1) ?_
      refine xgetR d_GM_asNumber_92 gc_GM f_GM_116.1 f_GM_116.2.1 f_GM_116.2.2.1 hX.1 (gm_o2 hX) hX.2.2.1 f_GM_116.2.2.2.2.1 (gm_row hX 33 rfl).1 ?_
      refine wp_iload_n d_GM_asNumber_95 rfl rfl ?_
      refine wp_iconst d_GM_asNumber_96 ?_
      refine xiast d_GM_asNumber_97 (gm_row hX 33 rfl).2.2.1 (gm_row hX 33 rfl).2.2.2 (gm_row hX 33 rfl).2.1 (by decide) T.1 (w32_id (g32_c (x := 1) rfl)) ?_
      have T := T.2
      refine wp_aload_n d_GM_asNumber_98 rfl rfl (g_nz hX.1) ?_
      refine xgetR d_GM_asNumber_99 gc_GM f_GM_119.1 f_GM_119.2.1 f_GM_119.2.2.1 hX.1 (gm_o2 hX) hX.2.2.1 f_GM_119.2.2.2.2.1 (gm_row hX 34 rfl).1 ?_
      refine wp_iload_n d_GM_asNumber_102 rfl rfl ?_
      refine wp_iconst d_GM_asNumber_103 ?_
      refine xiast d_GM_asNumber_104 (gm_row hX 34 rfl).2.2.1 (gm_row hX 34 rfl).2.2.2 (gm_row hX 34 rfl).2.1 (by decide) T.1 (w32_id (g32_c (x := 0) rfl)) ?_
      have T := T.2
      refine wp_iconst d_GM_asNumber_105 ?_
      exact wp_zreturn d_GM_asNumber_106 rfl (g_narz (⟨by decide, by decide⟩ : (0 : Int) ≤ 1 ∧ (1 : Int) ≤ 1)) (fun _ => rfl) (Nat.zero_le _) (Nat.zero_le _) (kZ_mk (⟨by decide, by decide⟩ : (0 : Int) ≤ 1 ∧ (1 : Int) ≤ 1) T)
  · have T := T.2 h4
    refine wp_iconst d_GM_asNumber_10 ?_
    refine wp_istore_n (L' := [.val (gR G o), .val (gI x1), .val (gI 0)]) d_GM_asNumber_11 rfl (by decide) rfl ?_
    exact wp_md (wpt T (And.intro rfl (And.intro rfl (And.intro rfl True.intro))))
set_option maxHeartbeats 4000000 in
theorem w_GM_asNumber_12 {l : Launch} {G : gG} {d : Nat} {X : gX} {M : gM} {k : Int → gM → Prop} {o : Nat} (hX : gmX X o) {x1 : Int} (hx1 : g32 x1) {x2 : Int} (hx2 : g32 x2) (T : ((0 : Int) ≤ x1 ∧ x1 < 1200) ∧ (g32 (M (o + 35) (Int.toNat x1)) → ((M (o + 35) (Int.toNat x1) ≤ x2 → (((0 : Int) ≤ x1 ∧ x1 < 1200) ∧ (g32 (M (o + 35) (Int.toNat x1)) → (cZ l G y_GM_isNumber (gRm d) true [gR G o, gR G (o + 38), gI 0, gI (M (o + 35) (Int.toNat x1))] X M (fun v8 M7 => ((¬ v8 = 0 → (g64 (M7 o 3) → (((0 : Int) ≤ x1 ∧ x1 < 1200) ∧ (((0 : Int) ≤ x1 ∧ x1 < 1200) ∧ (g32 ((gUp M7 (o + 36) (Int.toNat x1) (M7 o 3)) (o + 34) (Int.toNat x1)) → ((¬ (gUp M7 (o + 36) (Int.toNat x1) (M7 o 3)) (o + 34) (Int.toNat x1) = 0 → (((0 : Int) ≤ x1 ∧ x1 < 1200) ∧ (((0 : Int) ≤ x1 ∧ x1 < 1200) ∧ (k 1 (gUp (gUp (gUp M7 (o + 36) (Int.toNat x1) (M7 o 3)) (o + 34) (Int.toNat x1) 1) (o + 35) (Int.toNat x1) 0))))) ∧ ((gUp M7 (o + 36) (Int.toNat x1) (M7 o 3)) (o + 34) (Int.toNat x1) = 0 → (((0 : Int) ≤ x1 ∧ x1 < 1200) ∧ (((0 : Int) ≤ x1 ∧ x1 < 1200) ∧ (((0 : Int) ≤ x1 ∧ x1 < 1200) ∧ (k 1 (gUp (gUp (gUp (gUp M7 (o + 36) (Int.toNat x1) (M7 o 3)) (o + 36) (Int.toNat x1) 0) (o + 34) (Int.toNat x1) 1) (o + 35) (Int.toNat x1) 0)))))))))))) ∧ (v8 = 0 → (k 0 M7)))))))) ∧ (¬ M (o + 35) (Int.toNat x1) ≤ x2 → (((0 : Int) ≤ (64 * x1) + x2 ∧ (64 * x1) + x2 < 76800) ∧ ((-128 ≤ M (o + 37) (Int.toNat ((64 * x1) + x2)) ∧ M (o + 37) (Int.toNat ((64 * x1) + x2)) < 128) → (((0 : Int) ≤ x2 ∧ x2 < 64) ∧ (wp l G y_GM_asNumber (gRm (d + 1)) true (kkZ X k) true 12 [.val (gR G o), .val (gI x1), .val (gI (w32 (x2 + 1)))] [] X (gUp M (o + 38) (Int.toNat x2) (gByte (M (o + 37) (Int.toNat ((64 * x1) + x2))))) 0 0)))))))) : wp l G y_GM_asNumber (gRm (d + 1)) true (kkZ X k) true 12 [.val (gR G o), .val (gI x1), .val (gI x2)] [] X M 0 0 := by
  refine wp_iload_n d_GM_asNumber_12 rfl rfl ?_
  refine wp_aload_n d_GM_asNumber_13 rfl rfl (g_nz hX.1) ?_
  refine xgetR d_GM_asNumber_14 gc_GM f_GM_119.1 f_GM_119.2.1 f_GM_119.2.2.1 hX.1 (gm_o2 hX) hX.2.2.1 f_GM_119.2.2.2.2.1 (gm_row hX 34 rfl).1 ?_
  refine wp_iload_n d_GM_asNumber_17 rfl rfl ?_
  refine wp_iaload d_GM_asNumber_18 (gm_row hX 34 rfl).2.2.1 (gm_row hX 34 rfl).2.2.2 (gm_row hX 34 rfl).2.1 (g32_n T.1 (by decide)) T.1.1 T.1.2 (fun h5 => ?_)
  have T := T.2 h5
  refine xi_ge (tgt := 45) d_GM_asNumber_19 (by decide) (w32_id hx2) (w32_id h5) (fun h15 => ?_) (fun h15 => ?_)
  · have T := T.1 h15
    refine wp_aload_n d_GM_asNumber_45 rfl rfl (g_nz hX.1) ?_
    refine wp_aload_n d_GM_asNumber_46 rfl rfl (g_nz hX.1) ?_
    refine xgetR d_GM_asNumber_47 gc_GM f_GM_129.1 f_GM_129.2.1 f_GM_129.2.2.1 hX.1 (gm_o2 hX) hX.2.2.1 f_GM_129.2.2.2.2.1 (gm_row hX 37 rfl).1 ?_
    refine wp_iconst d_GM_asNumber_50 ?_
    refine wp_aload_n d_GM_asNumber_51 rfl rfl (g_nz hX.1) ?_
    refine xgetR d_GM_asNumber_52 gc_GM f_GM_119.1 f_GM_119.2.1 f_GM_119.2.2.1 hX.1 (gm_o2 hX) hX.2.2.1 f_GM_119.2.2.2.2.1 (gm_row hX 34 rfl).1 ?_
    refine wp_iload_n d_GM_asNumber_55 rfl rfl ?_
    refine wp_iaload d_GM_asNumber_56 (gm_row hX 34 rfl).2.2.1 (gm_row hX 34 rfl).2.2.2 (gm_row hX 34 rfl).2.1 (g32_n T.1 (by decide)) T.1.1 T.1.2 (fun h6 => ?_)
    have T := T.2 h6
    refine xcV_Z (md' := true) (As := [gR G (o + 38), gI 0, gI (M (o + 35) (Int.toNat x1))]) (st := []) d_GM_asNumber_57 ca_GM_isNumber ml_GM_185 im_GM_isNumber se_GM_isNumber gc_GM hX.1 (gm_o2 hX) hX.2.2.1 rfl (by decide) (by decide) rfl (fun _ => rfl) (fun _ => rfl) T (fun v8 M7 h9 T => ?_)
    refine xz_ne (tgt := 65) d_GM_asNumber_60 (by decide) (w32_id (g32_z h9)) (fun h13 => ?_) (fun h13 => ?_)
    · have T := T.1 h13
      refine wp_aload_n d_GM_asNumber_65 rfl rfl (g_nz hX.1) ?_
      refine xgetR d_GM_asNumber_66 gc_GM f_GM_122.1 f_GM_122.2.1 f_GM_122.2.2.1 hX.1 (gm_o2 hX) hX.2.2.1 f_GM_122.2.2.2.2.1 (gm_row hX 35 rfl).1 ?_
      refine wp_iload_n d_GM_asNumber_69 rfl rfl ?_
      refine wp_aload_n d_GM_asNumber_70 rfl rfl (g_nz hX.1) ?_
      refine xgetJ d_GM_asNumber_71 gc_GM f_GM_174.1 f_GM_174.2.1 f_GM_174.2.2.1 hX.1 (gm_o2 hX) hX.2.2.1 f_GM_174.2.2.2.2.1 (fun h10 => ?_)
      have T := T h10
      refine xlast d_GM_asNumber_74 (gm_row hX 35 rfl).2.2.1 (gm_row hX 35 rfl).2.2.2 (gm_row hX 35 rfl).2.1 (by decide) T.1 (w64_id h10) ?_
      have T := T.2
      refine wp_aload_n d_GM_asNumber_75 rfl rfl (g_nz hX.1) ?_
      refine xgetR d_GM_asNumber_76 gc_GM f_GM_116.1 f_GM_116.2.1 f_GM_116.2.2.1 hX.1 (gm_o2 hX) hX.2.2.1 f_GM_116.2.2.2.2.1 (gm_row hX 33 rfl).1 ?_
      refine wp_iload_n d_GM_asNumber_79 rfl rfl ?_
      refine wp_iaload d_GM_asNumber_80 (gm_row hX 33 rfl).2.2.1 (gm_row hX 33 rfl).2.2.2 (gm_row hX 33 rfl).2.1 (g32_n T.1 (by decide)) T.1.1 T.1.2 (fun h11 => ?_)
      have T := T.2 h11
      refine xz_ne (tgt := 91) d_GM_asNumber_81 (by decide) (w32_id h11) (fun h12 => ?_) (fun h12 => ?_)
      · have T := T.1 h12
        refine wp_aload_n d_GM_asNumber_91 rfl rfl (g_nz hX.1) ?_
        refine xgetR d_GM_asNumber_92 gc_GM f_GM_116.1 f_GM_116.2.1 f_GM_116.2.2.1 hX.1 (gm_o2 hX) hX.2.2.1 f_GM_116.2.2.2.2.1 (gm_row hX 33 rfl).1 ?_
        refine wp_iload_n d_GM_asNumber_95 rfl rfl ?_
        refine wp_iconst d_GM_asNumber_96 ?_
        refine xiast d_GM_asNumber_97 (gm_row hX 33 rfl).2.2.1 (gm_row hX 33 rfl).2.2.2 (gm_row hX 33 rfl).2.1 (by decide) T.1 (w32_id (g32_c (x := 1) rfl)) ?_
        have T := T.2
        refine wp_aload_n d_GM_asNumber_98 rfl rfl (g_nz hX.1) ?_
        refine xgetR d_GM_asNumber_99 gc_GM f_GM_119.1 f_GM_119.2.1 f_GM_119.2.2.1 hX.1 (gm_o2 hX) hX.2.2.1 f_GM_119.2.2.2.2.1 (gm_row hX 34 rfl).1 ?_
        refine wp_iload_n d_GM_asNumber_102 rfl rfl ?_
        refine wp_iconst d_GM_asNumber_103 ?_
        refine xiast d_GM_asNumber_104 (gm_row hX 34 rfl).2.2.1 (gm_row hX 34 rfl).2.2.2 (gm_row hX 34 rfl).2.1 (by decide) T.1 (w32_id (g32_c (x := 0) rfl)) ?_
        have T := T.2
        refine wp_iconst d_GM_asNumber_105 ?_
        exact wp_zreturn d_GM_asNumber_106 rfl (g_narz (⟨by decide, by decide⟩ : (0 : Int) ≤ 1 ∧ (1 : Int) ≤ 1)) (fun _ => rfl) (Nat.zero_le _) (Nat.zero_le _) (kZ_mk (⟨by decide, by decide⟩ : (0 : Int) ≤ 1 ∧ (1 : Int) ≤ 1) T)
      · have T := T.2 h12
        refine wp_aload_n d_GM_asNumber_84 rfl rfl (g_nz hX.1) ?_
        refine xgetR d_GM_asNumber_85 gc_GM f_GM_122.1 f_GM_122.2.1 f_GM_122.2.2.1 hX.1 (gm_o2 hX) hX.2.2.1 f_GM_122.2.2.2.2.1 (gm_row hX 35 rfl).1 ?_
        refine wp_iload_n d_GM_asNumber_88 rfl rfl ?_
        refine wp_lconst0 d_GM_asNumber_89 ?_
        refine xlast d_GM_asNumber_90 (gm_row hX 35 rfl).2.2.1 (gm_row hX 35 rfl).2.2.2 (gm_row hX 35 rfl).2.1 (by decide) T.1 (w64_id (g64_c (x := 0) rfl)) ?_
        have T := T.2
        refine wp_aload_n d_GM_asNumber_91 rfl rfl (g_nz hX.1) ?_
        refine xgetR d_GM_asNumber_92 gc_GM f_GM_116.1 f_GM_116.2.1 f_GM_116.2.2.1 hX.1 (gm_o2 hX) hX.2.2.1 f_GM_116.2.2.2.2.1 (gm_row hX 33 rfl).1 ?_
        refine wp_iload_n d_GM_asNumber_95 rfl rfl ?_
        refine wp_iconst d_GM_asNumber_96 ?_
        refine xiast d_GM_asNumber_97 (gm_row hX 33 rfl).2.2.1 (gm_row hX 33 rfl).2.2.2 (gm_row hX 33 rfl).2.1 (by decide) T.1 (w32_id (g32_c (x := 1) rfl)) ?_
        have T := T.2
        refine wp_aload_n d_GM_asNumber_98 rfl rfl (g_nz hX.1) ?_
        refine xgetR d_GM_asNumber_99 gc_GM f_GM_119.1 f_GM_119.2.1 f_GM_119.2.2.1 hX.1 (gm_o2 hX) hX.2.2.1 f_GM_119.2.2.2.2.1 (gm_row hX 34 rfl).1 ?_
        refine wp_iload_n d_GM_asNumber_102 rfl rfl ?_
        refine wp_iconst d_GM_asNumber_103 ?_
        refine xiast d_GM_asNumber_104 (gm_row hX 34 rfl).2.2.1 (gm_row hX 34 rfl).2.2.2 (gm_row hX 34 rfl).2.1 (by decide) T.1 (w32_id (g32_c (x := 0) rfl)) ?_
        have T := T.2
        refine wp_iconst d_GM_asNumber_105 ?_
        exact wp_zreturn d_GM_asNumber_106 rfl (g_narz (⟨by decide, by decide⟩ : (0 : Int) ≤ 1 ∧ (1 : Int) ≤ 1)) (fun _ => rfl) (Nat.zero_le _) (Nat.zero_le _) (kZ_mk (⟨by decide, by decide⟩ : (0 : Int) ≤ 1 ∧ (1 : Int) ≤ 1) T)
    · have T := T.2 h13
      refine wp_iconst d_GM_asNumber_63 ?_
      exact wp_zreturn d_GM_asNumber_64 rfl (g_narz (⟨by decide, by decide⟩ : (0 : Int) ≤ 0 ∧ (0 : Int) ≤ 1)) (fun _ => rfl) (Nat.zero_le _) (Nat.zero_le _) (kZ_mk (⟨by decide, by decide⟩ : (0 : Int) ≤ 0 ∧ (0 : Int) ≤ 1) T)
  · have T := T.2 h15
    refine wp_aload_n d_GM_asNumber_22 rfl rfl (g_nz hX.1) ?_
    refine xgetR d_GM_asNumber_23 gc_GM f_GM_129.1 f_GM_129.2.1 f_GM_129.2.2.1 hX.1 (gm_o2 hX) hX.2.2.1 f_GM_129.2.2.2.2.1 (gm_row hX 37 rfl).1 ?_
    refine wp_iload_n d_GM_asNumber_26 rfl rfl ?_
    refine wp_aload_n d_GM_asNumber_27 rfl rfl (g_nz hX.1) ?_
    refine xgetR d_GM_asNumber_28 gc_GM f_GM_126.1 f_GM_126.2.1 f_GM_126.2.2.1 hX.1 (gm_o2 hX) hX.2.2.1 f_GM_126.2.2.2.2.1 (gm_row hX 36 rfl).1 ?_
    refine wp_bipush d_GM_asNumber_31 ⟨by decide, by decide⟩ ?_
    refine wp_iload_n d_GM_asNumber_33 rfl rfl ?_
    refine wp_imul d_GM_asNumber_34 ?_
    refine wp_iload_n d_GM_asNumber_35 rfl rfl ?_
    refine wp_iadd d_GM_asNumber_36 ?_
    refine wp_baload d_GM_asNumber_37 (gm_row hX 36 rfl).2.2.1 (gm_row hX 36 rfl).2.2.2 (gm_row hX 36 rfl).2.1 (g32_n T.1 (by decide)) T.1.1 T.1.2 (fun h14 => ?_)
    have T := T.2 h14
    refine xbast d_GM_asNumber_38 (gm_row hX 37 rfl).2.2.1 (gm_row hX 37 rfl).2.2.2 (gm_row hX 37 rfl).2.1 (by decide) T.1 ?_
    have T := T.2
    refine wp_iinc (L' := [.val (gR G o), .val (gI x1), .val (gI (x2 + 1))]) d_GM_asNumber_39 rfl (by decide) rfl ?_
    refine wp_goto (tgt := 12) d_GM_asNumber_42 (by decide) ?_
    exact wp_md (wpt T (And.intro rfl (And.intro rfl (And.intro (gI_w _) True.intro))))
theorem e_GM_asNumber {l : Launch} {G : gG} {d : Nat} {X : gX} {M : gM} {k : Int → gM → Prop} {o : Nat} {x1 : Int} (T : wp l G y_GM_asNumber (gRm (d + 1)) true (kkZ X k) false 0 [.val (gR G o), .val (gI x1), .unset] [] X M 0 0) : cZ l G y_GM_asNumber (gRm (d + 1)) true [gR G o, gI x1] X M k := cen_Z (plainFor_of_name rfl) (by simp only [lg_sl_R, lg_sl_I, lg_sl_L, lg_sl_N, List.length_cons, List.length_nil]; decide) (by unfold gEn; simp only [lg_sl_R, lg_sl_I, lg_sl_L, lg_sl_N]; exact wpt T (And.intro rfl (And.intro rfl True.intro)))
theorem d_GM_digits_0 : decode prog_15_method_45_code 0 = .ok (.iconst 0, 1) := by decide +kernel
theorem d_GM_digits_1 : decode prog_15_method_45_code 1 = .ok (.istore 4, 2) := by decide +kernel
theorem d_GM_digits_3 : decode prog_15_method_45_code 3 = .ok (.lload_n 2, 1) := by decide +kernel
theorem d_GM_digits_4 : decode prog_15_method_45_code 4 = .ok (.lstore 5, 2) := by decide +kernel
theorem d_GM_digits_6 : decode prog_15_method_45_code 6 = .ok (.lload 5, 2) := by decide +kernel
theorem d_GM_digits_8 : decode prog_15_method_45_code 8 = .ok (.ldc2_w 172, 3) := by decide +kernel
theorem d_GM_digits_11 : decode prog_15_method_45_code 11 = .ok (.lrem, 1) := by decide +kernel
theorem d_GM_digits_12 : decode prog_15_method_45_code 12 = .ok (.lstore 7, 2) := by decide +kernel
theorem d_GM_digits_14 : decode prog_15_method_45_code 14 = .ok (.aload_n 0, 1) := by decide +kernel
theorem d_GM_digits_15 : decode prog_15_method_45_code 15 = .ok (.getfield 129, 3) := by decide +kernel
theorem d_GM_digits_18 : decode prog_15_method_45_code 18 = .ok (.iload 4, 2) := by decide +kernel
theorem d_GM_digits_20 : decode prog_15_method_45_code 20 = .ok (.ldc2_w 322, 3) := by decide +kernel
theorem d_GM_digits_23 : decode prog_15_method_45_code 23 = .ok (.lload 7, 2) := by decide +kernel
theorem d_GM_digits_25 : decode prog_15_method_45_code 25 = .ok (.lconst 0, 1) := by decide +kernel
theorem d_GM_digits_26 : decode prog_15_method_45_code 26 = .ok (.lcmp, 1) := by decide +kernel
theorem d_GM_digits_27 : decode prog_15_method_45_code 27 = .ok (.ifCond .ge 9, 3) := by decide +kernel
theorem d_GM_digits_36 : decode prog_15_method_45_code 36 = .ok (.lload 7, 2) := by decide +kernel
theorem d_GM_digits_38 : decode prog_15_method_45_code 38 = .ok (.ladd, 1) := by decide +kernel
theorem d_GM_digits_39 : decode prog_15_method_45_code 39 = .ok (.l2i, 1) := by decide +kernel
theorem d_GM_digits_40 : decode prog_15_method_45_code 40 = .ok (.i2b, 1) := by decide +kernel
theorem d_GM_digits_41 : decode prog_15_method_45_code 41 = .ok (.bastore, 1) := by decide +kernel
theorem d_GM_digits_42 : decode prog_15_method_45_code 42 = .ok (.lload 5, 2) := by decide +kernel
theorem d_GM_digits_44 : decode prog_15_method_45_code 44 = .ok (.ldc2_w 172, 3) := by decide +kernel
theorem d_GM_digits_47 : decode prog_15_method_45_code 47 = .ok (.ldiv, 1) := by decide +kernel
theorem d_GM_digits_48 : decode prog_15_method_45_code 48 = .ok (.lstore 5, 2) := by decide +kernel
theorem d_GM_digits_50 : decode prog_15_method_45_code 50 = .ok (.iinc 4 1, 3) := by decide +kernel
theorem d_GM_digits_53 : decode prog_15_method_45_code 53 = .ok (.lload 5, 2) := by decide +kernel
theorem d_GM_digits_55 : decode prog_15_method_45_code 55 = .ok (.lconst 0, 1) := by decide +kernel
theorem d_GM_digits_56 : decode prog_15_method_45_code 56 = .ok (.lcmp, 1) := by decide +kernel
theorem d_GM_digits_57 : decode prog_15_method_45_code 57 = .ok (.ifCond .ne (-51), 3) := by decide +kernel
theorem d_GM_digits_60 : decode prog_15_method_45_code 60 = .ok (.lload_n 2, 1) := by decide +kernel
theorem d_GM_digits_61 : decode prog_15_method_45_code 61 = .ok (.lconst 0, 1) := by decide +kernel
theorem d_GM_digits_62 : decode prog_15_method_45_code 62 = .ok (.lcmp, 1) := by decide +kernel
theorem d_GM_digits_63 : decode prog_15_method_45_code 63 = .ok (.ifCond .ge 12, 3) := by decide +kernel
theorem d_GM_digits_75 : decode prog_15_method_45_code 75 = .ok (.lload_n 2, 1) := by decide +kernel
theorem d_GM_digits_76 : decode prog_15_method_45_code 76 = .ok (.lconst 0, 1) := by decide +kernel
theorem d_GM_digits_77 : decode prog_15_method_45_code 77 = .ok (.lcmp, 1) := by decide +kernel
theorem d_GM_digits_78 : decode prog_15_method_45_code 78 = .ok (.ifCond .ge 6, 3) := by decide +kernel
theorem d_GM_digits_84 : decode prog_15_method_45_code 84 = .ok (.aload_n 0, 1) := by decide +kernel
theorem d_GM_digits_85 : decode prog_15_method_45_code 85 = .ok (.getfield 119, 3) := by decide +kernel
theorem d_GM_digits_88 : decode prog_15_method_45_code 88 = .ok (.iload_n 1, 1) := by decide +kernel
theorem d_GM_digits_89 : decode prog_15_method_45_code 89 = .ok (.iload 4, 2) := by decide +kernel
theorem d_GM_digits_91 : decode prog_15_method_45_code 91 = .ok (.iastore, 1) := by decide +kernel
theorem d_GM_digits_92 : decode prog_15_method_45_code 92 = .ok (.iconst 0, 1) := by decide +kernel
theorem d_GM_digits_93 : decode prog_15_method_45_code 93 = .ok (.istore 7, 2) := by decide +kernel
theorem d_GM_digits_81 : decode prog_15_method_45_code 81 = .ok (.iinc 4 1, 3) := by decide +kernel
theorem d_GM_digits_66 : decode prog_15_method_45_code 66 = .ok (.aload_n 0, 1) := by decide +kernel
theorem d_GM_digits_67 : decode prog_15_method_45_code 67 = .ok (.getfield 129, 3) := by decide +kernel
theorem d_GM_digits_70 : decode prog_15_method_45_code 70 = .ok (.iload 4, 2) := by decide +kernel
theorem d_GM_digits_72 : decode prog_15_method_45_code 72 = .ok (.bipush 45, 2) := by decide +kernel
theorem d_GM_digits_74 : decode prog_15_method_45_code 74 = .ok (.bastore, 1) := by decide +kernel
theorem d_GM_digits_30 : decode prog_15_method_45_code 30 = .ok (.lload 7, 2) := by decide +kernel
theorem d_GM_digits_32 : decode prog_15_method_45_code 32 = .ok (.lneg, 1) := by decide +kernel
theorem d_GM_digits_33 : decode prog_15_method_45_code 33 = .ok (.goto 5, 3) := by decide +kernel
theorem d_GM_digits_95 : decode prog_15_method_45_code 95 = .ok (.iload 7, 2) := by decide +kernel
theorem d_GM_digits_97 : decode prog_15_method_45_code 97 = .ok (.iload 4, 2) := by decide +kernel
theorem d_GM_digits_99 : decode prog_15_method_45_code 99 = .ok (.if_icmp .ge 33, 3) := by decide +kernel
theorem d_GM_digits_132 : decode prog_15_method_45_code 132 = .ok (.return_, 1) := by decide +kernel
theorem d_GM_digits_102 : decode prog_15_method_45_code 102 = .ok (.aload_n 0, 1) := by decide +kernel
theorem d_GM_digits_103 : decode prog_15_method_45_code 103 = .ok (.getfield 126, 3) := by decide +kernel
theorem d_GM_digits_106 : decode prog_15_method_45_code 106 = .ok (.bipush 64, 2) := by decide +kernel
theorem d_GM_digits_108 : decode prog_15_method_45_code 108 = .ok (.iload_n 1, 1) := by decide +kernel
theorem d_GM_digits_109 : decode prog_15_method_45_code 109 = .ok (.imul, 1) := by decide +kernel
theorem d_GM_digits_110 : decode prog_15_method_45_code 110 = .ok (.iload 7, 2) := by decide +kernel
theorem d_GM_digits_112 : decode prog_15_method_45_code 112 = .ok (.iadd, 1) := by decide +kernel
theorem d_GM_digits_113 : decode prog_15_method_45_code 113 = .ok (.aload_n 0, 1) := by decide +kernel
theorem d_GM_digits_114 : decode prog_15_method_45_code 114 = .ok (.getfield 129, 3) := by decide +kernel
theorem d_GM_digits_117 : decode prog_15_method_45_code 117 = .ok (.iload 4, 2) := by decide +kernel
theorem d_GM_digits_119 : decode prog_15_method_45_code 119 = .ok (.iconst 1, 1) := by decide +kernel
theorem d_GM_digits_120 : decode prog_15_method_45_code 120 = .ok (.isub, 1) := by decide +kernel
theorem d_GM_digits_121 : decode prog_15_method_45_code 121 = .ok (.iload 7, 2) := by decide +kernel
theorem d_GM_digits_123 : decode prog_15_method_45_code 123 = .ok (.isub, 1) := by decide +kernel
theorem d_GM_digits_124 : decode prog_15_method_45_code 124 = .ok (.baload, 1) := by decide +kernel
theorem d_GM_digits_125 : decode prog_15_method_45_code 125 = .ok (.bastore, 1) := by decide +kernel
theorem d_GM_digits_126 : decode prog_15_method_45_code 126 = .ok (.iinc 7 1, 3) := by decide +kernel
theorem d_GM_digits_129 : decode prog_15_method_45_code 129 = .ok (.goto (-34), 3) := by decide +kernel
set_option maxHeartbeats 4000000 in
theorem w_GM_digits_0 {l : Launch} {G : gG} {d : Nat} {X : gX} {M : gM} {k : gM → Prop} {o : Nat} (hX : gmX X o) {x1 : Int} (hx1 : g32 x1) {x2 : Int} (hx2 : g64 x2) (T : wp l G y_GM_digits (gRm d) true (kkV X k) true 6 [.val (gR G o), .val (gI x1), .val (gL x2), .unset, .val (gI 0), .val (gL x2), .unset, .unset, .unset] [] X M 0 0) : wp l G y_GM_digits (gRm d) true (kkV X k) false 0 [.val (gR G o), .val (gI x1), .val (gL x2), .unset, .unset, .unset, .unset, .unset, .unset] [] X M 0 0 := by
  refine wp_iconst d_GM_digits_0 ?_
  refine wp_istore (L' := [.val (gR G o), .val (gI x1), .val (gL x2), .unset, .val (gI 0), .unset, .unset, .unset, .unset]) d_GM_digits_1 (by decide) rfl ?_
  refine wp_lload_n d_GM_digits_3 rfl rfl ?_
  refine wp_lstore (L' := [.val (gR G o), .val (gI x1), .val (gL x2), .unset, .val (gI 0), .val (gL x2), .unset, .unset, .unset]) d_GM_digits_4 (by decide) rfl ?_
  exact wp_md (wpt T (And.intro rfl (And.intro rfl (And.intro rfl (And.intro rfl (And.intro rfl True.intro))))))
set_option maxHeartbeats 4000000 in
theorem w_GM_digits_6 {l : Launch} {G : gG} {d : Nat} {X : gX} {M : gM} {k : gM → Prop} {o : Nat} (hX : gmX X o) {x1 : Int} (hx1 : g32 x1) {x2 : Int} (hx2 : g64 x2) {x4 : Int} (hx4 : g32 x4) {x5 : Int} (hx5 : g64 x5) (T : (0 ≤ (w64 (x5.tmod 10)) → (((0 : Int) ≤ x4 ∧ x4 < 64) ∧ ((¬ (w64 (x5.tdiv 10)) = 0 → (wp l G y_GM_digits (gRm d) true (kkV X k) true 6 [.val (gR G o), .val (gI x1), .val (gL x2), .unset, .val (gI (w32 (x4 + 1))), .val (gL (w64 (x5.tdiv 10))), .unset, .unset, .unset] [] X (gUp M (o + 38) (Int.toNat x4) (gByte (gByte (48 + (x5.tmod 10))))) 0 0)) ∧ ((w64 (x5.tdiv 10)) = 0 → ((0 ≤ x2 → ((0 ≤ x2 → (((0 : Int) ≤ x1 ∧ x1 < 1200) ∧ (wp l G y_GM_digits (gRm d) true (kkV X k) true 95 [.val (gR G o), .val (gI x1), .unset, .unset, .val (gI (w32 (x4 + 1))), .unset, .unset, .val (gI 0), .unset] [] X (gUp (gUp M (o + 38) (Int.toNat x4) (gByte (gByte (48 + (x5.tmod 10))))) (o + 35) (Int.toNat x1) (w32 (x4 + 1))) 0 0))) ∧ (¬ 0 ≤ x2 → (((0 : Int) ≤ x1 ∧ x1 < 1200) ∧ (wp l G y_GM_digits (gRm d) true (kkV X k) true 95 [.val (gR G o), .val (gI x1), .unset, .unset, .val (gI (w32 (x4 + 1 + 1))), .unset, .unset, .val (gI 0), .unset] [] X (gUp (gUp M (o + 38) (Int.toNat x4) (gByte (gByte (48 + (x5.tmod 10))))) (o + 35) (Int.toNat x1) (w32 (x4 + 1 + 1))) 0 0))))) ∧ (¬ 0 ≤ x2 → (((0 : Int) ≤ x4 + 1 ∧ x4 + 1 < 64) ∧ ((0 ≤ x2 → (((0 : Int) ≤ x1 ∧ x1 < 1200) ∧ (wp l G y_GM_digits (gRm d) true (kkV X k) true 95 [.val (gR G o), .val (gI x1), .unset, .unset, .val (gI (w32 (x4 + 1))), .unset, .unset, .val (gI 0), .unset] [] X (gUp (gUp (gUp M (o + 38) (Int.toNat x4) (gByte (gByte (48 + (x5.tmod 10))))) (o + 38) (Int.toNat (x4 + 1)) (gByte 45)) (o + 35) (Int.toNat x1) (w32 (x4 + 1))) 0 0))) ∧ (¬ 0 ≤ x2 → (((0 : Int) ≤ x1 ∧ x1 < 1200) ∧ (wp l G y_GM_digits (gRm d) true (kkV X k) true 95 [.val (gR G o), .val (gI x1), .unset, .unset, .val (gI (w32 (x4 + 1 + 1))), .unset, .unset, .val (gI 0), .unset] [] X (gUp (gUp (gUp M (o + 38) (Int.toNat x4) (gByte (gByte (48 + (x5.tmod 10))))) (o + 38) (Int.toNat (x4 + 1)) (gByte 45)) (o + 35) (Int.toNat x1) (w32 (x4 + 1 + 1))) 0 0))))))))))) ∧ (¬ 0 ≤ (w64 (x5.tmod 10)) → (((0 : Int) ≤ x4 ∧ x4 < 64) ∧ ((¬ (w64 (x5.tdiv 10)) = 0 → (wp l G y_GM_digits (gRm d) true (kkV X k) true 6 [.val (gR G o), .val (gI x1), .val (gL x2), .unset, .val (gI (w32 (x4 + 1))), .val (gL (w64 (x5.tdiv 10))), .unset, .unset, .unset] [] X (gUp M (o + 38) (Int.toNat x4) (gByte (gByte (48 + (-(x5.tmod 10)))))) 0 0)) ∧ ((w64 (x5.tdiv 10)) = 0 → ((0 ≤ x2 → ((0 ≤ x2 → (((0 : Int) ≤ x1 ∧ x1 < 1200) ∧ (wp l G y_GM_digits (gRm d) true (kkV X k) true 95 [.val (gR G o), .val (gI x1), .unset, .unset, .val (gI (w32 (x4 + 1))), .unset, .unset, .val (gI 0), .unset] [] X (gUp (gUp M (o + 38) (Int.toNat x4) (gByte (gByte (48 + (-(x5.tmod 10)))))) (o + 35) (Int.toNat x1) (w32 (x4 + 1))) 0 0))) ∧ (¬ 0 ≤ x2 → (((0 : Int) ≤ x1 ∧ x1 < 1200) ∧ (wp l G y_GM_digits (gRm d) true (kkV X k) true 95 [.val (gR G o), .val (gI x1), .unset, .unset, .val (gI (w32 (x4 + 1 + 1))), .unset, .unset, .val (gI 0), .unset] [] X (gUp (gUp M (o + 38) (Int.toNat x4) (gByte (gByte (48 + (-(x5.tmod 10)))))) (o + 35) (Int.toNat x1) (w32 (x4 + 1 + 1))) 0 0))))) ∧ (¬ 0 ≤ x2 → (((0 : Int) ≤ x4 + 1 ∧ x4 + 1 < 64) ∧ ((0 ≤ x2 → (((0 : Int) ≤ x1 ∧ x1 < 1200) ∧ (wp l G y_GM_digits (gRm d) true (kkV X k) true 95 [.val (gR G o), .val (gI x1), .unset, .unset, .val (gI (w32 (x4 + 1))), .unset, .unset, .val (gI 0), .unset] [] X (gUp (gUp (gUp M (o + 38) (Int.toNat x4) (gByte (gByte (48 + (-(x5.tmod 10)))))) (o + 38) (Int.toNat (x4 + 1)) (gByte 45)) (o + 35) (Int.toNat x1) (w32 (x4 + 1))) 0 0))) ∧ (¬ 0 ≤ x2 → (((0 : Int) ≤ x1 ∧ x1 < 1200) ∧ (wp l G y_GM_digits (gRm d) true (kkV X k) true 95 [.val (gR G o), .val (gI x1), .unset, .unset, .val (gI (w32 (x4 + 1 + 1))), .unset, .unset, .val (gI 0), .unset] [] X (gUp (gUp (gUp M (o + 38) (Int.toNat x4) (gByte (gByte (48 + (-(x5.tmod 10)))))) (o + 38) (Int.toNat (x4 + 1)) (gByte 45)) (o + 35) (Int.toNat x1) (w32 (x4 + 1 + 1))) 0 0)))))))))))) : wp l G y_GM_digits (gRm d) true (kkV X k) true 6 [.val (gR G o), .val (gI x1), .val (gL x2), .unset, .val (gI x4), .val (gL x5), .unset, .unset, .unset] [] X M 0 0 := by
  refine wp_lload d_GM_digits_6 rfl ?_
  refine wp_ldc2 (n := 10) d_GM_digits_8 c_GM_172 rfl ?_
  refine xlrem d_GM_digits_11 (w64_id hx5) (w64_id (g64_c (x := 10) rfl)) (by decide) ?_
  refine wp_lstore (L' := [.val (gR G o), .val (gI x1), .val (gL x2), .unset, .val (gI x4), .val (gL x5), .unset, .val (gL (x5.tmod 10)), .unset]) d_GM_digits_12 (by decide) rfl ?_
  refine wp_aload_n d_GM_digits_14 rfl rfl (g_nz hX.1) ?_
  refine xgetR d_GM_digits_15 gc_GM f_GM_129.1 f_GM_129.2.1 f_GM_129.2.2.1 hX.1 (gm_o2 hX) hX.2.2.1 f_GM_129.2.2.2.2.1 (gm_row hX 37 rfl).1 ?_
  refine wp_iload d_GM_digits_18 rfl ?_
  refine wp_ldc2 (n := 48) d_GM_digits_20 c_GM_322 rfl ?_
  refine wp_lload d_GM_digits_23 rfl ?_
  refine wp_lconst0 d_GM_digits_25 ?_
  refine xl_ge (tgt := 36) d_GM_digits_26 d_GM_digits_27 (by decide) rfl (w64_id (g64_c (x := 0) rfl)) (fun h9 => ?_) (fun h9 => ?_)
  · have T := T.1 h9
    refine wp_lload d_GM_digits_36 rfl ?_
    refine wp_ladd d_GM_digits_38 ?_
    refine wp_l2i d_GM_digits_39 ?_
    refine wp_i2b d_GM_digits_40 ?_
    refine xbast d_GM_digits_41 (gm_row hX 37 rfl).2.2.1 (gm_row hX 37 rfl).2.2.2 (gm_row hX 37 rfl).2.1 (by decide) T.1 ?_
    have T := T.2
    refine wp_lload d_GM_digits_42 rfl ?_
    refine wp_ldc2 (n := 10) d_GM_digits_44 c_GM_172 rfl ?_
    refine xldiv d_GM_digits_47 (w64_id hx5) (w64_id (g64_c (x := 10) rfl)) (by decide) ?_
    refine wp_lstore (L' := [.val (gR G o), .val (gI x1), .val (gL x2), .unset, .val (gI x4), .val (gL (x5.tdiv 10)), .unset, .val (gL (x5.tmod 10)), .unset]) d_GM_digits_48 (by decide) rfl ?_
    refine wp_iinc (L' := [.val (gR G o), .val (gI x1), .val (gL x2), .unset, .val (gI (x4 + 1)), .val (gL (x5.tdiv 10)), .unset, .val (gL (x5.tmod 10)), .unset]) d_GM_digits_50 rfl (by decide) rfl ?_
    refine wp_lload d_GM_digits_53 rfl ?_
    refine wp_lconst0 d_GM_digits_55 ?_
    refine xl_ne (tgt := 6) d_GM_digits_56 d_GM_digits_57 (by decide) rfl (w64_id (g64_c (x := 0) rfl)) (fun h4 => ?_) (fun h4 => ?_)
    · have T := T.1 h4
      exact wp_md (wpt T (And.intro rfl (And.intro rfl (And.intro rfl (And.intro (gI_w _) (And.intro (gL_w _) True.intro))))))
    · have T := T.2 h4
      refine wp_lload_n d_GM_digits_60 rfl rfl ?_
      refine wp_lconst0 d_GM_digits_61 ?_
      refine xl_ge (tgt := 75) d_GM_digits_62 d_GM_digits_63 (by decide) (w64_id hx2) (w64_id (g64_c (x := 0) rfl)) (fun h3 => ?_) (fun h3 => ?_)
      · have T := T.1 h3
        refine wp_lload_n d_GM_digits_75 rfl rfl ?_
        refine wp_lconst0 d_GM_digits_76 ?_
        refine xl_ge (tgt := 84) d_GM_digits_77 d_GM_digits_78 (by decide) (w64_id hx2) (w64_id (g64_c (x := 0) rfl)) (fun h1 => ?_) (fun h1 => ?_)
        · have T := T.1 h1
          refine wp_aload_n d_GM_digits_84 rfl rfl (g_nz hX.1) ?_
          refine xgetR d_GM_digits_85 gc_GM f_GM_119.1 f_GM_119.2.1 f_GM_119.2.2.1 hX.1 (gm_o2 hX) hX.2.2.1 f_GM_119.2.2.2.2.1 (gm_row hX 34 rfl).1 ?_
          refine wp_iload_n d_GM_digits_88 rfl rfl ?_
          refine wp_iload d_GM_digits_89 rfl ?_
          refine xiast d_GM_digits_91 (gm_row hX 34 rfl).2.2.1 (gm_row hX 34 rfl).2.2.2 (gm_row hX 34 rfl).2.1 (by decide) T.1 rfl ?_
          have T := T.2
          refine wp_iconst d_GM_digits_92 ?_
          refine wp_istore (L' := [.val (gR G o), .val (gI x1), .val (gL x2), .unset, .val (gI (x4 + 1)), .val (gL (x5.tdiv 10)), .unset, .val (gI 0), .unset]) d_GM_digits_93 (by decide) rfl ?_
          exact wp_md (wpt T (And.intro rfl (And.intro rfl (And.intro (gI_w _) (And.intro rfl True.intro)))))
        · have T := T.2 h1
          refine wp_iinc (L' := [.val (gR G o), .val (gI x1), .val (gL x2), .unset, .val (gI (x4 + 1 + 1)), .val (gL (x5.tdiv 10)), .unset, .val (gL (x5.tmod 10)), .unset]) d_GM_digits_81 rfl (by decide) rfl ?_
          refine wp_aload_n d_GM_digits_84 rfl rfl (g_nz hX.1) ?_
          refine xgetR d_GM_digits_85 gc_GM f_GM_119.1 f_GM_119.2.1 f_GM_119.2.2.1 hX.1 (gm_o2 hX) hX.2.2.1 f_GM_119.2.2.2.2.1 (gm_row hX 34 rfl).1 ?_
          refine wp_iload_n d_GM_digits_88 rfl rfl ?_
          refine wp_iload d_GM_digits_89 rfl ?_
          refine xiast d_GM_digits_91 (gm_row hX 34 rfl).2.2.1 (gm_row hX 34 rfl).2.2.2 (gm_row hX 34 rfl).2.1 (by decide) T.1 rfl ?_
          have T := T.2
          refine wp_iconst d_GM_digits_92 ?_
          refine wp_istore (L' := [.val (gR G o), .val (gI x1), .val (gL x2), .unset, .val (gI (x4 + 1 + 1)), .val (gL (x5.tdiv 10)), .unset, .val (gI 0), .unset]) d_GM_digits_93 (by decide) rfl ?_
          exact wp_md (wpt T (And.intro rfl (And.intro rfl (And.intro (gI_w _) (And.intro rfl True.intro)))))
      · have T := T.2 h3
        refine wp_aload_n d_GM_digits_66 rfl rfl (g_nz hX.1) ?_
        refine xgetR d_GM_digits_67 gc_GM f_GM_129.1 f_GM_129.2.1 f_GM_129.2.2.1 hX.1 (gm_o2 hX) hX.2.2.1 f_GM_129.2.2.2.2.1 (gm_row hX 37 rfl).1 ?_
        refine wp_iload d_GM_digits_70 rfl ?_
        refine wp_bipush d_GM_digits_72 ⟨by decide, by decide⟩ ?_
        refine xbast d_GM_digits_74 (gm_row hX 37 rfl).2.2.1 (gm_row hX 37 rfl).2.2.2 (gm_row hX 37 rfl).2.1 (by decide) T.1 ?_
        have T := T.2
        refine wp_lload_n d_GM_digits_75 rfl rfl ?_
        refine wp_lconst0 d_GM_digits_76 ?_
        refine xl_ge (tgt := 84) d_GM_digits_77 d_GM_digits_78 (by decide) (w64_id hx2) (w64_id (g64_c (x := 0) rfl)) (fun h2 => ?_) (fun h2 => ?_)
        · have T := T.1 h2
          refine wp_aload_n d_GM_digits_84 rfl rfl (g_nz hX.1) ?_
          refine xgetR d_GM_digits_85 gc_GM f_GM_119.1 f_GM_119.2.1 f_GM_119.2.2.1 hX.1 (gm_o2 hX) hX.2.2.1 f_GM_119.2.2.2.2.1 (gm_row hX 34 rfl).1 ?_
          refine wp_iload_n d_GM_digits_88 rfl rfl ?_
          refine wp_iload d_GM_digits_89 rfl ?_
          refine xiast d_GM_digits_91 (gm_row hX 34 rfl).2.2.1 (gm_row hX 34 rfl).2.2.2 (gm_row hX 34 rfl).2.1 (by decide) T.1 rfl ?_
          have T := T.2
          refine wp_iconst d_GM_digits_92 ?_
          refine wp_istore (L' := [.val (gR G o), .val (gI x1), .val (gL x2), .unset, .val (gI (x4 + 1)), .val (gL (x5.tdiv 10)), .unset, .val (gI 0), .unset]) d_GM_digits_93 (by decide) rfl ?_
          exact wp_md (wpt T (And.intro rfl (And.intro rfl (And.intro (gI_w _) (And.intro rfl True.intro)))))
        · have T := T.2 h2
          refine wp_iinc (L' := [.val (gR G o), .val (gI x1), .val (gL x2), .unset, .val (gI (x4 + 1 + 1)), .val (gL (x5.tdiv 10)), .unset, .val (gL (x5.tmod 10)), .unset]) d_GM_digits_81 rfl (by decide) rfl ?_
          refine wp_aload_n d_GM_digits_84 rfl rfl (g_nz hX.1) ?_
          refine xgetR d_GM_digits_85 gc_GM f_GM_119.1 f_GM_119.2.1 f_GM_119.2.2.1 hX.1 (gm_o2 hX) hX.2.2.1 f_GM_119.2.2.2.2.1 (gm_row hX 34 rfl).1 ?_
          refine wp_iload_n d_GM_digits_88 rfl rfl ?_
          refine wp_iload d_GM_digits_89 rfl ?_
          refine xiast d_GM_digits_91 (gm_row hX 34 rfl).2.2.1 (gm_row hX 34 rfl).2.2.2 (gm_row hX 34 rfl).2.1 (by decide) T.1 rfl ?_
          have T := T.2
          refine wp_iconst d_GM_digits_92 ?_
          refine wp_istore (L' := [.val (gR G o), .val (gI x1), .val (gL x2), .unset, .val (gI (x4 + 1 + 1)), .val (gL (x5.tdiv 10)), .unset, .val (gI 0), .unset]) d_GM_digits_93 (by decide) rfl ?_
          exact wp_md (wpt T (And.intro rfl (And.intro rfl (And.intro (gI_w _) (And.intro rfl True.intro)))))
  · have T := T.2 h9
    refine wp_lload d_GM_digits_30 rfl ?_
    refine wp_lneg d_GM_digits_32 ?_
    refine wp_goto (tgt := 38) d_GM_digits_33 (by decide) ?_
    refine wp_ladd d_GM_digits_38 ?_
    refine wp_l2i d_GM_digits_39 ?_
    refine wp_i2b d_GM_digits_40 ?_
    refine xbast d_GM_digits_41 (gm_row hX 37 rfl).2.2.1 (gm_row hX 37 rfl).2.2.2 (gm_row hX 37 rfl).2.1 (by decide) T.1 ?_
    have T := T.2
    refine wp_lload d_GM_digits_42 rfl ?_
    refine wp_ldc2 (n := 10) d_GM_digits_44 c_GM_172 rfl ?_
    refine xldiv d_GM_digits_47 (w64_id hx5) (w64_id (g64_c (x := 10) rfl)) (by decide) ?_
    refine wp_lstore (L' := [.val (gR G o), .val (gI x1), .val (gL x2), .unset, .val (gI x4), .val (gL (x5.tdiv 10)), .unset, .val (gL (x5.tmod 10)), .unset]) d_GM_digits_48 (by decide) rfl ?_
    refine wp_iinc (L' := [.val (gR G o), .val (gI x1), .val (gL x2), .unset, .val (gI (x4 + 1)), .val (gL (x5.tdiv 10)), .unset, .val (gL (x5.tmod 10)), .unset]) d_GM_digits_50 rfl (by decide) rfl ?_
    refine wp_lload d_GM_digits_53 rfl ?_
    refine wp_lconst0 d_GM_digits_55 ?_
    refine xl_ne (tgt := 6) d_GM_digits_56 d_GM_digits_57 (by decide) rfl (w64_id (g64_c (x := 0) rfl)) (fun h8 => ?_) (fun h8 => ?_)
    · have T := T.1 h8
      exact wp_md (wpt T (And.intro rfl (And.intro rfl (And.intro rfl (And.intro (gI_w _) (And.intro (gL_w _) True.intro))))))
    · have T := T.2 h8
      refine wp_lload_n d_GM_digits_60 rfl rfl ?_
      refine wp_lconst0 d_GM_digits_61 ?_
      refine xl_ge (tgt := 75) d_GM_digits_62 d_GM_digits_63 (by decide) (w64_id hx2) (w64_id (g64_c (x := 0) rfl)) (fun h7 => ?_) (fun h7 => ?_)
      · have T := T.1 h7
        refine wp_lload_n d_GM_digits_75 rfl rfl ?_
        refine wp_lconst0 d_GM_digits_76 ?_
        refine xl_ge (tgt := 84) d_GM_digits_77 d_GM_digits_78 (by decide) (w64_id hx2) (w64_id (g64_c (x := 0) rfl)) (fun h5 => ?_) (fun h5 => ?_)
        · have T := T.1 h5
          refine wp_aload_n d_GM_digits_84 rfl rfl (g_nz hX.1) ?_
          refine xgetR d_GM_digits_85 gc_GM f_GM_119.1 f_GM_119.2.1 f_GM_119.2.2.1 hX.1 (gm_o2 hX) hX.2.2.1 f_GM_119.2.2.2.2.1 (gm_row hX 34 rfl).1 ?_
          refine wp_iload_n d_GM_digits_88 rfl rfl ?_
          refine wp_iload d_GM_digits_89 rfl ?_
          refine xiast d_GM_digits_91 (gm_row hX 34 rfl).2.2.1 (gm_row hX 34 rfl).2.2.2 (gm_row hX 34 rfl).2.1 (by decide) T.1 rfl ?_
          have T := T.2
          refine wp_iconst d_GM_digits_92 ?_
          refine wp_istore (L' := [.val (gR G o), .val (gI x1), .val (gL x2), .unset, .val (gI (x4 + 1)), .val (gL (x5.tdiv 10)), .unset, .val (gI 0), .unset]) d_GM_digits_93 (by decide) rfl ?_
          exact wp_md (wpt T (And.intro rfl (And.intro rfl (And.intro (gI_w _) (And.intro rfl True.intro)))))
        · have T := T.2 h5
          refine wp_iinc (L' := [.val (gR G o), .val (gI x1), .val (gL x2), .unset, .val (gI (x4 + 1 + 1)), .val (gL (x5.tdiv 10)), .unset, .val (gL (x5.tmod 10)), .unset]) d_GM_digits_81 rfl (by decide) rfl ?_
          refine wp_aload_n d_GM_digits_84 rfl rfl (g_nz hX.1) ?_
          refine xgetR d_GM_digits_85 gc_GM f_GM_119.1 f_GM_119.2.1 f_GM_119.2.2.1 hX.1 (gm_o2 hX) hX.2.2.1 f_GM_119.2.2.2.2.1 (gm_row hX 34 rfl).1 ?_
          refine wp_iload_n d_GM_digits_88 rfl rfl ?_
          refine wp_iload d_GM_digits_89 rfl ?_
          refine xiast d_GM_digits_91 (gm_row hX 34 rfl).2.2.1 (gm_row hX 34 rfl).2.2.2 (gm_row hX 34 rfl).2.1 (by decide) T.1 rfl ?_
          have T := T.2
          refine wp_iconst d_GM_digits_92 ?_
          refine wp_istore (L' := [.val (gR G o), .val (gI x1), .val (gL x2), .unset, .val (gI (x4 + 1 + 1)), .val (gL (x5.tdiv 10)), .unset, .val (gI 0), .unset]) d_GM_digits_93 (by decide) rfl ?_
          exact wp_md (wpt T (And.intro rfl (And.intro rfl (And.intro (gI_w _) (And.intro rfl True.intro)))))
      · have T := T.2 h7
        refine wp_aload_n d_GM_digits_66 rfl rfl (g_nz hX.1) ?_
        refine xgetR d_GM_digits_67 gc_GM f_GM_129.1 f_GM_129.2.1 f_GM_129.2.2.1 hX.1 (gm_o2 hX) hX.2.2.1 f_GM_129.2.2.2.2.1 (gm_row hX 37 rfl).1 ?_
        refine wp_iload d_GM_digits_70 rfl ?_
        refine wp_bipush d_GM_digits_72 ⟨by decide, by decide⟩ ?_
        refine xbast d_GM_digits_74 (gm_row hX 37 rfl).2.2.1 (gm_row hX 37 rfl).2.2.2 (gm_row hX 37 rfl).2.1 (by decide) T.1 ?_
        have T := T.2
        refine wp_lload_n d_GM_digits_75 rfl rfl ?_
        refine wp_lconst0 d_GM_digits_76 ?_
        refine xl_ge (tgt := 84) d_GM_digits_77 d_GM_digits_78 (by decide) (w64_id hx2) (w64_id (g64_c (x := 0) rfl)) (fun h6 => ?_) (fun h6 => ?_)
        · have T := T.1 h6
          refine wp_aload_n d_GM_digits_84 rfl rfl (g_nz hX.1) ?_
          refine xgetR d_GM_digits_85 gc_GM f_GM_119.1 f_GM_119.2.1 f_GM_119.2.2.1 hX.1 (gm_o2 hX) hX.2.2.1 f_GM_119.2.2.2.2.1 (gm_row hX 34 rfl).1 ?_
          refine wp_iload_n d_GM_digits_88 rfl rfl ?_
          refine wp_iload d_GM_digits_89 rfl ?_
          refine xiast d_GM_digits_91 (gm_row hX 34 rfl).2.2.1 (gm_row hX 34 rfl).2.2.2 (gm_row hX 34 rfl).2.1 (by decide) T.1 rfl ?_
          have T := T.2
          refine wp_iconst d_GM_digits_92 ?_
          refine wp_istore (L' := [.val (gR G o), .val (gI x1), .val (gL x2), .unset, .val (gI (x4 + 1)), .val (gL (x5.tdiv 10)), .unset, .val (gI 0), .unset]) d_GM_digits_93 (by decide) rfl ?_
          exact wp_md (wpt T (And.intro rfl (And.intro rfl (And.intro (gI_w _) (And.intro rfl True.intro)))))
        · have T := T.2 h6
          refine wp_iinc (L' := [.val (gR G o), .val (gI x1), .val (gL x2), .unset, .val (gI (x4 + 1 + 1)), .val (gL (x5.tdiv 10)), .unset, .val (gL (x5.tmod 10)), .unset]) d_GM_digits_81 rfl (by decide) rfl ?_
          refine wp_aload_n d_GM_digits_84 rfl rfl (g_nz hX.1) ?_
          refine xgetR d_GM_digits_85 gc_GM f_GM_119.1 f_GM_119.2.1 f_GM_119.2.2.1 hX.1 (gm_o2 hX) hX.2.2.1 f_GM_119.2.2.2.2.1 (gm_row hX 34 rfl).1 ?_
          refine wp_iload_n d_GM_digits_88 rfl rfl ?_
          refine wp_iload d_GM_digits_89 rfl ?_
          refine xiast d_GM_digits_91 (gm_row hX 34 rfl).2.2.1 (gm_row hX 34 rfl).2.2.2 (gm_row hX 34 rfl).2.1 (by decide) T.1 rfl ?_
          have T := T.2
          refine wp_iconst d_GM_digits_92 ?_
          refine wp_istore (L' := [.val (gR G o), .val (gI x1), .val (gL x2), .unset, .val (gI (x4 + 1 + 1)), .val (gL (x5.tdiv 10)), .unset, .val (gI 0), .unset]) d_GM_digits_93 (by decide) rfl ?_
          exact wp_md (wpt T (And.intro rfl (And.intro rfl (And.intro (gI_w _) (And.intro rfl True.intro)))))
set_option maxHeartbeats 4000000 in
theorem w_GM_digits_95 {l : Launch} {G : gG} {d : Nat} {X : gX} {M : gM} {k : gM → Prop} {o : Nat} (hX : gmX X o) {x1 : Int} (hx1 : g32 x1) {x4 : Int} (hx4 : g32 x4) {x7 : Int} (hx7 : g32 x7) (T : (x4 ≤ x7 → (k M)) ∧ (¬ x4 ≤ x7 → (((0 : Int) ≤ (x4 - 1) - x7 ∧ (x4 - 1) - x7 < 64) ∧ ((-128 ≤ M (o + 38) (Int.toNat ((x4 - 1) - x7)) ∧ M (o + 38) (Int.toNat ((x4 - 1) - x7)) < 128) → (((0 : Int) ≤ (64 * x1) + x7 ∧ (64 * x1) + x7 < 76800) ∧ (wp l G y_GM_digits (gRm d) true (kkV X k) true 95 [.val (gR G o), .val (gI x1), .unset, .unset, .val (gI x4), .unset, .unset, .val (gI (w32 (x7 + 1))), .unset] [] X (gUp M (o + 37) (Int.toNat ((64 * x1) + x7)) (gByte (M (o + 38) (Int.toNat ((x4 - 1) - x7))))) 0 0)))))) : wp l G y_GM_digits (gRm d) true (kkV X k) true 95 [.val (gR G o), .val (gI x1), .unset, .unset, .val (gI x4), .unset, .unset, .val (gI x7), .unset] [] X M 0 0 := by
  refine wp_iload d_GM_digits_95 rfl ?_
  refine wp_iload d_GM_digits_97 rfl ?_
  refine xi_ge (tgt := 132) d_GM_digits_99 (by decide) (w32_id hx7) (w32_id hx4) (fun h11 => ?_) (fun h11 => ?_)
  · have T := T.1 h11
    exact wp_return d_GM_digits_132 rfl (fun _ => rfl) (Nat.zero_le _) (Nat.zero_le _) (kV_mk T)
  · have T := T.2 h11
    refine wp_aload_n d_GM_digits_102 rfl rfl (g_nz hX.1) ?_
    refine xgetR d_GM_digits_103 gc_GM f_GM_126.1 f_GM_126.2.1 f_GM_126.2.2.1 hX.1 (gm_o2 hX) hX.2.2.1 f_GM_126.2.2.2.2.1 (gm_row hX 36 rfl).1 ?_
    refine wp_bipush d_GM_digits_106 ⟨by decide, by decide⟩ ?_
    refine wp_iload_n d_GM_digits_108 rfl rfl ?_
    refine wp_imul d_GM_digits_109 ?_
    refine wp_iload d_GM_digits_110 rfl ?_
    refine wp_iadd d_GM_digits_112 ?_
    refine wp_aload_n d_GM_digits_113 rfl rfl (g_nz hX.1) ?_
    refine xgetR d_GM_digits_114 gc_GM f_GM_129.1 f_GM_129.2.1 f_GM_129.2.2.1 hX.1 (gm_o2 hX) hX.2.2.1 f_GM_129.2.2.2.2.1 (gm_row hX 37 rfl).1 ?_
    refine wp_iload d_GM_digits_117 rfl ?_
    refine wp_iconst d_GM_digits_119 ?_
    refine wp_isub d_GM_digits_120 ?_
    refine wp_iload d_GM_digits_121 rfl ?_
    refine wp_isub d_GM_digits_123 ?_
    refine wp_baload d_GM_digits_124 (gm_row hX 37 rfl).2.2.1 (gm_row hX 37 rfl).2.2.2 (gm_row hX 37 rfl).2.1 (g32_n T.1 (by decide)) T.1.1 T.1.2 (fun h10 => ?_)
    have T := T.2 h10
    refine xbast d_GM_digits_125 (gm_row hX 36 rfl).2.2.1 (gm_row hX 36 rfl).2.2.2 (gm_row hX 36 rfl).2.1 (by decide) T.1 ?_
    have T := T.2
    refine wp_iinc (L' := [.val (gR G o), .val (gI x1), .unset, .unset, .val (gI x4), .unset, .unset, .val (gI (x7 + 1)), .unset]) d_GM_digits_126 rfl (by decide) rfl ?_
    refine wp_goto (tgt := 95) d_GM_digits_129 (by decide) ?_
    exact wp_md (wpt T (And.intro rfl (And.intro rfl (And.intro rfl (And.intro (gI_w _) True.intro)))))
theorem e_GM_digits {l : Launch} {G : gG} {d : Nat} {X : gX} {M : gM} {k : gM → Prop} {o : Nat} {x1 : Int} {x2 : Int} (T : wp l G y_GM_digits (gRm d) true (kkV X k) false 0 [.val (gR G o), .val (gI x1), .val (gL x2), .unset, .unset, .unset, .unset, .unset, .unset] [] X M 0 0) : cV l G y_GM_digits (gRm d) true [gR G o, gI x1, gL x2] X M k := cen_V (plainFor_of_name rfl) (by simp only [lg_sl_R, lg_sl_I, lg_sl_L, lg_sl_N, List.length_cons, List.length_nil]; decide) (by unfold gEn; simp only [lg_sl_R, lg_sl_I, lg_sl_L, lg_sl_N]; exact wpt T (And.intro rfl (And.intro rfl (And.intro rfl True.intro))))
theorem d_GM_asTruth_0 : decode prog_15_method_46_code 0 = .ok (.aload_n 0, 1) := by decide +kernel
theorem d_GM_asTruth_1 : decode prog_15_method_46_code 1 = .ok (.getfield 116, 3) := by decide +kernel
theorem d_GM_asTruth_4 : decode prog_15_method_46_code 4 = .ok (.iload_n 1, 1) := by decide +kernel
theorem d_GM_asTruth_5 : decode prog_15_method_46_code 5 = .ok (.iaload, 1) := by decide +kernel
theorem d_GM_asTruth_6 : decode prog_15_method_46_code 6 = .ok (.iconst 2, 1) := by decide +kernel
theorem d_GM_asTruth_7 : decode prog_15_method_46_code 7 = .ok (.if_icmp .ne 5, 3) := by decide +kernel
theorem d_GM_asTruth_12 : decode prog_15_method_46_code 12 = .ok (.aload_n 0, 1) := by decide +kernel
theorem d_GM_asTruth_13 : decode prog_15_method_46_code 13 = .ok (.getfield 122, 3) := by decide +kernel
theorem d_GM_asTruth_16 : decode prog_15_method_46_code 16 = .ok (.iload_n 1, 1) := by decide +kernel
theorem d_GM_asTruth_17 : decode prog_15_method_46_code 17 = .ok (.aload_n 0, 1) := by decide +kernel
theorem d_GM_asTruth_18 : decode prog_15_method_46_code 18 = .ok (.getfield 116, 3) := by decide +kernel
theorem d_GM_asTruth_21 : decode prog_15_method_46_code 21 = .ok (.iload_n 1, 1) := by decide +kernel
theorem d_GM_asTruth_22 : decode prog_15_method_46_code 22 = .ok (.iaload, 1) := by decide +kernel
theorem d_GM_asTruth_23 : decode prog_15_method_46_code 23 = .ok (.ifCond .ne 7, 3) := by decide +kernel
theorem d_GM_asTruth_30 : decode prog_15_method_46_code 30 = .ok (.aload_n 0, 1) := by decide +kernel
theorem d_GM_asTruth_31 : decode prog_15_method_46_code 31 = .ok (.getfield 122, 3) := by decide +kernel
theorem d_GM_asTruth_34 : decode prog_15_method_46_code 34 = .ok (.iload_n 1, 1) := by decide +kernel
theorem d_GM_asTruth_35 : decode prog_15_method_46_code 35 = .ok (.laload, 1) := by decide +kernel
theorem d_GM_asTruth_36 : decode prog_15_method_46_code 36 = .ok (.lconst 0, 1) := by decide +kernel
theorem d_GM_asTruth_37 : decode prog_15_method_46_code 37 = .ok (.lcmp, 1) := by decide +kernel
theorem d_GM_asTruth_38 : decode prog_15_method_46_code 38 = .ok (.ifCond .eq 7, 3) := by decide +kernel
theorem d_GM_asTruth_45 : decode prog_15_method_46_code 45 = .ok (.lconst 0, 1) := by decide +kernel
theorem d_GM_asTruth_46 : decode prog_15_method_46_code 46 = .ok (.lastore, 1) := by decide +kernel
theorem d_GM_asTruth_47 : decode prog_15_method_46_code 47 = .ok (.aload_n 0, 1) := by decide +kernel
theorem d_GM_asTruth_48 : decode prog_15_method_46_code 48 = .ok (.getfield 116, 3) := by decide +kernel
theorem d_GM_asTruth_51 : decode prog_15_method_46_code 51 = .ok (.iload_n 1, 1) := by decide +kernel
theorem d_GM_asTruth_52 : decode prog_15_method_46_code 52 = .ok (.iconst 3, 1) := by decide +kernel
theorem d_GM_asTruth_53 : decode prog_15_method_46_code 53 = .ok (.iastore, 1) := by decide +kernel
theorem d_GM_asTruth_54 : decode prog_15_method_46_code 54 = .ok (.iconst 1, 1) := by decide +kernel
theorem d_GM_asTruth_55 : decode prog_15_method_46_code 55 = .ok (.ireturn, 1) := by decide +kernel
theorem d_GM_asTruth_41 : decode prog_15_method_46_code 41 = .ok (.lconst 1, 1) := by decide +kernel
theorem d_GM_asTruth_42 : decode prog_15_method_46_code 42 = .ok (.goto 4, 3) := by decide +kernel
theorem d_GM_asTruth_26 : decode prog_15_method_46_code 26 = .ok (.lconst 0, 1) := by decide +kernel
theorem d_GM_asTruth_27 : decode prog_15_method_46_code 27 = .ok (.goto 19, 3) := by decide +kernel
theorem d_GM_asTruth_10 : decode prog_15_method_46_code 10 = .ok (.iconst 0, 1) := by decide +kernel
theorem d_GM_asTruth_11 : decode prog_15_method_46_code 11 = .ok (.ireturn, 1) := by decide +kernel
set_option maxHeartbeats 4000000 in
theorem w_GM_asTruth_0 {l : Launch} {G : gG} {d : Nat} {X : gX} {M : gM} {k : Int → gM → Prop} {o : Nat} (hX : gmX X o) {x1 : Int} (hx1 : g32 x1) (T : ((0 : Int) ≤ x1 ∧ x1 < 1200) ∧ (g32 (M (o + 34) (Int.toNat x1)) → ((¬ M (o + 34) (Int.toNat x1) = 2 → (((0 : Int) ≤ x1 ∧ x1 < 1200) ∧ (g32 (M (o + 34) (Int.toNat x1)) → ((¬ M (o + 34) (Int.toNat x1) = 0 → (((0 : Int) ≤ x1 ∧ x1 < 1200) ∧ (g64 (M (o + 36) (Int.toNat x1)) → ((M (o + 36) (Int.toNat x1) = 0 → (((0 : Int) ≤ x1 ∧ x1 < 1200) ∧ (((0 : Int) ≤ x1 ∧ x1 < 1200) ∧ (k 1 (gUp (gUp M (o + 36) (Int.toNat x1) 0) (o + 34) (Int.toNat x1) 3))))) ∧ (¬ M (o + 36) (Int.toNat x1) = 0 → (((0 : Int) ≤ x1 ∧ x1 < 1200) ∧ (((0 : Int) ≤ x1 ∧ x1 < 1200) ∧ (k 1 (gUp (gUp M (o + 36) (Int.toNat x1) 1) (o + 34) (Int.toNat x1) 3))))))))) ∧ (M (o + 34) (Int.toNat x1) = 0 → (((0 : Int) ≤ x1 ∧ x1 < 1200) ∧ (((0 : Int) ≤ x1 ∧ x1 < 1200) ∧ (k 1 (gUp (gUp M (o + 36) (Int.toNat x1) 0) (o + 34) (Int.toNat x1) 3))))))))) ∧ (M (o + 34) (Int.toNat x1) = 2 → (k 0 M))))) : wp l G y_GM_asTruth (gRm d) true (kkZ X k) false 0 [.val (gR G o), .val (gI x1)] [] X M 0 0 := by
  refine wp_aload_n d_GM_asTruth_0 rfl rfl (g_nz hX.1) ?_
  refine xgetR d_GM_asTruth_1 gc_GM f_GM_116.1 f_GM_116.2.1 f_GM_116.2.2.1 hX.1 (gm_o2 hX) hX.2.2.1 f_GM_116.2.2.2.2.1 (gm_row hX 33 rfl).1 ?_
  refine wp_iload_n d_GM_asTruth_4 rfl rfl ?_
  refine wp_iaload d_GM_asTruth_5 (gm_row hX 33 rfl).2.2.1 (gm_row hX 33 rfl).2.2.2 (gm_row hX 33 rfl).2.1 (g32_n T.1 (by decide)) T.1.1 T.1.2 (fun h1 => ?_)
  have T := T.2 h1
  refine wp_iconst d_GM_asTruth_6 ?_
  refine xi_ne (tgt := 12) d_GM_asTruth_7 (by decide) (w32_id h1) (w32_id (g32_c (x := 2) rfl)) (fun h6 => ?_) (fun h6 => ?_)
  · have T := T.1 h6
    refine wp_aload_n d_GM_asTruth_12 rfl rfl (g_nz hX.1) ?_
    refine xgetR d_GM_asTruth_13 gc_GM f_GM_122.1 f_GM_122.2.1 f_GM_122.2.2.1 hX.1 (gm_o2 hX) hX.2.2.1 f_GM_122.2.2.2.2.1 (gm_row hX 35 rfl).1 ?_
    refine wp_iload_n d_GM_asTruth_16 rfl rfl ?_
    refine wp_aload_n d_GM_asTruth_17 rfl rfl (g_nz hX.1) ?_
    refine xgetR d_GM_asTruth_18 gc_GM f_GM_116.1 f_GM_116.2.1 f_GM_116.2.2.1 hX.1 (gm_o2 hX) hX.2.2.1 f_GM_116.2.2.2.2.1 (gm_row hX 33 rfl).1 ?_
    refine wp_iload_n d_GM_asTruth_21 rfl rfl ?_
    refine wp_iaload d_GM_asTruth_22 (gm_row hX 33 rfl).2.2.1 (gm_row hX 33 rfl).2.2.2 (gm_row hX 33 rfl).2.1 (g32_n T.1 (by decide)) T.1.1 T.1.2 (fun h2 => ?_)
    have T := T.2 h2
    refine xz_ne (tgt := 30) d_GM_asTruth_23 (by decide) (w32_id h2) (fun h5 => ?_) (fun h5 => ?_)
    · have T := T.1 h5
      refine wp_aload_n d_GM_asTruth_30 rfl rfl (g_nz hX.1) ?_
      refine xgetR d_GM_asTruth_31 gc_GM f_GM_122.1 f_GM_122.2.1 f_GM_122.2.2.1 hX.1 (gm_o2 hX) hX.2.2.1 f_GM_122.2.2.2.2.1 (gm_row hX 35 rfl).1 ?_
      refine wp_iload_n d_GM_asTruth_34 rfl rfl ?_
      refine wp_laload d_GM_asTruth_35 (gm_row hX 35 rfl).2.2.1 (gm_row hX 35 rfl).2.2.2 (gm_row hX 35 rfl).2.1 (g32_n T.1 (by decide)) T.1.1 T.1.2 (fun h3 => ?_)
      have T := T.2 h3
      refine wp_lconst0 d_GM_asTruth_36 ?_
      refine xl_eq (tgt := 45) d_GM_asTruth_37 d_GM_asTruth_38 (by decide) (w64_id h3) (w64_id (g64_c (x := 0) rfl)) (fun h4 => ?_) (fun h4 => ?_)
      · have T := T.1 h4
        refine wp_lconst0 d_GM_asTruth_45 ?_
        refine xlast d_GM_asTruth_46 (gm_row hX 35 rfl).2.2.1 (gm_row hX 35 rfl).2.2.2 (gm_row hX 35 rfl).2.1 (by decide) T.1 (w64_id (g64_c (x := 0) rfl)) ?_
        have T := T.2
        refine wp_aload_n d_GM_asTruth_47 rfl rfl (g_nz hX.1) ?_
        refine xgetR d_GM_asTruth_48 gc_GM f_GM_116.1 f_GM_116.2.1 f_GM_116.2.2.1 hX.1 (gm_o2 hX) hX.2.2.1 f_GM_116.2.2.2.2.1 (gm_row hX 33 rfl).1 ?_
        refine wp_iload_n d_GM_asTruth_51 rfl rfl ?_
        refine wp_iconst d_GM_asTruth_52 ?_
        refine xiast d_GM_asTruth_53 (gm_row hX 33 rfl).2.2.1 (gm_row hX 33 rfl).2.2.2 (gm_row hX 33 rfl).2.1 (by decide) T.1 (w32_id (g32_c (x := 3) rfl)) ?_
        have T := T.2
        refine wp_iconst d_GM_asTruth_54 ?_
        exact wp_zreturn d_GM_asTruth_55 rfl (g_narz (⟨by decide, by decide⟩ : (0 : Int) ≤ 1 ∧ (1 : Int) ≤ 1)) (fun _ => rfl) (Nat.zero_le _) (Nat.zero_le _) (kZ_mk (⟨by decide, by decide⟩ : (0 : Int) ≤ 1 ∧ (1 : Int) ≤ 1) T)
      · have T := T.2 h4
        refine wp_lconst1 d_GM_asTruth_41 ?_
        refine wp_goto (tgt := 46) d_GM_asTruth_42 (by decide) ?_
        refine xlast d_GM_asTruth_46 (gm_row hX 35 rfl).2.2.1 (gm_row hX 35 rfl).2.2.2 (gm_row hX 35 rfl).2.1 (by decide) T.1 (w64_id (g64_c (x := 1) rfl)) ?_
        have T := T.2
        refine wp_aload_n d_GM_asTruth_47 rfl rfl (g_nz hX.1) ?_
        refine xgetR d_GM_asTruth_48 gc_GM f_GM_116.1 f_GM_116.2.1 f_GM_116.2.2.1 hX.1 (gm_o2 hX) hX.2.2.1 f_GM_116.2.2.2.2.1 (gm_row hX 33 rfl).1 ?_
        refine wp_iload_n d_GM_asTruth_51 rfl rfl ?_
        refine wp_iconst d_GM_asTruth_52 ?_
        refine xiast d_GM_asTruth_53 (gm_row hX 33 rfl).2.2.1 (gm_row hX 33 rfl).2.2.2 (gm_row hX 33 rfl).2.1 (by decide) T.1 (w32_id (g32_c (x := 3) rfl)) ?_
        have T := T.2
        refine wp_iconst d_GM_asTruth_54 ?_
        exact wp_zreturn d_GM_asTruth_55 rfl (g_narz (⟨by decide, by decide⟩ : (0 : Int) ≤ 1 ∧ (1 : Int) ≤ 1)) (fun _ => rfl) (Nat.zero_le _) (Nat.zero_le _) (kZ_mk (⟨by decide, by decide⟩ : (0 : Int) ≤ 1 ∧ (1 : Int) ≤ 1) T)
    · have T := T.2 h5
      refine wp_lconst0 d_GM_asTruth_26 ?_
      refine wp_goto (tgt := 46) d_GM_asTruth_27 (by decide) ?_
      refine xlast d_GM_asTruth_46 (gm_row hX 35 rfl).2.2.1 (gm_row hX 35 rfl).2.2.2 (gm_row hX 35 rfl).2.1 (by decide) T.1 (w64_id (g64_c (x := 0) rfl)) ?_
      have T := T.2
      refine wp_aload_n d_GM_asTruth_47 rfl rfl (g_nz hX.1) ?_
      refine xgetR d_GM_asTruth_48 gc_GM f_GM_116.1 f_GM_116.2.1 f_GM_116.2.2.1 hX.1 (gm_o2 hX) hX.2.2.1 f_GM_116.2.2.2.2.1 (gm_row hX 33 rfl).1 ?_
      refine wp_iload_n d_GM_asTruth_51 rfl rfl ?_
      refine wp_iconst d_GM_asTruth_52 ?_
      refine xiast d_GM_asTruth_53 (gm_row hX 33 rfl).2.2.1 (gm_row hX 33 rfl).2.2.2 (gm_row hX 33 rfl).2.1 (by decide) T.1 (w32_id (g32_c (x := 3) rfl)) ?_
      have T := T.2
      refine wp_iconst d_GM_asTruth_54 ?_
      exact wp_zreturn d_GM_asTruth_55 rfl (g_narz (⟨by decide, by decide⟩ : (0 : Int) ≤ 1 ∧ (1 : Int) ≤ 1)) (fun _ => rfl) (Nat.zero_le _) (Nat.zero_le _) (kZ_mk (⟨by decide, by decide⟩ : (0 : Int) ≤ 1 ∧ (1 : Int) ≤ 1) T)
  · have T := T.2 h6
    refine wp_iconst d_GM_asTruth_10 ?_
    exact wp_zreturn d_GM_asTruth_11 rfl (g_narz (⟨by decide, by decide⟩ : (0 : Int) ≤ 0 ∧ (0 : Int) ≤ 1)) (fun _ => rfl) (Nat.zero_le _) (Nat.zero_le _) (kZ_mk (⟨by decide, by decide⟩ : (0 : Int) ≤ 0 ∧ (0 : Int) ≤ 1) T)
theorem e_GM_asTruth {l : Launch} {G : gG} {d : Nat} {X : gX} {M : gM} {k : Int → gM → Prop} {o : Nat} {x1 : Int} (T : wp l G y_GM_asTruth (gRm d) true (kkZ X k) false 0 [.val (gR G o), .val (gI x1)] [] X M 0 0) : cZ l G y_GM_asTruth (gRm d) true [gR G o, gI x1] X M k := cen_Z (plainFor_of_name rfl) (by simp only [lg_sl_R, lg_sl_I, lg_sl_L, lg_sl_N, List.length_cons, List.length_nil]; decide) (by unfold gEn; simp only [lg_sl_R, lg_sl_I, lg_sl_L, lg_sl_N]; exact wpt T (And.intro rfl (And.intro rfl True.intro)))
theorem d_GM_compare_0 : decode prog_15_method_47_code 0 = .ok (.aload_n 0, 1) := by decide +kernel
theorem d_GM_compare_1 : decode prog_15_method_47_code 1 = .ok (.getfield 116, 3) := by decide +kernel
theorem d_GM_compare_4 : decode prog_15_method_47_code 4 = .ok (.iload_n 1, 1) := by decide +kernel
theorem d_GM_compare_5 : decode prog_15_method_47_code 5 = .ok (.iaload, 1) := by decide +kernel
theorem d_GM_compare_6 : decode prog_15_method_47_code 6 = .ok (.istore_n 3, 1) := by decide +kernel
theorem d_GM_compare_7 : decode prog_15_method_47_code 7 = .ok (.aload_n 0, 1) := by decide +kernel
theorem d_GM_compare_8 : decode prog_15_method_47_code 8 = .ok (.getfield 116, 3) := by decide +kernel
theorem d_GM_compare_11 : decode prog_15_method_47_code 11 = .ok (.iload_n 2, 1) := by decide +kernel
theorem d_GM_compare_12 : decode prog_15_method_47_code 12 = .ok (.iaload, 1) := by decide +kernel
theorem d_GM_compare_13 : decode prog_15_method_47_code 13 = .ok (.istore 4, 2) := by decide +kernel
theorem d_GM_compare_15 : decode prog_15_method_47_code 15 = .ok (.iload_n 3, 1) := by decide +kernel
theorem d_GM_compare_16 : decode prog_15_method_47_code 16 = .ok (.ifCond .ne 10, 3) := by decide +kernel
theorem d_GM_compare_19 : decode prog_15_method_47_code 19 = .ok (.iload 4, 2) := by decide +kernel
theorem d_GM_compare_21 : decode prog_15_method_47_code 21 = .ok (.ifCond .ne 5, 3) := by decide +kernel
theorem d_GM_compare_24 : decode prog_15_method_47_code 24 = .ok (.iconst 0, 1) := by decide +kernel
theorem d_GM_compare_25 : decode prog_15_method_47_code 25 = .ok (.ireturn, 1) := by decide +kernel
theorem d_GM_compare_26 : decode prog_15_method_47_code 26 = .ok (.iload_n 3, 1) := by decide +kernel
theorem d_GM_compare_27 : decode prog_15_method_47_code 27 = .ok (.ifCond .ne 6, 3) := by decide +kernel
theorem d_GM_compare_30 : decode prog_15_method_47_code 30 = .ok (.iload 4, 2) := by decide +kernel
theorem d_GM_compare_32 : decode prog_15_method_47_code 32 = .ok (.istore_n 3, 1) := by decide +kernel
theorem d_GM_compare_33 : decode prog_15_method_47_code 33 = .ok (.iload 4, 2) := by decide +kernel
theorem d_GM_compare_35 : decode prog_15_method_47_code 35 = .ok (.ifCond .ne 6, 3) := by decide +kernel
theorem d_GM_compare_38 : decode prog_15_method_47_code 38 = .ok (.iload_n 3, 1) := by decide +kernel
theorem d_GM_compare_39 : decode prog_15_method_47_code 39 = .ok (.istore 4, 2) := by decide +kernel
theorem d_GM_compare_41 : decode prog_15_method_47_code 41 = .ok (.iload_n 3, 1) := by decide +kernel
theorem d_GM_compare_42 : decode prog_15_method_47_code 42 = .ok (.iload 4, 2) := by decide +kernel
theorem d_GM_compare_44 : decode prog_15_method_47_code 44 = .ok (.if_icmp .eq 15, 3) := by decide +kernel
theorem d_GM_compare_59 : decode prog_15_method_47_code 59 = .ok (.iload_n 3, 1) := by decide +kernel
theorem d_GM_compare_60 : decode prog_15_method_47_code 60 = .ok (.iconst 2, 1) := by decide +kernel
theorem d_GM_compare_61 : decode prog_15_method_47_code 61 = .ok (.if_icmp .eq 71, 3) := by decide +kernel
theorem d_GM_compare_132 : decode prog_15_method_47_code 132 = .ok (.aload_n 0, 1) := by decide +kernel
theorem d_GM_compare_133 : decode prog_15_method_47_code 133 = .ok (.getfield 116, 3) := by decide +kernel
theorem d_GM_compare_136 : decode prog_15_method_47_code 136 = .ok (.iload_n 1, 1) := by decide +kernel
theorem d_GM_compare_137 : decode prog_15_method_47_code 137 = .ok (.iaload, 1) := by decide +kernel
theorem d_GM_compare_138 : decode prog_15_method_47_code 138 = .ok (.ifCond .ne 7, 3) := by decide +kernel
theorem d_GM_compare_145 : decode prog_15_method_47_code 145 = .ok (.aload_n 0, 1) := by decide +kernel
theorem d_GM_compare_146 : decode prog_15_method_47_code 146 = .ok (.getfield 119, 3) := by decide +kernel
theorem d_GM_compare_149 : decode prog_15_method_47_code 149 = .ok (.iload_n 1, 1) := by decide +kernel
theorem d_GM_compare_150 : decode prog_15_method_47_code 150 = .ok (.iaload, 1) := by decide +kernel
theorem d_GM_compare_151 : decode prog_15_method_47_code 151 = .ok (.istore 5, 2) := by decide +kernel
theorem d_GM_compare_153 : decode prog_15_method_47_code 153 = .ok (.aload_n 0, 1) := by decide +kernel
theorem d_GM_compare_154 : decode prog_15_method_47_code 154 = .ok (.getfield 116, 3) := by decide +kernel
theorem d_GM_compare_157 : decode prog_15_method_47_code 157 = .ok (.iload_n 2, 1) := by decide +kernel
theorem d_GM_compare_158 : decode prog_15_method_47_code 158 = .ok (.iaload, 1) := by decide +kernel
theorem d_GM_compare_159 : decode prog_15_method_47_code 159 = .ok (.ifCond .ne 7, 3) := by decide +kernel
theorem d_GM_compare_166 : decode prog_15_method_47_code 166 = .ok (.aload_n 0, 1) := by decide +kernel
theorem d_GM_compare_167 : decode prog_15_method_47_code 167 = .ok (.getfield 119, 3) := by decide +kernel
theorem d_GM_compare_170 : decode prog_15_method_47_code 170 = .ok (.iload_n 2, 1) := by decide +kernel
theorem d_GM_compare_171 : decode prog_15_method_47_code 171 = .ok (.iaload, 1) := by decide +kernel
theorem d_GM_compare_172 : decode prog_15_method_47_code 172 = .ok (.istore 6, 2) := by decide +kernel
theorem d_GM_compare_174 : decode prog_15_method_47_code 174 = .ok (.iconst 0, 1) := by decide +kernel
theorem d_GM_compare_175 : decode prog_15_method_47_code 175 = .ok (.istore 7, 2) := by decide +kernel
theorem d_GM_compare_162 : decode prog_15_method_47_code 162 = .ok (.iconst 0, 1) := by decide +kernel
theorem d_GM_compare_163 : decode prog_15_method_47_code 163 = .ok (.goto 9, 3) := by decide +kernel
theorem d_GM_compare_141 : decode prog_15_method_47_code 141 = .ok (.iconst 0, 1) := by decide +kernel
theorem d_GM_compare_142 : decode prog_15_method_47_code 142 = .ok (.goto 9, 3) := by decide +kernel
theorem d_GM_compare_64 : decode prog_15_method_47_code 64 = .ok (.aload_n 0, 1) := by decide +kernel
theorem d_GM_compare_65 : decode prog_15_method_47_code 65 = .ok (.getfield 116, 3) := by decide +kernel
theorem d_GM_compare_68 : decode prog_15_method_47_code 68 = .ok (.iload_n 1, 1) := by decide +kernel
theorem d_GM_compare_69 : decode prog_15_method_47_code 69 = .ok (.iaload, 1) := by decide +kernel
theorem d_GM_compare_70 : decode prog_15_method_47_code 70 = .ok (.ifCond .ne 7, 3) := by decide +kernel
theorem d_GM_compare_77 : decode prog_15_method_47_code 77 = .ok (.aload_n 0, 1) := by decide +kernel
theorem d_GM_compare_78 : decode prog_15_method_47_code 78 = .ok (.getfield 122, 3) := by decide +kernel
theorem d_GM_compare_81 : decode prog_15_method_47_code 81 = .ok (.iload_n 1, 1) := by decide +kernel
theorem d_GM_compare_82 : decode prog_15_method_47_code 82 = .ok (.laload, 1) := by decide +kernel
theorem d_GM_compare_73 : decode prog_15_method_47_code 73 = .ok (.lconst 0, 1) := by decide +kernel
theorem d_GM_compare_74 : decode prog_15_method_47_code 74 = .ok (.goto 9, 3) := by decide +kernel
theorem d_GM_compare_47 : decode prog_15_method_47_code 47 = .ok (.iload_n 3, 1) := by decide +kernel
theorem d_GM_compare_48 : decode prog_15_method_47_code 48 = .ok (.iload 4, 2) := by decide +kernel
theorem d_GM_compare_50 : decode prog_15_method_47_code 50 = .ok (.if_icmp .ge 7, 3) := by decide +kernel
theorem d_GM_compare_57 : decode prog_15_method_47_code 57 = .ok (.iconst 1, 1) := by decide +kernel
theorem d_GM_compare_58 : decode prog_15_method_47_code 58 = .ok (.ireturn, 1) := by decide +kernel
theorem d_GM_compare_53 : decode prog_15_method_47_code 53 = .ok (.iconst (-1), 1) := by decide +kernel
theorem d_GM_compare_54 : decode prog_15_method_47_code 54 = .ok (.goto 4, 3) := by decide +kernel
theorem d_GM_compare_177 : decode prog_15_method_47_code 177 = .ok (.iload 7, 2) := by decide +kernel
theorem d_GM_compare_179 : decode prog_15_method_47_code 179 = .ok (.iload 5, 2) := by decide +kernel
theorem d_GM_compare_181 : decode prog_15_method_47_code 181 = .ok (.if_icmp .ge 76, 3) := by decide +kernel
theorem d_GM_compare_184 : decode prog_15_method_47_code 184 = .ok (.iload 7, 2) := by decide +kernel
theorem d_GM_compare_186 : decode prog_15_method_47_code 186 = .ok (.iload 6, 2) := by decide +kernel
theorem d_GM_compare_188 : decode prog_15_method_47_code 188 = .ok (.if_icmp .ge 69, 3) := by decide +kernel
theorem d_GM_compare_191 : decode prog_15_method_47_code 191 = .ok (.aload_n 0, 1) := by decide +kernel
theorem d_GM_compare_192 : decode prog_15_method_47_code 192 = .ok (.getfield 126, 3) := by decide +kernel
theorem d_GM_compare_195 : decode prog_15_method_47_code 195 = .ok (.bipush 64, 2) := by decide +kernel
theorem d_GM_compare_197 : decode prog_15_method_47_code 197 = .ok (.iload_n 1, 1) := by decide +kernel
theorem d_GM_compare_198 : decode prog_15_method_47_code 198 = .ok (.imul, 1) := by decide +kernel
theorem d_GM_compare_199 : decode prog_15_method_47_code 199 = .ok (.iload 7, 2) := by decide +kernel
theorem d_GM_compare_201 : decode prog_15_method_47_code 201 = .ok (.iadd, 1) := by decide +kernel
theorem d_GM_compare_202 : decode prog_15_method_47_code 202 = .ok (.baload, 1) := by decide +kernel
theorem d_GM_compare_203 : decode prog_15_method_47_code 203 = .ok (.aload_n 0, 1) := by decide +kernel
theorem d_GM_compare_204 : decode prog_15_method_47_code 204 = .ok (.getfield 126, 3) := by decide +kernel
theorem d_GM_compare_207 : decode prog_15_method_47_code 207 = .ok (.bipush 64, 2) := by decide +kernel
theorem d_GM_compare_209 : decode prog_15_method_47_code 209 = .ok (.iload_n 2, 1) := by decide +kernel
theorem d_GM_compare_210 : decode prog_15_method_47_code 210 = .ok (.imul, 1) := by decide +kernel
theorem d_GM_compare_211 : decode prog_15_method_47_code 211 = .ok (.iload 7, 2) := by decide +kernel
theorem d_GM_compare_213 : decode prog_15_method_47_code 213 = .ok (.iadd, 1) := by decide +kernel
theorem d_GM_compare_214 : decode prog_15_method_47_code 214 = .ok (.baload, 1) := by decide +kernel
theorem d_GM_compare_215 : decode prog_15_method_47_code 215 = .ok (.if_icmp .eq 36, 3) := by decide +kernel
theorem d_GM_compare_251 : decode prog_15_method_47_code 251 = .ok (.iinc 7 1, 3) := by decide +kernel
theorem d_GM_compare_254 : decode prog_15_method_47_code 254 = .ok (.goto (-77), 3) := by decide +kernel
theorem d_GM_compare_218 : decode prog_15_method_47_code 218 = .ok (.aload_n 0, 1) := by decide +kernel
theorem d_GM_compare_219 : decode prog_15_method_47_code 219 = .ok (.getfield 126, 3) := by decide +kernel
theorem d_GM_compare_222 : decode prog_15_method_47_code 222 = .ok (.bipush 64, 2) := by decide +kernel
theorem d_GM_compare_224 : decode prog_15_method_47_code 224 = .ok (.iload_n 1, 1) := by decide +kernel
theorem d_GM_compare_225 : decode prog_15_method_47_code 225 = .ok (.imul, 1) := by decide +kernel
theorem d_GM_compare_226 : decode prog_15_method_47_code 226 = .ok (.iload 7, 2) := by decide +kernel
theorem d_GM_compare_228 : decode prog_15_method_47_code 228 = .ok (.iadd, 1) := by decide +kernel
theorem d_GM_compare_229 : decode prog_15_method_47_code 229 = .ok (.baload, 1) := by decide +kernel
theorem d_GM_compare_230 : decode prog_15_method_47_code 230 = .ok (.aload_n 0, 1) := by decide +kernel
theorem d_GM_compare_231 : decode prog_15_method_47_code 231 = .ok (.getfield 126, 3) := by decide +kernel
theorem d_GM_compare_234 : decode prog_15_method_47_code 234 = .ok (.bipush 64, 2) := by decide +kernel
theorem d_GM_compare_236 : decode prog_15_method_47_code 236 = .ok (.iload_n 2, 1) := by decide +kernel
theorem d_GM_compare_237 : decode prog_15_method_47_code 237 = .ok (.imul, 1) := by decide +kernel
theorem d_GM_compare_238 : decode prog_15_method_47_code 238 = .ok (.iload 7, 2) := by decide +kernel
theorem d_GM_compare_240 : decode prog_15_method_47_code 240 = .ok (.iadd, 1) := by decide +kernel
theorem d_GM_compare_241 : decode prog_15_method_47_code 241 = .ok (.baload, 1) := by decide +kernel
theorem d_GM_compare_242 : decode prog_15_method_47_code 242 = .ok (.if_icmp .ge 7, 3) := by decide +kernel
theorem d_GM_compare_249 : decode prog_15_method_47_code 249 = .ok (.iconst 1, 1) := by decide +kernel
theorem d_GM_compare_250 : decode prog_15_method_47_code 250 = .ok (.ireturn, 1) := by decide +kernel
theorem d_GM_compare_245 : decode prog_15_method_47_code 245 = .ok (.iconst (-1), 1) := by decide +kernel
theorem d_GM_compare_246 : decode prog_15_method_47_code 246 = .ok (.goto 4, 3) := by decide +kernel
theorem d_GM_compare_83 : decode prog_15_method_47_code 83 = .ok (.lstore 5, 2) := by decide +kernel
theorem d_GM_compare_85 : decode prog_15_method_47_code 85 = .ok (.aload_n 0, 1) := by decide +kernel
theorem d_GM_compare_86 : decode prog_15_method_47_code 86 = .ok (.getfield 116, 3) := by decide +kernel
theorem d_GM_compare_89 : decode prog_15_method_47_code 89 = .ok (.iload_n 2, 1) := by decide +kernel
theorem d_GM_compare_90 : decode prog_15_method_47_code 90 = .ok (.iaload, 1) := by decide +kernel
theorem d_GM_compare_91 : decode prog_15_method_47_code 91 = .ok (.ifCond .ne 7, 3) := by decide +kernel
theorem d_GM_compare_98 : decode prog_15_method_47_code 98 = .ok (.aload_n 0, 1) := by decide +kernel
theorem d_GM_compare_99 : decode prog_15_method_47_code 99 = .ok (.getfield 122, 3) := by decide +kernel
theorem d_GM_compare_102 : decode prog_15_method_47_code 102 = .ok (.iload_n 2, 1) := by decide +kernel
theorem d_GM_compare_103 : decode prog_15_method_47_code 103 = .ok (.laload, 1) := by decide +kernel
theorem d_GM_compare_104 : decode prog_15_method_47_code 104 = .ok (.lstore 7, 2) := by decide +kernel
theorem d_GM_compare_106 : decode prog_15_method_47_code 106 = .ok (.lload 5, 2) := by decide +kernel
theorem d_GM_compare_108 : decode prog_15_method_47_code 108 = .ok (.lload 7, 2) := by decide +kernel
theorem d_GM_compare_110 : decode prog_15_method_47_code 110 = .ok (.lcmp, 1) := by decide +kernel
theorem d_GM_compare_111 : decode prog_15_method_47_code 111 = .ok (.ifCond .ge 7, 3) := by decide +kernel
theorem d_GM_compare_118 : decode prog_15_method_47_code 118 = .ok (.lload 5, 2) := by decide +kernel
theorem d_GM_compare_120 : decode prog_15_method_47_code 120 = .ok (.lload 7, 2) := by decide +kernel
theorem d_GM_compare_122 : decode prog_15_method_47_code 122 = .ok (.lcmp, 1) := by decide +kernel
theorem d_GM_compare_123 : decode prog_15_method_47_code 123 = .ok (.ifCond .le 7, 3) := by decide +kernel
theorem d_GM_compare_130 : decode prog_15_method_47_code 130 = .ok (.iconst 0, 1) := by decide +kernel
theorem d_GM_compare_131 : decode prog_15_method_47_code 131 = .ok (.ireturn, 1) := by decide +kernel
theorem d_GM_compare_126 : decode prog_15_method_47_code 126 = .ok (.iconst 1, 1) := by decide +kernel
theorem d_GM_compare_127 : decode prog_15_method_47_code 127 = .ok (.goto 4, 3) := by decide +kernel
theorem d_GM_compare_114 : decode prog_15_method_47_code 114 = .ok (.iconst (-1), 1) := by decide +kernel
theorem d_GM_compare_115 : decode prog_15_method_47_code 115 = .ok (.goto 16, 3) := by decide +kernel
theorem d_GM_compare_94 : decode prog_15_method_47_code 94 = .ok (.lconst 0, 1) := by decide +kernel
theorem d_GM_compare_95 : decode prog_15_method_47_code 95 = .ok (.goto 9, 3) := by decide +kernel
theorem d_GM_compare_257 : decode prog_15_method_47_code 257 = .ok (.iload 5, 2) := by decide +kernel
theorem d_GM_compare_259 : decode prog_15_method_47_code 259 = .ok (.iload 6, 2) := by decide +kernel
theorem d_GM_compare_261 : decode prog_15_method_47_code 261 = .ok (.if_icmp .ge 7, 3) := by decide +kernel
theorem d_GM_compare_268 : decode prog_15_method_47_code 268 = .ok (.iload 5, 2) := by decide +kernel
theorem d_GM_compare_270 : decode prog_15_method_47_code 270 = .ok (.iload 6, 2) := by decide +kernel
theorem d_GM_compare_272 : decode prog_15_method_47_code 272 = .ok (.if_icmp .le 7, 3) := by decide +kernel
theorem d_GM_compare_279 : decode prog_15_method_47_code 279 = .ok (.iconst 0, 1) := by decide +kernel
theorem d_GM_compare_280 : decode prog_15_method_47_code 280 = .ok (.ireturn, 1) := by decide +kernel
theorem d_GM_compare_275 : decode prog_15_method_47_code 275 = .ok (.iconst 1, 1) := by decide +kernel
theorem d_GM_compare_276 : decode prog_15_method_47_code 276 = .ok (.goto 4, 3) := by decide +kernel
theorem d_GM_compare_264 : decode prog_15_method_47_code 264 = .ok (.iconst (-1), 1) := by decide +kernel
theorem d_GM_compare_265 : decode prog_15_method_47_code 265 = .ok (.goto 15, 3) := by decide +kernel
set_option maxHeartbeats 4000000 in
theorem w_GM_compare_0 {l : Launch} {G : gG} {d : Nat} {X : gX} {M : gM} {k : Int → gM → Prop} {o : Nat} (hX : gmX X o) {x1 : Int} (hx1 : g32 x1) {x2 : Int} (hx2 : g32 x2) (T : ((0 : Int) ≤ x1 ∧ x1 < 1200) ∧ (g32 (M (o + 34) (Int.toNat x1)) → (((0 : Int) ≤ x2 ∧ x2 < 1200) ∧ (g32 (M (o + 34) (Int.toNat x2)) → ((¬ M (o + 34) (Int.toNat x1) = 0 → (wp l G y_GM_compare (gRm d) false (kkI X k) false 26 [.val (gR G o), .val (gI x1), .val (gI x2), .val (gI (M (o + 34) (Int.toNat x1))), .val (gI (M (o + 34) (Int.toNat x2))), .unset, .unset, .unset, .unset] [] X M 0 0)) ∧ (M (o + 34) (Int.toNat x1) = 0 → ((¬ M (o + 34) (Int.toNat x2) = 0 → (wp l G y_GM_compare (gRm d) false (kkI X k) false 26 [.val (gR G o), .val (gI x1), .val (gI x2), .val (gI (M (o + 34) (Int.toNat x1))), .val (gI (M (o + 34) (Int.toNat x2))), .unset, .unset, .unset, .unset] [] X M 0 0)) ∧ (M (o + 34) (Int.toNat x2) = 0 → (k 0 M))))))))) : wp l G y_GM_compare (gRm d) false (kkI X k) false 0 [.val (gR G o), .val (gI x1), .val (gI x2), .unset, .unset, .unset, .unset, .unset, .unset] [] X M 0 0 := by
  refine wp_aload_n d_GM_compare_0 rfl rfl (g_nz hX.1) ?_
  refine xgetR d_GM_compare_1 gc_GM f_GM_116.1 f_GM_116.2.1 f_GM_116.2.2.1 hX.1 (gm_o2 hX) hX.2.2.1 f_GM_116.2.2.2.2.1 (gm_row hX 33 rfl).1 ?_
  refine wp_iload_n d_GM_compare_4 rfl rfl ?_
  refine wp_iaload d_GM_compare_5 (gm_row hX 33 rfl).2.2.1 (gm_row hX 33 rfl).2.2.2 (gm_row hX 33 rfl).2.1 (g32_n T.1 (by decide)) T.1.1 T.1.2 (fun h1 => ?_)
  have T := T.2 h1
  refine wp_istore_n (L' := [.val (gR G o), .val (gI x1), .val (gI x2), .val (gI (M (o + 34) (Int.toNat x1))), .unset, .unset, .unset, .unset, .unset]) d_GM_compare_6 rfl (by decide) rfl ?_
  refine wp_aload_n d_GM_compare_7 rfl rfl (g_nz hX.1) ?_
  refine xgetR d_GM_compare_8 gc_GM f_GM_116.1 f_GM_116.2.1 f_GM_116.2.2.1 hX.1 (gm_o2 hX) hX.2.2.1 f_GM_116.2.2.2.2.1 (gm_row hX 33 rfl).1 ?_
  refine wp_iload_n d_GM_compare_11 rfl rfl ?_
  refine wp_iaload d_GM_compare_12 (gm_row hX 33 rfl).2.2.1 (gm_row hX 33 rfl).2.2.2 (gm_row hX 33 rfl).2.1 (g32_n T.1 (by decide)) T.1.1 T.1.2 (fun h2 => ?_)
  have T := T.2 h2
  refine wp_istore (L' := [.val (gR G o), .val (gI x1), .val (gI x2), .val (gI (M (o + 34) (Int.toNat x1))), .val (gI (M (o + 34) (Int.toNat x2))), .unset, .unset, .unset, .unset]) d_GM_compare_13 (by decide) rfl ?_
  refine wp_iload_n d_GM_compare_15 rfl rfl ?_
  refine xz_ne (tgt := 26) d_GM_compare_16 (by decide) (w32_id h1) (fun h4 => ?_) (fun h4 => ?_)
  · have T := T.1 h4
    exact (wpt T (And.intro rfl (And.intro rfl (And.intro rfl (And.intro rfl (And.intro rfl True.intro))))))
  · have T := T.2 h4
    refine wp_iload d_GM_compare_19 rfl ?_
    refine xz_ne (tgt := 26) d_GM_compare_21 (by decide) (w32_id h2) (fun h3 => ?_) (fun h3 => ?_)
    · have T := T.1 h3
      exact (wpt T (And.intro rfl (And.intro rfl (And.intro rfl (And.intro rfl (And.intro rfl True.intro))))))
    · have T := T.2 h3
      refine wp_iconst d_GM_compare_24 ?_
      exact wp_ireturn d_GM_compare_25 rfl id (Nat.zero_le _) (Nat.zero_le _) (kI_mk (g32_c (x := 0) rfl) T)
set_option maxHeartbeats 4000000 in
theorem w_GM_compare_26 {l : Launch} {G : gG} {d : Nat} {X : gX} {M : gM} {k : Int → gM → Prop} {o : Nat} (hX : gmX X o) {x1 : Int} (hx1 : g32 x1) {x2 : Int} (hx2 : g32 x2) {x3 : Int} (hx3 : g32 x3) {x4 : Int} (hx4 : g32 x4) (T : (¬ x3 = 0 → (wp l G y_GM_compare (gRm d) false (kkI X k) false 33 [.val (gR G o), .val (gI x1), .val (gI x2), .val (gI x3), .val (gI x4), .unset, .unset, .unset, .unset] [] X M 0 0)) ∧ (x3 = 0 → (wp l G y_GM_compare (gRm d) false (kkI X k) false 33 [.val (gR G o), .val (gI x1), .val (gI x2), .val (gI x4), .val (gI x4), .unset, .unset, .unset, .unset] [] X M 0 0))) : wp l G y_GM_compare (gRm d) false (kkI X k) false 26 [.val (gR G o), .val (gI x1), .val (gI x2), .val (gI x3), .val (gI x4), .unset, .unset, .unset, .unset] [] X M 0 0 := by
  refine wp_iload_n d_GM_compare_26 rfl rfl ?_
  refine xz_ne (tgt := 33) d_GM_compare_27 (by decide) (w32_id hx3) (fun h5 => ?_) (fun h5 => ?_)
  · have T := T.1 h5
    exact (wpt T (And.intro rfl (And.intro rfl (And.intro rfl (And.intro rfl (And.intro rfl True.intro))))))
  · have T := T.2 h5
    refine wp_iload d_GM_compare_30 rfl ?_
    refine wp_istore_n (L' := [.val (gR G o), .val (gI x1), .val (gI x2), .val (gI x4), .val (gI x4), .unset, .unset, .unset, .unset]) d_GM_compare_32 rfl (by decide) rfl ?_
    exact (wpt T (And.intro rfl (And.intro rfl (And.intro rfl (And.intro rfl (And.intro rfl True.intro))))))
set_option maxHeartbeats 4000000 in
theorem w_GM_compare_33 {l : Launch} {G : gG} {d : Nat} {X : gX} {M : gM} {k : Int → gM → Prop} {o : Nat} (hX : gmX X o) {x1 : Int} (hx1 : g32 x1) {x2 : Int} (hx2 : g32 x2) {x3 : Int} (hx3 : g32 x3) {x4 : Int} (hx4 : g32 x4) (T : (¬ x4 = 0 → (wp l G y_GM_compare (gRm d) false (kkI X k) false 41 [.val (gR G o), .val (gI x1), .val (gI x2), .val (gI x3), .val (gI x4), .unset, .unset, .unset, .unset] [] X M 0 0)) ∧ (x4 = 0 → (wp l G y_GM_compare (gRm d) false (kkI X k) false 41 [.val (gR G o), .val (gI x1), .val (gI x2), .val (gI x3), .val (gI x3), .unset, .unset, .unset, .unset] [] X M 0 0))) : wp l G y_GM_compare (gRm d) false (kkI X k) false 33 [.val (gR G o), .val (gI x1), .val (gI x2), .val (gI x3), .val (gI x4), .unset, .unset, .unset, .unset] [] X M 0 0 := by
  refine wp_iload d_GM_compare_33 rfl ?_
  refine xz_ne (tgt := 41) d_GM_compare_35 (by decide) (w32_id hx4) (fun h6 => ?_) (fun h6 => ?_)
  · have T := T.1 h6
    exact (wpt T (And.intro rfl (And.intro rfl (And.intro rfl (And.intro rfl (And.intro rfl True.intro))))))
  · have T := T.2 h6
    refine wp_iload_n d_GM_compare_38 rfl rfl ?_
    refine wp_istore (L' := [.val (gR G o), .val (gI x1), .val (gI x2), .val (gI x3), .val (gI x3), .unset, .unset, .unset, .unset]) d_GM_compare_39 (by decide) rfl ?_
    exact (wpt T (And.intro rfl (And.intro rfl (And.intro rfl (And.intro rfl (And.intro rfl True.intro))))))
set_option maxHeartbeats 4000000 in
theorem w_GM_compare_41 {l : Launch} {G : gG} {d : Nat} {X : gX} {M : gM} {k : Int → gM → Prop} {o : Nat} (hX : gmX X o) {x1 : Int} (hx1 : g32 x1) {x2 : Int} (hx2 : g32 x2) {x3 : Int} (hx3 : g32 x3) {x4 : Int} (hx4 : g32 x4) (T : (x3 = x4 → ((x3 = 2 → (((0 : Int) ≤ x1 ∧ x1 < 1200) ∧ (g32 (M (o + 34) (Int.toNat x1)) → ((¬ M (o + 34) (Int.toNat x1) = 0 → (((0 : Int) ≤ x1 ∧ x1 < 1200) ∧ (g32 (M (o + 35) (Int.toNat x1)) → (((0 : Int) ≤ x2 ∧ x2 < 1200) ∧ (g32 (M (o + 34) (Int.toNat x2)) → ((¬ M (o + 34) (Int.toNat x2) = 0 → (((0 : Int) ≤ x2 ∧ x2 < 1200) ∧ (g32 (M (o + 35) (Int.toNat x2)) → (wp l G y_GM_compare (gRm d) false (kkI X k) false 177 [.val (gR G o), .val (gI x1), .val (gI x2), .unset, .unset, .val (gI (M (o + 35) (Int.toNat x1))), .val (gI (M (o + 35) (Int.toNat x2))), .val (gI 0), .unset] [] X M 0 0)))) ∧ (M (o + 34) (Int.toNat x2) = 0 → (wp l G y_GM_compare (gRm d) false (kkI X k) false 177 [.val (gR G o), .val (gI x1), .val (gI x2), .unset, .unset, .val (gI (M (o + 35) (Int.toNat x1))), .val (gI 0), .val (gI 0), .unset] [] X M 0 0)))))))) ∧ (M (o + 34) (Int.toNat x1) = 0 → (((0 : Int) ≤ x2 ∧ x2 < 1200) ∧ (g32 (M (o + 34) (Int.toNat x2)) → ((¬ M (o + 34) (Int.toNat x2) = 0 → (((0 : Int) ≤ x2 ∧ x2 < 1200) ∧ (g32 (M (o + 35) (Int.toNat x2)) → (wp l G y_GM_compare (gRm d) false (kkI X k) false 177 [.val (gR G o), .val (gI x1), .val (gI x2), .unset, .unset, .val (gI 0), .val (gI (M (o + 35) (Int.toNat x2))), .val (gI 0), .unset] [] X M 0 0)))) ∧ (M (o + 34) (Int.toNat x2) = 0 → (wp l G y_GM_compare (gRm d) false (kkI X k) false 177 [.val (gR G o), .val (gI x1), .val (gI x2), .unset, .unset, .val (gI 0), .val (gI 0), .val (gI 0), .unset] [] X M 0 0)))))))))) ∧ (¬ x3 = 2 → (((0 : Int) ≤ x1 ∧ x1 < 1200) ∧ (g32 (M (o + 34) (Int.toNat x1)) → ((¬ M (o + 34) (Int.toNat x1) = 0 → (((0 : Int) ≤ x1 ∧ x1 < 1200) ∧ (g64 (M (o + 36) (Int.toNat x1)) → (wp l G y_GM_compare (gRm d) false (kkI X k) false 83 [.val (gR G o), .unset, .val (gI x2), .unset, .unset, .unset, .unset, .unset, .unset] [gL (M (o + 36) (Int.toNat x1))] X M 0 0)))) ∧ (M (o + 34) (Int.toNat x1) = 0 → (wp l G y_GM_compare (gRm d) false (kkI X k) false 83 [.val (gR G o), .unset, .val (gI x2), .unset, .unset, .unset, .unset, .unset, .unset] [gL 0] X M 0 0)))))))) ∧ (¬ x3 = x4 → ((x4 ≤ x3 → (k 1 M)) ∧ (¬ x4 ≤ x3 → (k (-1) M))))) : wp l G y_GM_compare (gRm d) false (kkI X k) false 41 [.val (gR G o), .val (gI x1), .val (gI x2), .val (gI x3), .val (gI x4), .unset, .unset, .unset, .unset] [] X M 0 0 := by
  refine wp_iload_n d_GM_compare_41 rfl rfl ?_
  refine wp_iload d_GM_compare_42 rfl ?_
  refine xi_eq (tgt := 59) d_GM_compare_44 (by decide) (w32_id hx3) (w32_id hx4) (fun h21 => ?_) (fun h21 => ?_)
  · have T := T.1 h21
    refine wp_iload_n d_GM_compare_59 rfl rfl ?_
    refine wp_iconst d_GM_compare_60 ?_
    refine xi_eq (tgt := 132) d_GM_compare_61 (by decide) (w32_id hx3) (w32_id (g32_c (x := 2) rfl)) (fun h19 => ?_) (fun h19 => ?_)
    · have T := T.1 h19
      refine wp_aload_n d_GM_compare_132 rfl rfl (g_nz hX.1) ?_
      refine xgetR d_GM_compare_133 gc_GM f_GM_116.1 f_GM_116.2.1 f_GM_116.2.2.1 hX.1 (gm_o2 hX) hX.2.2.1 f_GM_116.2.2.2.2.1 (gm_row hX 33 rfl).1 ?_
      refine wp_iload_n d_GM_compare_136 rfl rfl ?_
      refine wp_iaload d_GM_compare_137 (gm_row hX 33 rfl).2.2.1 (gm_row hX 33 rfl).2.2.2 (gm_row hX 33 rfl).2.1 (g32_n T.1 (by decide)) T.1.1 T.1.2 (fun h7 => ?_)
      have T := T.2 h7
      refine xz_ne (tgt := 145) d_GM_compare_138 (by decide) (w32_id h7) (fun h15 => ?_) (fun h15 => ?_)
      · have T := T.1 h15
        refine wp_aload_n d_GM_compare_145 rfl rfl (g_nz hX.1) ?_
        refine xgetR d_GM_compare_146 gc_GM f_GM_119.1 f_GM_119.2.1 f_GM_119.2.2.1 hX.1 (gm_o2 hX) hX.2.2.1 f_GM_119.2.2.2.2.1 (gm_row hX 34 rfl).1 ?_
        refine wp_iload_n d_GM_compare_149 rfl rfl ?_
        refine wp_iaload d_GM_compare_150 (gm_row hX 34 rfl).2.2.1 (gm_row hX 34 rfl).2.2.2 (gm_row hX 34 rfl).2.1 (g32_n T.1 (by decide)) T.1.1 T.1.2 (fun h8 => ?_)
        have T := T.2 h8
        refine wp_istore (L' := [.val (gR G o), .val (gI x1), .val (gI x2), .val (gI x3), .val (gI x4), .val (gI (M (o + 35) (Int.toNat x1))), .unset, .unset, .unset]) d_GM_compare_151 (by decide) rfl ?_
        refine wp_aload_n d_GM_compare_153 rfl rfl (g_nz hX.1) ?_
        refine xgetR d_GM_compare_154 gc_GM f_GM_116.1 f_GM_116.2.1 f_GM_116.2.2.1 hX.1 (gm_o2 hX) hX.2.2.1 f_GM_116.2.2.2.2.1 (gm_row hX 33 rfl).1 ?_
        refine wp_iload_n d_GM_compare_157 rfl rfl ?_
        refine wp_iaload d_GM_compare_158 (gm_row hX 33 rfl).2.2.1 (gm_row hX 33 rfl).2.2.2 (gm_row hX 33 rfl).2.1 (g32_n T.1 (by decide)) T.1.1 T.1.2 (fun h9 => ?_)
        have T := T.2 h9
        refine xz_ne (tgt := 166) d_GM_compare_159 (by decide) (w32_id h9) (fun h11 => ?_) (fun h11 => ?_)
        · have T := T.1 h11
          refine wp_aload_n d_GM_compare_166 rfl rfl (g_nz hX.1) ?_
          refine xgetR d_GM_compare_167 gc_GM f_GM_119.1 f_GM_119.2.1 f_GM_119.2.2.1 hX.1 (gm_o2 hX) hX.2.2.1 f_GM_119.2.2.2.2.1 (gm_row hX 34 rfl).1 ?_
          refine wp_iload_n d_GM_compare_170 rfl rfl ?_
          refine wp_iaload d_GM_compare_171 (gm_row hX 34 rfl).2.2.1 (gm_row hX 34 rfl).2.2.2 (gm_row hX 34 rfl).2.1 (g32_n T.1 (by decide)) T.1.1 T.1.2 (fun h10 => ?_)
          have T := T.2 h10
          refine wp_istore (L' := [.val (gR G o), .val (gI x1), .val (gI x2), .val (gI x3), .val (gI x4), .val (gI (M (o + 35) (Int.toNat x1))), .val (gI (M (o + 35) (Int.toNat x2))), .unset, .unset]) d_GM_compare_172 (by decide) rfl ?_
          refine wp_iconst d_GM_compare_174 ?_
          refine wp_istore (L' := [.val (gR G o), .val (gI x1), .val (gI x2), .val (gI x3), .val (gI x4), .val (gI (M (o + 35) (Int.toNat x1))), .val (gI (M (o + 35) (Int.toNat x2))), .val (gI 0), .unset]) d_GM_compare_175 (by decide) rfl ?_
          exact (wpt T (And.intro rfl (And.intro rfl (And.intro rfl (And.intro rfl (And.intro rfl (And.intro rfl True.intro)))))))
        · have T := T.2 h11
          refine wp_iconst d_GM_compare_162 ?_
          refine wp_goto (tgt := 172) d_GM_compare_163 (by decide) ?_
          refine wp_istore (L' := [.val (gR G o), .val (gI x1), .val (gI x2), .val (gI x3), .val (gI x4), .val (gI (M (o + 35) (Int.toNat x1))), .val (gI 0), .unset, .unset]) d_GM_compare_172 (by decide) rfl ?_
          refine wp_iconst d_GM_compare_174 ?_
          refine wp_istore (L' := [.val (gR G o), .val (gI x1), .val (gI x2), .val (gI x3), .val (gI x4), .val (gI (M (o + 35) (Int.toNat x1))), .val (gI 0), .val (gI 0), .unset]) d_GM_compare_175 (by decide) rfl ?_
          exact (wpt T (And.intro rfl (And.intro rfl (And.intro rfl (And.intro rfl (And.intro rfl (And.intro rfl True.intro)))))))
      · have T := T.2 h15
        refine wp_iconst d_GM_compare_141 ?_
        refine wp_goto (tgt := 151) d_GM_compare_142 (by decide) ?_
        refine wp_istore (L' := [.val (gR G o), .val (gI x1), .val (gI x2), .val (gI x3), .val (gI x4), .val (gI 0), .unset, .unset, .unset]) d_GM_compare_151 (by decide) rfl ?_
        refine wp_aload_n d_GM_compare_153 rfl rfl (g_nz hX.1) ?_
        refine xgetR d_GM_compare_154 gc_GM f_GM_116.1 f_GM_116.2.1 f_GM_116.2.2.1 hX.1 (gm_o2 hX) hX.2.2.1 f_GM_116.2.2.2.2.1 (gm_row hX 33 rfl).1 ?_
        refine wp_iload_n d_GM_compare_157 rfl rfl ?_
        refine wp_iaload d_GM_compare_158 (gm_row hX 33 rfl).2.2.1 (gm_row hX 33 rfl).2.2.2 (gm_row hX 33 rfl).2.1 (g32_n T.1 (by decide)) T.1.1 T.1.2 (fun h12 => ?_)
        have T := T.2 h12
        refine xz_ne (tgt := 166) d_GM_compare_159 (by decide) (w32_id h12) (fun h14 => ?_) (fun h14 => ?_)
        · have T := T.1 h14
          refine wp_aload_n d_GM_compare_166 rfl rfl (g_nz hX.1) ?_
          refine xgetR d_GM_compare_167 gc_GM f_GM_119.1 f_GM_119.2.1 f_GM_119.2.2.1 hX.1 (gm_o2 hX) hX.2.2.1 f_GM_119.2.2.2.2.1 (gm_row hX 34 rfl).1 ?_
          refine wp_iload_n d_GM_compare_170 rfl rfl ?_
          refine wp_iaload d_GM_compare_171 (gm_row hX 34 rfl).2.2.1 (gm_row hX 34 rfl).2.2.2 (gm_row hX 34 rfl).2.1 (g32_n T.1 (by decide)) T.1.1 T.1.2 (fun h13 => ?_)
          have T := T.2 h13
          refine wp_istore (L' := [.val (gR G o), .val (gI x1), .val (gI x2), .val (gI x3), .val (gI x4), .val (gI 0), .val (gI (M (o + 35) (Int.toNat x2))), .unset, .unset]) d_GM_compare_172 (by decide) rfl ?_
          refine wp_iconst d_GM_compare_174 ?_
          refine wp_istore (L' := [.val (gR G o), .val (gI x1), .val (gI x2), .val (gI x3), .val (gI x4), .val (gI 0), .val (gI (M (o + 35) (Int.toNat x2))), .val (gI 0), .unset]) d_GM_compare_175 (by decide) rfl ?_
          exact (wpt T (And.intro rfl (And.intro rfl (And.intro rfl (And.intro rfl (And.intro rfl (And.intro rfl True.intro)))))))
        · have T := T.2 h14
          refine wp_iconst d_GM_compare_162 ?_
          refine wp_goto (tgt := 172) d_GM_compare_163 (by decide) ?_
          refine wp_istore (L' := [.val (gR G o), .val (gI x1), .val (gI x2), .val (gI x3), .val (gI x4), .val (gI 0), .val (gI 0), .unset, .unset]) d_GM_compare_172 (by decide) rfl ?_
          refine wp_iconst d_GM_compare_174 ?_
          refine wp_istore (L' := [.val (gR G o), .val (gI x1), .val (gI x2), .val (gI x3), .val (gI x4), .val (gI 0), .val (gI 0), .val (gI 0), .unset]) d_GM_compare_175 (by decide) rfl ?_
          exact (wpt T (And.intro rfl (And.intro rfl (And.intro rfl (And.intro rfl (And.intro rfl (And.intro rfl True.intro)))))))
    · have T := T.2 h19
      refine wp_aload_n d_GM_compare_64 rfl rfl (g_nz hX.1) ?_
      refine xgetR d_GM_compare_65 gc_GM f_GM_116.1 f_GM_116.2.1 f_GM_116.2.2.1 hX.1 (gm_o2 hX) hX.2.2.1 f_GM_116.2.2.2.2.1 (gm_row hX 33 rfl).1 ?_
      refine wp_iload_n d_GM_compare_68 rfl rfl ?_
      refine wp_iaload d_GM_compare_69 (gm_row hX 33 rfl).2.2.1 (gm_row hX 33 rfl).2.2.2 (gm_row hX 33 rfl).2.1 (g32_n T.1 (by decide)) T.1.1 T.1.2 (fun h16 => ?_)
      have T := T.2 h16
      refine xz_ne (tgt := 77) d_GM_compare_70 (by decide) (w32_id h16) (fun h18 => ?_) (fun h18 => ?_)
      · have T := T.1 h18
        refine wp_aload_n d_GM_compare_77 rfl rfl (g_nz hX.1) ?_
        refine xgetR d_GM_compare_78 gc_GM f_GM_122.1 f_GM_122.2.1 f_GM_122.2.2.1 hX.1 (gm_o2 hX) hX.2.2.1 f_GM_122.2.2.2.2.1 (gm_row hX 35 rfl).1 ?_
        refine wp_iload_n d_GM_compare_81 rfl rfl ?_
        refine wp_laload d_GM_compare_82 (gm_row hX 35 rfl).2.2.1 (gm_row hX 35 rfl).2.2.2 (gm_row hX 35 rfl).2.1 (g32_n T.1 (by decide)) T.1.1 T.1.2 (fun h17 => ?_)
        have T := T.2 h17
        exact (wpt T (And.intro rfl (And.intro rfl True.intro)))
      · have T := T.2 h18
        refine wp_lconst0 d_GM_compare_73 ?_
        refine wp_goto (tgt := 83) d_GM_compare_74 (by decide) ?_
        exact (wpt T (And.intro rfl (And.intro rfl True.intro)))
  · have T := T.2 h21
    refine wp_iload_n d_GM_compare_47 rfl rfl ?_
    refine wp_iload d_GM_compare_48 rfl ?_
    refine xi_ge (tgt := 57) d_GM_compare_50 (by decide) (w32_id hx3) (w32_id hx4) (fun h20 => ?_) (fun h20 => ?_)
    · have T := T.1 h20
      refine wp_iconst d_GM_compare_57 ?_
      exact wp_ireturn d_GM_compare_58 rfl id (Nat.zero_le _) (Nat.zero_le _) (kI_mk (g32_c (x := 1) rfl) T)
    · have T := T.2 h20
      refine wp_iconst d_GM_compare_53 ?_
      refine wp_goto (tgt := 58) d_GM_compare_54 (by decide) ?_
      exact wp_ireturn d_GM_compare_58 rfl id (Nat.zero_le _) (Nat.zero_le _) (kI_mk (g32_c (x := (-1)) rfl) T)
set_option maxHeartbeats 4000000 in
theorem w_GM_compare_177 {l : Launch} {G : gG} {d : Nat} {X : gX} {M : gM} {k : Int → gM → Prop} {o : Nat} (hX : gmX X o) {x1 : Int} (hx1 : g32 x1) {x2 : Int} (hx2 : g32 x2) {x5 : Int} (hx5 : g32 x5) {x6 : Int} (hx6 : g32 x6) {x7 : Int} (hx7 : g32 x7) (T : (x5 ≤ x7 → (wp l G y_GM_compare (gRm d) false (kkI X k) false 257 [.unset, .unset, .unset, .unset, .unset, .val (gI x5), .val (gI x6), .unset, .unset] [] X M 0 0)) ∧ (¬ x5 ≤ x7 → ((x6 ≤ x7 → (wp l G y_GM_compare (gRm d) false (kkI X k) false 257 [.unset, .unset, .unset, .unset, .unset, .val (gI x5), .val (gI x6), .unset, .unset] [] X M 0 0)) ∧ (¬ x6 ≤ x7 → (((0 : Int) ≤ (64 * x1) + x7 ∧ (64 * x1) + x7 < 76800) ∧ ((-128 ≤ M (o + 37) (Int.toNat ((64 * x1) + x7)) ∧ M (o + 37) (Int.toNat ((64 * x1) + x7)) < 128) → (((0 : Int) ≤ (64 * x2) + x7 ∧ (64 * x2) + x7 < 76800) ∧ ((-128 ≤ M (o + 37) (Int.toNat ((64 * x2) + x7)) ∧ M (o + 37) (Int.toNat ((64 * x2) + x7)) < 128) → ((M (o + 37) (Int.toNat ((64 * x1) + x7)) = M (o + 37) (Int.toNat ((64 * x2) + x7)) → (wp l G y_GM_compare (gRm d) false (kkI X k) false 177 [.val (gR G o), .val (gI x1), .val (gI x2), .unset, .unset, .val (gI x5), .val (gI x6), .val (gI (w32 (x7 + 1))), .unset] [] X M 0 0)) ∧ (¬ M (o + 37) (Int.toNat ((64 * x1) + x7)) = M (o + 37) (Int.toNat ((64 * x2) + x7)) → (((0 : Int) ≤ (64 * x1) + x7 ∧ (64 * x1) + x7 < 76800) ∧ ((-128 ≤ M (o + 37) (Int.toNat ((64 * x1) + x7)) ∧ M (o + 37) (Int.toNat ((64 * x1) + x7)) < 128) → (((0 : Int) ≤ (64 * x2) + x7 ∧ (64 * x2) + x7 < 76800) ∧ ((-128 ≤ M (o + 37) (Int.toNat ((64 * x2) + x7)) ∧ M (o + 37) (Int.toNat ((64 * x2) + x7)) < 128) → ((M (o + 37) (Int.toNat ((64 * x2) + x7)) ≤ M (o + 37) (Int.toNat ((64 * x1) + x7)) → (k 1 M)) ∧ (¬ M (o + 37) (Int.toNat ((64 * x2) + x7)) ≤ M (o + 37) (Int.toNat ((64 * x1) + x7)) → (k (-1) M))))))))))))))))) : wp l G y_GM_compare (gRm d) false (kkI X k) false 177 [.val (gR G o), .val (gI x1), .val (gI x2), .unset, .unset, .val (gI x5), .val (gI x6), .val (gI x7), .unset] [] X M 0 0 := by
  refine wp_iload d_GM_compare_177 rfl ?_
  refine wp_iload d_GM_compare_179 rfl ?_
  refine xi_ge (tgt := 257) d_GM_compare_181 (by decide) (w32_id hx7) (w32_id hx5) (fun h29 => ?_) (fun h29 => ?_)
  · have T := T.1 h29
    exact (wpt T (And.intro rfl (And.intro rfl True.intro)))
  · have T := T.2 h29
    refine wp_iload d_GM_compare_184 rfl ?_
    refine wp_iload d_GM_compare_186 rfl ?_
    refine xi_ge (tgt := 257) d_GM_compare_188 (by decide) (w32_id hx7) (w32_id hx6) (fun h28 => ?_) (fun h28 => ?_)
    · have T := T.1 h28
      exact (wpt T (And.intro rfl (And.intro rfl True.intro)))
    · have T := T.2 h28
      refine wp_aload_n d_GM_compare_191 rfl rfl (g_nz hX.1) ?_
      refine xgetR d_GM_compare_192 gc_GM f_GM_126.1 f_GM_126.2.1 f_GM_126.2.2.1 hX.1 (gm_o2 hX) hX.2.2.1 f_GM_126.2.2.2.2.1 (gm_row hX 36 rfl).1 ?_
      refine wp_bipush d_GM_compare_195 ⟨by decide, by decide⟩ ?_
      refine wp_iload_n d_GM_compare_197 rfl rfl ?_
      refine wp_imul d_GM_compare_198 ?_
      refine wp_iload d_GM_compare_199 rfl ?_
      refine wp_iadd d_GM_compare_201 ?_
      refine wp_baload d_GM_compare_202 (gm_row hX 36 rfl).2.2.1 (gm_row hX 36 rfl).2.2.2 (gm_row hX 36 rfl).2.1 (g32_n T.1 (by decide)) T.1.1 T.1.2 (fun h22 => ?_)
      have T := T.2 h22
      refine wp_aload_n d_GM_compare_203 rfl rfl (g_nz hX.1) ?_
      refine xgetR d_GM_compare_204 gc_GM f_GM_126.1 f_GM_126.2.1 f_GM_126.2.2.1 hX.1 (gm_o2 hX) hX.2.2.1 f_GM_126.2.2.2.2.1 (gm_row hX 36 rfl).1 ?_
      refine wp_bipush d_GM_compare_207 ⟨by decide, by decide⟩ ?_
      refine wp_iload_n d_GM_compare_209 rfl rfl ?_
      refine wp_imul d_GM_compare_210 ?_
      refine wp_iload d_GM_compare_211 rfl ?_
      refine wp_iadd d_GM_compare_213 ?_
      refine wp_baload d_GM_compare_214 (gm_row hX 36 rfl).2.2.1 (gm_row hX 36 rfl).2.2.2 (gm_row hX 36 rfl).2.1 (g32_n T.1 (by decide)) T.1.1 T.1.2 (fun h23 => ?_)
      have T := T.2 h23
      refine xi_eq (tgt := 251) d_GM_compare_215 (by decide) (w32_id (g32_b h22)) (w32_id (g32_b h23)) (fun h27 => ?_) (fun h27 => ?_)
      · have T := T.1 h27
        refine wp_iinc (L' := [.val (gR G o), .val (gI x1), .val (gI x2), .unset, .unset, .val (gI x5), .val (gI x6), .val (gI (x7 + 1)), .unset]) d_GM_compare_251 rfl (by decide) rfl ?_
        refine wp_goto (tgt := 177) d_GM_compare_254 (by decide) ?_
        exact (wpt T (And.intro rfl (And.intro rfl (And.intro rfl (And.intro rfl (And.intro rfl (And.intro (gI_w _) True.intro)))))))
      · have T := T.2 h27
        refine wp_aload_n d_GM_compare_218 rfl rfl (g_nz hX.1) ?_
        refine xgetR d_GM_compare_219 gc_GM f_GM_126.1 f_GM_126.2.1 f_GM_126.2.2.1 hX.1 (gm_o2 hX) hX.2.2.1 f_GM_126.2.2.2.2.1 (gm_row hX 36 rfl).1 ?_
        refine wp_bipush d_GM_compare_222 ⟨by decide, by decide⟩ ?_
        refine wp_iload_n d_GM_compare_224 rfl rfl ?_
        refine wp_imul d_GM_compare_225 ?_
        refine wp_iload d_GM_compare_226 rfl ?_
        refine wp_iadd d_GM_compare_228 ?_
        refine wp_baload d_GM_compare_229 (gm_row hX 36 rfl).2.2.1 (gm_row hX 36 rfl).2.2.2 (gm_row hX 36 rfl).2.1 (g32_n T.1 (by decide)) T.1.1 T.1.2 (fun h24 => ?_)
        have T := T.2 h24
        refine wp_aload_n d_GM_compare_230 rfl rfl (g_nz hX.1) ?_
        refine xgetR d_GM_compare_231 gc_GM f_GM_126.1 f_GM_126.2.1 f_GM_126.2.2.1 hX.1 (gm_o2 hX) hX.2.2.1 f_GM_126.2.2.2.2.1 (gm_row hX 36 rfl).1 ?_
        refine wp_bipush d_GM_compare_234 ⟨by decide, by decide⟩ ?_
        refine wp_iload_n d_GM_compare_236 rfl rfl ?_
        refine wp_imul d_GM_compare_237 ?_
        refine wp_iload d_GM_compare_238 rfl ?_
        refine wp_iadd d_GM_compare_240 ?_
        refine wp_baload d_GM_compare_241 (gm_row hX 36 rfl).2.2.1 (gm_row hX 36 rfl).2.2.2 (gm_row hX 36 rfl).2.1 (g32_n T.1 (by decide)) T.1.1 T.1.2 (fun h25 => ?_)
        have T := T.2 h25
        refine xi_ge (tgt := 249) d_GM_compare_242 (by decide) (w32_id (g32_b h24)) (w32_id (g32_b h25)) (fun h26 => ?_) (fun h26 => ?_)
        · have T := T.1 h26
          refine wp_iconst d_GM_compare_249 ?_
          exact wp_ireturn d_GM_compare_250 rfl id (Nat.zero_le _) (Nat.zero_le _) (kI_mk (g32_c (x := 1) rfl) T)
        · have T := T.2 h26
          refine wp_iconst d_GM_compare_245 ?_
          refine wp_goto (tgt := 250) d_GM_compare_246 (by decide) ?_
          exact wp_ireturn d_GM_compare_250 rfl id (Nat.zero_le _) (Nat.zero_le _) (kI_mk (g32_c (x := (-1)) rfl) T)
set_option maxHeartbeats 4000000 in
theorem w_GM_compare_83 {l : Launch} {G : gG} {d : Nat} {X : gX} {M : gM} {k : Int → gM → Prop} {o : Nat} (hX : gmX X o) {x2 : Int} (hx2 : g32 x2) {s0 : Int} (hs0 : g64 s0) (T : ((0 : Int) ≤ x2 ∧ x2 < 1200) ∧ (g32 (M (o + 34) (Int.toNat x2)) → ((¬ M (o + 34) (Int.toNat x2) = 0 → (((0 : Int) ≤ x2 ∧ x2 < 1200) ∧ (g64 (M (o + 36) (Int.toNat x2)) → ((M (o + 36) (Int.toNat x2) ≤ s0 → ((s0 ≤ M (o + 36) (Int.toNat x2) → (k 0 M)) ∧ (¬ s0 ≤ M (o + 36) (Int.toNat x2) → (k 1 M)))) ∧ (¬ M (o + 36) (Int.toNat x2) ≤ s0 → (k (-1) M)))))) ∧ (M (o + 34) (Int.toNat x2) = 0 → ((0 ≤ s0 → ((s0 ≤ 0 → (k 0 M)) ∧ (¬ s0 ≤ 0 → (k 1 M)))) ∧ (¬ 0 ≤ s0 → (k (-1) M))))))) : wp l G y_GM_compare (gRm d) false (kkI X k) false 83 [.val (gR G o), .unset, .val (gI x2), .unset, .unset, .unset, .unset, .unset, .unset] [gL s0] X M 0 0 := by
  refine wp_lstore (L' := [.val (gR G o), .unset, .val (gI x2), .unset, .unset, .val (gL s0), .unset, .unset, .unset]) d_GM_compare_83 (by decide) rfl ?_
  refine wp_aload_n d_GM_compare_85 rfl rfl (g_nz hX.1) ?_
  refine xgetR d_GM_compare_86 gc_GM f_GM_116.1 f_GM_116.2.1 f_GM_116.2.2.1 hX.1 (gm_o2 hX) hX.2.2.1 f_GM_116.2.2.2.2.1 (gm_row hX 33 rfl).1 ?_
  refine wp_iload_n d_GM_compare_89 rfl rfl ?_
  refine wp_iaload d_GM_compare_90 (gm_row hX 33 rfl).2.2.1 (gm_row hX 33 rfl).2.2.2 (gm_row hX 33 rfl).2.1 (g32_n T.1 (by decide)) T.1.1 T.1.2 (fun h30 => ?_)
  have T := T.2 h30
  refine xz_ne (tgt := 98) d_GM_compare_91 (by decide) (w32_id h30) (fun h36 => ?_) (fun h36 => ?_)
  · have T := T.1 h36
    refine wp_aload_n d_GM_compare_98 rfl rfl (g_nz hX.1) ?_
    refine xgetR d_GM_compare_99 gc_GM f_GM_122.1 f_GM_122.2.1 f_GM_122.2.2.1 hX.1 (gm_o2 hX) hX.2.2.1 f_GM_122.2.2.2.2.1 (gm_row hX 35 rfl).1 ?_
    refine wp_iload_n d_GM_compare_102 rfl rfl ?_
    refine wp_laload d_GM_compare_103 (gm_row hX 35 rfl).2.2.1 (gm_row hX 35 rfl).2.2.2 (gm_row hX 35 rfl).2.1 (g32_n T.1 (by decide)) T.1.1 T.1.2 (fun h31 => ?_)
    have T := T.2 h31
    refine wp_lstore (L' := [.val (gR G o), .unset, .val (gI x2), .unset, .unset, .val (gL s0), .unset, .val (gL (M (o + 36) (Int.toNat x2))), .unset]) d_GM_compare_104 (by decide) rfl ?_
    refine wp_lload d_GM_compare_106 rfl ?_
    refine wp_lload d_GM_compare_108 rfl ?_
    refine xl_ge (tgt := 118) d_GM_compare_110 d_GM_compare_111 (by decide) (w64_id hs0) (w64_id h31) (fun h33 => ?_) (fun h33 => ?_)
    · have T := T.1 h33
      refine wp_lload d_GM_compare_118 rfl ?_
      refine wp_lload d_GM_compare_120 rfl ?_
      refine xl_le (tgt := 130) d_GM_compare_122 d_GM_compare_123 (by decide) (w64_id hs0) (w64_id h31) (fun h32 => ?_) (fun h32 => ?_)
      · have T := T.1 h32
        refine wp_iconst d_GM_compare_130 ?_
        exact wp_ireturn d_GM_compare_131 rfl id (Nat.zero_le _) (Nat.zero_le _) (kI_mk (g32_c (x := 0) rfl) T)
      · have T := T.2 h32
        refine wp_iconst d_GM_compare_126 ?_
        refine wp_goto (tgt := 131) d_GM_compare_127 (by decide) ?_
        exact wp_ireturn d_GM_compare_131 rfl id (Nat.zero_le _) (Nat.zero_le _) (kI_mk (g32_c (x := 1) rfl) T)
    · have T := T.2 h33
      refine wp_iconst d_GM_compare_114 ?_
      refine wp_goto (tgt := 131) d_GM_compare_115 (by decide) ?_
      exact wp_ireturn d_GM_compare_131 rfl id (Nat.zero_le _) (Nat.zero_le _) (kI_mk (g32_c (x := (-1)) rfl) T)
  · have T := T.2 h36
    refine wp_lconst0 d_GM_compare_94 ?_
    refine wp_goto (tgt := 104) d_GM_compare_95 (by decide) ?_
    refine wp_lstore (L' := [.val (gR G o), .unset, .val (gI x2), .unset, .unset, .val (gL s0), .unset, .val (gL 0), .unset]) d_GM_compare_104 (by decide) rfl ?_
    refine wp_lload d_GM_compare_106 rfl ?_
    refine wp_lload d_GM_compare_108 rfl ?_
    refine xl_ge (tgt := 118) d_GM_compare_110 d_GM_compare_111 (by decide) (w64_id hs0) (w64_id (g64_c (x := 0) rfl)) (fun h35 => ?_) (fun h35 => ?_)
    · have T := T.1 h35
      refine wp_lload d_GM_compare_118 rfl ?_
      refine wp_lload d_GM_compare_120 rfl ?_
      refine xl_le (tgt := 130) d_GM_compare_122 d_GM_compare_123 (by decide) (w64_id hs0) (w64_id (g64_c (x := 0) rfl)) (fun h34 => ?_) (fun h34 => ?_)
      · have T := T.1 h34
        refine wp_iconst d_GM_compare_130 ?_
        exact wp_ireturn d_GM_compare_131 rfl id (Nat.zero_le _) (Nat.zero_le _) (kI_mk (g32_c (x := 0) rfl) T)
      · have T := T.2 h34
        refine wp_iconst d_GM_compare_126 ?_
        refine wp_goto (tgt := 131) d_GM_compare_127 (by decide) ?_
        exact wp_ireturn d_GM_compare_131 rfl id (Nat.zero_le _) (Nat.zero_le _) (kI_mk (g32_c (x := 1) rfl) T)
    · have T := T.2 h35
      refine wp_iconst d_GM_compare_114 ?_
      refine wp_goto (tgt := 131) d_GM_compare_115 (by decide) ?_
      exact wp_ireturn d_GM_compare_131 rfl id (Nat.zero_le _) (Nat.zero_le _) (kI_mk (g32_c (x := (-1)) rfl) T)
set_option maxHeartbeats 4000000 in
theorem w_GM_compare_257 {l : Launch} {G : gG} {d : Nat} {X : gX} {M : gM} {k : Int → gM → Prop} {o : Nat} (hX : gmX X o) {x5 : Int} (hx5 : g32 x5) {x6 : Int} (hx6 : g32 x6) (T : (x6 ≤ x5 → ((x5 ≤ x6 → (k 0 M)) ∧ (¬ x5 ≤ x6 → (k 1 M)))) ∧ (¬ x6 ≤ x5 → (k (-1) M))) : wp l G y_GM_compare (gRm d) false (kkI X k) false 257 [.unset, .unset, .unset, .unset, .unset, .val (gI x5), .val (gI x6), .unset, .unset] [] X M 0 0 := by
  refine wp_iload d_GM_compare_257 rfl ?_
  refine wp_iload d_GM_compare_259 rfl ?_
  refine xi_ge (tgt := 268) d_GM_compare_261 (by decide) (w32_id hx5) (w32_id hx6) (fun h38 => ?_) (fun h38 => ?_)
  · have T := T.1 h38
    refine wp_iload d_GM_compare_268 rfl ?_
    refine wp_iload d_GM_compare_270 rfl ?_
    refine xi_le (tgt := 279) d_GM_compare_272 (by decide) (w32_id hx5) (w32_id hx6) (fun h37 => ?_) (fun h37 => ?_)
    · have T := T.1 h37
      refine wp_iconst d_GM_compare_279 ?_
      exact wp_ireturn d_GM_compare_280 rfl id (Nat.zero_le _) (Nat.zero_le _) (kI_mk (g32_c (x := 0) rfl) T)
    · have T := T.2 h37
      refine wp_iconst d_GM_compare_275 ?_
      refine wp_goto (tgt := 280) d_GM_compare_276 (by decide) ?_
      exact wp_ireturn d_GM_compare_280 rfl id (Nat.zero_le _) (Nat.zero_le _) (kI_mk (g32_c (x := 1) rfl) T)
  · have T := T.2 h38
    refine wp_iconst d_GM_compare_264 ?_
    refine wp_goto (tgt := 280) d_GM_compare_265 (by decide) ?_
    exact wp_ireturn d_GM_compare_280 rfl id (Nat.zero_le _) (Nat.zero_le _) (kI_mk (g32_c (x := (-1)) rfl) T)
theorem e_GM_compare {l : Launch} {G : gG} {d : Nat} {X : gX} {M : gM} {k : Int → gM → Prop} {o : Nat} {x1 : Int} {x2 : Int} (T : wp l G y_GM_compare (gRm d) false (kkI X k) false 0 [.val (gR G o), .val (gI x1), .val (gI x2), .unset, .unset, .unset, .unset, .unset, .unset] [] X M 0 0) : cI l G y_GM_compare (gRm d) false [gR G o, gI x1, gI x2] X M k := cen_I (plainFor_of_name rfl) (by simp only [lg_sl_R, lg_sl_I, lg_sl_L, lg_sl_N, List.length_cons, List.length_nil]; decide) (by unfold gEn; simp only [lg_sl_R, lg_sl_I, lg_sl_L, lg_sl_N]; exact wpt T (And.intro rfl (And.intro rfl (And.intro rfl True.intro))))
