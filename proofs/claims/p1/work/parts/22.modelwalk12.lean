/-! Walks of the reference's methods, written by wip/whole/gen_model.py -/
theorem d_GM_shift_0 : decode prog_15_method_87_code 0 = .ok (.iload_n 1, 1) := by decide +kernel
theorem d_GM_shift_1 : decode prog_15_method_87_code 1 = .ok (.ifCond .eq 8, 3) := by decide +kernel
theorem d_GM_shift_9 : decode prog_15_method_87_code 9 = .ok (.sipush 200, 3) := by decide +kernel
theorem d_GM_shift_12 : decode prog_15_method_87_code 12 = .ok (.istore 4, 2) := by decide +kernel
theorem d_GM_shift_14 : decode prog_15_method_87_code 14 = .ok (.aload_n 0, 1) := by decide +kernel
theorem d_GM_shift_15 : decode prog_15_method_87_code 15 = .ok (.getfield 502, 3) := by decide +kernel
theorem d_GM_shift_18 : decode prog_15_method_87_code 18 = .ok (.invokestatic 505, 3) := by decide +kernel
theorem d_GM_shift_21 : decode prog_15_method_87_code 21 = .ok (.istore 5, 2) := by decide +kernel
theorem d_GM_shift_23 : decode prog_15_method_87_code 23 = .ok (.aload_n 0, 1) := by decide +kernel
theorem d_GM_shift_24 : decode prog_15_method_87_code 24 = .ok (.bipush 41, 2) := by decide +kernel
theorem d_GM_shift_26 : decode prog_15_method_87_code 26 = .ok (.invokevirtual 272, 3) := by decide +kernel
theorem d_GM_shift_29 : decode prog_15_method_87_code 29 = .ok (.iconst 0, 1) := by decide +kernel
theorem d_GM_shift_30 : decode prog_15_method_87_code 30 = .ok (.istore 6, 2) := by decide +kernel
theorem d_GM_shift_4 : decode prog_15_method_87_code 4 = .ok (.bipush 26, 2) := by decide +kernel
theorem d_GM_shift_6 : decode prog_15_method_87_code 6 = .ok (.goto 6, 3) := by decide +kernel
theorem d_GM_shift_32 : decode prog_15_method_87_code 32 = .ok (.iload 6, 2) := by decide +kernel
theorem d_GM_shift_34 : decode prog_15_method_87_code 34 = .ok (.sipush 5200, 3) := by decide +kernel
theorem d_GM_shift_37 : decode prog_15_method_87_code 37 = .ok (.if_icmp .ge 149, 3) := by decide +kernel
theorem d_GM_shift_186 : decode prog_15_method_87_code 186 = .ok (.aload_n 0, 1) := by decide +kernel
theorem d_GM_shift_187 : decode prog_15_method_87_code 187 = .ok (.invokevirtual 555, 3) := by decide +kernel
theorem d_GM_shift_190 : decode prog_15_method_87_code 190 = .ok (.ireturn, 1) := by decide +kernel
theorem d_GM_shift_40 : decode prog_15_method_87_code 40 = .ok (.aload_n 0, 1) := by decide +kernel
theorem d_GM_shift_41 : decode prog_15_method_87_code 41 = .ok (.getfield 69, 3) := by decide +kernel
theorem d_GM_shift_44 : decode prog_15_method_87_code 44 = .ok (.iload 5, 2) := by decide +kernel
theorem d_GM_shift_46 : decode prog_15_method_87_code 46 = .ok (.sipush 5200, 3) := by decide +kernel
theorem d_GM_shift_49 : decode prog_15_method_87_code 49 = .ok (.imul, 1) := by decide +kernel
theorem d_GM_shift_50 : decode prog_15_method_87_code 50 = .ok (.iload 6, 2) := by decide +kernel
theorem d_GM_shift_52 : decode prog_15_method_87_code 52 = .ok (.iadd, 1) := by decide +kernel
theorem d_GM_shift_53 : decode prog_15_method_87_code 53 = .ok (.iaload, 1) := by decide +kernel
theorem d_GM_shift_54 : decode prog_15_method_87_code 54 = .ok (.ifCond .ne 6, 3) := by decide +kernel
theorem d_GM_shift_60 : decode prog_15_method_87_code 60 = .ok (.iload 6, 2) := by decide +kernel
theorem d_GM_shift_62 : decode prog_15_method_87_code 62 = .ok (.bipush 26, 2) := by decide +kernel
theorem d_GM_shift_64 : decode prog_15_method_87_code 64 = .ok (.irem, 1) := by decide +kernel
theorem d_GM_shift_65 : decode prog_15_method_87_code 65 = .ok (.istore 7, 2) := by decide +kernel
theorem d_GM_shift_67 : decode prog_15_method_87_code 67 = .ok (.iload 6, 2) := by decide +kernel
theorem d_GM_shift_69 : decode prog_15_method_87_code 69 = .ok (.bipush 26, 2) := by decide +kernel
theorem d_GM_shift_71 : decode prog_15_method_87_code 71 = .ok (.idiv, 1) := by decide +kernel
theorem d_GM_shift_72 : decode prog_15_method_87_code 72 = .ok (.istore 8, 2) := by decide +kernel
theorem d_GM_shift_74 : decode prog_15_method_87_code 74 = .ok (.iload_n 1, 1) := by decide +kernel
theorem d_GM_shift_75 : decode prog_15_method_87_code 75 = .ok (.ifCond .eq 8, 3) := by decide +kernel
theorem d_GM_shift_83 : decode prog_15_method_87_code 83 = .ok (.iload 8, 2) := by decide +kernel
theorem d_GM_shift_85 : decode prog_15_method_87_code 85 = .ok (.iload_n 2, 1) := by decide +kernel
theorem d_GM_shift_86 : decode prog_15_method_87_code 86 = .ok (.iload_n 3, 1) := by decide +kernel
theorem d_GM_shift_87 : decode prog_15_method_87_code 87 = .ok (.iload 4, 2) := by decide +kernel
theorem d_GM_shift_89 : decode prog_15_method_87_code 89 = .ok (.invokestatic 564, 3) := by decide +kernel
theorem d_GM_shift_92 : decode prog_15_method_87_code 92 = .ok (.istore 9, 2) := by decide +kernel
theorem d_GM_shift_94 : decode prog_15_method_87_code 94 = .ok (.iload 9, 2) := by decide +kernel
theorem d_GM_shift_96 : decode prog_15_method_87_code 96 = .ok (.ifCond .ge 13, 3) := by decide +kernel
theorem d_GM_shift_99 : decode prog_15_method_87_code 99 = .ok (.iload_n 3, 1) := by decide +kernel
theorem d_GM_shift_100 : decode prog_15_method_87_code 100 = .ok (.ifCond .le 9, 3) := by decide +kernel
theorem d_GM_shift_103 : decode prog_15_method_87_code 103 = .ok (.aload_n 0, 1) := by decide +kernel
theorem d_GM_shift_104 : decode prog_15_method_87_code 104 = .ok (.iconst 2, 1) := by decide +kernel
theorem d_GM_shift_105 : decode prog_15_method_87_code 105 = .ok (.invokevirtual 526, 3) := by decide +kernel
theorem d_GM_shift_108 : decode prog_15_method_87_code 108 = .ok (.ireturn, 1) := by decide +kernel
theorem d_GM_shift_78 : decode prog_15_method_87_code 78 = .ok (.iload 7, 2) := by decide +kernel
theorem d_GM_shift_80 : decode prog_15_method_87_code 80 = .ok (.goto 5, 3) := by decide +kernel
theorem d_GM_shift_57 : decode prog_15_method_87_code 57 = .ok (.goto 123, 3) := by decide +kernel
theorem d_GM_shift_180 : decode prog_15_method_87_code 180 = .ok (.iinc 6 1, 3) := by decide +kernel
theorem d_GM_shift_183 : decode prog_15_method_87_code 183 = .ok (.goto (-151), 3) := by decide +kernel
set_option maxHeartbeats 4000000 in
theorem w_GM_shift_0 {l : Launch} {G : gG} {d : Nat} {X : gX} {M : gM} {k : Int → gM → Prop} {o : Nat} (hX : gmX X o) {x1 : Int} (hx1 : 0 ≤ x1 ∧ x1 ≤ 1) {x2 : Int} (hx2 : g32 x2) {x3 : Int} (hx3 : g32 x3) (T : (x1 = 0 → (g32 (M o 36) → (cI l G y_GM_slot (gRm d) false [gI (M o 36)] X M (fun v3 M2 => (cV l G y_GM_clear (gRm d) true [gR G o, gI 41] X M2 (fun M5 => (wp l G y_GM_shift (gRm (d + 1)) true (kkI X k) true 32 [.val (gR G o), .val (gI x1), .val (gI x2), .val (gI x3), .val (gI 200), .val (gI v3), .val (gI 0), .unset, .unset, .unset, .unset] [] X M5 0 0))))))) ∧ (¬ x1 = 0 → (g32 (M o 36) → (cI l G y_GM_slot (gRm d) false [gI (M o 36)] X M (fun v8 M7 => (cV l G y_GM_clear (gRm d) true [gR G o, gI 41] X M7 (fun M10 => (wp l G y_GM_shift (gRm (d + 1)) true (kkI X k) true 32 [.val (gR G o), .val (gI x1), .val (gI x2), .val (gI x3), .val (gI 26), .val (gI v8), .val (gI 0), .unset, .unset, .unset, .unset] [] X M10 0 0)))))))) : wp l G y_GM_shift (gRm (d + 1)) true (kkI X k) false 0 [.val (gR G o), .val (gI x1), .val (gI x2), .val (gI x3), .unset, .unset, .unset, .unset, .unset, .unset, .unset] [] X M 0 0 := by
  refine wp_iload_n d_GM_shift_0 rfl rfl ?_
  refine xz_eq (tgt := 9) d_GM_shift_1 (by decide) (w32_id (g32_z hx1)) (fun h11 => ?_) (fun h11 => ?_)
  · have T := T.1 h11
    refine wp_sipush d_GM_shift_9 ⟨by decide, by decide⟩ ?_
    refine wp_istore (L' := [.val (gR G o), .val (gI x1), .val (gI x2), .val (gI x3), .val (gI 200), .unset, .unset, .unset, .unset, .unset, .unset]) d_GM_shift_12 (by decide) rfl ?_
    refine wp_aload_n d_GM_shift_14 rfl rfl (g_nz hX.1) ?_
    refine xgetI d_GM_shift_15 gc_GM f_GM_502.1 f_GM_502.2.1 f_GM_502.2.2.1 hX.1 (gm_o2 hX) hX.2.2.1 f_GM_502.2.2.2.2.1 (fun h1 => ?_)
    have T := T h1
    refine xcS_I (md' := false) (As := [gI (M o 36)]) (st := []) d_GM_shift_18 ca_GM_slot ml_GM_505 sm_GM_slot rfl (by decide) (by decide) rfl id id T (fun v3 M2 h4 T => ?_)
    refine wp_istore (L' := [.val (gR G o), .val (gI x1), .val (gI x2), .val (gI x3), .val (gI 200), .val (gI v3), .unset, .unset, .unset, .unset, .unset]) d_GM_shift_21 (by decide) rfl ?_
    refine wp_aload_n d_GM_shift_23 rfl rfl (g_nz hX.1) ?_
    refine wp_bipush d_GM_shift_24 ⟨by decide, by decide⟩ ?_
    refine xcV_V (md' := true) (As := [gI 41]) (st := []) d_GM_shift_26 ca_GM_clear ml_GM_272 im_GM_clear se_GM_clear gc_GM hX.1 (gm_o2 hX) hX.2.2.1 rfl (by decide) (by decide) rfl (fun _ => rfl) (fun _ => rfl) T (fun M5 T => ?_)
    refine wp_iconst d_GM_shift_29 ?_
    refine wp_istore (L' := [.val (gR G o), .val (gI x1), .val (gI x2), .val (gI x3), .val (gI 200), .val (gI v3), .val (gI 0), .unset, .unset, .unset, .unset]) d_GM_shift_30 (by decide) rfl ?_
    exact wp_md (wpt T (And.intro rfl (And.intro rfl (And.intro rfl (And.intro rfl (And.intro rfl (And.intro rfl (And.intro rfl True.intro))))))))
  · have T := T.2 h11
    refine wp_bipush d_GM_shift_4 ⟨by decide, by decide⟩ ?_
    refine wp_goto (tgt := 12) d_GM_shift_6 (by decide) ?_
    refine wp_istore (L' := [.val (gR G o), .val (gI x1), .val (gI x2), .val (gI x3), .val (gI 26), .unset, .unset, .unset, .unset, .unset, .unset]) d_GM_shift_12 (by decide) rfl ?_
    refine wp_aload_n d_GM_shift_14 rfl rfl (g_nz hX.1) ?_
    refine xgetI d_GM_shift_15 gc_GM f_GM_502.1 f_GM_502.2.1 f_GM_502.2.2.1 hX.1 (gm_o2 hX) hX.2.2.1 f_GM_502.2.2.2.2.1 (fun h6 => ?_)
    have T := T h6
    refine xcS_I (md' := false) (As := [gI (M o 36)]) (st := []) d_GM_shift_18 ca_GM_slot ml_GM_505 sm_GM_slot rfl (by decide) (by decide) rfl id id T (fun v8 M7 h9 T => ?_)
    refine wp_istore (L' := [.val (gR G o), .val (gI x1), .val (gI x2), .val (gI x3), .val (gI 26), .val (gI v8), .unset, .unset, .unset, .unset, .unset]) d_GM_shift_21 (by decide) rfl ?_
    refine wp_aload_n d_GM_shift_23 rfl rfl (g_nz hX.1) ?_
    refine wp_bipush d_GM_shift_24 ⟨by decide, by decide⟩ ?_
    refine xcV_V (md' := true) (As := [gI 41]) (st := []) d_GM_shift_26 ca_GM_clear ml_GM_272 im_GM_clear se_GM_clear gc_GM hX.1 (gm_o2 hX) hX.2.2.1 rfl (by decide) (by decide) rfl (fun _ => rfl) (fun _ => rfl) T (fun M10 T => ?_)
    refine wp_iconst d_GM_shift_29 ?_
    refine wp_istore (L' := [.val (gR G o), .val (gI x1), .val (gI x2), .val (gI x3), .val (gI 26), .val (gI v8), .val (gI 0), .unset, .unset, .unset, .unset]) d_GM_shift_30 (by decide) rfl ?_
    exact wp_md (wpt T (And.intro rfl (And.intro rfl (And.intro rfl (And.intro rfl (And.intro rfl (And.intro rfl (And.intro rfl True.intro))))))))
set_option maxHeartbeats 4000000 in
theorem w_GM_shift_32 {l : Launch} {G : gG} {d : Nat} {X : gX} {M : gM} {k : Int → gM → Prop} {o : Nat} (hX : gmX X o) {x1 : Int} (hx1 : g32 x1) {x2 : Int} (hx2 : g32 x2) {x3 : Int} (hx3 : g32 x3) {x4 : Int} (hx4 : g32 x4) {x5 : Int} (hx5 : g32 x5) {x6 : Int} (hx6 : g32 x6) (T : (5200 ≤ x6 → (cI l G y_GM_accept (gRm d) true [gR G o] X M (fun v13 M12 => (k v13 M12)))) ∧ (¬ 5200 ≤ x6 → (((0 : Int) ≤ (x5 * 5200) + x6 ∧ (x5 * 5200) + x6 < 218400) ∧ (g32 (M (o + 19) (Int.toNat ((x5 * 5200) + x6))) → ((¬ M (o + 19) (Int.toNat ((x5 * 5200) + x6)) = 0 → ((x1 = 0 → (cI l G y_GM_moved (gRm d) false [gI (x6.tdiv 26), gI x2, gI x3, gI x4] X M (fun v17 M16 => ((0 ≤ v17 → (wp l G y_GM_shift (gRm (d + 1)) true (kkI X k) true 109 [.val (gR G o), .val (gI x1), .val (gI x2), .val (gI x3), .val (gI x4), .val (gI x5), .val (gI x6), .val (gI (w32 (x6.tmod 26))), .val (gI (w32 (x6.tdiv 26))), .val (gI v17), .unset] [] X M16 0 0)) ∧ (¬ 0 ≤ v17 → ((x3 ≤ 0 → (wp l G y_GM_shift (gRm (d + 1)) true (kkI X k) true 109 [.val (gR G o), .val (gI x1), .val (gI x2), .val (gI x3), .val (gI x4), .val (gI x5), .val (gI x6), .val (gI (w32 (x6.tmod 26))), .val (gI (w32 (x6.tdiv 26))), .val (gI v17), .unset] [] X M16 0 0)) ∧ (¬ x3 ≤ 0 → (cI l G y_GM_no (gRm d) true [gR G o, gI 2] X M16 (fun v20 M19 => (k v20 M19)))))))))) ∧ (¬ x1 = 0 → (cI l G y_GM_moved (gRm d) false [gI (x6.tmod 26), gI x2, gI x3, gI x4] X M (fun v25 M24 => ((0 ≤ v25 → (wp l G y_GM_shift (gRm (d + 1)) true (kkI X k) true 109 [.val (gR G o), .val (gI x1), .val (gI x2), .val (gI x3), .val (gI x4), .val (gI x5), .val (gI x6), .val (gI (w32 (x6.tmod 26))), .val (gI (w32 (x6.tdiv 26))), .val (gI v25), .unset] [] X M24 0 0)) ∧ (¬ 0 ≤ v25 → ((x3 ≤ 0 → (wp l G y_GM_shift (gRm (d + 1)) true (kkI X k) true 109 [.val (gR G o), .val (gI x1), .val (gI x2), .val (gI x3), .val (gI x4), .val (gI x5), .val (gI x6), .val (gI (w32 (x6.tmod 26))), .val (gI (w32 (x6.tdiv 26))), .val (gI v25), .unset] [] X M24 0 0)) ∧ (¬ x3 ≤ 0 → (cI l G y_GM_no (gRm d) true [gR G o, gI 2] X M24 (fun v28 M27 => (k v28 M27)))))))))))) ∧ (M (o + 19) (Int.toNat ((x5 * 5200) + x6)) = 0 → (wp l G y_GM_shift (gRm (d + 1)) true (kkI X k) true 32 [.val (gR G o), .val (gI x1), .val (gI x2), .val (gI x3), .val (gI x4), .val (gI x5), .val (gI (w32 (x6 + 1))), .unset, .unset, .unset, .unset] [] X M 0 0))))))) : wp l G y_GM_shift (gRm (d + 1)) true (kkI X k) true 32 [.val (gR G o), .val (gI x1), .val (gI x2), .val (gI x3), .val (gI x4), .val (gI x5), .val (gI x6), .unset, .unset, .unset, .unset] [] X M 0 0 := by
  refine wp_iload d_GM_shift_32 rfl ?_
  refine wp_sipush d_GM_shift_34 ⟨by decide, by decide⟩ ?_
  refine xi_ge (tgt := 186) d_GM_shift_37 (by decide) (w32_id hx6) (w32_id (g32_c (x := 5200) rfl)) (fun h34 => ?_) (fun h34 => ?_)
  · have T := T.1 h34
    refine wp_aload_n d_GM_shift_186 rfl rfl (g_nz hX.1) ?_
    refine xcV_I (md' := true) (As := []) (st := []) d_GM_shift_187 ca_GM_accept ml_GM_555 im_GM_accept se_GM_accept gc_GM hX.1 (gm_o2 hX) hX.2.2.1 rfl (by decide) (by decide) rfl (fun _ => rfl) (fun _ => rfl) T (fun v13 M12 h14 T => ?_)
    exact wp_ireturn d_GM_shift_190 rfl (fun _ => rfl) (Nat.zero_le _) (Nat.zero_le _) (kI_mk h14 T)
  · have T := T.2 h34
    refine wp_aload_n d_GM_shift_40 rfl rfl (g_nz hX.1) ?_
    refine xgetR d_GM_shift_41 gc_GM f_GM_69.1 f_GM_69.2.1 f_GM_69.2.2.1 hX.1 (gm_o2 hX) hX.2.2.1 f_GM_69.2.2.2.2.1 (gm_row hX 18 rfl).1 ?_
    refine wp_iload d_GM_shift_44 rfl ?_
    refine wp_sipush d_GM_shift_46 ⟨by decide, by decide⟩ ?_
    refine wp_imul d_GM_shift_49 ?_
    refine wp_iload d_GM_shift_50 rfl ?_
    refine wp_iadd d_GM_shift_52 ?_
    refine wp_iaload d_GM_shift_53 (gm_row hX 18 rfl).2.2.1 (gm_row hX 18 rfl).2.2.2 (gm_row hX 18 rfl).2.1 (g32_n T.1 (by decide)) T.1.1 T.1.2 (fun h15 => ?_)
    have T := T.2 h15
    refine xz_ne (tgt := 60) d_GM_shift_54 (by decide) (w32_id h15) (fun h33 => ?_) (fun h33 => ?_)
    · have T := T.1 h33
      refine wp_iload d_GM_shift_60 rfl ?_
      refine wp_bipush d_GM_shift_62 ⟨by decide, by decide⟩ ?_
      refine xirem d_GM_shift_64 (w32_id hx6) (w32_id (g32_c (x := 26) rfl)) (by decide) ?_
      refine wp_istore (L' := [.val (gR G o), .val (gI x1), .val (gI x2), .val (gI x3), .val (gI x4), .val (gI x5), .val (gI x6), .val (gI (x6.tmod 26)), .unset, .unset, .unset]) d_GM_shift_65 (by decide) rfl ?_
      refine wp_iload d_GM_shift_67 rfl ?_
      refine wp_bipush d_GM_shift_69 ⟨by decide, by decide⟩ ?_
      refine xidiv d_GM_shift_71 (w32_id hx6) (w32_id (g32_c (x := 26) rfl)) (by decide) ?_
      refine wp_istore (L' := [.val (gR G o), .val (gI x1), .val (gI x2), .val (gI x3), .val (gI x4), .val (gI x5), .val (gI x6), .val (gI (x6.tmod 26)), .val (gI (x6.tdiv 26)), .unset, .unset]) d_GM_shift_72 (by decide) rfl ?_
      refine wp_iload_n d_GM_shift_74 rfl rfl ?_
      refine xz_eq (tgt := 83) d_GM_shift_75 (by decide) (w32_id hx1) (fun h32 => ?_) (fun h32 => ?_)
      · have T := T.1 h32
        refine wp_iload d_GM_shift_83 rfl ?_
        refine wp_iload_n d_GM_shift_85 rfl rfl ?_
        refine wp_iload_n d_GM_shift_86 rfl rfl ?_
        refine wp_iload d_GM_shift_87 rfl ?_
        refine xcS_I (md' := true) (As := [gI (x6.tdiv 26), gI x2, gI x3, gI x4]) (st := []) d_GM_shift_89 ca_GM_moved ml_GM_564 sm_GM_moved rfl (by decide) (by decide) rfl (fun _ => rfl) (fun _ => rfl) T (fun v17 M16 h18 T => ?_)
        refine wp_istore (L' := [.val (gR G o), .val (gI x1), .val (gI x2), .val (gI x3), .val (gI x4), .val (gI x5), .val (gI x6), .val (gI (x6.tmod 26)), .val (gI (x6.tdiv 26)), .val (gI v17), .unset]) d_GM_shift_92 (by decide) rfl ?_
        refine wp_iload d_GM_shift_94 rfl ?_
        refine xz_ge (tgt := 109) d_GM_shift_96 (by decide) (w32_id h18) (fun h23 => ?_) (fun h23 => ?_)
        · have T := T.1 h23
          exact wp_md (wpt T (And.intro rfl (And.intro rfl (And.intro rfl (And.intro rfl (And.intro rfl (And.intro rfl (And.intro rfl (And.intro (gI_w _) (And.intro (gI_w _) (And.intro rfl True.intro)))))))))))
        · have T := T.2 h23
          refine wp_iload_n d_GM_shift_99 rfl rfl ?_
          refine xz_le (tgt := 109) d_GM_shift_100 (by decide) (w32_id hx3) (fun h22 => ?_) (fun h22 => ?_)
          · have T := T.1 h22
            exact wp_md (wpt T (And.intro rfl (And.intro rfl (And.intro rfl (And.intro rfl (And.intro rfl (And.intro rfl (And.intro rfl (And.intro (gI_w _) (And.intro (gI_w _) (And.intro rfl True.intro)))))))))))
          · have T := T.2 h22
            refine wp_aload_n d_GM_shift_103 rfl rfl (g_nz hX.1) ?_
            refine wp_iconst d_GM_shift_104 ?_
            refine xcV_I (md' := true) (As := [gI 2]) (st := []) d_GM_shift_105 ca_GM_no ml_GM_526 im_GM_no se_GM_no gc_GM hX.1 (gm_o2 hX) hX.2.2.1 rfl (by decide) (by decide) rfl (fun _ => rfl) (fun _ => rfl) T (fun v20 M19 h21 T => ?_)
            exact wp_ireturn d_GM_shift_108 rfl (fun _ => rfl) (Nat.zero_le _) (Nat.zero_le _) (kI_mk h21 T)
      · have T := T.2 h32
        refine wp_iload d_GM_shift_78 rfl ?_
        refine wp_goto (tgt := 85) d_GM_shift_80 (by decide) ?_
        refine wp_iload_n d_GM_shift_85 rfl rfl ?_
        refine wp_iload_n d_GM_shift_86 rfl rfl ?_
        refine wp_iload d_GM_shift_87 rfl ?_
        refine xcS_I (md' := true) (As := [gI (x6.tmod 26), gI x2, gI x3, gI x4]) (st := []) d_GM_shift_89 ca_GM_moved ml_GM_564 sm_GM_moved rfl (by decide) (by decide) rfl (fun _ => rfl) (fun _ => rfl) T (fun v25 M24 h26 T => ?_)
        refine wp_istore (L' := [.val (gR G o), .val (gI x1), .val (gI x2), .val (gI x3), .val (gI x4), .val (gI x5), .val (gI x6), .val (gI (x6.tmod 26)), .val (gI (x6.tdiv 26)), .val (gI v25), .unset]) d_GM_shift_92 (by decide) rfl ?_
        refine wp_iload d_GM_shift_94 rfl ?_
        refine xz_ge (tgt := 109) d_GM_shift_96 (by decide) (w32_id h26) (fun h31 => ?_) (fun h31 => ?_)
        · have T := T.1 h31
          exact wp_md (wpt T (And.intro rfl (And.intro rfl (And.intro rfl (And.intro rfl (And.intro rfl (And.intro rfl (And.intro rfl (And.intro (gI_w _) (And.intro (gI_w _) (And.intro rfl True.intro)))))))))))
        · have T := T.2 h31
          refine wp_iload_n d_GM_shift_99 rfl rfl ?_
          refine xz_le (tgt := 109) d_GM_shift_100 (by decide) (w32_id hx3) (fun h30 => ?_) (fun h30 => ?_)
          · have T := T.1 h30
            exact wp_md (wpt T (And.intro rfl (And.intro rfl (And.intro rfl (And.intro rfl (And.intro rfl (And.intro rfl (And.intro rfl (And.intro (gI_w _) (And.intro (gI_w _) (And.intro rfl True.intro)))))))))))
          · have T := T.2 h30
            refine wp_aload_n d_GM_shift_103 rfl rfl (g_nz hX.1) ?_
            refine wp_iconst d_GM_shift_104 ?_
            refine xcV_I (md' := true) (As := [gI 2]) (st := []) d_GM_shift_105 ca_GM_no ml_GM_526 im_GM_no se_GM_no gc_GM hX.1 (gm_o2 hX) hX.2.2.1 rfl (by decide) (by decide) rfl (fun _ => rfl) (fun _ => rfl) T (fun v28 M27 h29 T => ?_)
            exact wp_ireturn d_GM_shift_108 rfl (fun _ => rfl) (Nat.zero_le _) (Nat.zero_le _) (kI_mk h29 T)
    · have T := T.2 h33
      refine wp_goto (tgt := 180) d_GM_shift_57 (by decide) ?_
      refine wp_iinc (L' := [.val (gR G o), .val (gI x1), .val (gI x2), .val (gI x3), .val (gI x4), .val (gI x5), .val (gI (x6 + 1)), .unset, .unset, .unset, .unset]) d_GM_shift_180 rfl (by decide) rfl ?_
      refine wp_goto (tgt := 32) d_GM_shift_183 (by decide) ?_
      exact wp_md (wpt T (And.intro rfl (And.intro rfl (And.intro rfl (And.intro rfl (And.intro rfl (And.intro rfl (And.intro (gI_w _) True.intro))))))))
theorem e_GM_shift {l : Launch} {G : gG} {d : Nat} {X : gX} {M : gM} {k : Int → gM → Prop} {o : Nat} {x1 : Int} {x2 : Int} {x3 : Int} (T : wp l G y_GM_shift (gRm (d + 1)) true (kkI X k) false 0 [.val (gR G o), .val (gI x1), .val (gI x2), .val (gI x3), .unset, .unset, .unset, .unset, .unset, .unset, .unset] [] X M 0 0) : cI l G y_GM_shift (gRm (d + 1)) true [gR G o, gI x1, gI x2, gI x3] X M k := cen_I (plainFor_of_name rfl) (by simp only [lg_sl_R, lg_sl_I, lg_sl_L, lg_sl_N, List.length_cons, List.length_nil]; decide) (by unfold gEn; simp only [lg_sl_R, lg_sl_I, lg_sl_L, lg_sl_N]; exact wpt T (And.intro rfl (And.intro rfl (And.intro rfl (And.intro rfl True.intro)))))
