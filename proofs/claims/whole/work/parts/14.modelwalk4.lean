/-! Walks of the reference's methods, written by wip/whole/gen_model.py -/
theorem d_GM_reckon_0 : decode prog_15_method_48_code 0 = .ok (.aload_n 0, 1) := by decide +kernel
theorem d_GM_reckon_1 : decode prog_15_method_48_code 1 = .ok (.iload_n 1, 1) := by decide +kernel
theorem d_GM_reckon_2 : decode prog_15_method_48_code 2 = .ok (.bipush 43, 2) := by decide +kernel
theorem d_GM_reckon_4 : decode prog_15_method_48_code 4 = .ok (.if_icmp .ne 10, 3) := by decide +kernel
theorem d_GM_reckon_14 : decode prog_15_method_48_code 14 = .ok (.iload_n 1, 1) := by decide +kernel
theorem d_GM_reckon_15 : decode prog_15_method_48_code 15 = .ok (.bipush 45, 2) := by decide +kernel
theorem d_GM_reckon_17 : decode prog_15_method_48_code 17 = .ok (.if_icmp .ne 10, 3) := by decide +kernel
theorem d_GM_reckon_27 : decode prog_15_method_48_code 27 = .ok (.lload_n 2, 1) := by decide +kernel
theorem d_GM_reckon_28 : decode prog_15_method_48_code 28 = .ok (.lload 4, 2) := by decide +kernel
theorem d_GM_reckon_30 : decode prog_15_method_48_code 30 = .ok (.lmul, 1) := by decide +kernel
theorem d_GM_reckon_20 : decode prog_15_method_48_code 20 = .ok (.lload_n 2, 1) := by decide +kernel
theorem d_GM_reckon_21 : decode prog_15_method_48_code 21 = .ok (.lload 4, 2) := by decide +kernel
theorem d_GM_reckon_23 : decode prog_15_method_48_code 23 = .ok (.lsub, 1) := by decide +kernel
theorem d_GM_reckon_24 : decode prog_15_method_48_code 24 = .ok (.goto 7, 3) := by decide +kernel
theorem d_GM_reckon_7 : decode prog_15_method_48_code 7 = .ok (.lload_n 2, 1) := by decide +kernel
theorem d_GM_reckon_8 : decode prog_15_method_48_code 8 = .ok (.lload 4, 2) := by decide +kernel
theorem d_GM_reckon_10 : decode prog_15_method_48_code 10 = .ok (.ladd, 1) := by decide +kernel
theorem d_GM_reckon_11 : decode prog_15_method_48_code 11 = .ok (.goto 20, 3) := by decide +kernel
theorem d_GM_reckon_31 : decode prog_15_method_48_code 31 = .ok (.putfield 324, 3) := by decide +kernel
theorem d_GM_reckon_34 : decode prog_15_method_48_code 34 = .ok (.iload_n 1, 1) := by decide +kernel
theorem d_GM_reckon_35 : decode prog_15_method_48_code 35 = .ok (.bipush 43, 2) := by decide +kernel
theorem d_GM_reckon_37 : decode prog_15_method_48_code 37 = .ok (.if_icmp .ne 28, 3) := by decide +kernel
theorem d_GM_reckon_65 : decode prog_15_method_48_code 65 = .ok (.iload_n 1, 1) := by decide +kernel
theorem d_GM_reckon_66 : decode prog_15_method_48_code 66 = .ok (.bipush 45, 2) := by decide +kernel
theorem d_GM_reckon_68 : decode prog_15_method_48_code 68 = .ok (.if_icmp .ne 25, 3) := by decide +kernel
theorem d_GM_reckon_93 : decode prog_15_method_48_code 93 = .ok (.lload_n 2, 1) := by decide +kernel
theorem d_GM_reckon_94 : decode prog_15_method_48_code 94 = .ok (.lconst 0, 1) := by decide +kernel
theorem d_GM_reckon_95 : decode prog_15_method_48_code 95 = .ok (.lcmp, 1) := by decide +kernel
theorem d_GM_reckon_96 : decode prog_15_method_48_code 96 = .ok (.ifCond .eq 32, 3) := by decide +kernel
theorem d_GM_reckon_128 : decode prog_15_method_48_code 128 = .ok (.iconst 1, 1) := by decide +kernel
theorem d_GM_reckon_129 : decode prog_15_method_48_code 129 = .ok (.goto 4, 3) := by decide +kernel
theorem d_GM_reckon_133 : decode prog_15_method_48_code 133 = .ok (.ireturn, 1) := by decide +kernel
theorem d_GM_reckon_99 : decode prog_15_method_48_code 99 = .ok (.lload_n 2, 1) := by decide +kernel
theorem d_GM_reckon_100 : decode prog_15_method_48_code 100 = .ok (.ldc2_w 327, 3) := by decide +kernel
theorem d_GM_reckon_103 : decode prog_15_method_48_code 103 = .ok (.lcmp, 1) := by decide +kernel
theorem d_GM_reckon_104 : decode prog_15_method_48_code 104 = .ok (.ifCond .ne 12, 3) := by decide +kernel
theorem d_GM_reckon_107 : decode prog_15_method_48_code 107 = .ok (.lload 4, 2) := by decide +kernel
theorem d_GM_reckon_109 : decode prog_15_method_48_code 109 = .ok (.ldc2_w 170, 3) := by decide +kernel
theorem d_GM_reckon_112 : decode prog_15_method_48_code 112 = .ok (.lcmp, 1) := by decide +kernel
theorem d_GM_reckon_113 : decode prog_15_method_48_code 113 = .ok (.ifCond .eq 19, 3) := by decide +kernel
theorem d_GM_reckon_132 : decode prog_15_method_48_code 132 = .ok (.iconst 0, 1) := by decide +kernel
theorem d_GM_reckon_71 : decode prog_15_method_48_code 71 = .ok (.lload_n 2, 1) := by decide +kernel
theorem d_GM_reckon_72 : decode prog_15_method_48_code 72 = .ok (.lload 4, 2) := by decide +kernel
theorem d_GM_reckon_74 : decode prog_15_method_48_code 74 = .ok (.lxor, 1) := by decide +kernel
theorem d_GM_reckon_75 : decode prog_15_method_48_code 75 = .ok (.lload_n 2, 1) := by decide +kernel
theorem d_GM_reckon_76 : decode prog_15_method_48_code 76 = .ok (.aload_n 0, 1) := by decide +kernel
theorem d_GM_reckon_77 : decode prog_15_method_48_code 77 = .ok (.getfield 324, 3) := by decide +kernel
theorem d_GM_reckon_80 : decode prog_15_method_48_code 80 = .ok (.lxor, 1) := by decide +kernel
theorem d_GM_reckon_81 : decode prog_15_method_48_code 81 = .ok (.land, 1) := by decide +kernel
theorem d_GM_reckon_82 : decode prog_15_method_48_code 82 = .ok (.lconst 0, 1) := by decide +kernel
theorem d_GM_reckon_83 : decode prog_15_method_48_code 83 = .ok (.lcmp, 1) := by decide +kernel
theorem d_GM_reckon_84 : decode prog_15_method_48_code 84 = .ok (.ifCond .lt 7, 3) := by decide +kernel
theorem d_GM_reckon_91 : decode prog_15_method_48_code 91 = .ok (.iconst 0, 1) := by decide +kernel
theorem d_GM_reckon_92 : decode prog_15_method_48_code 92 = .ok (.ireturn, 1) := by decide +kernel
theorem d_GM_reckon_87 : decode prog_15_method_48_code 87 = .ok (.iconst 1, 1) := by decide +kernel
theorem d_GM_reckon_88 : decode prog_15_method_48_code 88 = .ok (.goto 4, 3) := by decide +kernel
theorem d_GM_reckon_40 : decode prog_15_method_48_code 40 = .ok (.lload_n 2, 1) := by decide +kernel
theorem d_GM_reckon_41 : decode prog_15_method_48_code 41 = .ok (.aload_n 0, 1) := by decide +kernel
theorem d_GM_reckon_42 : decode prog_15_method_48_code 42 = .ok (.getfield 324, 3) := by decide +kernel
theorem d_GM_reckon_45 : decode prog_15_method_48_code 45 = .ok (.lxor, 1) := by decide +kernel
theorem d_GM_reckon_46 : decode prog_15_method_48_code 46 = .ok (.lload 4, 2) := by decide +kernel
theorem d_GM_reckon_48 : decode prog_15_method_48_code 48 = .ok (.aload_n 0, 1) := by decide +kernel
theorem d_GM_reckon_49 : decode prog_15_method_48_code 49 = .ok (.getfield 324, 3) := by decide +kernel
theorem d_GM_reckon_52 : decode prog_15_method_48_code 52 = .ok (.lxor, 1) := by decide +kernel
theorem d_GM_reckon_53 : decode prog_15_method_48_code 53 = .ok (.land, 1) := by decide +kernel
theorem d_GM_reckon_54 : decode prog_15_method_48_code 54 = .ok (.lconst 0, 1) := by decide +kernel
theorem d_GM_reckon_55 : decode prog_15_method_48_code 55 = .ok (.lcmp, 1) := by decide +kernel
theorem d_GM_reckon_56 : decode prog_15_method_48_code 56 = .ok (.ifCond .lt 7, 3) := by decide +kernel
theorem d_GM_reckon_63 : decode prog_15_method_48_code 63 = .ok (.iconst 0, 1) := by decide +kernel
theorem d_GM_reckon_64 : decode prog_15_method_48_code 64 = .ok (.ireturn, 1) := by decide +kernel
theorem d_GM_reckon_59 : decode prog_15_method_48_code 59 = .ok (.iconst 1, 1) := by decide +kernel
theorem d_GM_reckon_60 : decode prog_15_method_48_code 60 = .ok (.goto 4, 3) := by decide +kernel
theorem d_GM_reckon_116 : decode prog_15_method_48_code 116 = .ok (.aload_n 0, 1) := by decide +kernel
theorem d_GM_reckon_117 : decode prog_15_method_48_code 117 = .ok (.getfield 324, 3) := by decide +kernel
theorem d_GM_reckon_120 : decode prog_15_method_48_code 120 = .ok (.lload_n 2, 1) := by decide +kernel
theorem d_GM_reckon_121 : decode prog_15_method_48_code 121 = .ok (.ldiv, 1) := by decide +kernel
theorem d_GM_reckon_122 : decode prog_15_method_48_code 122 = .ok (.lload 4, 2) := by decide +kernel
theorem d_GM_reckon_124 : decode prog_15_method_48_code 124 = .ok (.lcmp, 1) := by decide +kernel
theorem d_GM_reckon_125 : decode prog_15_method_48_code 125 = .ok (.ifCond .ne 7, 3) := by decide +kernel
set_option maxHeartbeats 4000000 in
theorem w_GM_reckon_0 {l : Launch} {G : gG} {d : Nat} {X : gX} {M : gM} {k : Int → gM → Prop} {o : Nat} (hX : gmX X o) {x1 : Int} (hx1 : g32 x1) {x2 : Int} (hx2 : g64 x2) {x4 : Int} (hx4 : g64 x4) (T : (¬ x1 = 43 → ((¬ x1 = 45 → (wp l G y_GM_reckon (gRm d) true (kkZ X k) true 31 [.val (gR G o), .val (gI x1), .val (gL x2), .unset, .val (gL x4), .unset] [gL (w64 (x2 * x4)), gR G o] X M 0 0)) ∧ (x1 = 45 → (wp l G y_GM_reckon (gRm d) true (kkZ X k) true 31 [.val (gR G o), .val (gI x1), .val (gL x2), .unset, .val (gL x4), .unset] [gL (w64 (x2 - x4)), gR G o] X M 0 0)))) ∧ (x1 = 43 → (wp l G y_GM_reckon (gRm d) true (kkZ X k) true 31 [.val (gR G o), .val (gI x1), .val (gL x2), .unset, .val (gL x4), .unset] [gL (w64 (x2 + x4)), gR G o] X M 0 0))) : wp l G y_GM_reckon (gRm d) true (kkZ X k) false 0 [.val (gR G o), .val (gI x1), .val (gL x2), .unset, .val (gL x4), .unset] [] X M 0 0 := by
  refine wp_aload_n d_GM_reckon_0 rfl rfl (g_nz hX.1) ?_
  refine wp_iload_n d_GM_reckon_1 rfl rfl ?_
  refine wp_bipush d_GM_reckon_2 ⟨by decide, by decide⟩ ?_
  refine xi_ne (tgt := 14) d_GM_reckon_4 (by decide) (w32_id hx1) (w32_id (g32_c (x := 43) rfl)) (fun h2 => ?_) (fun h2 => ?_)
  · have T := T.1 h2
    refine wp_iload_n d_GM_reckon_14 rfl rfl ?_
    refine wp_bipush d_GM_reckon_15 ⟨by decide, by decide⟩ ?_
    refine xi_ne (tgt := 27) d_GM_reckon_17 (by decide) (w32_id hx1) (w32_id (g32_c (x := 45) rfl)) (fun h1 => ?_) (fun h1 => ?_)
    · have T := T.1 h1
      refine wp_lload_n d_GM_reckon_27 rfl rfl ?_
      refine wp_lload d_GM_reckon_28 rfl ?_
      refine wp_lmul d_GM_reckon_30 ?_
      exact wp_md (wp_st (st' := [gL (w64 (x2 * x4)), gR G o]) (by simp only [gI_w, gL_w]) (wpt T (And.intro rfl (And.intro rfl (And.intro rfl (And.intro rfl True.intro))))))
    · have T := T.2 h1
      refine wp_lload_n d_GM_reckon_20 rfl rfl ?_
      refine wp_lload d_GM_reckon_21 rfl ?_
      refine wp_lsub d_GM_reckon_23 ?_
      refine wp_goto (tgt := 31) d_GM_reckon_24 (by decide) ?_
      exact wp_md (wp_st (st' := [gL (w64 (x2 - x4)), gR G o]) (by simp only [gI_w, gL_w]) (wpt T (And.intro rfl (And.intro rfl (And.intro rfl (And.intro rfl True.intro))))))
  · have T := T.2 h2
    refine wp_lload_n d_GM_reckon_7 rfl rfl ?_
    refine wp_lload d_GM_reckon_8 rfl ?_
    refine wp_ladd d_GM_reckon_10 ?_
    refine wp_goto (tgt := 31) d_GM_reckon_11 (by decide) ?_
    exact wp_md (wp_st (st' := [gL (w64 (x2 + x4)), gR G o]) (by simp only [gI_w, gL_w]) (wpt T (And.intro rfl (And.intro rfl (And.intro rfl (And.intro rfl True.intro))))))
set_option maxHeartbeats 4000000 in
theorem w_GM_reckon_31 {l : Launch} {G : gG} {d : Nat} {X : gX} {M : gM} {k : Int → gM → Prop} {o : Nat} (hX : gmX X o) {x1 : Int} (hx1 : g32 x1) {x2 : Int} (hx2 : g64 x2) {x4 : Int} (hx4 : g64 x4) {s0 : Int} (hs0 : g64 s0) (T : (¬ x1 = 43 → ((¬ x1 = 45 → ((x2 = 0 → (k 1 (gUp M o 54 s0))) ∧ (¬ x2 = 0 → ((¬ x2 = (-1) → (wp l G y_GM_reckon (gRm d) true (kkZ X k) true 116 [.val (gR G o), .unset, .val (gL x2), .unset, .val (gL x4), .unset] [] X (gUp M o 54 s0) 0 0)) ∧ (x2 = (-1) → ((x4 = (-9223372036854775808) → (k 0 (gUp M o 54 s0))) ∧ (¬ x4 = (-9223372036854775808) → (wp l G y_GM_reckon (gRm d) true (kkZ X k) true 116 [.val (gR G o), .unset, .val (gL x2), .unset, .val (gL x4), .unset] [] X (gUp M o 54 s0) 0 0)))))))) ∧ (x1 = 45 → (g64 ((gUp M o 54 s0) o 54) → ((gLand (gLxor x2 x4) (gLxor x2 ((gUp M o 54 s0) o 54)) < 0 → (k 0 (gUp M o 54 s0))) ∧ (¬ gLand (gLxor x2 x4) (gLxor x2 ((gUp M o 54 s0) o 54)) < 0 → (k 1 (gUp M o 54 s0)))))))) ∧ (x1 = 43 → (g64 ((gUp M o 54 s0) o 54) → (g64 ((gUp M o 54 s0) o 54) → ((gLand (gLxor x2 ((gUp M o 54 s0) o 54)) (gLxor x4 ((gUp M o 54 s0) o 54)) < 0 → (k 0 (gUp M o 54 s0))) ∧ (¬ gLand (gLxor x2 ((gUp M o 54 s0) o 54)) (gLxor x4 ((gUp M o 54 s0) o 54)) < 0 → (k 1 (gUp M o 54 s0)))))))) : wp l G y_GM_reckon (gRm d) true (kkZ X k) true 31 [.val (gR G o), .val (gI x1), .val (gL x2), .unset, .val (gL x4), .unset] [gL s0, gR G o] X M 0 0 := by
  refine xputJ d_GM_reckon_31 gc_GM f_GM_324.1 f_GM_324.2.1 f_GM_324.2.2.1 hX.1 (gm_o2 hX) hX.2.2.1 f_GM_324.2.2.2.1 f_GM_324.2.2.2.2.1 f_GM_324.2.2.2.2.2 (w64_id hs0) ?_
  refine wp_iload_n d_GM_reckon_34 rfl rfl ?_
  refine wp_bipush d_GM_reckon_35 ⟨by decide, by decide⟩ ?_
  refine xi_ne (tgt := 65) d_GM_reckon_37 (by decide) (w32_id hx1) (w32_id (g32_c (x := 43) rfl)) (fun h12 => ?_) (fun h12 => ?_)
  · have T := T.1 h12
    refine wp_iload_n d_GM_reckon_65 rfl rfl ?_
    refine wp_bipush d_GM_reckon_66 ⟨by decide, by decide⟩ ?_
    refine xi_ne (tgt := 93) d_GM_reckon_68 (by decide) (w32_id hx1) (w32_id (g32_c (x := 45) rfl)) (fun h8 => ?_) (fun h8 => ?_)
    · have T := T.1 h8
      refine wp_lload_n d_GM_reckon_93 rfl rfl ?_
      refine wp_lconst0 d_GM_reckon_94 ?_
      refine xl_eq (tgt := 128) d_GM_reckon_95 d_GM_reckon_96 (by decide) (w64_id hx2) (w64_id (g64_c (x := 0) rfl)) (fun h5 => ?_) (fun h5 => ?_)
      · have T := T.1 h5
        refine wp_iconst d_GM_reckon_128 ?_
        refine wp_goto (tgt := 133) d_GM_reckon_129 (by decide) ?_
        exact wp_zreturn d_GM_reckon_133 rfl (g_narz (⟨by decide, by decide⟩ : (0 : Int) ≤ 1 ∧ (1 : Int) ≤ 1)) (fun _ => rfl) (Nat.zero_le _) (Nat.zero_le _) (kZ_mk (⟨by decide, by decide⟩ : (0 : Int) ≤ 1 ∧ (1 : Int) ≤ 1) T)
      · have T := T.2 h5
        refine wp_lload_n d_GM_reckon_99 rfl rfl ?_
        refine wp_ldc2 (n := (-1)) d_GM_reckon_100 c_GM_327 rfl ?_
        refine xl_ne (tgt := 116) d_GM_reckon_103 d_GM_reckon_104 (by decide) (w64_id hx2) (w64_id (g64_c (x := (-1)) rfl)) (fun h4 => ?_) (fun h4 => ?_)
        · have T := T.1 h4
          exact wp_md (wpt T (And.intro rfl (And.intro rfl (And.intro rfl True.intro))))
        · have T := T.2 h4
          refine wp_lload d_GM_reckon_107 rfl ?_
          refine wp_ldc2 (n := (-9223372036854775808)) d_GM_reckon_109 c_GM_170 rfl ?_
          refine xl_eq (tgt := 132) d_GM_reckon_112 d_GM_reckon_113 (by decide) (w64_id hx4) (w64_id (g64_c (x := (-9223372036854775808)) rfl)) (fun h3 => ?_) (fun h3 => ?_)
          · have T := T.1 h3
            refine wp_iconst d_GM_reckon_132 ?_
            exact wp_zreturn d_GM_reckon_133 rfl (g_narz (⟨by decide, by decide⟩ : (0 : Int) ≤ 0 ∧ (0 : Int) ≤ 1)) (fun _ => rfl) (Nat.zero_le _) (Nat.zero_le _) (kZ_mk (⟨by decide, by decide⟩ : (0 : Int) ≤ 0 ∧ (0 : Int) ≤ 1) T)
          · have T := T.2 h3
            exact wp_md (wpt T (And.intro rfl (And.intro rfl (And.intro rfl True.intro))))
    · have T := T.2 h8
      refine wp_lload_n d_GM_reckon_71 rfl rfl ?_
      refine wp_lload d_GM_reckon_72 rfl ?_
      refine wp_lxor d_GM_reckon_74 ?_
      refine wp_lload_n d_GM_reckon_75 rfl rfl ?_
      refine wp_aload_n d_GM_reckon_76 rfl rfl (g_nz hX.1) ?_
      refine xgetJ d_GM_reckon_77 gc_GM f_GM_324.1 f_GM_324.2.1 f_GM_324.2.2.1 hX.1 (gm_o2 hX) hX.2.2.1 f_GM_324.2.2.2.2.1 (fun h6 => ?_)
      have T := T h6
      refine wp_lxor d_GM_reckon_80 ?_
      refine wp_land d_GM_reckon_81 ?_
      refine wp_lconst0 d_GM_reckon_82 ?_
      refine xl_lt (tgt := 91) d_GM_reckon_83 d_GM_reckon_84 (by decide) (w64_id (gLand_ok _ _)) (w64_id (g64_c (x := 0) rfl)) (fun h7 => ?_) (fun h7 => ?_)
      · have T := T.1 h7
        refine wp_iconst d_GM_reckon_91 ?_
        exact wp_zreturn d_GM_reckon_92 rfl (g_narz (⟨by decide, by decide⟩ : (0 : Int) ≤ 0 ∧ (0 : Int) ≤ 1)) (fun _ => rfl) (Nat.zero_le _) (Nat.zero_le _) (kZ_mk (⟨by decide, by decide⟩ : (0 : Int) ≤ 0 ∧ (0 : Int) ≤ 1) T)
      · have T := T.2 h7
        refine wp_iconst d_GM_reckon_87 ?_
        refine wp_goto (tgt := 92) d_GM_reckon_88 (by decide) ?_
        exact wp_zreturn d_GM_reckon_92 rfl (g_narz (⟨by decide, by decide⟩ : (0 : Int) ≤ 1 ∧ (1 : Int) ≤ 1)) (fun _ => rfl) (Nat.zero_le _) (Nat.zero_le _) (kZ_mk (⟨by decide, by decide⟩ : (0 : Int) ≤ 1 ∧ (1 : Int) ≤ 1) T)
  · have T := T.2 h12
    refine wp_lload_n d_GM_reckon_40 rfl rfl ?_
    refine wp_aload_n d_GM_reckon_41 rfl rfl (g_nz hX.1) ?_
    refine xgetJ d_GM_reckon_42 gc_GM f_GM_324.1 f_GM_324.2.1 f_GM_324.2.2.1 hX.1 (gm_o2 hX) hX.2.2.1 f_GM_324.2.2.2.2.1 (fun h9 => ?_)
    have T := T h9
    refine wp_lxor d_GM_reckon_45 ?_
    refine wp_lload d_GM_reckon_46 rfl ?_
    refine wp_aload_n d_GM_reckon_48 rfl rfl (g_nz hX.1) ?_
    refine xgetJ d_GM_reckon_49 gc_GM f_GM_324.1 f_GM_324.2.1 f_GM_324.2.2.1 hX.1 (gm_o2 hX) hX.2.2.1 f_GM_324.2.2.2.2.1 (fun h10 => ?_)
    have T := T h10
    refine wp_lxor d_GM_reckon_52 ?_
    refine wp_land d_GM_reckon_53 ?_
    refine wp_lconst0 d_GM_reckon_54 ?_
    refine xl_lt (tgt := 63) d_GM_reckon_55 d_GM_reckon_56 (by decide) (w64_id (gLand_ok _ _)) (w64_id (g64_c (x := 0) rfl)) (fun h11 => ?_) (fun h11 => ?_)
    · have T := T.1 h11
      refine wp_iconst d_GM_reckon_63 ?_
      exact wp_zreturn d_GM_reckon_64 rfl (g_narz (⟨by decide, by decide⟩ : (0 : Int) ≤ 0 ∧ (0 : Int) ≤ 1)) (fun _ => rfl) (Nat.zero_le _) (Nat.zero_le _) (kZ_mk (⟨by decide, by decide⟩ : (0 : Int) ≤ 0 ∧ (0 : Int) ≤ 1) T)
    · have T := T.2 h11
      refine wp_iconst d_GM_reckon_59 ?_
      refine wp_goto (tgt := 64) d_GM_reckon_60 (by decide) ?_
      exact wp_zreturn d_GM_reckon_64 rfl (g_narz (⟨by decide, by decide⟩ : (0 : Int) ≤ 1 ∧ (1 : Int) ≤ 1)) (fun _ => rfl) (Nat.zero_le _) (Nat.zero_le _) (kZ_mk (⟨by decide, by decide⟩ : (0 : Int) ≤ 1 ∧ (1 : Int) ≤ 1) T)
set_option maxHeartbeats 4000000 in
theorem w_GM_reckon_116 {l : Launch} {G : gG} {d : Nat} {X : gX} {M : gM} {k : Int → gM → Prop} {o : Nat} (hX : gmX X o) {x2 : Int} (hx2 : g64 x2) {x4 : Int} (hx4 : g64 x4) (T : g64 (M o 54) → ((x2 ≠ 0) ∧ ((¬ (w64 ((M o 54).tdiv x2)) = x4 → (k 0 M)) ∧ ((w64 ((M o 54).tdiv x2)) = x4 → (k 1 M))))) : wp l G y_GM_reckon (gRm d) true (kkZ X k) true 116 [.val (gR G o), .unset, .val (gL x2), .unset, .val (gL x4), .unset] [] X M 0 0 := by
  refine wp_aload_n d_GM_reckon_116 rfl rfl (g_nz hX.1) ?_
  refine xgetJ d_GM_reckon_117 gc_GM f_GM_324.1 f_GM_324.2.1 f_GM_324.2.2.1 hX.1 (gm_o2 hX) hX.2.2.1 f_GM_324.2.2.2.2.1 (fun h13 => ?_)
  have T := T h13
  refine wp_lload_n d_GM_reckon_120 rfl rfl ?_
  refine xldiv d_GM_reckon_121 (w64_id h13) (w64_id hx2) T.1 ?_
  have T := T.2
  refine wp_lload d_GM_reckon_122 rfl ?_
  refine xl_ne (tgt := 132) d_GM_reckon_124 d_GM_reckon_125 (by decide) rfl (w64_id hx4) (fun h14 => ?_) (fun h14 => ?_)
  · have T := T.1 h14
    refine wp_iconst d_GM_reckon_132 ?_
    exact wp_zreturn d_GM_reckon_133 rfl (g_narz (⟨by decide, by decide⟩ : (0 : Int) ≤ 0 ∧ (0 : Int) ≤ 1)) (fun _ => rfl) (Nat.zero_le _) (Nat.zero_le _) (kZ_mk (⟨by decide, by decide⟩ : (0 : Int) ≤ 0 ∧ (0 : Int) ≤ 1) T)
  · have T := T.2 h14
    refine wp_iconst d_GM_reckon_128 ?_
    refine wp_goto (tgt := 133) d_GM_reckon_129 (by decide) ?_
    exact wp_zreturn d_GM_reckon_133 rfl (g_narz (⟨by decide, by decide⟩ : (0 : Int) ≤ 1 ∧ (1 : Int) ≤ 1)) (fun _ => rfl) (Nat.zero_le _) (Nat.zero_le _) (kZ_mk (⟨by decide, by decide⟩ : (0 : Int) ≤ 1 ∧ (1 : Int) ≤ 1) T)
theorem e_GM_reckon {l : Launch} {G : gG} {d : Nat} {X : gX} {M : gM} {k : Int → gM → Prop} {o : Nat} {x1 : Int} {x2 : Int} {x4 : Int} (T : wp l G y_GM_reckon (gRm d) true (kkZ X k) false 0 [.val (gR G o), .val (gI x1), .val (gL x2), .unset, .val (gL x4), .unset] [] X M 0 0) : cZ l G y_GM_reckon (gRm d) true [gR G o, gI x1, gL x2, gL x4] X M k := cen_Z (plainFor_of_name rfl) (by simp only [lg_sl_R, lg_sl_I, lg_sl_L, lg_sl_N, List.length_cons, List.length_nil]; decide) (by unfold gEn; simp only [lg_sl_R, lg_sl_I, lg_sl_L, lg_sl_N]; exact wpt T (And.intro rfl (And.intro rfl (And.intro rfl (And.intro rfl True.intro)))))
theorem d_GM_power_0 : decode prog_15_method_49_code 0 = .ok (.aload_n 0, 1) := by decide +kernel
theorem d_GM_power_1 : decode prog_15_method_49_code 1 = .ok (.lconst 1, 1) := by decide +kernel
theorem d_GM_power_2 : decode prog_15_method_49_code 2 = .ok (.putfield 324, 3) := by decide +kernel
theorem d_GM_power_5 : decode prog_15_method_49_code 5 = .ok (.lload_n 3, 1) := by decide +kernel
theorem d_GM_power_6 : decode prog_15_method_49_code 6 = .ok (.lconst 0, 1) := by decide +kernel
theorem d_GM_power_7 : decode prog_15_method_49_code 7 = .ok (.lcmp, 1) := by decide +kernel
theorem d_GM_power_8 : decode prog_15_method_49_code 8 = .ok (.ifCond .ne 5, 3) := by decide +kernel
theorem d_GM_power_13 : decode prog_15_method_49_code 13 = .ok (.lload_n 1, 1) := by decide +kernel
theorem d_GM_power_14 : decode prog_15_method_49_code 14 = .ok (.lconst 0, 1) := by decide +kernel
theorem d_GM_power_15 : decode prog_15_method_49_code 15 = .ok (.lcmp, 1) := by decide +kernel
theorem d_GM_power_16 : decode prog_15_method_49_code 16 = .ok (.ifCond .eq 9, 3) := by decide +kernel
theorem d_GM_power_25 : decode prog_15_method_49_code 25 = .ok (.aload_n 0, 1) := by decide +kernel
theorem d_GM_power_26 : decode prog_15_method_49_code 26 = .ok (.lload_n 1, 1) := by decide +kernel
theorem d_GM_power_27 : decode prog_15_method_49_code 27 = .ok (.putfield 324, 3) := by decide +kernel
theorem d_GM_power_30 : decode prog_15_method_49_code 30 = .ok (.iconst 1, 1) := by decide +kernel
theorem d_GM_power_31 : decode prog_15_method_49_code 31 = .ok (.ireturn, 1) := by decide +kernel
theorem d_GM_power_19 : decode prog_15_method_49_code 19 = .ok (.lload_n 1, 1) := by decide +kernel
theorem d_GM_power_20 : decode prog_15_method_49_code 20 = .ok (.lconst 1, 1) := by decide +kernel
theorem d_GM_power_21 : decode prog_15_method_49_code 21 = .ok (.lcmp, 1) := by decide +kernel
theorem d_GM_power_22 : decode prog_15_method_49_code 22 = .ok (.ifCond .ne 10, 3) := by decide +kernel
theorem d_GM_power_32 : decode prog_15_method_49_code 32 = .ok (.lload_n 1, 1) := by decide +kernel
theorem d_GM_power_33 : decode prog_15_method_49_code 33 = .ok (.ldc2_w 327, 3) := by decide +kernel
theorem d_GM_power_36 : decode prog_15_method_49_code 36 = .ok (.lcmp, 1) := by decide +kernel
theorem d_GM_power_37 : decode prog_15_method_49_code 37 = .ok (.ifCond .ne 26, 3) := by decide +kernel
theorem d_GM_power_63 : decode prog_15_method_49_code 63 = .ok (.lconst 0, 1) := by decide +kernel
theorem d_GM_power_64 : decode prog_15_method_49_code 64 = .ok (.lstore 5, 2) := by decide +kernel
theorem d_GM_power_40 : decode prog_15_method_49_code 40 = .ok (.aload_n 0, 1) := by decide +kernel
theorem d_GM_power_41 : decode prog_15_method_49_code 41 = .ok (.lload_n 3, 1) := by decide +kernel
theorem d_GM_power_42 : decode prog_15_method_49_code 42 = .ok (.ldc2_w 329, 3) := by decide +kernel
theorem d_GM_power_45 : decode prog_15_method_49_code 45 = .ok (.lrem, 1) := by decide +kernel
theorem d_GM_power_46 : decode prog_15_method_49_code 46 = .ok (.lconst 0, 1) := by decide +kernel
theorem d_GM_power_47 : decode prog_15_method_49_code 47 = .ok (.lcmp, 1) := by decide +kernel
theorem d_GM_power_48 : decode prog_15_method_49_code 48 = .ok (.ifCond .ne 7, 3) := by decide +kernel
theorem d_GM_power_55 : decode prog_15_method_49_code 55 = .ok (.ldc2_w 327, 3) := by decide +kernel
theorem d_GM_power_58 : decode prog_15_method_49_code 58 = .ok (.putfield 324, 3) := by decide +kernel
theorem d_GM_power_61 : decode prog_15_method_49_code 61 = .ok (.iconst 1, 1) := by decide +kernel
theorem d_GM_power_62 : decode prog_15_method_49_code 62 = .ok (.ireturn, 1) := by decide +kernel
theorem d_GM_power_51 : decode prog_15_method_49_code 51 = .ok (.lconst 1, 1) := by decide +kernel
theorem d_GM_power_52 : decode prog_15_method_49_code 52 = .ok (.goto 6, 3) := by decide +kernel
theorem d_GM_power_11 : decode prog_15_method_49_code 11 = .ok (.iconst 1, 1) := by decide +kernel
theorem d_GM_power_12 : decode prog_15_method_49_code 12 = .ok (.ireturn, 1) := by decide +kernel
theorem d_GM_power_66 : decode prog_15_method_49_code 66 = .ok (.lload 5, 2) := by decide +kernel
theorem d_GM_power_68 : decode prog_15_method_49_code 68 = .ok (.lload_n 3, 1) := by decide +kernel
theorem d_GM_power_69 : decode prog_15_method_49_code 69 = .ok (.lcmp, 1) := by decide +kernel
theorem d_GM_power_70 : decode prog_15_method_49_code 70 = .ok (.ifCond .ge 28, 3) := by decide +kernel
theorem d_GM_power_98 : decode prog_15_method_49_code 98 = .ok (.iconst 1, 1) := by decide +kernel
theorem d_GM_power_99 : decode prog_15_method_49_code 99 = .ok (.ireturn, 1) := by decide +kernel
theorem d_GM_power_73 : decode prog_15_method_49_code 73 = .ok (.aload_n 0, 1) := by decide +kernel
theorem d_GM_power_74 : decode prog_15_method_49_code 74 = .ok (.bipush 42, 2) := by decide +kernel
theorem d_GM_power_76 : decode prog_15_method_49_code 76 = .ok (.aload_n 0, 1) := by decide +kernel
theorem d_GM_power_77 : decode prog_15_method_49_code 77 = .ok (.getfield 324, 3) := by decide +kernel
theorem d_GM_power_80 : decode prog_15_method_49_code 80 = .ok (.lload_n 1, 1) := by decide +kernel
theorem d_GM_power_81 : decode prog_15_method_49_code 81 = .ok (.invokevirtual 331, 3) := by decide +kernel
theorem d_GM_power_84 : decode prog_15_method_49_code 84 = .ok (.ifCond .ne 5, 3) := by decide +kernel
theorem d_GM_power_89 : decode prog_15_method_49_code 89 = .ok (.lload 5, 2) := by decide +kernel
theorem d_GM_power_91 : decode prog_15_method_49_code 91 = .ok (.lconst 1, 1) := by decide +kernel
theorem d_GM_power_92 : decode prog_15_method_49_code 92 = .ok (.ladd, 1) := by decide +kernel
theorem d_GM_power_93 : decode prog_15_method_49_code 93 = .ok (.lstore 5, 2) := by decide +kernel
theorem d_GM_power_95 : decode prog_15_method_49_code 95 = .ok (.goto (-29), 3) := by decide +kernel
theorem d_GM_power_87 : decode prog_15_method_49_code 87 = .ok (.iconst 0, 1) := by decide +kernel
theorem d_GM_power_88 : decode prog_15_method_49_code 88 = .ok (.ireturn, 1) := by decide +kernel
set_option maxHeartbeats 4000000 in
theorem w_GM_power_0 {l : Launch} {G : gG} {d : Nat} {X : gX} {M : gM} {k : Int → gM → Prop} {o : Nat} (hX : gmX X o) {x1 : Int} (hx1 : g64 x1) {x3 : Int} (hx3 : g64 x3) (T : (¬ x3 = 0 → ((x1 = 0 → (k 1 (gUp (gUp M o 54 1) o 54 x1))) ∧ (¬ x1 = 0 → ((¬ x1 = 1 → ((¬ x1 = (-1) → (wp l G y_GM_power (gRm (d + 1)) true (kkZ X k) true 66 [.val (gR G o), .val (gL x1), .unset, .val (gL x3), .unset, .val (gL 0), .unset] [] X (gUp M o 54 1) 0 0)) ∧ (x1 = (-1) → ((¬ (w64 (x3.tmod 2)) = 0 → (k 1 (gUp (gUp M o 54 1) o 54 (-1)))) ∧ ((w64 (x3.tmod 2)) = 0 → (k 1 (gUp (gUp M o 54 1) o 54 1))))))) ∧ (x1 = 1 → (k 1 (gUp (gUp M o 54 1) o 54 x1))))))) ∧ (x3 = 0 → (k 1 (gUp M o 54 1)))) : wp l G y_GM_power (gRm (d + 1)) true (kkZ X k) false 0 [.val (gR G o), .val (gL x1), .unset, .val (gL x3), .unset, .unset, .unset] [] X M 0 0 := by
  refine wp_aload_n d_GM_power_0 rfl rfl (g_nz hX.1) ?_
  refine wp_lconst1 d_GM_power_1 ?_
  refine xputJ d_GM_power_2 gc_GM f_GM_324.1 f_GM_324.2.1 f_GM_324.2.2.1 hX.1 (gm_o2 hX) hX.2.2.1 f_GM_324.2.2.2.1 f_GM_324.2.2.2.2.1 f_GM_324.2.2.2.2.2 (w64_id (g64_c (x := 1) rfl)) ?_
  refine wp_lload_n d_GM_power_5 rfl rfl ?_
  refine wp_lconst0 d_GM_power_6 ?_
  refine xl_ne (tgt := 13) d_GM_power_7 d_GM_power_8 (by decide) (w64_id hx3) (w64_id (g64_c (x := 0) rfl)) (fun h5 => ?_) (fun h5 => ?_)
  · have T := T.1 h5
    refine wp_lload_n d_GM_power_13 rfl rfl ?_
    refine wp_lconst0 d_GM_power_14 ?_
    refine xl_eq (tgt := 25) d_GM_power_15 d_GM_power_16 (by decide) (w64_id hx1) (w64_id (g64_c (x := 0) rfl)) (fun h4 => ?_) (fun h4 => ?_)
    · have T := T.1 h4
      refine wp_aload_n d_GM_power_25 rfl rfl (g_nz hX.1) ?_
      refine wp_lload_n d_GM_power_26 rfl rfl ?_
      refine xputJ d_GM_power_27 gc_GM f_GM_324.1 f_GM_324.2.1 f_GM_324.2.2.1 hX.1 (gm_o2 hX) hX.2.2.1 f_GM_324.2.2.2.1 f_GM_324.2.2.2.2.1 f_GM_324.2.2.2.2.2 (w64_id hx1) ?_
      refine wp_iconst d_GM_power_30 ?_
      exact wp_zreturn d_GM_power_31 rfl (g_narz (⟨by decide, by decide⟩ : (0 : Int) ≤ 1 ∧ (1 : Int) ≤ 1)) (fun _ => rfl) (Nat.zero_le _) (Nat.zero_le _) (kZ_mk (⟨by decide, by decide⟩ : (0 : Int) ≤ 1 ∧ (1 : Int) ≤ 1) T)
    · have T := T.2 h4
      refine wp_lload_n d_GM_power_19 rfl rfl ?_
      refine wp_lconst1 d_GM_power_20 ?_
      refine xl_ne (tgt := 32) d_GM_power_21 d_GM_power_22 (by decide) (w64_id hx1) (w64_id (g64_c (x := 1) rfl)) (fun h3 => ?_) (fun h3 => ?_)
      · have T := T.1 h3
        refine wp_lload_n d_GM_power_32 rfl rfl ?_
        refine wp_ldc2 (n := (-1)) d_GM_power_33 c_GM_327 rfl ?_
        refine xl_ne (tgt := 63) d_GM_power_36 d_GM_power_37 (by decide) (w64_id hx1) (w64_id (g64_c (x := (-1)) rfl)) (fun h2 => ?_) (fun h2 => ?_)
        · have T := T.1 h2
          refine wp_lconst0 d_GM_power_63 ?_
          refine wp_lstore (L' := [.val (gR G o), .val (gL x1), .unset, .val (gL x3), .unset, .val (gL 0), .unset]) d_GM_power_64 (by decide) rfl ?_
          exact wp_md (wpt T (And.intro rfl (And.intro rfl (And.intro rfl (And.intro rfl True.intro)))))
        · have T := T.2 h2
          refine wp_aload_n d_GM_power_40 rfl rfl (g_nz hX.1) ?_
          refine wp_lload_n d_GM_power_41 rfl rfl ?_
          refine wp_ldc2 (n := 2) d_GM_power_42 c_GM_329 rfl ?_
          refine xlrem d_GM_power_45 (w64_id hx3) (w64_id (g64_c (x := 2) rfl)) (by decide) ?_
          refine wp_lconst0 d_GM_power_46 ?_
          refine xl_ne (tgt := 55) d_GM_power_47 d_GM_power_48 (by decide) rfl (w64_id (g64_c (x := 0) rfl)) (fun h1 => ?_) (fun h1 => ?_)
          · have T := T.1 h1
            refine wp_ldc2 (n := (-1)) d_GM_power_55 c_GM_327 rfl ?_
            refine xputJ d_GM_power_58 gc_GM f_GM_324.1 f_GM_324.2.1 f_GM_324.2.2.1 hX.1 (gm_o2 hX) hX.2.2.1 f_GM_324.2.2.2.1 f_GM_324.2.2.2.2.1 f_GM_324.2.2.2.2.2 (w64_id (g64_c (x := (-1)) rfl)) ?_
            refine wp_iconst d_GM_power_61 ?_
            exact wp_zreturn d_GM_power_62 rfl (g_narz (⟨by decide, by decide⟩ : (0 : Int) ≤ 1 ∧ (1 : Int) ≤ 1)) (fun _ => rfl) (Nat.zero_le _) (Nat.zero_le _) (kZ_mk (⟨by decide, by decide⟩ : (0 : Int) ≤ 1 ∧ (1 : Int) ≤ 1) T)
          · have T := T.2 h1
            refine wp_lconst1 d_GM_power_51 ?_
            refine wp_goto (tgt := 58) d_GM_power_52 (by decide) ?_
            refine xputJ d_GM_power_58 gc_GM f_GM_324.1 f_GM_324.2.1 f_GM_324.2.2.1 hX.1 (gm_o2 hX) hX.2.2.1 f_GM_324.2.2.2.1 f_GM_324.2.2.2.2.1 f_GM_324.2.2.2.2.2 (w64_id (g64_c (x := 1) rfl)) ?_
            refine wp_iconst d_GM_power_61 ?_
            exact wp_zreturn d_GM_power_62 rfl (g_narz (⟨by decide, by decide⟩ : (0 : Int) ≤ 1 ∧ (1 : Int) ≤ 1)) (fun _ => rfl) (Nat.zero_le _) (Nat.zero_le _) (kZ_mk (⟨by decide, by decide⟩ : (0 : Int) ≤ 1 ∧ (1 : Int) ≤ 1) T)
      · have T := T.2 h3
        refine wp_aload_n d_GM_power_25 rfl rfl (g_nz hX.1) ?_
        refine wp_lload_n d_GM_power_26 rfl rfl ?_
        refine xputJ d_GM_power_27 gc_GM f_GM_324.1 f_GM_324.2.1 f_GM_324.2.2.1 hX.1 (gm_o2 hX) hX.2.2.1 f_GM_324.2.2.2.1 f_GM_324.2.2.2.2.1 f_GM_324.2.2.2.2.2 (w64_id hx1) ?_
        refine wp_iconst d_GM_power_30 ?_
        exact wp_zreturn d_GM_power_31 rfl (g_narz (⟨by decide, by decide⟩ : (0 : Int) ≤ 1 ∧ (1 : Int) ≤ 1)) (fun _ => rfl) (Nat.zero_le _) (Nat.zero_le _) (kZ_mk (⟨by decide, by decide⟩ : (0 : Int) ≤ 1 ∧ (1 : Int) ≤ 1) T)
  · have T := T.2 h5
    refine wp_iconst d_GM_power_11 ?_
    exact wp_zreturn d_GM_power_12 rfl (g_narz (⟨by decide, by decide⟩ : (0 : Int) ≤ 1 ∧ (1 : Int) ≤ 1)) (fun _ => rfl) (Nat.zero_le _) (Nat.zero_le _) (kZ_mk (⟨by decide, by decide⟩ : (0 : Int) ≤ 1 ∧ (1 : Int) ≤ 1) T)
set_option maxHeartbeats 4000000 in
theorem w_GM_power_66 {l : Launch} {G : gG} {d : Nat} {X : gX} {M : gM} {k : Int → gM → Prop} {o : Nat} (hX : gmX X o) {x1 : Int} (hx1 : g64 x1) {x3 : Int} (hx3 : g64 x3) {x5 : Int} (hx5 : g64 x5) (T : (x3 ≤ x5 → (k 1 M)) ∧ (¬ x3 ≤ x5 → (g64 (M o 54) → (cZ l G y_GM_reckon (gRm d) true [gR G o, gI 42, gL (M o 54), gL x1] X M (fun v8 M7 => ((¬ v8 = 0 → (wp l G y_GM_power (gRm (d + 1)) true (kkZ X k) true 66 [.val (gR G o), .val (gL x1), .unset, .val (gL x3), .unset, .val (gL (w64 (x5 + 1))), .unset] [] X M7 0 0)) ∧ (v8 = 0 → (k 0 M7)))))))) : wp l G y_GM_power (gRm (d + 1)) true (kkZ X k) true 66 [.val (gR G o), .val (gL x1), .unset, .val (gL x3), .unset, .val (gL x5), .unset] [] X M 0 0 := by
  refine wp_lload d_GM_power_66 rfl ?_
  refine wp_lload_n d_GM_power_68 rfl rfl ?_
  refine xl_ge (tgt := 98) d_GM_power_69 d_GM_power_70 (by decide) (w64_id hx5) (w64_id hx3) (fun h11 => ?_) (fun h11 => ?_)
  · have T := T.1 h11
    refine wp_iconst d_GM_power_98 ?_
    exact wp_zreturn d_GM_power_99 rfl (g_narz (⟨by decide, by decide⟩ : (0 : Int) ≤ 1 ∧ (1 : Int) ≤ 1)) (fun _ => rfl) (Nat.zero_le _) (Nat.zero_le _) (kZ_mk (⟨by decide, by decide⟩ : (0 : Int) ≤ 1 ∧ (1 : Int) ≤ 1) T)
  · have T := T.2 h11
    refine wp_aload_n d_GM_power_73 rfl rfl (g_nz hX.1) ?_
    refine wp_bipush d_GM_power_74 ⟨by decide, by decide⟩ ?_
    refine wp_aload_n d_GM_power_76 rfl rfl (g_nz hX.1) ?_
    refine xgetJ d_GM_power_77 gc_GM f_GM_324.1 f_GM_324.2.1 f_GM_324.2.2.1 hX.1 (gm_o2 hX) hX.2.2.1 f_GM_324.2.2.2.2.1 (fun h6 => ?_)
    have T := T h6
    refine wp_lload_n d_GM_power_80 rfl rfl ?_
    refine xcV_Z (md' := true) (As := [gI 42, gL (M o 54), gL x1]) (st := []) d_GM_power_81 ca_GM_reckon ml_GM_331 im_GM_reckon se_GM_reckon gc_GM hX.1 (gm_o2 hX) hX.2.2.1 rfl (by decide) (by decide) rfl (fun _ => rfl) (fun _ => rfl) T (fun v8 M7 h9 T => ?_)
    refine xz_ne (tgt := 89) d_GM_power_84 (by decide) (w32_id (g32_z h9)) (fun h10 => ?_) (fun h10 => ?_)
    · have T := T.1 h10
      refine wp_lload d_GM_power_89 rfl ?_
      refine wp_lconst1 d_GM_power_91 ?_
      refine wp_ladd d_GM_power_92 ?_
      refine wp_lstore (L' := [.val (gR G o), .val (gL x1), .unset, .val (gL x3), .unset, .val (gL (x5 + 1)), .unset]) d_GM_power_93 (by decide) rfl ?_
      refine wp_goto (tgt := 66) d_GM_power_95 (by decide) ?_
      exact wp_md (wpt T (And.intro rfl (And.intro rfl (And.intro rfl (And.intro (gL_w _) True.intro)))))
    · have T := T.2 h10
      refine wp_iconst d_GM_power_87 ?_
      exact wp_zreturn d_GM_power_88 rfl (g_narz (⟨by decide, by decide⟩ : (0 : Int) ≤ 0 ∧ (0 : Int) ≤ 1)) (fun _ => rfl) (Nat.zero_le _) (Nat.zero_le _) (kZ_mk (⟨by decide, by decide⟩ : (0 : Int) ≤ 0 ∧ (0 : Int) ≤ 1) T)
theorem e_GM_power {l : Launch} {G : gG} {d : Nat} {X : gX} {M : gM} {k : Int → gM → Prop} {o : Nat} {x1 : Int} {x3 : Int} (T : wp l G y_GM_power (gRm (d + 1)) true (kkZ X k) false 0 [.val (gR G o), .val (gL x1), .unset, .val (gL x3), .unset, .unset, .unset] [] X M 0 0) : cZ l G y_GM_power (gRm (d + 1)) true [gR G o, gL x1, gL x3] X M k := cen_Z (plainFor_of_name rfl) (by simp only [lg_sl_R, lg_sl_I, lg_sl_L, lg_sl_N, List.length_cons, List.length_nil]; decide) (by unfold gEn; simp only [lg_sl_R, lg_sl_I, lg_sl_L, lg_sl_N]; exact wpt T (And.intro rfl (And.intro rfl (And.intro rfl True.intro))))
theorem d_GM_two_0 : decode prog_15_method_50_code 0 = .ok (.aload_n 0, 1) := by decide +kernel
theorem d_GM_two_1 : decode prog_15_method_50_code 1 = .ok (.iconst 2, 1) := by decide +kernel
theorem d_GM_two_2 : decode prog_15_method_50_code 2 = .ok (.invokevirtual 335, 3) := by decide +kernel
theorem d_GM_two_5 : decode prog_15_method_50_code 5 = .ok (.ifCond .eq 4, 3) := by decide +kernel
theorem d_GM_two_9 : decode prog_15_method_50_code 9 = .ok (.aload_n 0, 1) := by decide +kernel
theorem d_GM_two_10 : decode prog_15_method_50_code 10 = .ok (.getfield 304, 3) := by decide +kernel
theorem d_GM_two_13 : decode prog_15_method_50_code 13 = .ok (.iconst 2, 1) := by decide +kernel
theorem d_GM_two_14 : decode prog_15_method_50_code 14 = .ok (.isub, 1) := by decide +kernel
theorem d_GM_two_15 : decode prog_15_method_50_code 15 = .ok (.istore_n 2, 1) := by decide +kernel
theorem d_GM_two_16 : decode prog_15_method_50_code 16 = .ok (.aload_n 0, 1) := by decide +kernel
theorem d_GM_two_17 : decode prog_15_method_50_code 17 = .ok (.getfield 304, 3) := by decide +kernel
theorem d_GM_two_20 : decode prog_15_method_50_code 20 = .ok (.iconst 1, 1) := by decide +kernel
theorem d_GM_two_21 : decode prog_15_method_50_code 21 = .ok (.isub, 1) := by decide +kernel
theorem d_GM_two_22 : decode prog_15_method_50_code 22 = .ok (.istore_n 3, 1) := by decide +kernel
theorem d_GM_two_23 : decode prog_15_method_50_code 23 = .ok (.iload_n 1, 1) := by decide +kernel
theorem d_GM_two_24 : decode prog_15_method_50_code 24 = .ok (.lookupswitch 211 #[(38, 68), (60, 127), (61, 85), (62, 169), (103, 190), (108, 148), (110, 106)], 68) := by decide +kernel
theorem d_GM_two_92 : decode prog_15_method_50_code 92 = .ok (.aload_n 0, 1) := by decide +kernel
theorem d_GM_two_93 : decode prog_15_method_50_code 93 = .ok (.iload_n 2, 1) := by decide +kernel
theorem d_GM_two_94 : decode prog_15_method_50_code 94 = .ok (.invokevirtual 338, 3) := by decide +kernel
theorem d_GM_two_97 : decode prog_15_method_50_code 97 = .ok (.aload_n 0, 1) := by decide +kernel
theorem d_GM_two_98 : decode prog_15_method_50_code 98 = .ok (.iload_n 3, 1) := by decide +kernel
theorem d_GM_two_99 : decode prog_15_method_50_code 99 = .ok (.invokevirtual 338, 3) := by decide +kernel
theorem d_GM_two_102 : decode prog_15_method_50_code 102 = .ok (.aload_n 0, 1) := by decide +kernel
theorem d_GM_two_103 : decode prog_15_method_50_code 103 = .ok (.iload_n 2, 1) := by decide +kernel
theorem d_GM_two_104 : decode prog_15_method_50_code 104 = .ok (.iload_n 3, 1) := by decide +kernel
theorem d_GM_two_105 : decode prog_15_method_50_code 105 = .ok (.invokevirtual 341, 3) := by decide +kernel
theorem d_GM_two_108 : decode prog_15_method_50_code 108 = .ok (.return_, 1) := by decide +kernel
theorem d_GM_two_151 : decode prog_15_method_50_code 151 = .ok (.aload_n 0, 1) := by decide +kernel
theorem d_GM_two_152 : decode prog_15_method_50_code 152 = .ok (.iconst 2, 1) := by decide +kernel
theorem d_GM_two_153 : decode prog_15_method_50_code 153 = .ok (.iconst 3, 1) := by decide +kernel
theorem d_GM_two_154 : decode prog_15_method_50_code 154 = .ok (.aload_n 0, 1) := by decide +kernel
theorem d_GM_two_155 : decode prog_15_method_50_code 155 = .ok (.iload_n 2, 1) := by decide +kernel
theorem d_GM_two_156 : decode prog_15_method_50_code 156 = .ok (.iload_n 3, 1) := by decide +kernel
theorem d_GM_two_157 : decode prog_15_method_50_code 157 = .ok (.invokevirtual 344, 3) := by decide +kernel
theorem d_GM_two_160 : decode prog_15_method_50_code 160 = .ok (.ifCond .ge 7, 3) := by decide +kernel
theorem d_GM_two_167 : decode prog_15_method_50_code 167 = .ok (.lconst 0, 1) := by decide +kernel
theorem d_GM_two_163 : decode prog_15_method_50_code 163 = .ok (.lconst 1, 1) := by decide +kernel
theorem d_GM_two_164 : decode prog_15_method_50_code 164 = .ok (.goto 4, 3) := by decide +kernel
theorem d_GM_two_109 : decode prog_15_method_50_code 109 = .ok (.aload_n 0, 1) := by decide +kernel
theorem d_GM_two_110 : decode prog_15_method_50_code 110 = .ok (.iconst 2, 1) := by decide +kernel
theorem d_GM_two_111 : decode prog_15_method_50_code 111 = .ok (.iconst 3, 1) := by decide +kernel
theorem d_GM_two_112 : decode prog_15_method_50_code 112 = .ok (.aload_n 0, 1) := by decide +kernel
theorem d_GM_two_113 : decode prog_15_method_50_code 113 = .ok (.iload_n 2, 1) := by decide +kernel
theorem d_GM_two_114 : decode prog_15_method_50_code 114 = .ok (.iload_n 3, 1) := by decide +kernel
theorem d_GM_two_115 : decode prog_15_method_50_code 115 = .ok (.invokevirtual 344, 3) := by decide +kernel
theorem d_GM_two_118 : decode prog_15_method_50_code 118 = .ok (.ifCond .ne 7, 3) := by decide +kernel
theorem d_GM_two_125 : decode prog_15_method_50_code 125 = .ok (.lconst 0, 1) := by decide +kernel
theorem d_GM_two_121 : decode prog_15_method_50_code 121 = .ok (.lconst 1, 1) := by decide +kernel
theorem d_GM_two_122 : decode prog_15_method_50_code 122 = .ok (.goto 4, 3) := by decide +kernel
theorem d_GM_two_193 : decode prog_15_method_50_code 193 = .ok (.aload_n 0, 1) := by decide +kernel
theorem d_GM_two_194 : decode prog_15_method_50_code 194 = .ok (.iconst 2, 1) := by decide +kernel
theorem d_GM_two_195 : decode prog_15_method_50_code 195 = .ok (.iconst 3, 1) := by decide +kernel
theorem d_GM_two_196 : decode prog_15_method_50_code 196 = .ok (.aload_n 0, 1) := by decide +kernel
theorem d_GM_two_197 : decode prog_15_method_50_code 197 = .ok (.iload_n 2, 1) := by decide +kernel
theorem d_GM_two_198 : decode prog_15_method_50_code 198 = .ok (.iload_n 3, 1) := by decide +kernel
theorem d_GM_two_199 : decode prog_15_method_50_code 199 = .ok (.invokevirtual 344, 3) := by decide +kernel
theorem d_GM_two_202 : decode prog_15_method_50_code 202 = .ok (.ifCond .le 7, 3) := by decide +kernel
theorem d_GM_two_209 : decode prog_15_method_50_code 209 = .ok (.lconst 0, 1) := by decide +kernel
theorem d_GM_two_205 : decode prog_15_method_50_code 205 = .ok (.lconst 1, 1) := by decide +kernel
theorem d_GM_two_206 : decode prog_15_method_50_code 206 = .ok (.goto 4, 3) := by decide +kernel
theorem d_GM_two_214 : decode prog_15_method_50_code 214 = .ok (.aload_n 0, 1) := by decide +kernel
theorem d_GM_two_215 : decode prog_15_method_50_code 215 = .ok (.iconst 2, 1) := by decide +kernel
theorem d_GM_two_216 : decode prog_15_method_50_code 216 = .ok (.iconst 3, 1) := by decide +kernel
theorem d_GM_two_217 : decode prog_15_method_50_code 217 = .ok (.aload_n 0, 1) := by decide +kernel
theorem d_GM_two_218 : decode prog_15_method_50_code 218 = .ok (.iload_n 2, 1) := by decide +kernel
theorem d_GM_two_219 : decode prog_15_method_50_code 219 = .ok (.iload_n 3, 1) := by decide +kernel
theorem d_GM_two_220 : decode prog_15_method_50_code 220 = .ok (.invokevirtual 344, 3) := by decide +kernel
theorem d_GM_two_223 : decode prog_15_method_50_code 223 = .ok (.ifCond .lt 7, 3) := by decide +kernel
theorem d_GM_two_230 : decode prog_15_method_50_code 230 = .ok (.lconst 0, 1) := by decide +kernel
theorem d_GM_two_226 : decode prog_15_method_50_code 226 = .ok (.lconst 1, 1) := by decide +kernel
theorem d_GM_two_227 : decode prog_15_method_50_code 227 = .ok (.goto 4, 3) := by decide +kernel
theorem d_GM_two_172 : decode prog_15_method_50_code 172 = .ok (.aload_n 0, 1) := by decide +kernel
theorem d_GM_two_173 : decode prog_15_method_50_code 173 = .ok (.iconst 2, 1) := by decide +kernel
theorem d_GM_two_174 : decode prog_15_method_50_code 174 = .ok (.iconst 3, 1) := by decide +kernel
theorem d_GM_two_175 : decode prog_15_method_50_code 175 = .ok (.aload_n 0, 1) := by decide +kernel
theorem d_GM_two_176 : decode prog_15_method_50_code 176 = .ok (.iload_n 2, 1) := by decide +kernel
theorem d_GM_two_177 : decode prog_15_method_50_code 177 = .ok (.iload_n 3, 1) := by decide +kernel
theorem d_GM_two_178 : decode prog_15_method_50_code 178 = .ok (.invokevirtual 344, 3) := by decide +kernel
theorem d_GM_two_181 : decode prog_15_method_50_code 181 = .ok (.ifCond .gt 7, 3) := by decide +kernel
theorem d_GM_two_188 : decode prog_15_method_50_code 188 = .ok (.lconst 0, 1) := by decide +kernel
theorem d_GM_two_184 : decode prog_15_method_50_code 184 = .ok (.lconst 1, 1) := by decide +kernel
theorem d_GM_two_185 : decode prog_15_method_50_code 185 = .ok (.goto 4, 3) := by decide +kernel
theorem d_GM_two_130 : decode prog_15_method_50_code 130 = .ok (.aload_n 0, 1) := by decide +kernel
theorem d_GM_two_131 : decode prog_15_method_50_code 131 = .ok (.iconst 2, 1) := by decide +kernel
theorem d_GM_two_132 : decode prog_15_method_50_code 132 = .ok (.iconst 3, 1) := by decide +kernel
theorem d_GM_two_133 : decode prog_15_method_50_code 133 = .ok (.aload_n 0, 1) := by decide +kernel
theorem d_GM_two_134 : decode prog_15_method_50_code 134 = .ok (.iload_n 2, 1) := by decide +kernel
theorem d_GM_two_135 : decode prog_15_method_50_code 135 = .ok (.iload_n 3, 1) := by decide +kernel
theorem d_GM_two_136 : decode prog_15_method_50_code 136 = .ok (.invokevirtual 344, 3) := by decide +kernel
theorem d_GM_two_139 : decode prog_15_method_50_code 139 = .ok (.ifCond .eq 7, 3) := by decide +kernel
theorem d_GM_two_146 : decode prog_15_method_50_code 146 = .ok (.lconst 0, 1) := by decide +kernel
theorem d_GM_two_142 : decode prog_15_method_50_code 142 = .ok (.lconst 1, 1) := by decide +kernel
theorem d_GM_two_143 : decode prog_15_method_50_code 143 = .ok (.goto 4, 3) := by decide +kernel
theorem d_GM_two_235 : decode prog_15_method_50_code 235 = .ok (.aload_n 0, 1) := by decide +kernel
theorem d_GM_two_236 : decode prog_15_method_50_code 236 = .ok (.iload_n 2, 1) := by decide +kernel
theorem d_GM_two_237 : decode prog_15_method_50_code 237 = .ok (.invokevirtual 351, 3) := by decide +kernel
theorem d_GM_two_240 : decode prog_15_method_50_code 240 = .ok (.ifCond .eq 11, 3) := by decide +kernel
theorem d_GM_two_243 : decode prog_15_method_50_code 243 = .ok (.aload_n 0, 1) := by decide +kernel
theorem d_GM_two_244 : decode prog_15_method_50_code 244 = .ok (.iload_n 3, 1) := by decide +kernel
theorem d_GM_two_245 : decode prog_15_method_50_code 245 = .ok (.invokevirtual 351, 3) := by decide +kernel
theorem d_GM_two_248 : decode prog_15_method_50_code 248 = .ok (.ifCond .ne 13, 3) := by decide +kernel
theorem d_GM_two_261 : decode prog_15_method_50_code 261 = .ok (.aload_n 0, 1) := by decide +kernel
theorem d_GM_two_262 : decode prog_15_method_50_code 262 = .ok (.getfield 122, 3) := by decide +kernel
theorem d_GM_two_265 : decode prog_15_method_50_code 265 = .ok (.iload_n 2, 1) := by decide +kernel
theorem d_GM_two_266 : decode prog_15_method_50_code 266 = .ok (.laload, 1) := by decide +kernel
theorem d_GM_two_267 : decode prog_15_method_50_code 267 = .ok (.lstore 4, 2) := by decide +kernel
theorem d_GM_two_269 : decode prog_15_method_50_code 269 = .ok (.aload_n 0, 1) := by decide +kernel
theorem d_GM_two_270 : decode prog_15_method_50_code 270 = .ok (.getfield 122, 3) := by decide +kernel
theorem d_GM_two_273 : decode prog_15_method_50_code 273 = .ok (.iload_n 3, 1) := by decide +kernel
theorem d_GM_two_274 : decode prog_15_method_50_code 274 = .ok (.laload, 1) := by decide +kernel
theorem d_GM_two_275 : decode prog_15_method_50_code 275 = .ok (.lstore 6, 2) := by decide +kernel
theorem d_GM_two_277 : decode prog_15_method_50_code 277 = .ok (.iload_n 1, 1) := by decide +kernel
theorem d_GM_two_278 : decode prog_15_method_50_code 278 = .ok (.bipush 47, 2) := by decide +kernel
theorem d_GM_two_280 : decode prog_15_method_50_code 280 = .ok (.if_icmp .ne 14, 3) := by decide +kernel
theorem d_GM_two_294 : decode prog_15_method_50_code 294 = .ok (.iload_n 1, 1) := by decide +kernel
theorem d_GM_two_295 : decode prog_15_method_50_code 295 = .ok (.bipush 94, 2) := by decide +kernel
theorem d_GM_two_297 : decode prog_15_method_50_code 297 = .ok (.if_icmp .ne 62, 3) := by decide +kernel
theorem d_GM_two_359 : decode prog_15_method_50_code 359 = .ok (.aload_n 0, 1) := by decide +kernel
theorem d_GM_two_360 : decode prog_15_method_50_code 360 = .ok (.iload_n 1, 1) := by decide +kernel
theorem d_GM_two_361 : decode prog_15_method_50_code 361 = .ok (.lload 4, 2) := by decide +kernel
theorem d_GM_two_363 : decode prog_15_method_50_code 363 = .ok (.lload 6, 2) := by decide +kernel
theorem d_GM_two_365 : decode prog_15_method_50_code 365 = .ok (.invokevirtual 331, 3) := by decide +kernel
theorem d_GM_two_368 : decode prog_15_method_50_code 368 = .ok (.istore 8, 2) := by decide +kernel
theorem d_GM_two_370 : decode prog_15_method_50_code 370 = .ok (.aload_n 0, 1) := by decide +kernel
theorem d_GM_two_371 : decode prog_15_method_50_code 371 = .ok (.iconst 2, 1) := by decide +kernel
theorem d_GM_two_372 : decode prog_15_method_50_code 372 = .ok (.iload 8, 2) := by decide +kernel
theorem d_GM_two_374 : decode prog_15_method_50_code 374 = .ok (.ifCond .eq 7, 3) := by decide +kernel
theorem d_GM_two_381 : decode prog_15_method_50_code 381 = .ok (.iconst 4, 1) := by decide +kernel
theorem d_GM_two_377 : decode prog_15_method_50_code 377 = .ok (.iconst 1, 1) := by decide +kernel
theorem d_GM_two_378 : decode prog_15_method_50_code 378 = .ok (.goto 4, 3) := by decide +kernel
theorem d_GM_two_300 : decode prog_15_method_50_code 300 = .ok (.aload_n 0, 1) := by decide +kernel
theorem d_GM_two_301 : decode prog_15_method_50_code 301 = .ok (.iconst 2, 1) := by decide +kernel
theorem d_GM_two_302 : decode prog_15_method_50_code 302 = .ok (.lload 6, 2) := by decide +kernel
theorem d_GM_two_304 : decode prog_15_method_50_code 304 = .ok (.lconst 0, 1) := by decide +kernel
theorem d_GM_two_305 : decode prog_15_method_50_code 305 = .ok (.lcmp, 1) := by decide +kernel
theorem d_GM_two_306 : decode prog_15_method_50_code 306 = .ok (.ifCond .lt 14, 3) := by decide +kernel
theorem d_GM_two_309 : decode prog_15_method_50_code 309 = .ok (.aload_n 0, 1) := by decide +kernel
theorem d_GM_two_310 : decode prog_15_method_50_code 310 = .ok (.lload 4, 2) := by decide +kernel
theorem d_GM_two_312 : decode prog_15_method_50_code 312 = .ok (.lload 6, 2) := by decide +kernel
theorem d_GM_two_314 : decode prog_15_method_50_code 314 = .ok (.invokevirtual 360, 3) := by decide +kernel
theorem d_GM_two_317 : decode prog_15_method_50_code 317 = .ok (.ifCond .ne 7, 3) := by decide +kernel
theorem d_GM_two_324 : decode prog_15_method_50_code 324 = .ok (.iconst 1, 1) := by decide +kernel
theorem d_GM_two_283 : decode prog_15_method_50_code 283 = .ok (.aload_n 0, 1) := by decide +kernel
theorem d_GM_two_284 : decode prog_15_method_50_code 284 = .ok (.lload 4, 2) := by decide +kernel
theorem d_GM_two_286 : decode prog_15_method_50_code 286 = .ok (.lload 6, 2) := by decide +kernel
theorem d_GM_two_288 : decode prog_15_method_50_code 288 = .ok (.invokevirtual 356, 3) := by decide +kernel
theorem d_GM_two_291 : decode prog_15_method_50_code 291 = .ok (.goto 109, 3) := by decide +kernel
theorem d_GM_two_8 : decode prog_15_method_50_code 8 = .ok (.return_, 1) := by decide +kernel
theorem d_GM_two_168 : decode prog_15_method_50_code 168 = .ok (.invokevirtual 347, 3) := by decide +kernel
theorem d_GM_two_171 : decode prog_15_method_50_code 171 = .ok (.return_, 1) := by decide +kernel
theorem d_GM_two_126 : decode prog_15_method_50_code 126 = .ok (.invokevirtual 347, 3) := by decide +kernel
theorem d_GM_two_129 : decode prog_15_method_50_code 129 = .ok (.return_, 1) := by decide +kernel
theorem d_GM_two_210 : decode prog_15_method_50_code 210 = .ok (.invokevirtual 347, 3) := by decide +kernel
theorem d_GM_two_213 : decode prog_15_method_50_code 213 = .ok (.return_, 1) := by decide +kernel
theorem d_GM_two_231 : decode prog_15_method_50_code 231 = .ok (.invokevirtual 347, 3) := by decide +kernel
theorem d_GM_two_234 : decode prog_15_method_50_code 234 = .ok (.return_, 1) := by decide +kernel
theorem d_GM_two_189 : decode prog_15_method_50_code 189 = .ok (.invokevirtual 347, 3) := by decide +kernel
theorem d_GM_two_192 : decode prog_15_method_50_code 192 = .ok (.return_, 1) := by decide +kernel
theorem d_GM_two_147 : decode prog_15_method_50_code 147 = .ok (.invokevirtual 347, 3) := by decide +kernel
theorem d_GM_two_150 : decode prog_15_method_50_code 150 = .ok (.return_, 1) := by decide +kernel
theorem d_GM_two_251 : decode prog_15_method_50_code 251 = .ok (.aload_n 0, 1) := by decide +kernel
theorem d_GM_two_252 : decode prog_15_method_50_code 252 = .ok (.iconst 2, 1) := by decide +kernel
theorem d_GM_two_253 : decode prog_15_method_50_code 253 = .ok (.iconst 4, 1) := by decide +kernel
theorem d_GM_two_254 : decode prog_15_method_50_code 254 = .ok (.ldc2_w 354, 3) := by decide +kernel
theorem d_GM_two_257 : decode prog_15_method_50_code 257 = .ok (.invokevirtual 347, 3) := by decide +kernel
theorem d_GM_two_260 : decode prog_15_method_50_code 260 = .ok (.return_, 1) := by decide +kernel
theorem d_GM_two_382 : decode prog_15_method_50_code 382 = .ok (.iload 8, 2) := by decide +kernel
theorem d_GM_two_384 : decode prog_15_method_50_code 384 = .ok (.ifCond .eq 10, 3) := by decide +kernel
theorem d_GM_two_394 : decode prog_15_method_50_code 394 = .ok (.ldc2_w 364, 3) := by decide +kernel
theorem d_GM_two_387 : decode prog_15_method_50_code 387 = .ok (.aload_n 0, 1) := by decide +kernel
theorem d_GM_two_388 : decode prog_15_method_50_code 388 = .ok (.getfield 324, 3) := by decide +kernel
theorem d_GM_two_391 : decode prog_15_method_50_code 391 = .ok (.goto 6, 3) := by decide +kernel
theorem d_GM_two_320 : decode prog_15_method_50_code 320 = .ok (.iconst 4, 1) := by decide +kernel
theorem d_GM_two_321 : decode prog_15_method_50_code 321 = .ok (.goto 4, 3) := by decide +kernel
theorem d_GM_two_325 : decode prog_15_method_50_code 325 = .ok (.lload 6, 2) := by decide +kernel
theorem d_GM_two_327 : decode prog_15_method_50_code 327 = .ok (.lconst 0, 1) := by decide +kernel
theorem d_GM_two_328 : decode prog_15_method_50_code 328 = .ok (.lcmp, 1) := by decide +kernel
theorem d_GM_two_329 : decode prog_15_method_50_code 329 = .ok (.ifCond .lt 14, 3) := by decide +kernel
theorem d_GM_two_332 : decode prog_15_method_50_code 332 = .ok (.aload_n 0, 1) := by decide +kernel
theorem d_GM_two_333 : decode prog_15_method_50_code 333 = .ok (.lload 4, 2) := by decide +kernel
theorem d_GM_two_335 : decode prog_15_method_50_code 335 = .ok (.lload 6, 2) := by decide +kernel
theorem d_GM_two_337 : decode prog_15_method_50_code 337 = .ok (.invokevirtual 360, 3) := by decide +kernel
theorem d_GM_two_340 : decode prog_15_method_50_code 340 = .ok (.ifCond .ne 9, 3) := by decide +kernel
theorem d_GM_two_349 : decode prog_15_method_50_code 349 = .ok (.aload_n 0, 1) := by decide +kernel
theorem d_GM_two_350 : decode prog_15_method_50_code 350 = .ok (.getfield 324, 3) := by decide +kernel
theorem d_GM_two_400 : decode prog_15_method_50_code 400 = .ok (.return_, 1) := by decide +kernel
theorem d_GM_two_397 : decode prog_15_method_50_code 397 = .ok (.invokevirtual 347, 3) := by decide +kernel
theorem d_GM_two_343 : decode prog_15_method_50_code 343 = .ok (.ldc2_w 364, 3) := by decide +kernel
theorem d_GM_two_346 : decode prog_15_method_50_code 346 = .ok (.goto 7, 3) := by decide +kernel
theorem d_GM_two_353 : decode prog_15_method_50_code 353 = .ok (.invokevirtual 347, 3) := by decide +kernel
theorem d_GM_two_356 : decode prog_15_method_50_code 356 = .ok (.goto 44, 3) := by decide +kernel
set_option maxHeartbeats 4000000 in
theorem w_GM_two_0 {l : Launch} {G : gG} {d : Nat} {X : gX} {M : gM} {k : gM → Prop} {o : Nat} (hX : gmX X o) {x1 : Int} (hx1 : g32 x1) (T : cZ l G y_GM_spoilt (gRm d) true [gR G o, gI 2] X M (fun v2 M1 => ((v2 = 0 → (g32 (M1 o 50) → (g32 (M1 o 50) → ((x1 = 38 → (cV l G y_GM_asText (gRm d) true [gR G o, gI ((M1 o 50) - 2)] X M1 (fun M6 => (cV l G y_GM_asText (gRm d) true [gR G o, gI ((M1 o 50) - 1)] X M6 (fun M7 => (cV l G y_GM_join (gRm d) true [gR G o, gI ((M1 o 50) - 2), gI ((M1 o 50) - 1)] X M7 (fun M8 => (k M8)))))))) ∧ (x1 = 60 → (cI l G y_GM_compare (gRm d) false [gR G o, gI ((M1 o 50) - 2), gI ((M1 o 50) - 1)] X M1 (fun v10 M9 => ((0 ≤ v10 → (wp l G y_GM_two (gRm (d + 1)) true (kkV X k) true 168 [.unset, .unset, .unset, .unset, .unset, .unset, .unset, .unset, .unset] [gL 0, gI 3, gI 2, gR G o] X M9 0 0)) ∧ (¬ 0 ≤ v10 → (wp l G y_GM_two (gRm (d + 1)) true (kkV X k) true 168 [.unset, .unset, .unset, .unset, .unset, .unset, .unset, .unset, .unset] [gL 1, gI 3, gI 2, gR G o] X M9 0 0)))))) ∧ (x1 = 61 → (cI l G y_GM_compare (gRm d) false [gR G o, gI ((M1 o 50) - 2), gI ((M1 o 50) - 1)] X M1 (fun v14 M13 => ((¬ v14 = 0 → (wp l G y_GM_two (gRm (d + 1)) true (kkV X k) true 126 [.unset, .unset, .unset, .unset, .unset, .unset, .unset, .unset, .unset] [gL 0, gI 3, gI 2, gR G o] X M13 0 0)) ∧ (v14 = 0 → (wp l G y_GM_two (gRm (d + 1)) true (kkV X k) true 126 [.unset, .unset, .unset, .unset, .unset, .unset, .unset, .unset, .unset] [gL 1, gI 3, gI 2, gR G o] X M13 0 0)))))) ∧ (x1 = 62 → (cI l G y_GM_compare (gRm d) false [gR G o, gI ((M1 o 50) - 2), gI ((M1 o 50) - 1)] X M1 (fun v18 M17 => ((v18 ≤ 0 → (wp l G y_GM_two (gRm (d + 1)) true (kkV X k) true 210 [.unset, .unset, .unset, .unset, .unset, .unset, .unset, .unset, .unset] [gL 0, gI 3, gI 2, gR G o] X M17 0 0)) ∧ (¬ v18 ≤ 0 → (wp l G y_GM_two (gRm (d + 1)) true (kkV X k) true 210 [.unset, .unset, .unset, .unset, .unset, .unset, .unset, .unset, .unset] [gL 1, gI 3, gI 2, gR G o] X M17 0 0)))))) ∧ (x1 = 103 → (cI l G y_GM_compare (gRm d) false [gR G o, gI ((M1 o 50) - 2), gI ((M1 o 50) - 1)] X M1 (fun v22 M21 => ((v22 < 0 → (wp l G y_GM_two (gRm (d + 1)) true (kkV X k) true 231 [.unset, .unset, .unset, .unset, .unset, .unset, .unset, .unset, .unset] [gL 0, gI 3, gI 2, gR G o] X M21 0 0)) ∧ (¬ v22 < 0 → (wp l G y_GM_two (gRm (d + 1)) true (kkV X k) true 231 [.unset, .unset, .unset, .unset, .unset, .unset, .unset, .unset, .unset] [gL 1, gI 3, gI 2, gR G o] X M21 0 0)))))) ∧ (x1 = 108 → (cI l G y_GM_compare (gRm d) false [gR G o, gI ((M1 o 50) - 2), gI ((M1 o 50) - 1)] X M1 (fun v26 M25 => ((0 < v26 → (wp l G y_GM_two (gRm (d + 1)) true (kkV X k) true 189 [.unset, .unset, .unset, .unset, .unset, .unset, .unset, .unset, .unset] [gL 0, gI 3, gI 2, gR G o] X M25 0 0)) ∧ (¬ 0 < v26 → (wp l G y_GM_two (gRm (d + 1)) true (kkV X k) true 189 [.unset, .unset, .unset, .unset, .unset, .unset, .unset, .unset, .unset] [gL 1, gI 3, gI 2, gR G o] X M25 0 0)))))) ∧ (x1 = 110 → (cI l G y_GM_compare (gRm d) false [gR G o, gI ((M1 o 50) - 2), gI ((M1 o 50) - 1)] X M1 (fun v30 M29 => ((v30 = 0 → (wp l G y_GM_two (gRm (d + 1)) true (kkV X k) true 147 [.unset, .unset, .unset, .unset, .unset, .unset, .unset, .unset, .unset] [gL 0, gI 3, gI 2, gR G o] X M29 0 0)) ∧ (¬ v30 = 0 → (wp l G y_GM_two (gRm (d + 1)) true (kkV X k) true 147 [.unset, .unset, .unset, .unset, .unset, .unset, .unset, .unset, .unset] [gL 1, gI 3, gI 2, gR G o] X M29 0 0)))))) ∧ ((¬ x1 = 38 ∧ ¬ x1 = 60 ∧ ¬ x1 = 61 ∧ ¬ x1 = 62 ∧ ¬ x1 = 103 ∧ ¬ x1 = 108 ∧ ¬ x1 = 110) → (cZ l G y_GM_asNumber (gRm d) true [gR G o, gI ((M1 o 50) - 2)] X M1 (fun v34 M33 => ((v34 = 0 → (wp l G y_GM_two (gRm (d + 1)) true (kkV X k) true 251 [.val (gR G o), .unset, .unset, .unset, .unset, .unset, .unset, .unset, .unset] [] X M33 0 0)) ∧ (¬ v34 = 0 → (cZ l G y_GM_asNumber (gRm d) true [gR G o, gI ((M1 o 50) - 1)] X M33 (fun v37 M36 => ((¬ v37 = 0 → (((0 : Int) ≤ (M1 o 50) - 2 ∧ (M1 o 50) - 2 < 1200) ∧ (g64 (M36 (o + 36) (Int.toNat ((M1 o 50) - 2))) → (((0 : Int) ≤ (M1 o 50) - 1 ∧ (M1 o 50) - 1 < 1200) ∧ (g64 (M36 (o + 36) (Int.toNat ((M1 o 50) - 1))) → ((¬ x1 = 47 → ((¬ x1 = 94 → (cZ l G y_GM_reckon (gRm d) true [gR G o, gI x1, gL (M36 (o + 36) (Int.toNat ((M1 o 50) - 2))), gL (M36 (o + 36) (Int.toNat ((M1 o 50) - 1)))] X M36 (fun v42 M41 => ((v42 = 0 → (wp l G y_GM_two (gRm (d + 1)) true (kkV X k) true 382 [.val (gR G o), .unset, .unset, .unset, .unset, .unset, .unset, .unset, .val (gI v42)] [gI 4, gI 2, gR G o] X M41 0 0)) ∧ (¬ v42 = 0 → (wp l G y_GM_two (gRm (d + 1)) true (kkV X k) true 382 [.val (gR G o), .unset, .unset, .unset, .unset, .unset, .unset, .unset, .val (gI v42)] [gI 1, gI 2, gR G o] X M41 0 0)))))) ∧ (x1 = 94 → ((M36 (o + 36) (Int.toNat ((M1 o 50) - 1)) < 0 → (wp l G y_GM_two (gRm (d + 1)) true (kkV X k) true 320 [.val (gR G o), .unset, .unset, .unset, .val (gL (M36 (o + 36) (Int.toNat ((M1 o 50) - 2)))), .unset, .val (gL (M36 (o + 36) (Int.toNat ((M1 o 50) - 1)))), .unset, .unset] [gI 2, gR G o] X M36 0 0)) ∧ (¬ M36 (o + 36) (Int.toNat ((M1 o 50) - 1)) < 0 → (cZ l G y_GM_power (gRm d) true [gR G o, gL (M36 (o + 36) (Int.toNat ((M1 o 50) - 2))), gL (M36 (o + 36) (Int.toNat ((M1 o 50) - 1)))] X M36 (fun v46 M45 => ((¬ v46 = 0 → (wp l G y_GM_two (gRm (d + 1)) true (kkV X k) true 325 [.val (gR G o), .unset, .unset, .unset, .val (gL (M36 (o + 36) (Int.toNat ((M1 o 50) - 2)))), .unset, .val (gL (M36 (o + 36) (Int.toNat ((M1 o 50) - 1)))), .unset, .unset] [gI 1, gI 2, gR G o] X M45 0 0)) ∧ (v46 = 0 → (wp l G y_GM_two (gRm (d + 1)) true (kkV X k) true 320 [.val (gR G o), .unset, .unset, .unset, .val (gL (M36 (o + 36) (Int.toNat ((M1 o 50) - 2)))), .unset, .val (gL (M36 (o + 36) (Int.toNat ((M1 o 50) - 1)))), .unset, .unset] [gI 2, gR G o] X M45 0 0)))))))))) ∧ (x1 = 47 → (cV l G y_GM_divide (gRm d) true [gR G o, gL (M36 (o + 36) (Int.toNat ((M1 o 50) - 2))), gL (M36 (o + 36) (Int.toNat ((M1 o 50) - 1)))] X M36 (fun M51 => (wp l G y_GM_two (gRm (d + 1)) true (kkV X k) true 400 [.unset, .unset, .unset, .unset, .unset, .unset, .unset, .unset, .unset] [] X M51 0 0)))))))))) ∧ (v37 = 0 → (wp l G y_GM_two (gRm (d + 1)) true (kkV X k) true 251 [.val (gR G o), .unset, .unset, .unset, .unset, .unset, .unset, .unset, .unset] [] X M36 0 0)))))))))))))) ∧ (¬ v2 = 0 → (k M1))))) : wp l G y_GM_two (gRm (d + 1)) true (kkV X k) false 0 [.val (gR G o), .val (gI x1), .unset, .unset, .unset, .unset, .unset, .unset, .unset] [] X M 0 0 := by
  refine wp_aload_n d_GM_two_0 rfl rfl (g_nz hX.1) ?_
  refine wp_iconst d_GM_two_1 ?_
  refine xcV_Z (md' := true) (As := [gI 2]) (st := []) d_GM_two_2 ca_GM_spoilt ml_GM_335 im_GM_spoilt se_GM_spoilt gc_GM hX.1 (gm_o2 hX) hX.2.2.1 rfl (by decide) (by decide) rfl (fun _ => rfl) (fun _ => rfl) T (fun v2 M1 h3 T => ?_)
  refine xz_eq (tgt := 9) d_GM_two_5 (by decide) (w32_id (g32_z h3)) (fun h55 => ?_) (fun h55 => ?_)
  · have T := T.1 h55
    refine wp_aload_n d_GM_two_9 rfl rfl (g_nz hX.1) ?_
    refine xgetI d_GM_two_10 gc_GM f_GM_304.1 f_GM_304.2.1 f_GM_304.2.2.1 hX.1 (gm_o2 hX) hX.2.2.1 f_GM_304.2.2.2.2.1 (fun h4 => ?_)
    have T := T h4
    refine wp_iconst d_GM_two_13 ?_
    refine wp_isub d_GM_two_14 ?_
    refine wp_istore_n (L' := [.val (gR G o), .val (gI x1), .val (gI ((M1 o 50) - 2)), .unset, .unset, .unset, .unset, .unset, .unset]) d_GM_two_15 rfl (by decide) rfl ?_
    refine wp_aload_n d_GM_two_16 rfl rfl (g_nz hX.1) ?_
    refine xgetI d_GM_two_17 gc_GM f_GM_304.1 f_GM_304.2.1 f_GM_304.2.2.1 hX.1 (gm_o2 hX) hX.2.2.1 f_GM_304.2.2.2.2.1 (fun h5 => ?_)
    have T := T h5
    refine wp_iconst d_GM_two_20 ?_
    refine wp_isub d_GM_two_21 ?_
    refine wp_istore_n (L' := [.val (gR G o), .val (gI x1), .val (gI ((M1 o 50) - 2)), .val (gI ((M1 o 50) - 1)), .unset, .unset, .unset, .unset, .unset]) d_GM_two_22 rfl (by decide) rfl ?_
    refine wp_iload_n d_GM_two_23 rfl rfl ?_
    obtain ⟨T0, T1, T2, T3, T4, T5, T6, T7⟩ := T
    by_cases hc0 : x1 = 38
    · refine xlook (off := 68) (tgt := 92) d_GM_two_24 (w32_id hx1) rfl (by rw [hc0]; rfl) (by decide) ?_
      have T := T0 hc0
      refine wp_aload_n d_GM_two_92 rfl rfl (g_nz hX.1) ?_
      refine wp_iload_n d_GM_two_93 rfl rfl ?_
      refine xcV_V (md' := true) (As := [gI ((M1 o 50) - 2)]) (st := []) d_GM_two_94 ca_GM_asText ml_GM_338 im_GM_asText se_GM_asText gc_GM hX.1 (gm_o2 hX) hX.2.2.1 rfl (by decide) (by decide) rfl (fun _ => rfl) (fun _ => rfl) T (fun M6 T => ?_)
      refine wp_aload_n d_GM_two_97 rfl rfl (g_nz hX.1) ?_
      refine wp_iload_n d_GM_two_98 rfl rfl ?_
      refine xcV_V (md' := true) (As := [gI ((M1 o 50) - 1)]) (st := []) d_GM_two_99 ca_GM_asText ml_GM_338 im_GM_asText se_GM_asText gc_GM hX.1 (gm_o2 hX) hX.2.2.1 rfl (by decide) (by decide) rfl (fun _ => rfl) (fun _ => rfl) T (fun M7 T => ?_)
      refine wp_aload_n d_GM_two_102 rfl rfl (g_nz hX.1) ?_
      refine wp_iload_n d_GM_two_103 rfl rfl ?_
      refine wp_iload_n d_GM_two_104 rfl rfl ?_
      refine xcV_V (md' := true) (As := [gI ((M1 o 50) - 2), gI ((M1 o 50) - 1)]) (st := []) d_GM_two_105 ca_GM_join ml_GM_341 im_GM_join se_GM_join gc_GM hX.1 (gm_o2 hX) hX.2.2.1 rfl (by decide) (by decide) rfl (fun _ => rfl) (fun _ => rfl) T (fun M8 T => ?_)
      exact wp_return d_GM_two_108 rfl (fun _ => rfl) (Nat.zero_le _) (Nat.zero_le _) (kV_mk T)
    by_cases hc1 : x1 = 60
    · refine xlook (off := 127) (tgt := 151) d_GM_two_24 (w32_id hx1) rfl (by rw [hc1]; rfl) (by decide) ?_
      have T := T1 hc1
      refine wp_aload_n d_GM_two_151 rfl rfl (g_nz hX.1) ?_
      refine wp_iconst d_GM_two_152 ?_
      refine wp_iconst d_GM_two_153 ?_
      refine wp_aload_n d_GM_two_154 rfl rfl (g_nz hX.1) ?_
      refine wp_iload_n d_GM_two_155 rfl rfl ?_
      refine wp_iload_n d_GM_two_156 rfl rfl ?_
      refine xcV_I (md' := true) (As := [gI ((M1 o 50) - 2), gI ((M1 o 50) - 1)]) (st := [gI 3, gI 2, gR G o]) d_GM_two_157 ca_GM_compare ml_GM_344 im_GM_compare se_GM_compare gc_GM hX.1 (gm_o2 hX) hX.2.2.1 rfl (by decide) (by simp only [List.map, gR_cat, gI_cat, gL_cat, List.sum_cons, List.sum_nil]; decide) rfl (fun _ => rfl) (fun _ => rfl) T (fun v10 M9 h11 T => ?_)
      refine xz_ge (tgt := 167) d_GM_two_160 (by decide) (w32_id h11) (fun h12 => ?_) (fun h12 => ?_)
      · have T := T.1 h12
        refine wp_lconst0 d_GM_two_167 ?_
        exact wp_md (wpt T True.intro)
      · have T := T.2 h12
        refine wp_lconst1 d_GM_two_163 ?_
        refine wp_goto (tgt := 168) d_GM_two_164 (by decide) ?_
        exact wp_md (wpt T True.intro)
    by_cases hc2 : x1 = 61
    · refine xlook (off := 85) (tgt := 109) d_GM_two_24 (w32_id hx1) rfl (by rw [hc2]; rfl) (by decide) ?_
      have T := T2 hc2
      refine wp_aload_n d_GM_two_109 rfl rfl (g_nz hX.1) ?_
      refine wp_iconst d_GM_two_110 ?_
      refine wp_iconst d_GM_two_111 ?_
      refine wp_aload_n d_GM_two_112 rfl rfl (g_nz hX.1) ?_
      refine wp_iload_n d_GM_two_113 rfl rfl ?_
      refine wp_iload_n d_GM_two_114 rfl rfl ?_
      refine xcV_I (md' := true) (As := [gI ((M1 o 50) - 2), gI ((M1 o 50) - 1)]) (st := [gI 3, gI 2, gR G o]) d_GM_two_115 ca_GM_compare ml_GM_344 im_GM_compare se_GM_compare gc_GM hX.1 (gm_o2 hX) hX.2.2.1 rfl (by decide) (by simp only [List.map, gR_cat, gI_cat, gL_cat, List.sum_cons, List.sum_nil]; decide) rfl (fun _ => rfl) (fun _ => rfl) T (fun v14 M13 h15 T => ?_)
      refine xz_ne (tgt := 125) d_GM_two_118 (by decide) (w32_id h15) (fun h16 => ?_) (fun h16 => ?_)
      · have T := T.1 h16
        refine wp_lconst0 d_GM_two_125 ?_
        exact wp_md (wpt T True.intro)
      · have T := T.2 h16
        refine wp_lconst1 d_GM_two_121 ?_
        refine wp_goto (tgt := 126) d_GM_two_122 (by decide) ?_
        exact wp_md (wpt T True.intro)
    by_cases hc3 : x1 = 62
    · refine xlook (off := 169) (tgt := 193) d_GM_two_24 (w32_id hx1) rfl (by rw [hc3]; rfl) (by decide) ?_
      have T := T3 hc3
      refine wp_aload_n d_GM_two_193 rfl rfl (g_nz hX.1) ?_
      refine wp_iconst d_GM_two_194 ?_
      refine wp_iconst d_GM_two_195 ?_
      refine wp_aload_n d_GM_two_196 rfl rfl (g_nz hX.1) ?_
      refine wp_iload_n d_GM_two_197 rfl rfl ?_
      refine wp_iload_n d_GM_two_198 rfl rfl ?_
      refine xcV_I (md' := true) (As := [gI ((M1 o 50) - 2), gI ((M1 o 50) - 1)]) (st := [gI 3, gI 2, gR G o]) d_GM_two_199 ca_GM_compare ml_GM_344 im_GM_compare se_GM_compare gc_GM hX.1 (gm_o2 hX) hX.2.2.1 rfl (by decide) (by simp only [List.map, gR_cat, gI_cat, gL_cat, List.sum_cons, List.sum_nil]; decide) rfl (fun _ => rfl) (fun _ => rfl) T (fun v18 M17 h19 T => ?_)
      refine xz_le (tgt := 209) d_GM_two_202 (by decide) (w32_id h19) (fun h20 => ?_) (fun h20 => ?_)
      · have T := T.1 h20
        refine wp_lconst0 d_GM_two_209 ?_
        exact wp_md (wpt T True.intro)
      · have T := T.2 h20
        refine wp_lconst1 d_GM_two_205 ?_
        refine wp_goto (tgt := 210) d_GM_two_206 (by decide) ?_
        exact wp_md (wpt T True.intro)
    by_cases hc4 : x1 = 103
    · refine xlook (off := 190) (tgt := 214) d_GM_two_24 (w32_id hx1) rfl (by rw [hc4]; rfl) (by decide) ?_
      have T := T4 hc4
      refine wp_aload_n d_GM_two_214 rfl rfl (g_nz hX.1) ?_
      refine wp_iconst d_GM_two_215 ?_
      refine wp_iconst d_GM_two_216 ?_
      refine wp_aload_n d_GM_two_217 rfl rfl (g_nz hX.1) ?_
      refine wp_iload_n d_GM_two_218 rfl rfl ?_
      refine wp_iload_n d_GM_two_219 rfl rfl ?_
      refine xcV_I (md' := true) (As := [gI ((M1 o 50) - 2), gI ((M1 o 50) - 1)]) (st := [gI 3, gI 2, gR G o]) d_GM_two_220 ca_GM_compare ml_GM_344 im_GM_compare se_GM_compare gc_GM hX.1 (gm_o2 hX) hX.2.2.1 rfl (by decide) (by simp only [List.map, gR_cat, gI_cat, gL_cat, List.sum_cons, List.sum_nil]; decide) rfl (fun _ => rfl) (fun _ => rfl) T (fun v22 M21 h23 T => ?_)
      refine xz_lt (tgt := 230) d_GM_two_223 (by decide) (w32_id h23) (fun h24 => ?_) (fun h24 => ?_)
      · have T := T.1 h24
        refine wp_lconst0 d_GM_two_230 ?_
        exact wp_md (wpt T True.intro)
      · have T := T.2 h24
        refine wp_lconst1 d_GM_two_226 ?_
        refine wp_goto (tgt := 231) d_GM_two_227 (by decide) ?_
        exact wp_md (wpt T True.intro)
    by_cases hc5 : x1 = 108
    · refine xlook (off := 148) (tgt := 172) d_GM_two_24 (w32_id hx1) rfl (by rw [hc5]; rfl) (by decide) ?_
      have T := T5 hc5
      refine wp_aload_n d_GM_two_172 rfl rfl (g_nz hX.1) ?_
      refine wp_iconst d_GM_two_173 ?_
      refine wp_iconst d_GM_two_174 ?_
      refine wp_aload_n d_GM_two_175 rfl rfl (g_nz hX.1) ?_
      refine wp_iload_n d_GM_two_176 rfl rfl ?_
      refine wp_iload_n d_GM_two_177 rfl rfl ?_
      refine xcV_I (md' := true) (As := [gI ((M1 o 50) - 2), gI ((M1 o 50) - 1)]) (st := [gI 3, gI 2, gR G o]) d_GM_two_178 ca_GM_compare ml_GM_344 im_GM_compare se_GM_compare gc_GM hX.1 (gm_o2 hX) hX.2.2.1 rfl (by decide) (by simp only [List.map, gR_cat, gI_cat, gL_cat, List.sum_cons, List.sum_nil]; decide) rfl (fun _ => rfl) (fun _ => rfl) T (fun v26 M25 h27 T => ?_)
      refine xz_gt (tgt := 188) d_GM_two_181 (by decide) (w32_id h27) (fun h28 => ?_) (fun h28 => ?_)
      · have T := T.1 h28
        refine wp_lconst0 d_GM_two_188 ?_
        exact wp_md (wpt T True.intro)
      · have T := T.2 h28
        refine wp_lconst1 d_GM_two_184 ?_
        refine wp_goto (tgt := 189) d_GM_two_185 (by decide) ?_
        exact wp_md (wpt T True.intro)
    by_cases hc6 : x1 = 110
    · refine xlook (off := 106) (tgt := 130) d_GM_two_24 (w32_id hx1) rfl (by rw [hc6]; rfl) (by decide) ?_
      have T := T6 hc6
      refine wp_aload_n d_GM_two_130 rfl rfl (g_nz hX.1) ?_
      refine wp_iconst d_GM_two_131 ?_
      refine wp_iconst d_GM_two_132 ?_
      refine wp_aload_n d_GM_two_133 rfl rfl (g_nz hX.1) ?_
      refine wp_iload_n d_GM_two_134 rfl rfl ?_
      refine wp_iload_n d_GM_two_135 rfl rfl ?_
      refine xcV_I (md' := true) (As := [gI ((M1 o 50) - 2), gI ((M1 o 50) - 1)]) (st := [gI 3, gI 2, gR G o]) d_GM_two_136 ca_GM_compare ml_GM_344 im_GM_compare se_GM_compare gc_GM hX.1 (gm_o2 hX) hX.2.2.1 rfl (by decide) (by simp only [List.map, gR_cat, gI_cat, gL_cat, List.sum_cons, List.sum_nil]; decide) rfl (fun _ => rfl) (fun _ => rfl) T (fun v30 M29 h31 T => ?_)
      refine xz_eq (tgt := 146) d_GM_two_139 (by decide) (w32_id h31) (fun h32 => ?_) (fun h32 => ?_)
      · have T := T.1 h32
        refine wp_lconst0 d_GM_two_146 ?_
        exact wp_md (wpt T True.intro)
      · have T := T.2 h32
        refine wp_lconst1 d_GM_two_142 ?_
        refine wp_goto (tgt := 147) d_GM_two_143 (by decide) ?_
        exact wp_md (wpt T True.intro)
    refine xlook (off := 211) (tgt := 235) d_GM_two_24 (w32_id hx1) rfl (show Op.lookupswitch.offset [(38, 68), (60, 127), (61, 85), (62, 169), (103, 190), (108, 148), (110, 106)] 211 x1 = 211 by simp only [Op.lookupswitch.offset, if_neg (Ne.symm hc0), if_neg (Ne.symm hc1), if_neg (Ne.symm hc2), if_neg (Ne.symm hc3), if_neg (Ne.symm hc4), if_neg (Ne.symm hc5), if_neg (Ne.symm hc6)]) (by decide) ?_
    have T := T7 ⟨hc0, hc1, hc2, hc3, hc4, hc5, hc6⟩
    refine wp_aload_n d_GM_two_235 rfl rfl (g_nz hX.1) ?_
    refine wp_iload_n d_GM_two_236 rfl rfl ?_
    refine xcV_Z (md' := true) (As := [gI ((M1 o 50) - 2)]) (st := []) d_GM_two_237 ca_GM_asNumber ml_GM_351 im_GM_asNumber se_GM_asNumber gc_GM hX.1 (gm_o2 hX) hX.2.2.1 rfl (by decide) (by decide) rfl (fun _ => rfl) (fun _ => rfl) T (fun v34 M33 h35 T => ?_)
    refine xz_eq (tgt := 251) d_GM_two_240 (by decide) (w32_id (g32_z h35)) (fun h54 => ?_) (fun h54 => ?_)
    · have T := T.1 h54
      exact wp_md (wpt T (And.intro rfl True.intro))
    · have T := T.2 h54
      refine wp_aload_n d_GM_two_243 rfl rfl (g_nz hX.1) ?_
      refine wp_iload_n d_GM_two_244 rfl rfl ?_
      refine xcV_Z (md' := true) (As := [gI ((M1 o 50) - 1)]) (st := []) d_GM_two_245 ca_GM_asNumber ml_GM_351 im_GM_asNumber se_GM_asNumber gc_GM hX.1 (gm_o2 hX) hX.2.2.1 rfl (by decide) (by decide) rfl (fun _ => rfl) (fun _ => rfl) T (fun v37 M36 h38 T => ?_)
      refine xz_ne (tgt := 261) d_GM_two_248 (by decide) (w32_id (g32_z h38)) (fun h53 => ?_) (fun h53 => ?_)
      · have T := T.1 h53
        refine wp_aload_n d_GM_two_261 rfl rfl (g_nz hX.1) ?_
        refine xgetR d_GM_two_262 gc_GM f_GM_122.1 f_GM_122.2.1 f_GM_122.2.2.1 hX.1 (gm_o2 hX) hX.2.2.1 f_GM_122.2.2.2.2.1 (gm_row hX 35 rfl).1 ?_
        refine wp_iload_n d_GM_two_265 rfl rfl ?_
        refine wp_laload d_GM_two_266 (gm_row hX 35 rfl).2.2.1 (gm_row hX 35 rfl).2.2.2 (gm_row hX 35 rfl).2.1 (g32_n T.1 (by decide)) T.1.1 T.1.2 (fun h39 => ?_)
        have T := T.2 h39
        refine wp_lstore (L' := [.val (gR G o), .val (gI x1), .val (gI ((M1 o 50) - 2)), .val (gI ((M1 o 50) - 1)), .val (gL (M36 (o + 36) (Int.toNat ((M1 o 50) - 2)))), .unset, .unset, .unset, .unset]) d_GM_two_267 (by decide) rfl ?_
        refine wp_aload_n d_GM_two_269 rfl rfl (g_nz hX.1) ?_
        refine xgetR d_GM_two_270 gc_GM f_GM_122.1 f_GM_122.2.1 f_GM_122.2.2.1 hX.1 (gm_o2 hX) hX.2.2.1 f_GM_122.2.2.2.2.1 (gm_row hX 35 rfl).1 ?_
        refine wp_iload_n d_GM_two_273 rfl rfl ?_
        refine wp_laload d_GM_two_274 (gm_row hX 35 rfl).2.2.1 (gm_row hX 35 rfl).2.2.2 (gm_row hX 35 rfl).2.1 (g32_n T.1 (by decide)) T.1.1 T.1.2 (fun h40 => ?_)
        have T := T.2 h40
        refine wp_lstore (L' := [.val (gR G o), .val (gI x1), .val (gI ((M1 o 50) - 2)), .val (gI ((M1 o 50) - 1)), .val (gL (M36 (o + 36) (Int.toNat ((M1 o 50) - 2)))), .unset, .val (gL (M36 (o + 36) (Int.toNat ((M1 o 50) - 1)))), .unset, .unset]) d_GM_two_275 (by decide) rfl ?_
        refine wp_iload_n d_GM_two_277 rfl rfl ?_
        refine wp_bipush d_GM_two_278 ⟨by decide, by decide⟩ ?_
        refine xi_ne (tgt := 294) d_GM_two_280 (by decide) (w32_id hx1) (w32_id (g32_c (x := 47) rfl)) (fun h52 => ?_) (fun h52 => ?_)
        · have T := T.1 h52
          refine wp_iload_n d_GM_two_294 rfl rfl ?_
          refine wp_bipush d_GM_two_295 ⟨by decide, by decide⟩ ?_
          refine xi_ne (tgt := 359) d_GM_two_297 (by decide) (w32_id hx1) (w32_id (g32_c (x := 94) rfl)) (fun h50 => ?_) (fun h50 => ?_)
          · have T := T.1 h50
            refine wp_aload_n d_GM_two_359 rfl rfl (g_nz hX.1) ?_
            refine wp_iload_n d_GM_two_360 rfl rfl ?_
            refine wp_lload d_GM_two_361 rfl ?_
            refine wp_lload d_GM_two_363 rfl ?_
            refine xcV_Z (md' := true) (As := [gI x1, gL (M36 (o + 36) (Int.toNat ((M1 o 50) - 2))), gL (M36 (o + 36) (Int.toNat ((M1 o 50) - 1)))]) (st := []) d_GM_two_365 ca_GM_reckon ml_GM_331 im_GM_reckon se_GM_reckon gc_GM hX.1 (gm_o2 hX) hX.2.2.1 rfl (by decide) (by decide) rfl (fun _ => rfl) (fun _ => rfl) T (fun v42 M41 h43 T => ?_)
            refine wp_istore (L' := [.val (gR G o), .val (gI x1), .val (gI ((M1 o 50) - 2)), .val (gI ((M1 o 50) - 1)), .val (gL (M36 (o + 36) (Int.toNat ((M1 o 50) - 2)))), .unset, .val (gL (M36 (o + 36) (Int.toNat ((M1 o 50) - 1)))), .unset, .val (gI v42)]) d_GM_two_368 (by decide) rfl ?_
            refine wp_aload_n d_GM_two_370 rfl rfl (g_nz hX.1) ?_
            refine wp_iconst d_GM_two_371 ?_
            refine wp_iload d_GM_two_372 rfl ?_
            refine xz_eq (tgt := 381) d_GM_two_374 (by decide) (w32_id (g32_z h43)) (fun h44 => ?_) (fun h44 => ?_)
            · have T := T.1 h44
              refine wp_iconst d_GM_two_381 ?_
              exact wp_md (wpt T (And.intro rfl (And.intro rfl True.intro)))
            · have T := T.2 h44
              refine wp_iconst d_GM_two_377 ?_
              refine wp_goto (tgt := 382) d_GM_two_378 (by decide) ?_
              exact wp_md (wpt T (And.intro rfl (And.intro rfl True.intro)))
          · have T := T.2 h50
            refine wp_aload_n d_GM_two_300 rfl rfl (g_nz hX.1) ?_
            refine wp_iconst d_GM_two_301 ?_
            refine wp_lload d_GM_two_302 rfl ?_
            refine wp_lconst0 d_GM_two_304 ?_
            refine xl_lt (tgt := 320) d_GM_two_305 d_GM_two_306 (by decide) (w64_id h40) (w64_id (g64_c (x := 0) rfl)) (fun h49 => ?_) (fun h49 => ?_)
            · have T := T.1 h49
              exact wp_md (wpt T (And.intro rfl (And.intro rfl (And.intro rfl True.intro))))
            · have T := T.2 h49
              refine wp_aload_n d_GM_two_309 rfl rfl (g_nz hX.1) ?_
              refine wp_lload d_GM_two_310 rfl ?_
              refine wp_lload d_GM_two_312 rfl ?_
              refine xcV_Z (md' := true) (As := [gL (M36 (o + 36) (Int.toNat ((M1 o 50) - 2))), gL (M36 (o + 36) (Int.toNat ((M1 o 50) - 1)))]) (st := [gI 2, gR G o]) d_GM_two_314 ca_GM_power ml_GM_360 im_GM_power se_GM_power gc_GM hX.1 (gm_o2 hX) hX.2.2.1 rfl (by decide) (by simp only [List.map, gR_cat, gI_cat, gL_cat, List.sum_cons, List.sum_nil]; decide) rfl (fun _ => rfl) (fun _ => rfl) T (fun v46 M45 h47 T => ?_)
              refine xz_ne (tgt := 324) d_GM_two_317 (by decide) (w32_id (g32_z h47)) (fun h48 => ?_) (fun h48 => ?_)
              · have T := T.1 h48
                refine wp_iconst d_GM_two_324 ?_
                exact wp_md (wpt T (And.intro rfl (And.intro rfl (And.intro rfl True.intro))))
              · have T := T.2 h48
                exact wp_md (wpt T (And.intro rfl (And.intro rfl (And.intro rfl True.intro))))
        · have T := T.2 h52
          refine wp_aload_n d_GM_two_283 rfl rfl (g_nz hX.1) ?_
          refine wp_lload d_GM_two_284 rfl ?_
          refine wp_lload d_GM_two_286 rfl ?_
          refine xcV_V (md' := true) (As := [gL (M36 (o + 36) (Int.toNat ((M1 o 50) - 2))), gL (M36 (o + 36) (Int.toNat ((M1 o 50) - 1)))]) (st := []) d_GM_two_288 ca_GM_divide ml_GM_356 im_GM_divide se_GM_divide gc_GM hX.1 (gm_o2 hX) hX.2.2.1 rfl (by decide) (by decide) rfl (fun _ => rfl) (fun _ => rfl) T (fun M51 T => ?_)
          refine wp_goto (tgt := 400) d_GM_two_291 (by decide) ?_
          exact wp_md (wpt T True.intro)
      · have T := T.2 h53
        exact wp_md (wpt T (And.intro rfl True.intro))
  · have T := T.2 h55
    exact wp_return d_GM_two_8 rfl (fun _ => rfl) (Nat.zero_le _) (Nat.zero_le _) (kV_mk T)
set_option maxHeartbeats 4000000 in
theorem w_GM_two_168 {l : Launch} {G : gG} {d : Nat} {X : gX} {M : gM} {k : gM → Prop} {o : Nat} (hX : gmX X o) {s0 : Int} (hs0 : g64 s0) {s1 : Int} (hs1 : g32 s1) {s2 : Int} (hs2 : g32 s2) (T : cV l G y_GM_become (gRm d) true [gR G o, gI s2, gI s1, gL s0] X M (fun M56 => (k M56))) : wp l G y_GM_two (gRm (d + 1)) true (kkV X k) true 168 [.unset, .unset, .unset, .unset, .unset, .unset, .unset, .unset, .unset] [gL s0, gI s1, gI s2, gR G o] X M 0 0 := by
  refine xcV_V (md' := true) (As := [gI s2, gI s1, gL s0]) (st := []) d_GM_two_168 ca_GM_become ml_GM_347 im_GM_become se_GM_become gc_GM hX.1 (gm_o2 hX) hX.2.2.1 rfl (by decide) (by decide) rfl (fun _ => rfl) (fun _ => rfl) T (fun M56 T => ?_)
  exact wp_return d_GM_two_171 rfl (fun _ => rfl) (Nat.zero_le _) (Nat.zero_le _) (kV_mk T)
set_option maxHeartbeats 4000000 in
theorem w_GM_two_126 {l : Launch} {G : gG} {d : Nat} {X : gX} {M : gM} {k : gM → Prop} {o : Nat} (hX : gmX X o) {s0 : Int} (hs0 : g64 s0) {s1 : Int} (hs1 : g32 s1) {s2 : Int} (hs2 : g32 s2) (T : cV l G y_GM_become (gRm d) true [gR G o, gI s2, gI s1, gL s0] X M (fun M57 => (k M57))) : wp l G y_GM_two (gRm (d + 1)) true (kkV X k) true 126 [.unset, .unset, .unset, .unset, .unset, .unset, .unset, .unset, .unset] [gL s0, gI s1, gI s2, gR G o] X M 0 0 := by
  refine xcV_V (md' := true) (As := [gI s2, gI s1, gL s0]) (st := []) d_GM_two_126 ca_GM_become ml_GM_347 im_GM_become se_GM_become gc_GM hX.1 (gm_o2 hX) hX.2.2.1 rfl (by decide) (by decide) rfl (fun _ => rfl) (fun _ => rfl) T (fun M57 T => ?_)
  exact wp_return d_GM_two_129 rfl (fun _ => rfl) (Nat.zero_le _) (Nat.zero_le _) (kV_mk T)
set_option maxHeartbeats 4000000 in
theorem w_GM_two_210 {l : Launch} {G : gG} {d : Nat} {X : gX} {M : gM} {k : gM → Prop} {o : Nat} (hX : gmX X o) {s0 : Int} (hs0 : g64 s0) {s1 : Int} (hs1 : g32 s1) {s2 : Int} (hs2 : g32 s2) (T : cV l G y_GM_become (gRm d) true [gR G o, gI s2, gI s1, gL s0] X M (fun M58 => (k M58))) : wp l G y_GM_two (gRm (d + 1)) true (kkV X k) true 210 [.unset, .unset, .unset, .unset, .unset, .unset, .unset, .unset, .unset] [gL s0, gI s1, gI s2, gR G o] X M 0 0 := by
  refine xcV_V (md' := true) (As := [gI s2, gI s1, gL s0]) (st := []) d_GM_two_210 ca_GM_become ml_GM_347 im_GM_become se_GM_become gc_GM hX.1 (gm_o2 hX) hX.2.2.1 rfl (by decide) (by decide) rfl (fun _ => rfl) (fun _ => rfl) T (fun M58 T => ?_)
  exact wp_return d_GM_two_213 rfl (fun _ => rfl) (Nat.zero_le _) (Nat.zero_le _) (kV_mk T)
set_option maxHeartbeats 4000000 in
theorem w_GM_two_231 {l : Launch} {G : gG} {d : Nat} {X : gX} {M : gM} {k : gM → Prop} {o : Nat} (hX : gmX X o) {s0 : Int} (hs0 : g64 s0) {s1 : Int} (hs1 : g32 s1) {s2 : Int} (hs2 : g32 s2) (T : cV l G y_GM_become (gRm d) true [gR G o, gI s2, gI s1, gL s0] X M (fun M59 => (k M59))) : wp l G y_GM_two (gRm (d + 1)) true (kkV X k) true 231 [.unset, .unset, .unset, .unset, .unset, .unset, .unset, .unset, .unset] [gL s0, gI s1, gI s2, gR G o] X M 0 0 := by
  refine xcV_V (md' := true) (As := [gI s2, gI s1, gL s0]) (st := []) d_GM_two_231 ca_GM_become ml_GM_347 im_GM_become se_GM_become gc_GM hX.1 (gm_o2 hX) hX.2.2.1 rfl (by decide) (by decide) rfl (fun _ => rfl) (fun _ => rfl) T (fun M59 T => ?_)
  exact wp_return d_GM_two_234 rfl (fun _ => rfl) (Nat.zero_le _) (Nat.zero_le _) (kV_mk T)
set_option maxHeartbeats 4000000 in
theorem w_GM_two_189 {l : Launch} {G : gG} {d : Nat} {X : gX} {M : gM} {k : gM → Prop} {o : Nat} (hX : gmX X o) {s0 : Int} (hs0 : g64 s0) {s1 : Int} (hs1 : g32 s1) {s2 : Int} (hs2 : g32 s2) (T : cV l G y_GM_become (gRm d) true [gR G o, gI s2, gI s1, gL s0] X M (fun M60 => (k M60))) : wp l G y_GM_two (gRm (d + 1)) true (kkV X k) true 189 [.unset, .unset, .unset, .unset, .unset, .unset, .unset, .unset, .unset] [gL s0, gI s1, gI s2, gR G o] X M 0 0 := by
  refine xcV_V (md' := true) (As := [gI s2, gI s1, gL s0]) (st := []) d_GM_two_189 ca_GM_become ml_GM_347 im_GM_become se_GM_become gc_GM hX.1 (gm_o2 hX) hX.2.2.1 rfl (by decide) (by decide) rfl (fun _ => rfl) (fun _ => rfl) T (fun M60 T => ?_)
  exact wp_return d_GM_two_192 rfl (fun _ => rfl) (Nat.zero_le _) (Nat.zero_le _) (kV_mk T)
set_option maxHeartbeats 4000000 in
theorem w_GM_two_147 {l : Launch} {G : gG} {d : Nat} {X : gX} {M : gM} {k : gM → Prop} {o : Nat} (hX : gmX X o) {s0 : Int} (hs0 : g64 s0) {s1 : Int} (hs1 : g32 s1) {s2 : Int} (hs2 : g32 s2) (T : cV l G y_GM_become (gRm d) true [gR G o, gI s2, gI s1, gL s0] X M (fun M61 => (k M61))) : wp l G y_GM_two (gRm (d + 1)) true (kkV X k) true 147 [.unset, .unset, .unset, .unset, .unset, .unset, .unset, .unset, .unset] [gL s0, gI s1, gI s2, gR G o] X M 0 0 := by
  refine xcV_V (md' := true) (As := [gI s2, gI s1, gL s0]) (st := []) d_GM_two_147 ca_GM_become ml_GM_347 im_GM_become se_GM_become gc_GM hX.1 (gm_o2 hX) hX.2.2.1 rfl (by decide) (by decide) rfl (fun _ => rfl) (fun _ => rfl) T (fun M61 T => ?_)
  exact wp_return d_GM_two_150 rfl (fun _ => rfl) (Nat.zero_le _) (Nat.zero_le _) (kV_mk T)
set_option maxHeartbeats 4000000 in
theorem w_GM_two_251 {l : Launch} {G : gG} {d : Nat} {X : gX} {M : gM} {k : gM → Prop} {o : Nat} (hX : gmX X o)  (T : cV l G y_GM_become (gRm d) true [gR G o, gI 2, gI 4, gL 4] X M (fun M62 => (k M62))) : wp l G y_GM_two (gRm (d + 1)) true (kkV X k) true 251 [.val (gR G o), .unset, .unset, .unset, .unset, .unset, .unset, .unset, .unset] [] X M 0 0 := by
  refine wp_aload_n d_GM_two_251 rfl rfl (g_nz hX.1) ?_
  refine wp_iconst d_GM_two_252 ?_
  refine wp_iconst d_GM_two_253 ?_
  refine wp_ldc2 (n := 4) d_GM_two_254 c_GM_354 rfl ?_
  refine xcV_V (md' := true) (As := [gI 2, gI 4, gL 4]) (st := []) d_GM_two_257 ca_GM_become ml_GM_347 im_GM_become se_GM_become gc_GM hX.1 (gm_o2 hX) hX.2.2.1 rfl (by decide) (by decide) rfl (fun _ => rfl) (fun _ => rfl) T (fun M62 T => ?_)
  exact wp_return d_GM_two_260 rfl (fun _ => rfl) (Nat.zero_le _) (Nat.zero_le _) (kV_mk T)
set_option maxHeartbeats 4000000 in
theorem w_GM_two_382 {l : Launch} {G : gG} {d : Nat} {X : gX} {M : gM} {k : gM → Prop} {o : Nat} (hX : gmX X o) {x8 : Int} (hx8 : g32 x8) {s0 : Int} (hs0 : g32 s0) {s1 : Int} (hs1 : g32 s1) (T : (x8 = 0 → (wp l G y_GM_two (gRm (d + 1)) true (kkV X k) true 397 [.unset, .unset, .unset, .unset, .unset, .unset, .unset, .unset, .unset] [gL 6, gI s0, gI s1, gR G o] X M 0 0)) ∧ (¬ x8 = 0 → (g64 (M o 54) → (wp l G y_GM_two (gRm (d + 1)) true (kkV X k) true 397 [.unset, .unset, .unset, .unset, .unset, .unset, .unset, .unset, .unset] [gL (M o 54), gI s0, gI s1, gR G o] X M 0 0)))) : wp l G y_GM_two (gRm (d + 1)) true (kkV X k) true 382 [.val (gR G o), .unset, .unset, .unset, .unset, .unset, .unset, .unset, .val (gI x8)] [gI s0, gI s1, gR G o] X M 0 0 := by
  refine wp_iload d_GM_two_382 rfl ?_
  refine xz_eq (tgt := 394) d_GM_two_384 (by decide) (w32_id hx8) (fun h64 => ?_) (fun h64 => ?_)
  · have T := T.1 h64
    refine wp_ldc2 (n := 6) d_GM_two_394 c_GM_364 rfl ?_
    exact wp_md (wpt T True.intro)
  · have T := T.2 h64
    refine wp_aload_n d_GM_two_387 rfl rfl (g_nz hX.1) ?_
    refine xgetJ d_GM_two_388 gc_GM f_GM_324.1 f_GM_324.2.1 f_GM_324.2.2.1 hX.1 (gm_o2 hX) hX.2.2.1 f_GM_324.2.2.2.2.1 (fun h63 => ?_)
    have T := T h63
    refine wp_goto (tgt := 397) d_GM_two_391 (by decide) ?_
    exact wp_md (wpt T True.intro)
set_option maxHeartbeats 4000000 in
theorem w_GM_two_320 {l : Launch} {G : gG} {d : Nat} {X : gX} {M : gM} {k : gM → Prop} {o : Nat} (hX : gmX X o) {x4 : Int} (hx4 : g64 x4) {x6 : Int} (hx6 : g64 x6) {s0 : Int} (hs0 : g32 s0) (T : wp l G y_GM_two (gRm (d + 1)) true (kkV X k) true 325 [.val (gR G o), .unset, .unset, .unset, .val (gL x4), .unset, .val (gL x6), .unset, .unset] [gI 4, gI s0, gR G o] X M 0 0) : wp l G y_GM_two (gRm (d + 1)) true (kkV X k) true 320 [.val (gR G o), .unset, .unset, .unset, .val (gL x4), .unset, .val (gL x6), .unset, .unset] [gI s0, gR G o] X M 0 0 := by
  refine wp_iconst d_GM_two_320 ?_
  refine wp_goto (tgt := 325) d_GM_two_321 (by decide) ?_
  exact wp_md (wpt T (And.intro rfl (And.intro rfl (And.intro rfl True.intro))))
set_option maxHeartbeats 4000000 in
theorem w_GM_two_325 {l : Launch} {G : gG} {d : Nat} {X : gX} {M : gM} {k : gM → Prop} {o : Nat} (hX : gmX X o) {x4 : Int} (hx4 : g64 x4) {x6 : Int} (hx6 : g64 x6) {s0 : Int} (hs0 : g32 s0) {s1 : Int} (hs1 : g32 s1) (T : (x6 < 0 → (wp l G y_GM_two (gRm (d + 1)) true (kkV X k) true 343 [.unset, .unset, .unset, .unset, .unset, .unset, .unset, .unset, .unset] [gI s0, gI s1, gR G o] X M 0 0)) ∧ (¬ x6 < 0 → (cZ l G y_GM_power (gRm d) true [gR G o, gL x4, gL x6] X M (fun v66 M65 => ((¬ v66 = 0 → (g64 (M65 o 54) → (wp l G y_GM_two (gRm (d + 1)) true (kkV X k) true 353 [.unset, .unset, .unset, .unset, .unset, .unset, .unset, .unset, .unset] [gL (M65 o 54), gI s0, gI s1, gR G o] X M65 0 0))) ∧ (v66 = 0 → (wp l G y_GM_two (gRm (d + 1)) true (kkV X k) true 343 [.unset, .unset, .unset, .unset, .unset, .unset, .unset, .unset, .unset] [gI s0, gI s1, gR G o] X M65 0 0))))))) : wp l G y_GM_two (gRm (d + 1)) true (kkV X k) true 325 [.val (gR G o), .unset, .unset, .unset, .val (gL x4), .unset, .val (gL x6), .unset, .unset] [gI s0, gI s1, gR G o] X M 0 0 := by
  refine wp_lload d_GM_two_325 rfl ?_
  refine wp_lconst0 d_GM_two_327 ?_
  refine xl_lt (tgt := 343) d_GM_two_328 d_GM_two_329 (by decide) (w64_id hx6) (w64_id (g64_c (x := 0) rfl)) (fun h70 => ?_) (fun h70 => ?_)
  · have T := T.1 h70
    exact wp_md (wpt T True.intro)
  · have T := T.2 h70
    refine wp_aload_n d_GM_two_332 rfl rfl (g_nz hX.1) ?_
    refine wp_lload d_GM_two_333 rfl ?_
    refine wp_lload d_GM_two_335 rfl ?_
    refine xcV_Z (md' := true) (As := [gL x4, gL x6]) (st := [gI s0, gI s1, gR G o]) d_GM_two_337 ca_GM_power ml_GM_360 im_GM_power se_GM_power gc_GM hX.1 (gm_o2 hX) hX.2.2.1 rfl (by decide) (by simp only [List.map, gR_cat, gI_cat, gL_cat, List.sum_cons, List.sum_nil]; decide) rfl (fun _ => rfl) (fun _ => rfl) T (fun v66 M65 h67 T => ?_)
    refine xz_ne (tgt := 349) d_GM_two_340 (by decide) (w32_id (g32_z h67)) (fun h69 => ?_) (fun h69 => ?_)
    · have T := T.1 h69
      refine wp_aload_n d_GM_two_349 rfl rfl (g_nz hX.1) ?_
      refine xgetJ d_GM_two_350 gc_GM f_GM_324.1 f_GM_324.2.1 f_GM_324.2.2.1 hX.1 (gm_o2 hX) hX.2.2.1 f_GM_324.2.2.2.2.1 (fun h68 => ?_)
      have T := T h68
      exact wp_md (wpt T True.intro)
    · have T := T.2 h69
      exact wp_md (wpt T True.intro)
set_option maxHeartbeats 4000000 in
theorem w_GM_two_400 {l : Launch} {G : gG} {d : Nat} {X : gX} {M : gM} {k : gM → Prop} {o : Nat} (hX : gmX X o)  (T : k M) : wp l G y_GM_two (gRm (d + 1)) true (kkV X k) true 400 [.unset, .unset, .unset, .unset, .unset, .unset, .unset, .unset, .unset] [] X M 0 0 := by
  exact wp_return d_GM_two_400 rfl (fun _ => rfl) (Nat.zero_le _) (Nat.zero_le _) (kV_mk T)
set_option maxHeartbeats 4000000 in
theorem w_GM_two_397 {l : Launch} {G : gG} {d : Nat} {X : gX} {M : gM} {k : gM → Prop} {o : Nat} (hX : gmX X o) {s0 : Int} (hs0 : g64 s0) {s1 : Int} (hs1 : g32 s1) {s2 : Int} (hs2 : g32 s2) (T : cV l G y_GM_become (gRm d) true [gR G o, gI s2, gI s1, gL s0] X M (fun M71 => (wp l G y_GM_two (gRm (d + 1)) true (kkV X k) true 400 [.unset, .unset, .unset, .unset, .unset, .unset, .unset, .unset, .unset] [] X M71 0 0))) : wp l G y_GM_two (gRm (d + 1)) true (kkV X k) true 397 [.unset, .unset, .unset, .unset, .unset, .unset, .unset, .unset, .unset] [gL s0, gI s1, gI s2, gR G o] X M 0 0 := by
  refine xcV_V (md' := true) (As := [gI s2, gI s1, gL s0]) (st := []) d_GM_two_397 ca_GM_become ml_GM_347 im_GM_become se_GM_become gc_GM hX.1 (gm_o2 hX) hX.2.2.1 rfl (by decide) (by decide) rfl (fun _ => rfl) (fun _ => rfl) T (fun M71 T => ?_)
  exact wp_md (wpt T True.intro)
set_option maxHeartbeats 4000000 in
theorem w_GM_two_343 {l : Launch} {G : gG} {d : Nat} {X : gX} {M : gM} {k : gM → Prop} {o : Nat} (hX : gmX X o) {s0 : Int} (hs0 : g32 s0) {s1 : Int} (hs1 : g32 s1) (T : wp l G y_GM_two (gRm (d + 1)) true (kkV X k) true 353 [.unset, .unset, .unset, .unset, .unset, .unset, .unset, .unset, .unset] [gL 6, gI s0, gI s1, gR G o] X M 0 0) : wp l G y_GM_two (gRm (d + 1)) true (kkV X k) true 343 [.unset, .unset, .unset, .unset, .unset, .unset, .unset, .unset, .unset] [gI s0, gI s1, gR G o] X M 0 0 := by
  refine wp_ldc2 (n := 6) d_GM_two_343 c_GM_364 rfl ?_
  refine wp_goto (tgt := 353) d_GM_two_346 (by decide) ?_
  exact wp_md (wpt T True.intro)
set_option maxHeartbeats 4000000 in
theorem w_GM_two_353 {l : Launch} {G : gG} {d : Nat} {X : gX} {M : gM} {k : gM → Prop} {o : Nat} (hX : gmX X o) {s0 : Int} (hs0 : g64 s0) {s1 : Int} (hs1 : g32 s1) {s2 : Int} (hs2 : g32 s2) (T : cV l G y_GM_become (gRm d) true [gR G o, gI s2, gI s1, gL s0] X M (fun M72 => (wp l G y_GM_two (gRm (d + 1)) true (kkV X k) true 400 [.unset, .unset, .unset, .unset, .unset, .unset, .unset, .unset, .unset] [] X M72 0 0))) : wp l G y_GM_two (gRm (d + 1)) true (kkV X k) true 353 [.unset, .unset, .unset, .unset, .unset, .unset, .unset, .unset, .unset] [gL s0, gI s1, gI s2, gR G o] X M 0 0 := by
  refine xcV_V (md' := true) (As := [gI s2, gI s1, gL s0]) (st := []) d_GM_two_353 ca_GM_become ml_GM_347 im_GM_become se_GM_become gc_GM hX.1 (gm_o2 hX) hX.2.2.1 rfl (by decide) (by decide) rfl (fun _ => rfl) (fun _ => rfl) T (fun M72 T => ?_)
  refine wp_goto (tgt := 400) d_GM_two_356 (by decide) ?_
  exact wp_md (wpt T True.intro)
theorem e_GM_two {l : Launch} {G : gG} {d : Nat} {X : gX} {M : gM} {k : gM → Prop} {o : Nat} {x1 : Int} (T : wp l G y_GM_two (gRm (d + 1)) true (kkV X k) false 0 [.val (gR G o), .val (gI x1), .unset, .unset, .unset, .unset, .unset, .unset, .unset] [] X M 0 0) : cV l G y_GM_two (gRm (d + 1)) true [gR G o, gI x1] X M k := cen_V (plainFor_of_name rfl) (by simp only [lg_sl_R, lg_sl_I, lg_sl_L, lg_sl_N, List.length_cons, List.length_nil]; decide) (by unfold gEn; simp only [lg_sl_R, lg_sl_I, lg_sl_L, lg_sl_N]; exact wpt T (And.intro rfl (And.intro rfl True.intro)))
theorem d_GM_divide_0 : decode prog_15_method_51_code 0 = .ok (.lload_n 3, 1) := by decide +kernel
theorem d_GM_divide_1 : decode prog_15_method_51_code 1 = .ok (.lconst 0, 1) := by decide +kernel
theorem d_GM_divide_2 : decode prog_15_method_51_code 2 = .ok (.lcmp, 1) := by decide +kernel
theorem d_GM_divide_3 : decode prog_15_method_51_code 3 = .ok (.ifCond .ne 15, 3) := by decide +kernel
theorem d_GM_divide_18 : decode prog_15_method_51_code 18 = .ok (.lload_n 1, 1) := by decide +kernel
theorem d_GM_divide_19 : decode prog_15_method_51_code 19 = .ok (.ldc2_w 170, 3) := by decide +kernel
theorem d_GM_divide_22 : decode prog_15_method_51_code 22 = .ok (.lcmp, 1) := by decide +kernel
theorem d_GM_divide_23 : decode prog_15_method_51_code 23 = .ok (.ifCond .ne 23, 3) := by decide +kernel
theorem d_GM_divide_46 : decode prog_15_method_51_code 46 = .ok (.aload_n 0, 1) := by decide +kernel
theorem d_GM_divide_47 : decode prog_15_method_51_code 47 = .ok (.iconst 2, 1) := by decide +kernel
theorem d_GM_divide_48 : decode prog_15_method_51_code 48 = .ok (.iconst 1, 1) := by decide +kernel
theorem d_GM_divide_49 : decode prog_15_method_51_code 49 = .ok (.lload_n 1, 1) := by decide +kernel
theorem d_GM_divide_50 : decode prog_15_method_51_code 50 = .ok (.lload_n 3, 1) := by decide +kernel
theorem d_GM_divide_51 : decode prog_15_method_51_code 51 = .ok (.ldiv, 1) := by decide +kernel
theorem d_GM_divide_52 : decode prog_15_method_51_code 52 = .ok (.invokevirtual 347, 3) := by decide +kernel
theorem d_GM_divide_55 : decode prog_15_method_51_code 55 = .ok (.return_, 1) := by decide +kernel
theorem d_GM_divide_26 : decode prog_15_method_51_code 26 = .ok (.lload_n 3, 1) := by decide +kernel
theorem d_GM_divide_27 : decode prog_15_method_51_code 27 = .ok (.ldc2_w 327, 3) := by decide +kernel
theorem d_GM_divide_30 : decode prog_15_method_51_code 30 = .ok (.lcmp, 1) := by decide +kernel
theorem d_GM_divide_31 : decode prog_15_method_51_code 31 = .ok (.ifCond .ne 15, 3) := by decide +kernel
theorem d_GM_divide_34 : decode prog_15_method_51_code 34 = .ok (.aload_n 0, 1) := by decide +kernel
theorem d_GM_divide_35 : decode prog_15_method_51_code 35 = .ok (.iconst 2, 1) := by decide +kernel
theorem d_GM_divide_36 : decode prog_15_method_51_code 36 = .ok (.iconst 4, 1) := by decide +kernel
theorem d_GM_divide_37 : decode prog_15_method_51_code 37 = .ok (.ldc2_w 364, 3) := by decide +kernel
theorem d_GM_divide_40 : decode prog_15_method_51_code 40 = .ok (.invokevirtual 347, 3) := by decide +kernel
theorem d_GM_divide_43 : decode prog_15_method_51_code 43 = .ok (.goto 12, 3) := by decide +kernel
theorem d_GM_divide_6 : decode prog_15_method_51_code 6 = .ok (.aload_n 0, 1) := by decide +kernel
theorem d_GM_divide_7 : decode prog_15_method_51_code 7 = .ok (.iconst 2, 1) := by decide +kernel
theorem d_GM_divide_8 : decode prog_15_method_51_code 8 = .ok (.iconst 4, 1) := by decide +kernel
theorem d_GM_divide_9 : decode prog_15_method_51_code 9 = .ok (.ldc2_w 366, 3) := by decide +kernel
theorem d_GM_divide_12 : decode prog_15_method_51_code 12 = .ok (.invokevirtual 347, 3) := by decide +kernel
theorem d_GM_divide_15 : decode prog_15_method_51_code 15 = .ok (.goto 40, 3) := by decide +kernel
set_option maxHeartbeats 4000000 in
theorem w_GM_divide_0 {l : Launch} {G : gG} {d : Nat} {X : gX} {M : gM} {k : gM → Prop} {o : Nat} (hX : gmX X o) {x1 : Int} (hx1 : g64 x1) {x3 : Int} (hx3 : g64 x3) (T : (¬ x3 = 0 → ((¬ x1 = (-9223372036854775808) → ((x3 ≠ 0) ∧ (cV l G y_GM_become (gRm d) true [gR G o, gI 2, gI 1, gL (x1.tdiv x3)] X M (fun M1 => (k M1))))) ∧ (x1 = (-9223372036854775808) → ((¬ x3 = (-1) → ((x3 ≠ 0) ∧ (cV l G y_GM_become (gRm d) true [gR G o, gI 2, gI 1, gL (x1.tdiv x3)] X M (fun M2 => (k M2))))) ∧ (x3 = (-1) → (cV l G y_GM_become (gRm d) true [gR G o, gI 2, gI 4, gL 6] X M (fun M3 => (k M3)))))))) ∧ (x3 = 0 → (cV l G y_GM_become (gRm d) true [gR G o, gI 2, gI 4, gL 5] X M (fun M6 => (k M6))))) : wp l G y_GM_divide (gRm (d + 1)) true (kkV X k) false 0 [.val (gR G o), .val (gL x1), .unset, .val (gL x3), .unset] [] X M 0 0 := by
  refine wp_lload_n d_GM_divide_0 rfl rfl ?_
  refine wp_lconst0 d_GM_divide_1 ?_
  refine xl_ne (tgt := 18) d_GM_divide_2 d_GM_divide_3 (by decide) (w64_id hx3) (w64_id (g64_c (x := 0) rfl)) (fun h7 => ?_) (fun h7 => ?_)
  · have T := T.1 h7
    refine wp_lload_n d_GM_divide_18 rfl rfl ?_
    refine wp_ldc2 (n := (-9223372036854775808)) d_GM_divide_19 c_GM_170 rfl ?_
    refine xl_ne (tgt := 46) d_GM_divide_22 d_GM_divide_23 (by decide) (w64_id hx1) (w64_id (g64_c (x := (-9223372036854775808)) rfl)) (fun h5 => ?_) (fun h5 => ?_)
    · have T := T.1 h5
      refine wp_aload_n d_GM_divide_46 rfl rfl (g_nz hX.1) ?_
      refine wp_iconst d_GM_divide_47 ?_
      refine wp_iconst d_GM_divide_48 ?_
      refine wp_lload_n d_GM_divide_49 rfl rfl ?_
      refine wp_lload_n d_GM_divide_50 rfl rfl ?_
      refine xldiv d_GM_divide_51 (w64_id hx1) (w64_id hx3) T.1 ?_
      have T := T.2
      refine xcV_V (md' := true) (As := [gI 2, gI 1, gL (x1.tdiv x3)]) (st := []) d_GM_divide_52 ca_GM_become ml_GM_347 im_GM_become se_GM_become gc_GM hX.1 (gm_o2 hX) hX.2.2.1 rfl (by decide) (by decide) rfl (fun _ => rfl) (fun _ => rfl) T (fun M1 T => ?_)
      exact wp_return d_GM_divide_55 rfl (fun _ => rfl) (Nat.zero_le _) (Nat.zero_le _) (kV_mk T)
    · have T := T.2 h5
      refine wp_lload_n d_GM_divide_26 rfl rfl ?_
      refine wp_ldc2 (n := (-1)) d_GM_divide_27 c_GM_327 rfl ?_
      refine xl_ne (tgt := 46) d_GM_divide_30 d_GM_divide_31 (by decide) (w64_id hx3) (w64_id (g64_c (x := (-1)) rfl)) (fun h4 => ?_) (fun h4 => ?_)
      · have T := T.1 h4
        refine wp_aload_n d_GM_divide_46 rfl rfl (g_nz hX.1) ?_
        refine wp_iconst d_GM_divide_47 ?_
        refine wp_iconst d_GM_divide_48 ?_
        refine wp_lload_n d_GM_divide_49 rfl rfl ?_
        refine wp_lload_n d_GM_divide_50 rfl rfl ?_
        refine xldiv d_GM_divide_51 (w64_id hx1) (w64_id hx3) T.1 ?_
        have T := T.2
        refine xcV_V (md' := true) (As := [gI 2, gI 1, gL (x1.tdiv x3)]) (st := []) d_GM_divide_52 ca_GM_become ml_GM_347 im_GM_become se_GM_become gc_GM hX.1 (gm_o2 hX) hX.2.2.1 rfl (by decide) (by decide) rfl (fun _ => rfl) (fun _ => rfl) T (fun M2 T => ?_)
        exact wp_return d_GM_divide_55 rfl (fun _ => rfl) (Nat.zero_le _) (Nat.zero_le _) (kV_mk T)
      · have T := T.2 h4
        refine wp_aload_n d_GM_divide_34 rfl rfl (g_nz hX.1) ?_
        refine wp_iconst d_GM_divide_35 ?_
        refine wp_iconst d_GM_divide_36 ?_
        refine wp_ldc2 (n := 6) d_GM_divide_37 c_GM_364 rfl ?_
        refine xcV_V (md' := true) (As := [gI 2, gI 4, gL 6]) (st := []) d_GM_divide_40 ca_GM_become ml_GM_347 im_GM_become se_GM_become gc_GM hX.1 (gm_o2 hX) hX.2.2.1 rfl (by decide) (by decide) rfl (fun _ => rfl) (fun _ => rfl) T (fun M3 T => ?_)
        refine wp_goto (tgt := 55) d_GM_divide_43 (by decide) ?_
        exact wp_return d_GM_divide_55 rfl (fun _ => rfl) (Nat.zero_le _) (Nat.zero_le _) (kV_mk T)
  · have T := T.2 h7
    refine wp_aload_n d_GM_divide_6 rfl rfl (g_nz hX.1) ?_
    refine wp_iconst d_GM_divide_7 ?_
    refine wp_iconst d_GM_divide_8 ?_
    refine wp_ldc2 (n := 5) d_GM_divide_9 c_GM_366 rfl ?_
    refine xcV_V (md' := true) (As := [gI 2, gI 4, gL 5]) (st := []) d_GM_divide_12 ca_GM_become ml_GM_347 im_GM_become se_GM_become gc_GM hX.1 (gm_o2 hX) hX.2.2.1 rfl (by decide) (by decide) rfl (fun _ => rfl) (fun _ => rfl) T (fun M6 T => ?_)
    refine wp_goto (tgt := 55) d_GM_divide_15 (by decide) ?_
    exact wp_return d_GM_divide_55 rfl (fun _ => rfl) (Nat.zero_le _) (Nat.zero_le _) (kV_mk T)
theorem e_GM_divide {l : Launch} {G : gG} {d : Nat} {X : gX} {M : gM} {k : gM → Prop} {o : Nat} {x1 : Int} {x3 : Int} (T : wp l G y_GM_divide (gRm (d + 1)) true (kkV X k) false 0 [.val (gR G o), .val (gL x1), .unset, .val (gL x3), .unset] [] X M 0 0) : cV l G y_GM_divide (gRm (d + 1)) true [gR G o, gL x1, gL x3] X M k := cen_V (plainFor_of_name rfl) (by simp only [lg_sl_R, lg_sl_I, lg_sl_L, lg_sl_N, List.length_cons, List.length_nil]; decide) (by unfold gEn; simp only [lg_sl_R, lg_sl_I, lg_sl_L, lg_sl_N]; exact wpt T (And.intro rfl (And.intro rfl (And.intro rfl True.intro))))
theorem d_GM_join_0 : decode prog_15_method_52_code 0 = .ok (.aload_n 0, 1) := by decide +kernel
theorem d_GM_join_1 : decode prog_15_method_52_code 1 = .ok (.getfield 119, 3) := by decide +kernel
theorem d_GM_join_4 : decode prog_15_method_52_code 4 = .ok (.iload_n 1, 1) := by decide +kernel
theorem d_GM_join_5 : decode prog_15_method_52_code 5 = .ok (.iaload, 1) := by decide +kernel
theorem d_GM_join_6 : decode prog_15_method_52_code 6 = .ok (.istore_n 3, 1) := by decide +kernel
theorem d_GM_join_7 : decode prog_15_method_52_code 7 = .ok (.aload_n 0, 1) := by decide +kernel
theorem d_GM_join_8 : decode prog_15_method_52_code 8 = .ok (.getfield 119, 3) := by decide +kernel
theorem d_GM_join_11 : decode prog_15_method_52_code 11 = .ok (.iload_n 2, 1) := by decide +kernel
theorem d_GM_join_12 : decode prog_15_method_52_code 12 = .ok (.iaload, 1) := by decide +kernel
theorem d_GM_join_13 : decode prog_15_method_52_code 13 = .ok (.istore 4, 2) := by decide +kernel
theorem d_GM_join_15 : decode prog_15_method_52_code 15 = .ok (.iload_n 3, 1) := by decide +kernel
theorem d_GM_join_16 : decode prog_15_method_52_code 16 = .ok (.iload 4, 2) := by decide +kernel
theorem d_GM_join_18 : decode prog_15_method_52_code 18 = .ok (.iadd, 1) := by decide +kernel
theorem d_GM_join_19 : decode prog_15_method_52_code 19 = .ok (.bipush 64, 2) := by decide +kernel
theorem d_GM_join_21 : decode prog_15_method_52_code 21 = .ok (.if_icmp .le 13, 3) := by decide +kernel
theorem d_GM_join_34 : decode prog_15_method_52_code 34 = .ok (.iconst 0, 1) := by decide +kernel
theorem d_GM_join_35 : decode prog_15_method_52_code 35 = .ok (.istore 5, 2) := by decide +kernel
theorem d_GM_join_24 : decode prog_15_method_52_code 24 = .ok (.aload_n 0, 1) := by decide +kernel
theorem d_GM_join_25 : decode prog_15_method_52_code 25 = .ok (.iconst 2, 1) := by decide +kernel
theorem d_GM_join_26 : decode prog_15_method_52_code 26 = .ok (.iconst 4, 1) := by decide +kernel
theorem d_GM_join_27 : decode prog_15_method_52_code 27 = .ok (.ldc2_w 354, 3) := by decide +kernel
theorem d_GM_join_30 : decode prog_15_method_52_code 30 = .ok (.invokevirtual 347, 3) := by decide +kernel
theorem d_GM_join_33 : decode prog_15_method_52_code 33 = .ok (.return_, 1) := by decide +kernel
theorem d_GM_join_37 : decode prog_15_method_52_code 37 = .ok (.iload 5, 2) := by decide +kernel
theorem d_GM_join_39 : decode prog_15_method_52_code 39 = .ok (.iload 4, 2) := by decide +kernel
theorem d_GM_join_41 : decode prog_15_method_52_code 41 = .ok (.if_icmp .ge 35, 3) := by decide +kernel
theorem d_GM_join_76 : decode prog_15_method_52_code 76 = .ok (.aload_n 0, 1) := by decide +kernel
theorem d_GM_join_77 : decode prog_15_method_52_code 77 = .ok (.getfield 119, 3) := by decide +kernel
theorem d_GM_join_80 : decode prog_15_method_52_code 80 = .ok (.iload_n 1, 1) := by decide +kernel
theorem d_GM_join_81 : decode prog_15_method_52_code 81 = .ok (.iload_n 3, 1) := by decide +kernel
theorem d_GM_join_82 : decode prog_15_method_52_code 82 = .ok (.iload 4, 2) := by decide +kernel
theorem d_GM_join_84 : decode prog_15_method_52_code 84 = .ok (.iadd, 1) := by decide +kernel
theorem d_GM_join_85 : decode prog_15_method_52_code 85 = .ok (.iastore, 1) := by decide +kernel
theorem d_GM_join_86 : decode prog_15_method_52_code 86 = .ok (.aload_n 0, 1) := by decide +kernel
theorem d_GM_join_87 : decode prog_15_method_52_code 87 = .ok (.dup, 1) := by decide +kernel
theorem d_GM_join_88 : decode prog_15_method_52_code 88 = .ok (.getfield 304, 3) := by decide +kernel
theorem d_GM_join_91 : decode prog_15_method_52_code 91 = .ok (.iconst 1, 1) := by decide +kernel
theorem d_GM_join_92 : decode prog_15_method_52_code 92 = .ok (.isub, 1) := by decide +kernel
theorem d_GM_join_93 : decode prog_15_method_52_code 93 = .ok (.putfield 304, 3) := by decide +kernel
theorem d_GM_join_96 : decode prog_15_method_52_code 96 = .ok (.return_, 1) := by decide +kernel
theorem d_GM_join_44 : decode prog_15_method_52_code 44 = .ok (.aload_n 0, 1) := by decide +kernel
theorem d_GM_join_45 : decode prog_15_method_52_code 45 = .ok (.getfield 126, 3) := by decide +kernel
theorem d_GM_join_48 : decode prog_15_method_52_code 48 = .ok (.bipush 64, 2) := by decide +kernel
theorem d_GM_join_50 : decode prog_15_method_52_code 50 = .ok (.iload_n 1, 1) := by decide +kernel
theorem d_GM_join_51 : decode prog_15_method_52_code 51 = .ok (.imul, 1) := by decide +kernel
theorem d_GM_join_52 : decode prog_15_method_52_code 52 = .ok (.iload_n 3, 1) := by decide +kernel
theorem d_GM_join_53 : decode prog_15_method_52_code 53 = .ok (.iadd, 1) := by decide +kernel
theorem d_GM_join_54 : decode prog_15_method_52_code 54 = .ok (.iload 5, 2) := by decide +kernel
theorem d_GM_join_56 : decode prog_15_method_52_code 56 = .ok (.iadd, 1) := by decide +kernel
theorem d_GM_join_57 : decode prog_15_method_52_code 57 = .ok (.aload_n 0, 1) := by decide +kernel
theorem d_GM_join_58 : decode prog_15_method_52_code 58 = .ok (.getfield 126, 3) := by decide +kernel
theorem d_GM_join_61 : decode prog_15_method_52_code 61 = .ok (.bipush 64, 2) := by decide +kernel
theorem d_GM_join_63 : decode prog_15_method_52_code 63 = .ok (.iload_n 2, 1) := by decide +kernel
theorem d_GM_join_64 : decode prog_15_method_52_code 64 = .ok (.imul, 1) := by decide +kernel
theorem d_GM_join_65 : decode prog_15_method_52_code 65 = .ok (.iload 5, 2) := by decide +kernel
theorem d_GM_join_67 : decode prog_15_method_52_code 67 = .ok (.iadd, 1) := by decide +kernel
theorem d_GM_join_68 : decode prog_15_method_52_code 68 = .ok (.baload, 1) := by decide +kernel
theorem d_GM_join_69 : decode prog_15_method_52_code 69 = .ok (.bastore, 1) := by decide +kernel
theorem d_GM_join_70 : decode prog_15_method_52_code 70 = .ok (.iinc 5 1, 3) := by decide +kernel
theorem d_GM_join_73 : decode prog_15_method_52_code 73 = .ok (.goto (-36), 3) := by decide +kernel
set_option maxHeartbeats 4000000 in
theorem w_GM_join_0 {l : Launch} {G : gG} {d : Nat} {X : gX} {M : gM} {k : gM → Prop} {o : Nat} (hX : gmX X o) {x1 : Int} (hx1 : g32 x1) {x2 : Int} (hx2 : g32 x2) (T : ((0 : Int) ≤ x1 ∧ x1 < 1200) ∧ (g32 (M (o + 35) (Int.toNat x1)) → (((0 : Int) ≤ x2 ∧ x2 < 1200) ∧ (g32 (M (o + 35) (Int.toNat x2)) → (((w32 ((M (o + 35) (Int.toNat x1)) + (M (o + 35) (Int.toNat x2)))) ≤ 64 → (wp l G y_GM_join (gRm (d + 1)) true (kkV X k) true 37 [.val (gR G o), .val (gI x1), .val (gI x2), .val (gI (M (o + 35) (Int.toNat x1))), .val (gI (M (o + 35) (Int.toNat x2))), .val (gI 0)] [] X M 0 0)) ∧ (¬ (w32 ((M (o + 35) (Int.toNat x1)) + (M (o + 35) (Int.toNat x2)))) ≤ 64 → (cV l G y_GM_become (gRm d) true [gR G o, gI 2, gI 4, gL 4] X M (fun M3 => (k M3))))))))) : wp l G y_GM_join (gRm (d + 1)) true (kkV X k) false 0 [.val (gR G o), .val (gI x1), .val (gI x2), .unset, .unset, .unset] [] X M 0 0 := by
  refine wp_aload_n d_GM_join_0 rfl rfl (g_nz hX.1) ?_
  refine xgetR d_GM_join_1 gc_GM f_GM_119.1 f_GM_119.2.1 f_GM_119.2.2.1 hX.1 (gm_o2 hX) hX.2.2.1 f_GM_119.2.2.2.2.1 (gm_row hX 34 rfl).1 ?_
  refine wp_iload_n d_GM_join_4 rfl rfl ?_
  refine wp_iaload d_GM_join_5 (gm_row hX 34 rfl).2.2.1 (gm_row hX 34 rfl).2.2.2 (gm_row hX 34 rfl).2.1 (g32_n T.1 (by decide)) T.1.1 T.1.2 (fun h1 => ?_)
  have T := T.2 h1
  refine wp_istore_n (L' := [.val (gR G o), .val (gI x1), .val (gI x2), .val (gI (M (o + 35) (Int.toNat x1))), .unset, .unset]) d_GM_join_6 rfl (by decide) rfl ?_
  refine wp_aload_n d_GM_join_7 rfl rfl (g_nz hX.1) ?_
  refine xgetR d_GM_join_8 gc_GM f_GM_119.1 f_GM_119.2.1 f_GM_119.2.2.1 hX.1 (gm_o2 hX) hX.2.2.1 f_GM_119.2.2.2.2.1 (gm_row hX 34 rfl).1 ?_
  refine wp_iload_n d_GM_join_11 rfl rfl ?_
  refine wp_iaload d_GM_join_12 (gm_row hX 34 rfl).2.2.1 (gm_row hX 34 rfl).2.2.2 (gm_row hX 34 rfl).2.1 (g32_n T.1 (by decide)) T.1.1 T.1.2 (fun h2 => ?_)
  have T := T.2 h2
  refine wp_istore (L' := [.val (gR G o), .val (gI x1), .val (gI x2), .val (gI (M (o + 35) (Int.toNat x1))), .val (gI (M (o + 35) (Int.toNat x2))), .unset]) d_GM_join_13 (by decide) rfl ?_
  refine wp_iload_n d_GM_join_15 rfl rfl ?_
  refine wp_iload d_GM_join_16 rfl ?_
  refine wp_iadd d_GM_join_18 ?_
  refine wp_bipush d_GM_join_19 ⟨by decide, by decide⟩ ?_
  refine xi_le (tgt := 34) d_GM_join_21 (by decide) rfl (w32_id (g32_c (x := 64) rfl)) (fun h4 => ?_) (fun h4 => ?_)
  · have T := T.1 h4
    refine wp_iconst d_GM_join_34 ?_
    refine wp_istore (L' := [.val (gR G o), .val (gI x1), .val (gI x2), .val (gI (M (o + 35) (Int.toNat x1))), .val (gI (M (o + 35) (Int.toNat x2))), .val (gI 0)]) d_GM_join_35 (by decide) rfl ?_
    exact wp_md (wpt T (And.intro rfl (And.intro rfl (And.intro rfl (And.intro rfl (And.intro rfl (And.intro rfl True.intro)))))))
  · have T := T.2 h4
    refine wp_aload_n d_GM_join_24 rfl rfl (g_nz hX.1) ?_
    refine wp_iconst d_GM_join_25 ?_
    refine wp_iconst d_GM_join_26 ?_
    refine wp_ldc2 (n := 4) d_GM_join_27 c_GM_354 rfl ?_
    refine xcV_V (md' := true) (As := [gI 2, gI 4, gL 4]) (st := []) d_GM_join_30 ca_GM_become ml_GM_347 im_GM_become se_GM_become gc_GM hX.1 (gm_o2 hX) hX.2.2.1 rfl (by decide) (by decide) rfl (fun _ => rfl) (fun _ => rfl) T (fun M3 T => ?_)
    exact wp_return d_GM_join_33 rfl (fun _ => rfl) (Nat.zero_le _) (Nat.zero_le _) (kV_mk T)
set_option maxHeartbeats 4000000 in
theorem w_GM_join_37 {l : Launch} {G : gG} {d : Nat} {X : gX} {M : gM} {k : gM → Prop} {o : Nat} (hX : gmX X o) {x1 : Int} (hx1 : g32 x1) {x2 : Int} (hx2 : g32 x2) {x3 : Int} (hx3 : g32 x3) {x4 : Int} (hx4 : g32 x4) {x5 : Int} (hx5 : g32 x5) (T : (x4 ≤ x5 → (((0 : Int) ≤ x1 ∧ x1 < 1200) ∧ (g32 ((gUp M (o + 35) (Int.toNat x1) (w32 (x3 + x4))) o 50) → (k (gUp (gUp M (o + 35) (Int.toNat x1) (w32 (x3 + x4))) o 50 (w32 (((gUp M (o + 35) (Int.toNat x1) (w32 (x3 + x4))) o 50) - 1))))))) ∧ (¬ x4 ≤ x5 → (((0 : Int) ≤ (64 * x2) + x5 ∧ (64 * x2) + x5 < 76800) ∧ ((-128 ≤ M (o + 37) (Int.toNat ((64 * x2) + x5)) ∧ M (o + 37) (Int.toNat ((64 * x2) + x5)) < 128) → (((0 : Int) ≤ ((64 * x1) + x3) + x5 ∧ ((64 * x1) + x3) + x5 < 76800) ∧ (wp l G y_GM_join (gRm (d + 1)) true (kkV X k) true 37 [.val (gR G o), .val (gI x1), .val (gI x2), .val (gI x3), .val (gI x4), .val (gI (w32 (x5 + 1)))] [] X (gUp M (o + 37) (Int.toNat (((64 * x1) + x3) + x5)) (gByte (M (o + 37) (Int.toNat ((64 * x2) + x5))))) 0 0)))))) : wp l G y_GM_join (gRm (d + 1)) true (kkV X k) true 37 [.val (gR G o), .val (gI x1), .val (gI x2), .val (gI x3), .val (gI x4), .val (gI x5)] [] X M 0 0 := by
  refine wp_iload d_GM_join_37 rfl ?_
  refine wp_iload d_GM_join_39 rfl ?_
  refine xi_ge (tgt := 76) d_GM_join_41 (by decide) (w32_id hx5) (w32_id hx4) (fun h7 => ?_) (fun h7 => ?_)
  · have T := T.1 h7
    refine wp_aload_n d_GM_join_76 rfl rfl (g_nz hX.1) ?_
    refine xgetR d_GM_join_77 gc_GM f_GM_119.1 f_GM_119.2.1 f_GM_119.2.2.1 hX.1 (gm_o2 hX) hX.2.2.1 f_GM_119.2.2.2.2.1 (gm_row hX 34 rfl).1 ?_
    refine wp_iload_n d_GM_join_80 rfl rfl ?_
    refine wp_iload_n d_GM_join_81 rfl rfl ?_
    refine wp_iload d_GM_join_82 rfl ?_
    refine wp_iadd d_GM_join_84 ?_
    refine xiast d_GM_join_85 (gm_row hX 34 rfl).2.2.1 (gm_row hX 34 rfl).2.2.2 (gm_row hX 34 rfl).2.1 (by decide) T.1 rfl ?_
    have T := T.2
    refine wp_aload_n d_GM_join_86 rfl rfl (g_nz hX.1) ?_
    refine wp_dup d_GM_join_87 (gR_cat _) ?_
    refine xgetI d_GM_join_88 gc_GM f_GM_304.1 f_GM_304.2.1 f_GM_304.2.2.1 hX.1 (gm_o2 hX) hX.2.2.1 f_GM_304.2.2.2.2.1 (fun h5 => ?_)
    have T := T h5
    refine wp_iconst d_GM_join_91 ?_
    refine wp_isub d_GM_join_92 ?_
    refine xputI d_GM_join_93 gc_GM f_GM_304.1 f_GM_304.2.1 f_GM_304.2.2.1 hX.1 (gm_o2 hX) hX.2.2.1 f_GM_304.2.2.2.1 f_GM_304.2.2.2.2.1 f_GM_304.2.2.2.2.2 rfl ?_
    exact wp_return d_GM_join_96 rfl (fun _ => rfl) (Nat.zero_le _) (Nat.zero_le _) (kV_mk T)
  · have T := T.2 h7
    refine wp_aload_n d_GM_join_44 rfl rfl (g_nz hX.1) ?_
    refine xgetR d_GM_join_45 gc_GM f_GM_126.1 f_GM_126.2.1 f_GM_126.2.2.1 hX.1 (gm_o2 hX) hX.2.2.1 f_GM_126.2.2.2.2.1 (gm_row hX 36 rfl).1 ?_
    refine wp_bipush d_GM_join_48 ⟨by decide, by decide⟩ ?_
    refine wp_iload_n d_GM_join_50 rfl rfl ?_
    refine wp_imul d_GM_join_51 ?_
    refine wp_iload_n d_GM_join_52 rfl rfl ?_
    refine wp_iadd d_GM_join_53 ?_
    refine wp_iload d_GM_join_54 rfl ?_
    refine wp_iadd d_GM_join_56 ?_
    refine wp_aload_n d_GM_join_57 rfl rfl (g_nz hX.1) ?_
    refine xgetR d_GM_join_58 gc_GM f_GM_126.1 f_GM_126.2.1 f_GM_126.2.2.1 hX.1 (gm_o2 hX) hX.2.2.1 f_GM_126.2.2.2.2.1 (gm_row hX 36 rfl).1 ?_
    refine wp_bipush d_GM_join_61 ⟨by decide, by decide⟩ ?_
    refine wp_iload_n d_GM_join_63 rfl rfl ?_
    refine wp_imul d_GM_join_64 ?_
    refine wp_iload d_GM_join_65 rfl ?_
    refine wp_iadd d_GM_join_67 ?_
    refine wp_baload d_GM_join_68 (gm_row hX 36 rfl).2.2.1 (gm_row hX 36 rfl).2.2.2 (gm_row hX 36 rfl).2.1 (g32_n T.1 (by decide)) T.1.1 T.1.2 (fun h6 => ?_)
    have T := T.2 h6
    refine xbast d_GM_join_69 (gm_row hX 36 rfl).2.2.1 (gm_row hX 36 rfl).2.2.2 (gm_row hX 36 rfl).2.1 (by decide) T.1 ?_
    have T := T.2
    refine wp_iinc (L' := [.val (gR G o), .val (gI x1), .val (gI x2), .val (gI x3), .val (gI x4), .val (gI (x5 + 1))]) d_GM_join_70 rfl (by decide) rfl ?_
    refine wp_goto (tgt := 37) d_GM_join_73 (by decide) ?_
    exact wp_md (wpt T (And.intro rfl (And.intro rfl (And.intro rfl (And.intro rfl (And.intro rfl (And.intro (gI_w _) True.intro)))))))
theorem e_GM_join {l : Launch} {G : gG} {d : Nat} {X : gX} {M : gM} {k : gM → Prop} {o : Nat} {x1 : Int} {x2 : Int} (T : wp l G y_GM_join (gRm (d + 1)) true (kkV X k) false 0 [.val (gR G o), .val (gI x1), .val (gI x2), .unset, .unset, .unset] [] X M 0 0) : cV l G y_GM_join (gRm (d + 1)) true [gR G o, gI x1, gI x2] X M k := cen_V (plainFor_of_name rfl) (by simp only [lg_sl_R, lg_sl_I, lg_sl_L, lg_sl_N, List.length_cons, List.length_nil]; decide) (by unfold gEn; simp only [lg_sl_R, lg_sl_I, lg_sl_L, lg_sl_N]; exact wpt T (And.intro rfl (And.intro rfl (And.intro rfl True.intro))))
theorem d_GM_refOf_0 : decode prog_15_method_53_code 0 = .ok (.aload_n 0, 1) := by decide +kernel
theorem d_GM_refOf_1 : decode prog_15_method_53_code 1 = .ok (.getfield 85, 3) := by decide +kernel
theorem d_GM_refOf_4 : decode prog_15_method_53_code 4 = .ok (.aload_n 0, 1) := by decide +kernel
theorem d_GM_refOf_5 : decode prog_15_method_53_code 5 = .ok (.getfield 368, 3) := by decide +kernel
theorem d_GM_refOf_8 : decode prog_15_method_53_code 8 = .ok (.sipush 20800, 3) := by decide +kernel
theorem d_GM_refOf_11 : decode prog_15_method_53_code 11 = .ok (.imul, 1) := by decide +kernel
theorem d_GM_refOf_12 : decode prog_15_method_53_code 12 = .ok (.aload_n 0, 1) := by decide +kernel
theorem d_GM_refOf_13 : decode prog_15_method_53_code 13 = .ok (.getfield 78, 3) := by decide +kernel
theorem d_GM_refOf_16 : decode prog_15_method_53_code 16 = .ok (.aload_n 0, 1) := by decide +kernel
theorem d_GM_refOf_17 : decode prog_15_method_53_code 17 = .ok (.getfield 368, 3) := by decide +kernel
theorem d_GM_refOf_20 : decode prog_15_method_53_code 20 = .ok (.sipush 5200, 3) := by decide +kernel
theorem d_GM_refOf_23 : decode prog_15_method_53_code 23 = .ok (.imul, 1) := by decide +kernel
theorem d_GM_refOf_24 : decode prog_15_method_53_code 24 = .ok (.aload_n 0, 1) := by decide +kernel
theorem d_GM_refOf_25 : decode prog_15_method_53_code 25 = .ok (.getfield 371, 3) := by decide +kernel
theorem d_GM_refOf_28 : decode prog_15_method_53_code 28 = .ok (.iadd, 1) := by decide +kernel
theorem d_GM_refOf_29 : decode prog_15_method_53_code 29 = .ok (.iaload, 1) := by decide +kernel
theorem d_GM_refOf_30 : decode prog_15_method_53_code 30 = .ok (.iadd, 1) := by decide +kernel
theorem d_GM_refOf_31 : decode prog_15_method_53_code 31 = .ok (.iload_n 1, 1) := by decide +kernel
theorem d_GM_refOf_32 : decode prog_15_method_53_code 32 = .ok (.iadd, 1) := by decide +kernel
theorem d_GM_refOf_33 : decode prog_15_method_53_code 33 = .ok (.iaload, 1) := by decide +kernel
theorem d_GM_refOf_34 : decode prog_15_method_53_code 34 = .ok (.ireturn, 1) := by decide +kernel
set_option maxHeartbeats 4000000 in
theorem w_GM_refOf_0 {l : Launch} {G : gG} {d : Nat} {X : gX} {M : gM} {k : Int → gM → Prop} {o : Nat} (hX : gmX X o) {x1 : Int} (hx1 : g32 x1) (T : g32 (M o 51) → (g32 (M o 51) → (g32 (M o 52) → (((0 : Int) ≤ ((M o 51) * 5200) + (M o 52) ∧ ((M o 51) * 5200) + (M o 52) < 218400) ∧ (g32 (M (o + 22) (Int.toNat (((M o 51) * 5200) + (M o 52)))) → (((0 : Int) ≤ (((M o 51) * 20800) + (M (o + 22) (Int.toNat (((M o 51) * 5200) + (M o 52))))) + x1 ∧ (((M o 51) * 20800) + (M (o + 22) (Int.toNat (((M o 51) * 5200) + (M o 52))))) + x1 < 873600) ∧ (g32 (M (o + 24) (Int.toNat ((((M o 51) * 20800) + (M (o + 22) (Int.toNat (((M o 51) * 5200) + (M o 52))))) + x1))) → (k (M (o + 24) (Int.toNat ((((M o 51) * 20800) + (M (o + 22) (Int.toNat (((M o 51) * 5200) + (M o 52))))) + x1))) M)))))))) : wp l G y_GM_refOf (gRm d) false (kkI X k) false 0 [.val (gR G o), .val (gI x1)] [] X M 0 0 := by
  refine wp_aload_n d_GM_refOf_0 rfl rfl (g_nz hX.1) ?_
  refine xgetR d_GM_refOf_1 gc_GM f_GM_85.1 f_GM_85.2.1 f_GM_85.2.2.1 hX.1 (gm_o2 hX) hX.2.2.1 f_GM_85.2.2.2.2.1 (gm_row hX 23 rfl).1 ?_
  refine wp_aload_n d_GM_refOf_4 rfl rfl (g_nz hX.1) ?_
  refine xgetI d_GM_refOf_5 gc_GM f_GM_368.1 f_GM_368.2.1 f_GM_368.2.2.1 hX.1 (gm_o2 hX) hX.2.2.1 f_GM_368.2.2.2.2.1 (fun h1 => ?_)
  have T := T h1
  refine wp_sipush d_GM_refOf_8 ⟨by decide, by decide⟩ ?_
  refine wp_imul d_GM_refOf_11 ?_
  refine wp_aload_n d_GM_refOf_12 rfl rfl (g_nz hX.1) ?_
  refine xgetR d_GM_refOf_13 gc_GM f_GM_78.1 f_GM_78.2.1 f_GM_78.2.2.1 hX.1 (gm_o2 hX) hX.2.2.1 f_GM_78.2.2.2.2.1 (gm_row hX 21 rfl).1 ?_
  refine wp_aload_n d_GM_refOf_16 rfl rfl (g_nz hX.1) ?_
  refine xgetI d_GM_refOf_17 gc_GM f_GM_368.1 f_GM_368.2.1 f_GM_368.2.2.1 hX.1 (gm_o2 hX) hX.2.2.1 f_GM_368.2.2.2.2.1 (fun h2 => ?_)
  have T := T h2
  refine wp_sipush d_GM_refOf_20 ⟨by decide, by decide⟩ ?_
  refine wp_imul d_GM_refOf_23 ?_
  refine wp_aload_n d_GM_refOf_24 rfl rfl (g_nz hX.1) ?_
  refine xgetI d_GM_refOf_25 gc_GM f_GM_371.1 f_GM_371.2.1 f_GM_371.2.2.1 hX.1 (gm_o2 hX) hX.2.2.1 f_GM_371.2.2.2.2.1 (fun h3 => ?_)
  have T := T h3
  refine wp_iadd d_GM_refOf_28 ?_
  refine wp_iaload d_GM_refOf_29 (gm_row hX 21 rfl).2.2.1 (gm_row hX 21 rfl).2.2.2 (gm_row hX 21 rfl).2.1 (g32_n T.1 (by decide)) T.1.1 T.1.2 (fun h4 => ?_)
  have T := T.2 h4
  refine wp_iadd d_GM_refOf_30 ?_
  refine wp_iload_n d_GM_refOf_31 rfl rfl ?_
  refine wp_iadd d_GM_refOf_32 ?_
  refine wp_iaload d_GM_refOf_33 (gm_row hX 23 rfl).2.2.1 (gm_row hX 23 rfl).2.2.2 (gm_row hX 23 rfl).2.1 (g32_n T.1 (by decide)) T.1.1 T.1.2 (fun h5 => ?_)
  have T := T.2 h5
  exact wp_ireturn d_GM_refOf_34 rfl id (Nat.zero_le _) (Nat.zero_le _) (kI_mk h5 T)
theorem e_GM_refOf {l : Launch} {G : gG} {d : Nat} {X : gX} {M : gM} {k : Int → gM → Prop} {o : Nat} {x1 : Int} (T : wp l G y_GM_refOf (gRm d) false (kkI X k) false 0 [.val (gR G o), .val (gI x1)] [] X M 0 0) : cI l G y_GM_refOf (gRm d) false [gR G o, gI x1] X M k := cen_I (plainFor_of_name rfl) (by simp only [lg_sl_R, lg_sl_I, lg_sl_L, lg_sl_N, List.length_cons, List.length_nil]; decide) (by unfold gEn; simp only [lg_sl_R, lg_sl_I, lg_sl_L, lg_sl_N]; exact wpt T (And.intro rfl (And.intro rfl True.intro)))
