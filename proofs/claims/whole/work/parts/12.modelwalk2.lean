/-! Walks of the reference's methods, written by wip/whole/gen_model.py -/
theorem d_GM_form_0 : decode prog_15_method_23_code 0 = .ok (.aload_n 0, 1) := by decide +kernel
theorem d_GM_form_1 : decode prog_15_method_23_code 1 = .ok (.iconst 0, 1) := by decide +kernel
theorem d_GM_form_2 : decode prog_15_method_23_code 2 = .ok (.putfield 181, 3) := by decide +kernel
theorem d_GM_form_5 : decode prog_15_method_23_code 5 = .ok (.aload_n 0, 1) := by decide +kernel
theorem d_GM_form_6 : decode prog_15_method_23_code 6 = .ok (.iconst 0, 1) := by decide +kernel
theorem d_GM_form_7 : decode prog_15_method_23_code 7 = .ok (.putfield 218, 3) := by decide +kernel
theorem d_GM_form_10 : decode prog_15_method_23_code 10 = .ok (.aload_n 0, 1) := by decide +kernel
theorem d_GM_form_11 : decode prog_15_method_23_code 11 = .ok (.iconst 0, 1) := by decide +kernel
theorem d_GM_form_12 : decode prog_15_method_23_code 12 = .ok (.putfield 221, 3) := by decide +kernel
theorem d_GM_form_15 : decode prog_15_method_23_code 15 = .ok (.aload_n 0, 1) := by decide +kernel
theorem d_GM_form_16 : decode prog_15_method_23_code 16 = .ok (.getfield 34, 3) := by decide +kernel
theorem d_GM_form_19 : decode prog_15_method_23_code 19 = .ok (.aload_n 0, 1) := by decide +kernel
theorem d_GM_form_20 : decode prog_15_method_23_code 20 = .ok (.getfield 253, 3) := by decide +kernel
theorem d_GM_form_23 : decode prog_15_method_23_code 23 = .ok (.aload_n 0, 1) := by decide +kernel
theorem d_GM_form_24 : decode prog_15_method_23_code 24 = .ok (.getfield 250, 3) := by decide +kernel
theorem d_GM_form_27 : decode prog_15_method_23_code 27 = .ok (.iastore, 1) := by decide +kernel
theorem d_GM_form_28 : decode prog_15_method_23_code 28 = .ok (.aload_n 0, 1) := by decide +kernel
theorem d_GM_form_29 : decode prog_15_method_23_code 29 = .ok (.getfield 231, 3) := by decide +kernel
theorem d_GM_form_32 : decode prog_15_method_23_code 32 = .ok (.istore_n 3, 1) := by decide +kernel
theorem d_GM_form_33 : decode prog_15_method_23_code 33 = .ok (.aload_n 0, 1) := by decide +kernel
theorem d_GM_form_34 : decode prog_15_method_23_code 34 = .ok (.iload_n 1, 1) := by decide +kernel
theorem d_GM_form_35 : decode prog_15_method_23_code 35 = .ok (.iload_n 2, 1) := by decide +kernel
theorem d_GM_form_36 : decode prog_15_method_23_code 36 = .ok (.invokevirtual 269, 3) := by decide +kernel
theorem d_GM_form_39 : decode prog_15_method_23_code 39 = .ok (.aload_n 0, 1) := by decide +kernel
theorem d_GM_form_40 : decode prog_15_method_23_code 40 = .ok (.getfield 181, 3) := by decide +kernel
theorem d_GM_form_43 : decode prog_15_method_23_code 43 = .ok (.ifCond .eq 7, 3) := by decide +kernel
theorem d_GM_form_50 : decode prog_15_method_23_code 50 = .ok (.aload_n 0, 1) := by decide +kernel
theorem d_GM_form_51 : decode prog_15_method_23_code 51 = .ok (.iconst 0, 1) := by decide +kernel
theorem d_GM_form_52 : decode prog_15_method_23_code 52 = .ok (.invokevirtual 240, 3) := by decide +kernel
theorem d_GM_form_55 : decode prog_15_method_23_code 55 = .ok (.istore 4, 2) := by decide +kernel
theorem d_GM_form_57 : decode prog_15_method_23_code 57 = .ok (.aload_n 0, 1) := by decide +kernel
theorem d_GM_form_58 : decode prog_15_method_23_code 58 = .ok (.getfield 218, 3) := by decide +kernel
theorem d_GM_form_61 : decode prog_15_method_23_code 61 = .ok (.aload_n 0, 1) := by decide +kernel
theorem d_GM_form_62 : decode prog_15_method_23_code 62 = .ok (.getfield 178, 3) := by decide +kernel
theorem d_GM_form_65 : decode prog_15_method_23_code 65 = .ok (.if_icmp .eq 8, 3) := by decide +kernel
theorem d_GM_form_68 : decode prog_15_method_23_code 68 = .ok (.aload_n 0, 1) := by decide +kernel
theorem d_GM_form_69 : decode prog_15_method_23_code 69 = .ok (.iconst 1, 1) := by decide +kernel
theorem d_GM_form_70 : decode prog_15_method_23_code 70 = .ok (.putfield 181, 3) := by decide +kernel
theorem d_GM_form_46 : decode prog_15_method_23_code 46 = .ok (.iconst 0, 1) := by decide +kernel
theorem d_GM_form_47 : decode prog_15_method_23_code 47 = .ok (.goto 8, 3) := by decide +kernel
theorem d_GM_form_73 : decode prog_15_method_23_code 73 = .ok (.aload_n 0, 1) := by decide +kernel
theorem d_GM_form_74 : decode prog_15_method_23_code 74 = .ok (.getfield 181, 3) := by decide +kernel
theorem d_GM_form_77 : decode prog_15_method_23_code 77 = .ok (.ifCond .eq 21, 3) := by decide +kernel
theorem d_GM_form_98 : decode prog_15_method_23_code 98 = .ok (.aload_n 0, 1) := by decide +kernel
theorem d_GM_form_99 : decode prog_15_method_23_code 99 = .ok (.getfield 31, 3) := by decide +kernel
theorem d_GM_form_102 : decode prog_15_method_23_code 102 = .ok (.aload_n 0, 1) := by decide +kernel
theorem d_GM_form_103 : decode prog_15_method_23_code 103 = .ok (.getfield 253, 3) := by decide +kernel
theorem d_GM_form_106 : decode prog_15_method_23_code 106 = .ok (.aload_n 0, 1) := by decide +kernel
theorem d_GM_form_107 : decode prog_15_method_23_code 107 = .ok (.getfield 181, 3) := by decide +kernel
theorem d_GM_form_110 : decode prog_15_method_23_code 110 = .ok (.ifCond .eq 7, 3) := by decide +kernel
theorem d_GM_form_117 : decode prog_15_method_23_code 117 = .ok (.iload 4, 2) := by decide +kernel
theorem d_GM_form_119 : decode prog_15_method_23_code 119 = .ok (.iastore, 1) := by decide +kernel
theorem d_GM_form_120 : decode prog_15_method_23_code 120 = .ok (.aload_n 0, 1) := by decide +kernel
theorem d_GM_form_121 : decode prog_15_method_23_code 121 = .ok (.getfield 37, 3) := by decide +kernel
theorem d_GM_form_124 : decode prog_15_method_23_code 124 = .ok (.aload_n 0, 1) := by decide +kernel
theorem d_GM_form_125 : decode prog_15_method_23_code 125 = .ok (.getfield 253, 3) := by decide +kernel
theorem d_GM_form_128 : decode prog_15_method_23_code 128 = .ok (.aload_n 0, 1) := by decide +kernel
theorem d_GM_form_129 : decode prog_15_method_23_code 129 = .ok (.getfield 250, 3) := by decide +kernel
theorem d_GM_form_132 : decode prog_15_method_23_code 132 = .ok (.aload_n 0, 1) := by decide +kernel
theorem d_GM_form_133 : decode prog_15_method_23_code 133 = .ok (.getfield 34, 3) := by decide +kernel
theorem d_GM_form_136 : decode prog_15_method_23_code 136 = .ok (.aload_n 0, 1) := by decide +kernel
theorem d_GM_form_137 : decode prog_15_method_23_code 137 = .ok (.getfield 253, 3) := by decide +kernel
theorem d_GM_form_140 : decode prog_15_method_23_code 140 = .ok (.iaload, 1) := by decide +kernel
theorem d_GM_form_141 : decode prog_15_method_23_code 141 = .ok (.isub, 1) := by decide +kernel
theorem d_GM_form_142 : decode prog_15_method_23_code 142 = .ok (.iastore, 1) := by decide +kernel
theorem d_GM_form_143 : decode prog_15_method_23_code 143 = .ok (.aload_n 0, 1) := by decide +kernel
theorem d_GM_form_144 : decode prog_15_method_23_code 144 = .ok (.dup, 1) := by decide +kernel
theorem d_GM_form_145 : decode prog_15_method_23_code 145 = .ok (.getfield 253, 3) := by decide +kernel
theorem d_GM_form_148 : decode prog_15_method_23_code 148 = .ok (.iconst 1, 1) := by decide +kernel
theorem d_GM_form_149 : decode prog_15_method_23_code 149 = .ok (.iadd, 1) := by decide +kernel
theorem d_GM_form_150 : decode prog_15_method_23_code 150 = .ok (.putfield 253, 3) := by decide +kernel
theorem d_GM_form_153 : decode prog_15_method_23_code 153 = .ok (.aload_n 0, 1) := by decide +kernel
theorem d_GM_form_154 : decode prog_15_method_23_code 154 = .ok (.getfield 253, 3) := by decide +kernel
theorem d_GM_form_157 : decode prog_15_method_23_code 157 = .ok (.iconst 1, 1) := by decide +kernel
theorem d_GM_form_158 : decode prog_15_method_23_code 158 = .ok (.isub, 1) := by decide +kernel
theorem d_GM_form_159 : decode prog_15_method_23_code 159 = .ok (.ireturn, 1) := by decide +kernel
theorem d_GM_form_113 : decode prog_15_method_23_code 113 = .ok (.iconst (-1), 1) := by decide +kernel
theorem d_GM_form_114 : decode prog_15_method_23_code 114 = .ok (.goto 5, 3) := by decide +kernel
theorem d_GM_form_80 : decode prog_15_method_23_code 80 = .ok (.aload_n 0, 1) := by decide +kernel
theorem d_GM_form_81 : decode prog_15_method_23_code 81 = .ok (.iload_n 3, 1) := by decide +kernel
theorem d_GM_form_82 : decode prog_15_method_23_code 82 = .ok (.putfield 231, 3) := by decide +kernel
theorem d_GM_form_85 : decode prog_15_method_23_code 85 = .ok (.aload_n 0, 1) := by decide +kernel
theorem d_GM_form_86 : decode prog_15_method_23_code 86 = .ok (.aload_n 0, 1) := by decide +kernel
theorem d_GM_form_87 : decode prog_15_method_23_code 87 = .ok (.getfield 34, 3) := by decide +kernel
theorem d_GM_form_90 : decode prog_15_method_23_code 90 = .ok (.aload_n 0, 1) := by decide +kernel
theorem d_GM_form_91 : decode prog_15_method_23_code 91 = .ok (.getfield 253, 3) := by decide +kernel
theorem d_GM_form_94 : decode prog_15_method_23_code 94 = .ok (.iaload, 1) := by decide +kernel
theorem d_GM_form_95 : decode prog_15_method_23_code 95 = .ok (.putfield 250, 3) := by decide +kernel
set_option maxHeartbeats 4000000 in
theorem w_GM_form_0 {l : Launch} {G : gG} {d : Nat} {X : gX} {M : gM} {k : Int → gM → Prop} {o : Nat} (hX : gmX X o) {x1 : Int} (hx1 : g32 x1) {x2 : Int} (hx2 : g32 x2) (T : g32 ((gUp (gUp (gUp M o 27 0) o 25 0) o 26 0) o 13) → (g32 ((gUp (gUp (gUp M o 27 0) o 25 0) o 26 0) o 17) → (((0 : Int) ≤ (gUp (gUp (gUp M o 27 0) o 25 0) o 26 0) o 13 ∧ (gUp (gUp (gUp M o 27 0) o 25 0) o 26 0) o 13 < 4200) ∧ (g32 ((gUp (gUp (gUp (gUp M o 27 0) o 25 0) o 26 0) (o + 8) (Int.toNat ((gUp (gUp (gUp M o 27 0) o 25 0) o 26 0) o 13)) ((gUp (gUp (gUp M o 27 0) o 25 0) o 26 0) o 17)) o 9) → (cV l G y_GM_cut (gRm d) true [gR G o, gI x1, gI x2] X (gUp (gUp (gUp (gUp M o 27 0) o 25 0) o 26 0) (o + 8) (Int.toNat ((gUp (gUp (gUp M o 27 0) o 25 0) o 26 0) o 13)) ((gUp (gUp (gUp M o 27 0) o 25 0) o 26 0) o 17)) (fun M4 => ((0 ≤ M4 o 27 ∧ M4 o 27 ≤ 1) → ((M4 o 27 = 0 → (cI l G y_GM_expr (gRm d) true [gR G o, gI 0] X M4 (fun v7 M6 => (g32 (M6 o 25) → (g32 (M6 o 24) → ((M6 o 25 = M6 o 24 → (wp l G y_GM_form (gRm (d + 1)) true (kkI X k) true 73 [.val (gR G o), .unset, .unset, .val (gI ((gUp (gUp (gUp (gUp M o 27 0) o 25 0) o 26 0) (o + 8) (Int.toNat ((gUp (gUp (gUp M o 27 0) o 25 0) o 26 0) o 13)) ((gUp (gUp (gUp M o 27 0) o 25 0) o 26 0) o 17)) o 9)), .val (gI v7)] [] X M6 0 0)) ∧ (¬ M6 o 25 = M6 o 24 → (wp l G y_GM_form (gRm (d + 1)) true (kkI X k) true 73 [.val (gR G o), .unset, .unset, .val (gI ((gUp (gUp (gUp (gUp M o 27 0) o 25 0) o 26 0) (o + 8) (Int.toNat ((gUp (gUp (gUp M o 27 0) o 25 0) o 26 0) o 13)) ((gUp (gUp (gUp M o 27 0) o 25 0) o 26 0) o 17)) o 9)), .val (gI v7)] [] X (gUp M6 o 27 1) 0 0)))))))) ∧ (¬ M4 o 27 = 0 → (g32 (M4 o 25) → (g32 (M4 o 24) → ((M4 o 25 = M4 o 24 → (wp l G y_GM_form (gRm (d + 1)) true (kkI X k) true 73 [.val (gR G o), .unset, .unset, .val (gI ((gUp (gUp (gUp (gUp M o 27 0) o 25 0) o 26 0) (o + 8) (Int.toNat ((gUp (gUp (gUp M o 27 0) o 25 0) o 26 0) o 13)) ((gUp (gUp (gUp M o 27 0) o 25 0) o 26 0) o 17)) o 9)), .val (gI 0)] [] X M4 0 0)) ∧ (¬ M4 o 25 = M4 o 24 → (wp l G y_GM_form (gRm (d + 1)) true (kkI X k) true 73 [.val (gR G o), .unset, .unset, .val (gI ((gUp (gUp (gUp (gUp M o 27 0) o 25 0) o 26 0) (o + 8) (Int.toNat ((gUp (gUp (gUp M o 27 0) o 25 0) o 26 0) o 13)) ((gUp (gUp (gUp M o 27 0) o 25 0) o 26 0) o 17)) o 9)), .val (gI 0)] [] X (gUp M4 o 27 1) 0 0)))))))))))))) : wp l G y_GM_form (gRm (d + 1)) true (kkI X k) false 0 [.val (gR G o), .val (gI x1), .val (gI x2), .unset, .unset] [] X M 0 0 := by
  refine wp_aload_n d_GM_form_0 rfl rfl (g_nz hX.1) ?_
  refine wp_iconst d_GM_form_1 ?_
  refine xputZ d_GM_form_2 gc_GM f_GM_181.1 f_GM_181.2.1 f_GM_181.2.2.1 hX.1 (gm_o2 hX) hX.2.2.1 f_GM_181.2.2.2.1 f_GM_181.2.2.2.2.1 f_GM_181.2.2.2.2.2 (⟨by decide, by decide⟩ : (0 : Int) ≤ 0 ∧ (0 : Int) ≤ 1) ?_
  refine wp_aload_n d_GM_form_5 rfl rfl (g_nz hX.1) ?_
  refine wp_iconst d_GM_form_6 ?_
  refine xputI d_GM_form_7 gc_GM f_GM_218.1 f_GM_218.2.1 f_GM_218.2.2.1 hX.1 (gm_o2 hX) hX.2.2.1 f_GM_218.2.2.2.1 f_GM_218.2.2.2.2.1 f_GM_218.2.2.2.2.2 (w32_id (g32_c (x := 0) rfl)) ?_
  refine wp_aload_n d_GM_form_10 rfl rfl (g_nz hX.1) ?_
  refine wp_iconst d_GM_form_11 ?_
  refine xputI d_GM_form_12 gc_GM f_GM_221.1 f_GM_221.2.1 f_GM_221.2.2.1 hX.1 (gm_o2 hX) hX.2.2.1 f_GM_221.2.2.2.1 f_GM_221.2.2.2.2.1 f_GM_221.2.2.2.2.2 (w32_id (g32_c (x := 0) rfl)) ?_
  refine wp_aload_n d_GM_form_15 rfl rfl (g_nz hX.1) ?_
  refine xgetR d_GM_form_16 gc_GM f_GM_34.1 f_GM_34.2.1 f_GM_34.2.2.1 hX.1 (gm_o2 hX) hX.2.2.1 f_GM_34.2.2.2.2.1 (gm_row hX 7 rfl).1 ?_
  refine wp_aload_n d_GM_form_19 rfl rfl (g_nz hX.1) ?_
  refine xgetI d_GM_form_20 gc_GM f_GM_253.1 f_GM_253.2.1 f_GM_253.2.2.1 hX.1 (gm_o2 hX) hX.2.2.1 f_GM_253.2.2.2.2.1 (fun h1 => ?_)
  have T := T h1
  refine wp_aload_n d_GM_form_23 rfl rfl (g_nz hX.1) ?_
  refine xgetI d_GM_form_24 gc_GM f_GM_250.1 f_GM_250.2.1 f_GM_250.2.2.1 hX.1 (gm_o2 hX) hX.2.2.1 f_GM_250.2.2.2.2.1 (fun h2 => ?_)
  have T := T h2
  refine xiast d_GM_form_27 (gm_row hX 7 rfl).2.2.1 (gm_row hX 7 rfl).2.2.2 (gm_row hX 7 rfl).2.1 (by decide) T.1 (w32_id h2) ?_
  have T := T.2
  refine wp_aload_n d_GM_form_28 rfl rfl (g_nz hX.1) ?_
  refine xgetI d_GM_form_29 gc_GM f_GM_231.1 f_GM_231.2.1 f_GM_231.2.2.1 hX.1 (gm_o2 hX) hX.2.2.1 f_GM_231.2.2.2.2.1 (fun h3 => ?_)
  have T := T h3
  refine wp_istore_n (L' := [.val (gR G o), .val (gI x1), .val (gI x2), .val (gI ((gUp (gUp (gUp (gUp M o 27 0) o 25 0) o 26 0) (o + 8) (Int.toNat ((gUp (gUp (gUp M o 27 0) o 25 0) o 26 0) o 13)) ((gUp (gUp (gUp M o 27 0) o 25 0) o 26 0) o 17)) o 9)), .unset]) d_GM_form_32 rfl (by decide) rfl ?_
  refine wp_aload_n d_GM_form_33 rfl rfl (g_nz hX.1) ?_
  refine wp_iload_n d_GM_form_34 rfl rfl ?_
  refine wp_iload_n d_GM_form_35 rfl rfl ?_
  refine xcV_V (md' := true) (As := [gI x1, gI x2]) (st := []) d_GM_form_36 ca_GM_cut ml_GM_269 im_GM_cut se_GM_cut gc_GM hX.1 (gm_o2 hX) hX.2.2.1 rfl (by decide) (by decide) rfl (fun _ => rfl) (fun _ => rfl) T (fun M4 T => ?_)
  refine wp_aload_n d_GM_form_39 rfl rfl (g_nz hX.1) ?_
  refine xgetZ d_GM_form_40 gc_GM f_GM_181.1 f_GM_181.2.1 f_GM_181.2.2.1 hX.1 (gm_o2 hX) hX.2.2.1 f_GM_181.2.2.2.2.1 (fun h5 => ?_)
  have T := T h5
  refine xz_eq (tgt := 50) d_GM_form_43 (by decide) (w32_id (g32_z h5)) (fun h15 => ?_) (fun h15 => ?_)
  · have T := T.1 h15
    refine wp_aload_n d_GM_form_50 rfl rfl (g_nz hX.1) ?_
    refine wp_iconst d_GM_form_51 ?_
    refine xcV_I (md' := true) (As := [gI 0]) (st := []) d_GM_form_52 ca_GM_expr ml_GM_240 im_GM_expr se_GM_expr gc_GM hX.1 (gm_o2 hX) hX.2.2.1 rfl (by decide) (by decide) rfl (fun _ => rfl) (fun _ => rfl) T (fun v7 M6 h8 T => ?_)
    refine wp_istore (L' := [.val (gR G o), .val (gI x1), .val (gI x2), .val (gI ((gUp (gUp (gUp (gUp M o 27 0) o 25 0) o 26 0) (o + 8) (Int.toNat ((gUp (gUp (gUp M o 27 0) o 25 0) o 26 0) o 13)) ((gUp (gUp (gUp M o 27 0) o 25 0) o 26 0) o 17)) o 9)), .val (gI v7)]) d_GM_form_55 (by decide) rfl ?_
    refine wp_aload_n d_GM_form_57 rfl rfl (g_nz hX.1) ?_
    refine xgetI d_GM_form_58 gc_GM f_GM_218.1 f_GM_218.2.1 f_GM_218.2.2.1 hX.1 (gm_o2 hX) hX.2.2.1 f_GM_218.2.2.2.2.1 (fun h9 => ?_)
    have T := T h9
    refine wp_aload_n d_GM_form_61 rfl rfl (g_nz hX.1) ?_
    refine xgetI d_GM_form_62 gc_GM f_GM_178.1 f_GM_178.2.1 f_GM_178.2.2.1 hX.1 (gm_o2 hX) hX.2.2.1 f_GM_178.2.2.2.2.1 (fun h10 => ?_)
    have T := T h10
    refine xi_eq (tgt := 73) d_GM_form_65 (by decide) (w32_id h9) (w32_id h10) (fun h11 => ?_) (fun h11 => ?_)
    · have T := T.1 h11
      exact wp_md (wpt T (And.intro rfl (And.intro rfl (And.intro rfl True.intro))))
    · have T := T.2 h11
      refine wp_aload_n d_GM_form_68 rfl rfl (g_nz hX.1) ?_
      refine wp_iconst d_GM_form_69 ?_
      refine xputZ d_GM_form_70 gc_GM f_GM_181.1 f_GM_181.2.1 f_GM_181.2.2.1 hX.1 (gm_o2 hX) hX.2.2.1 f_GM_181.2.2.2.1 f_GM_181.2.2.2.2.1 f_GM_181.2.2.2.2.2 (⟨by decide, by decide⟩ : (0 : Int) ≤ 1 ∧ (1 : Int) ≤ 1) ?_
      exact wp_md (wpt T (And.intro rfl (And.intro rfl (And.intro rfl True.intro))))
  · have T := T.2 h15
    refine wp_iconst d_GM_form_46 ?_
    refine wp_goto (tgt := 55) d_GM_form_47 (by decide) ?_
    refine wp_istore (L' := [.val (gR G o), .val (gI x1), .val (gI x2), .val (gI ((gUp (gUp (gUp (gUp M o 27 0) o 25 0) o 26 0) (o + 8) (Int.toNat ((gUp (gUp (gUp M o 27 0) o 25 0) o 26 0) o 13)) ((gUp (gUp (gUp M o 27 0) o 25 0) o 26 0) o 17)) o 9)), .val (gI 0)]) d_GM_form_55 (by decide) rfl ?_
    refine wp_aload_n d_GM_form_57 rfl rfl (g_nz hX.1) ?_
    refine xgetI d_GM_form_58 gc_GM f_GM_218.1 f_GM_218.2.1 f_GM_218.2.2.1 hX.1 (gm_o2 hX) hX.2.2.1 f_GM_218.2.2.2.2.1 (fun h12 => ?_)
    have T := T h12
    refine wp_aload_n d_GM_form_61 rfl rfl (g_nz hX.1) ?_
    refine xgetI d_GM_form_62 gc_GM f_GM_178.1 f_GM_178.2.1 f_GM_178.2.2.1 hX.1 (gm_o2 hX) hX.2.2.1 f_GM_178.2.2.2.2.1 (fun h13 => ?_)
    have T := T h13
    refine xi_eq (tgt := 73) d_GM_form_65 (by decide) (w32_id h12) (w32_id h13) (fun h14 => ?_) (fun h14 => ?_)
    · have T := T.1 h14
      exact wp_md (wpt T (And.intro rfl (And.intro rfl (And.intro rfl True.intro))))
    · have T := T.2 h14
      refine wp_aload_n d_GM_form_68 rfl rfl (g_nz hX.1) ?_
      refine wp_iconst d_GM_form_69 ?_
      refine xputZ d_GM_form_70 gc_GM f_GM_181.1 f_GM_181.2.1 f_GM_181.2.2.1 hX.1 (gm_o2 hX) hX.2.2.1 f_GM_181.2.2.2.1 f_GM_181.2.2.2.2.1 f_GM_181.2.2.2.2.2 (⟨by decide, by decide⟩ : (0 : Int) ≤ 1 ∧ (1 : Int) ≤ 1) ?_
      exact wp_md (wpt T (And.intro rfl (And.intro rfl (And.intro rfl True.intro))))
set_option maxHeartbeats 4000000 in
theorem w_GM_form_73 {l : Launch} {G : gG} {d : Nat} {X : gX} {M : gM} {k : Int → gM → Prop} {o : Nat} (hX : gmX X o) {x3 : Int} (hx3 : g32 x3) {x4 : Int} (hx4 : g32 x4) (T : (0 ≤ M o 27 ∧ M o 27 ≤ 1) → ((M o 27 = 0 → (g32 (M o 13) → ((0 ≤ M o 27 ∧ M o 27 ≤ 1) → ((M o 27 = 0 → (((0 : Int) ≤ M o 13 ∧ M o 13 < 4200) ∧ (g32 ((gUp M (o + 7) (Int.toNat (M o 13)) x4) o 13) → (g32 ((gUp M (o + 7) (Int.toNat (M o 13)) x4) o 17) → (g32 ((gUp M (o + 7) (Int.toNat (M o 13)) x4) o 13) → (((0 : Int) ≤ (gUp M (o + 7) (Int.toNat (M o 13)) x4) o 13 ∧ (gUp M (o + 7) (Int.toNat (M o 13)) x4) o 13 < 4200) ∧ (g32 ((gUp M (o + 7) (Int.toNat (M o 13)) x4) (o + 8) (Int.toNat ((gUp M (o + 7) (Int.toNat (M o 13)) x4) o 13))) → (((0 : Int) ≤ (gUp M (o + 7) (Int.toNat (M o 13)) x4) o 13 ∧ (gUp M (o + 7) (Int.toNat (M o 13)) x4) o 13 < 4200) ∧ (g32 ((gUp (gUp M (o + 7) (Int.toNat (M o 13)) x4) (o + 9) (Int.toNat ((gUp M (o + 7) (Int.toNat (M o 13)) x4) o 13)) (w32 (((gUp M (o + 7) (Int.toNat (M o 13)) x4) o 17) - ((gUp M (o + 7) (Int.toNat (M o 13)) x4) (o + 8) (Int.toNat ((gUp M (o + 7) (Int.toNat (M o 13)) x4) o 13)))))) o 13) → (g32 ((gUp (gUp (gUp M (o + 7) (Int.toNat (M o 13)) x4) (o + 9) (Int.toNat ((gUp M (o + 7) (Int.toNat (M o 13)) x4) o 13)) (w32 (((gUp M (o + 7) (Int.toNat (M o 13)) x4) o 17) - ((gUp M (o + 7) (Int.toNat (M o 13)) x4) (o + 8) (Int.toNat ((gUp M (o + 7) (Int.toNat (M o 13)) x4) o 13)))))) o 13 (w32 (((gUp (gUp M (o + 7) (Int.toNat (M o 13)) x4) (o + 9) (Int.toNat ((gUp M (o + 7) (Int.toNat (M o 13)) x4) o 13)) (w32 (((gUp M (o + 7) (Int.toNat (M o 13)) x4) o 17) - ((gUp M (o + 7) (Int.toNat (M o 13)) x4) (o + 8) (Int.toNat ((gUp M (o + 7) (Int.toNat (M o 13)) x4) o 13)))))) o 13) + 1))) o 13) → (k (w32 (((gUp (gUp (gUp M (o + 7) (Int.toNat (M o 13)) x4) (o + 9) (Int.toNat ((gUp M (o + 7) (Int.toNat (M o 13)) x4) o 13)) (w32 (((gUp M (o + 7) (Int.toNat (M o 13)) x4) o 17) - ((gUp M (o + 7) (Int.toNat (M o 13)) x4) (o + 8) (Int.toNat ((gUp M (o + 7) (Int.toNat (M o 13)) x4) o 13)))))) o 13 (w32 (((gUp (gUp M (o + 7) (Int.toNat (M o 13)) x4) (o + 9) (Int.toNat ((gUp M (o + 7) (Int.toNat (M o 13)) x4) o 13)) (w32 (((gUp M (o + 7) (Int.toNat (M o 13)) x4) o 17) - ((gUp M (o + 7) (Int.toNat (M o 13)) x4) (o + 8) (Int.toNat ((gUp M (o + 7) (Int.toNat (M o 13)) x4) o 13)))))) o 13) + 1))) o 13) - 1)) (gUp (gUp (gUp M (o + 7) (Int.toNat (M o 13)) x4) (o + 9) (Int.toNat ((gUp M (o + 7) (Int.toNat (M o 13)) x4) o 13)) (w32 (((gUp M (o + 7) (Int.toNat (M o 13)) x4) o 17) - ((gUp M (o + 7) (Int.toNat (M o 13)) x4) (o + 8) (Int.toNat ((gUp M (o + 7) (Int.toNat (M o 13)) x4) o 13)))))) o 13 (w32 (((gUp (gUp M (o + 7) (Int.toNat (M o 13)) x4) (o + 9) (Int.toNat ((gUp M (o + 7) (Int.toNat (M o 13)) x4) o 13)) (w32 (((gUp M (o + 7) (Int.toNat (M o 13)) x4) o 17) - ((gUp M (o + 7) (Int.toNat (M o 13)) x4) (o + 8) (Int.toNat ((gUp M (o + 7) (Int.toNat (M o 13)) x4) o 13)))))) o 13) + 1)))))))))))))) ∧ (¬ M o 27 = 0 → (((0 : Int) ≤ M o 13 ∧ M o 13 < 4200) ∧ (g32 ((gUp M (o + 7) (Int.toNat (M o 13)) (-1)) o 13) → (g32 ((gUp M (o + 7) (Int.toNat (M o 13)) (-1)) o 17) → (g32 ((gUp M (o + 7) (Int.toNat (M o 13)) (-1)) o 13) → (((0 : Int) ≤ (gUp M (o + 7) (Int.toNat (M o 13)) (-1)) o 13 ∧ (gUp M (o + 7) (Int.toNat (M o 13)) (-1)) o 13 < 4200) ∧ (g32 ((gUp M (o + 7) (Int.toNat (M o 13)) (-1)) (o + 8) (Int.toNat ((gUp M (o + 7) (Int.toNat (M o 13)) (-1)) o 13))) → (((0 : Int) ≤ (gUp M (o + 7) (Int.toNat (M o 13)) (-1)) o 13 ∧ (gUp M (o + 7) (Int.toNat (M o 13)) (-1)) o 13 < 4200) ∧ (g32 ((gUp (gUp M (o + 7) (Int.toNat (M o 13)) (-1)) (o + 9) (Int.toNat ((gUp M (o + 7) (Int.toNat (M o 13)) (-1)) o 13)) (w32 (((gUp M (o + 7) (Int.toNat (M o 13)) (-1)) o 17) - ((gUp M (o + 7) (Int.toNat (M o 13)) (-1)) (o + 8) (Int.toNat ((gUp M (o + 7) (Int.toNat (M o 13)) (-1)) o 13)))))) o 13) → (g32 ((gUp (gUp (gUp M (o + 7) (Int.toNat (M o 13)) (-1)) (o + 9) (Int.toNat ((gUp M (o + 7) (Int.toNat (M o 13)) (-1)) o 13)) (w32 (((gUp M (o + 7) (Int.toNat (M o 13)) (-1)) o 17) - ((gUp M (o + 7) (Int.toNat (M o 13)) (-1)) (o + 8) (Int.toNat ((gUp M (o + 7) (Int.toNat (M o 13)) (-1)) o 13)))))) o 13 (w32 (((gUp (gUp M (o + 7) (Int.toNat (M o 13)) (-1)) (o + 9) (Int.toNat ((gUp M (o + 7) (Int.toNat (M o 13)) (-1)) o 13)) (w32 (((gUp M (o + 7) (Int.toNat (M o 13)) (-1)) o 17) - ((gUp M (o + 7) (Int.toNat (M o 13)) (-1)) (o + 8) (Int.toNat ((gUp M (o + 7) (Int.toNat (M o 13)) (-1)) o 13)))))) o 13) + 1))) o 13) → (k (w32 (((gUp (gUp (gUp M (o + 7) (Int.toNat (M o 13)) (-1)) (o + 9) (Int.toNat ((gUp M (o + 7) (Int.toNat (M o 13)) (-1)) o 13)) (w32 (((gUp M (o + 7) (Int.toNat (M o 13)) (-1)) o 17) - ((gUp M (o + 7) (Int.toNat (M o 13)) (-1)) (o + 8) (Int.toNat ((gUp M (o + 7) (Int.toNat (M o 13)) (-1)) o 13)))))) o 13 (w32 (((gUp (gUp M (o + 7) (Int.toNat (M o 13)) (-1)) (o + 9) (Int.toNat ((gUp M (o + 7) (Int.toNat (M o 13)) (-1)) o 13)) (w32 (((gUp M (o + 7) (Int.toNat (M o 13)) (-1)) o 17) - ((gUp M (o + 7) (Int.toNat (M o 13)) (-1)) (o + 8) (Int.toNat ((gUp M (o + 7) (Int.toNat (M o 13)) (-1)) o 13)))))) o 13) + 1))) o 13) - 1)) (gUp (gUp (gUp M (o + 7) (Int.toNat (M o 13)) (-1)) (o + 9) (Int.toNat ((gUp M (o + 7) (Int.toNat (M o 13)) (-1)) o 13)) (w32 (((gUp M (o + 7) (Int.toNat (M o 13)) (-1)) o 17) - ((gUp M (o + 7) (Int.toNat (M o 13)) (-1)) (o + 8) (Int.toNat ((gUp M (o + 7) (Int.toNat (M o 13)) (-1)) o 13)))))) o 13 (w32 (((gUp (gUp M (o + 7) (Int.toNat (M o 13)) (-1)) (o + 9) (Int.toNat ((gUp M (o + 7) (Int.toNat (M o 13)) (-1)) o 13)) (w32 (((gUp M (o + 7) (Int.toNat (M o 13)) (-1)) o 17) - ((gUp M (o + 7) (Int.toNat (M o 13)) (-1)) (o + 8) (Int.toNat ((gUp M (o + 7) (Int.toNat (M o 13)) (-1)) o 13)))))) o 13) + 1)))))))))))))))))) ∧ (¬ M o 27 = 0 → (g32 ((gUp M o 9 x3) o 13) → (((0 : Int) ≤ (gUp M o 9 x3) o 13 ∧ (gUp M o 9 x3) o 13 < 4200) ∧ (g32 ((gUp M o 9 x3) (o + 8) (Int.toNat ((gUp M o 9 x3) o 13))) → (g32 ((gUp (gUp M o 9 x3) o 17 ((gUp M o 9 x3) (o + 8) (Int.toNat ((gUp M o 9 x3) o 13)))) o 13) → ((0 ≤ (gUp (gUp M o 9 x3) o 17 ((gUp M o 9 x3) (o + 8) (Int.toNat ((gUp M o 9 x3) o 13)))) o 27 ∧ (gUp (gUp M o 9 x3) o 17 ((gUp M o 9 x3) (o + 8) (Int.toNat ((gUp M o 9 x3) o 13)))) o 27 ≤ 1) → (((gUp (gUp M o 9 x3) o 17 ((gUp M o 9 x3) (o + 8) (Int.toNat ((gUp M o 9 x3) o 13)))) o 27 = 0 → (((0 : Int) ≤ (gUp (gUp M o 9 x3) o 17 ((gUp M o 9 x3) (o + 8) (Int.toNat ((gUp M o 9 x3) o 13)))) o 13 ∧ (gUp (gUp M o 9 x3) o 17 ((gUp M o 9 x3) (o + 8) (Int.toNat ((gUp M o 9 x3) o 13)))) o 13 < 4200) ∧ (g32 ((gUp (gUp (gUp M o 9 x3) o 17 ((gUp M o 9 x3) (o + 8) (Int.toNat ((gUp M o 9 x3) o 13)))) (o + 7) (Int.toNat ((gUp (gUp M o 9 x3) o 17 ((gUp M o 9 x3) (o + 8) (Int.toNat ((gUp M o 9 x3) o 13)))) o 13)) x4) o 13) → (g32 ((gUp (gUp (gUp M o 9 x3) o 17 ((gUp M o 9 x3) (o + 8) (Int.toNat ((gUp M o 9 x3) o 13)))) (o + 7) (Int.toNat ((gUp (gUp M o 9 x3) o 17 ((gUp M o 9 x3) (o + 8) (Int.toNat ((gUp M o 9 x3) o 13)))) o 13)) x4) o 17) → (g32 ((gUp (gUp (gUp M o 9 x3) o 17 ((gUp M o 9 x3) (o + 8) (Int.toNat ((gUp M o 9 x3) o 13)))) (o + 7) (Int.toNat ((gUp (gUp M o 9 x3) o 17 ((gUp M o 9 x3) (o + 8) (Int.toNat ((gUp M o 9 x3) o 13)))) o 13)) x4) o 13) → (((0 : Int) ≤ (gUp (gUp (gUp M o 9 x3) o 17 ((gUp M o 9 x3) (o + 8) (Int.toNat ((gUp M o 9 x3) o 13)))) (o + 7) (Int.toNat ((gUp (gUp M o 9 x3) o 17 ((gUp M o 9 x3) (o + 8) (Int.toNat ((gUp M o 9 x3) o 13)))) o 13)) x4) o 13 ∧ (gUp (gUp (gUp M o 9 x3) o 17 ((gUp M o 9 x3) (o + 8) (Int.toNat ((gUp M o 9 x3) o 13)))) (o + 7) (Int.toNat ((gUp (gUp M o 9 x3) o 17 ((gUp M o 9 x3) (o + 8) (Int.toNat ((gUp M o 9 x3) o 13)))) o 13)) x4) o 13 < 4200) ∧ (g32 ((gUp (gUp (gUp M o 9 x3) o 17 ((gUp M o 9 x3) (o + 8) (Int.toNat ((gUp M o 9 x3) o 13)))) (o + 7) (Int.toNat ((gUp (gUp M o 9 x3) o 17 ((gUp M o 9 x3) (o + 8) (Int.toNat ((gUp M o 9 x3) o 13)))) o 13)) x4) (o + 8) (Int.toNat ((gUp (gUp (gUp M o 9 x3) o 17 ((gUp M o 9 x3) (o + 8) (Int.toNat ((gUp M o 9 x3) o 13)))) (o + 7) (Int.toNat ((gUp (gUp M o 9 x3) o 17 ((gUp M o 9 x3) (o + 8) (Int.toNat ((gUp M o 9 x3) o 13)))) o 13)) x4) o 13))) → (((0 : Int) ≤ (gUp (gUp (gUp M o 9 x3) o 17 ((gUp M o 9 x3) (o + 8) (Int.toNat ((gUp M o 9 x3) o 13)))) (o + 7) (Int.toNat ((gUp (gUp M o 9 x3) o 17 ((gUp M o 9 x3) (o + 8) (Int.toNat ((gUp M o 9 x3) o 13)))) o 13)) x4) o 13 ∧ (gUp (gUp (gUp M o 9 x3) o 17 ((gUp M o 9 x3) (o + 8) (Int.toNat ((gUp M o 9 x3) o 13)))) (o + 7) (Int.toNat ((gUp (gUp M o 9 x3) o 17 ((gUp M o 9 x3) (o + 8) (Int.toNat ((gUp M o 9 x3) o 13)))) o 13)) x4) o 13 < 4200) ∧ (g32 ((gUp (gUp (gUp (gUp M o 9 x3) o 17 ((gUp M o 9 x3) (o + 8) (Int.toNat ((gUp M o 9 x3) o 13)))) (o + 7) (Int.toNat ((gUp (gUp M o 9 x3) o 17 ((gUp M o 9 x3) (o + 8) (Int.toNat ((gUp M o 9 x3) o 13)))) o 13)) x4) (o + 9) (Int.toNat ((gUp (gUp (gUp M o 9 x3) o 17 ((gUp M o 9 x3) (o + 8) (Int.toNat ((gUp M o 9 x3) o 13)))) (o + 7) (Int.toNat ((gUp (gUp M o 9 x3) o 17 ((gUp M o 9 x3) (o + 8) (Int.toNat ((gUp M o 9 x3) o 13)))) o 13)) x4) o 13)) (w32 (((gUp (gUp (gUp M o 9 x3) o 17 ((gUp M o 9 x3) (o + 8) (Int.toNat ((gUp M o 9 x3) o 13)))) (o + 7) (Int.toNat ((gUp (gUp M o 9 x3) o 17 ((gUp M o 9 x3) (o + 8) (Int.toNat ((gUp M o 9 x3) o 13)))) o 13)) x4) o 17) - ((gUp (gUp (gUp M o 9 x3) o 17 ((gUp M o 9 x3) (o + 8) (Int.toNat ((gUp M o 9 x3) o 13)))) (o + 7) (Int.toNat ((gUp (gUp M o 9 x3) o 17 ((gUp M o 9 x3) (o + 8) (Int.toNat ((gUp M o 9 x3) o 13)))) o 13)) x4) (o + 8) (Int.toNat ((gUp (gUp (gUp M o 9 x3) o 17 ((gUp M o 9 x3) (o + 8) (Int.toNat ((gUp M o 9 x3) o 13)))) (o + 7) (Int.toNat ((gUp (gUp M o 9 x3) o 17 ((gUp M o 9 x3) (o + 8) (Int.toNat ((gUp M o 9 x3) o 13)))) o 13)) x4) o 13)))))) o 13) → (g32 ((gUp (gUp (gUp (gUp (gUp M o 9 x3) o 17 ((gUp M o 9 x3) (o + 8) (Int.toNat ((gUp M o 9 x3) o 13)))) (o + 7) (Int.toNat ((gUp (gUp M o 9 x3) o 17 ((gUp M o 9 x3) (o + 8) (Int.toNat ((gUp M o 9 x3) o 13)))) o 13)) x4) (o + 9) (Int.toNat ((gUp (gUp (gUp M o 9 x3) o 17 ((gUp M o 9 x3) (o + 8) (Int.toNat ((gUp M o 9 x3) o 13)))) (o + 7) (Int.toNat ((gUp (gUp M o 9 x3) o 17 ((gUp M o 9 x3) (o + 8) (Int.toNat ((gUp M o 9 x3) o 13)))) o 13)) x4) o 13)) (w32 (((gUp (gUp (gUp M o 9 x3) o 17 ((gUp M o 9 x3) (o + 8) (Int.toNat ((gUp M o 9 x3) o 13)))) (o + 7) (Int.toNat ((gUp (gUp M o 9 x3) o 17 ((gUp M o 9 x3) (o + 8) (Int.toNat ((gUp M o 9 x3) o 13)))) o 13)) x4) o 17) - ((gUp (gUp (gUp M o 9 x3) o 17 ((gUp M o 9 x3) (o + 8) (Int.toNat ((gUp M o 9 x3) o 13)))) (o + 7) (Int.toNat ((gUp (gUp M o 9 x3) o 17 ((gUp M o 9 x3) (o + 8) (Int.toNat ((gUp M o 9 x3) o 13)))) o 13)) x4) (o + 8) (Int.toNat ((gUp (gUp (gUp M o 9 x3) o 17 ((gUp M o 9 x3) (o + 8) (Int.toNat ((gUp M o 9 x3) o 13)))) (o + 7) (Int.toNat ((gUp (gUp M o 9 x3) o 17 ((gUp M o 9 x3) (o + 8) (Int.toNat ((gUp M o 9 x3) o 13)))) o 13)) x4) o 13)))))) o 13 (w32 (((gUp (gUp (gUp (gUp M o 9 x3) o 17 ((gUp M o 9 x3) (o + 8) (Int.toNat ((gUp M o 9 x3) o 13)))) (o + 7) (Int.toNat ((gUp (gUp M o 9 x3) o 17 ((gUp M o 9 x3) (o + 8) (Int.toNat ((gUp M o 9 x3) o 13)))) o 13)) x4) (o + 9) (Int.toNat ((gUp (gUp (gUp M o 9 x3) o 17 ((gUp M o 9 x3) (o + 8) (Int.toNat ((gUp M o 9 x3) o 13)))) (o + 7) (Int.toNat ((gUp (gUp M o 9 x3) o 17 ((gUp M o 9 x3) (o + 8) (Int.toNat ((gUp M o 9 x3) o 13)))) o 13)) x4) o 13)) (w32 (((gUp (gUp (gUp M o 9 x3) o 17 ((gUp M o 9 x3) (o + 8) (Int.toNat ((gUp M o 9 x3) o 13)))) (o + 7) (Int.toNat ((gUp (gUp M o 9 x3) o 17 ((gUp M o 9 x3) (o + 8) (Int.toNat ((gUp M o 9 x3) o 13)))) o 13)) x4) o 17) - ((gUp (gUp (gUp M o 9 x3) o 17 ((gUp M o 9 x3) (o + 8) (Int.toNat ((gUp M o 9 x3) o 13)))) (o + 7) (Int.toNat ((gUp (gUp M o 9 x3) o 17 ((gUp M o 9 x3) (o + 8) (Int.toNat ((gUp M o 9 x3) o 13)))) o 13)) x4) (o + 8) (Int.toNat ((gUp (gUp (gUp M o 9 x3) o 17 ((gUp M o 9 x3) (o + 8) (Int.toNat ((gUp M o 9 x3) o 13)))) (o + 7) (Int.toNat ((gUp (gUp M o 9 x3) o 17 ((gUp M o 9 x3) (o + 8) (Int.toNat ((gUp M o 9 x3) o 13)))) o 13)) x4) o 13)))))) o 13) + 1))) o 13) → (k (w32 (((gUp (gUp (gUp (gUp (gUp M o 9 x3) o 17 ((gUp M o 9 x3) (o + 8) (Int.toNat ((gUp M o 9 x3) o 13)))) (o + 7) (Int.toNat ((gUp (gUp M o 9 x3) o 17 ((gUp M o 9 x3) (o + 8) (Int.toNat ((gUp M o 9 x3) o 13)))) o 13)) x4) (o + 9) (Int.toNat ((gUp (gUp (gUp M o 9 x3) o 17 ((gUp M o 9 x3) (o + 8) (Int.toNat ((gUp M o 9 x3) o 13)))) (o + 7) (Int.toNat ((gUp (gUp M o 9 x3) o 17 ((gUp M o 9 x3) (o + 8) (Int.toNat ((gUp M o 9 x3) o 13)))) o 13)) x4) o 13)) (w32 (((gUp (gUp (gUp M o 9 x3) o 17 ((gUp M o 9 x3) (o + 8) (Int.toNat ((gUp M o 9 x3) o 13)))) (o + 7) (Int.toNat ((gUp (gUp M o 9 x3) o 17 ((gUp M o 9 x3) (o + 8) (Int.toNat ((gUp M o 9 x3) o 13)))) o 13)) x4) o 17) - ((gUp (gUp (gUp M o 9 x3) o 17 ((gUp M o 9 x3) (o + 8) (Int.toNat ((gUp M o 9 x3) o 13)))) (o + 7) (Int.toNat ((gUp (gUp M o 9 x3) o 17 ((gUp M o 9 x3) (o + 8) (Int.toNat ((gUp M o 9 x3) o 13)))) o 13)) x4) (o + 8) (Int.toNat ((gUp (gUp (gUp M o 9 x3) o 17 ((gUp M o 9 x3) (o + 8) (Int.toNat ((gUp M o 9 x3) o 13)))) (o + 7) (Int.toNat ((gUp (gUp M o 9 x3) o 17 ((gUp M o 9 x3) (o + 8) (Int.toNat ((gUp M o 9 x3) o 13)))) o 13)) x4) o 13)))))) o 13 (w32 (((gUp (gUp (gUp (gUp M o 9 x3) o 17 ((gUp M o 9 x3) (o + 8) (Int.toNat ((gUp M o 9 x3) o 13)))) (o + 7) (Int.toNat ((gUp (gUp M o 9 x3) o 17 ((gUp M o 9 x3) (o + 8) (Int.toNat ((gUp M o 9 x3) o 13)))) o 13)) x4) (o + 9) (Int.toNat ((gUp (gUp (gUp M o 9 x3) o 17 ((gUp M o 9 x3) (o + 8) (Int.toNat ((gUp M o 9 x3) o 13)))) (o + 7) (Int.toNat ((gUp (gUp M o 9 x3) o 17 ((gUp M o 9 x3) (o + 8) (Int.toNat ((gUp M o 9 x3) o 13)))) o 13)) x4) o 13)) (w32 (((gUp (gUp (gUp M o 9 x3) o 17 ((gUp M o 9 x3) (o + 8) (Int.toNat ((gUp M o 9 x3) o 13)))) (o + 7) (Int.toNat ((gUp (gUp M o 9 x3) o 17 ((gUp M o 9 x3) (o + 8) (Int.toNat ((gUp M o 9 x3) o 13)))) o 13)) x4) o 17) - ((gUp (gUp (gUp M o 9 x3) o 17 ((gUp M o 9 x3) (o + 8) (Int.toNat ((gUp M o 9 x3) o 13)))) (o + 7) (Int.toNat ((gUp (gUp M o 9 x3) o 17 ((gUp M o 9 x3) (o + 8) (Int.toNat ((gUp M o 9 x3) o 13)))) o 13)) x4) (o + 8) (Int.toNat ((gUp (gUp (gUp M o 9 x3) o 17 ((gUp M o 9 x3) (o + 8) (Int.toNat ((gUp M o 9 x3) o 13)))) (o + 7) (Int.toNat ((gUp (gUp M o 9 x3) o 17 ((gUp M o 9 x3) (o + 8) (Int.toNat ((gUp M o 9 x3) o 13)))) o 13)) x4) o 13)))))) o 13) + 1))) o 13) - 1)) (gUp (gUp (gUp (gUp (gUp M o 9 x3) o 17 ((gUp M o 9 x3) (o + 8) (Int.toNat ((gUp M o 9 x3) o 13)))) (o + 7) (Int.toNat ((gUp (gUp M o 9 x3) o 17 ((gUp M o 9 x3) (o + 8) (Int.toNat ((gUp M o 9 x3) o 13)))) o 13)) x4) (o + 9) (Int.toNat ((gUp (gUp (gUp M o 9 x3) o 17 ((gUp M o 9 x3) (o + 8) (Int.toNat ((gUp M o 9 x3) o 13)))) (o + 7) (Int.toNat ((gUp (gUp M o 9 x3) o 17 ((gUp M o 9 x3) (o + 8) (Int.toNat ((gUp M o 9 x3) o 13)))) o 13)) x4) o 13)) (w32 (((gUp (gUp (gUp M o 9 x3) o 17 ((gUp M o 9 x3) (o + 8) (Int.toNat ((gUp M o 9 x3) o 13)))) (o + 7) (Int.toNat ((gUp (gUp M o 9 x3) o 17 ((gUp M o 9 x3) (o + 8) (Int.toNat ((gUp M o 9 x3) o 13)))) o 13)) x4) o 17) - ((gUp (gUp (gUp M o 9 x3) o 17 ((gUp M o 9 x3) (o + 8) (Int.toNat ((gUp M o 9 x3) o 13)))) (o + 7) (Int.toNat ((gUp (gUp M o 9 x3) o 17 ((gUp M o 9 x3) (o + 8) (Int.toNat ((gUp M o 9 x3) o 13)))) o 13)) x4) (o + 8) (Int.toNat ((gUp (gUp (gUp M o 9 x3) o 17 ((gUp M o 9 x3) (o + 8) (Int.toNat ((gUp M o 9 x3) o 13)))) (o + 7) (Int.toNat ((gUp (gUp M o 9 x3) o 17 ((gUp M o 9 x3) (o + 8) (Int.toNat ((gUp M o 9 x3) o 13)))) o 13)) x4) o 13)))))) o 13 (w32 (((gUp (gUp (gUp (gUp M o 9 x3) o 17 ((gUp M o 9 x3) (o + 8) (Int.toNat ((gUp M o 9 x3) o 13)))) (o + 7) (Int.toNat ((gUp (gUp M o 9 x3) o 17 ((gUp M o 9 x3) (o + 8) (Int.toNat ((gUp M o 9 x3) o 13)))) o 13)) x4) (o + 9) (Int.toNat ((gUp (gUp (gUp M o 9 x3) o 17 ((gUp M o 9 x3) (o + 8) (Int.toNat ((gUp M o 9 x3) o 13)))) (o + 7) (Int.toNat ((gUp (gUp M o 9 x3) o 17 ((gUp M o 9 x3) (o + 8) (Int.toNat ((gUp M o 9 x3) o 13)))) o 13)) x4) o 13)) (w32 (((gUp (gUp (gUp M o 9 x3) o 17 ((gUp M o 9 x3) (o + 8) (Int.toNat ((gUp M o 9 x3) o 13)))) (o + 7) (Int.toNat ((gUp (gUp M o 9 x3) o 17 ((gUp M o 9 x3) (o + 8) (Int.toNat ((gUp M o 9 x3) o 13)))) o 13)) x4) o 17) - ((gUp (gUp (gUp M o 9 x3) o 17 ((gUp M o 9 x3) (o + 8) (Int.toNat ((gUp M o 9 x3) o 13)))) (o + 7) (Int.toNat ((gUp (gUp M o 9 x3) o 17 ((gUp M o 9 x3) (o + 8) (Int.toNat ((gUp M o 9 x3) o 13)))) o 13)) x4) (o + 8) (Int.toNat ((gUp (gUp (gUp M o 9 x3) o 17 ((gUp M o 9 x3) (o + 8) (Int.toNat ((gUp M o 9 x3) o 13)))) (o + 7) (Int.toNat ((gUp (gUp M o 9 x3) o 17 ((gUp M o 9 x3) (o + 8) (Int.toNat ((gUp M o 9 x3) o 13)))) o 13)) x4) o 13)))))) o 13) + 1)))))))))))))) ∧ (¬ (gUp (gUp M o 9 x3) o 17 ((gUp M o 9 x3) (o + 8) (Int.toNat ((gUp M o 9 x3) o 13)))) o 27 = 0 → (((0 : Int) ≤ (gUp (gUp M o 9 x3) o 17 ((gUp M o 9 x3) (o + 8) (Int.toNat ((gUp M o 9 x3) o 13)))) o 13 ∧ (gUp (gUp M o 9 x3) o 17 ((gUp M o 9 x3) (o + 8) (Int.toNat ((gUp M o 9 x3) o 13)))) o 13 < 4200) ∧ (g32 ((gUp (gUp (gUp M o 9 x3) o 17 ((gUp M o 9 x3) (o + 8) (Int.toNat ((gUp M o 9 x3) o 13)))) (o + 7) (Int.toNat ((gUp (gUp M o 9 x3) o 17 ((gUp M o 9 x3) (o + 8) (Int.toNat ((gUp M o 9 x3) o 13)))) o 13)) (-1)) o 13) → (g32 ((gUp (gUp (gUp M o 9 x3) o 17 ((gUp M o 9 x3) (o + 8) (Int.toNat ((gUp M o 9 x3) o 13)))) (o + 7) (Int.toNat ((gUp (gUp M o 9 x3) o 17 ((gUp M o 9 x3) (o + 8) (Int.toNat ((gUp M o 9 x3) o 13)))) o 13)) (-1)) o 17) → (g32 ((gUp (gUp (gUp M o 9 x3) o 17 ((gUp M o 9 x3) (o + 8) (Int.toNat ((gUp M o 9 x3) o 13)))) (o + 7) (Int.toNat ((gUp (gUp M o 9 x3) o 17 ((gUp M o 9 x3) (o + 8) (Int.toNat ((gUp M o 9 x3) o 13)))) o 13)) (-1)) o 13) → (((0 : Int) ≤ (gUp (gUp (gUp M o 9 x3) o 17 ((gUp M o 9 x3) (o + 8) (Int.toNat ((gUp M o 9 x3) o 13)))) (o + 7) (Int.toNat ((gUp (gUp M o 9 x3) o 17 ((gUp M o 9 x3) (o + 8) (Int.toNat ((gUp M o 9 x3) o 13)))) o 13)) (-1)) o 13 ∧ (gUp (gUp (gUp M o 9 x3) o 17 ((gUp M o 9 x3) (o + 8) (Int.toNat ((gUp M o 9 x3) o 13)))) (o + 7) (Int.toNat ((gUp (gUp M o 9 x3) o 17 ((gUp M o 9 x3) (o + 8) (Int.toNat ((gUp M o 9 x3) o 13)))) o 13)) (-1)) o 13 < 4200) ∧ (g32 ((gUp (gUp (gUp M o 9 x3) o 17 ((gUp M o 9 x3) (o + 8) (Int.toNat ((gUp M o 9 x3) o 13)))) (o + 7) (Int.toNat ((gUp (gUp M o 9 x3) o 17 ((gUp M o 9 x3) (o + 8) (Int.toNat ((gUp M o 9 x3) o 13)))) o 13)) (-1)) (o + 8) (Int.toNat ((gUp (gUp (gUp M o 9 x3) o 17 ((gUp M o 9 x3) (o + 8) (Int.toNat ((gUp M o 9 x3) o 13)))) (o + 7) (Int.toNat ((gUp (gUp M o 9 x3) o 17 ((gUp M o 9 x3) (o + 8) (Int.toNat ((gUp M o 9 x3) o 13)))) o 13)) (-1)) o 13))) → (((0 : Int) ≤ (gUp (gUp (gUp M o 9 x3) o 17 ((gUp M o 9 x3) (o + 8) (Int.toNat ((gUp M o 9 x3) o 13)))) (o + 7) (Int.toNat ((gUp (gUp M o 9 x3) o 17 ((gUp M o 9 x3) (o + 8) (Int.toNat ((gUp M o 9 x3) o 13)))) o 13)) (-1)) o 13 ∧ (gUp (gUp (gUp M o 9 x3) o 17 ((gUp M o 9 x3) (o + 8) (Int.toNat ((gUp M o 9 x3) o 13)))) (o + 7) (Int.toNat ((gUp (gUp M o 9 x3) o 17 ((gUp M o 9 x3) (o + 8) (Int.toNat ((gUp M o 9 x3) o 13)))) o 13)) (-1)) o 13 < 4200) ∧ (g32 ((gUp (gUp (gUp (gUp M o 9 x3) o 17 ((gUp M o 9 x3) (o + 8) (Int.toNat ((gUp M o 9 x3) o 13)))) (o + 7) (Int.toNat ((gUp (gUp M o 9 x3) o 17 ((gUp M o 9 x3) (o + 8) (Int.toNat ((gUp M o 9 x3) o 13)))) o 13)) (-1)) (o + 9) (Int.toNat ((gUp (gUp (gUp M o 9 x3) o 17 ((gUp M o 9 x3) (o + 8) (Int.toNat ((gUp M o 9 x3) o 13)))) (o + 7) (Int.toNat ((gUp (gUp M o 9 x3) o 17 ((gUp M o 9 x3) (o + 8) (Int.toNat ((gUp M o 9 x3) o 13)))) o 13)) (-1)) o 13)) (w32 (((gUp (gUp (gUp M o 9 x3) o 17 ((gUp M o 9 x3) (o + 8) (Int.toNat ((gUp M o 9 x3) o 13)))) (o + 7) (Int.toNat ((gUp (gUp M o 9 x3) o 17 ((gUp M o 9 x3) (o + 8) (Int.toNat ((gUp M o 9 x3) o 13)))) o 13)) (-1)) o 17) - ((gUp (gUp (gUp M o 9 x3) o 17 ((gUp M o 9 x3) (o + 8) (Int.toNat ((gUp M o 9 x3) o 13)))) (o + 7) (Int.toNat ((gUp (gUp M o 9 x3) o 17 ((gUp M o 9 x3) (o + 8) (Int.toNat ((gUp M o 9 x3) o 13)))) o 13)) (-1)) (o + 8) (Int.toNat ((gUp (gUp (gUp M o 9 x3) o 17 ((gUp M o 9 x3) (o + 8) (Int.toNat ((gUp M o 9 x3) o 13)))) (o + 7) (Int.toNat ((gUp (gUp M o 9 x3) o 17 ((gUp M o 9 x3) (o + 8) (Int.toNat ((gUp M o 9 x3) o 13)))) o 13)) (-1)) o 13)))))) o 13) → (g32 ((gUp (gUp (gUp (gUp (gUp M o 9 x3) o 17 ((gUp M o 9 x3) (o + 8) (Int.toNat ((gUp M o 9 x3) o 13)))) (o + 7) (Int.toNat ((gUp (gUp M o 9 x3) o 17 ((gUp M o 9 x3) (o + 8) (Int.toNat ((gUp M o 9 x3) o 13)))) o 13)) (-1)) (o + 9) (Int.toNat ((gUp (gUp (gUp M o 9 x3) o 17 ((gUp M o 9 x3) (o + 8) (Int.toNat ((gUp M o 9 x3) o 13)))) (o + 7) (Int.toNat ((gUp (gUp M o 9 x3) o 17 ((gUp M o 9 x3) (o + 8) (Int.toNat ((gUp M o 9 x3) o 13)))) o 13)) (-1)) o 13)) (w32 (((gUp (gUp (gUp M o 9 x3) o 17 ((gUp M o 9 x3) (o + 8) (Int.toNat ((gUp M o 9 x3) o 13)))) (o + 7) (Int.toNat ((gUp (gUp M o 9 x3) o 17 ((gUp M o 9 x3) (o + 8) (Int.toNat ((gUp M o 9 x3) o 13)))) o 13)) (-1)) o 17) - ((gUp (gUp (gUp M o 9 x3) o 17 ((gUp M o 9 x3) (o + 8) (Int.toNat ((gUp M o 9 x3) o 13)))) (o + 7) (Int.toNat ((gUp (gUp M o 9 x3) o 17 ((gUp M o 9 x3) (o + 8) (Int.toNat ((gUp M o 9 x3) o 13)))) o 13)) (-1)) (o + 8) (Int.toNat ((gUp (gUp (gUp M o 9 x3) o 17 ((gUp M o 9 x3) (o + 8) (Int.toNat ((gUp M o 9 x3) o 13)))) (o + 7) (Int.toNat ((gUp (gUp M o 9 x3) o 17 ((gUp M o 9 x3) (o + 8) (Int.toNat ((gUp M o 9 x3) o 13)))) o 13)) (-1)) o 13)))))) o 13 (w32 (((gUp (gUp (gUp (gUp M o 9 x3) o 17 ((gUp M o 9 x3) (o + 8) (Int.toNat ((gUp M o 9 x3) o 13)))) (o + 7) (Int.toNat ((gUp (gUp M o 9 x3) o 17 ((gUp M o 9 x3) (o + 8) (Int.toNat ((gUp M o 9 x3) o 13)))) o 13)) (-1)) (o + 9) (Int.toNat ((gUp (gUp (gUp M o 9 x3) o 17 ((gUp M o 9 x3) (o + 8) (Int.toNat ((gUp M o 9 x3) o 13)))) (o + 7) (Int.toNat ((gUp (gUp M o 9 x3) o 17 ((gUp M o 9 x3) (o + 8) (Int.toNat ((gUp M o 9 x3) o 13)))) o 13)) (-1)) o 13)) (w32 (((gUp (gUp (gUp M o 9 x3) o 17 ((gUp M o 9 x3) (o + 8) (Int.toNat ((gUp M o 9 x3) o 13)))) (o + 7) (Int.toNat ((gUp (gUp M o 9 x3) o 17 ((gUp M o 9 x3) (o + 8) (Int.toNat ((gUp M o 9 x3) o 13)))) o 13)) (-1)) o 17) - ((gUp (gUp (gUp M o 9 x3) o 17 ((gUp M o 9 x3) (o + 8) (Int.toNat ((gUp M o 9 x3) o 13)))) (o + 7) (Int.toNat ((gUp (gUp M o 9 x3) o 17 ((gUp M o 9 x3) (o + 8) (Int.toNat ((gUp M o 9 x3) o 13)))) o 13)) (-1)) (o + 8) (Int.toNat ((gUp (gUp (gUp M o 9 x3) o 17 ((gUp M o 9 x3) (o + 8) (Int.toNat ((gUp M o 9 x3) o 13)))) (o + 7) (Int.toNat ((gUp (gUp M o 9 x3) o 17 ((gUp M o 9 x3) (o + 8) (Int.toNat ((gUp M o 9 x3) o 13)))) o 13)) (-1)) o 13)))))) o 13) + 1))) o 13) → (k (w32 (((gUp (gUp (gUp (gUp (gUp M o 9 x3) o 17 ((gUp M o 9 x3) (o + 8) (Int.toNat ((gUp M o 9 x3) o 13)))) (o + 7) (Int.toNat ((gUp (gUp M o 9 x3) o 17 ((gUp M o 9 x3) (o + 8) (Int.toNat ((gUp M o 9 x3) o 13)))) o 13)) (-1)) (o + 9) (Int.toNat ((gUp (gUp (gUp M o 9 x3) o 17 ((gUp M o 9 x3) (o + 8) (Int.toNat ((gUp M o 9 x3) o 13)))) (o + 7) (Int.toNat ((gUp (gUp M o 9 x3) o 17 ((gUp M o 9 x3) (o + 8) (Int.toNat ((gUp M o 9 x3) o 13)))) o 13)) (-1)) o 13)) (w32 (((gUp (gUp (gUp M o 9 x3) o 17 ((gUp M o 9 x3) (o + 8) (Int.toNat ((gUp M o 9 x3) o 13)))) (o + 7) (Int.toNat ((gUp (gUp M o 9 x3) o 17 ((gUp M o 9 x3) (o + 8) (Int.toNat ((gUp M o 9 x3) o 13)))) o 13)) (-1)) o 17) - ((gUp (gUp (gUp M o 9 x3) o 17 ((gUp M o 9 x3) (o + 8) (Int.toNat ((gUp M o 9 x3) o 13)))) (o + 7) (Int.toNat ((gUp (gUp M o 9 x3) o 17 ((gUp M o 9 x3) (o + 8) (Int.toNat ((gUp M o 9 x3) o 13)))) o 13)) (-1)) (o + 8) (Int.toNat ((gUp (gUp (gUp M o 9 x3) o 17 ((gUp M o 9 x3) (o + 8) (Int.toNat ((gUp M o 9 x3) o 13)))) (o + 7) (Int.toNat ((gUp (gUp M o 9 x3) o 17 ((gUp M o 9 x3) (o + 8) (Int.toNat ((gUp M o 9 x3) o 13)))) o 13)) (-1)) o 13)))))) o 13 (w32 (((gUp (gUp (gUp (gUp M o 9 x3) o 17 ((gUp M o 9 x3) (o + 8) (Int.toNat ((gUp M o 9 x3) o 13)))) (o + 7) (Int.toNat ((gUp (gUp M o 9 x3) o 17 ((gUp M o 9 x3) (o + 8) (Int.toNat ((gUp M o 9 x3) o 13)))) o 13)) (-1)) (o + 9) (Int.toNat ((gUp (gUp (gUp M o 9 x3) o 17 ((gUp M o 9 x3) (o + 8) (Int.toNat ((gUp M o 9 x3) o 13)))) (o + 7) (Int.toNat ((gUp (gUp M o 9 x3) o 17 ((gUp M o 9 x3) (o + 8) (Int.toNat ((gUp M o 9 x3) o 13)))) o 13)) (-1)) o 13)) (w32 (((gUp (gUp (gUp M o 9 x3) o 17 ((gUp M o 9 x3) (o + 8) (Int.toNat ((gUp M o 9 x3) o 13)))) (o + 7) (Int.toNat ((gUp (gUp M o 9 x3) o 17 ((gUp M o 9 x3) (o + 8) (Int.toNat ((gUp M o 9 x3) o 13)))) o 13)) (-1)) o 17) - ((gUp (gUp (gUp M o 9 x3) o 17 ((gUp M o 9 x3) (o + 8) (Int.toNat ((gUp M o 9 x3) o 13)))) (o + 7) (Int.toNat ((gUp (gUp M o 9 x3) o 17 ((gUp M o 9 x3) (o + 8) (Int.toNat ((gUp M o 9 x3) o 13)))) o 13)) (-1)) (o + 8) (Int.toNat ((gUp (gUp (gUp M o 9 x3) o 17 ((gUp M o 9 x3) (o + 8) (Int.toNat ((gUp M o 9 x3) o 13)))) (o + 7) (Int.toNat ((gUp (gUp M o 9 x3) o 17 ((gUp M o 9 x3) (o + 8) (Int.toNat ((gUp M o 9 x3) o 13)))) o 13)) (-1)) o 13)))))) o 13) + 1))) o 13) - 1)) (gUp (gUp (gUp (gUp (gUp M o 9 x3) o 17 ((gUp M o 9 x3) (o + 8) (Int.toNat ((gUp M o 9 x3) o 13)))) (o + 7) (Int.toNat ((gUp (gUp M o 9 x3) o 17 ((gUp M o 9 x3) (o + 8) (Int.toNat ((gUp M o 9 x3) o 13)))) o 13)) (-1)) (o + 9) (Int.toNat ((gUp (gUp (gUp M o 9 x3) o 17 ((gUp M o 9 x3) (o + 8) (Int.toNat ((gUp M o 9 x3) o 13)))) (o + 7) (Int.toNat ((gUp (gUp M o 9 x3) o 17 ((gUp M o 9 x3) (o + 8) (Int.toNat ((gUp M o 9 x3) o 13)))) o 13)) (-1)) o 13)) (w32 (((gUp (gUp (gUp M o 9 x3) o 17 ((gUp M o 9 x3) (o + 8) (Int.toNat ((gUp M o 9 x3) o 13)))) (o + 7) (Int.toNat ((gUp (gUp M o 9 x3) o 17 ((gUp M o 9 x3) (o + 8) (Int.toNat ((gUp M o 9 x3) o 13)))) o 13)) (-1)) o 17) - ((gUp (gUp (gUp M o 9 x3) o 17 ((gUp M o 9 x3) (o + 8) (Int.toNat ((gUp M o 9 x3) o 13)))) (o + 7) (Int.toNat ((gUp (gUp M o 9 x3) o 17 ((gUp M o 9 x3) (o + 8) (Int.toNat ((gUp M o 9 x3) o 13)))) o 13)) (-1)) (o + 8) (Int.toNat ((gUp (gUp (gUp M o 9 x3) o 17 ((gUp M o 9 x3) (o + 8) (Int.toNat ((gUp M o 9 x3) o 13)))) (o + 7) (Int.toNat ((gUp (gUp M o 9 x3) o 17 ((gUp M o 9 x3) (o + 8) (Int.toNat ((gUp M o 9 x3) o 13)))) o 13)) (-1)) o 13)))))) o 13 (w32 (((gUp (gUp (gUp (gUp M o 9 x3) o 17 ((gUp M o 9 x3) (o + 8) (Int.toNat ((gUp M o 9 x3) o 13)))) (o + 7) (Int.toNat ((gUp (gUp M o 9 x3) o 17 ((gUp M o 9 x3) (o + 8) (Int.toNat ((gUp M o 9 x3) o 13)))) o 13)) (-1)) (o + 9) (Int.toNat ((gUp (gUp (gUp M o 9 x3) o 17 ((gUp M o 9 x3) (o + 8) (Int.toNat ((gUp M o 9 x3) o 13)))) (o + 7) (Int.toNat ((gUp (gUp M o 9 x3) o 17 ((gUp M o 9 x3) (o + 8) (Int.toNat ((gUp M o 9 x3) o 13)))) o 13)) (-1)) o 13)) (w32 (((gUp (gUp (gUp M o 9 x3) o 17 ((gUp M o 9 x3) (o + 8) (Int.toNat ((gUp M o 9 x3) o 13)))) (o + 7) (Int.toNat ((gUp (gUp M o 9 x3) o 17 ((gUp M o 9 x3) (o + 8) (Int.toNat ((gUp M o 9 x3) o 13)))) o 13)) (-1)) o 17) - ((gUp (gUp (gUp M o 9 x3) o 17 ((gUp M o 9 x3) (o + 8) (Int.toNat ((gUp M o 9 x3) o 13)))) (o + 7) (Int.toNat ((gUp (gUp M o 9 x3) o 17 ((gUp M o 9 x3) (o + 8) (Int.toNat ((gUp M o 9 x3) o 13)))) o 13)) (-1)) (o + 8) (Int.toNat ((gUp (gUp (gUp M o 9 x3) o 17 ((gUp M o 9 x3) (o + 8) (Int.toNat ((gUp M o 9 x3) o 13)))) (o + 7) (Int.toNat ((gUp (gUp M o 9 x3) o 17 ((gUp M o 9 x3) (o + 8) (Int.toNat ((gUp M o 9 x3) o 13)))) o 13)) (-1)) o 13)))))) o 13) + 1))))))))))))))))))))))) : wp l G y_GM_form (gRm (d + 1)) true (kkI X k) true 73 [.val (gR G o), .unset, .unset, .val (gI x3), .val (gI x4)] [] X M 0 0 := by
  refine wp_aload_n d_GM_form_73 rfl rfl (g_nz hX.1) ?_
  refine xgetZ d_GM_form_74 gc_GM f_GM_181.1 f_GM_181.2.1 f_GM_181.2.2.1 hX.1 (gm_o2 hX) hX.2.2.1 f_GM_181.2.2.2.2.1 (fun h16 => ?_)
  have T := T h16
  refine xz_eq (tgt := 98) d_GM_form_77 (by decide) (w32_id (g32_z h16)) (fun h49 => ?_) (fun h49 => ?_)
  · have T := T.1 h49
    refine wp_aload_n d_GM_form_98 rfl rfl (g_nz hX.1) ?_
    refine xgetR d_GM_form_99 gc_GM f_GM_31.1 f_GM_31.2.1 f_GM_31.2.2.1 hX.1 (gm_o2 hX) hX.2.2.1 f_GM_31.2.2.2.2.1 (gm_row hX 6 rfl).1 ?_
    refine wp_aload_n d_GM_form_102 rfl rfl (g_nz hX.1) ?_
    refine xgetI d_GM_form_103 gc_GM f_GM_253.1 f_GM_253.2.1 f_GM_253.2.2.1 hX.1 (gm_o2 hX) hX.2.2.1 f_GM_253.2.2.2.2.1 (fun h17 => ?_)
    have T := T h17
    refine wp_aload_n d_GM_form_106 rfl rfl (g_nz hX.1) ?_
    refine xgetZ d_GM_form_107 gc_GM f_GM_181.1 f_GM_181.2.1 f_GM_181.2.2.1 hX.1 (gm_o2 hX) hX.2.2.1 f_GM_181.2.2.2.2.1 (fun h18 => ?_)
    have T := T h18
    refine xz_eq (tgt := 117) d_GM_form_110 (by decide) (w32_id (g32_z h18)) (fun h31 => ?_) (fun h31 => ?_)
    · have T := T.1 h31
      refine wp_iload d_GM_form_117 rfl ?_
      refine xiast d_GM_form_119 (gm_row hX 6 rfl).2.2.1 (gm_row hX 6 rfl).2.2.2 (gm_row hX 6 rfl).2.1 (by decide) T.1 (w32_id hx4) ?_
      have T := T.2
      refine wp_aload_n d_GM_form_120 rfl rfl (g_nz hX.1) ?_
      refine xgetR d_GM_form_121 gc_GM f_GM_37.1 f_GM_37.2.1 f_GM_37.2.2.1 hX.1 (gm_o2 hX) hX.2.2.1 f_GM_37.2.2.2.2.1 (gm_row hX 8 rfl).1 ?_
      refine wp_aload_n d_GM_form_124 rfl rfl (g_nz hX.1) ?_
      refine xgetI d_GM_form_125 gc_GM f_GM_253.1 f_GM_253.2.1 f_GM_253.2.2.1 hX.1 (gm_o2 hX) hX.2.2.1 f_GM_253.2.2.2.2.1 (fun h19 => ?_)
      have T := T h19
      refine wp_aload_n d_GM_form_128 rfl rfl (g_nz hX.1) ?_
      refine xgetI d_GM_form_129 gc_GM f_GM_250.1 f_GM_250.2.1 f_GM_250.2.2.1 hX.1 (gm_o2 hX) hX.2.2.1 f_GM_250.2.2.2.2.1 (fun h20 => ?_)
      have T := T h20
      refine wp_aload_n d_GM_form_132 rfl rfl (g_nz hX.1) ?_
      refine xgetR d_GM_form_133 gc_GM f_GM_34.1 f_GM_34.2.1 f_GM_34.2.2.1 hX.1 (gm_o2 hX) hX.2.2.1 f_GM_34.2.2.2.2.1 (gm_row hX 7 rfl).1 ?_
      refine wp_aload_n d_GM_form_136 rfl rfl (g_nz hX.1) ?_
      refine xgetI d_GM_form_137 gc_GM f_GM_253.1 f_GM_253.2.1 f_GM_253.2.2.1 hX.1 (gm_o2 hX) hX.2.2.1 f_GM_253.2.2.2.2.1 (fun h21 => ?_)
      have T := T h21
      refine wp_iaload d_GM_form_140 (gm_row hX 7 rfl).2.2.1 (gm_row hX 7 rfl).2.2.2 (gm_row hX 7 rfl).2.1 (g32_n T.1 (by decide)) T.1.1 T.1.2 (fun h22 => ?_)
      have T := T.2 h22
      refine wp_isub d_GM_form_141 ?_
      refine xiast d_GM_form_142 (gm_row hX 8 rfl).2.2.1 (gm_row hX 8 rfl).2.2.2 (gm_row hX 8 rfl).2.1 (by decide) T.1 rfl ?_
      have T := T.2
      refine wp_aload_n d_GM_form_143 rfl rfl (g_nz hX.1) ?_
      refine wp_dup d_GM_form_144 (gR_cat _) ?_
      refine xgetI d_GM_form_145 gc_GM f_GM_253.1 f_GM_253.2.1 f_GM_253.2.2.1 hX.1 (gm_o2 hX) hX.2.2.1 f_GM_253.2.2.2.2.1 (fun h23 => ?_)
      have T := T h23
      refine wp_iconst d_GM_form_148 ?_
      refine wp_iadd d_GM_form_149 ?_
      refine xputI d_GM_form_150 gc_GM f_GM_253.1 f_GM_253.2.1 f_GM_253.2.2.1 hX.1 (gm_o2 hX) hX.2.2.1 f_GM_253.2.2.2.1 f_GM_253.2.2.2.2.1 f_GM_253.2.2.2.2.2 rfl ?_
      refine wp_aload_n d_GM_form_153 rfl rfl (g_nz hX.1) ?_
      refine xgetI d_GM_form_154 gc_GM f_GM_253.1 f_GM_253.2.1 f_GM_253.2.2.1 hX.1 (gm_o2 hX) hX.2.2.1 f_GM_253.2.2.2.2.1 (fun h24 => ?_)
      have T := T h24
      refine wp_iconst d_GM_form_157 ?_
      refine wp_isub d_GM_form_158 ?_
      exact wp_st (st' := [gI (w32 (((gUp (gUp (gUp M (o + 7) (Int.toNat (M o 13)) x4) (o + 9) (Int.toNat ((gUp M (o + 7) (Int.toNat (M o 13)) x4) o 13)) (w32 (((gUp M (o + 7) (Int.toNat (M o 13)) x4) o 17) - ((gUp M (o + 7) (Int.toNat (M o 13)) x4) (o + 8) (Int.toNat ((gUp M (o + 7) (Int.toNat (M o 13)) x4) o 13)))))) o 13 (w32 (((gUp (gUp M (o + 7) (Int.toNat (M o 13)) x4) (o + 9) (Int.toNat ((gUp M (o + 7) (Int.toNat (M o 13)) x4) o 13)) (w32 (((gUp M (o + 7) (Int.toNat (M o 13)) x4) o 17) - ((gUp M (o + 7) (Int.toNat (M o 13)) x4) (o + 8) (Int.toNat ((gUp M (o + 7) (Int.toNat (M o 13)) x4) o 13)))))) o 13) + 1))) o 13) - 1))]) (by rw [gI_w]) (wp_ireturn d_GM_form_159 rfl (fun _ => rfl) (Nat.zero_le _) (Nat.zero_le _) (kI_mk (w32_ok _) T))
    · have T := T.2 h31
      refine wp_iconst d_GM_form_113 ?_
      refine wp_goto (tgt := 119) d_GM_form_114 (by decide) ?_
      refine xiast d_GM_form_119 (gm_row hX 6 rfl).2.2.1 (gm_row hX 6 rfl).2.2.2 (gm_row hX 6 rfl).2.1 (by decide) T.1 (w32_id (g32_c (x := (-1)) rfl)) ?_
      have T := T.2
      refine wp_aload_n d_GM_form_120 rfl rfl (g_nz hX.1) ?_
      refine xgetR d_GM_form_121 gc_GM f_GM_37.1 f_GM_37.2.1 f_GM_37.2.2.1 hX.1 (gm_o2 hX) hX.2.2.1 f_GM_37.2.2.2.2.1 (gm_row hX 8 rfl).1 ?_
      refine wp_aload_n d_GM_form_124 rfl rfl (g_nz hX.1) ?_
      refine xgetI d_GM_form_125 gc_GM f_GM_253.1 f_GM_253.2.1 f_GM_253.2.2.1 hX.1 (gm_o2 hX) hX.2.2.1 f_GM_253.2.2.2.2.1 (fun h25 => ?_)
      have T := T h25
      refine wp_aload_n d_GM_form_128 rfl rfl (g_nz hX.1) ?_
      refine xgetI d_GM_form_129 gc_GM f_GM_250.1 f_GM_250.2.1 f_GM_250.2.2.1 hX.1 (gm_o2 hX) hX.2.2.1 f_GM_250.2.2.2.2.1 (fun h26 => ?_)
      have T := T h26
      refine wp_aload_n d_GM_form_132 rfl rfl (g_nz hX.1) ?_
      refine xgetR d_GM_form_133 gc_GM f_GM_34.1 f_GM_34.2.1 f_GM_34.2.2.1 hX.1 (gm_o2 hX) hX.2.2.1 f_GM_34.2.2.2.2.1 (gm_row hX 7 rfl).1 ?_
      refine wp_aload_n d_GM_form_136 rfl rfl (g_nz hX.1) ?_
      refine xgetI d_GM_form_137 gc_GM f_GM_253.1 f_GM_253.2.1 f_GM_253.2.2.1 hX.1 (gm_o2 hX) hX.2.2.1 f_GM_253.2.2.2.2.1 (fun h27 => ?_)
      have T := T h27
      refine wp_iaload d_GM_form_140 (gm_row hX 7 rfl).2.2.1 (gm_row hX 7 rfl).2.2.2 (gm_row hX 7 rfl).2.1 (g32_n T.1 (by decide)) T.1.1 T.1.2 (fun h28 => ?_)
      have T := T.2 h28
      refine wp_isub d_GM_form_141 ?_
      refine xiast d_GM_form_142 (gm_row hX 8 rfl).2.2.1 (gm_row hX 8 rfl).2.2.2 (gm_row hX 8 rfl).2.1 (by decide) T.1 rfl ?_
      have T := T.2
      refine wp_aload_n d_GM_form_143 rfl rfl (g_nz hX.1) ?_
      refine wp_dup d_GM_form_144 (gR_cat _) ?_
      refine xgetI d_GM_form_145 gc_GM f_GM_253.1 f_GM_253.2.1 f_GM_253.2.2.1 hX.1 (gm_o2 hX) hX.2.2.1 f_GM_253.2.2.2.2.1 (fun h29 => ?_)
      have T := T h29
      refine wp_iconst d_GM_form_148 ?_
      refine wp_iadd d_GM_form_149 ?_
      refine xputI d_GM_form_150 gc_GM f_GM_253.1 f_GM_253.2.1 f_GM_253.2.2.1 hX.1 (gm_o2 hX) hX.2.2.1 f_GM_253.2.2.2.1 f_GM_253.2.2.2.2.1 f_GM_253.2.2.2.2.2 rfl ?_
      refine wp_aload_n d_GM_form_153 rfl rfl (g_nz hX.1) ?_
      refine xgetI d_GM_form_154 gc_GM f_GM_253.1 f_GM_253.2.1 f_GM_253.2.2.1 hX.1 (gm_o2 hX) hX.2.2.1 f_GM_253.2.2.2.2.1 (fun h30 => ?_)
      have T := T h30
      refine wp_iconst d_GM_form_157 ?_
      refine wp_isub d_GM_form_158 ?_
      exact wp_st (st' := [gI (w32 (((gUp (gUp (gUp M (o + 7) (Int.toNat (M o 13)) (-1)) (o + 9) (Int.toNat ((gUp M (o + 7) (Int.toNat (M o 13)) (-1)) o 13)) (w32 (((gUp M (o + 7) (Int.toNat (M o 13)) (-1)) o 17) - ((gUp M (o + 7) (Int.toNat (M o 13)) (-1)) (o + 8) (Int.toNat ((gUp M (o + 7) (Int.toNat (M o 13)) (-1)) o 13)))))) o 13 (w32 (((gUp (gUp M (o + 7) (Int.toNat (M o 13)) (-1)) (o + 9) (Int.toNat ((gUp M (o + 7) (Int.toNat (M o 13)) (-1)) o 13)) (w32 (((gUp M (o + 7) (Int.toNat (M o 13)) (-1)) o 17) - ((gUp M (o + 7) (Int.toNat (M o 13)) (-1)) (o + 8) (Int.toNat ((gUp M (o + 7) (Int.toNat (M o 13)) (-1)) o 13)))))) o 13) + 1))) o 13) - 1))]) (by rw [gI_w]) (wp_ireturn d_GM_form_159 rfl (fun _ => rfl) (Nat.zero_le _) (Nat.zero_le _) (kI_mk (w32_ok _) T))
  · have T := T.2 h49
    refine wp_aload_n d_GM_form_80 rfl rfl (g_nz hX.1) ?_
    refine wp_iload_n d_GM_form_81 rfl rfl ?_
    refine xputI d_GM_form_82 gc_GM f_GM_231.1 f_GM_231.2.1 f_GM_231.2.2.1 hX.1 (gm_o2 hX) hX.2.2.1 f_GM_231.2.2.2.1 f_GM_231.2.2.2.2.1 f_GM_231.2.2.2.2.2 (w32_id hx3) ?_
    refine wp_aload_n d_GM_form_85 rfl rfl (g_nz hX.1) ?_
    refine wp_aload_n d_GM_form_86 rfl rfl (g_nz hX.1) ?_
    refine xgetR d_GM_form_87 gc_GM f_GM_34.1 f_GM_34.2.1 f_GM_34.2.2.1 hX.1 (gm_o2 hX) hX.2.2.1 f_GM_34.2.2.2.2.1 (gm_row hX 7 rfl).1 ?_
    refine wp_aload_n d_GM_form_90 rfl rfl (g_nz hX.1) ?_
    refine xgetI d_GM_form_91 gc_GM f_GM_253.1 f_GM_253.2.1 f_GM_253.2.2.1 hX.1 (gm_o2 hX) hX.2.2.1 f_GM_253.2.2.2.2.1 (fun h32 => ?_)
    have T := T h32
    refine wp_iaload d_GM_form_94 (gm_row hX 7 rfl).2.2.1 (gm_row hX 7 rfl).2.2.2 (gm_row hX 7 rfl).2.1 (g32_n T.1 (by decide)) T.1.1 T.1.2 (fun h33 => ?_)
    have T := T.2 h33
    refine xputI d_GM_form_95 gc_GM f_GM_250.1 f_GM_250.2.1 f_GM_250.2.2.1 hX.1 (gm_o2 hX) hX.2.2.1 f_GM_250.2.2.2.1 f_GM_250.2.2.2.2.1 f_GM_250.2.2.2.2.2 (w32_id h33) ?_
    refine wp_aload_n d_GM_form_98 rfl rfl (g_nz hX.1) ?_
    refine xgetR d_GM_form_99 gc_GM f_GM_31.1 f_GM_31.2.1 f_GM_31.2.2.1 hX.1 (gm_o2 hX) hX.2.2.1 f_GM_31.2.2.2.2.1 (gm_row hX 6 rfl).1 ?_
    refine wp_aload_n d_GM_form_102 rfl rfl (g_nz hX.1) ?_
    refine xgetI d_GM_form_103 gc_GM f_GM_253.1 f_GM_253.2.1 f_GM_253.2.2.1 hX.1 (gm_o2 hX) hX.2.2.1 f_GM_253.2.2.2.2.1 (fun h34 => ?_)
    have T := T h34
    refine wp_aload_n d_GM_form_106 rfl rfl (g_nz hX.1) ?_
    refine xgetZ d_GM_form_107 gc_GM f_GM_181.1 f_GM_181.2.1 f_GM_181.2.2.1 hX.1 (gm_o2 hX) hX.2.2.1 f_GM_181.2.2.2.2.1 (fun h35 => ?_)
    have T := T h35
    refine xz_eq (tgt := 117) d_GM_form_110 (by decide) (w32_id (g32_z h35)) (fun h48 => ?_) (fun h48 => ?_)
    · have T := T.1 h48
      refine wp_iload d_GM_form_117 rfl ?_
      refine xiast d_GM_form_119 (gm_row hX 6 rfl).2.2.1 (gm_row hX 6 rfl).2.2.2 (gm_row hX 6 rfl).2.1 (by decide) T.1 (w32_id hx4) ?_
      have T := T.2
      refine wp_aload_n d_GM_form_120 rfl rfl (g_nz hX.1) ?_
      refine xgetR d_GM_form_121 gc_GM f_GM_37.1 f_GM_37.2.1 f_GM_37.2.2.1 hX.1 (gm_o2 hX) hX.2.2.1 f_GM_37.2.2.2.2.1 (gm_row hX 8 rfl).1 ?_
      refine wp_aload_n d_GM_form_124 rfl rfl (g_nz hX.1) ?_
      refine xgetI d_GM_form_125 gc_GM f_GM_253.1 f_GM_253.2.1 f_GM_253.2.2.1 hX.1 (gm_o2 hX) hX.2.2.1 f_GM_253.2.2.2.2.1 (fun h36 => ?_)
      have T := T h36
      refine wp_aload_n d_GM_form_128 rfl rfl (g_nz hX.1) ?_
      refine xgetI d_GM_form_129 gc_GM f_GM_250.1 f_GM_250.2.1 f_GM_250.2.2.1 hX.1 (gm_o2 hX) hX.2.2.1 f_GM_250.2.2.2.2.1 (fun h37 => ?_)
      have T := T h37
      refine wp_aload_n d_GM_form_132 rfl rfl (g_nz hX.1) ?_
      refine xgetR d_GM_form_133 gc_GM f_GM_34.1 f_GM_34.2.1 f_GM_34.2.2.1 hX.1 (gm_o2 hX) hX.2.2.1 f_GM_34.2.2.2.2.1 (gm_row hX 7 rfl).1 ?_
      refine wp_aload_n d_GM_form_136 rfl rfl (g_nz hX.1) ?_
      refine xgetI d_GM_form_137 gc_GM f_GM_253.1 f_GM_253.2.1 f_GM_253.2.2.1 hX.1 (gm_o2 hX) hX.2.2.1 f_GM_253.2.2.2.2.1 (fun h38 => ?_)
      have T := T h38
      refine wp_iaload d_GM_form_140 (gm_row hX 7 rfl).2.2.1 (gm_row hX 7 rfl).2.2.2 (gm_row hX 7 rfl).2.1 (g32_n T.1 (by decide)) T.1.1 T.1.2 (fun h39 => ?_)
      have T := T.2 h39
      refine wp_isub d_GM_form_141 ?_
      refine xiast d_GM_form_142 (gm_row hX 8 rfl).2.2.1 (gm_row hX 8 rfl).2.2.2 (gm_row hX 8 rfl).2.1 (by decide) T.1 rfl ?_
      have T := T.2
      refine wp_aload_n d_GM_form_143 rfl rfl (g_nz hX.1) ?_
      refine wp_dup d_GM_form_144 (gR_cat _) ?_
      refine xgetI d_GM_form_145 gc_GM f_GM_253.1 f_GM_253.2.1 f_GM_253.2.2.1 hX.1 (gm_o2 hX) hX.2.2.1 f_GM_253.2.2.2.2.1 (fun h40 => ?_)
      have T := T h40
      refine wp_iconst d_GM_form_148 ?_
      refine wp_iadd d_GM_form_149 ?_
      refine xputI d_GM_form_150 gc_GM f_GM_253.1 f_GM_253.2.1 f_GM_253.2.2.1 hX.1 (gm_o2 hX) hX.2.2.1 f_GM_253.2.2.2.1 f_GM_253.2.2.2.2.1 f_GM_253.2.2.2.2.2 rfl ?_
      refine wp_aload_n d_GM_form_153 rfl rfl (g_nz hX.1) ?_
      refine xgetI d_GM_form_154 gc_GM f_GM_253.1 f_GM_253.2.1 f_GM_253.2.2.1 hX.1 (gm_o2 hX) hX.2.2.1 f_GM_253.2.2.2.2.1 (fun h41 => ?_)
      have T := T h41
      refine wp_iconst d_GM_form_157 ?_
      refine wp_isub d_GM_form_158 ?_
      exact wp_st (st' := [gI (w32 (((gUp (gUp (gUp (gUp (gUp M o 9 x3) o 17 ((gUp M o 9 x3) (o + 8) (Int.toNat ((gUp M o 9 x3) o 13)))) (o + 7) (Int.toNat ((gUp (gUp M o 9 x3) o 17 ((gUp M o 9 x3) (o + 8) (Int.toNat ((gUp M o 9 x3) o 13)))) o 13)) x4) (o + 9) (Int.toNat ((gUp (gUp (gUp M o 9 x3) o 17 ((gUp M o 9 x3) (o + 8) (Int.toNat ((gUp M o 9 x3) o 13)))) (o + 7) (Int.toNat ((gUp (gUp M o 9 x3) o 17 ((gUp M o 9 x3) (o + 8) (Int.toNat ((gUp M o 9 x3) o 13)))) o 13)) x4) o 13)) (w32 (((gUp (gUp (gUp M o 9 x3) o 17 ((gUp M o 9 x3) (o + 8) (Int.toNat ((gUp M o 9 x3) o 13)))) (o + 7) (Int.toNat ((gUp (gUp M o 9 x3) o 17 ((gUp M o 9 x3) (o + 8) (Int.toNat ((gUp M o 9 x3) o 13)))) o 13)) x4) o 17) - ((gUp (gUp (gUp M o 9 x3) o 17 ((gUp M o 9 x3) (o + 8) (Int.toNat ((gUp M o 9 x3) o 13)))) (o + 7) (Int.toNat ((gUp (gUp M o 9 x3) o 17 ((gUp M o 9 x3) (o + 8) (Int.toNat ((gUp M o 9 x3) o 13)))) o 13)) x4) (o + 8) (Int.toNat ((gUp (gUp (gUp M o 9 x3) o 17 ((gUp M o 9 x3) (o + 8) (Int.toNat ((gUp M o 9 x3) o 13)))) (o + 7) (Int.toNat ((gUp (gUp M o 9 x3) o 17 ((gUp M o 9 x3) (o + 8) (Int.toNat ((gUp M o 9 x3) o 13)))) o 13)) x4) o 13)))))) o 13 (w32 (((gUp (gUp (gUp (gUp M o 9 x3) o 17 ((gUp M o 9 x3) (o + 8) (Int.toNat ((gUp M o 9 x3) o 13)))) (o + 7) (Int.toNat ((gUp (gUp M o 9 x3) o 17 ((gUp M o 9 x3) (o + 8) (Int.toNat ((gUp M o 9 x3) o 13)))) o 13)) x4) (o + 9) (Int.toNat ((gUp (gUp (gUp M o 9 x3) o 17 ((gUp M o 9 x3) (o + 8) (Int.toNat ((gUp M o 9 x3) o 13)))) (o + 7) (Int.toNat ((gUp (gUp M o 9 x3) o 17 ((gUp M o 9 x3) (o + 8) (Int.toNat ((gUp M o 9 x3) o 13)))) o 13)) x4) o 13)) (w32 (((gUp (gUp (gUp M o 9 x3) o 17 ((gUp M o 9 x3) (o + 8) (Int.toNat ((gUp M o 9 x3) o 13)))) (o + 7) (Int.toNat ((gUp (gUp M o 9 x3) o 17 ((gUp M o 9 x3) (o + 8) (Int.toNat ((gUp M o 9 x3) o 13)))) o 13)) x4) o 17) - ((gUp (gUp (gUp M o 9 x3) o 17 ((gUp M o 9 x3) (o + 8) (Int.toNat ((gUp M o 9 x3) o 13)))) (o + 7) (Int.toNat ((gUp (gUp M o 9 x3) o 17 ((gUp M o 9 x3) (o + 8) (Int.toNat ((gUp M o 9 x3) o 13)))) o 13)) x4) (o + 8) (Int.toNat ((gUp (gUp (gUp M o 9 x3) o 17 ((gUp M o 9 x3) (o + 8) (Int.toNat ((gUp M o 9 x3) o 13)))) (o + 7) (Int.toNat ((gUp (gUp M o 9 x3) o 17 ((gUp M o 9 x3) (o + 8) (Int.toNat ((gUp M o 9 x3) o 13)))) o 13)) x4) o 13)))))) o 13) + 1))) o 13) - 1))]) (by rw [gI_w]) (wp_ireturn d_GM_form_159 rfl (fun _ => rfl) (Nat.zero_le _) (Nat.zero_le _) (kI_mk (w32_ok _) T))
    · have T := T.2 h48
      refine wp_iconst d_GM_form_113 ?_
      refine wp_goto (tgt := 119) d_GM_form_114 (by decide) ?_
      refine xiast d_GM_form_119 (gm_row hX 6 rfl).2.2.1 (gm_row hX 6 rfl).2.2.2 (gm_row hX 6 rfl).2.1 (by decide) T.1 (w32_id (g32_c (x := (-1)) rfl)) ?_
      have T := T.2
      refine wp_aload_n d_GM_form_120 rfl rfl (g_nz hX.1) ?_
      refine xgetR d_GM_form_121 gc_GM f_GM_37.1 f_GM_37.2.1 f_GM_37.2.2.1 hX.1 (gm_o2 hX) hX.2.2.1 f_GM_37.2.2.2.2.1 (gm_row hX 8 rfl).1 ?_
      refine wp_aload_n d_GM_form_124 rfl rfl (g_nz hX.1) ?_
      refine xgetI d_GM_form_125 gc_GM f_GM_253.1 f_GM_253.2.1 f_GM_253.2.2.1 hX.1 (gm_o2 hX) hX.2.2.1 f_GM_253.2.2.2.2.1 (fun h42 => ?_)
      have T := T h42
      refine wp_aload_n d_GM_form_128 rfl rfl (g_nz hX.1) ?_
      refine xgetI d_GM_form_129 gc_GM f_GM_250.1 f_GM_250.2.1 f_GM_250.2.2.1 hX.1 (gm_o2 hX) hX.2.2.1 f_GM_250.2.2.2.2.1 (fun h43 => ?_)
      have T := T h43
      refine wp_aload_n d_GM_form_132 rfl rfl (g_nz hX.1) ?_
      refine xgetR d_GM_form_133 gc_GM f_GM_34.1 f_GM_34.2.1 f_GM_34.2.2.1 hX.1 (gm_o2 hX) hX.2.2.1 f_GM_34.2.2.2.2.1 (gm_row hX 7 rfl).1 ?_
      refine wp_aload_n d_GM_form_136 rfl rfl (g_nz hX.1) ?_
      refine xgetI d_GM_form_137 gc_GM f_GM_253.1 f_GM_253.2.1 f_GM_253.2.2.1 hX.1 (gm_o2 hX) hX.2.2.1 f_GM_253.2.2.2.2.1 (fun h44 => ?_)
      have T := T h44
      refine wp_iaload d_GM_form_140 (gm_row hX 7 rfl).2.2.1 (gm_row hX 7 rfl).2.2.2 (gm_row hX 7 rfl).2.1 (g32_n T.1 (by decide)) T.1.1 T.1.2 (fun h45 => ?_)
      have T := T.2 h45
      refine wp_isub d_GM_form_141 ?_
      refine xiast d_GM_form_142 (gm_row hX 8 rfl).2.2.1 (gm_row hX 8 rfl).2.2.2 (gm_row hX 8 rfl).2.1 (by decide) T.1 rfl ?_
      have T := T.2
      refine wp_aload_n d_GM_form_143 rfl rfl (g_nz hX.1) ?_
      refine wp_dup d_GM_form_144 (gR_cat _) ?_
      refine xgetI d_GM_form_145 gc_GM f_GM_253.1 f_GM_253.2.1 f_GM_253.2.2.1 hX.1 (gm_o2 hX) hX.2.2.1 f_GM_253.2.2.2.2.1 (fun h46 => ?_)
      have T := T h46
      refine wp_iconst d_GM_form_148 ?_
      refine wp_iadd d_GM_form_149 ?_
      refine xputI d_GM_form_150 gc_GM f_GM_253.1 f_GM_253.2.1 f_GM_253.2.2.1 hX.1 (gm_o2 hX) hX.2.2.1 f_GM_253.2.2.2.1 f_GM_253.2.2.2.2.1 f_GM_253.2.2.2.2.2 rfl ?_
      refine wp_aload_n d_GM_form_153 rfl rfl (g_nz hX.1) ?_
      refine xgetI d_GM_form_154 gc_GM f_GM_253.1 f_GM_253.2.1 f_GM_253.2.2.1 hX.1 (gm_o2 hX) hX.2.2.1 f_GM_253.2.2.2.2.1 (fun h47 => ?_)
      have T := T h47
      refine wp_iconst d_GM_form_157 ?_
      refine wp_isub d_GM_form_158 ?_
      exact wp_st (st' := [gI (w32 (((gUp (gUp (gUp (gUp (gUp M o 9 x3) o 17 ((gUp M o 9 x3) (o + 8) (Int.toNat ((gUp M o 9 x3) o 13)))) (o + 7) (Int.toNat ((gUp (gUp M o 9 x3) o 17 ((gUp M o 9 x3) (o + 8) (Int.toNat ((gUp M o 9 x3) o 13)))) o 13)) (-1)) (o + 9) (Int.toNat ((gUp (gUp (gUp M o 9 x3) o 17 ((gUp M o 9 x3) (o + 8) (Int.toNat ((gUp M o 9 x3) o 13)))) (o + 7) (Int.toNat ((gUp (gUp M o 9 x3) o 17 ((gUp M o 9 x3) (o + 8) (Int.toNat ((gUp M o 9 x3) o 13)))) o 13)) (-1)) o 13)) (w32 (((gUp (gUp (gUp M o 9 x3) o 17 ((gUp M o 9 x3) (o + 8) (Int.toNat ((gUp M o 9 x3) o 13)))) (o + 7) (Int.toNat ((gUp (gUp M o 9 x3) o 17 ((gUp M o 9 x3) (o + 8) (Int.toNat ((gUp M o 9 x3) o 13)))) o 13)) (-1)) o 17) - ((gUp (gUp (gUp M o 9 x3) o 17 ((gUp M o 9 x3) (o + 8) (Int.toNat ((gUp M o 9 x3) o 13)))) (o + 7) (Int.toNat ((gUp (gUp M o 9 x3) o 17 ((gUp M o 9 x3) (o + 8) (Int.toNat ((gUp M o 9 x3) o 13)))) o 13)) (-1)) (o + 8) (Int.toNat ((gUp (gUp (gUp M o 9 x3) o 17 ((gUp M o 9 x3) (o + 8) (Int.toNat ((gUp M o 9 x3) o 13)))) (o + 7) (Int.toNat ((gUp (gUp M o 9 x3) o 17 ((gUp M o 9 x3) (o + 8) (Int.toNat ((gUp M o 9 x3) o 13)))) o 13)) (-1)) o 13)))))) o 13 (w32 (((gUp (gUp (gUp (gUp M o 9 x3) o 17 ((gUp M o 9 x3) (o + 8) (Int.toNat ((gUp M o 9 x3) o 13)))) (o + 7) (Int.toNat ((gUp (gUp M o 9 x3) o 17 ((gUp M o 9 x3) (o + 8) (Int.toNat ((gUp M o 9 x3) o 13)))) o 13)) (-1)) (o + 9) (Int.toNat ((gUp (gUp (gUp M o 9 x3) o 17 ((gUp M o 9 x3) (o + 8) (Int.toNat ((gUp M o 9 x3) o 13)))) (o + 7) (Int.toNat ((gUp (gUp M o 9 x3) o 17 ((gUp M o 9 x3) (o + 8) (Int.toNat ((gUp M o 9 x3) o 13)))) o 13)) (-1)) o 13)) (w32 (((gUp (gUp (gUp M o 9 x3) o 17 ((gUp M o 9 x3) (o + 8) (Int.toNat ((gUp M o 9 x3) o 13)))) (o + 7) (Int.toNat ((gUp (gUp M o 9 x3) o 17 ((gUp M o 9 x3) (o + 8) (Int.toNat ((gUp M o 9 x3) o 13)))) o 13)) (-1)) o 17) - ((gUp (gUp (gUp M o 9 x3) o 17 ((gUp M o 9 x3) (o + 8) (Int.toNat ((gUp M o 9 x3) o 13)))) (o + 7) (Int.toNat ((gUp (gUp M o 9 x3) o 17 ((gUp M o 9 x3) (o + 8) (Int.toNat ((gUp M o 9 x3) o 13)))) o 13)) (-1)) (o + 8) (Int.toNat ((gUp (gUp (gUp M o 9 x3) o 17 ((gUp M o 9 x3) (o + 8) (Int.toNat ((gUp M o 9 x3) o 13)))) (o + 7) (Int.toNat ((gUp (gUp M o 9 x3) o 17 ((gUp M o 9 x3) (o + 8) (Int.toNat ((gUp M o 9 x3) o 13)))) o 13)) (-1)) o 13)))))) o 13) + 1))) o 13) - 1))]) (by rw [gI_w]) (wp_ireturn d_GM_form_159 rfl (fun _ => rfl) (Nat.zero_le _) (Nat.zero_le _) (kI_mk (w32_ok _) T))
theorem e_GM_form {l : Launch} {G : gG} {d : Nat} {X : gX} {M : gM} {k : Int → gM → Prop} {o : Nat} {x1 : Int} {x2 : Int} (T : wp l G y_GM_form (gRm (d + 1)) true (kkI X k) false 0 [.val (gR G o), .val (gI x1), .val (gI x2), .unset, .unset] [] X M 0 0) : cI l G y_GM_form (gRm (d + 1)) true [gR G o, gI x1, gI x2] X M k := cen_I (plainFor_of_name rfl) (by simp only [lg_sl_R, lg_sl_I, lg_sl_L, lg_sl_N, List.length_cons, List.length_nil]; decide) (by unfold gEn; simp only [lg_sl_R, lg_sl_I, lg_sl_L, lg_sl_N]; exact wpt T (And.intro rfl (And.intro rfl (And.intro rfl True.intro))))
theorem d_GM_slot_0 : decode prog_15_method_24_code 0 = .ok (.iload_n 0, 1) := by decide +kernel
theorem d_GM_slot_1 : decode prog_15_method_24_code 1 = .ok (.bipush 41, 2) := by decide +kernel
theorem d_GM_slot_3 : decode prog_15_method_24_code 3 = .ok (.irem, 1) := by decide +kernel
theorem d_GM_slot_4 : decode prog_15_method_24_code 4 = .ok (.ireturn, 1) := by decide +kernel
set_option maxHeartbeats 4000000 in
theorem w_GM_slot_0 {l : Launch} {G : gG} {d : Nat} {X : gX} {M : gM} {k : Int → gM → Prop}  {x0 : Int} (hx0 : g32 x0) (T : k (w32 (x0.tmod 41)) M) : wp l G y_GM_slot (gRm d) false (kkI X k) false 0 [.val (gI x0)] [] X M 0 0 := by
  refine wp_iload_n d_GM_slot_0 rfl rfl ?_
  refine wp_bipush d_GM_slot_1 ⟨by decide, by decide⟩ ?_
  refine xirem d_GM_slot_3 (w32_id hx0) (w32_id (g32_c (x := 41) rfl)) (by decide) ?_
  exact wp_st (st' := [gI (w32 (x0.tmod 41))]) (by rw [gI_w]) (wp_ireturn d_GM_slot_4 rfl id (Nat.zero_le _) (Nat.zero_le _) (kI_mk (w32_ok _) T))
theorem e_GM_slot {l : Launch} {G : gG} {d : Nat} {X : gX} {M : gM} {k : Int → gM → Prop}  {x0 : Int} (T : wp l G y_GM_slot (gRm d) false (kkI X k) false 0 [.val (gI x0)] [] X M 0 0) : cI l G y_GM_slot (gRm d) false [gI x0] X M k := cen_I (plainFor_of_name rfl) (by simp only [lg_sl_R, lg_sl_I, lg_sl_L, lg_sl_N, List.length_cons, List.length_nil]; decide) (by unfold gEn; simp only [lg_sl_R, lg_sl_I, lg_sl_L, lg_sl_N]; exact wpt T (And.intro rfl True.intro))
theorem d_GM_clear_0 : decode prog_15_method_25_code 0 = .ok (.iconst 0, 1) := by decide +kernel
theorem d_GM_clear_1 : decode prog_15_method_25_code 1 = .ok (.istore_n 2, 1) := by decide +kernel
theorem d_GM_clear_2 : decode prog_15_method_25_code 2 = .ok (.iload_n 2, 1) := by decide +kernel
theorem d_GM_clear_3 : decode prog_15_method_25_code 3 = .ok (.sipush 5200, 3) := by decide +kernel
theorem d_GM_clear_6 : decode prog_15_method_25_code 6 = .ok (.if_icmp .ge 22, 3) := by decide +kernel
theorem d_GM_clear_28 : decode prog_15_method_25_code 28 = .ok (.aload_n 0, 1) := by decide +kernel
theorem d_GM_clear_29 : decode prog_15_method_25_code 29 = .ok (.getfield 88, 3) := by decide +kernel
theorem d_GM_clear_32 : decode prog_15_method_25_code 32 = .ok (.iload_n 1, 1) := by decide +kernel
theorem d_GM_clear_33 : decode prog_15_method_25_code 33 = .ok (.iconst 0, 1) := by decide +kernel
theorem d_GM_clear_34 : decode prog_15_method_25_code 34 = .ok (.iastore, 1) := by decide +kernel
theorem d_GM_clear_35 : decode prog_15_method_25_code 35 = .ok (.return_, 1) := by decide +kernel
theorem d_GM_clear_9 : decode prog_15_method_25_code 9 = .ok (.aload_n 0, 1) := by decide +kernel
theorem d_GM_clear_10 : decode prog_15_method_25_code 10 = .ok (.getfield 69, 3) := by decide +kernel
theorem d_GM_clear_13 : decode prog_15_method_25_code 13 = .ok (.iload_n 1, 1) := by decide +kernel
theorem d_GM_clear_14 : decode prog_15_method_25_code 14 = .ok (.sipush 5200, 3) := by decide +kernel
theorem d_GM_clear_17 : decode prog_15_method_25_code 17 = .ok (.imul, 1) := by decide +kernel
theorem d_GM_clear_18 : decode prog_15_method_25_code 18 = .ok (.iload_n 2, 1) := by decide +kernel
theorem d_GM_clear_19 : decode prog_15_method_25_code 19 = .ok (.iadd, 1) := by decide +kernel
theorem d_GM_clear_20 : decode prog_15_method_25_code 20 = .ok (.iconst 0, 1) := by decide +kernel
theorem d_GM_clear_21 : decode prog_15_method_25_code 21 = .ok (.iastore, 1) := by decide +kernel
theorem d_GM_clear_22 : decode prog_15_method_25_code 22 = .ok (.iinc 2 1, 3) := by decide +kernel
theorem d_GM_clear_25 : decode prog_15_method_25_code 25 = .ok (.goto (-23), 3) := by decide +kernel
set_option maxHeartbeats 4000000 in
theorem w_GM_clear_0 {l : Launch} {G : gG} {d : Nat} {X : gX} {M : gM} {k : gM → Prop} {o : Nat} (hX : gmX X o) {x1 : Int} (hx1 : g32 x1) (T : wp l G y_GM_clear (gRm d) true (kkV X k) true 2 [.val (gR G o), .val (gI x1), .val (gI 0)] [] X M 0 0) : wp l G y_GM_clear (gRm d) true (kkV X k) false 0 [.val (gR G o), .val (gI x1), .unset] [] X M 0 0 := by
  refine wp_iconst d_GM_clear_0 ?_
  refine wp_istore_n (L' := [.val (gR G o), .val (gI x1), .val (gI 0)]) d_GM_clear_1 rfl (by decide) rfl ?_
  exact wp_md (wpt T (And.intro rfl (And.intro rfl (And.intro rfl True.intro))))
set_option maxHeartbeats 4000000 in
theorem w_GM_clear_2 {l : Launch} {G : gG} {d : Nat} {X : gX} {M : gM} {k : gM → Prop} {o : Nat} (hX : gmX X o) {x1 : Int} (hx1 : g32 x1) {x2 : Int} (hx2 : g32 x2) (T : (5200 ≤ x2 → (((0 : Int) ≤ x1 ∧ x1 < 42) ∧ (k (gUp M (o + 25) (Int.toNat x1) 0)))) ∧ (¬ 5200 ≤ x2 → (((0 : Int) ≤ (x1 * 5200) + x2 ∧ (x1 * 5200) + x2 < 218400) ∧ (wp l G y_GM_clear (gRm d) true (kkV X k) true 2 [.val (gR G o), .val (gI x1), .val (gI (w32 (x2 + 1)))] [] X (gUp M (o + 19) (Int.toNat ((x1 * 5200) + x2)) 0) 0 0)))) : wp l G y_GM_clear (gRm d) true (kkV X k) true 2 [.val (gR G o), .val (gI x1), .val (gI x2)] [] X M 0 0 := by
  refine wp_iload_n d_GM_clear_2 rfl rfl ?_
  refine wp_sipush d_GM_clear_3 ⟨by decide, by decide⟩ ?_
  refine xi_ge (tgt := 28) d_GM_clear_6 (by decide) (w32_id hx2) (w32_id (g32_c (x := 5200) rfl)) (fun h1 => ?_) (fun h1 => ?_)
  · have T := T.1 h1
    refine wp_aload_n d_GM_clear_28 rfl rfl (g_nz hX.1) ?_
    refine xgetR d_GM_clear_29 gc_GM f_GM_88.1 f_GM_88.2.1 f_GM_88.2.2.1 hX.1 (gm_o2 hX) hX.2.2.1 f_GM_88.2.2.2.2.1 (gm_row hX 24 rfl).1 ?_
    refine wp_iload_n d_GM_clear_32 rfl rfl ?_
    refine wp_iconst d_GM_clear_33 ?_
    refine xiast d_GM_clear_34 (gm_row hX 24 rfl).2.2.1 (gm_row hX 24 rfl).2.2.2 (gm_row hX 24 rfl).2.1 (by decide) T.1 (w32_id (g32_c (x := 0) rfl)) ?_
    have T := T.2
    exact wp_return d_GM_clear_35 rfl (fun _ => rfl) (Nat.zero_le _) (Nat.zero_le _) (kV_mk T)
  · have T := T.2 h1
    refine wp_aload_n d_GM_clear_9 rfl rfl (g_nz hX.1) ?_
    refine xgetR d_GM_clear_10 gc_GM f_GM_69.1 f_GM_69.2.1 f_GM_69.2.2.1 hX.1 (gm_o2 hX) hX.2.2.1 f_GM_69.2.2.2.2.1 (gm_row hX 18 rfl).1 ?_
    refine wp_iload_n d_GM_clear_13 rfl rfl ?_
    refine wp_sipush d_GM_clear_14 ⟨by decide, by decide⟩ ?_
    refine wp_imul d_GM_clear_17 ?_
    refine wp_iload_n d_GM_clear_18 rfl rfl ?_
    refine wp_iadd d_GM_clear_19 ?_
    refine wp_iconst d_GM_clear_20 ?_
    refine xiast d_GM_clear_21 (gm_row hX 18 rfl).2.2.1 (gm_row hX 18 rfl).2.2.2 (gm_row hX 18 rfl).2.1 (by decide) T.1 (w32_id (g32_c (x := 0) rfl)) ?_
    have T := T.2
    refine wp_iinc (L' := [.val (gR G o), .val (gI x1), .val (gI (x2 + 1))]) d_GM_clear_22 rfl (by decide) rfl ?_
    refine wp_goto (tgt := 2) d_GM_clear_25 (by decide) ?_
    exact wp_md (wpt T (And.intro rfl (And.intro rfl (And.intro (gI_w _) True.intro))))
theorem e_GM_clear {l : Launch} {G : gG} {d : Nat} {X : gX} {M : gM} {k : gM → Prop} {o : Nat} {x1 : Int} (T : wp l G y_GM_clear (gRm d) true (kkV X k) false 0 [.val (gR G o), .val (gI x1), .unset] [] X M 0 0) : cV l G y_GM_clear (gRm d) true [gR G o, gI x1] X M k := cen_V (plainFor_of_name rfl) (by simp only [lg_sl_R, lg_sl_I, lg_sl_L, lg_sl_N, List.length_cons, List.length_nil]; decide) (by unfold gEn; simp only [lg_sl_R, lg_sl_I, lg_sl_L, lg_sl_N]; exact wpt T (And.intro rfl (And.intro rfl True.intro)))
theorem d_GM_copy_0 : decode prog_15_method_26_code 0 = .ok (.iload_n 1, 1) := by decide +kernel
theorem d_GM_copy_1 : decode prog_15_method_26_code 1 = .ok (.sipush 5200, 3) := by decide +kernel
theorem d_GM_copy_4 : decode prog_15_method_26_code 4 = .ok (.imul, 1) := by decide +kernel
theorem d_GM_copy_5 : decode prog_15_method_26_code 5 = .ok (.iload_n 2, 1) := by decide +kernel
theorem d_GM_copy_6 : decode prog_15_method_26_code 6 = .ok (.iadd, 1) := by decide +kernel
theorem d_GM_copy_7 : decode prog_15_method_26_code 7 = .ok (.istore 5, 2) := by decide +kernel
theorem d_GM_copy_9 : decode prog_15_method_26_code 9 = .ok (.iload_n 3, 1) := by decide +kernel
theorem d_GM_copy_10 : decode prog_15_method_26_code 10 = .ok (.sipush 5200, 3) := by decide +kernel
theorem d_GM_copy_13 : decode prog_15_method_26_code 13 = .ok (.imul, 1) := by decide +kernel
theorem d_GM_copy_14 : decode prog_15_method_26_code 14 = .ok (.iload 4, 2) := by decide +kernel
theorem d_GM_copy_16 : decode prog_15_method_26_code 16 = .ok (.iadd, 1) := by decide +kernel
theorem d_GM_copy_17 : decode prog_15_method_26_code 17 = .ok (.istore 6, 2) := by decide +kernel
theorem d_GM_copy_19 : decode prog_15_method_26_code 19 = .ok (.aload_n 0, 1) := by decide +kernel
theorem d_GM_copy_20 : decode prog_15_method_26_code 20 = .ok (.getfield 69, 3) := by decide +kernel
theorem d_GM_copy_23 : decode prog_15_method_26_code 23 = .ok (.iload 6, 2) := by decide +kernel
theorem d_GM_copy_25 : decode prog_15_method_26_code 25 = .ok (.aload_n 0, 1) := by decide +kernel
theorem d_GM_copy_26 : decode prog_15_method_26_code 26 = .ok (.getfield 69, 3) := by decide +kernel
theorem d_GM_copy_29 : decode prog_15_method_26_code 29 = .ok (.iload 5, 2) := by decide +kernel
theorem d_GM_copy_31 : decode prog_15_method_26_code 31 = .ok (.iaload, 1) := by decide +kernel
theorem d_GM_copy_32 : decode prog_15_method_26_code 32 = .ok (.iastore, 1) := by decide +kernel
theorem d_GM_copy_33 : decode prog_15_method_26_code 33 = .ok (.aload_n 0, 1) := by decide +kernel
theorem d_GM_copy_34 : decode prog_15_method_26_code 34 = .ok (.getfield 81, 3) := by decide +kernel
theorem d_GM_copy_37 : decode prog_15_method_26_code 37 = .ok (.iload 6, 2) := by decide +kernel
theorem d_GM_copy_39 : decode prog_15_method_26_code 39 = .ok (.aload_n 0, 1) := by decide +kernel
theorem d_GM_copy_40 : decode prog_15_method_26_code 40 = .ok (.getfield 81, 3) := by decide +kernel
theorem d_GM_copy_43 : decode prog_15_method_26_code 43 = .ok (.iload 5, 2) := by decide +kernel
theorem d_GM_copy_45 : decode prog_15_method_26_code 45 = .ok (.laload, 1) := by decide +kernel
theorem d_GM_copy_46 : decode prog_15_method_26_code 46 = .ok (.lastore, 1) := by decide +kernel
theorem d_GM_copy_47 : decode prog_15_method_26_code 47 = .ok (.aload_n 0, 1) := by decide +kernel
theorem d_GM_copy_48 : decode prog_15_method_26_code 48 = .ok (.getfield 72, 3) := by decide +kernel
theorem d_GM_copy_51 : decode prog_15_method_26_code 51 = .ok (.iload 6, 2) := by decide +kernel
theorem d_GM_copy_53 : decode prog_15_method_26_code 53 = .ok (.aload_n 0, 1) := by decide +kernel
theorem d_GM_copy_54 : decode prog_15_method_26_code 54 = .ok (.getfield 72, 3) := by decide +kernel
theorem d_GM_copy_57 : decode prog_15_method_26_code 57 = .ok (.iload 5, 2) := by decide +kernel
theorem d_GM_copy_59 : decode prog_15_method_26_code 59 = .ok (.iaload, 1) := by decide +kernel
theorem d_GM_copy_60 : decode prog_15_method_26_code 60 = .ok (.iastore, 1) := by decide +kernel
theorem d_GM_copy_61 : decode prog_15_method_26_code 61 = .ok (.aload_n 0, 1) := by decide +kernel
theorem d_GM_copy_62 : decode prog_15_method_26_code 62 = .ok (.getfield 75, 3) := by decide +kernel
theorem d_GM_copy_65 : decode prog_15_method_26_code 65 = .ok (.iload 6, 2) := by decide +kernel
theorem d_GM_copy_67 : decode prog_15_method_26_code 67 = .ok (.aload_n 0, 1) := by decide +kernel
theorem d_GM_copy_68 : decode prog_15_method_26_code 68 = .ok (.getfield 75, 3) := by decide +kernel
theorem d_GM_copy_71 : decode prog_15_method_26_code 71 = .ok (.iload 5, 2) := by decide +kernel
theorem d_GM_copy_73 : decode prog_15_method_26_code 73 = .ok (.iaload, 1) := by decide +kernel
theorem d_GM_copy_74 : decode prog_15_method_26_code 74 = .ok (.iastore, 1) := by decide +kernel
theorem d_GM_copy_75 : decode prog_15_method_26_code 75 = .ok (.aload_n 0, 1) := by decide +kernel
theorem d_GM_copy_76 : decode prog_15_method_26_code 76 = .ok (.getfield 69, 3) := by decide +kernel
theorem d_GM_copy_79 : decode prog_15_method_26_code 79 = .ok (.iload 5, 2) := by decide +kernel
theorem d_GM_copy_81 : decode prog_15_method_26_code 81 = .ok (.iaload, 1) := by decide +kernel
theorem d_GM_copy_82 : decode prog_15_method_26_code 82 = .ok (.iconst 3, 1) := by decide +kernel
theorem d_GM_copy_83 : decode prog_15_method_26_code 83 = .ok (.if_icmp .eq 4, 3) := by decide +kernel
theorem d_GM_copy_87 : decode prog_15_method_26_code 87 = .ok (.aload_n 0, 1) := by decide +kernel
theorem d_GM_copy_88 : decode prog_15_method_26_code 88 = .ok (.getfield 37, 3) := by decide +kernel
theorem d_GM_copy_91 : decode prog_15_method_26_code 91 = .ok (.aload_n 0, 1) := by decide +kernel
theorem d_GM_copy_92 : decode prog_15_method_26_code 92 = .ok (.getfield 72, 3) := by decide +kernel
theorem d_GM_copy_95 : decode prog_15_method_26_code 95 = .ok (.iload 5, 2) := by decide +kernel
theorem d_GM_copy_97 : decode prog_15_method_26_code 97 = .ok (.iaload, 1) := by decide +kernel
theorem d_GM_copy_98 : decode prog_15_method_26_code 98 = .ok (.iaload, 1) := by decide +kernel
theorem d_GM_copy_99 : decode prog_15_method_26_code 99 = .ok (.istore 7, 2) := by decide +kernel
theorem d_GM_copy_101 : decode prog_15_method_26_code 101 = .ok (.aload_n 0, 1) := by decide +kernel
theorem d_GM_copy_102 : decode prog_15_method_26_code 102 = .ok (.getfield 78, 3) := by decide +kernel
theorem d_GM_copy_105 : decode prog_15_method_26_code 105 = .ok (.iload 6, 2) := by decide +kernel
theorem d_GM_copy_107 : decode prog_15_method_26_code 107 = .ok (.aload_n 0, 1) := by decide +kernel
theorem d_GM_copy_108 : decode prog_15_method_26_code 108 = .ok (.getfield 88, 3) := by decide +kernel
theorem d_GM_copy_111 : decode prog_15_method_26_code 111 = .ok (.iload_n 3, 1) := by decide +kernel
theorem d_GM_copy_112 : decode prog_15_method_26_code 112 = .ok (.iaload, 1) := by decide +kernel
theorem d_GM_copy_113 : decode prog_15_method_26_code 113 = .ok (.iastore, 1) := by decide +kernel
theorem d_GM_copy_114 : decode prog_15_method_26_code 114 = .ok (.iconst 0, 1) := by decide +kernel
theorem d_GM_copy_115 : decode prog_15_method_26_code 115 = .ok (.istore 8, 2) := by decide +kernel
theorem d_GM_copy_86 : decode prog_15_method_26_code 86 = .ok (.return_, 1) := by decide +kernel
theorem d_GM_copy_117 : decode prog_15_method_26_code 117 = .ok (.iload 8, 2) := by decide +kernel
theorem d_GM_copy_119 : decode prog_15_method_26_code 119 = .ok (.iload 7, 2) := by decide +kernel
theorem d_GM_copy_121 : decode prog_15_method_26_code 121 = .ok (.if_icmp .ge 50, 3) := by decide +kernel
theorem d_GM_copy_171 : decode prog_15_method_26_code 171 = .ok (.aload_n 0, 1) := by decide +kernel
theorem d_GM_copy_172 : decode prog_15_method_26_code 172 = .ok (.getfield 88, 3) := by decide +kernel
theorem d_GM_copy_175 : decode prog_15_method_26_code 175 = .ok (.iload_n 3, 1) := by decide +kernel
theorem d_GM_copy_176 : decode prog_15_method_26_code 176 = .ok (.dup2, 1) := by decide +kernel
theorem d_GM_copy_177 : decode prog_15_method_26_code 177 = .ok (.iaload, 1) := by decide +kernel
theorem d_GM_copy_178 : decode prog_15_method_26_code 178 = .ok (.iload 7, 2) := by decide +kernel
theorem d_GM_copy_180 : decode prog_15_method_26_code 180 = .ok (.iadd, 1) := by decide +kernel
theorem d_GM_copy_181 : decode prog_15_method_26_code 181 = .ok (.iastore, 1) := by decide +kernel
theorem d_GM_copy_182 : decode prog_15_method_26_code 182 = .ok (.return_, 1) := by decide +kernel
theorem d_GM_copy_124 : decode prog_15_method_26_code 124 = .ok (.aload_n 0, 1) := by decide +kernel
theorem d_GM_copy_125 : decode prog_15_method_26_code 125 = .ok (.getfield 85, 3) := by decide +kernel
theorem d_GM_copy_128 : decode prog_15_method_26_code 128 = .ok (.iload_n 3, 1) := by decide +kernel
theorem d_GM_copy_129 : decode prog_15_method_26_code 129 = .ok (.sipush 20800, 3) := by decide +kernel
theorem d_GM_copy_132 : decode prog_15_method_26_code 132 = .ok (.imul, 1) := by decide +kernel
theorem d_GM_copy_133 : decode prog_15_method_26_code 133 = .ok (.aload_n 0, 1) := by decide +kernel
theorem d_GM_copy_134 : decode prog_15_method_26_code 134 = .ok (.getfield 88, 3) := by decide +kernel
theorem d_GM_copy_137 : decode prog_15_method_26_code 137 = .ok (.iload_n 3, 1) := by decide +kernel
theorem d_GM_copy_138 : decode prog_15_method_26_code 138 = .ok (.iaload, 1) := by decide +kernel
theorem d_GM_copy_139 : decode prog_15_method_26_code 139 = .ok (.iadd, 1) := by decide +kernel
theorem d_GM_copy_140 : decode prog_15_method_26_code 140 = .ok (.iload 8, 2) := by decide +kernel
theorem d_GM_copy_142 : decode prog_15_method_26_code 142 = .ok (.iadd, 1) := by decide +kernel
theorem d_GM_copy_143 : decode prog_15_method_26_code 143 = .ok (.aload_n 0, 1) := by decide +kernel
theorem d_GM_copy_144 : decode prog_15_method_26_code 144 = .ok (.getfield 85, 3) := by decide +kernel
theorem d_GM_copy_147 : decode prog_15_method_26_code 147 = .ok (.iload_n 1, 1) := by decide +kernel
theorem d_GM_copy_148 : decode prog_15_method_26_code 148 = .ok (.sipush 20800, 3) := by decide +kernel
theorem d_GM_copy_151 : decode prog_15_method_26_code 151 = .ok (.imul, 1) := by decide +kernel
theorem d_GM_copy_152 : decode prog_15_method_26_code 152 = .ok (.aload_n 0, 1) := by decide +kernel
theorem d_GM_copy_153 : decode prog_15_method_26_code 153 = .ok (.getfield 78, 3) := by decide +kernel
theorem d_GM_copy_156 : decode prog_15_method_26_code 156 = .ok (.iload 5, 2) := by decide +kernel
theorem d_GM_copy_158 : decode prog_15_method_26_code 158 = .ok (.iaload, 1) := by decide +kernel
theorem d_GM_copy_159 : decode prog_15_method_26_code 159 = .ok (.iadd, 1) := by decide +kernel
theorem d_GM_copy_160 : decode prog_15_method_26_code 160 = .ok (.iload 8, 2) := by decide +kernel
theorem d_GM_copy_162 : decode prog_15_method_26_code 162 = .ok (.iadd, 1) := by decide +kernel
theorem d_GM_copy_163 : decode prog_15_method_26_code 163 = .ok (.iaload, 1) := by decide +kernel
theorem d_GM_copy_164 : decode prog_15_method_26_code 164 = .ok (.iastore, 1) := by decide +kernel
theorem d_GM_copy_165 : decode prog_15_method_26_code 165 = .ok (.iinc 8 1, 3) := by decide +kernel
theorem d_GM_copy_168 : decode prog_15_method_26_code 168 = .ok (.goto (-51), 3) := by decide +kernel
set_option maxHeartbeats 4000000 in
theorem w_GM_copy_0 {l : Launch} {G : gG} {d : Nat} {X : gX} {M : gM} {k : gM → Prop} {o : Nat} (hX : gmX X o) {x1 : Int} (hx1 : g32 x1) {x2 : Int} (hx2 : g32 x2) {x3 : Int} (hx3 : g32 x3) {x4 : Int} (hx4 : g32 x4) (T : ((0 : Int) ≤ (x1 * 5200) + x2 ∧ (x1 * 5200) + x2 < 218400) ∧ (g32 (M (o + 19) (Int.toNat ((x1 * 5200) + x2))) → (((0 : Int) ≤ (x3 * 5200) + x4 ∧ (x3 * 5200) + x4 < 218400) ∧ (((0 : Int) ≤ (x1 * 5200) + x2 ∧ (x1 * 5200) + x2 < 218400) ∧ (g64 ((gUp M (o + 19) (Int.toNat ((x3 * 5200) + x4)) (M (o + 19) (Int.toNat ((x1 * 5200) + x2)))) (o + 23) (Int.toNat ((x1 * 5200) + x2))) → (((0 : Int) ≤ (x3 * 5200) + x4 ∧ (x3 * 5200) + x4 < 218400) ∧ (((0 : Int) ≤ (x1 * 5200) + x2 ∧ (x1 * 5200) + x2 < 218400) ∧ (g32 ((gUp (gUp M (o + 19) (Int.toNat ((x3 * 5200) + x4)) (M (o + 19) (Int.toNat ((x1 * 5200) + x2)))) (o + 23) (Int.toNat ((x3 * 5200) + x4)) ((gUp M (o + 19) (Int.toNat ((x3 * 5200) + x4)) (M (o + 19) (Int.toNat ((x1 * 5200) + x2)))) (o + 23) (Int.toNat ((x1 * 5200) + x2)))) (o + 20) (Int.toNat ((x1 * 5200) + x2))) → (((0 : Int) ≤ (x3 * 5200) + x4 ∧ (x3 * 5200) + x4 < 218400) ∧ (((0 : Int) ≤ (x1 * 5200) + x2 ∧ (x1 * 5200) + x2 < 218400) ∧ (g32 ((gUp (gUp (gUp M (o + 19) (Int.toNat ((x3 * 5200) + x4)) (M (o + 19) (Int.toNat ((x1 * 5200) + x2)))) (o + 23) (Int.toNat ((x3 * 5200) + x4)) ((gUp M (o + 19) (Int.toNat ((x3 * 5200) + x4)) (M (o + 19) (Int.toNat ((x1 * 5200) + x2)))) (o + 23) (Int.toNat ((x1 * 5200) + x2)))) (o + 20) (Int.toNat ((x3 * 5200) + x4)) ((gUp (gUp M (o + 19) (Int.toNat ((x3 * 5200) + x4)) (M (o + 19) (Int.toNat ((x1 * 5200) + x2)))) (o + 23) (Int.toNat ((x3 * 5200) + x4)) ((gUp M (o + 19) (Int.toNat ((x3 * 5200) + x4)) (M (o + 19) (Int.toNat ((x1 * 5200) + x2)))) (o + 23) (Int.toNat ((x1 * 5200) + x2)))) (o + 20) (Int.toNat ((x1 * 5200) + x2)))) (o + 21) (Int.toNat ((x1 * 5200) + x2))) → (((0 : Int) ≤ (x3 * 5200) + x4 ∧ (x3 * 5200) + x4 < 218400) ∧ (((0 : Int) ≤ (x1 * 5200) + x2 ∧ (x1 * 5200) + x2 < 218400) ∧ (g32 ((gUp (gUp (gUp (gUp M (o + 19) (Int.toNat ((x3 * 5200) + x4)) (M (o + 19) (Int.toNat ((x1 * 5200) + x2)))) (o + 23) (Int.toNat ((x3 * 5200) + x4)) ((gUp M (o + 19) (Int.toNat ((x3 * 5200) + x4)) (M (o + 19) (Int.toNat ((x1 * 5200) + x2)))) (o + 23) (Int.toNat ((x1 * 5200) + x2)))) (o + 20) (Int.toNat ((x3 * 5200) + x4)) ((gUp (gUp M (o + 19) (Int.toNat ((x3 * 5200) + x4)) (M (o + 19) (Int.toNat ((x1 * 5200) + x2)))) (o + 23) (Int.toNat ((x3 * 5200) + x4)) ((gUp M (o + 19) (Int.toNat ((x3 * 5200) + x4)) (M (o + 19) (Int.toNat ((x1 * 5200) + x2)))) (o + 23) (Int.toNat ((x1 * 5200) + x2)))) (o + 20) (Int.toNat ((x1 * 5200) + x2)))) (o + 21) (Int.toNat ((x3 * 5200) + x4)) ((gUp (gUp (gUp M (o + 19) (Int.toNat ((x3 * 5200) + x4)) (M (o + 19) (Int.toNat ((x1 * 5200) + x2)))) (o + 23) (Int.toNat ((x3 * 5200) + x4)) ((gUp M (o + 19) (Int.toNat ((x3 * 5200) + x4)) (M (o + 19) (Int.toNat ((x1 * 5200) + x2)))) (o + 23) (Int.toNat ((x1 * 5200) + x2)))) (o + 20) (Int.toNat ((x3 * 5200) + x4)) ((gUp (gUp M (o + 19) (Int.toNat ((x3 * 5200) + x4)) (M (o + 19) (Int.toNat ((x1 * 5200) + x2)))) (o + 23) (Int.toNat ((x3 * 5200) + x4)) ((gUp M (o + 19) (Int.toNat ((x3 * 5200) + x4)) (M (o + 19) (Int.toNat ((x1 * 5200) + x2)))) (o + 23) (Int.toNat ((x1 * 5200) + x2)))) (o + 20) (Int.toNat ((x1 * 5200) + x2)))) (o + 21) (Int.toNat ((x1 * 5200) + x2)))) (o + 19) (Int.toNat ((x1 * 5200) + x2))) → (((gUp (gUp (gUp (gUp M (o + 19) (Int.toNat ((x3 * 5200) + x4)) (M (o + 19) (Int.toNat ((x1 * 5200) + x2)))) (o + 23) (Int.toNat ((x3 * 5200) + x4)) ((gUp M (o + 19) (Int.toNat ((x3 * 5200) + x4)) (M (o + 19) (Int.toNat ((x1 * 5200) + x2)))) (o + 23) (Int.toNat ((x1 * 5200) + x2)))) (o + 20) (Int.toNat ((x3 * 5200) + x4)) ((gUp (gUp M (o + 19) (Int.toNat ((x3 * 5200) + x4)) (M (o + 19) (Int.toNat ((x1 * 5200) + x2)))) (o + 23) (Int.toNat ((x3 * 5200) + x4)) ((gUp M (o + 19) (Int.toNat ((x3 * 5200) + x4)) (M (o + 19) (Int.toNat ((x1 * 5200) + x2)))) (o + 23) (Int.toNat ((x1 * 5200) + x2)))) (o + 20) (Int.toNat ((x1 * 5200) + x2)))) (o + 21) (Int.toNat ((x3 * 5200) + x4)) ((gUp (gUp (gUp M (o + 19) (Int.toNat ((x3 * 5200) + x4)) (M (o + 19) (Int.toNat ((x1 * 5200) + x2)))) (o + 23) (Int.toNat ((x3 * 5200) + x4)) ((gUp M (o + 19) (Int.toNat ((x3 * 5200) + x4)) (M (o + 19) (Int.toNat ((x1 * 5200) + x2)))) (o + 23) (Int.toNat ((x1 * 5200) + x2)))) (o + 20) (Int.toNat ((x3 * 5200) + x4)) ((gUp (gUp M (o + 19) (Int.toNat ((x3 * 5200) + x4)) (M (o + 19) (Int.toNat ((x1 * 5200) + x2)))) (o + 23) (Int.toNat ((x3 * 5200) + x4)) ((gUp M (o + 19) (Int.toNat ((x3 * 5200) + x4)) (M (o + 19) (Int.toNat ((x1 * 5200) + x2)))) (o + 23) (Int.toNat ((x1 * 5200) + x2)))) (o + 20) (Int.toNat ((x1 * 5200) + x2)))) (o + 21) (Int.toNat ((x1 * 5200) + x2)))) (o + 19) (Int.toNat ((x1 * 5200) + x2)) = 3 → (((0 : Int) ≤ (x1 * 5200) + x2 ∧ (x1 * 5200) + x2 < 218400) ∧ (g32 ((gUp (gUp (gUp (gUp M (o + 19) (Int.toNat ((x3 * 5200) + x4)) (M (o + 19) (Int.toNat ((x1 * 5200) + x2)))) (o + 23) (Int.toNat ((x3 * 5200) + x4)) ((gUp M (o + 19) (Int.toNat ((x3 * 5200) + x4)) (M (o + 19) (Int.toNat ((x1 * 5200) + x2)))) (o + 23) (Int.toNat ((x1 * 5200) + x2)))) (o + 20) (Int.toNat ((x3 * 5200) + x4)) ((gUp (gUp M (o + 19) (Int.toNat ((x3 * 5200) + x4)) (M (o + 19) (Int.toNat ((x1 * 5200) + x2)))) (o + 23) (Int.toNat ((x3 * 5200) + x4)) ((gUp M (o + 19) (Int.toNat ((x3 * 5200) + x4)) (M (o + 19) (Int.toNat ((x1 * 5200) + x2)))) (o + 23) (Int.toNat ((x1 * 5200) + x2)))) (o + 20) (Int.toNat ((x1 * 5200) + x2)))) (o + 21) (Int.toNat ((x3 * 5200) + x4)) ((gUp (gUp (gUp M (o + 19) (Int.toNat ((x3 * 5200) + x4)) (M (o + 19) (Int.toNat ((x1 * 5200) + x2)))) (o + 23) (Int.toNat ((x3 * 5200) + x4)) ((gUp M (o + 19) (Int.toNat ((x3 * 5200) + x4)) (M (o + 19) (Int.toNat ((x1 * 5200) + x2)))) (o + 23) (Int.toNat ((x1 * 5200) + x2)))) (o + 20) (Int.toNat ((x3 * 5200) + x4)) ((gUp (gUp M (o + 19) (Int.toNat ((x3 * 5200) + x4)) (M (o + 19) (Int.toNat ((x1 * 5200) + x2)))) (o + 23) (Int.toNat ((x3 * 5200) + x4)) ((gUp M (o + 19) (Int.toNat ((x3 * 5200) + x4)) (M (o + 19) (Int.toNat ((x1 * 5200) + x2)))) (o + 23) (Int.toNat ((x1 * 5200) + x2)))) (o + 20) (Int.toNat ((x1 * 5200) + x2)))) (o + 21) (Int.toNat ((x1 * 5200) + x2)))) (o + 20) (Int.toNat ((x1 * 5200) + x2))) → (((0 : Int) ≤ (gUp (gUp (gUp (gUp M (o + 19) (Int.toNat ((x3 * 5200) + x4)) (M (o + 19) (Int.toNat ((x1 * 5200) + x2)))) (o + 23) (Int.toNat ((x3 * 5200) + x4)) ((gUp M (o + 19) (Int.toNat ((x3 * 5200) + x4)) (M (o + 19) (Int.toNat ((x1 * 5200) + x2)))) (o + 23) (Int.toNat ((x1 * 5200) + x2)))) (o + 20) (Int.toNat ((x3 * 5200) + x4)) ((gUp (gUp M (o + 19) (Int.toNat ((x3 * 5200) + x4)) (M (o + 19) (Int.toNat ((x1 * 5200) + x2)))) (o + 23) (Int.toNat ((x3 * 5200) + x4)) ((gUp M (o + 19) (Int.toNat ((x3 * 5200) + x4)) (M (o + 19) (Int.toNat ((x1 * 5200) + x2)))) (o + 23) (Int.toNat ((x1 * 5200) + x2)))) (o + 20) (Int.toNat ((x1 * 5200) + x2)))) (o + 21) (Int.toNat ((x3 * 5200) + x4)) ((gUp (gUp (gUp M (o + 19) (Int.toNat ((x3 * 5200) + x4)) (M (o + 19) (Int.toNat ((x1 * 5200) + x2)))) (o + 23) (Int.toNat ((x3 * 5200) + x4)) ((gUp M (o + 19) (Int.toNat ((x3 * 5200) + x4)) (M (o + 19) (Int.toNat ((x1 * 5200) + x2)))) (o + 23) (Int.toNat ((x1 * 5200) + x2)))) (o + 20) (Int.toNat ((x3 * 5200) + x4)) ((gUp (gUp M (o + 19) (Int.toNat ((x3 * 5200) + x4)) (M (o + 19) (Int.toNat ((x1 * 5200) + x2)))) (o + 23) (Int.toNat ((x3 * 5200) + x4)) ((gUp M (o + 19) (Int.toNat ((x3 * 5200) + x4)) (M (o + 19) (Int.toNat ((x1 * 5200) + x2)))) (o + 23) (Int.toNat ((x1 * 5200) + x2)))) (o + 20) (Int.toNat ((x1 * 5200) + x2)))) (o + 21) (Int.toNat ((x1 * 5200) + x2)))) (o + 20) (Int.toNat ((x1 * 5200) + x2)) ∧ (gUp (gUp (gUp (gUp M (o + 19) (Int.toNat ((x3 * 5200) + x4)) (M (o + 19) (Int.toNat ((x1 * 5200) + x2)))) (o + 23) (Int.toNat ((x3 * 5200) + x4)) ((gUp M (o + 19) (Int.toNat ((x3 * 5200) + x4)) (M (o + 19) (Int.toNat ((x1 * 5200) + x2)))) (o + 23) (Int.toNat ((x1 * 5200) + x2)))) (o + 20) (Int.toNat ((x3 * 5200) + x4)) ((gUp (gUp M (o + 19) (Int.toNat ((x3 * 5200) + x4)) (M (o + 19) (Int.toNat ((x1 * 5200) + x2)))) (o + 23) (Int.toNat ((x3 * 5200) + x4)) ((gUp M (o + 19) (Int.toNat ((x3 * 5200) + x4)) (M (o + 19) (Int.toNat ((x1 * 5200) + x2)))) (o + 23) (Int.toNat ((x1 * 5200) + x2)))) (o + 20) (Int.toNat ((x1 * 5200) + x2)))) (o + 21) (Int.toNat ((x3 * 5200) + x4)) ((gUp (gUp (gUp M (o + 19) (Int.toNat ((x3 * 5200) + x4)) (M (o + 19) (Int.toNat ((x1 * 5200) + x2)))) (o + 23) (Int.toNat ((x3 * 5200) + x4)) ((gUp M (o + 19) (Int.toNat ((x3 * 5200) + x4)) (M (o + 19) (Int.toNat ((x1 * 5200) + x2)))) (o + 23) (Int.toNat ((x1 * 5200) + x2)))) (o + 20) (Int.toNat ((x3 * 5200) + x4)) ((gUp (gUp M (o + 19) (Int.toNat ((x3 * 5200) + x4)) (M (o + 19) (Int.toNat ((x1 * 5200) + x2)))) (o + 23) (Int.toNat ((x3 * 5200) + x4)) ((gUp M (o + 19) (Int.toNat ((x3 * 5200) + x4)) (M (o + 19) (Int.toNat ((x1 * 5200) + x2)))) (o + 23) (Int.toNat ((x1 * 5200) + x2)))) (o + 20) (Int.toNat ((x1 * 5200) + x2)))) (o + 21) (Int.toNat ((x1 * 5200) + x2)))) (o + 20) (Int.toNat ((x1 * 5200) + x2)) < 4200) ∧ (g32 ((gUp (gUp (gUp (gUp M (o + 19) (Int.toNat ((x3 * 5200) + x4)) (M (o + 19) (Int.toNat ((x1 * 5200) + x2)))) (o + 23) (Int.toNat ((x3 * 5200) + x4)) ((gUp M (o + 19) (Int.toNat ((x3 * 5200) + x4)) (M (o + 19) (Int.toNat ((x1 * 5200) + x2)))) (o + 23) (Int.toNat ((x1 * 5200) + x2)))) (o + 20) (Int.toNat ((x3 * 5200) + x4)) ((gUp (gUp M (o + 19) (Int.toNat ((x3 * 5200) + x4)) (M (o + 19) (Int.toNat ((x1 * 5200) + x2)))) (o + 23) (Int.toNat ((x3 * 5200) + x4)) ((gUp M (o + 19) (Int.toNat ((x3 * 5200) + x4)) (M (o + 19) (Int.toNat ((x1 * 5200) + x2)))) (o + 23) (Int.toNat ((x1 * 5200) + x2)))) (o + 20) (Int.toNat ((x1 * 5200) + x2)))) (o + 21) (Int.toNat ((x3 * 5200) + x4)) ((gUp (gUp (gUp M (o + 19) (Int.toNat ((x3 * 5200) + x4)) (M (o + 19) (Int.toNat ((x1 * 5200) + x2)))) (o + 23) (Int.toNat ((x3 * 5200) + x4)) ((gUp M (o + 19) (Int.toNat ((x3 * 5200) + x4)) (M (o + 19) (Int.toNat ((x1 * 5200) + x2)))) (o + 23) (Int.toNat ((x1 * 5200) + x2)))) (o + 20) (Int.toNat ((x3 * 5200) + x4)) ((gUp (gUp M (o + 19) (Int.toNat ((x3 * 5200) + x4)) (M (o + 19) (Int.toNat ((x1 * 5200) + x2)))) (o + 23) (Int.toNat ((x3 * 5200) + x4)) ((gUp M (o + 19) (Int.toNat ((x3 * 5200) + x4)) (M (o + 19) (Int.toNat ((x1 * 5200) + x2)))) (o + 23) (Int.toNat ((x1 * 5200) + x2)))) (o + 20) (Int.toNat ((x1 * 5200) + x2)))) (o + 21) (Int.toNat ((x1 * 5200) + x2)))) (o + 9) (Int.toNat ((gUp (gUp (gUp (gUp M (o + 19) (Int.toNat ((x3 * 5200) + x4)) (M (o + 19) (Int.toNat ((x1 * 5200) + x2)))) (o + 23) (Int.toNat ((x3 * 5200) + x4)) ((gUp M (o + 19) (Int.toNat ((x3 * 5200) + x4)) (M (o + 19) (Int.toNat ((x1 * 5200) + x2)))) (o + 23) (Int.toNat ((x1 * 5200) + x2)))) (o + 20) (Int.toNat ((x3 * 5200) + x4)) ((gUp (gUp M (o + 19) (Int.toNat ((x3 * 5200) + x4)) (M (o + 19) (Int.toNat ((x1 * 5200) + x2)))) (o + 23) (Int.toNat ((x3 * 5200) + x4)) ((gUp M (o + 19) (Int.toNat ((x3 * 5200) + x4)) (M (o + 19) (Int.toNat ((x1 * 5200) + x2)))) (o + 23) (Int.toNat ((x1 * 5200) + x2)))) (o + 20) (Int.toNat ((x1 * 5200) + x2)))) (o + 21) (Int.toNat ((x3 * 5200) + x4)) ((gUp (gUp (gUp M (o + 19) (Int.toNat ((x3 * 5200) + x4)) (M (o + 19) (Int.toNat ((x1 * 5200) + x2)))) (o + 23) (Int.toNat ((x3 * 5200) + x4)) ((gUp M (o + 19) (Int.toNat ((x3 * 5200) + x4)) (M (o + 19) (Int.toNat ((x1 * 5200) + x2)))) (o + 23) (Int.toNat ((x1 * 5200) + x2)))) (o + 20) (Int.toNat ((x3 * 5200) + x4)) ((gUp (gUp M (o + 19) (Int.toNat ((x3 * 5200) + x4)) (M (o + 19) (Int.toNat ((x1 * 5200) + x2)))) (o + 23) (Int.toNat ((x3 * 5200) + x4)) ((gUp M (o + 19) (Int.toNat ((x3 * 5200) + x4)) (M (o + 19) (Int.toNat ((x1 * 5200) + x2)))) (o + 23) (Int.toNat ((x1 * 5200) + x2)))) (o + 20) (Int.toNat ((x1 * 5200) + x2)))) (o + 21) (Int.toNat ((x1 * 5200) + x2)))) (o + 20) (Int.toNat ((x1 * 5200) + x2))))) → (((0 : Int) ≤ x3 ∧ x3 < 42) ∧ (g32 ((gUp (gUp (gUp (gUp M (o + 19) (Int.toNat ((x3 * 5200) + x4)) (M (o + 19) (Int.toNat ((x1 * 5200) + x2)))) (o + 23) (Int.toNat ((x3 * 5200) + x4)) ((gUp M (o + 19) (Int.toNat ((x3 * 5200) + x4)) (M (o + 19) (Int.toNat ((x1 * 5200) + x2)))) (o + 23) (Int.toNat ((x1 * 5200) + x2)))) (o + 20) (Int.toNat ((x3 * 5200) + x4)) ((gUp (gUp M (o + 19) (Int.toNat ((x3 * 5200) + x4)) (M (o + 19) (Int.toNat ((x1 * 5200) + x2)))) (o + 23) (Int.toNat ((x3 * 5200) + x4)) ((gUp M (o + 19) (Int.toNat ((x3 * 5200) + x4)) (M (o + 19) (Int.toNat ((x1 * 5200) + x2)))) (o + 23) (Int.toNat ((x1 * 5200) + x2)))) (o + 20) (Int.toNat ((x1 * 5200) + x2)))) (o + 21) (Int.toNat ((x3 * 5200) + x4)) ((gUp (gUp (gUp M (o + 19) (Int.toNat ((x3 * 5200) + x4)) (M (o + 19) (Int.toNat ((x1 * 5200) + x2)))) (o + 23) (Int.toNat ((x3 * 5200) + x4)) ((gUp M (o + 19) (Int.toNat ((x3 * 5200) + x4)) (M (o + 19) (Int.toNat ((x1 * 5200) + x2)))) (o + 23) (Int.toNat ((x1 * 5200) + x2)))) (o + 20) (Int.toNat ((x3 * 5200) + x4)) ((gUp (gUp M (o + 19) (Int.toNat ((x3 * 5200) + x4)) (M (o + 19) (Int.toNat ((x1 * 5200) + x2)))) (o + 23) (Int.toNat ((x3 * 5200) + x4)) ((gUp M (o + 19) (Int.toNat ((x3 * 5200) + x4)) (M (o + 19) (Int.toNat ((x1 * 5200) + x2)))) (o + 23) (Int.toNat ((x1 * 5200) + x2)))) (o + 20) (Int.toNat ((x1 * 5200) + x2)))) (o + 21) (Int.toNat ((x1 * 5200) + x2)))) (o + 25) (Int.toNat x3)) → (((0 : Int) ≤ (x3 * 5200) + x4 ∧ (x3 * 5200) + x4 < 218400) ∧ (wp l G y_GM_copy (gRm d) true (kkV X k) true 117 [.val (gR G o), .val (gI x1), .unset, .val (gI x3), .unset, .val (gI (w32 ((x1 * 5200) + x2))), .unset, .val (gI ((gUp (gUp (gUp (gUp M (o + 19) (Int.toNat ((x3 * 5200) + x4)) (M (o + 19) (Int.toNat ((x1 * 5200) + x2)))) (o + 23) (Int.toNat ((x3 * 5200) + x4)) ((gUp M (o + 19) (Int.toNat ((x3 * 5200) + x4)) (M (o + 19) (Int.toNat ((x1 * 5200) + x2)))) (o + 23) (Int.toNat ((x1 * 5200) + x2)))) (o + 20) (Int.toNat ((x3 * 5200) + x4)) ((gUp (gUp M (o + 19) (Int.toNat ((x3 * 5200) + x4)) (M (o + 19) (Int.toNat ((x1 * 5200) + x2)))) (o + 23) (Int.toNat ((x3 * 5200) + x4)) ((gUp M (o + 19) (Int.toNat ((x3 * 5200) + x4)) (M (o + 19) (Int.toNat ((x1 * 5200) + x2)))) (o + 23) (Int.toNat ((x1 * 5200) + x2)))) (o + 20) (Int.toNat ((x1 * 5200) + x2)))) (o + 21) (Int.toNat ((x3 * 5200) + x4)) ((gUp (gUp (gUp M (o + 19) (Int.toNat ((x3 * 5200) + x4)) (M (o + 19) (Int.toNat ((x1 * 5200) + x2)))) (o + 23) (Int.toNat ((x3 * 5200) + x4)) ((gUp M (o + 19) (Int.toNat ((x3 * 5200) + x4)) (M (o + 19) (Int.toNat ((x1 * 5200) + x2)))) (o + 23) (Int.toNat ((x1 * 5200) + x2)))) (o + 20) (Int.toNat ((x3 * 5200) + x4)) ((gUp (gUp M (o + 19) (Int.toNat ((x3 * 5200) + x4)) (M (o + 19) (Int.toNat ((x1 * 5200) + x2)))) (o + 23) (Int.toNat ((x3 * 5200) + x4)) ((gUp M (o + 19) (Int.toNat ((x3 * 5200) + x4)) (M (o + 19) (Int.toNat ((x1 * 5200) + x2)))) (o + 23) (Int.toNat ((x1 * 5200) + x2)))) (o + 20) (Int.toNat ((x1 * 5200) + x2)))) (o + 21) (Int.toNat ((x1 * 5200) + x2)))) (o + 9) (Int.toNat ((gUp (gUp (gUp (gUp M (o + 19) (Int.toNat ((x3 * 5200) + x4)) (M (o + 19) (Int.toNat ((x1 * 5200) + x2)))) (o + 23) (Int.toNat ((x3 * 5200) + x4)) ((gUp M (o + 19) (Int.toNat ((x3 * 5200) + x4)) (M (o + 19) (Int.toNat ((x1 * 5200) + x2)))) (o + 23) (Int.toNat ((x1 * 5200) + x2)))) (o + 20) (Int.toNat ((x3 * 5200) + x4)) ((gUp (gUp M (o + 19) (Int.toNat ((x3 * 5200) + x4)) (M (o + 19) (Int.toNat ((x1 * 5200) + x2)))) (o + 23) (Int.toNat ((x3 * 5200) + x4)) ((gUp M (o + 19) (Int.toNat ((x3 * 5200) + x4)) (M (o + 19) (Int.toNat ((x1 * 5200) + x2)))) (o + 23) (Int.toNat ((x1 * 5200) + x2)))) (o + 20) (Int.toNat ((x1 * 5200) + x2)))) (o + 21) (Int.toNat ((x3 * 5200) + x4)) ((gUp (gUp (gUp M (o + 19) (Int.toNat ((x3 * 5200) + x4)) (M (o + 19) (Int.toNat ((x1 * 5200) + x2)))) (o + 23) (Int.toNat ((x3 * 5200) + x4)) ((gUp M (o + 19) (Int.toNat ((x3 * 5200) + x4)) (M (o + 19) (Int.toNat ((x1 * 5200) + x2)))) (o + 23) (Int.toNat ((x1 * 5200) + x2)))) (o + 20) (Int.toNat ((x3 * 5200) + x4)) ((gUp (gUp M (o + 19) (Int.toNat ((x3 * 5200) + x4)) (M (o + 19) (Int.toNat ((x1 * 5200) + x2)))) (o + 23) (Int.toNat ((x3 * 5200) + x4)) ((gUp M (o + 19) (Int.toNat ((x3 * 5200) + x4)) (M (o + 19) (Int.toNat ((x1 * 5200) + x2)))) (o + 23) (Int.toNat ((x1 * 5200) + x2)))) (o + 20) (Int.toNat ((x1 * 5200) + x2)))) (o + 21) (Int.toNat ((x1 * 5200) + x2)))) (o + 20) (Int.toNat ((x1 * 5200) + x2)))))), .val (gI 0)] [] X (gUp (gUp (gUp (gUp (gUp M (o + 19) (Int.toNat ((x3 * 5200) + x4)) (M (o + 19) (Int.toNat ((x1 * 5200) + x2)))) (o + 23) (Int.toNat ((x3 * 5200) + x4)) ((gUp M (o + 19) (Int.toNat ((x3 * 5200) + x4)) (M (o + 19) (Int.toNat ((x1 * 5200) + x2)))) (o + 23) (Int.toNat ((x1 * 5200) + x2)))) (o + 20) (Int.toNat ((x3 * 5200) + x4)) ((gUp (gUp M (o + 19) (Int.toNat ((x3 * 5200) + x4)) (M (o + 19) (Int.toNat ((x1 * 5200) + x2)))) (o + 23) (Int.toNat ((x3 * 5200) + x4)) ((gUp M (o + 19) (Int.toNat ((x3 * 5200) + x4)) (M (o + 19) (Int.toNat ((x1 * 5200) + x2)))) (o + 23) (Int.toNat ((x1 * 5200) + x2)))) (o + 20) (Int.toNat ((x1 * 5200) + x2)))) (o + 21) (Int.toNat ((x3 * 5200) + x4)) ((gUp (gUp (gUp M (o + 19) (Int.toNat ((x3 * 5200) + x4)) (M (o + 19) (Int.toNat ((x1 * 5200) + x2)))) (o + 23) (Int.toNat ((x3 * 5200) + x4)) ((gUp M (o + 19) (Int.toNat ((x3 * 5200) + x4)) (M (o + 19) (Int.toNat ((x1 * 5200) + x2)))) (o + 23) (Int.toNat ((x1 * 5200) + x2)))) (o + 20) (Int.toNat ((x3 * 5200) + x4)) ((gUp (gUp M (o + 19) (Int.toNat ((x3 * 5200) + x4)) (M (o + 19) (Int.toNat ((x1 * 5200) + x2)))) (o + 23) (Int.toNat ((x3 * 5200) + x4)) ((gUp M (o + 19) (Int.toNat ((x3 * 5200) + x4)) (M (o + 19) (Int.toNat ((x1 * 5200) + x2)))) (o + 23) (Int.toNat ((x1 * 5200) + x2)))) (o + 20) (Int.toNat ((x1 * 5200) + x2)))) (o + 21) (Int.toNat ((x1 * 5200) + x2)))) (o + 22) (Int.toNat ((x3 * 5200) + x4)) ((gUp (gUp (gUp (gUp M (o + 19) (Int.toNat ((x3 * 5200) + x4)) (M (o + 19) (Int.toNat ((x1 * 5200) + x2)))) (o + 23) (Int.toNat ((x3 * 5200) + x4)) ((gUp M (o + 19) (Int.toNat ((x3 * 5200) + x4)) (M (o + 19) (Int.toNat ((x1 * 5200) + x2)))) (o + 23) (Int.toNat ((x1 * 5200) + x2)))) (o + 20) (Int.toNat ((x3 * 5200) + x4)) ((gUp (gUp M (o + 19) (Int.toNat ((x3 * 5200) + x4)) (M (o + 19) (Int.toNat ((x1 * 5200) + x2)))) (o + 23) (Int.toNat ((x3 * 5200) + x4)) ((gUp M (o + 19) (Int.toNat ((x3 * 5200) + x4)) (M (o + 19) (Int.toNat ((x1 * 5200) + x2)))) (o + 23) (Int.toNat ((x1 * 5200) + x2)))) (o + 20) (Int.toNat ((x1 * 5200) + x2)))) (o + 21) (Int.toNat ((x3 * 5200) + x4)) ((gUp (gUp (gUp M (o + 19) (Int.toNat ((x3 * 5200) + x4)) (M (o + 19) (Int.toNat ((x1 * 5200) + x2)))) (o + 23) (Int.toNat ((x3 * 5200) + x4)) ((gUp M (o + 19) (Int.toNat ((x3 * 5200) + x4)) (M (o + 19) (Int.toNat ((x1 * 5200) + x2)))) (o + 23) (Int.toNat ((x1 * 5200) + x2)))) (o + 20) (Int.toNat ((x3 * 5200) + x4)) ((gUp (gUp M (o + 19) (Int.toNat ((x3 * 5200) + x4)) (M (o + 19) (Int.toNat ((x1 * 5200) + x2)))) (o + 23) (Int.toNat ((x3 * 5200) + x4)) ((gUp M (o + 19) (Int.toNat ((x3 * 5200) + x4)) (M (o + 19) (Int.toNat ((x1 * 5200) + x2)))) (o + 23) (Int.toNat ((x1 * 5200) + x2)))) (o + 20) (Int.toNat ((x1 * 5200) + x2)))) (o + 21) (Int.toNat ((x1 * 5200) + x2)))) (o + 25) (Int.toNat x3))) 0 0))))))))) ∧ (¬ (gUp (gUp (gUp (gUp M (o + 19) (Int.toNat ((x3 * 5200) + x4)) (M (o + 19) (Int.toNat ((x1 * 5200) + x2)))) (o + 23) (Int.toNat ((x3 * 5200) + x4)) ((gUp M (o + 19) (Int.toNat ((x3 * 5200) + x4)) (M (o + 19) (Int.toNat ((x1 * 5200) + x2)))) (o + 23) (Int.toNat ((x1 * 5200) + x2)))) (o + 20) (Int.toNat ((x3 * 5200) + x4)) ((gUp (gUp M (o + 19) (Int.toNat ((x3 * 5200) + x4)) (M (o + 19) (Int.toNat ((x1 * 5200) + x2)))) (o + 23) (Int.toNat ((x3 * 5200) + x4)) ((gUp M (o + 19) (Int.toNat ((x3 * 5200) + x4)) (M (o + 19) (Int.toNat ((x1 * 5200) + x2)))) (o + 23) (Int.toNat ((x1 * 5200) + x2)))) (o + 20) (Int.toNat ((x1 * 5200) + x2)))) (o + 21) (Int.toNat ((x3 * 5200) + x4)) ((gUp (gUp (gUp M (o + 19) (Int.toNat ((x3 * 5200) + x4)) (M (o + 19) (Int.toNat ((x1 * 5200) + x2)))) (o + 23) (Int.toNat ((x3 * 5200) + x4)) ((gUp M (o + 19) (Int.toNat ((x3 * 5200) + x4)) (M (o + 19) (Int.toNat ((x1 * 5200) + x2)))) (o + 23) (Int.toNat ((x1 * 5200) + x2)))) (o + 20) (Int.toNat ((x3 * 5200) + x4)) ((gUp (gUp M (o + 19) (Int.toNat ((x3 * 5200) + x4)) (M (o + 19) (Int.toNat ((x1 * 5200) + x2)))) (o + 23) (Int.toNat ((x3 * 5200) + x4)) ((gUp M (o + 19) (Int.toNat ((x3 * 5200) + x4)) (M (o + 19) (Int.toNat ((x1 * 5200) + x2)))) (o + 23) (Int.toNat ((x1 * 5200) + x2)))) (o + 20) (Int.toNat ((x1 * 5200) + x2)))) (o + 21) (Int.toNat ((x1 * 5200) + x2)))) (o + 19) (Int.toNat ((x1 * 5200) + x2)) = 3 → (k (gUp (gUp (gUp (gUp M (o + 19) (Int.toNat ((x3 * 5200) + x4)) (M (o + 19) (Int.toNat ((x1 * 5200) + x2)))) (o + 23) (Int.toNat ((x3 * 5200) + x4)) ((gUp M (o + 19) (Int.toNat ((x3 * 5200) + x4)) (M (o + 19) (Int.toNat ((x1 * 5200) + x2)))) (o + 23) (Int.toNat ((x1 * 5200) + x2)))) (o + 20) (Int.toNat ((x3 * 5200) + x4)) ((gUp (gUp M (o + 19) (Int.toNat ((x3 * 5200) + x4)) (M (o + 19) (Int.toNat ((x1 * 5200) + x2)))) (o + 23) (Int.toNat ((x3 * 5200) + x4)) ((gUp M (o + 19) (Int.toNat ((x3 * 5200) + x4)) (M (o + 19) (Int.toNat ((x1 * 5200) + x2)))) (o + 23) (Int.toNat ((x1 * 5200) + x2)))) (o + 20) (Int.toNat ((x1 * 5200) + x2)))) (o + 21) (Int.toNat ((x3 * 5200) + x4)) ((gUp (gUp (gUp M (o + 19) (Int.toNat ((x3 * 5200) + x4)) (M (o + 19) (Int.toNat ((x1 * 5200) + x2)))) (o + 23) (Int.toNat ((x3 * 5200) + x4)) ((gUp M (o + 19) (Int.toNat ((x3 * 5200) + x4)) (M (o + 19) (Int.toNat ((x1 * 5200) + x2)))) (o + 23) (Int.toNat ((x1 * 5200) + x2)))) (o + 20) (Int.toNat ((x3 * 5200) + x4)) ((gUp (gUp M (o + 19) (Int.toNat ((x3 * 5200) + x4)) (M (o + 19) (Int.toNat ((x1 * 5200) + x2)))) (o + 23) (Int.toNat ((x3 * 5200) + x4)) ((gUp M (o + 19) (Int.toNat ((x3 * 5200) + x4)) (M (o + 19) (Int.toNat ((x1 * 5200) + x2)))) (o + 23) (Int.toNat ((x1 * 5200) + x2)))) (o + 20) (Int.toNat ((x1 * 5200) + x2)))) (o + 21) (Int.toNat ((x1 * 5200) + x2))))))))))))))))))))) : wp l G y_GM_copy (gRm d) true (kkV X k) false 0 [.val (gR G o), .val (gI x1), .val (gI x2), .val (gI x3), .val (gI x4), .unset, .unset, .unset, .unset] [] X M 0 0 := by
  refine wp_iload_n d_GM_copy_0 rfl rfl ?_
  refine wp_sipush d_GM_copy_1 ⟨by decide, by decide⟩ ?_
  refine wp_imul d_GM_copy_4 ?_
  refine wp_iload_n d_GM_copy_5 rfl rfl ?_
  refine wp_iadd d_GM_copy_6 ?_
  refine wp_istore (L' := [.val (gR G o), .val (gI x1), .val (gI x2), .val (gI x3), .val (gI x4), .val (gI ((x1 * 5200) + x2)), .unset, .unset, .unset]) d_GM_copy_7 (by decide) rfl ?_
  refine wp_iload_n d_GM_copy_9 rfl rfl ?_
  refine wp_sipush d_GM_copy_10 ⟨by decide, by decide⟩ ?_
  refine wp_imul d_GM_copy_13 ?_
  refine wp_iload d_GM_copy_14 rfl ?_
  refine wp_iadd d_GM_copy_16 ?_
  refine wp_istore (L' := [.val (gR G o), .val (gI x1), .val (gI x2), .val (gI x3), .val (gI x4), .val (gI ((x1 * 5200) + x2)), .val (gI ((x3 * 5200) + x4)), .unset, .unset]) d_GM_copy_17 (by decide) rfl ?_
  refine wp_aload_n d_GM_copy_19 rfl rfl (g_nz hX.1) ?_
  refine xgetR d_GM_copy_20 gc_GM f_GM_69.1 f_GM_69.2.1 f_GM_69.2.2.1 hX.1 (gm_o2 hX) hX.2.2.1 f_GM_69.2.2.2.2.1 (gm_row hX 18 rfl).1 ?_
  refine wp_iload d_GM_copy_23 rfl ?_
  refine wp_aload_n d_GM_copy_25 rfl rfl (g_nz hX.1) ?_
  refine xgetR d_GM_copy_26 gc_GM f_GM_69.1 f_GM_69.2.1 f_GM_69.2.2.1 hX.1 (gm_o2 hX) hX.2.2.1 f_GM_69.2.2.2.2.1 (gm_row hX 18 rfl).1 ?_
  refine wp_iload d_GM_copy_29 rfl ?_
  refine wp_iaload d_GM_copy_31 (gm_row hX 18 rfl).2.2.1 (gm_row hX 18 rfl).2.2.2 (gm_row hX 18 rfl).2.1 (g32_n T.1 (by decide)) T.1.1 T.1.2 (fun h1 => ?_)
  have T := T.2 h1
  refine xiast d_GM_copy_32 (gm_row hX 18 rfl).2.2.1 (gm_row hX 18 rfl).2.2.2 (gm_row hX 18 rfl).2.1 (by decide) T.1 (w32_id h1) ?_
  have T := T.2
  refine wp_aload_n d_GM_copy_33 rfl rfl (g_nz hX.1) ?_
  refine xgetR d_GM_copy_34 gc_GM f_GM_81.1 f_GM_81.2.1 f_GM_81.2.2.1 hX.1 (gm_o2 hX) hX.2.2.1 f_GM_81.2.2.2.2.1 (gm_row hX 22 rfl).1 ?_
  refine wp_iload d_GM_copy_37 rfl ?_
  refine wp_aload_n d_GM_copy_39 rfl rfl (g_nz hX.1) ?_
  refine xgetR d_GM_copy_40 gc_GM f_GM_81.1 f_GM_81.2.1 f_GM_81.2.2.1 hX.1 (gm_o2 hX) hX.2.2.1 f_GM_81.2.2.2.2.1 (gm_row hX 22 rfl).1 ?_
  refine wp_iload d_GM_copy_43 rfl ?_
  refine wp_laload d_GM_copy_45 (gm_row hX 22 rfl).2.2.1 (gm_row hX 22 rfl).2.2.2 (gm_row hX 22 rfl).2.1 (g32_n T.1 (by decide)) T.1.1 T.1.2 (fun h2 => ?_)
  have T := T.2 h2
  refine xlast d_GM_copy_46 (gm_row hX 22 rfl).2.2.1 (gm_row hX 22 rfl).2.2.2 (gm_row hX 22 rfl).2.1 (by decide) T.1 (w64_id h2) ?_
  have T := T.2
  refine wp_aload_n d_GM_copy_47 rfl rfl (g_nz hX.1) ?_
  refine xgetR d_GM_copy_48 gc_GM f_GM_72.1 f_GM_72.2.1 f_GM_72.2.2.1 hX.1 (gm_o2 hX) hX.2.2.1 f_GM_72.2.2.2.2.1 (gm_row hX 19 rfl).1 ?_
  refine wp_iload d_GM_copy_51 rfl ?_
  refine wp_aload_n d_GM_copy_53 rfl rfl (g_nz hX.1) ?_
  refine xgetR d_GM_copy_54 gc_GM f_GM_72.1 f_GM_72.2.1 f_GM_72.2.2.1 hX.1 (gm_o2 hX) hX.2.2.1 f_GM_72.2.2.2.2.1 (gm_row hX 19 rfl).1 ?_
  refine wp_iload d_GM_copy_57 rfl ?_
  refine wp_iaload d_GM_copy_59 (gm_row hX 19 rfl).2.2.1 (gm_row hX 19 rfl).2.2.2 (gm_row hX 19 rfl).2.1 (g32_n T.1 (by decide)) T.1.1 T.1.2 (fun h3 => ?_)
  have T := T.2 h3
  refine xiast d_GM_copy_60 (gm_row hX 19 rfl).2.2.1 (gm_row hX 19 rfl).2.2.2 (gm_row hX 19 rfl).2.1 (by decide) T.1 (w32_id h3) ?_
  have T := T.2
  refine wp_aload_n d_GM_copy_61 rfl rfl (g_nz hX.1) ?_
  refine xgetR d_GM_copy_62 gc_GM f_GM_75.1 f_GM_75.2.1 f_GM_75.2.2.1 hX.1 (gm_o2 hX) hX.2.2.1 f_GM_75.2.2.2.2.1 (gm_row hX 20 rfl).1 ?_
  refine wp_iload d_GM_copy_65 rfl ?_
  refine wp_aload_n d_GM_copy_67 rfl rfl (g_nz hX.1) ?_
  refine xgetR d_GM_copy_68 gc_GM f_GM_75.1 f_GM_75.2.1 f_GM_75.2.2.1 hX.1 (gm_o2 hX) hX.2.2.1 f_GM_75.2.2.2.2.1 (gm_row hX 20 rfl).1 ?_
  refine wp_iload d_GM_copy_71 rfl ?_
  refine wp_iaload d_GM_copy_73 (gm_row hX 20 rfl).2.2.1 (gm_row hX 20 rfl).2.2.2 (gm_row hX 20 rfl).2.1 (g32_n T.1 (by decide)) T.1.1 T.1.2 (fun h4 => ?_)
  have T := T.2 h4
  refine xiast d_GM_copy_74 (gm_row hX 20 rfl).2.2.1 (gm_row hX 20 rfl).2.2.2 (gm_row hX 20 rfl).2.1 (by decide) T.1 (w32_id h4) ?_
  have T := T.2
  refine wp_aload_n d_GM_copy_75 rfl rfl (g_nz hX.1) ?_
  refine xgetR d_GM_copy_76 gc_GM f_GM_69.1 f_GM_69.2.1 f_GM_69.2.2.1 hX.1 (gm_o2 hX) hX.2.2.1 f_GM_69.2.2.2.2.1 (gm_row hX 18 rfl).1 ?_
  refine wp_iload d_GM_copy_79 rfl ?_
  refine wp_iaload d_GM_copy_81 (gm_row hX 18 rfl).2.2.1 (gm_row hX 18 rfl).2.2.2 (gm_row hX 18 rfl).2.1 (g32_n T.1 (by decide)) T.1.1 T.1.2 (fun h5 => ?_)
  have T := T.2 h5
  refine wp_iconst d_GM_copy_82 ?_
  refine xi_eq (tgt := 87) d_GM_copy_83 (by decide) (w32_id h5) (w32_id (g32_c (x := 3) rfl)) (fun h9 => ?_) (fun h9 => ?_)
  · have T := T.1 h9
    refine wp_aload_n d_GM_copy_87 rfl rfl (g_nz hX.1) ?_
    refine xgetR d_GM_copy_88 gc_GM f_GM_37.1 f_GM_37.2.1 f_GM_37.2.2.1 hX.1 (gm_o2 hX) hX.2.2.1 f_GM_37.2.2.2.2.1 (gm_row hX 8 rfl).1 ?_
    refine wp_aload_n d_GM_copy_91 rfl rfl (g_nz hX.1) ?_
    refine xgetR d_GM_copy_92 gc_GM f_GM_72.1 f_GM_72.2.1 f_GM_72.2.2.1 hX.1 (gm_o2 hX) hX.2.2.1 f_GM_72.2.2.2.2.1 (gm_row hX 19 rfl).1 ?_
    refine wp_iload d_GM_copy_95 rfl ?_
    refine wp_iaload d_GM_copy_97 (gm_row hX 19 rfl).2.2.1 (gm_row hX 19 rfl).2.2.2 (gm_row hX 19 rfl).2.1 (g32_n T.1 (by decide)) T.1.1 T.1.2 (fun h6 => ?_)
    have T := T.2 h6
    refine wp_iaload d_GM_copy_98 (gm_row hX 8 rfl).2.2.1 (gm_row hX 8 rfl).2.2.2 (gm_row hX 8 rfl).2.1 (g32_n T.1 (by decide)) T.1.1 T.1.2 (fun h7 => ?_)
    have T := T.2 h7
    refine wp_istore (L' := [.val (gR G o), .val (gI x1), .val (gI x2), .val (gI x3), .val (gI x4), .val (gI ((x1 * 5200) + x2)), .val (gI ((x3 * 5200) + x4)), .val (gI ((gUp (gUp (gUp (gUp M (o + 19) (Int.toNat ((x3 * 5200) + x4)) (M (o + 19) (Int.toNat ((x1 * 5200) + x2)))) (o + 23) (Int.toNat ((x3 * 5200) + x4)) ((gUp M (o + 19) (Int.toNat ((x3 * 5200) + x4)) (M (o + 19) (Int.toNat ((x1 * 5200) + x2)))) (o + 23) (Int.toNat ((x1 * 5200) + x2)))) (o + 20) (Int.toNat ((x3 * 5200) + x4)) ((gUp (gUp M (o + 19) (Int.toNat ((x3 * 5200) + x4)) (M (o + 19) (Int.toNat ((x1 * 5200) + x2)))) (o + 23) (Int.toNat ((x3 * 5200) + x4)) ((gUp M (o + 19) (Int.toNat ((x3 * 5200) + x4)) (M (o + 19) (Int.toNat ((x1 * 5200) + x2)))) (o + 23) (Int.toNat ((x1 * 5200) + x2)))) (o + 20) (Int.toNat ((x1 * 5200) + x2)))) (o + 21) (Int.toNat ((x3 * 5200) + x4)) ((gUp (gUp (gUp M (o + 19) (Int.toNat ((x3 * 5200) + x4)) (M (o + 19) (Int.toNat ((x1 * 5200) + x2)))) (o + 23) (Int.toNat ((x3 * 5200) + x4)) ((gUp M (o + 19) (Int.toNat ((x3 * 5200) + x4)) (M (o + 19) (Int.toNat ((x1 * 5200) + x2)))) (o + 23) (Int.toNat ((x1 * 5200) + x2)))) (o + 20) (Int.toNat ((x3 * 5200) + x4)) ((gUp (gUp M (o + 19) (Int.toNat ((x3 * 5200) + x4)) (M (o + 19) (Int.toNat ((x1 * 5200) + x2)))) (o + 23) (Int.toNat ((x3 * 5200) + x4)) ((gUp M (o + 19) (Int.toNat ((x3 * 5200) + x4)) (M (o + 19) (Int.toNat ((x1 * 5200) + x2)))) (o + 23) (Int.toNat ((x1 * 5200) + x2)))) (o + 20) (Int.toNat ((x1 * 5200) + x2)))) (o + 21) (Int.toNat ((x1 * 5200) + x2)))) (o + 9) (Int.toNat ((gUp (gUp (gUp (gUp M (o + 19) (Int.toNat ((x3 * 5200) + x4)) (M (o + 19) (Int.toNat ((x1 * 5200) + x2)))) (o + 23) (Int.toNat ((x3 * 5200) + x4)) ((gUp M (o + 19) (Int.toNat ((x3 * 5200) + x4)) (M (o + 19) (Int.toNat ((x1 * 5200) + x2)))) (o + 23) (Int.toNat ((x1 * 5200) + x2)))) (o + 20) (Int.toNat ((x3 * 5200) + x4)) ((gUp (gUp M (o + 19) (Int.toNat ((x3 * 5200) + x4)) (M (o + 19) (Int.toNat ((x1 * 5200) + x2)))) (o + 23) (Int.toNat ((x3 * 5200) + x4)) ((gUp M (o + 19) (Int.toNat ((x3 * 5200) + x4)) (M (o + 19) (Int.toNat ((x1 * 5200) + x2)))) (o + 23) (Int.toNat ((x1 * 5200) + x2)))) (o + 20) (Int.toNat ((x1 * 5200) + x2)))) (o + 21) (Int.toNat ((x3 * 5200) + x4)) ((gUp (gUp (gUp M (o + 19) (Int.toNat ((x3 * 5200) + x4)) (M (o + 19) (Int.toNat ((x1 * 5200) + x2)))) (o + 23) (Int.toNat ((x3 * 5200) + x4)) ((gUp M (o + 19) (Int.toNat ((x3 * 5200) + x4)) (M (o + 19) (Int.toNat ((x1 * 5200) + x2)))) (o + 23) (Int.toNat ((x1 * 5200) + x2)))) (o + 20) (Int.toNat ((x3 * 5200) + x4)) ((gUp (gUp M (o + 19) (Int.toNat ((x3 * 5200) + x4)) (M (o + 19) (Int.toNat ((x1 * 5200) + x2)))) (o + 23) (Int.toNat ((x3 * 5200) + x4)) ((gUp M (o + 19) (Int.toNat ((x3 * 5200) + x4)) (M (o + 19) (Int.toNat ((x1 * 5200) + x2)))) (o + 23) (Int.toNat ((x1 * 5200) + x2)))) (o + 20) (Int.toNat ((x1 * 5200) + x2)))) (o + 21) (Int.toNat ((x1 * 5200) + x2)))) (o + 20) (Int.toNat ((x1 * 5200) + x2)))))), .unset]) d_GM_copy_99 (by decide) rfl ?_
    refine wp_aload_n d_GM_copy_101 rfl rfl (g_nz hX.1) ?_
    refine xgetR d_GM_copy_102 gc_GM f_GM_78.1 f_GM_78.2.1 f_GM_78.2.2.1 hX.1 (gm_o2 hX) hX.2.2.1 f_GM_78.2.2.2.2.1 (gm_row hX 21 rfl).1 ?_
    refine wp_iload d_GM_copy_105 rfl ?_
    refine wp_aload_n d_GM_copy_107 rfl rfl (g_nz hX.1) ?_
    refine xgetR d_GM_copy_108 gc_GM f_GM_88.1 f_GM_88.2.1 f_GM_88.2.2.1 hX.1 (gm_o2 hX) hX.2.2.1 f_GM_88.2.2.2.2.1 (gm_row hX 24 rfl).1 ?_
    refine wp_iload_n d_GM_copy_111 rfl rfl ?_
    refine wp_iaload d_GM_copy_112 (gm_row hX 24 rfl).2.2.1 (gm_row hX 24 rfl).2.2.2 (gm_row hX 24 rfl).2.1 (g32_n T.1 (by decide)) T.1.1 T.1.2 (fun h8 => ?_)
    have T := T.2 h8
    refine xiast d_GM_copy_113 (gm_row hX 21 rfl).2.2.1 (gm_row hX 21 rfl).2.2.2 (gm_row hX 21 rfl).2.1 (by decide) T.1 (w32_id h8) ?_
    have T := T.2
    refine wp_iconst d_GM_copy_114 ?_
    refine wp_istore (L' := [.val (gR G o), .val (gI x1), .val (gI x2), .val (gI x3), .val (gI x4), .val (gI ((x1 * 5200) + x2)), .val (gI ((x3 * 5200) + x4)), .val (gI ((gUp (gUp (gUp (gUp M (o + 19) (Int.toNat ((x3 * 5200) + x4)) (M (o + 19) (Int.toNat ((x1 * 5200) + x2)))) (o + 23) (Int.toNat ((x3 * 5200) + x4)) ((gUp M (o + 19) (Int.toNat ((x3 * 5200) + x4)) (M (o + 19) (Int.toNat ((x1 * 5200) + x2)))) (o + 23) (Int.toNat ((x1 * 5200) + x2)))) (o + 20) (Int.toNat ((x3 * 5200) + x4)) ((gUp (gUp M (o + 19) (Int.toNat ((x3 * 5200) + x4)) (M (o + 19) (Int.toNat ((x1 * 5200) + x2)))) (o + 23) (Int.toNat ((x3 * 5200) + x4)) ((gUp M (o + 19) (Int.toNat ((x3 * 5200) + x4)) (M (o + 19) (Int.toNat ((x1 * 5200) + x2)))) (o + 23) (Int.toNat ((x1 * 5200) + x2)))) (o + 20) (Int.toNat ((x1 * 5200) + x2)))) (o + 21) (Int.toNat ((x3 * 5200) + x4)) ((gUp (gUp (gUp M (o + 19) (Int.toNat ((x3 * 5200) + x4)) (M (o + 19) (Int.toNat ((x1 * 5200) + x2)))) (o + 23) (Int.toNat ((x3 * 5200) + x4)) ((gUp M (o + 19) (Int.toNat ((x3 * 5200) + x4)) (M (o + 19) (Int.toNat ((x1 * 5200) + x2)))) (o + 23) (Int.toNat ((x1 * 5200) + x2)))) (o + 20) (Int.toNat ((x3 * 5200) + x4)) ((gUp (gUp M (o + 19) (Int.toNat ((x3 * 5200) + x4)) (M (o + 19) (Int.toNat ((x1 * 5200) + x2)))) (o + 23) (Int.toNat ((x3 * 5200) + x4)) ((gUp M (o + 19) (Int.toNat ((x3 * 5200) + x4)) (M (o + 19) (Int.toNat ((x1 * 5200) + x2)))) (o + 23) (Int.toNat ((x1 * 5200) + x2)))) (o + 20) (Int.toNat ((x1 * 5200) + x2)))) (o + 21) (Int.toNat ((x1 * 5200) + x2)))) (o + 9) (Int.toNat ((gUp (gUp (gUp (gUp M (o + 19) (Int.toNat ((x3 * 5200) + x4)) (M (o + 19) (Int.toNat ((x1 * 5200) + x2)))) (o + 23) (Int.toNat ((x3 * 5200) + x4)) ((gUp M (o + 19) (Int.toNat ((x3 * 5200) + x4)) (M (o + 19) (Int.toNat ((x1 * 5200) + x2)))) (o + 23) (Int.toNat ((x1 * 5200) + x2)))) (o + 20) (Int.toNat ((x3 * 5200) + x4)) ((gUp (gUp M (o + 19) (Int.toNat ((x3 * 5200) + x4)) (M (o + 19) (Int.toNat ((x1 * 5200) + x2)))) (o + 23) (Int.toNat ((x3 * 5200) + x4)) ((gUp M (o + 19) (Int.toNat ((x3 * 5200) + x4)) (M (o + 19) (Int.toNat ((x1 * 5200) + x2)))) (o + 23) (Int.toNat ((x1 * 5200) + x2)))) (o + 20) (Int.toNat ((x1 * 5200) + x2)))) (o + 21) (Int.toNat ((x3 * 5200) + x4)) ((gUp (gUp (gUp M (o + 19) (Int.toNat ((x3 * 5200) + x4)) (M (o + 19) (Int.toNat ((x1 * 5200) + x2)))) (o + 23) (Int.toNat ((x3 * 5200) + x4)) ((gUp M (o + 19) (Int.toNat ((x3 * 5200) + x4)) (M (o + 19) (Int.toNat ((x1 * 5200) + x2)))) (o + 23) (Int.toNat ((x1 * 5200) + x2)))) (o + 20) (Int.toNat ((x3 * 5200) + x4)) ((gUp (gUp M (o + 19) (Int.toNat ((x3 * 5200) + x4)) (M (o + 19) (Int.toNat ((x1 * 5200) + x2)))) (o + 23) (Int.toNat ((x3 * 5200) + x4)) ((gUp M (o + 19) (Int.toNat ((x3 * 5200) + x4)) (M (o + 19) (Int.toNat ((x1 * 5200) + x2)))) (o + 23) (Int.toNat ((x1 * 5200) + x2)))) (o + 20) (Int.toNat ((x1 * 5200) + x2)))) (o + 21) (Int.toNat ((x1 * 5200) + x2)))) (o + 20) (Int.toNat ((x1 * 5200) + x2)))))), .val (gI 0)]) d_GM_copy_115 (by decide) rfl ?_
    exact wp_md (wpt T (And.intro rfl (And.intro rfl (And.intro rfl (And.intro (gI_w _) (And.intro rfl (And.intro rfl True.intro)))))))
  · have T := T.2 h9
    exact wp_return d_GM_copy_86 rfl (fun _ => rfl) (Nat.zero_le _) (Nat.zero_le _) (kV_mk T)
set_option maxHeartbeats 4000000 in
theorem w_GM_copy_117 {l : Launch} {G : gG} {d : Nat} {X : gX} {M : gM} {k : gM → Prop} {o : Nat} (hX : gmX X o) {x1 : Int} (hx1 : g32 x1) {x3 : Int} (hx3 : g32 x3) {x5 : Int} (hx5 : g32 x5) {x7 : Int} (hx7 : g32 x7) {x8 : Int} (hx8 : g32 x8) (T : (x7 ≤ x8 → (((0 : Int) ≤ x3 ∧ x3 < 42) ∧ (g32 (M (o + 25) (Int.toNat x3)) → (((0 : Int) ≤ x3 ∧ x3 < 42) ∧ (k (gUp M (o + 25) (Int.toNat x3) (w32 ((M (o + 25) (Int.toNat x3)) + x7)))))))) ∧ (¬ x7 ≤ x8 → (((0 : Int) ≤ x3 ∧ x3 < 42) ∧ (g32 (M (o + 25) (Int.toNat x3)) → (((0 : Int) ≤ x5 ∧ x5 < 218400) ∧ (g32 (M (o + 22) (Int.toNat x5)) → (((0 : Int) ≤ ((x1 * 20800) + (M (o + 22) (Int.toNat x5))) + x8 ∧ ((x1 * 20800) + (M (o + 22) (Int.toNat x5))) + x8 < 873600) ∧ (g32 (M (o + 24) (Int.toNat (((x1 * 20800) + (M (o + 22) (Int.toNat x5))) + x8))) → (((0 : Int) ≤ ((x3 * 20800) + (M (o + 25) (Int.toNat x3))) + x8 ∧ ((x3 * 20800) + (M (o + 25) (Int.toNat x3))) + x8 < 873600) ∧ (wp l G y_GM_copy (gRm d) true (kkV X k) true 117 [.val (gR G o), .val (gI x1), .unset, .val (gI x3), .unset, .val (gI x5), .unset, .val (gI x7), .val (gI (w32 (x8 + 1)))] [] X (gUp M (o + 24) (Int.toNat (((x3 * 20800) + (M (o + 25) (Int.toNat x3))) + x8)) (M (o + 24) (Int.toNat (((x1 * 20800) + (M (o + 22) (Int.toNat x5))) + x8)))) 0 0)))))))))) : wp l G y_GM_copy (gRm d) true (kkV X k) true 117 [.val (gR G o), .val (gI x1), .unset, .val (gI x3), .unset, .val (gI x5), .unset, .val (gI x7), .val (gI x8)] [] X M 0 0 := by
  refine wp_iload d_GM_copy_117 rfl ?_
  refine wp_iload d_GM_copy_119 rfl ?_
  refine xi_ge (tgt := 171) d_GM_copy_121 (by decide) (w32_id hx8) (w32_id hx7) (fun h14 => ?_) (fun h14 => ?_)
  · have T := T.1 h14
    refine wp_aload_n d_GM_copy_171 rfl rfl (g_nz hX.1) ?_
    refine xgetR d_GM_copy_172 gc_GM f_GM_88.1 f_GM_88.2.1 f_GM_88.2.2.1 hX.1 (gm_o2 hX) hX.2.2.1 f_GM_88.2.2.2.2.1 (gm_row hX 24 rfl).1 ?_
    refine wp_iload_n d_GM_copy_175 rfl rfl ?_
    refine wp_dup2 d_GM_copy_176 (gI_cat _) (gR_cat _) ?_
    refine wp_iaload d_GM_copy_177 (gm_row hX 24 rfl).2.2.1 (gm_row hX 24 rfl).2.2.2 (gm_row hX 24 rfl).2.1 (g32_n T.1 (by decide)) T.1.1 T.1.2 (fun h10 => ?_)
    have T := T.2 h10
    refine wp_iload d_GM_copy_178 rfl ?_
    refine wp_iadd d_GM_copy_180 ?_
    refine xiast d_GM_copy_181 (gm_row hX 24 rfl).2.2.1 (gm_row hX 24 rfl).2.2.2 (gm_row hX 24 rfl).2.1 (by decide) T.1 rfl ?_
    have T := T.2
    exact wp_return d_GM_copy_182 rfl (fun _ => rfl) (Nat.zero_le _) (Nat.zero_le _) (kV_mk T)
  · have T := T.2 h14
    refine wp_aload_n d_GM_copy_124 rfl rfl (g_nz hX.1) ?_
    refine xgetR d_GM_copy_125 gc_GM f_GM_85.1 f_GM_85.2.1 f_GM_85.2.2.1 hX.1 (gm_o2 hX) hX.2.2.1 f_GM_85.2.2.2.2.1 (gm_row hX 23 rfl).1 ?_
    refine wp_iload_n d_GM_copy_128 rfl rfl ?_
    refine wp_sipush d_GM_copy_129 ⟨by decide, by decide⟩ ?_
    refine wp_imul d_GM_copy_132 ?_
    refine wp_aload_n d_GM_copy_133 rfl rfl (g_nz hX.1) ?_
    refine xgetR d_GM_copy_134 gc_GM f_GM_88.1 f_GM_88.2.1 f_GM_88.2.2.1 hX.1 (gm_o2 hX) hX.2.2.1 f_GM_88.2.2.2.2.1 (gm_row hX 24 rfl).1 ?_
    refine wp_iload_n d_GM_copy_137 rfl rfl ?_
    refine wp_iaload d_GM_copy_138 (gm_row hX 24 rfl).2.2.1 (gm_row hX 24 rfl).2.2.2 (gm_row hX 24 rfl).2.1 (g32_n T.1 (by decide)) T.1.1 T.1.2 (fun h11 => ?_)
    have T := T.2 h11
    refine wp_iadd d_GM_copy_139 ?_
    refine wp_iload d_GM_copy_140 rfl ?_
    refine wp_iadd d_GM_copy_142 ?_
    refine wp_aload_n d_GM_copy_143 rfl rfl (g_nz hX.1) ?_
    refine xgetR d_GM_copy_144 gc_GM f_GM_85.1 f_GM_85.2.1 f_GM_85.2.2.1 hX.1 (gm_o2 hX) hX.2.2.1 f_GM_85.2.2.2.2.1 (gm_row hX 23 rfl).1 ?_
    refine wp_iload_n d_GM_copy_147 rfl rfl ?_
    refine wp_sipush d_GM_copy_148 ⟨by decide, by decide⟩ ?_
    refine wp_imul d_GM_copy_151 ?_
    refine wp_aload_n d_GM_copy_152 rfl rfl (g_nz hX.1) ?_
    refine xgetR d_GM_copy_153 gc_GM f_GM_78.1 f_GM_78.2.1 f_GM_78.2.2.1 hX.1 (gm_o2 hX) hX.2.2.1 f_GM_78.2.2.2.2.1 (gm_row hX 21 rfl).1 ?_
    refine wp_iload d_GM_copy_156 rfl ?_
    refine wp_iaload d_GM_copy_158 (gm_row hX 21 rfl).2.2.1 (gm_row hX 21 rfl).2.2.2 (gm_row hX 21 rfl).2.1 (g32_n T.1 (by decide)) T.1.1 T.1.2 (fun h12 => ?_)
    have T := T.2 h12
    refine wp_iadd d_GM_copy_159 ?_
    refine wp_iload d_GM_copy_160 rfl ?_
    refine wp_iadd d_GM_copy_162 ?_
    refine wp_iaload d_GM_copy_163 (gm_row hX 23 rfl).2.2.1 (gm_row hX 23 rfl).2.2.2 (gm_row hX 23 rfl).2.1 (g32_n T.1 (by decide)) T.1.1 T.1.2 (fun h13 => ?_)
    have T := T.2 h13
    refine xiast d_GM_copy_164 (gm_row hX 23 rfl).2.2.1 (gm_row hX 23 rfl).2.2.2 (gm_row hX 23 rfl).2.1 (by decide) T.1 (w32_id h13) ?_
    have T := T.2
    refine wp_iinc (L' := [.val (gR G o), .val (gI x1), .unset, .val (gI x3), .unset, .val (gI x5), .unset, .val (gI x7), .val (gI (x8 + 1))]) d_GM_copy_165 rfl (by decide) rfl ?_
    refine wp_goto (tgt := 117) d_GM_copy_168 (by decide) ?_
    exact wp_md (wpt T (And.intro rfl (And.intro rfl (And.intro rfl (And.intro rfl (And.intro rfl (And.intro (gI_w _) True.intro)))))))
theorem e_GM_copy {l : Launch} {G : gG} {d : Nat} {X : gX} {M : gM} {k : gM → Prop} {o : Nat} {x1 : Int} {x2 : Int} {x3 : Int} {x4 : Int} (T : wp l G y_GM_copy (gRm d) true (kkV X k) false 0 [.val (gR G o), .val (gI x1), .val (gI x2), .val (gI x3), .val (gI x4), .unset, .unset, .unset, .unset] [] X M 0 0) : cV l G y_GM_copy (gRm d) true [gR G o, gI x1, gI x2, gI x3, gI x4] X M k := cen_V (plainFor_of_name rfl) (by simp only [lg_sl_R, lg_sl_I, lg_sl_L, lg_sl_N, List.length_cons, List.length_nil]; decide) (by unfold gEn; simp only [lg_sl_R, lg_sl_I, lg_sl_L, lg_sl_N]; exact wpt T (And.intro rfl (And.intro rfl (And.intro rfl (And.intro rfl (And.intro rfl True.intro))))))
theorem d_GM_copyAll_0 : decode prog_15_method_27_code 0 = .ok (.aload_n 0, 1) := by decide +kernel
theorem d_GM_copyAll_1 : decode prog_15_method_27_code 1 = .ok (.iload_n 2, 1) := by decide +kernel
theorem d_GM_copyAll_2 : decode prog_15_method_27_code 2 = .ok (.invokevirtual 272, 3) := by decide +kernel
theorem d_GM_copyAll_5 : decode prog_15_method_27_code 5 = .ok (.iconst 0, 1) := by decide +kernel
theorem d_GM_copyAll_6 : decode prog_15_method_27_code 6 = .ok (.istore_n 3, 1) := by decide +kernel
theorem d_GM_copyAll_7 : decode prog_15_method_27_code 7 = .ok (.iload_n 3, 1) := by decide +kernel
theorem d_GM_copyAll_8 : decode prog_15_method_27_code 8 = .ok (.sipush 5200, 3) := by decide +kernel
theorem d_GM_copyAll_11 : decode prog_15_method_27_code 11 = .ok (.if_icmp .ge 17, 3) := by decide +kernel
theorem d_GM_copyAll_28 : decode prog_15_method_27_code 28 = .ok (.return_, 1) := by decide +kernel
theorem d_GM_copyAll_14 : decode prog_15_method_27_code 14 = .ok (.aload_n 0, 1) := by decide +kernel
theorem d_GM_copyAll_15 : decode prog_15_method_27_code 15 = .ok (.iload_n 1, 1) := by decide +kernel
theorem d_GM_copyAll_16 : decode prog_15_method_27_code 16 = .ok (.iload_n 3, 1) := by decide +kernel
theorem d_GM_copyAll_17 : decode prog_15_method_27_code 17 = .ok (.iload_n 2, 1) := by decide +kernel
theorem d_GM_copyAll_18 : decode prog_15_method_27_code 18 = .ok (.iload_n 3, 1) := by decide +kernel
theorem d_GM_copyAll_19 : decode prog_15_method_27_code 19 = .ok (.invokevirtual 275, 3) := by decide +kernel
theorem d_GM_copyAll_22 : decode prog_15_method_27_code 22 = .ok (.iinc 3 1, 3) := by decide +kernel
theorem d_GM_copyAll_25 : decode prog_15_method_27_code 25 = .ok (.goto (-18), 3) := by decide +kernel
set_option maxHeartbeats 4000000 in
theorem w_GM_copyAll_0 {l : Launch} {G : gG} {d : Nat} {X : gX} {M : gM} {k : gM → Prop} {o : Nat} (hX : gmX X o) {x1 : Int} (hx1 : g32 x1) {x2 : Int} (hx2 : g32 x2) (T : cV l G y_GM_clear (gRm d) true [gR G o, gI x2] X M (fun M1 => (wp l G y_GM_copyAll (gRm (d + 1)) true (kkV X k) true 7 [.val (gR G o), .val (gI x1), .val (gI x2), .val (gI 0)] [] X M1 0 0))) : wp l G y_GM_copyAll (gRm (d + 1)) true (kkV X k) false 0 [.val (gR G o), .val (gI x1), .val (gI x2), .unset] [] X M 0 0 := by
  refine wp_aload_n d_GM_copyAll_0 rfl rfl (g_nz hX.1) ?_
  refine wp_iload_n d_GM_copyAll_1 rfl rfl ?_
  refine xcV_V (md' := true) (As := [gI x2]) (st := []) d_GM_copyAll_2 ca_GM_clear ml_GM_272 im_GM_clear se_GM_clear gc_GM hX.1 (gm_o2 hX) hX.2.2.1 rfl (by decide) (by decide) rfl (fun _ => rfl) (fun _ => rfl) T (fun M1 T => ?_)
  refine wp_iconst d_GM_copyAll_5 ?_
  refine wp_istore_n (L' := [.val (gR G o), .val (gI x1), .val (gI x2), .val (gI 0)]) d_GM_copyAll_6 rfl (by decide) rfl ?_
  exact wp_md (wpt T (And.intro rfl (And.intro rfl (And.intro rfl (And.intro rfl True.intro)))))
set_option maxHeartbeats 4000000 in
theorem w_GM_copyAll_7 {l : Launch} {G : gG} {d : Nat} {X : gX} {M : gM} {k : gM → Prop} {o : Nat} (hX : gmX X o) {x1 : Int} (hx1 : g32 x1) {x2 : Int} (hx2 : g32 x2) {x3 : Int} (hx3 : g32 x3) (T : (5200 ≤ x3 → (k M)) ∧ (¬ 5200 ≤ x3 → (cV l G y_GM_copy (gRm d) true [gR G o, gI x1, gI x3, gI x2, gI x3] X M (fun M2 => (wp l G y_GM_copyAll (gRm (d + 1)) true (kkV X k) true 7 [.val (gR G o), .val (gI x1), .val (gI x2), .val (gI (w32 (x3 + 1)))] [] X M2 0 0))))) : wp l G y_GM_copyAll (gRm (d + 1)) true (kkV X k) true 7 [.val (gR G o), .val (gI x1), .val (gI x2), .val (gI x3)] [] X M 0 0 := by
  refine wp_iload_n d_GM_copyAll_7 rfl rfl ?_
  refine wp_sipush d_GM_copyAll_8 ⟨by decide, by decide⟩ ?_
  refine xi_ge (tgt := 28) d_GM_copyAll_11 (by decide) (w32_id hx3) (w32_id (g32_c (x := 5200) rfl)) (fun h3 => ?_) (fun h3 => ?_)
  · have T := T.1 h3
    exact wp_return d_GM_copyAll_28 rfl (fun _ => rfl) (Nat.zero_le _) (Nat.zero_le _) (kV_mk T)
  · have T := T.2 h3
    refine wp_aload_n d_GM_copyAll_14 rfl rfl (g_nz hX.1) ?_
    refine wp_iload_n d_GM_copyAll_15 rfl rfl ?_
    refine wp_iload_n d_GM_copyAll_16 rfl rfl ?_
    refine wp_iload_n d_GM_copyAll_17 rfl rfl ?_
    refine wp_iload_n d_GM_copyAll_18 rfl rfl ?_
    refine xcV_V (md' := true) (As := [gI x1, gI x3, gI x2, gI x3]) (st := []) d_GM_copyAll_19 ca_GM_copy ml_GM_275 im_GM_copy se_GM_copy gc_GM hX.1 (gm_o2 hX) hX.2.2.1 rfl (by decide) (by decide) rfl (fun _ => rfl) (fun _ => rfl) T (fun M2 T => ?_)
    refine wp_iinc (L' := [.val (gR G o), .val (gI x1), .val (gI x2), .val (gI (x3 + 1))]) d_GM_copyAll_22 rfl (by decide) rfl ?_
    refine wp_goto (tgt := 7) d_GM_copyAll_25 (by decide) ?_
    exact wp_md (wpt T (And.intro rfl (And.intro rfl (And.intro rfl (And.intro (gI_w _) True.intro)))))
theorem e_GM_copyAll {l : Launch} {G : gG} {d : Nat} {X : gX} {M : gM} {k : gM → Prop} {o : Nat} {x1 : Int} {x2 : Int} (T : wp l G y_GM_copyAll (gRm (d + 1)) true (kkV X k) false 0 [.val (gR G o), .val (gI x1), .val (gI x2), .unset] [] X M 0 0) : cV l G y_GM_copyAll (gRm (d + 1)) true [gR G o, gI x1, gI x2] X M k := cen_V (plainFor_of_name rfl) (by simp only [lg_sl_R, lg_sl_I, lg_sl_L, lg_sl_N, List.length_cons, List.length_nil]; decide) (by unfold gEn; simp only [lg_sl_R, lg_sl_I, lg_sl_L, lg_sl_N]; exact wpt T (And.intro rfl (And.intro rfl (And.intro rfl True.intro))))
theorem d_GM_contents_0 : decode prog_15_method_28_code 0 = .ok (.iconst 0, 1) := by decide +kernel
theorem d_GM_contents_1 : decode prog_15_method_28_code 1 = .ok (.istore_n 2, 1) := by decide +kernel
theorem d_GM_contents_2 : decode prog_15_method_28_code 2 = .ok (.iconst 0, 1) := by decide +kernel
theorem d_GM_contents_3 : decode prog_15_method_28_code 3 = .ok (.istore_n 3, 1) := by decide +kernel
theorem d_GM_contents_4 : decode prog_15_method_28_code 4 = .ok (.iload_n 3, 1) := by decide +kernel
theorem d_GM_contents_5 : decode prog_15_method_28_code 5 = .ok (.sipush 5200, 3) := by decide +kernel
theorem d_GM_contents_8 : decode prog_15_method_28_code 8 = .ok (.if_icmp .ge 27, 3) := by decide +kernel
theorem d_GM_contents_35 : decode prog_15_method_28_code 35 = .ok (.iload_n 2, 1) := by decide +kernel
theorem d_GM_contents_36 : decode prog_15_method_28_code 36 = .ok (.ireturn, 1) := by decide +kernel
theorem d_GM_contents_11 : decode prog_15_method_28_code 11 = .ok (.aload_n 0, 1) := by decide +kernel
theorem d_GM_contents_12 : decode prog_15_method_28_code 12 = .ok (.getfield 69, 3) := by decide +kernel
theorem d_GM_contents_15 : decode prog_15_method_28_code 15 = .ok (.iload_n 1, 1) := by decide +kernel
theorem d_GM_contents_16 : decode prog_15_method_28_code 16 = .ok (.sipush 5200, 3) := by decide +kernel
theorem d_GM_contents_19 : decode prog_15_method_28_code 19 = .ok (.imul, 1) := by decide +kernel
theorem d_GM_contents_20 : decode prog_15_method_28_code 20 = .ok (.iload_n 3, 1) := by decide +kernel
theorem d_GM_contents_21 : decode prog_15_method_28_code 21 = .ok (.iadd, 1) := by decide +kernel
theorem d_GM_contents_22 : decode prog_15_method_28_code 22 = .ok (.iaload, 1) := by decide +kernel
theorem d_GM_contents_23 : decode prog_15_method_28_code 23 = .ok (.ifCond .eq 6, 3) := by decide +kernel
theorem d_GM_contents_29 : decode prog_15_method_28_code 29 = .ok (.iinc 3 1, 3) := by decide +kernel
theorem d_GM_contents_32 : decode prog_15_method_28_code 32 = .ok (.goto (-28), 3) := by decide +kernel
theorem d_GM_contents_26 : decode prog_15_method_28_code 26 = .ok (.iinc 2 1, 3) := by decide +kernel
set_option maxHeartbeats 4000000 in
theorem w_GM_contents_0 {l : Launch} {G : gG} {d : Nat} {X : gX} {M : gM} {k : Int → gM → Prop} {o : Nat} (hX : gmX X o) {x1 : Int} (hx1 : g32 x1) (T : wp l G y_GM_contents (gRm d) false (kkI X k) false 4 [.val (gR G o), .val (gI x1), .val (gI 0), .val (gI 0)] [] X M 0 0) : wp l G y_GM_contents (gRm d) false (kkI X k) false 0 [.val (gR G o), .val (gI x1), .unset, .unset] [] X M 0 0 := by
  refine wp_iconst d_GM_contents_0 ?_
  refine wp_istore_n (L' := [.val (gR G o), .val (gI x1), .val (gI 0), .unset]) d_GM_contents_1 rfl (by decide) rfl ?_
  refine wp_iconst d_GM_contents_2 ?_
  refine wp_istore_n (L' := [.val (gR G o), .val (gI x1), .val (gI 0), .val (gI 0)]) d_GM_contents_3 rfl (by decide) rfl ?_
  exact (wpt T (And.intro rfl (And.intro rfl (And.intro rfl (And.intro rfl True.intro)))))
set_option maxHeartbeats 4000000 in
theorem w_GM_contents_4 {l : Launch} {G : gG} {d : Nat} {X : gX} {M : gM} {k : Int → gM → Prop} {o : Nat} (hX : gmX X o) {x1 : Int} (hx1 : g32 x1) {x2 : Int} (hx2 : g32 x2) {x3 : Int} (hx3 : g32 x3) (T : (5200 ≤ x3 → (k x2 M)) ∧ (¬ 5200 ≤ x3 → (((0 : Int) ≤ (x1 * 5200) + x3 ∧ (x1 * 5200) + x3 < 218400) ∧ (g32 (M (o + 19) (Int.toNat ((x1 * 5200) + x3))) → ((M (o + 19) (Int.toNat ((x1 * 5200) + x3)) = 0 → (wp l G y_GM_contents (gRm d) false (kkI X k) false 4 [.val (gR G o), .val (gI x1), .val (gI x2), .val (gI (w32 (x3 + 1)))] [] X M 0 0)) ∧ (¬ M (o + 19) (Int.toNat ((x1 * 5200) + x3)) = 0 → (wp l G y_GM_contents (gRm d) false (kkI X k) false 4 [.val (gR G o), .val (gI x1), .val (gI (w32 (x2 + 1))), .val (gI (w32 (x3 + 1)))] [] X M 0 0))))))) : wp l G y_GM_contents (gRm d) false (kkI X k) false 4 [.val (gR G o), .val (gI x1), .val (gI x2), .val (gI x3)] [] X M 0 0 := by
  refine wp_iload_n d_GM_contents_4 rfl rfl ?_
  refine wp_sipush d_GM_contents_5 ⟨by decide, by decide⟩ ?_
  refine xi_ge (tgt := 35) d_GM_contents_8 (by decide) (w32_id hx3) (w32_id (g32_c (x := 5200) rfl)) (fun h3 => ?_) (fun h3 => ?_)
  · have T := T.1 h3
    refine wp_iload_n d_GM_contents_35 rfl rfl ?_
    exact wp_ireturn d_GM_contents_36 rfl id (Nat.zero_le _) (Nat.zero_le _) (kI_mk hx2 T)
  · have T := T.2 h3
    refine wp_aload_n d_GM_contents_11 rfl rfl (g_nz hX.1) ?_
    refine xgetR d_GM_contents_12 gc_GM f_GM_69.1 f_GM_69.2.1 f_GM_69.2.2.1 hX.1 (gm_o2 hX) hX.2.2.1 f_GM_69.2.2.2.2.1 (gm_row hX 18 rfl).1 ?_
    refine wp_iload_n d_GM_contents_15 rfl rfl ?_
    refine wp_sipush d_GM_contents_16 ⟨by decide, by decide⟩ ?_
    refine wp_imul d_GM_contents_19 ?_
    refine wp_iload_n d_GM_contents_20 rfl rfl ?_
    refine wp_iadd d_GM_contents_21 ?_
    refine wp_iaload d_GM_contents_22 (gm_row hX 18 rfl).2.2.1 (gm_row hX 18 rfl).2.2.2 (gm_row hX 18 rfl).2.1 (g32_n T.1 (by decide)) T.1.1 T.1.2 (fun h1 => ?_)
    have T := T.2 h1
    refine xz_eq (tgt := 29) d_GM_contents_23 (by decide) (w32_id h1) (fun h2 => ?_) (fun h2 => ?_)
    · have T := T.1 h2
      refine wp_iinc (L' := [.val (gR G o), .val (gI x1), .val (gI x2), .val (gI (x3 + 1))]) d_GM_contents_29 rfl (by decide) rfl ?_
      refine wp_goto (tgt := 4) d_GM_contents_32 (by decide) ?_
      exact (wpt T (And.intro rfl (And.intro rfl (And.intro rfl (And.intro (gI_w _) True.intro)))))
    · have T := T.2 h2
      refine wp_iinc (L' := [.val (gR G o), .val (gI x1), .val (gI (x2 + 1)), .val (gI x3)]) d_GM_contents_26 rfl (by decide) rfl ?_
      refine wp_iinc (L' := [.val (gR G o), .val (gI x1), .val (gI (x2 + 1)), .val (gI (x3 + 1))]) d_GM_contents_29 rfl (by decide) rfl ?_
      refine wp_goto (tgt := 4) d_GM_contents_32 (by decide) ?_
      exact (wpt T (And.intro rfl (And.intro rfl (And.intro (gI_w _) (And.intro (gI_w _) True.intro)))))
theorem e_GM_contents {l : Launch} {G : gG} {d : Nat} {X : gX} {M : gM} {k : Int → gM → Prop} {o : Nat} {x1 : Int} (T : wp l G y_GM_contents (gRm d) false (kkI X k) false 0 [.val (gR G o), .val (gI x1), .unset, .unset] [] X M 0 0) : cI l G y_GM_contents (gRm d) false [gR G o, gI x1] X M k := cen_I (plainFor_of_name rfl) (by simp only [lg_sl_R, lg_sl_I, lg_sl_L, lg_sl_N, List.length_cons, List.length_nil]; decide) (by unfold gEn; simp only [lg_sl_R, lg_sl_I, lg_sl_L, lg_sl_N]; exact wpt T (And.intro rfl (And.intro rfl True.intro)))
theorem d_GM_ref_2_0 : decode prog_15_method_29_code 0 = .ok (.aload_n 0, 1) := by decide +kernel
theorem d_GM_ref_2_1 : decode prog_15_method_29_code 1 = .ok (.getfield 85, 3) := by decide +kernel
theorem d_GM_ref_2_4 : decode prog_15_method_29_code 4 = .ok (.iload_n 1, 1) := by decide +kernel
theorem d_GM_ref_2_5 : decode prog_15_method_29_code 5 = .ok (.sipush 20800, 3) := by decide +kernel
theorem d_GM_ref_2_8 : decode prog_15_method_29_code 8 = .ok (.imul, 1) := by decide +kernel
theorem d_GM_ref_2_9 : decode prog_15_method_29_code 9 = .ok (.aload_n 0, 1) := by decide +kernel
theorem d_GM_ref_2_10 : decode prog_15_method_29_code 10 = .ok (.getfield 78, 3) := by decide +kernel
theorem d_GM_ref_2_13 : decode prog_15_method_29_code 13 = .ok (.iload_n 1, 1) := by decide +kernel
theorem d_GM_ref_2_14 : decode prog_15_method_29_code 14 = .ok (.sipush 5200, 3) := by decide +kernel
theorem d_GM_ref_2_17 : decode prog_15_method_29_code 17 = .ok (.imul, 1) := by decide +kernel
theorem d_GM_ref_2_18 : decode prog_15_method_29_code 18 = .ok (.iload_n 2, 1) := by decide +kernel
theorem d_GM_ref_2_19 : decode prog_15_method_29_code 19 = .ok (.iadd, 1) := by decide +kernel
theorem d_GM_ref_2_20 : decode prog_15_method_29_code 20 = .ok (.iaload, 1) := by decide +kernel
theorem d_GM_ref_2_21 : decode prog_15_method_29_code 21 = .ok (.iadd, 1) := by decide +kernel
theorem d_GM_ref_2_22 : decode prog_15_method_29_code 22 = .ok (.iload_n 3, 1) := by decide +kernel
theorem d_GM_ref_2_23 : decode prog_15_method_29_code 23 = .ok (.iadd, 1) := by decide +kernel
theorem d_GM_ref_2_24 : decode prog_15_method_29_code 24 = .ok (.iaload, 1) := by decide +kernel
theorem d_GM_ref_2_25 : decode prog_15_method_29_code 25 = .ok (.ireturn, 1) := by decide +kernel
set_option maxHeartbeats 4000000 in
theorem w_GM_ref_2_0 {l : Launch} {G : gG} {d : Nat} {X : gX} {M : gM} {k : Int → gM → Prop} {o : Nat} (hX : gmX X o) {x1 : Int} (hx1 : g32 x1) {x2 : Int} (hx2 : g32 x2) {x3 : Int} (hx3 : g32 x3) (T : ((0 : Int) ≤ (x1 * 5200) + x2 ∧ (x1 * 5200) + x2 < 218400) ∧ (g32 (M (o + 22) (Int.toNat ((x1 * 5200) + x2))) → (((0 : Int) ≤ ((x1 * 20800) + (M (o + 22) (Int.toNat ((x1 * 5200) + x2)))) + x3 ∧ ((x1 * 20800) + (M (o + 22) (Int.toNat ((x1 * 5200) + x2)))) + x3 < 873600) ∧ (g32 (M (o + 24) (Int.toNat (((x1 * 20800) + (M (o + 22) (Int.toNat ((x1 * 5200) + x2)))) + x3))) → (k (M (o + 24) (Int.toNat (((x1 * 20800) + (M (o + 22) (Int.toNat ((x1 * 5200) + x2)))) + x3))) M))))) : wp l G y_GM_ref_2 (gRm d) false (kkI X k) false 0 [.val (gR G o), .val (gI x1), .val (gI x2), .val (gI x3)] [] X M 0 0 := by
  refine wp_aload_n d_GM_ref_2_0 rfl rfl (g_nz hX.1) ?_
  refine xgetR d_GM_ref_2_1 gc_GM f_GM_85.1 f_GM_85.2.1 f_GM_85.2.2.1 hX.1 (gm_o2 hX) hX.2.2.1 f_GM_85.2.2.2.2.1 (gm_row hX 23 rfl).1 ?_
  refine wp_iload_n d_GM_ref_2_4 rfl rfl ?_
  refine wp_sipush d_GM_ref_2_5 ⟨by decide, by decide⟩ ?_
  refine wp_imul d_GM_ref_2_8 ?_
  refine wp_aload_n d_GM_ref_2_9 rfl rfl (g_nz hX.1) ?_
  refine xgetR d_GM_ref_2_10 gc_GM f_GM_78.1 f_GM_78.2.1 f_GM_78.2.2.1 hX.1 (gm_o2 hX) hX.2.2.1 f_GM_78.2.2.2.2.1 (gm_row hX 21 rfl).1 ?_
  refine wp_iload_n d_GM_ref_2_13 rfl rfl ?_
  refine wp_sipush d_GM_ref_2_14 ⟨by decide, by decide⟩ ?_
  refine wp_imul d_GM_ref_2_17 ?_
  refine wp_iload_n d_GM_ref_2_18 rfl rfl ?_
  refine wp_iadd d_GM_ref_2_19 ?_
  refine wp_iaload d_GM_ref_2_20 (gm_row hX 21 rfl).2.2.1 (gm_row hX 21 rfl).2.2.2 (gm_row hX 21 rfl).2.1 (g32_n T.1 (by decide)) T.1.1 T.1.2 (fun h1 => ?_)
  have T := T.2 h1
  refine wp_iadd d_GM_ref_2_21 ?_
  refine wp_iload_n d_GM_ref_2_22 rfl rfl ?_
  refine wp_iadd d_GM_ref_2_23 ?_
  refine wp_iaload d_GM_ref_2_24 (gm_row hX 23 rfl).2.2.1 (gm_row hX 23 rfl).2.2.2 (gm_row hX 23 rfl).2.1 (g32_n T.1 (by decide)) T.1.1 T.1.2 (fun h2 => ?_)
  have T := T.2 h2
  exact wp_ireturn d_GM_ref_2_25 rfl id (Nat.zero_le _) (Nat.zero_le _) (kI_mk h2 T)
theorem e_GM_ref_2 {l : Launch} {G : gG} {d : Nat} {X : gX} {M : gM} {k : Int → gM → Prop} {o : Nat} {x1 : Int} {x2 : Int} {x3 : Int} (T : wp l G y_GM_ref_2 (gRm d) false (kkI X k) false 0 [.val (gR G o), .val (gI x1), .val (gI x2), .val (gI x3)] [] X M 0 0) : cI l G y_GM_ref_2 (gRm d) false [gR G o, gI x1, gI x2, gI x3] X M k := cen_I (plainFor_of_name rfl) (by simp only [lg_sl_R, lg_sl_I, lg_sl_L, lg_sl_N, List.length_cons, List.length_nil]; decide) (by unfold gEn; simp only [lg_sl_R, lg_sl_I, lg_sl_L, lg_sl_N]; exact wpt T (And.intro rfl (And.intro rfl (And.intro rfl (And.intro rfl True.intro)))))
theorem d_GM_setRef_0 : decode prog_15_method_30_code 0 = .ok (.aload_n 0, 1) := by decide +kernel
theorem d_GM_setRef_1 : decode prog_15_method_30_code 1 = .ok (.getfield 85, 3) := by decide +kernel
theorem d_GM_setRef_4 : decode prog_15_method_30_code 4 = .ok (.iload_n 1, 1) := by decide +kernel
theorem d_GM_setRef_5 : decode prog_15_method_30_code 5 = .ok (.sipush 20800, 3) := by decide +kernel
theorem d_GM_setRef_8 : decode prog_15_method_30_code 8 = .ok (.imul, 1) := by decide +kernel
theorem d_GM_setRef_9 : decode prog_15_method_30_code 9 = .ok (.aload_n 0, 1) := by decide +kernel
theorem d_GM_setRef_10 : decode prog_15_method_30_code 10 = .ok (.getfield 78, 3) := by decide +kernel
theorem d_GM_setRef_13 : decode prog_15_method_30_code 13 = .ok (.iload_n 1, 1) := by decide +kernel
theorem d_GM_setRef_14 : decode prog_15_method_30_code 14 = .ok (.sipush 5200, 3) := by decide +kernel
theorem d_GM_setRef_17 : decode prog_15_method_30_code 17 = .ok (.imul, 1) := by decide +kernel
theorem d_GM_setRef_18 : decode prog_15_method_30_code 18 = .ok (.iload_n 2, 1) := by decide +kernel
theorem d_GM_setRef_19 : decode prog_15_method_30_code 19 = .ok (.iadd, 1) := by decide +kernel
theorem d_GM_setRef_20 : decode prog_15_method_30_code 20 = .ok (.iaload, 1) := by decide +kernel
theorem d_GM_setRef_21 : decode prog_15_method_30_code 21 = .ok (.iadd, 1) := by decide +kernel
theorem d_GM_setRef_22 : decode prog_15_method_30_code 22 = .ok (.iload_n 3, 1) := by decide +kernel
theorem d_GM_setRef_23 : decode prog_15_method_30_code 23 = .ok (.iadd, 1) := by decide +kernel
theorem d_GM_setRef_24 : decode prog_15_method_30_code 24 = .ok (.iload 4, 2) := by decide +kernel
theorem d_GM_setRef_26 : decode prog_15_method_30_code 26 = .ok (.iastore, 1) := by decide +kernel
theorem d_GM_setRef_27 : decode prog_15_method_30_code 27 = .ok (.return_, 1) := by decide +kernel
set_option maxHeartbeats 4000000 in
theorem w_GM_setRef_0 {l : Launch} {G : gG} {d : Nat} {X : gX} {M : gM} {k : gM → Prop} {o : Nat} (hX : gmX X o) {x1 : Int} (hx1 : g32 x1) {x2 : Int} (hx2 : g32 x2) {x3 : Int} (hx3 : g32 x3) {x4 : Int} (hx4 : g32 x4) (T : ((0 : Int) ≤ (x1 * 5200) + x2 ∧ (x1 * 5200) + x2 < 218400) ∧ (g32 (M (o + 22) (Int.toNat ((x1 * 5200) + x2))) → (((0 : Int) ≤ ((x1 * 20800) + (M (o + 22) (Int.toNat ((x1 * 5200) + x2)))) + x3 ∧ ((x1 * 20800) + (M (o + 22) (Int.toNat ((x1 * 5200) + x2)))) + x3 < 873600) ∧ (k (gUp M (o + 24) (Int.toNat (((x1 * 20800) + (M (o + 22) (Int.toNat ((x1 * 5200) + x2)))) + x3)) x4))))) : wp l G y_GM_setRef (gRm d) true (kkV X k) false 0 [.val (gR G o), .val (gI x1), .val (gI x2), .val (gI x3), .val (gI x4)] [] X M 0 0 := by
  refine wp_aload_n d_GM_setRef_0 rfl rfl (g_nz hX.1) ?_
  refine xgetR d_GM_setRef_1 gc_GM f_GM_85.1 f_GM_85.2.1 f_GM_85.2.2.1 hX.1 (gm_o2 hX) hX.2.2.1 f_GM_85.2.2.2.2.1 (gm_row hX 23 rfl).1 ?_
  refine wp_iload_n d_GM_setRef_4 rfl rfl ?_
  refine wp_sipush d_GM_setRef_5 ⟨by decide, by decide⟩ ?_
  refine wp_imul d_GM_setRef_8 ?_
  refine wp_aload_n d_GM_setRef_9 rfl rfl (g_nz hX.1) ?_
  refine xgetR d_GM_setRef_10 gc_GM f_GM_78.1 f_GM_78.2.1 f_GM_78.2.2.1 hX.1 (gm_o2 hX) hX.2.2.1 f_GM_78.2.2.2.2.1 (gm_row hX 21 rfl).1 ?_
  refine wp_iload_n d_GM_setRef_13 rfl rfl ?_
  refine wp_sipush d_GM_setRef_14 ⟨by decide, by decide⟩ ?_
  refine wp_imul d_GM_setRef_17 ?_
  refine wp_iload_n d_GM_setRef_18 rfl rfl ?_
  refine wp_iadd d_GM_setRef_19 ?_
  refine wp_iaload d_GM_setRef_20 (gm_row hX 21 rfl).2.2.1 (gm_row hX 21 rfl).2.2.2 (gm_row hX 21 rfl).2.1 (g32_n T.1 (by decide)) T.1.1 T.1.2 (fun h1 => ?_)
  have T := T.2 h1
  refine wp_iadd d_GM_setRef_21 ?_
  refine wp_iload_n d_GM_setRef_22 rfl rfl ?_
  refine wp_iadd d_GM_setRef_23 ?_
  refine wp_iload d_GM_setRef_24 rfl ?_
  refine xiast d_GM_setRef_26 (gm_row hX 23 rfl).2.2.1 (gm_row hX 23 rfl).2.2.2 (gm_row hX 23 rfl).2.1 (by decide) T.1 (w32_id hx4) ?_
  have T := T.2
  exact wp_return d_GM_setRef_27 rfl (fun _ => rfl) (Nat.zero_le _) (Nat.zero_le _) (kV_mk T)
theorem e_GM_setRef {l : Launch} {G : gG} {d : Nat} {X : gX} {M : gM} {k : gM → Prop} {o : Nat} {x1 : Int} {x2 : Int} {x3 : Int} {x4 : Int} (T : wp l G y_GM_setRef (gRm d) true (kkV X k) false 0 [.val (gR G o), .val (gI x1), .val (gI x2), .val (gI x3), .val (gI x4)] [] X M 0 0) : cV l G y_GM_setRef (gRm d) true [gR G o, gI x1, gI x2, gI x3, gI x4] X M k := cen_V (plainFor_of_name rfl) (by simp only [lg_sl_R, lg_sl_I, lg_sl_L, lg_sl_N, List.length_cons, List.length_nil]; decide) (by unfold gEn; simp only [lg_sl_R, lg_sl_I, lg_sl_L, lg_sl_N]; exact wpt T (And.intro rfl (And.intro rfl (And.intro rfl (And.intro rfl (And.intro rfl True.intro))))))
theorem d_GM_corner_0 : decode prog_15_method_31_code 0 = .ok (.aload_n 0, 1) := by decide +kernel
theorem d_GM_corner_1 : decode prog_15_method_31_code 1 = .ok (.getfield 47, 3) := by decide +kernel
theorem d_GM_corner_4 : decode prog_15_method_31_code 4 = .ok (.aload_n 0, 1) := by decide +kernel
theorem d_GM_corner_5 : decode prog_15_method_31_code 5 = .ok (.getfield 34, 3) := by decide +kernel
theorem d_GM_corner_8 : decode prog_15_method_31_code 8 = .ok (.aload_n 0, 1) := by decide +kernel
theorem d_GM_corner_9 : decode prog_15_method_31_code 9 = .ok (.getfield 72, 3) := by decide +kernel
theorem d_GM_corner_12 : decode prog_15_method_31_code 12 = .ok (.iload_n 1, 1) := by decide +kernel
theorem d_GM_corner_13 : decode prog_15_method_31_code 13 = .ok (.sipush 5200, 3) := by decide +kernel
theorem d_GM_corner_16 : decode prog_15_method_31_code 16 = .ok (.imul, 1) := by decide +kernel
theorem d_GM_corner_17 : decode prog_15_method_31_code 17 = .ok (.iload_n 2, 1) := by decide +kernel
theorem d_GM_corner_18 : decode prog_15_method_31_code 18 = .ok (.iadd, 1) := by decide +kernel
theorem d_GM_corner_19 : decode prog_15_method_31_code 19 = .ok (.iaload, 1) := by decide +kernel
theorem d_GM_corner_20 : decode prog_15_method_31_code 20 = .ok (.iaload, 1) := by decide +kernel
theorem d_GM_corner_21 : decode prog_15_method_31_code 21 = .ok (.iload_n 3, 1) := by decide +kernel
theorem d_GM_corner_22 : decode prog_15_method_31_code 22 = .ok (.iadd, 1) := by decide +kernel
theorem d_GM_corner_23 : decode prog_15_method_31_code 23 = .ok (.iaload, 1) := by decide +kernel
theorem d_GM_corner_24 : decode prog_15_method_31_code 24 = .ok (.ireturn, 1) := by decide +kernel
set_option maxHeartbeats 4000000 in
theorem w_GM_corner_0 {l : Launch} {G : gG} {d : Nat} {X : gX} {M : gM} {k : Int → gM → Prop} {o : Nat} (hX : gmX X o) {x1 : Int} (hx1 : g32 x1) {x2 : Int} (hx2 : g32 x2) {x3 : Int} (hx3 : g32 x3) (T : ((0 : Int) ≤ (x1 * 5200) + x2 ∧ (x1 * 5200) + x2 < 218400) ∧ (g32 (M (o + 20) (Int.toNat ((x1 * 5200) + x2))) → (((0 : Int) ≤ M (o + 20) (Int.toNat ((x1 * 5200) + x2)) ∧ M (o + 20) (Int.toNat ((x1 * 5200) + x2)) < 4200) ∧ (g32 (M (o + 8) (Int.toNat (M (o + 20) (Int.toNat ((x1 * 5200) + x2))))) → (((0 : Int) ≤ (M (o + 8) (Int.toNat (M (o + 20) (Int.toNat ((x1 * 5200) + x2))))) + x3 ∧ (M (o + 8) (Int.toNat (M (o + 20) (Int.toNat ((x1 * 5200) + x2))))) + x3 < 45000) ∧ (g32 (M (o + 12) (Int.toNat ((M (o + 8) (Int.toNat (M (o + 20) (Int.toNat ((x1 * 5200) + x2))))) + x3))) → (k (M (o + 12) (Int.toNat ((M (o + 8) (Int.toNat (M (o + 20) (Int.toNat ((x1 * 5200) + x2))))) + x3))) M))))))) : wp l G y_GM_corner (gRm d) false (kkI X k) false 0 [.val (gR G o), .val (gI x1), .val (gI x2), .val (gI x3)] [] X M 0 0 := by
  refine wp_aload_n d_GM_corner_0 rfl rfl (g_nz hX.1) ?_
  refine xgetR d_GM_corner_1 gc_GM f_GM_47.1 f_GM_47.2.1 f_GM_47.2.2.1 hX.1 (gm_o2 hX) hX.2.2.1 f_GM_47.2.2.2.2.1 (gm_row hX 11 rfl).1 ?_
  refine wp_aload_n d_GM_corner_4 rfl rfl (g_nz hX.1) ?_
  refine xgetR d_GM_corner_5 gc_GM f_GM_34.1 f_GM_34.2.1 f_GM_34.2.2.1 hX.1 (gm_o2 hX) hX.2.2.1 f_GM_34.2.2.2.2.1 (gm_row hX 7 rfl).1 ?_
  refine wp_aload_n d_GM_corner_8 rfl rfl (g_nz hX.1) ?_
  refine xgetR d_GM_corner_9 gc_GM f_GM_72.1 f_GM_72.2.1 f_GM_72.2.2.1 hX.1 (gm_o2 hX) hX.2.2.1 f_GM_72.2.2.2.2.1 (gm_row hX 19 rfl).1 ?_
  refine wp_iload_n d_GM_corner_12 rfl rfl ?_
  refine wp_sipush d_GM_corner_13 ⟨by decide, by decide⟩ ?_
  refine wp_imul d_GM_corner_16 ?_
  refine wp_iload_n d_GM_corner_17 rfl rfl ?_
  refine wp_iadd d_GM_corner_18 ?_
  refine wp_iaload d_GM_corner_19 (gm_row hX 19 rfl).2.2.1 (gm_row hX 19 rfl).2.2.2 (gm_row hX 19 rfl).2.1 (g32_n T.1 (by decide)) T.1.1 T.1.2 (fun h1 => ?_)
  have T := T.2 h1
  refine wp_iaload d_GM_corner_20 (gm_row hX 7 rfl).2.2.1 (gm_row hX 7 rfl).2.2.2 (gm_row hX 7 rfl).2.1 (g32_n T.1 (by decide)) T.1.1 T.1.2 (fun h2 => ?_)
  have T := T.2 h2
  refine wp_iload_n d_GM_corner_21 rfl rfl ?_
  refine wp_iadd d_GM_corner_22 ?_
  refine wp_iaload d_GM_corner_23 (gm_row hX 11 rfl).2.2.1 (gm_row hX 11 rfl).2.2.2 (gm_row hX 11 rfl).2.1 (g32_n T.1 (by decide)) T.1.1 T.1.2 (fun h3 => ?_)
  have T := T.2 h3
  exact wp_ireturn d_GM_corner_24 rfl id (Nat.zero_le _) (Nat.zero_le _) (kI_mk h3 T)
theorem e_GM_corner {l : Launch} {G : gG} {d : Nat} {X : gX} {M : gM} {k : Int → gM → Prop} {o : Nat} {x1 : Int} {x2 : Int} {x3 : Int} (T : wp l G y_GM_corner (gRm d) false (kkI X k) false 0 [.val (gR G o), .val (gI x1), .val (gI x2), .val (gI x3)] [] X M 0 0) : cI l G y_GM_corner (gRm d) false [gR G o, gI x1, gI x2, gI x3] X M k := cen_I (plainFor_of_name rfl) (by simp only [lg_sl_R, lg_sl_I, lg_sl_L, lg_sl_N, List.length_cons, List.length_nil]; decide) (by unfold gEn; simp only [lg_sl_R, lg_sl_I, lg_sl_L, lg_sl_N]; exact wpt T (And.intro rfl (And.intro rfl (And.intro rfl (And.intro rfl True.intro)))))
theorem d_GM_low_0 : decode prog_15_method_32_code 0 = .ok (.iload_n 3, 1) := by decide +kernel
theorem d_GM_low_1 : decode prog_15_method_32_code 1 = .ok (.ifCond .eq 10, 3) := by decide +kernel
theorem d_GM_low_11 : decode prog_15_method_32_code 11 = .ok (.iload_n 1, 1) := by decide +kernel
theorem d_GM_low_12 : decode prog_15_method_32_code 12 = .ok (.bipush 26, 2) := by decide +kernel
theorem d_GM_low_14 : decode prog_15_method_32_code 14 = .ok (.idiv, 1) := by decide +kernel
theorem d_GM_low_15 : decode prog_15_method_32_code 15 = .ok (.istore 4, 2) := by decide +kernel
theorem d_GM_low_17 : decode prog_15_method_32_code 17 = .ok (.iload_n 3, 1) := by decide +kernel
theorem d_GM_low_18 : decode prog_15_method_32_code 18 = .ok (.ifCond .eq 10, 3) := by decide +kernel
theorem d_GM_low_28 : decode prog_15_method_32_code 28 = .ok (.iload_n 2, 1) := by decide +kernel
theorem d_GM_low_29 : decode prog_15_method_32_code 29 = .ok (.bipush 26, 2) := by decide +kernel
theorem d_GM_low_31 : decode prog_15_method_32_code 31 = .ok (.idiv, 1) := by decide +kernel
theorem d_GM_low_32 : decode prog_15_method_32_code 32 = .ok (.istore 5, 2) := by decide +kernel
theorem d_GM_low_34 : decode prog_15_method_32_code 34 = .ok (.iload 4, 2) := by decide +kernel
theorem d_GM_low_36 : decode prog_15_method_32_code 36 = .ok (.iload 5, 2) := by decide +kernel
theorem d_GM_low_38 : decode prog_15_method_32_code 38 = .ok (.invokestatic 279, 3) := by decide +kernel
theorem d_GM_low_41 : decode prog_15_method_32_code 41 = .ok (.ireturn, 1) := by decide +kernel
theorem d_GM_low_21 : decode prog_15_method_32_code 21 = .ok (.iload_n 2, 1) := by decide +kernel
theorem d_GM_low_22 : decode prog_15_method_32_code 22 = .ok (.bipush 26, 2) := by decide +kernel
theorem d_GM_low_24 : decode prog_15_method_32_code 24 = .ok (.irem, 1) := by decide +kernel
theorem d_GM_low_25 : decode prog_15_method_32_code 25 = .ok (.goto 7, 3) := by decide +kernel
theorem d_GM_low_4 : decode prog_15_method_32_code 4 = .ok (.iload_n 1, 1) := by decide +kernel
theorem d_GM_low_5 : decode prog_15_method_32_code 5 = .ok (.bipush 26, 2) := by decide +kernel
theorem d_GM_low_7 : decode prog_15_method_32_code 7 = .ok (.irem, 1) := by decide +kernel
theorem d_GM_low_8 : decode prog_15_method_32_code 8 = .ok (.goto 7, 3) := by decide +kernel
set_option maxHeartbeats 4000000 in
theorem w_GM_low_0 {l : Launch} {G : gG} {d : Nat} {X : gX} {M : gM} {k : Int → gM → Prop} {o : Nat} (hX : gmX X o) {x1 : Int} (hx1 : g32 x1) {x2 : Int} (hx2 : g32 x2) {x3 : Int} (hx3 : 0 ≤ x3 ∧ x3 ≤ 1) (T : (x3 = 0 → ((x3 = 0 → (cI l G y_jMath_min (gRm d) false [gI (x1.tdiv 26), gI (x2.tdiv 26)] X M (fun v2 M1 => (k v2 M1)))) ∧ (¬ x3 = 0 → (cI l G y_jMath_min (gRm d) false [gI (x1.tdiv 26), gI (x2.tmod 26)] X M (fun v5 M4 => (k v5 M4)))))) ∧ (¬ x3 = 0 → ((x3 = 0 → (cI l G y_jMath_min (gRm d) false [gI (x1.tmod 26), gI (x2.tdiv 26)] X M (fun v9 M8 => (k v9 M8)))) ∧ (¬ x3 = 0 → (cI l G y_jMath_min (gRm d) false [gI (x1.tmod 26), gI (x2.tmod 26)] X M (fun v12 M11 => (k v12 M11))))))) : wp l G y_GM_low (gRm (d + 1)) false (kkI X k) false 0 [.val (gR G o), .val (gI x1), .val (gI x2), .val (gI x3), .unset, .unset] [] X M 0 0 := by
  refine wp_iload_n d_GM_low_0 rfl rfl ?_
  refine xz_eq (tgt := 11) d_GM_low_1 (by decide) (w32_id (g32_z hx3)) (fun h15 => ?_) (fun h15 => ?_)
  · have T := T.1 h15
    refine wp_iload_n d_GM_low_11 rfl rfl ?_
    refine wp_bipush d_GM_low_12 ⟨by decide, by decide⟩ ?_
    refine xidiv d_GM_low_14 (w32_id hx1) (w32_id (g32_c (x := 26) rfl)) (by decide) ?_
    refine wp_istore (L' := [.val (gR G o), .val (gI x1), .val (gI x2), .val (gI x3), .val (gI (x1.tdiv 26)), .unset]) d_GM_low_15 (by decide) rfl ?_
    refine wp_iload_n d_GM_low_17 rfl rfl ?_
    refine xz_eq (tgt := 28) d_GM_low_18 (by decide) (w32_id (g32_z hx3)) (fun h7 => ?_) (fun h7 => ?_)
    · have T := T.1 h7
      refine wp_iload_n d_GM_low_28 rfl rfl ?_
      refine wp_bipush d_GM_low_29 ⟨by decide, by decide⟩ ?_
      refine xidiv d_GM_low_31 (w32_id hx2) (w32_id (g32_c (x := 26) rfl)) (by decide) ?_
      refine wp_istore (L' := [.val (gR G o), .val (gI x1), .val (gI x2), .val (gI x3), .val (gI (x1.tdiv 26)), .val (gI (x2.tdiv 26))]) d_GM_low_32 (by decide) rfl ?_
      refine wp_iload d_GM_low_34 rfl ?_
      refine wp_iload d_GM_low_36 rfl ?_
      refine xcS_I (md' := false) (As := [gI (x1.tdiv 26), gI (x2.tdiv 26)]) (st := []) d_GM_low_38 ca_jMath_min ml_GM_279 sm_jMath_min rfl (by decide) (by decide) rfl id id T (fun v2 M1 h3 T => ?_)
      exact wp_ireturn d_GM_low_41 rfl id (Nat.zero_le _) (Nat.zero_le _) (kI_mk h3 T)
    · have T := T.2 h7
      refine wp_iload_n d_GM_low_21 rfl rfl ?_
      refine wp_bipush d_GM_low_22 ⟨by decide, by decide⟩ ?_
      refine xirem d_GM_low_24 (w32_id hx2) (w32_id (g32_c (x := 26) rfl)) (by decide) ?_
      refine wp_goto (tgt := 32) d_GM_low_25 (by decide) ?_
      refine wp_istore (L' := [.val (gR G o), .val (gI x1), .val (gI x2), .val (gI x3), .val (gI (x1.tdiv 26)), .val (gI (x2.tmod 26))]) d_GM_low_32 (by decide) rfl ?_
      refine wp_iload d_GM_low_34 rfl ?_
      refine wp_iload d_GM_low_36 rfl ?_
      refine xcS_I (md' := false) (As := [gI (x1.tdiv 26), gI (x2.tmod 26)]) (st := []) d_GM_low_38 ca_jMath_min ml_GM_279 sm_jMath_min rfl (by decide) (by decide) rfl id id T (fun v5 M4 h6 T => ?_)
      exact wp_ireturn d_GM_low_41 rfl id (Nat.zero_le _) (Nat.zero_le _) (kI_mk h6 T)
  · have T := T.2 h15
    refine wp_iload_n d_GM_low_4 rfl rfl ?_
    refine wp_bipush d_GM_low_5 ⟨by decide, by decide⟩ ?_
    refine xirem d_GM_low_7 (w32_id hx1) (w32_id (g32_c (x := 26) rfl)) (by decide) ?_
    refine wp_goto (tgt := 15) d_GM_low_8 (by decide) ?_
    refine wp_istore (L' := [.val (gR G o), .val (gI x1), .val (gI x2), .val (gI x3), .val (gI (x1.tmod 26)), .unset]) d_GM_low_15 (by decide) rfl ?_
    refine wp_iload_n d_GM_low_17 rfl rfl ?_
    refine xz_eq (tgt := 28) d_GM_low_18 (by decide) (w32_id (g32_z hx3)) (fun h14 => ?_) (fun h14 => ?_)
    · have T := T.1 h14
      refine wp_iload_n d_GM_low_28 rfl rfl ?_
      refine wp_bipush d_GM_low_29 ⟨by decide, by decide⟩ ?_
      refine xidiv d_GM_low_31 (w32_id hx2) (w32_id (g32_c (x := 26) rfl)) (by decide) ?_
      refine wp_istore (L' := [.val (gR G o), .val (gI x1), .val (gI x2), .val (gI x3), .val (gI (x1.tmod 26)), .val (gI (x2.tdiv 26))]) d_GM_low_32 (by decide) rfl ?_
      refine wp_iload d_GM_low_34 rfl ?_
      refine wp_iload d_GM_low_36 rfl ?_
      refine xcS_I (md' := false) (As := [gI (x1.tmod 26), gI (x2.tdiv 26)]) (st := []) d_GM_low_38 ca_jMath_min ml_GM_279 sm_jMath_min rfl (by decide) (by decide) rfl id id T (fun v9 M8 h10 T => ?_)
      exact wp_ireturn d_GM_low_41 rfl id (Nat.zero_le _) (Nat.zero_le _) (kI_mk h10 T)
    · have T := T.2 h14
      refine wp_iload_n d_GM_low_21 rfl rfl ?_
      refine wp_bipush d_GM_low_22 ⟨by decide, by decide⟩ ?_
      refine xirem d_GM_low_24 (w32_id hx2) (w32_id (g32_c (x := 26) rfl)) (by decide) ?_
      refine wp_goto (tgt := 32) d_GM_low_25 (by decide) ?_
      refine wp_istore (L' := [.val (gR G o), .val (gI x1), .val (gI x2), .val (gI x3), .val (gI (x1.tmod 26)), .val (gI (x2.tmod 26))]) d_GM_low_32 (by decide) rfl ?_
      refine wp_iload d_GM_low_34 rfl ?_
      refine wp_iload d_GM_low_36 rfl ?_
      refine xcS_I (md' := false) (As := [gI (x1.tmod 26), gI (x2.tmod 26)]) (st := []) d_GM_low_38 ca_jMath_min ml_GM_279 sm_jMath_min rfl (by decide) (by decide) rfl id id T (fun v12 M11 h13 T => ?_)
      exact wp_ireturn d_GM_low_41 rfl id (Nat.zero_le _) (Nat.zero_le _) (kI_mk h13 T)
theorem e_GM_low {l : Launch} {G : gG} {d : Nat} {X : gX} {M : gM} {k : Int → gM → Prop} {o : Nat} {x1 : Int} {x2 : Int} {x3 : Int} (T : wp l G y_GM_low (gRm (d + 1)) false (kkI X k) false 0 [.val (gR G o), .val (gI x1), .val (gI x2), .val (gI x3), .unset, .unset] [] X M 0 0) : cI l G y_GM_low (gRm (d + 1)) false [gR G o, gI x1, gI x2, gI x3] X M k := cen_I (plainFor_of_name rfl) (by simp only [lg_sl_R, lg_sl_I, lg_sl_L, lg_sl_N, List.length_cons, List.length_nil]; decide) (by unfold gEn; simp only [lg_sl_R, lg_sl_I, lg_sl_L, lg_sl_N]; exact wpt T (And.intro rfl (And.intro rfl (And.intro rfl (And.intro rfl True.intro)))))
theorem d_GM_high_0 : decode prog_15_method_33_code 0 = .ok (.iload_n 3, 1) := by decide +kernel
theorem d_GM_high_1 : decode prog_15_method_33_code 1 = .ok (.ifCond .eq 10, 3) := by decide +kernel
theorem d_GM_high_11 : decode prog_15_method_33_code 11 = .ok (.iload_n 1, 1) := by decide +kernel
theorem d_GM_high_12 : decode prog_15_method_33_code 12 = .ok (.bipush 26, 2) := by decide +kernel
theorem d_GM_high_14 : decode prog_15_method_33_code 14 = .ok (.idiv, 1) := by decide +kernel
theorem d_GM_high_15 : decode prog_15_method_33_code 15 = .ok (.istore 4, 2) := by decide +kernel
theorem d_GM_high_17 : decode prog_15_method_33_code 17 = .ok (.iload_n 3, 1) := by decide +kernel
theorem d_GM_high_18 : decode prog_15_method_33_code 18 = .ok (.ifCond .eq 10, 3) := by decide +kernel
theorem d_GM_high_28 : decode prog_15_method_33_code 28 = .ok (.iload_n 2, 1) := by decide +kernel
theorem d_GM_high_29 : decode prog_15_method_33_code 29 = .ok (.bipush 26, 2) := by decide +kernel
theorem d_GM_high_31 : decode prog_15_method_33_code 31 = .ok (.idiv, 1) := by decide +kernel
theorem d_GM_high_32 : decode prog_15_method_33_code 32 = .ok (.istore 5, 2) := by decide +kernel
theorem d_GM_high_34 : decode prog_15_method_33_code 34 = .ok (.iload 4, 2) := by decide +kernel
theorem d_GM_high_36 : decode prog_15_method_33_code 36 = .ok (.iload 5, 2) := by decide +kernel
theorem d_GM_high_38 : decode prog_15_method_33_code 38 = .ok (.invokestatic 285, 3) := by decide +kernel
theorem d_GM_high_41 : decode prog_15_method_33_code 41 = .ok (.ireturn, 1) := by decide +kernel
theorem d_GM_high_21 : decode prog_15_method_33_code 21 = .ok (.iload_n 2, 1) := by decide +kernel
theorem d_GM_high_22 : decode prog_15_method_33_code 22 = .ok (.bipush 26, 2) := by decide +kernel
theorem d_GM_high_24 : decode prog_15_method_33_code 24 = .ok (.irem, 1) := by decide +kernel
theorem d_GM_high_25 : decode prog_15_method_33_code 25 = .ok (.goto 7, 3) := by decide +kernel
theorem d_GM_high_4 : decode prog_15_method_33_code 4 = .ok (.iload_n 1, 1) := by decide +kernel
theorem d_GM_high_5 : decode prog_15_method_33_code 5 = .ok (.bipush 26, 2) := by decide +kernel
theorem d_GM_high_7 : decode prog_15_method_33_code 7 = .ok (.irem, 1) := by decide +kernel
theorem d_GM_high_8 : decode prog_15_method_33_code 8 = .ok (.goto 7, 3) := by decide +kernel
set_option maxHeartbeats 4000000 in
theorem w_GM_high_0 {l : Launch} {G : gG} {d : Nat} {X : gX} {M : gM} {k : Int → gM → Prop} {o : Nat} (hX : gmX X o) {x1 : Int} (hx1 : g32 x1) {x2 : Int} (hx2 : g32 x2) {x3 : Int} (hx3 : 0 ≤ x3 ∧ x3 ≤ 1) (T : (x3 = 0 → ((x3 = 0 → (cI l G y_jMath_max (gRm d) false [gI (x1.tdiv 26), gI (x2.tdiv 26)] X M (fun v2 M1 => (k v2 M1)))) ∧ (¬ x3 = 0 → (cI l G y_jMath_max (gRm d) false [gI (x1.tdiv 26), gI (x2.tmod 26)] X M (fun v5 M4 => (k v5 M4)))))) ∧ (¬ x3 = 0 → ((x3 = 0 → (cI l G y_jMath_max (gRm d) false [gI (x1.tmod 26), gI (x2.tdiv 26)] X M (fun v9 M8 => (k v9 M8)))) ∧ (¬ x3 = 0 → (cI l G y_jMath_max (gRm d) false [gI (x1.tmod 26), gI (x2.tmod 26)] X M (fun v12 M11 => (k v12 M11))))))) : wp l G y_GM_high (gRm (d + 1)) false (kkI X k) false 0 [.val (gR G o), .val (gI x1), .val (gI x2), .val (gI x3), .unset, .unset] [] X M 0 0 := by
  refine wp_iload_n d_GM_high_0 rfl rfl ?_
  refine xz_eq (tgt := 11) d_GM_high_1 (by decide) (w32_id (g32_z hx3)) (fun h15 => ?_) (fun h15 => ?_)
  · have T := T.1 h15
    refine wp_iload_n d_GM_high_11 rfl rfl ?_
    refine wp_bipush d_GM_high_12 ⟨by decide, by decide⟩ ?_
    refine xidiv d_GM_high_14 (w32_id hx1) (w32_id (g32_c (x := 26) rfl)) (by decide) ?_
    refine wp_istore (L' := [.val (gR G o), .val (gI x1), .val (gI x2), .val (gI x3), .val (gI (x1.tdiv 26)), .unset]) d_GM_high_15 (by decide) rfl ?_
    refine wp_iload_n d_GM_high_17 rfl rfl ?_
    refine xz_eq (tgt := 28) d_GM_high_18 (by decide) (w32_id (g32_z hx3)) (fun h7 => ?_) (fun h7 => ?_)
    · have T := T.1 h7
      refine wp_iload_n d_GM_high_28 rfl rfl ?_
      refine wp_bipush d_GM_high_29 ⟨by decide, by decide⟩ ?_
      refine xidiv d_GM_high_31 (w32_id hx2) (w32_id (g32_c (x := 26) rfl)) (by decide) ?_
      refine wp_istore (L' := [.val (gR G o), .val (gI x1), .val (gI x2), .val (gI x3), .val (gI (x1.tdiv 26)), .val (gI (x2.tdiv 26))]) d_GM_high_32 (by decide) rfl ?_
      refine wp_iload d_GM_high_34 rfl ?_
      refine wp_iload d_GM_high_36 rfl ?_
      refine xcS_I (md' := false) (As := [gI (x1.tdiv 26), gI (x2.tdiv 26)]) (st := []) d_GM_high_38 ca_jMath_max ml_GM_285 sm_jMath_max rfl (by decide) (by decide) rfl id id T (fun v2 M1 h3 T => ?_)
      exact wp_ireturn d_GM_high_41 rfl id (Nat.zero_le _) (Nat.zero_le _) (kI_mk h3 T)
    · have T := T.2 h7
      refine wp_iload_n d_GM_high_21 rfl rfl ?_
      refine wp_bipush d_GM_high_22 ⟨by decide, by decide⟩ ?_
      refine xirem d_GM_high_24 (w32_id hx2) (w32_id (g32_c (x := 26) rfl)) (by decide) ?_
      refine wp_goto (tgt := 32) d_GM_high_25 (by decide) ?_
      refine wp_istore (L' := [.val (gR G o), .val (gI x1), .val (gI x2), .val (gI x3), .val (gI (x1.tdiv 26)), .val (gI (x2.tmod 26))]) d_GM_high_32 (by decide) rfl ?_
      refine wp_iload d_GM_high_34 rfl ?_
      refine wp_iload d_GM_high_36 rfl ?_
      refine xcS_I (md' := false) (As := [gI (x1.tdiv 26), gI (x2.tmod 26)]) (st := []) d_GM_high_38 ca_jMath_max ml_GM_285 sm_jMath_max rfl (by decide) (by decide) rfl id id T (fun v5 M4 h6 T => ?_)
      exact wp_ireturn d_GM_high_41 rfl id (Nat.zero_le _) (Nat.zero_le _) (kI_mk h6 T)
  · have T := T.2 h15
    refine wp_iload_n d_GM_high_4 rfl rfl ?_
    refine wp_bipush d_GM_high_5 ⟨by decide, by decide⟩ ?_
    refine xirem d_GM_high_7 (w32_id hx1) (w32_id (g32_c (x := 26) rfl)) (by decide) ?_
    refine wp_goto (tgt := 15) d_GM_high_8 (by decide) ?_
    refine wp_istore (L' := [.val (gR G o), .val (gI x1), .val (gI x2), .val (gI x3), .val (gI (x1.tmod 26)), .unset]) d_GM_high_15 (by decide) rfl ?_
    refine wp_iload_n d_GM_high_17 rfl rfl ?_
    refine xz_eq (tgt := 28) d_GM_high_18 (by decide) (w32_id (g32_z hx3)) (fun h14 => ?_) (fun h14 => ?_)
    · have T := T.1 h14
      refine wp_iload_n d_GM_high_28 rfl rfl ?_
      refine wp_bipush d_GM_high_29 ⟨by decide, by decide⟩ ?_
      refine xidiv d_GM_high_31 (w32_id hx2) (w32_id (g32_c (x := 26) rfl)) (by decide) ?_
      refine wp_istore (L' := [.val (gR G o), .val (gI x1), .val (gI x2), .val (gI x3), .val (gI (x1.tmod 26)), .val (gI (x2.tdiv 26))]) d_GM_high_32 (by decide) rfl ?_
      refine wp_iload d_GM_high_34 rfl ?_
      refine wp_iload d_GM_high_36 rfl ?_
      refine xcS_I (md' := false) (As := [gI (x1.tmod 26), gI (x2.tdiv 26)]) (st := []) d_GM_high_38 ca_jMath_max ml_GM_285 sm_jMath_max rfl (by decide) (by decide) rfl id id T (fun v9 M8 h10 T => ?_)
      exact wp_ireturn d_GM_high_41 rfl id (Nat.zero_le _) (Nat.zero_le _) (kI_mk h10 T)
    · have T := T.2 h14
      refine wp_iload_n d_GM_high_21 rfl rfl ?_
      refine wp_bipush d_GM_high_22 ⟨by decide, by decide⟩ ?_
      refine xirem d_GM_high_24 (w32_id hx2) (w32_id (g32_c (x := 26) rfl)) (by decide) ?_
      refine wp_goto (tgt := 32) d_GM_high_25 (by decide) ?_
      refine wp_istore (L' := [.val (gR G o), .val (gI x1), .val (gI x2), .val (gI x3), .val (gI (x1.tmod 26)), .val (gI (x2.tmod 26))]) d_GM_high_32 (by decide) rfl ?_
      refine wp_iload d_GM_high_34 rfl ?_
      refine wp_iload d_GM_high_36 rfl ?_
      refine xcS_I (md' := false) (As := [gI (x1.tmod 26), gI (x2.tmod 26)]) (st := []) d_GM_high_38 ca_jMath_max ml_GM_285 sm_jMath_max rfl (by decide) (by decide) rfl id id T (fun v12 M11 h13 T => ?_)
      exact wp_ireturn d_GM_high_41 rfl id (Nat.zero_le _) (Nat.zero_le _) (kI_mk h13 T)
theorem e_GM_high {l : Launch} {G : gG} {d : Nat} {X : gX} {M : gM} {k : Int → gM → Prop} {o : Nat} {x1 : Int} {x2 : Int} {x3 : Int} (T : wp l G y_GM_high (gRm (d + 1)) false (kkI X k) false 0 [.val (gR G o), .val (gI x1), .val (gI x2), .val (gI x3), .unset, .unset] [] X M 0 0) : cI l G y_GM_high (gRm (d + 1)) false [gR G o, gI x1, gI x2, gI x3] X M k := cen_I (plainFor_of_name rfl) (by simp only [lg_sl_R, lg_sl_I, lg_sl_L, lg_sl_N, List.length_cons, List.length_nil]; decide) (by unfold gEn; simp only [lg_sl_R, lg_sl_I, lg_sl_L, lg_sl_N]; exact wpt T (And.intro rfl (And.intro rfl (And.intro rfl (And.intro rfl True.intro)))))
theorem d_GM_size_0 : decode prog_15_method_34_code 0 = .ok (.aload_n 0, 1) := by decide +kernel
theorem d_GM_size_1 : decode prog_15_method_34_code 1 = .ok (.iload_n 1, 1) := by decide +kernel
theorem d_GM_size_2 : decode prog_15_method_34_code 2 = .ok (.iload_n 2, 1) := by decide +kernel
theorem d_GM_size_3 : decode prog_15_method_34_code 3 = .ok (.iconst 1, 1) := by decide +kernel
theorem d_GM_size_4 : decode prog_15_method_34_code 4 = .ok (.invokevirtual 288, 3) := by decide +kernel
theorem d_GM_size_7 : decode prog_15_method_34_code 7 = .ok (.aload_n 0, 1) := by decide +kernel
theorem d_GM_size_8 : decode prog_15_method_34_code 8 = .ok (.iload_n 1, 1) := by decide +kernel
theorem d_GM_size_9 : decode prog_15_method_34_code 9 = .ok (.iload_n 2, 1) := by decide +kernel
theorem d_GM_size_10 : decode prog_15_method_34_code 10 = .ok (.iconst 1, 1) := by decide +kernel
theorem d_GM_size_11 : decode prog_15_method_34_code 11 = .ok (.invokevirtual 292, 3) := by decide +kernel
theorem d_GM_size_14 : decode prog_15_method_34_code 14 = .ok (.isub, 1) := by decide +kernel
theorem d_GM_size_15 : decode prog_15_method_34_code 15 = .ok (.iconst 1, 1) := by decide +kernel
theorem d_GM_size_16 : decode prog_15_method_34_code 16 = .ok (.iadd, 1) := by decide +kernel
theorem d_GM_size_17 : decode prog_15_method_34_code 17 = .ok (.aload_n 0, 1) := by decide +kernel
theorem d_GM_size_18 : decode prog_15_method_34_code 18 = .ok (.iload_n 1, 1) := by decide +kernel
theorem d_GM_size_19 : decode prog_15_method_34_code 19 = .ok (.iload_n 2, 1) := by decide +kernel
theorem d_GM_size_20 : decode prog_15_method_34_code 20 = .ok (.iconst 0, 1) := by decide +kernel
theorem d_GM_size_21 : decode prog_15_method_34_code 21 = .ok (.invokevirtual 288, 3) := by decide +kernel
theorem d_GM_size_24 : decode prog_15_method_34_code 24 = .ok (.aload_n 0, 1) := by decide +kernel
theorem d_GM_size_25 : decode prog_15_method_34_code 25 = .ok (.iload_n 1, 1) := by decide +kernel
theorem d_GM_size_26 : decode prog_15_method_34_code 26 = .ok (.iload_n 2, 1) := by decide +kernel
theorem d_GM_size_27 : decode prog_15_method_34_code 27 = .ok (.iconst 0, 1) := by decide +kernel
theorem d_GM_size_28 : decode prog_15_method_34_code 28 = .ok (.invokevirtual 292, 3) := by decide +kernel
theorem d_GM_size_31 : decode prog_15_method_34_code 31 = .ok (.isub, 1) := by decide +kernel
theorem d_GM_size_32 : decode prog_15_method_34_code 32 = .ok (.iconst 1, 1) := by decide +kernel
theorem d_GM_size_33 : decode prog_15_method_34_code 33 = .ok (.iadd, 1) := by decide +kernel
theorem d_GM_size_34 : decode prog_15_method_34_code 34 = .ok (.imul, 1) := by decide +kernel
theorem d_GM_size_35 : decode prog_15_method_34_code 35 = .ok (.ireturn, 1) := by decide +kernel
set_option maxHeartbeats 4000000 in
theorem w_GM_size_0 {l : Launch} {G : gG} {d : Nat} {X : gX} {M : gM} {k : Int → gM → Prop} {o : Nat} (hX : gmX X o) {x1 : Int} (hx1 : g32 x1) {x2 : Int} (hx2 : g32 x2) (T : cI l G y_GM_high (gRm d) false [gR G o, gI x1, gI x2, gI 1] X M (fun v2 M1 => (cI l G y_GM_low (gRm d) false [gR G o, gI x1, gI x2, gI 1] X M1 (fun v5 M4 => (cI l G y_GM_high (gRm d) false [gR G o, gI x1, gI x2, gI 0] X M4 (fun v8 M7 => (cI l G y_GM_low (gRm d) false [gR G o, gI x1, gI x2, gI 0] X M7 (fun v11 M10 => (k (w32 (((v2 - v5) + 1) * ((v8 - v11) + 1))) M10))))))))) : wp l G y_GM_size (gRm (d + 1)) false (kkI X k) false 0 [.val (gR G o), .val (gI x1), .val (gI x2)] [] X M 0 0 := by
  refine wp_aload_n d_GM_size_0 rfl rfl (g_nz hX.1) ?_
  refine wp_iload_n d_GM_size_1 rfl rfl ?_
  refine wp_iload_n d_GM_size_2 rfl rfl ?_
  refine wp_iconst d_GM_size_3 ?_
  refine xcV_I (md' := false) (As := [gI x1, gI x2, gI 1]) (st := []) d_GM_size_4 ca_GM_high ml_GM_288 im_GM_high se_GM_high gc_GM hX.1 (gm_o2 hX) hX.2.2.1 rfl (by decide) (by decide) rfl id id T (fun v2 M1 h3 T => ?_)
  refine wp_aload_n d_GM_size_7 rfl rfl (g_nz hX.1) ?_
  refine wp_iload_n d_GM_size_8 rfl rfl ?_
  refine wp_iload_n d_GM_size_9 rfl rfl ?_
  refine wp_iconst d_GM_size_10 ?_
  refine xcV_I (md' := false) (As := [gI x1, gI x2, gI 1]) (st := [gI v2]) d_GM_size_11 ca_GM_low ml_GM_292 im_GM_low se_GM_low gc_GM hX.1 (gm_o2 hX) hX.2.2.1 rfl (by decide) (by simp only [List.map, gR_cat, gI_cat, gL_cat, List.sum_cons, List.sum_nil]; decide) rfl id id T (fun v5 M4 h6 T => ?_)
  refine wp_isub d_GM_size_14 ?_
  refine wp_iconst d_GM_size_15 ?_
  refine wp_iadd d_GM_size_16 ?_
  refine wp_aload_n d_GM_size_17 rfl rfl (g_nz hX.1) ?_
  refine wp_iload_n d_GM_size_18 rfl rfl ?_
  refine wp_iload_n d_GM_size_19 rfl rfl ?_
  refine wp_iconst d_GM_size_20 ?_
  refine xcV_I (md' := false) (As := [gI x1, gI x2, gI 0]) (st := [gI ((v2 - v5) + 1)]) d_GM_size_21 ca_GM_high ml_GM_288 im_GM_high se_GM_high gc_GM hX.1 (gm_o2 hX) hX.2.2.1 rfl (by decide) (by simp only [List.map, gR_cat, gI_cat, gL_cat, List.sum_cons, List.sum_nil]; decide) rfl id id T (fun v8 M7 h9 T => ?_)
  refine wp_aload_n d_GM_size_24 rfl rfl (g_nz hX.1) ?_
  refine wp_iload_n d_GM_size_25 rfl rfl ?_
  refine wp_iload_n d_GM_size_26 rfl rfl ?_
  refine wp_iconst d_GM_size_27 ?_
  refine xcV_I (md' := false) (As := [gI x1, gI x2, gI 0]) (st := [gI v8, gI ((v2 - v5) + 1)]) d_GM_size_28 ca_GM_low ml_GM_292 im_GM_low se_GM_low gc_GM hX.1 (gm_o2 hX) hX.2.2.1 rfl (by decide) (by simp only [List.map, gR_cat, gI_cat, gL_cat, List.sum_cons, List.sum_nil]; decide) rfl id id T (fun v11 M10 h12 T => ?_)
  refine wp_isub d_GM_size_31 ?_
  refine wp_iconst d_GM_size_32 ?_
  refine wp_iadd d_GM_size_33 ?_
  refine wp_imul d_GM_size_34 ?_
  exact wp_st (st' := [gI (w32 (((v2 - v5) + 1) * ((v8 - v11) + 1)))]) (by rw [gI_w]) (wp_ireturn d_GM_size_35 rfl id (Nat.zero_le _) (Nat.zero_le _) (kI_mk (w32_ok _) T))
theorem e_GM_size {l : Launch} {G : gG} {d : Nat} {X : gX} {M : gM} {k : Int → gM → Prop} {o : Nat} {x1 : Int} {x2 : Int} (T : wp l G y_GM_size (gRm (d + 1)) false (kkI X k) false 0 [.val (gR G o), .val (gI x1), .val (gI x2)] [] X M 0 0) : cI l G y_GM_size (gRm (d + 1)) false [gR G o, gI x1, gI x2] X M k := cen_I (plainFor_of_name rfl) (by simp only [lg_sl_R, lg_sl_I, lg_sl_L, lg_sl_N, List.length_cons, List.length_nil]; decide) (by unfold gEn; simp only [lg_sl_R, lg_sl_I, lg_sl_L, lg_sl_N]; exact wpt T (And.intro rfl (And.intro rfl (And.intro rfl True.intro))))
theorem d_GM_ranges_0 : decode prog_15_method_35_code 0 = .ok (.iconst 0, 1) := by decide +kernel
theorem d_GM_ranges_1 : decode prog_15_method_35_code 1 = .ok (.istore_n 2, 1) := by decide +kernel
theorem d_GM_ranges_2 : decode prog_15_method_35_code 2 = .ok (.iconst 0, 1) := by decide +kernel
theorem d_GM_ranges_3 : decode prog_15_method_35_code 3 = .ok (.istore_n 3, 1) := by decide +kernel
theorem d_GM_ranges_4 : decode prog_15_method_35_code 4 = .ok (.iload_n 3, 1) := by decide +kernel
theorem d_GM_ranges_5 : decode prog_15_method_35_code 5 = .ok (.sipush 5200, 3) := by decide +kernel
theorem d_GM_ranges_8 : decode prog_15_method_35_code 8 = .ok (.if_icmp .ge 107, 3) := by decide +kernel
theorem d_GM_ranges_115 : decode prog_15_method_35_code 115 = .ok (.iload_n 2, 1) := by decide +kernel
theorem d_GM_ranges_116 : decode prog_15_method_35_code 116 = .ok (.ireturn, 1) := by decide +kernel
theorem d_GM_ranges_11 : decode prog_15_method_35_code 11 = .ok (.aload_n 0, 1) := by decide +kernel
theorem d_GM_ranges_12 : decode prog_15_method_35_code 12 = .ok (.getfield 69, 3) := by decide +kernel
theorem d_GM_ranges_15 : decode prog_15_method_35_code 15 = .ok (.iload_n 1, 1) := by decide +kernel
theorem d_GM_ranges_16 : decode prog_15_method_35_code 16 = .ok (.sipush 5200, 3) := by decide +kernel
theorem d_GM_ranges_19 : decode prog_15_method_35_code 19 = .ok (.imul, 1) := by decide +kernel
theorem d_GM_ranges_20 : decode prog_15_method_35_code 20 = .ok (.iload_n 3, 1) := by decide +kernel
theorem d_GM_ranges_21 : decode prog_15_method_35_code 21 = .ok (.iadd, 1) := by decide +kernel
theorem d_GM_ranges_22 : decode prog_15_method_35_code 22 = .ok (.iaload, 1) := by decide +kernel
theorem d_GM_ranges_23 : decode prog_15_method_35_code 23 = .ok (.iconst 3, 1) := by decide +kernel
theorem d_GM_ranges_24 : decode prog_15_method_35_code 24 = .ok (.if_icmp .eq 6, 3) := by decide +kernel
theorem d_GM_ranges_30 : decode prog_15_method_35_code 30 = .ok (.iconst 0, 1) := by decide +kernel
theorem d_GM_ranges_31 : decode prog_15_method_35_code 31 = .ok (.istore 4, 2) := by decide +kernel
theorem d_GM_ranges_27 : decode prog_15_method_35_code 27 = .ok (.goto 82, 3) := by decide +kernel
theorem d_GM_ranges_109 : decode prog_15_method_35_code 109 = .ok (.iinc 3 1, 3) := by decide +kernel
theorem d_GM_ranges_112 : decode prog_15_method_35_code 112 = .ok (.goto (-108), 3) := by decide +kernel
theorem d_GM_ranges_33 : decode prog_15_method_35_code 33 = .ok (.iload 4, 2) := by decide +kernel
theorem d_GM_ranges_35 : decode prog_15_method_35_code 35 = .ok (.aload_n 0, 1) := by decide +kernel
theorem d_GM_ranges_36 : decode prog_15_method_35_code 36 = .ok (.getfield 37, 3) := by decide +kernel
theorem d_GM_ranges_39 : decode prog_15_method_35_code 39 = .ok (.aload_n 0, 1) := by decide +kernel
theorem d_GM_ranges_40 : decode prog_15_method_35_code 40 = .ok (.getfield 72, 3) := by decide +kernel
theorem d_GM_ranges_43 : decode prog_15_method_35_code 43 = .ok (.iload_n 1, 1) := by decide +kernel
theorem d_GM_ranges_44 : decode prog_15_method_35_code 44 = .ok (.sipush 5200, 3) := by decide +kernel
theorem d_GM_ranges_47 : decode prog_15_method_35_code 47 = .ok (.imul, 1) := by decide +kernel
theorem d_GM_ranges_48 : decode prog_15_method_35_code 48 = .ok (.iload_n 3, 1) := by decide +kernel
theorem d_GM_ranges_49 : decode prog_15_method_35_code 49 = .ok (.iadd, 1) := by decide +kernel
theorem d_GM_ranges_50 : decode prog_15_method_35_code 50 = .ok (.iaload, 1) := by decide +kernel
theorem d_GM_ranges_51 : decode prog_15_method_35_code 51 = .ok (.iaload, 1) := by decide +kernel
theorem d_GM_ranges_52 : decode prog_15_method_35_code 52 = .ok (.if_icmp .ge 57, 3) := by decide +kernel
theorem d_GM_ranges_55 : decode prog_15_method_35_code 55 = .ok (.aload_n 0, 1) := by decide +kernel
theorem d_GM_ranges_56 : decode prog_15_method_35_code 56 = .ok (.iload_n 1, 1) := by decide +kernel
theorem d_GM_ranges_57 : decode prog_15_method_35_code 57 = .ok (.iload_n 3, 1) := by decide +kernel
theorem d_GM_ranges_58 : decode prog_15_method_35_code 58 = .ok (.iload 4, 2) := by decide +kernel
theorem d_GM_ranges_60 : decode prog_15_method_35_code 60 = .ok (.invokevirtual 295, 3) := by decide +kernel
theorem d_GM_ranges_63 : decode prog_15_method_35_code 63 = .ok (.iconst 1, 1) := by decide +kernel
theorem d_GM_ranges_64 : decode prog_15_method_35_code 64 = .ok (.if_icmp .ne 39, 3) := by decide +kernel
theorem d_GM_ranges_103 : decode prog_15_method_35_code 103 = .ok (.iinc 4 1, 3) := by decide +kernel
theorem d_GM_ranges_106 : decode prog_15_method_35_code 106 = .ok (.goto (-73), 3) := by decide +kernel
theorem d_GM_ranges_67 : decode prog_15_method_35_code 67 = .ok (.aload_n 0, 1) := by decide +kernel
theorem d_GM_ranges_68 : decode prog_15_method_35_code 68 = .ok (.iload_n 1, 1) := by decide +kernel
theorem d_GM_ranges_69 : decode prog_15_method_35_code 69 = .ok (.iload_n 3, 1) := by decide +kernel
theorem d_GM_ranges_70 : decode prog_15_method_35_code 70 = .ok (.iload 4, 2) := by decide +kernel
theorem d_GM_ranges_72 : decode prog_15_method_35_code 72 = .ok (.invokevirtual 299, 3) := by decide +kernel
theorem d_GM_ranges_75 : decode prog_15_method_35_code 75 = .ok (.ifCond .lt 28, 3) := by decide +kernel
theorem d_GM_ranges_78 : decode prog_15_method_35_code 78 = .ok (.iload_n 2, 1) := by decide +kernel
theorem d_GM_ranges_79 : decode prog_15_method_35_code 79 = .ok (.aload_n 0, 1) := by decide +kernel
theorem d_GM_ranges_80 : decode prog_15_method_35_code 80 = .ok (.aload_n 0, 1) := by decide +kernel
theorem d_GM_ranges_81 : decode prog_15_method_35_code 81 = .ok (.iload_n 1, 1) := by decide +kernel
theorem d_GM_ranges_82 : decode prog_15_method_35_code 82 = .ok (.iload_n 3, 1) := by decide +kernel
theorem d_GM_ranges_83 : decode prog_15_method_35_code 83 = .ok (.iload 4, 2) := by decide +kernel
theorem d_GM_ranges_85 : decode prog_15_method_35_code 85 = .ok (.invokevirtual 299, 3) := by decide +kernel
theorem d_GM_ranges_88 : decode prog_15_method_35_code 88 = .ok (.aload_n 0, 1) := by decide +kernel
theorem d_GM_ranges_89 : decode prog_15_method_35_code 89 = .ok (.iload_n 1, 1) := by decide +kernel
theorem d_GM_ranges_90 : decode prog_15_method_35_code 90 = .ok (.iload_n 3, 1) := by decide +kernel
theorem d_GM_ranges_91 : decode prog_15_method_35_code 91 = .ok (.iload 4, 2) := by decide +kernel
theorem d_GM_ranges_93 : decode prog_15_method_35_code 93 = .ok (.iconst 1, 1) := by decide +kernel
theorem d_GM_ranges_94 : decode prog_15_method_35_code 94 = .ok (.iadd, 1) := by decide +kernel
theorem d_GM_ranges_95 : decode prog_15_method_35_code 95 = .ok (.invokevirtual 299, 3) := by decide +kernel
theorem d_GM_ranges_98 : decode prog_15_method_35_code 98 = .ok (.invokevirtual 301, 3) := by decide +kernel
theorem d_GM_ranges_101 : decode prog_15_method_35_code 101 = .ok (.iadd, 1) := by decide +kernel
theorem d_GM_ranges_102 : decode prog_15_method_35_code 102 = .ok (.istore_n 2, 1) := by decide +kernel
set_option maxHeartbeats 4000000 in
theorem w_GM_ranges_0 {l : Launch} {G : gG} {d : Nat} {X : gX} {M : gM} {k : Int → gM → Prop} {o : Nat} (hX : gmX X o) {x1 : Int} (hx1 : g32 x1) (T : wp l G y_GM_ranges (gRm (d + 1)) false (kkI X k) false 4 [.val (gR G o), .val (gI x1), .val (gI 0), .val (gI 0), .unset] [] X M 0 0) : wp l G y_GM_ranges (gRm (d + 1)) false (kkI X k) false 0 [.val (gR G o), .val (gI x1), .unset, .unset, .unset] [] X M 0 0 := by
  refine wp_iconst d_GM_ranges_0 ?_
  refine wp_istore_n (L' := [.val (gR G o), .val (gI x1), .val (gI 0), .unset, .unset]) d_GM_ranges_1 rfl (by decide) rfl ?_
  refine wp_iconst d_GM_ranges_2 ?_
  refine wp_istore_n (L' := [.val (gR G o), .val (gI x1), .val (gI 0), .val (gI 0), .unset]) d_GM_ranges_3 rfl (by decide) rfl ?_
  exact (wpt T (And.intro rfl (And.intro rfl (And.intro rfl (And.intro rfl True.intro)))))
set_option maxHeartbeats 4000000 in
theorem w_GM_ranges_4 {l : Launch} {G : gG} {d : Nat} {X : gX} {M : gM} {k : Int → gM → Prop} {o : Nat} (hX : gmX X o) {x1 : Int} (hx1 : g32 x1) {x2 : Int} (hx2 : g32 x2) {x3 : Int} (hx3 : g32 x3) (T : (5200 ≤ x3 → (k x2 M)) ∧ (¬ 5200 ≤ x3 → (((0 : Int) ≤ (x1 * 5200) + x3 ∧ (x1 * 5200) + x3 < 218400) ∧ (g32 (M (o + 19) (Int.toNat ((x1 * 5200) + x3))) → ((M (o + 19) (Int.toNat ((x1 * 5200) + x3)) = 3 → (wp l G y_GM_ranges (gRm (d + 1)) false (kkI X k) false 33 [.val (gR G o), .val (gI x1), .val (gI x2), .val (gI x3), .val (gI 0)] [] X M 0 0)) ∧ (¬ M (o + 19) (Int.toNat ((x1 * 5200) + x3)) = 3 → (wp l G y_GM_ranges (gRm (d + 1)) false (kkI X k) false 4 [.val (gR G o), .val (gI x1), .val (gI x2), .val (gI (w32 (x3 + 1))), .unset] [] X M 0 0))))))) : wp l G y_GM_ranges (gRm (d + 1)) false (kkI X k) false 4 [.val (gR G o), .val (gI x1), .val (gI x2), .val (gI x3), .unset] [] X M 0 0 := by
  refine wp_iload_n d_GM_ranges_4 rfl rfl ?_
  refine wp_sipush d_GM_ranges_5 ⟨by decide, by decide⟩ ?_
  refine xi_ge (tgt := 115) d_GM_ranges_8 (by decide) (w32_id hx3) (w32_id (g32_c (x := 5200) rfl)) (fun h3 => ?_) (fun h3 => ?_)
  · have T := T.1 h3
    refine wp_iload_n d_GM_ranges_115 rfl rfl ?_
    exact wp_ireturn d_GM_ranges_116 rfl id (Nat.zero_le _) (Nat.zero_le _) (kI_mk hx2 T)
  · have T := T.2 h3
    refine wp_aload_n d_GM_ranges_11 rfl rfl (g_nz hX.1) ?_
    refine xgetR d_GM_ranges_12 gc_GM f_GM_69.1 f_GM_69.2.1 f_GM_69.2.2.1 hX.1 (gm_o2 hX) hX.2.2.1 f_GM_69.2.2.2.2.1 (gm_row hX 18 rfl).1 ?_
    refine wp_iload_n d_GM_ranges_15 rfl rfl ?_
    refine wp_sipush d_GM_ranges_16 ⟨by decide, by decide⟩ ?_
    refine wp_imul d_GM_ranges_19 ?_
    refine wp_iload_n d_GM_ranges_20 rfl rfl ?_
    refine wp_iadd d_GM_ranges_21 ?_
    refine wp_iaload d_GM_ranges_22 (gm_row hX 18 rfl).2.2.1 (gm_row hX 18 rfl).2.2.2 (gm_row hX 18 rfl).2.1 (g32_n T.1 (by decide)) T.1.1 T.1.2 (fun h1 => ?_)
    have T := T.2 h1
    refine wp_iconst d_GM_ranges_23 ?_
    refine xi_eq (tgt := 30) d_GM_ranges_24 (by decide) (w32_id h1) (w32_id (g32_c (x := 3) rfl)) (fun h2 => ?_) (fun h2 => ?_)
    · have T := T.1 h2
      refine wp_iconst d_GM_ranges_30 ?_
      refine wp_istore (L' := [.val (gR G o), .val (gI x1), .val (gI x2), .val (gI x3), .val (gI 0)]) d_GM_ranges_31 (by decide) rfl ?_
      exact (wpt T (And.intro rfl (And.intro rfl (And.intro rfl (And.intro rfl (And.intro rfl True.intro))))))
    · have T := T.2 h2
      refine wp_goto (tgt := 109) d_GM_ranges_27 (by decide) ?_
      refine wp_iinc (L' := [.val (gR G o), .val (gI x1), .val (gI x2), .val (gI (x3 + 1)), .unset]) d_GM_ranges_109 rfl (by decide) rfl ?_
      refine wp_goto (tgt := 4) d_GM_ranges_112 (by decide) ?_
      exact (wpt T (And.intro rfl (And.intro rfl (And.intro rfl (And.intro (gI_w _) True.intro)))))
set_option maxHeartbeats 4000000 in
theorem w_GM_ranges_33 {l : Launch} {G : gG} {d : Nat} {X : gX} {M : gM} {k : Int → gM → Prop} {o : Nat} (hX : gmX X o) {x1 : Int} (hx1 : g32 x1) {x2 : Int} (hx2 : g32 x2) {x3 : Int} (hx3 : g32 x3) {x4 : Int} (hx4 : g32 x4) (T : ((0 : Int) ≤ (x1 * 5200) + x3 ∧ (x1 * 5200) + x3 < 218400) ∧ (g32 (M (o + 20) (Int.toNat ((x1 * 5200) + x3))) → (((0 : Int) ≤ M (o + 20) (Int.toNat ((x1 * 5200) + x3)) ∧ M (o + 20) (Int.toNat ((x1 * 5200) + x3)) < 4200) ∧ (g32 (M (o + 9) (Int.toNat (M (o + 20) (Int.toNat ((x1 * 5200) + x3))))) → ((M (o + 9) (Int.toNat (M (o + 20) (Int.toNat ((x1 * 5200) + x3)))) ≤ x4 → (wp l G y_GM_ranges (gRm (d + 1)) false (kkI X k) false 4 [.val (gR G o), .val (gI x1), .val (gI x2), .val (gI (w32 (x3 + 1))), .unset] [] X M 0 0)) ∧ (¬ M (o + 9) (Int.toNat (M (o + 20) (Int.toNat ((x1 * 5200) + x3)))) ≤ x4 → (cI l G y_GM_corner (gRm d) false [gR G o, gI x1, gI x3, gI x4] X M (fun v7 M6 => ((¬ v7 = 1 → (wp l G y_GM_ranges (gRm (d + 1)) false (kkI X k) false 33 [.val (gR G o), .val (gI x1), .val (gI x2), .val (gI x3), .val (gI (w32 (x4 + 1)))] [] X M6 0 0)) ∧ (v7 = 1 → (cI l G y_GM_ref_2 (gRm d) false [gR G o, gI x1, gI x3, gI x4] X M6 (fun v10 M9 => ((v10 < 0 → (wp l G y_GM_ranges (gRm (d + 1)) false (kkI X k) false 33 [.val (gR G o), .val (gI x1), .val (gI x2), .val (gI x3), .val (gI (w32 (x4 + 1)))] [] X M9 0 0)) ∧ (¬ v10 < 0 → (cI l G y_GM_ref_2 (gRm d) false [gR G o, gI x1, gI x3, gI x4] X M9 (fun v13 M12 => (cI l G y_GM_ref_2 (gRm d) false [gR G o, gI x1, gI x3, gI (x4 + 1)] X M12 (fun v16 M15 => (cI l G y_GM_size (gRm d) false [gR G o, gI v13, gI v16] X M15 (fun v19 M18 => (wp l G y_GM_ranges (gRm (d + 1)) false (kkI X k) false 33 [.val (gR G o), .val (gI x1), .val (gI (w32 (x2 + v19))), .val (gI x3), .val (gI (w32 (x4 + 1)))] [] X M18 0 0))))))))))))))))))))) : wp l G y_GM_ranges (gRm (d + 1)) false (kkI X k) false 33 [.val (gR G o), .val (gI x1), .val (gI x2), .val (gI x3), .val (gI x4)] [] X M 0 0 := by
  refine wp_iload d_GM_ranges_33 rfl ?_
  refine wp_aload_n d_GM_ranges_35 rfl rfl (g_nz hX.1) ?_
  refine xgetR d_GM_ranges_36 gc_GM f_GM_37.1 f_GM_37.2.1 f_GM_37.2.2.1 hX.1 (gm_o2 hX) hX.2.2.1 f_GM_37.2.2.2.2.1 (gm_row hX 8 rfl).1 ?_
  refine wp_aload_n d_GM_ranges_39 rfl rfl (g_nz hX.1) ?_
  refine xgetR d_GM_ranges_40 gc_GM f_GM_72.1 f_GM_72.2.1 f_GM_72.2.2.1 hX.1 (gm_o2 hX) hX.2.2.1 f_GM_72.2.2.2.2.1 (gm_row hX 19 rfl).1 ?_
  refine wp_iload_n d_GM_ranges_43 rfl rfl ?_
  refine wp_sipush d_GM_ranges_44 ⟨by decide, by decide⟩ ?_
  refine wp_imul d_GM_ranges_47 ?_
  refine wp_iload_n d_GM_ranges_48 rfl rfl ?_
  refine wp_iadd d_GM_ranges_49 ?_
  refine wp_iaload d_GM_ranges_50 (gm_row hX 19 rfl).2.2.1 (gm_row hX 19 rfl).2.2.2 (gm_row hX 19 rfl).2.1 (g32_n T.1 (by decide)) T.1.1 T.1.2 (fun h4 => ?_)
  have T := T.2 h4
  refine wp_iaload d_GM_ranges_51 (gm_row hX 8 rfl).2.2.1 (gm_row hX 8 rfl).2.2.2 (gm_row hX 8 rfl).2.1 (g32_n T.1 (by decide)) T.1.1 T.1.2 (fun h5 => ?_)
  have T := T.2 h5
  refine xi_ge (tgt := 109) d_GM_ranges_52 (by decide) (w32_id hx4) (w32_id h5) (fun h23 => ?_) (fun h23 => ?_)
  · have T := T.1 h23
    refine wp_iinc (L' := [.val (gR G o), .val (gI x1), .val (gI x2), .val (gI (x3 + 1)), .val (gI x4)]) d_GM_ranges_109 rfl (by decide) rfl ?_
    refine wp_goto (tgt := 4) d_GM_ranges_112 (by decide) ?_
    exact (wpt T (And.intro rfl (And.intro rfl (And.intro rfl (And.intro (gI_w _) True.intro)))))
  · have T := T.2 h23
    refine wp_aload_n d_GM_ranges_55 rfl rfl (g_nz hX.1) ?_
    refine wp_iload_n d_GM_ranges_56 rfl rfl ?_
    refine wp_iload_n d_GM_ranges_57 rfl rfl ?_
    refine wp_iload d_GM_ranges_58 rfl ?_
    refine xcV_I (md' := false) (As := [gI x1, gI x3, gI x4]) (st := []) d_GM_ranges_60 ca_GM_corner ml_GM_295 im_GM_corner se_GM_corner gc_GM hX.1 (gm_o2 hX) hX.2.2.1 rfl (by decide) (by decide) rfl id id T (fun v7 M6 h8 T => ?_)
    refine wp_iconst d_GM_ranges_63 ?_
    refine xi_ne (tgt := 103) d_GM_ranges_64 (by decide) (w32_id h8) (w32_id (g32_c (x := 1) rfl)) (fun h22 => ?_) (fun h22 => ?_)
    · have T := T.1 h22
      refine wp_iinc (L' := [.val (gR G o), .val (gI x1), .val (gI x2), .val (gI x3), .val (gI (x4 + 1))]) d_GM_ranges_103 rfl (by decide) rfl ?_
      refine wp_goto (tgt := 33) d_GM_ranges_106 (by decide) ?_
      exact (wpt T (And.intro rfl (And.intro rfl (And.intro rfl (And.intro rfl (And.intro (gI_w _) True.intro))))))
    · have T := T.2 h22
      refine wp_aload_n d_GM_ranges_67 rfl rfl (g_nz hX.1) ?_
      refine wp_iload_n d_GM_ranges_68 rfl rfl ?_
      refine wp_iload_n d_GM_ranges_69 rfl rfl ?_
      refine wp_iload d_GM_ranges_70 rfl ?_
      refine xcV_I (md' := false) (As := [gI x1, gI x3, gI x4]) (st := []) d_GM_ranges_72 ca_GM_ref_2 ml_GM_299 im_GM_ref_2 se_GM_ref_2 gc_GM hX.1 (gm_o2 hX) hX.2.2.1 rfl (by decide) (by decide) rfl id id T (fun v10 M9 h11 T => ?_)
      refine xz_lt (tgt := 103) d_GM_ranges_75 (by decide) (w32_id h11) (fun h21 => ?_) (fun h21 => ?_)
      · have T := T.1 h21
        refine wp_iinc (L' := [.val (gR G o), .val (gI x1), .val (gI x2), .val (gI x3), .val (gI (x4 + 1))]) d_GM_ranges_103 rfl (by decide) rfl ?_
        refine wp_goto (tgt := 33) d_GM_ranges_106 (by decide) ?_
        exact (wpt T (And.intro rfl (And.intro rfl (And.intro rfl (And.intro rfl (And.intro (gI_w _) True.intro))))))
      · have T := T.2 h21
        refine wp_iload_n d_GM_ranges_78 rfl rfl ?_
        refine wp_aload_n d_GM_ranges_79 rfl rfl (g_nz hX.1) ?_
        refine wp_aload_n d_GM_ranges_80 rfl rfl (g_nz hX.1) ?_
        refine wp_iload_n d_GM_ranges_81 rfl rfl ?_
        refine wp_iload_n d_GM_ranges_82 rfl rfl ?_
        refine wp_iload d_GM_ranges_83 rfl ?_
        refine xcV_I (md' := false) (As := [gI x1, gI x3, gI x4]) (st := [gR G o, gI x2]) d_GM_ranges_85 ca_GM_ref_2 ml_GM_299 im_GM_ref_2 se_GM_ref_2 gc_GM hX.1 (gm_o2 hX) hX.2.2.1 rfl (by decide) (by simp only [List.map, gR_cat, gI_cat, gL_cat, List.sum_cons, List.sum_nil]; decide) rfl id id T (fun v13 M12 h14 T => ?_)
        refine wp_aload_n d_GM_ranges_88 rfl rfl (g_nz hX.1) ?_
        refine wp_iload_n d_GM_ranges_89 rfl rfl ?_
        refine wp_iload_n d_GM_ranges_90 rfl rfl ?_
        refine wp_iload d_GM_ranges_91 rfl ?_
        refine wp_iconst d_GM_ranges_93 ?_
        refine wp_iadd d_GM_ranges_94 ?_
        refine xcV_I (md' := false) (As := [gI x1, gI x3, gI (x4 + 1)]) (st := [gI v13, gR G o, gI x2]) d_GM_ranges_95 ca_GM_ref_2 ml_GM_299 im_GM_ref_2 se_GM_ref_2 gc_GM hX.1 (gm_o2 hX) hX.2.2.1 rfl (by decide) (by simp only [List.map, gR_cat, gI_cat, gL_cat, List.sum_cons, List.sum_nil]; decide) rfl id id T (fun v16 M15 h17 T => ?_)
        refine xcV_I (md' := false) (As := [gI v13, gI v16]) (st := [gI x2]) d_GM_ranges_98 ca_GM_size ml_GM_301 im_GM_size se_GM_size gc_GM hX.1 (gm_o2 hX) hX.2.2.1 rfl (by decide) (by simp only [List.map, gR_cat, gI_cat, gL_cat, List.sum_cons, List.sum_nil]; decide) rfl id id T (fun v19 M18 h20 T => ?_)
        refine wp_iadd d_GM_ranges_101 ?_
        refine wp_istore_n (L' := [.val (gR G o), .val (gI x1), .val (gI (x2 + v19)), .val (gI x3), .val (gI x4)]) d_GM_ranges_102 rfl (by decide) rfl ?_
        refine wp_iinc (L' := [.val (gR G o), .val (gI x1), .val (gI (x2 + v19)), .val (gI x3), .val (gI (x4 + 1))]) d_GM_ranges_103 rfl (by decide) rfl ?_
        refine wp_goto (tgt := 33) d_GM_ranges_106 (by decide) ?_
        exact (wpt T (And.intro rfl (And.intro rfl (And.intro (gI_w _) (And.intro rfl (And.intro (gI_w _) True.intro))))))
theorem e_GM_ranges {l : Launch} {G : gG} {d : Nat} {X : gX} {M : gM} {k : Int → gM → Prop} {o : Nat} {x1 : Int} (T : wp l G y_GM_ranges (gRm (d + 1)) false (kkI X k) false 0 [.val (gR G o), .val (gI x1), .unset, .unset, .unset] [] X M 0 0) : cI l G y_GM_ranges (gRm (d + 1)) false [gR G o, gI x1] X M k := cen_I (plainFor_of_name rfl) (by simp only [lg_sl_R, lg_sl_I, lg_sl_L, lg_sl_N, List.length_cons, List.length_nil]; decide) (by unfold gEn; simp only [lg_sl_R, lg_sl_I, lg_sl_L, lg_sl_N]; exact wpt T (And.intro rfl (And.intro rfl True.intro)))
theorem d_GM_push_0 : decode prog_15_method_36_code 0 = .ok (.aload_n 0, 1) := by decide +kernel
theorem d_GM_push_1 : decode prog_15_method_36_code 1 = .ok (.getfield 116, 3) := by decide +kernel
theorem d_GM_push_4 : decode prog_15_method_36_code 4 = .ok (.aload_n 0, 1) := by decide +kernel
theorem d_GM_push_5 : decode prog_15_method_36_code 5 = .ok (.getfield 304, 3) := by decide +kernel
theorem d_GM_push_8 : decode prog_15_method_36_code 8 = .ok (.iload_n 1, 1) := by decide +kernel
theorem d_GM_push_9 : decode prog_15_method_36_code 9 = .ok (.iastore, 1) := by decide +kernel
theorem d_GM_push_10 : decode prog_15_method_36_code 10 = .ok (.aload_n 0, 1) := by decide +kernel
theorem d_GM_push_11 : decode prog_15_method_36_code 11 = .ok (.getfield 122, 3) := by decide +kernel
theorem d_GM_push_14 : decode prog_15_method_36_code 14 = .ok (.aload_n 0, 1) := by decide +kernel
theorem d_GM_push_15 : decode prog_15_method_36_code 15 = .ok (.getfield 304, 3) := by decide +kernel
theorem d_GM_push_18 : decode prog_15_method_36_code 18 = .ok (.lload_n 2, 1) := by decide +kernel
theorem d_GM_push_19 : decode prog_15_method_36_code 19 = .ok (.lastore, 1) := by decide +kernel
theorem d_GM_push_20 : decode prog_15_method_36_code 20 = .ok (.aload_n 0, 1) := by decide +kernel
theorem d_GM_push_21 : decode prog_15_method_36_code 21 = .ok (.getfield 119, 3) := by decide +kernel
theorem d_GM_push_24 : decode prog_15_method_36_code 24 = .ok (.aload_n 0, 1) := by decide +kernel
theorem d_GM_push_25 : decode prog_15_method_36_code 25 = .ok (.getfield 304, 3) := by decide +kernel
theorem d_GM_push_28 : decode prog_15_method_36_code 28 = .ok (.iconst 0, 1) := by decide +kernel
theorem d_GM_push_29 : decode prog_15_method_36_code 29 = .ok (.iastore, 1) := by decide +kernel
theorem d_GM_push_30 : decode prog_15_method_36_code 30 = .ok (.aload_n 0, 1) := by decide +kernel
theorem d_GM_push_31 : decode prog_15_method_36_code 31 = .ok (.dup, 1) := by decide +kernel
theorem d_GM_push_32 : decode prog_15_method_36_code 32 = .ok (.getfield 304, 3) := by decide +kernel
theorem d_GM_push_35 : decode prog_15_method_36_code 35 = .ok (.iconst 1, 1) := by decide +kernel
theorem d_GM_push_36 : decode prog_15_method_36_code 36 = .ok (.iadd, 1) := by decide +kernel
theorem d_GM_push_37 : decode prog_15_method_36_code 37 = .ok (.putfield 304, 3) := by decide +kernel
theorem d_GM_push_40 : decode prog_15_method_36_code 40 = .ok (.return_, 1) := by decide +kernel
set_option maxHeartbeats 4000000 in
theorem w_GM_push_0 {l : Launch} {G : gG} {d : Nat} {X : gX} {M : gM} {k : gM → Prop} {o : Nat} (hX : gmX X o) {x1 : Int} (hx1 : g32 x1) {x2 : Int} (hx2 : g64 x2) (T : g32 (M o 50) → (((0 : Int) ≤ M o 50 ∧ M o 50 < 1200) ∧ (g32 ((gUp M (o + 34) (Int.toNat (M o 50)) x1) o 50) → (((0 : Int) ≤ (gUp M (o + 34) (Int.toNat (M o 50)) x1) o 50 ∧ (gUp M (o + 34) (Int.toNat (M o 50)) x1) o 50 < 1200) ∧ (g32 ((gUp (gUp M (o + 34) (Int.toNat (M o 50)) x1) (o + 36) (Int.toNat ((gUp M (o + 34) (Int.toNat (M o 50)) x1) o 50)) x2) o 50) → (((0 : Int) ≤ (gUp (gUp M (o + 34) (Int.toNat (M o 50)) x1) (o + 36) (Int.toNat ((gUp M (o + 34) (Int.toNat (M o 50)) x1) o 50)) x2) o 50 ∧ (gUp (gUp M (o + 34) (Int.toNat (M o 50)) x1) (o + 36) (Int.toNat ((gUp M (o + 34) (Int.toNat (M o 50)) x1) o 50)) x2) o 50 < 1200) ∧ (g32 ((gUp (gUp (gUp M (o + 34) (Int.toNat (M o 50)) x1) (o + 36) (Int.toNat ((gUp M (o + 34) (Int.toNat (M o 50)) x1) o 50)) x2) (o + 35) (Int.toNat ((gUp (gUp M (o + 34) (Int.toNat (M o 50)) x1) (o + 36) (Int.toNat ((gUp M (o + 34) (Int.toNat (M o 50)) x1) o 50)) x2) o 50)) 0) o 50) → (k (gUp (gUp (gUp (gUp M (o + 34) (Int.toNat (M o 50)) x1) (o + 36) (Int.toNat ((gUp M (o + 34) (Int.toNat (M o 50)) x1) o 50)) x2) (o + 35) (Int.toNat ((gUp (gUp M (o + 34) (Int.toNat (M o 50)) x1) (o + 36) (Int.toNat ((gUp M (o + 34) (Int.toNat (M o 50)) x1) o 50)) x2) o 50)) 0) o 50 (w32 (((gUp (gUp (gUp M (o + 34) (Int.toNat (M o 50)) x1) (o + 36) (Int.toNat ((gUp M (o + 34) (Int.toNat (M o 50)) x1) o 50)) x2) (o + 35) (Int.toNat ((gUp (gUp M (o + 34) (Int.toNat (M o 50)) x1) (o + 36) (Int.toNat ((gUp M (o + 34) (Int.toNat (M o 50)) x1) o 50)) x2) o 50)) 0) o 50) + 1))))))))))) : wp l G y_GM_push (gRm d) true (kkV X k) false 0 [.val (gR G o), .val (gI x1), .val (gL x2), .unset] [] X M 0 0 := by
  refine wp_aload_n d_GM_push_0 rfl rfl (g_nz hX.1) ?_
  refine xgetR d_GM_push_1 gc_GM f_GM_116.1 f_GM_116.2.1 f_GM_116.2.2.1 hX.1 (gm_o2 hX) hX.2.2.1 f_GM_116.2.2.2.2.1 (gm_row hX 33 rfl).1 ?_
  refine wp_aload_n d_GM_push_4 rfl rfl (g_nz hX.1) ?_
  refine xgetI d_GM_push_5 gc_GM f_GM_304.1 f_GM_304.2.1 f_GM_304.2.2.1 hX.1 (gm_o2 hX) hX.2.2.1 f_GM_304.2.2.2.2.1 (fun h1 => ?_)
  have T := T h1
  refine wp_iload_n d_GM_push_8 rfl rfl ?_
  refine xiast d_GM_push_9 (gm_row hX 33 rfl).2.2.1 (gm_row hX 33 rfl).2.2.2 (gm_row hX 33 rfl).2.1 (by decide) T.1 (w32_id hx1) ?_
  have T := T.2
  refine wp_aload_n d_GM_push_10 rfl rfl (g_nz hX.1) ?_
  refine xgetR d_GM_push_11 gc_GM f_GM_122.1 f_GM_122.2.1 f_GM_122.2.2.1 hX.1 (gm_o2 hX) hX.2.2.1 f_GM_122.2.2.2.2.1 (gm_row hX 35 rfl).1 ?_
  refine wp_aload_n d_GM_push_14 rfl rfl (g_nz hX.1) ?_
  refine xgetI d_GM_push_15 gc_GM f_GM_304.1 f_GM_304.2.1 f_GM_304.2.2.1 hX.1 (gm_o2 hX) hX.2.2.1 f_GM_304.2.2.2.2.1 (fun h2 => ?_)
  have T := T h2
  refine wp_lload_n d_GM_push_18 rfl rfl ?_
  refine xlast d_GM_push_19 (gm_row hX 35 rfl).2.2.1 (gm_row hX 35 rfl).2.2.2 (gm_row hX 35 rfl).2.1 (by decide) T.1 (w64_id hx2) ?_
  have T := T.2
  refine wp_aload_n d_GM_push_20 rfl rfl (g_nz hX.1) ?_
  refine xgetR d_GM_push_21 gc_GM f_GM_119.1 f_GM_119.2.1 f_GM_119.2.2.1 hX.1 (gm_o2 hX) hX.2.2.1 f_GM_119.2.2.2.2.1 (gm_row hX 34 rfl).1 ?_
  refine wp_aload_n d_GM_push_24 rfl rfl (g_nz hX.1) ?_
  refine xgetI d_GM_push_25 gc_GM f_GM_304.1 f_GM_304.2.1 f_GM_304.2.2.1 hX.1 (gm_o2 hX) hX.2.2.1 f_GM_304.2.2.2.2.1 (fun h3 => ?_)
  have T := T h3
  refine wp_iconst d_GM_push_28 ?_
  refine xiast d_GM_push_29 (gm_row hX 34 rfl).2.2.1 (gm_row hX 34 rfl).2.2.2 (gm_row hX 34 rfl).2.1 (by decide) T.1 (w32_id (g32_c (x := 0) rfl)) ?_
  have T := T.2
  refine wp_aload_n d_GM_push_30 rfl rfl (g_nz hX.1) ?_
  refine wp_dup d_GM_push_31 (gR_cat _) ?_
  refine xgetI d_GM_push_32 gc_GM f_GM_304.1 f_GM_304.2.1 f_GM_304.2.2.1 hX.1 (gm_o2 hX) hX.2.2.1 f_GM_304.2.2.2.2.1 (fun h4 => ?_)
  have T := T h4
  refine wp_iconst d_GM_push_35 ?_
  refine wp_iadd d_GM_push_36 ?_
  refine xputI d_GM_push_37 gc_GM f_GM_304.1 f_GM_304.2.1 f_GM_304.2.2.1 hX.1 (gm_o2 hX) hX.2.2.1 f_GM_304.2.2.2.1 f_GM_304.2.2.2.2.1 f_GM_304.2.2.2.2.2 rfl ?_
  exact wp_return d_GM_push_40 rfl (fun _ => rfl) (Nat.zero_le _) (Nat.zero_le _) (kV_mk T)
theorem e_GM_push {l : Launch} {G : gG} {d : Nat} {X : gX} {M : gM} {k : gM → Prop} {o : Nat} {x1 : Int} {x2 : Int} (T : wp l G y_GM_push (gRm d) true (kkV X k) false 0 [.val (gR G o), .val (gI x1), .val (gL x2), .unset] [] X M 0 0) : cV l G y_GM_push (gRm d) true [gR G o, gI x1, gL x2] X M k := cen_V (plainFor_of_name rfl) (by simp only [lg_sl_R, lg_sl_I, lg_sl_L, lg_sl_N, List.length_cons, List.length_nil]; decide) (by unfold gEn; simp only [lg_sl_R, lg_sl_I, lg_sl_L, lg_sl_N]; exact wpt T (And.intro rfl (And.intro rfl (And.intro rfl True.intro))))
theorem d_GM_fault_0 : decode prog_15_method_37_code 0 = .ok (.aload_n 0, 1) := by decide +kernel
theorem d_GM_fault_1 : decode prog_15_method_37_code 1 = .ok (.iconst 4, 1) := by decide +kernel
theorem d_GM_fault_2 : decode prog_15_method_37_code 2 = .ok (.iload_n 1, 1) := by decide +kernel
theorem d_GM_fault_3 : decode prog_15_method_37_code 3 = .ok (.i2l, 1) := by decide +kernel
theorem d_GM_fault_4 : decode prog_15_method_37_code 4 = .ok (.invokevirtual 307, 3) := by decide +kernel
theorem d_GM_fault_7 : decode prog_15_method_37_code 7 = .ok (.return_, 1) := by decide +kernel
set_option maxHeartbeats 4000000 in
theorem w_GM_fault_0 {l : Launch} {G : gG} {d : Nat} {X : gX} {M : gM} {k : gM → Prop} {o : Nat} (hX : gmX X o) {x1 : Int} (hx1 : g32 x1) (T : cV l G y_GM_push (gRm d) true [gR G o, gI 4, gL x1] X M (fun M1 => (k M1))) : wp l G y_GM_fault (gRm (d + 1)) true (kkV X k) false 0 [.val (gR G o), .val (gI x1)] [] X M 0 0 := by
  refine wp_aload_n d_GM_fault_0 rfl rfl (g_nz hX.1) ?_
  refine wp_iconst d_GM_fault_1 ?_
  refine wp_iload_n d_GM_fault_2 rfl rfl ?_
  refine xi2l d_GM_fault_3 (w32_id hx1) ?_
  refine xcV_V (md' := true) (As := [gI 4, gL x1]) (st := []) d_GM_fault_4 ca_GM_push ml_GM_307 im_GM_push se_GM_push gc_GM hX.1 (gm_o2 hX) hX.2.2.1 rfl (by decide) (by decide) rfl (fun _ => rfl) (fun _ => rfl) T (fun M1 T => ?_)
  exact wp_return d_GM_fault_7 rfl (fun _ => rfl) (Nat.zero_le _) (Nat.zero_le _) (kV_mk T)
theorem e_GM_fault {l : Launch} {G : gG} {d : Nat} {X : gX} {M : gM} {k : gM → Prop} {o : Nat} {x1 : Int} (T : wp l G y_GM_fault (gRm (d + 1)) true (kkV X k) false 0 [.val (gR G o), .val (gI x1)] [] X M 0 0) : cV l G y_GM_fault (gRm (d + 1)) true [gR G o, gI x1] X M k := cen_V (plainFor_of_name rfl) (by simp only [lg_sl_R, lg_sl_I, lg_sl_L, lg_sl_N, List.length_cons, List.length_nil]; decide) (by unfold gEn; simp only [lg_sl_R, lg_sl_I, lg_sl_L, lg_sl_N]; exact wpt T (And.intro rfl (And.intro rfl True.intro)))
