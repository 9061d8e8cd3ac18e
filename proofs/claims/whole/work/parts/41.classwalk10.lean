/-! Walks of the class's methods, written by wip/whole/gen_class.py -/
theorem d_Tk_placeIn_0 : decode prog_11_method_12_code 0 = .ok (.iload_n 1, 1) := by decide +kernel
theorem d_Tk_placeIn_1 : decode prog_11_method_12_code 1 = .ok (.istore_n 3, 1) := by decide +kernel
theorem d_Tk_placeIn_2 : decode prog_11_method_12_code 2 = .ok (.aload_n 0, 1) := by decide +kernel
theorem d_Tk_placeIn_3 : decode prog_11_method_12_code 3 = .ok (.getfield 24, 3) := by decide +kernel
theorem d_Tk_placeIn_6 : decode prog_11_method_12_code 6 = .ok (.iload_n 3, 1) := by decide +kernel
theorem d_Tk_placeIn_7 : decode prog_11_method_12_code 7 = .ok (.baload, 1) := by decide +kernel
theorem d_Tk_placeIn_8 : decode prog_11_method_12_code 8 = .ok (.bipush 36, 2) := by decide +kernel
theorem d_Tk_placeIn_10 : decode prog_11_method_12_code 10 = .ok (.if_icmp .ne 6, 3) := by decide +kernel
theorem d_Tk_placeIn_13 : decode prog_11_method_12_code 13 = .ok (.iinc 3 1, 3) := by decide +kernel
theorem d_Tk_placeIn_16 : decode prog_11_method_12_code 16 = .ok (.iload_n 3, 1) := by decide +kernel
theorem d_Tk_placeIn_17 : decode prog_11_method_12_code 17 = .ok (.iload_n 2, 1) := by decide +kernel
theorem d_Tk_placeIn_18 : decode prog_11_method_12_code 18 = .ok (.if_icmp .ge 15, 3) := by decide +kernel
theorem d_Tk_placeIn_33 : decode prog_11_method_12_code 33 = .ok (.iconst (-1), 1) := by decide +kernel
theorem d_Tk_placeIn_34 : decode prog_11_method_12_code 34 = .ok (.ireturn, 1) := by decide +kernel
theorem d_Tk_placeIn_21 : decode prog_11_method_12_code 21 = .ok (.aload_n 0, 1) := by decide +kernel
theorem d_Tk_placeIn_22 : decode prog_11_method_12_code 22 = .ok (.getfield 24, 3) := by decide +kernel
theorem d_Tk_placeIn_25 : decode prog_11_method_12_code 25 = .ok (.iload_n 3, 1) := by decide +kernel
theorem d_Tk_placeIn_26 : decode prog_11_method_12_code 26 = .ok (.baload, 1) := by decide +kernel
theorem d_Tk_placeIn_27 : decode prog_11_method_12_code 27 = .ok (.invokestatic 74, 3) := by decide +kernel
theorem d_Tk_placeIn_30 : decode prog_11_method_12_code 30 = .ok (.ifCond .ne 5, 3) := by decide +kernel
theorem d_Tk_placeIn_35 : decode prog_11_method_12_code 35 = .ok (.aload_n 0, 1) := by decide +kernel
theorem d_Tk_placeIn_36 : decode prog_11_method_12_code 36 = .ok (.getfield 24, 3) := by decide +kernel
theorem d_Tk_placeIn_39 : decode prog_11_method_12_code 39 = .ok (.iload_n 3, 1) := by decide +kernel
theorem d_Tk_placeIn_40 : decode prog_11_method_12_code 40 = .ok (.baload, 1) := by decide +kernel
theorem d_Tk_placeIn_41 : decode prog_11_method_12_code 41 = .ok (.bipush 65, 2) := by decide +kernel
theorem d_Tk_placeIn_43 : decode prog_11_method_12_code 43 = .ok (.isub, 1) := by decide +kernel
theorem d_Tk_placeIn_44 : decode prog_11_method_12_code 44 = .ok (.istore 4, 2) := by decide +kernel
theorem d_Tk_placeIn_46 : decode prog_11_method_12_code 46 = .ok (.iinc 3 1, 3) := by decide +kernel
theorem d_Tk_placeIn_49 : decode prog_11_method_12_code 49 = .ok (.iload_n 3, 1) := by decide +kernel
theorem d_Tk_placeIn_50 : decode prog_11_method_12_code 50 = .ok (.iload_n 2, 1) := by decide +kernel
theorem d_Tk_placeIn_51 : decode prog_11_method_12_code 51 = .ok (.if_icmp .ge 17, 3) := by decide +kernel
theorem d_Tk_placeIn_54 : decode prog_11_method_12_code 54 = .ok (.aload_n 0, 1) := by decide +kernel
theorem d_Tk_placeIn_55 : decode prog_11_method_12_code 55 = .ok (.getfield 24, 3) := by decide +kernel
theorem d_Tk_placeIn_58 : decode prog_11_method_12_code 58 = .ok (.iload_n 3, 1) := by decide +kernel
theorem d_Tk_placeIn_59 : decode prog_11_method_12_code 59 = .ok (.baload, 1) := by decide +kernel
theorem d_Tk_placeIn_60 : decode prog_11_method_12_code 60 = .ok (.bipush 36, 2) := by decide +kernel
theorem d_Tk_placeIn_62 : decode prog_11_method_12_code 62 = .ok (.if_icmp .ne 6, 3) := by decide +kernel
theorem d_Tk_placeIn_65 : decode prog_11_method_12_code 65 = .ok (.iinc 3 1, 3) := by decide +kernel
theorem d_Tk_placeIn_68 : decode prog_11_method_12_code 68 = .ok (.iload_n 3, 1) := by decide +kernel
theorem d_Tk_placeIn_69 : decode prog_11_method_12_code 69 = .ok (.iload_n 2, 1) := by decide +kernel
theorem d_Tk_placeIn_70 : decode prog_11_method_12_code 70 = .ok (.if_icmp .ge 33, 3) := by decide +kernel
theorem d_Tk_placeIn_103 : decode prog_11_method_12_code 103 = .ok (.iconst (-1), 1) := by decide +kernel
theorem d_Tk_placeIn_104 : decode prog_11_method_12_code 104 = .ok (.ireturn, 1) := by decide +kernel
theorem d_Tk_placeIn_73 : decode prog_11_method_12_code 73 = .ok (.iload_n 2, 1) := by decide +kernel
theorem d_Tk_placeIn_74 : decode prog_11_method_12_code 74 = .ok (.iload_n 3, 1) := by decide +kernel
theorem d_Tk_placeIn_75 : decode prog_11_method_12_code 75 = .ok (.isub, 1) := by decide +kernel
theorem d_Tk_placeIn_76 : decode prog_11_method_12_code 76 = .ok (.iconst 3, 1) := by decide +kernel
theorem d_Tk_placeIn_77 : decode prog_11_method_12_code 77 = .ok (.if_icmp .gt 26, 3) := by decide +kernel
theorem d_Tk_placeIn_80 : decode prog_11_method_12_code 80 = .ok (.aload_n 0, 1) := by decide +kernel
theorem d_Tk_placeIn_81 : decode prog_11_method_12_code 81 = .ok (.getfield 24, 3) := by decide +kernel
theorem d_Tk_placeIn_84 : decode prog_11_method_12_code 84 = .ok (.iload_n 3, 1) := by decide +kernel
theorem d_Tk_placeIn_85 : decode prog_11_method_12_code 85 = .ok (.baload, 1) := by decide +kernel
theorem d_Tk_placeIn_86 : decode prog_11_method_12_code 86 = .ok (.bipush 48, 2) := by decide +kernel
theorem d_Tk_placeIn_88 : decode prog_11_method_12_code 88 = .ok (.if_icmp .eq 15, 3) := by decide +kernel
theorem d_Tk_placeIn_91 : decode prog_11_method_12_code 91 = .ok (.aload_n 0, 1) := by decide +kernel
theorem d_Tk_placeIn_92 : decode prog_11_method_12_code 92 = .ok (.getfield 24, 3) := by decide +kernel
theorem d_Tk_placeIn_95 : decode prog_11_method_12_code 95 = .ok (.iload_n 3, 1) := by decide +kernel
theorem d_Tk_placeIn_96 : decode prog_11_method_12_code 96 = .ok (.iload_n 2, 1) := by decide +kernel
theorem d_Tk_placeIn_97 : decode prog_11_method_12_code 97 = .ok (.invokestatic 52, 3) := by decide +kernel
theorem d_Tk_placeIn_100 : decode prog_11_method_12_code 100 = .ok (.ifCond .ne 5, 3) := by decide +kernel
theorem d_Tk_placeIn_105 : decode prog_11_method_12_code 105 = .ok (.aload_n 0, 1) := by decide +kernel
theorem d_Tk_placeIn_106 : decode prog_11_method_12_code 106 = .ok (.getfield 24, 3) := by decide +kernel
theorem d_Tk_placeIn_109 : decode prog_11_method_12_code 109 = .ok (.iload_n 3, 1) := by decide +kernel
theorem d_Tk_placeIn_110 : decode prog_11_method_12_code 110 = .ok (.iload_n 2, 1) := by decide +kernel
theorem d_Tk_placeIn_111 : decode prog_11_method_12_code 111 = .ok (.invokestatic 87, 3) := by decide +kernel
theorem d_Tk_placeIn_114 : decode prog_11_method_12_code 114 = .ok (.lstore 5, 2) := by decide +kernel
theorem d_Tk_placeIn_116 : decode prog_11_method_12_code 116 = .ok (.lload 5, 2) := by decide +kernel
theorem d_Tk_placeIn_118 : decode prog_11_method_12_code 118 = .ok (.ldc2_w 91, 3) := by decide +kernel
theorem d_Tk_placeIn_121 : decode prog_11_method_12_code 121 = .ok (.lcmp, 1) := by decide +kernel
theorem d_Tk_placeIn_122 : decode prog_11_method_12_code 122 = .ok (.ifCond .le 7, 3) := by decide +kernel
theorem d_Tk_placeIn_129 : decode prog_11_method_12_code 129 = .ok (.iload 4, 2) := by decide +kernel
theorem d_Tk_placeIn_131 : decode prog_11_method_12_code 131 = .ok (.lload 5, 2) := by decide +kernel
theorem d_Tk_placeIn_133 : decode prog_11_method_12_code 133 = .ok (.l2i, 1) := by decide +kernel
theorem d_Tk_placeIn_134 : decode prog_11_method_12_code 134 = .ok (.iconst 1, 1) := by decide +kernel
theorem d_Tk_placeIn_135 : decode prog_11_method_12_code 135 = .ok (.isub, 1) := by decide +kernel
theorem d_Tk_placeIn_136 : decode prog_11_method_12_code 136 = .ok (.invokestatic 93, 3) := by decide +kernel
theorem d_Tk_placeIn_139 : decode prog_11_method_12_code 139 = .ok (.ireturn, 1) := by decide +kernel
theorem d_Tk_placeIn_125 : decode prog_11_method_12_code 125 = .ok (.iconst (-1), 1) := by decide +kernel
theorem d_Tk_placeIn_126 : decode prog_11_method_12_code 126 = .ok (.goto 13, 3) := by decide +kernel
set_option maxHeartbeats 4000000 in
theorem w_Tk_placeIn_0 {l : Launch} {G : gG} {d : Nat} {X : gX} {M : gM} {k : Int → gM → Prop} {c : Nat} (hX : glX X c) {x1 : Int} (hx1 : g32 x1) {x2 : Int} (hx2 : g32 x2)  (T : ((0 : Int) ≤ x1 ∧ x1 < 240) ∧ ((-128 ≤ M (c + 1) (Int.toNat x1) ∧ M (c + 1) (Int.toNat x1) < 128) → ((¬ M (c + 1) (Int.toNat x1) = 36 → (wp l G y_Tk_placeIn (gRm (d + 1)) false (kkI X k) false 16 [.val (gR G (c + 16)), .unset, .val (gI x2), .val (gI x1), .unset, .unset, .unset] [] X M 0 0)) ∧ (M (c + 1) (Int.toNat x1) = 36 → (wp l G y_Tk_placeIn (gRm (d + 1)) false (kkI X k) false 16 [.val (gR G (c + 16)), .unset, .val (gI x2), .val (gI (w32 (x1 + 1))), .unset, .unset, .unset] [] X M 0 0))))) : wp l G y_Tk_placeIn (gRm (d + 1)) false (kkI X k) false 0 [.val (gR G (c + 16)), .val (gI x1), .val (gI x2), .unset, .unset, .unset, .unset] [] X M 0 0 := by
  refine wp_iload_n d_Tk_placeIn_0 rfl rfl ?_
  refine wp_istore_n (L' := [.val (gR G (c + 16)), .val (gI x1), .val (gI x2), .val (gI x1), .unset, .unset, .unset]) d_Tk_placeIn_1 rfl (by decide) rfl ?_
  refine wp_aload_n d_Tk_placeIn_2 rfl rfl (g_nz (gl_1 hX 16)) ?_
  refine xgetR d_Tk_placeIn_3 gc_Tk f_Tk_24.1 f_Tk_24.2.1 f_Tk_24.2.2.1 (gl_1 hX 16) (gl_2 hX (a := 16) (by decide)) (gl_s hX 16 rfl) f_Tk_24.2.2.2.2.1 (gl_f hX 22 rfl) ?_
  refine wp_iload_n d_Tk_placeIn_6 rfl rfl ?_
  refine wp_baload d_Tk_placeIn_7 (gl_1 hX 1) (gl_2 hX (a := 1) (by decide)) (gl_s hX 1 rfl) (g32_n T.1 (by decide)) T.1.1 T.1.2 (fun h1 => ?_)
  have T := T.2 h1
  refine wp_bipush d_Tk_placeIn_8 ⟨by decide, by decide⟩ ?_
  refine xi_ne (tgt := 16) d_Tk_placeIn_10 (by decide) (w32_id (g32_b h1)) (w32_id (g32_c (x := 36) rfl)) (fun h2 => ?_) (fun h2 => ?_)
  · have T := T.1 h2
    exact (wpt T (And.intro rfl (And.intro rfl (And.intro rfl True.intro))))
  · have T := T.2 h2
    refine wp_iinc (L' := [.val (gR G (c + 16)), .val (gI x1), .val (gI x2), .val (gI (x1 + 1)), .unset, .unset, .unset]) d_Tk_placeIn_13 rfl (by decide) rfl ?_
    exact (wpt T (And.intro rfl (And.intro rfl (And.intro (gI_w _) True.intro))))
set_option maxHeartbeats 4000000 in
theorem w_Tk_placeIn_16 {l : Launch} {G : gG} {d : Nat} {X : gX} {M : gM} {k : Int → gM → Prop} {c : Nat} (hX : glX X c) {x2 : Int} (hx2 : g32 x2) {x3 : Int} (hx3 : g32 x3)  (T : (x2 ≤ x3 → (k (-1) M)) ∧ (¬ x2 ≤ x3 → (((0 : Int) ≤ x3 ∧ x3 < 240) ∧ ((-128 ≤ M (c + 1) (Int.toNat x3) ∧ M (c + 1) (Int.toNat x3) < 128) → (cZ l G y_Tk_isCapital (gRm d) false [gI (M (c + 1) (Int.toNat x3))] X M (fun v5 M4 => ((¬ v5 = 0 → (((0 : Int) ≤ x3 ∧ x3 < 240) ∧ ((-128 ≤ M4 (c + 1) (Int.toNat x3) ∧ M4 (c + 1) (Int.toNat x3) < 128) → ((x2 ≤ (w32 (x3 + 1)) → (wp l G y_Tk_placeIn (gRm (d + 1)) false (kkI X k) false 68 [.val (gR G (c + 16)), .unset, .val (gI x2), .val (gI (w32 (x3 + 1))), .val (gI (w32 ((M4 (c + 1) (Int.toNat x3)) - 65))), .unset, .unset] [] X M4 0 0)) ∧ (¬ x2 ≤ (w32 (x3 + 1)) → (((0 : Int) ≤ x3 + 1 ∧ x3 + 1 < 240) ∧ ((-128 ≤ M4 (c + 1) (Int.toNat (x3 + 1)) ∧ M4 (c + 1) (Int.toNat (x3 + 1)) < 128) → ((¬ M4 (c + 1) (Int.toNat (x3 + 1)) = 36 → (wp l G y_Tk_placeIn (gRm (d + 1)) false (kkI X k) false 68 [.val (gR G (c + 16)), .unset, .val (gI x2), .val (gI (w32 (x3 + 1))), .val (gI (w32 ((M4 (c + 1) (Int.toNat x3)) - 65))), .unset, .unset] [] X M4 0 0)) ∧ (M4 (c + 1) (Int.toNat (x3 + 1)) = 36 → (wp l G y_Tk_placeIn (gRm (d + 1)) false (kkI X k) false 68 [.val (gR G (c + 16)), .unset, .val (gI x2), .val (gI (w32 (x3 + 1 + 1))), .val (gI (w32 ((M4 (c + 1) (Int.toNat x3)) - 65))), .unset, .unset] [] X M4 0 0)))))))))) ∧ (v5 = 0 → (k (-1) M4))))))))) : wp l G y_Tk_placeIn (gRm (d + 1)) false (kkI X k) false 16 [.val (gR G (c + 16)), .unset, .val (gI x2), .val (gI x3), .unset, .unset, .unset] [] X M 0 0 := by
  refine wp_iload_n d_Tk_placeIn_16 rfl rfl ?_
  refine wp_iload_n d_Tk_placeIn_17 rfl rfl ?_
  refine xi_ge (tgt := 33) d_Tk_placeIn_18 (by decide) (w32_id hx3) (w32_id hx2) (fun h12 => ?_) (fun h12 => ?_)
  · have T := T.1 h12
    refine wp_iconst d_Tk_placeIn_33 ?_
    exact wp_ireturn d_Tk_placeIn_34 rfl id (Nat.zero_le _) (Nat.zero_le _) (kI_mk (g32_c (x := (-1)) rfl) T)
  · have T := T.2 h12
    refine wp_aload_n d_Tk_placeIn_21 rfl rfl (g_nz (gl_1 hX 16)) ?_
    refine xgetR d_Tk_placeIn_22 gc_Tk f_Tk_24.1 f_Tk_24.2.1 f_Tk_24.2.2.1 (gl_1 hX 16) (gl_2 hX (a := 16) (by decide)) (gl_s hX 16 rfl) f_Tk_24.2.2.2.2.1 (gl_f hX 22 rfl) ?_
    refine wp_iload_n d_Tk_placeIn_25 rfl rfl ?_
    refine wp_baload d_Tk_placeIn_26 (gl_1 hX 1) (gl_2 hX (a := 1) (by decide)) (gl_s hX 1 rfl) (g32_n T.1 (by decide)) T.1.1 T.1.2 (fun h3 => ?_)
    have T := T.2 h3
    refine xcS_Z (md' := false) (As := [gI (M (c + 1) (Int.toNat x3))]) (st := []) d_Tk_placeIn_27 ca_Tk_isCapital ml_Tk_74 sm_Tk_isCapital rfl (by decide) (by decide) rfl id id T (fun v5 M4 h6 T => ?_)
    refine xz_ne (tgt := 35) d_Tk_placeIn_30 (by decide) (w32_id (g32_z h6)) (fun h11 => ?_) (fun h11 => ?_)
    · have T := T.1 h11
      refine wp_aload_n d_Tk_placeIn_35 rfl rfl (g_nz (gl_1 hX 16)) ?_
      refine xgetR d_Tk_placeIn_36 gc_Tk f_Tk_24.1 f_Tk_24.2.1 f_Tk_24.2.2.1 (gl_1 hX 16) (gl_2 hX (a := 16) (by decide)) (gl_s hX 16 rfl) f_Tk_24.2.2.2.2.1 (gl_f hX 22 rfl) ?_
      refine wp_iload_n d_Tk_placeIn_39 rfl rfl ?_
      refine wp_baload d_Tk_placeIn_40 (gl_1 hX 1) (gl_2 hX (a := 1) (by decide)) (gl_s hX 1 rfl) (g32_n T.1 (by decide)) T.1.1 T.1.2 (fun h7 => ?_)
      have T := T.2 h7
      refine wp_bipush d_Tk_placeIn_41 ⟨by decide, by decide⟩ ?_
      refine wp_isub d_Tk_placeIn_43 ?_
      refine wp_istore (L' := [.val (gR G (c + 16)), .unset, .val (gI x2), .val (gI x3), .val (gI ((M4 (c + 1) (Int.toNat x3)) - 65)), .unset, .unset]) d_Tk_placeIn_44 (by decide) rfl ?_
      refine wp_iinc (L' := [.val (gR G (c + 16)), .unset, .val (gI x2), .val (gI (x3 + 1)), .val (gI ((M4 (c + 1) (Int.toNat x3)) - 65)), .unset, .unset]) d_Tk_placeIn_46 rfl (by decide) rfl ?_
      refine wp_iload_n d_Tk_placeIn_49 rfl rfl ?_
      refine wp_iload_n d_Tk_placeIn_50 rfl rfl ?_
      refine xi_ge (tgt := 68) d_Tk_placeIn_51 (by decide) rfl (w32_id hx2) (fun h10 => ?_) (fun h10 => ?_)
      · have T := T.1 h10
        exact (wpt T (And.intro rfl (And.intro rfl (And.intro (gI_w _) (And.intro (gI_w _) True.intro)))))
      · have T := T.2 h10
        refine wp_aload_n d_Tk_placeIn_54 rfl rfl (g_nz (gl_1 hX 16)) ?_
        refine xgetR d_Tk_placeIn_55 gc_Tk f_Tk_24.1 f_Tk_24.2.1 f_Tk_24.2.2.1 (gl_1 hX 16) (gl_2 hX (a := 16) (by decide)) (gl_s hX 16 rfl) f_Tk_24.2.2.2.2.1 (gl_f hX 22 rfl) ?_
        refine wp_iload_n d_Tk_placeIn_58 rfl rfl ?_
        refine wp_baload d_Tk_placeIn_59 (gl_1 hX 1) (gl_2 hX (a := 1) (by decide)) (gl_s hX 1 rfl) (g32_n T.1 (by decide)) T.1.1 T.1.2 (fun h8 => ?_)
        have T := T.2 h8
        refine wp_bipush d_Tk_placeIn_60 ⟨by decide, by decide⟩ ?_
        refine xi_ne (tgt := 68) d_Tk_placeIn_62 (by decide) (w32_id (g32_b h8)) (w32_id (g32_c (x := 36) rfl)) (fun h9 => ?_) (fun h9 => ?_)
        · have T := T.1 h9
          exact (wpt T (And.intro rfl (And.intro rfl (And.intro (gI_w _) (And.intro (gI_w _) True.intro)))))
        · have T := T.2 h9
          refine wp_iinc (L' := [.val (gR G (c + 16)), .unset, .val (gI x2), .val (gI (x3 + 1 + 1)), .val (gI ((M4 (c + 1) (Int.toNat x3)) - 65)), .unset, .unset]) d_Tk_placeIn_65 rfl (by decide) rfl ?_
          exact (wpt T (And.intro rfl (And.intro rfl (And.intro (gI_w _) (And.intro (gI_w _) True.intro)))))
    · have T := T.2 h11
      refine wp_iconst d_Tk_placeIn_33 ?_
      exact wp_ireturn d_Tk_placeIn_34 rfl id (Nat.zero_le _) (Nat.zero_le _) (kI_mk (g32_c (x := (-1)) rfl) T)
set_option maxHeartbeats 4000000 in
theorem w_Tk_placeIn_68 {l : Launch} {G : gG} {d : Nat} {X : gX} {M : gM} {k : Int → gM → Prop} {c : Nat} (hX : glX X c) {x2 : Int} (hx2 : g32 x2) {x3 : Int} (hx3 : g32 x3) {x4 : Int} (hx4 : g32 x4)  (T : (x2 ≤ x3 → (k (-1) M)) ∧ (¬ x2 ≤ x3 → ((3 < (w32 (x2 - x3)) → (k (-1) M)) ∧ (¬ 3 < (w32 (x2 - x3)) → (((0 : Int) ≤ x3 ∧ x3 < 240) ∧ ((-128 ≤ M (c + 1) (Int.toNat x3) ∧ M (c + 1) (Int.toNat x3) < 128) → ((M (c + 1) (Int.toNat x3) = 48 → (k (-1) M)) ∧ (¬ M (c + 1) (Int.toNat x3) = 48 → (cZ l G y_Vl_isNumber (gRm d) false [gR G (c + 1), gI x3, gI x2] X M (fun v15 M14 => ((¬ v15 = 0 → (cL l G y_Vl_numberIn (gRm d) false [gR G (c + 1), gI x3, gI x2] X M14 (fun v18 M17 => ((v18 ≤ 200 → (cI l G y_GL_place (gRm d) false [gI x4, gI (v18 - 1)] X M17 (fun v21 M20 => (k v21 M20)))) ∧ (¬ v18 ≤ 200 → (k (-1) M17)))))) ∧ (v15 = 0 → (k (-1) M14))))))))))))) : wp l G y_Tk_placeIn (gRm (d + 1)) false (kkI X k) false 68 [.val (gR G (c + 16)), .unset, .val (gI x2), .val (gI x3), .val (gI x4), .unset, .unset] [] X M 0 0 := by
  refine wp_iload_n d_Tk_placeIn_68 rfl rfl ?_
  refine wp_iload_n d_Tk_placeIn_69 rfl rfl ?_
  refine xi_ge (tgt := 103) d_Tk_placeIn_70 (by decide) (w32_id hx3) (w32_id hx2) (fun h27 => ?_) (fun h27 => ?_)
  · have T := T.1 h27
    refine wp_iconst d_Tk_placeIn_103 ?_
    exact wp_ireturn d_Tk_placeIn_104 rfl id (Nat.zero_le _) (Nat.zero_le _) (kI_mk (g32_c (x := (-1)) rfl) T)
  · have T := T.2 h27
    refine wp_iload_n d_Tk_placeIn_73 rfl rfl ?_
    refine wp_iload_n d_Tk_placeIn_74 rfl rfl ?_
    refine wp_isub d_Tk_placeIn_75 ?_
    refine wp_iconst d_Tk_placeIn_76 ?_
    refine xi_gt (tgt := 103) d_Tk_placeIn_77 (by decide) rfl (w32_id (g32_c (x := 3) rfl)) (fun h26 => ?_) (fun h26 => ?_)
    · have T := T.1 h26
      refine wp_iconst d_Tk_placeIn_103 ?_
      exact wp_ireturn d_Tk_placeIn_104 rfl id (Nat.zero_le _) (Nat.zero_le _) (kI_mk (g32_c (x := (-1)) rfl) T)
    · have T := T.2 h26
      refine wp_aload_n d_Tk_placeIn_80 rfl rfl (g_nz (gl_1 hX 16)) ?_
      refine xgetR d_Tk_placeIn_81 gc_Tk f_Tk_24.1 f_Tk_24.2.1 f_Tk_24.2.2.1 (gl_1 hX 16) (gl_2 hX (a := 16) (by decide)) (gl_s hX 16 rfl) f_Tk_24.2.2.2.2.1 (gl_f hX 22 rfl) ?_
      refine wp_iload_n d_Tk_placeIn_84 rfl rfl ?_
      refine wp_baload d_Tk_placeIn_85 (gl_1 hX 1) (gl_2 hX (a := 1) (by decide)) (gl_s hX 1 rfl) (g32_n T.1 (by decide)) T.1.1 T.1.2 (fun h13 => ?_)
      have T := T.2 h13
      refine wp_bipush d_Tk_placeIn_86 ⟨by decide, by decide⟩ ?_
      refine xi_eq (tgt := 103) d_Tk_placeIn_88 (by decide) (w32_id (g32_b h13)) (w32_id (g32_c (x := 48) rfl)) (fun h25 => ?_) (fun h25 => ?_)
      · have T := T.1 h25
        refine wp_iconst d_Tk_placeIn_103 ?_
        exact wp_ireturn d_Tk_placeIn_104 rfl id (Nat.zero_le _) (Nat.zero_le _) (kI_mk (g32_c (x := (-1)) rfl) T)
      · have T := T.2 h25
        refine wp_aload_n d_Tk_placeIn_91 rfl rfl (g_nz (gl_1 hX 16)) ?_
        refine xgetR d_Tk_placeIn_92 gc_Tk f_Tk_24.1 f_Tk_24.2.1 f_Tk_24.2.2.1 (gl_1 hX 16) (gl_2 hX (a := 16) (by decide)) (gl_s hX 16 rfl) f_Tk_24.2.2.2.2.1 (gl_f hX 22 rfl) ?_
        refine wp_iload_n d_Tk_placeIn_95 rfl rfl ?_
        refine wp_iload_n d_Tk_placeIn_96 rfl rfl ?_
        refine xcS_Z (md' := false) (As := [gR G (c + 1), gI x3, gI x2]) (st := []) d_Tk_placeIn_97 ca_Vl_isNumber ml_Tk_52 sm_Vl_isNumber rfl (by decide) (by decide) rfl id id T (fun v15 M14 h16 T => ?_)
        refine xz_ne (tgt := 105) d_Tk_placeIn_100 (by decide) (w32_id (g32_z h16)) (fun h24 => ?_) (fun h24 => ?_)
        · have T := T.1 h24
          refine wp_aload_n d_Tk_placeIn_105 rfl rfl (g_nz (gl_1 hX 16)) ?_
          refine xgetR d_Tk_placeIn_106 gc_Tk f_Tk_24.1 f_Tk_24.2.1 f_Tk_24.2.2.1 (gl_1 hX 16) (gl_2 hX (a := 16) (by decide)) (gl_s hX 16 rfl) f_Tk_24.2.2.2.2.1 (gl_f hX 22 rfl) ?_
          refine wp_iload_n d_Tk_placeIn_109 rfl rfl ?_
          refine wp_iload_n d_Tk_placeIn_110 rfl rfl ?_
          refine xcS_L (md' := false) (As := [gR G (c + 1), gI x3, gI x2]) (st := []) d_Tk_placeIn_111 ca_Vl_numberIn ml_Tk_87 sm_Vl_numberIn rfl (by decide) (by decide) rfl id id T (fun v18 M17 h19 T => ?_)
          refine wp_lstore (L' := [.val (gR G (c + 16)), .unset, .val (gI x2), .val (gI x3), .val (gI x4), .val (gL v18), .unset]) d_Tk_placeIn_114 (by decide) rfl ?_
          refine wp_lload d_Tk_placeIn_116 rfl ?_
          refine wp_ldc2 (n := 200) d_Tk_placeIn_118 c_Tk_91 rfl ?_
          refine xl_le (tgt := 129) d_Tk_placeIn_121 d_Tk_placeIn_122 (by decide) (w64_id h19) (w64_id (g64_c (x := 200) rfl)) (fun h23 => ?_) (fun h23 => ?_)
          · have T := T.1 h23
            refine wp_iload d_Tk_placeIn_129 rfl ?_
            refine wp_lload d_Tk_placeIn_131 rfl ?_
            refine wp_l2i d_Tk_placeIn_133 ?_
            refine wp_iconst d_Tk_placeIn_134 ?_
            refine wp_isub d_Tk_placeIn_135 ?_
            refine xcN_I (md' := false) (As := [gI x4, gI (v18 - 1)]) (st := []) d_Tk_placeIn_136 ca_GL_place ml_Tk_93 sm_GL_place rfl (by decide) (by decide) rfl id id T (fun v21 M20 h22 T => ?_)
            exact wp_ireturn d_Tk_placeIn_139 rfl id (Nat.zero_le _) (Nat.zero_le _) (kI_mk h22 T)
          · have T := T.2 h23
            refine wp_iconst d_Tk_placeIn_125 ?_
            refine wp_goto (tgt := 139) d_Tk_placeIn_126 (by decide) ?_
            exact wp_ireturn d_Tk_placeIn_139 rfl id (Nat.zero_le _) (Nat.zero_le _) (kI_mk (g32_c (x := (-1)) rfl) T)
        · have T := T.2 h24
          refine wp_iconst d_Tk_placeIn_103 ?_
          exact wp_ireturn d_Tk_placeIn_104 rfl id (Nat.zero_le _) (Nat.zero_le _) (kI_mk (g32_c (x := (-1)) rfl) T)
theorem e_Tk_placeIn {l : Launch} {G : gG} {d : Nat} {X : gX} {M : gM} {k : Int → gM → Prop} {c : Nat} {x1 : Int} {x2 : Int} (T : wp l G y_Tk_placeIn (gRm (d + 1)) false (kkI X k) false 0 [.val (gR G (c + 16)), .val (gI x1), .val (gI x2), .unset, .unset, .unset, .unset] [] X M 0 0) : cI l G y_Tk_placeIn (gRm (d + 1)) false [gR G (c + 16), gI x1, gI x2] X M k := cen_I (plainFor_of_name rfl) (by simp only [lg_sl_R, lg_sl_I, lg_sl_L, lg_sl_N, List.length_cons, List.length_nil]; decide) (by unfold gEn; simp only [lg_sl_R, lg_sl_I, lg_sl_L, lg_sl_N]; exact wpt T (And.intro rfl (And.intro rfl (And.intro rfl True.intro))))
theorem d_Tk_fixedOf_0 : decode prog_11_method_13_code 0 = .ok (.aload_n 0, 1) := by decide +kernel
theorem d_Tk_fixedOf_1 : decode prog_11_method_13_code 1 = .ok (.getfield 24, 3) := by decide +kernel
theorem d_Tk_fixedOf_4 : decode prog_11_method_13_code 4 = .ok (.aload_n 0, 1) := by decide +kernel
theorem d_Tk_fixedOf_5 : decode prog_11_method_13_code 5 = .ok (.getfield 15, 3) := by decide +kernel
theorem d_Tk_fixedOf_8 : decode prog_11_method_13_code 8 = .ok (.iload_n 1, 1) := by decide +kernel
theorem d_Tk_fixedOf_9 : decode prog_11_method_13_code 9 = .ok (.iaload, 1) := by decide +kernel
theorem d_Tk_fixedOf_10 : decode prog_11_method_13_code 10 = .ok (.baload, 1) := by decide +kernel
theorem d_Tk_fixedOf_11 : decode prog_11_method_13_code 11 = .ok (.bipush 36, 2) := by decide +kernel
theorem d_Tk_fixedOf_13 : decode prog_11_method_13_code 13 = .ok (.if_icmp .ne 7, 3) := by decide +kernel
theorem d_Tk_fixedOf_20 : decode prog_11_method_13_code 20 = .ok (.iconst 0, 1) := by decide +kernel
theorem d_Tk_fixedOf_16 : decode prog_11_method_13_code 16 = .ok (.iconst 1, 1) := by decide +kernel
theorem d_Tk_fixedOf_17 : decode prog_11_method_13_code 17 = .ok (.goto 4, 3) := by decide +kernel
theorem d_Tk_fixedOf_21 : decode prog_11_method_13_code 21 = .ok (.istore_n 2, 1) := by decide +kernel
theorem d_Tk_fixedOf_22 : decode prog_11_method_13_code 22 = .ok (.aload_n 0, 1) := by decide +kernel
theorem d_Tk_fixedOf_23 : decode prog_11_method_13_code 23 = .ok (.getfield 15, 3) := by decide +kernel
theorem d_Tk_fixedOf_26 : decode prog_11_method_13_code 26 = .ok (.iload_n 1, 1) := by decide +kernel
theorem d_Tk_fixedOf_27 : decode prog_11_method_13_code 27 = .ok (.iaload, 1) := by decide +kernel
theorem d_Tk_fixedOf_28 : decode prog_11_method_13_code 28 = .ok (.iload_n 2, 1) := by decide +kernel
theorem d_Tk_fixedOf_29 : decode prog_11_method_13_code 29 = .ok (.ifCond .eq 7, 3) := by decide +kernel
theorem d_Tk_fixedOf_36 : decode prog_11_method_13_code 36 = .ok (.iconst 1, 1) := by decide +kernel
theorem d_Tk_fixedOf_32 : decode prog_11_method_13_code 32 = .ok (.iconst 2, 1) := by decide +kernel
theorem d_Tk_fixedOf_33 : decode prog_11_method_13_code 33 = .ok (.goto 4, 3) := by decide +kernel
theorem d_Tk_fixedOf_37 : decode prog_11_method_13_code 37 = .ok (.iadd, 1) := by decide +kernel
theorem d_Tk_fixedOf_38 : decode prog_11_method_13_code 38 = .ok (.istore_n 3, 1) := by decide +kernel
theorem d_Tk_fixedOf_39 : decode prog_11_method_13_code 39 = .ok (.aload_n 0, 1) := by decide +kernel
theorem d_Tk_fixedOf_40 : decode prog_11_method_13_code 40 = .ok (.getfield 24, 3) := by decide +kernel
theorem d_Tk_fixedOf_43 : decode prog_11_method_13_code 43 = .ok (.iload_n 3, 1) := by decide +kernel
theorem d_Tk_fixedOf_44 : decode prog_11_method_13_code 44 = .ok (.baload, 1) := by decide +kernel
theorem d_Tk_fixedOf_45 : decode prog_11_method_13_code 45 = .ok (.bipush 36, 2) := by decide +kernel
theorem d_Tk_fixedOf_47 : decode prog_11_method_13_code 47 = .ok (.if_icmp .ne 7, 3) := by decide +kernel
theorem d_Tk_fixedOf_54 : decode prog_11_method_13_code 54 = .ok (.iconst 0, 1) := by decide +kernel
theorem d_Tk_fixedOf_55 : decode prog_11_method_13_code 55 = .ok (.istore 4, 2) := by decide +kernel
theorem d_Tk_fixedOf_57 : decode prog_11_method_13_code 57 = .ok (.iload_n 2, 1) := by decide +kernel
theorem d_Tk_fixedOf_58 : decode prog_11_method_13_code 58 = .ok (.ifCond .eq 7, 3) := by decide +kernel
theorem d_Tk_fixedOf_65 : decode prog_11_method_13_code 65 = .ok (.iconst 0, 1) := by decide +kernel
theorem d_Tk_fixedOf_66 : decode prog_11_method_13_code 66 = .ok (.iload 4, 2) := by decide +kernel
theorem d_Tk_fixedOf_68 : decode prog_11_method_13_code 68 = .ok (.ifCond .eq 7, 3) := by decide +kernel
theorem d_Tk_fixedOf_75 : decode prog_11_method_13_code 75 = .ok (.iconst 0, 1) := by decide +kernel
theorem d_Tk_fixedOf_76 : decode prog_11_method_13_code 76 = .ok (.ior, 1) := by decide +kernel
theorem d_Tk_fixedOf_77 : decode prog_11_method_13_code 77 = .ok (.ireturn, 1) := by decide +kernel
theorem d_Tk_fixedOf_71 : decode prog_11_method_13_code 71 = .ok (.iconst 2, 1) := by decide +kernel
theorem d_Tk_fixedOf_72 : decode prog_11_method_13_code 72 = .ok (.goto 4, 3) := by decide +kernel
theorem d_Tk_fixedOf_61 : decode prog_11_method_13_code 61 = .ok (.iconst 1, 1) := by decide +kernel
theorem d_Tk_fixedOf_62 : decode prog_11_method_13_code 62 = .ok (.goto 4, 3) := by decide +kernel
theorem d_Tk_fixedOf_50 : decode prog_11_method_13_code 50 = .ok (.iconst 1, 1) := by decide +kernel
theorem d_Tk_fixedOf_51 : decode prog_11_method_13_code 51 = .ok (.goto 4, 3) := by decide +kernel
set_option maxHeartbeats 4000000 in
theorem w_Tk_fixedOf_0 {l : Launch} {G : gG} {d : Nat} {X : gX} {M : gM} {k : Int → gM → Prop} {c : Nat} (hX : glX X c) {x1 : Int} (hx1 : g32 x1)  (T : ((0 : Int) ≤ x1 ∧ x1 < 104) ∧ (g32 (M (c + 18) (Int.toNat x1)) → (((0 : Int) ≤ M (c + 18) (Int.toNat x1) ∧ M (c + 18) (Int.toNat x1) < 240) ∧ ((-128 ≤ M (c + 1) (Int.toNat (M (c + 18) (Int.toNat x1))) ∧ M (c + 1) (Int.toNat (M (c + 18) (Int.toNat x1))) < 128) → ((¬ M (c + 1) (Int.toNat (M (c + 18) (Int.toNat x1))) = 36 → (wp l G y_Tk_fixedOf (gRm d) false (kkI X k) false 21 [.val (gR G (c + 16)), .val (gI x1), .unset, .unset, .unset] [gI 0] X M 0 0)) ∧ (M (c + 1) (Int.toNat (M (c + 18) (Int.toNat x1))) = 36 → (wp l G y_Tk_fixedOf (gRm d) false (kkI X k) false 21 [.val (gR G (c + 16)), .val (gI x1), .unset, .unset, .unset] [gI 1] X M 0 0))))))) : wp l G y_Tk_fixedOf (gRm d) false (kkI X k) false 0 [.val (gR G (c + 16)), .val (gI x1), .unset, .unset, .unset] [] X M 0 0 := by
  refine wp_aload_n d_Tk_fixedOf_0 rfl rfl (g_nz (gl_1 hX 16)) ?_
  refine xgetR d_Tk_fixedOf_1 gc_Tk f_Tk_24.1 f_Tk_24.2.1 f_Tk_24.2.2.1 (gl_1 hX 16) (gl_2 hX (a := 16) (by decide)) (gl_s hX 16 rfl) f_Tk_24.2.2.2.2.1 (gl_f hX 22 rfl) ?_
  refine wp_aload_n d_Tk_fixedOf_4 rfl rfl (g_nz (gl_1 hX 16)) ?_
  refine xgetR d_Tk_fixedOf_5 gc_Tk f_Tk_15.1 f_Tk_15.2.1 f_Tk_15.2.2.1 (gl_1 hX 16) (gl_2 hX (a := 16) (by decide)) (gl_s hX 16 rfl) f_Tk_15.2.2.2.2.1 (gl_f hX 19 rfl) ?_
  refine wp_iload_n d_Tk_fixedOf_8 rfl rfl ?_
  refine wp_iaload d_Tk_fixedOf_9 (gl_1 hX 18) (gl_2 hX (a := 18) (by decide)) (gl_s hX 18 rfl) (g32_n T.1 (by decide)) T.1.1 T.1.2 (fun h1 => ?_)
  have T := T.2 h1
  refine wp_baload d_Tk_fixedOf_10 (gl_1 hX 1) (gl_2 hX (a := 1) (by decide)) (gl_s hX 1 rfl) (g32_n T.1 (by decide)) T.1.1 T.1.2 (fun h2 => ?_)
  have T := T.2 h2
  refine wp_bipush d_Tk_fixedOf_11 ⟨by decide, by decide⟩ ?_
  refine xi_ne (tgt := 20) d_Tk_fixedOf_13 (by decide) (w32_id (g32_b h2)) (w32_id (g32_c (x := 36) rfl)) (fun h3 => ?_) (fun h3 => ?_)
  · have T := T.1 h3
    refine wp_iconst d_Tk_fixedOf_20 ?_
    exact (wpt T (And.intro rfl (And.intro rfl True.intro)))
  · have T := T.2 h3
    refine wp_iconst d_Tk_fixedOf_16 ?_
    refine wp_goto (tgt := 21) d_Tk_fixedOf_17 (by decide) ?_
    exact (wpt T (And.intro rfl (And.intro rfl True.intro)))
set_option maxHeartbeats 4000000 in
theorem w_Tk_fixedOf_21 {l : Launch} {G : gG} {d : Nat} {X : gX} {M : gM} {k : Int → gM → Prop} {c : Nat} (hX : glX X c) {x1 : Int} (hx1 : g32 x1) {s0 : Int} (hs0 : g32 s0)  (T : ((0 : Int) ≤ x1 ∧ x1 < 104) ∧ (g32 (M (c + 18) (Int.toNat x1)) → ((s0 = 0 → (wp l G y_Tk_fixedOf (gRm d) false (kkI X k) false 37 [.val (gR G (c + 16)), .unset, .val (gI s0), .unset, .unset] [gI 1, gI (M (c + 18) (Int.toNat x1))] X M 0 0)) ∧ (¬ s0 = 0 → (wp l G y_Tk_fixedOf (gRm d) false (kkI X k) false 37 [.val (gR G (c + 16)), .unset, .val (gI s0), .unset, .unset] [gI 2, gI (M (c + 18) (Int.toNat x1))] X M 0 0))))) : wp l G y_Tk_fixedOf (gRm d) false (kkI X k) false 21 [.val (gR G (c + 16)), .val (gI x1), .unset, .unset, .unset] [gI s0] X M 0 0 := by
  refine wp_istore_n (L' := [.val (gR G (c + 16)), .val (gI x1), .val (gI s0), .unset, .unset]) d_Tk_fixedOf_21 rfl (by decide) rfl ?_
  refine wp_aload_n d_Tk_fixedOf_22 rfl rfl (g_nz (gl_1 hX 16)) ?_
  refine xgetR d_Tk_fixedOf_23 gc_Tk f_Tk_15.1 f_Tk_15.2.1 f_Tk_15.2.2.1 (gl_1 hX 16) (gl_2 hX (a := 16) (by decide)) (gl_s hX 16 rfl) f_Tk_15.2.2.2.2.1 (gl_f hX 19 rfl) ?_
  refine wp_iload_n d_Tk_fixedOf_26 rfl rfl ?_
  refine wp_iaload d_Tk_fixedOf_27 (gl_1 hX 18) (gl_2 hX (a := 18) (by decide)) (gl_s hX 18 rfl) (g32_n T.1 (by decide)) T.1.1 T.1.2 (fun h4 => ?_)
  have T := T.2 h4
  refine wp_iload_n d_Tk_fixedOf_28 rfl rfl ?_
  refine xz_eq (tgt := 36) d_Tk_fixedOf_29 (by decide) (w32_id hs0) (fun h5 => ?_) (fun h5 => ?_)
  · have T := T.1 h5
    refine wp_iconst d_Tk_fixedOf_36 ?_
    exact (wpt T (And.intro rfl (And.intro rfl True.intro)))
  · have T := T.2 h5
    refine wp_iconst d_Tk_fixedOf_32 ?_
    refine wp_goto (tgt := 37) d_Tk_fixedOf_33 (by decide) ?_
    exact (wpt T (And.intro rfl (And.intro rfl True.intro)))
set_option maxHeartbeats 4000000 in
theorem w_Tk_fixedOf_37 {l : Launch} {G : gG} {d : Nat} {X : gX} {M : gM} {k : Int → gM → Prop} {c : Nat} (hX : glX X c) {x2 : Int} (hx2 : g32 x2) {s0 : Int} (hs0 : g32 s0) {s1 : Int} (hs1 : g32 s1)  (T : ((0 : Int) ≤ s1 + s0 ∧ s1 + s0 < 240) ∧ ((-128 ≤ M (c + 1) (Int.toNat (s1 + s0)) ∧ M (c + 1) (Int.toNat (s1 + s0)) < 128) → ((¬ M (c + 1) (Int.toNat (s1 + s0)) = 36 → ((x2 = 0 → (((0 : Int) = 0 → (k (gOr 0 0) M)) ∧ (¬ (0 : Int) = 0 → (k (gOr 0 2) M)))) ∧ (¬ x2 = 0 → (((0 : Int) = 0 → (k (gOr 1 0) M)) ∧ (¬ (0 : Int) = 0 → (k (gOr 1 2) M)))))) ∧ (M (c + 1) (Int.toNat (s1 + s0)) = 36 → ((x2 = 0 → (((1 : Int) = 0 → (k (gOr 0 0) M)) ∧ (¬ (1 : Int) = 0 → (k (gOr 0 2) M)))) ∧ (¬ x2 = 0 → (((1 : Int) = 0 → (k (gOr 1 0) M)) ∧ (¬ (1 : Int) = 0 → (k (gOr 1 2) M))))))))) : wp l G y_Tk_fixedOf (gRm d) false (kkI X k) false 37 [.val (gR G (c + 16)), .unset, .val (gI x2), .unset, .unset] [gI s0, gI s1] X M 0 0 := by
  refine wp_iadd d_Tk_fixedOf_37 ?_
  refine wp_istore_n (L' := [.val (gR G (c + 16)), .unset, .val (gI x2), .val (gI (s1 + s0)), .unset]) d_Tk_fixedOf_38 rfl (by decide) rfl ?_
  refine wp_aload_n d_Tk_fixedOf_39 rfl rfl (g_nz (gl_1 hX 16)) ?_
  refine xgetR d_Tk_fixedOf_40 gc_Tk f_Tk_24.1 f_Tk_24.2.1 f_Tk_24.2.2.1 (gl_1 hX 16) (gl_2 hX (a := 16) (by decide)) (gl_s hX 16 rfl) f_Tk_24.2.2.2.2.1 (gl_f hX 22 rfl) ?_
  refine wp_iload_n d_Tk_fixedOf_43 rfl rfl ?_
  refine wp_baload d_Tk_fixedOf_44 (gl_1 hX 1) (gl_2 hX (a := 1) (by decide)) (gl_s hX 1 rfl) (g32_n T.1 (by decide)) T.1.1 T.1.2 (fun h6 => ?_)
  have T := T.2 h6
  refine wp_bipush d_Tk_fixedOf_45 ⟨by decide, by decide⟩ ?_
  refine xi_ne (tgt := 54) d_Tk_fixedOf_47 (by decide) (w32_id (g32_b h6)) (w32_id (g32_c (x := 36) rfl)) (fun h13 => ?_) (fun h13 => ?_)
  · have T := T.1 h13
    refine wp_iconst d_Tk_fixedOf_54 ?_
    refine wp_istore (L' := [.val (gR G (c + 16)), .unset, .val (gI x2), .val (gI (s1 + s0)), .val (gI 0)]) d_Tk_fixedOf_55 (by decide) rfl ?_
    refine wp_iload_n d_Tk_fixedOf_57 rfl rfl ?_
    refine xz_eq (tgt := 65) d_Tk_fixedOf_58 (by decide) (w32_id hx2) (fun h9 => ?_) (fun h9 => ?_)
    · have T := T.1 h9
      refine wp_iconst d_Tk_fixedOf_65 ?_
      refine wp_iload d_Tk_fixedOf_66 rfl ?_
      refine xz_eq (tgt := 75) d_Tk_fixedOf_68 (by decide) (w32_id (g32_c (x := 0) rfl)) (fun h7 => ?_) (fun h7 => ?_)
      · have T := T.1 h7
        refine wp_iconst d_Tk_fixedOf_75 ?_
        refine wp_ior d_Tk_fixedOf_76 ?_
        exact wp_ireturn d_Tk_fixedOf_77 rfl id (Nat.zero_le _) (Nat.zero_le _) (kI_mk (gOr_ok _ _) T)
      · have T := T.2 h7
        refine wp_iconst d_Tk_fixedOf_71 ?_
        refine wp_goto (tgt := 76) d_Tk_fixedOf_72 (by decide) ?_
        refine wp_ior d_Tk_fixedOf_76 ?_
        exact wp_ireturn d_Tk_fixedOf_77 rfl id (Nat.zero_le _) (Nat.zero_le _) (kI_mk (gOr_ok _ _) T)
    · have T := T.2 h9
      refine wp_iconst d_Tk_fixedOf_61 ?_
      refine wp_goto (tgt := 66) d_Tk_fixedOf_62 (by decide) ?_
      refine wp_iload d_Tk_fixedOf_66 rfl ?_
      refine xz_eq (tgt := 75) d_Tk_fixedOf_68 (by decide) (w32_id (g32_c (x := 0) rfl)) (fun h8 => ?_) (fun h8 => ?_)
      · have T := T.1 h8
        refine wp_iconst d_Tk_fixedOf_75 ?_
        refine wp_ior d_Tk_fixedOf_76 ?_
        exact wp_ireturn d_Tk_fixedOf_77 rfl id (Nat.zero_le _) (Nat.zero_le _) (kI_mk (gOr_ok _ _) T)
      · have T := T.2 h8
        refine wp_iconst d_Tk_fixedOf_71 ?_
        refine wp_goto (tgt := 76) d_Tk_fixedOf_72 (by decide) ?_
        refine wp_ior d_Tk_fixedOf_76 ?_
        exact wp_ireturn d_Tk_fixedOf_77 rfl id (Nat.zero_le _) (Nat.zero_le _) (kI_mk (gOr_ok _ _) T)
  · have T := T.2 h13
    refine wp_iconst d_Tk_fixedOf_50 ?_
    refine wp_goto (tgt := 55) d_Tk_fixedOf_51 (by decide) ?_
    refine wp_istore (L' := [.val (gR G (c + 16)), .unset, .val (gI x2), .val (gI (s1 + s0)), .val (gI 1)]) d_Tk_fixedOf_55 (by decide) rfl ?_
    refine wp_iload_n d_Tk_fixedOf_57 rfl rfl ?_
    refine xz_eq (tgt := 65) d_Tk_fixedOf_58 (by decide) (w32_id hx2) (fun h12 => ?_) (fun h12 => ?_)
    · have T := T.1 h12
      refine wp_iconst d_Tk_fixedOf_65 ?_
      refine wp_iload d_Tk_fixedOf_66 rfl ?_
      refine xz_eq (tgt := 75) d_Tk_fixedOf_68 (by decide) (w32_id (g32_c (x := 1) rfl)) (fun h10 => ?_) (fun h10 => ?_)
      · have T := T.1 h10
        refine wp_iconst d_Tk_fixedOf_75 ?_
        refine wp_ior d_Tk_fixedOf_76 ?_
        exact wp_ireturn d_Tk_fixedOf_77 rfl id (Nat.zero_le _) (Nat.zero_le _) (kI_mk (gOr_ok _ _) T)
      · have T := T.2 h10
        refine wp_iconst d_Tk_fixedOf_71 ?_
        refine wp_goto (tgt := 76) d_Tk_fixedOf_72 (by decide) ?_
        refine wp_ior d_Tk_fixedOf_76 ?_
        exact wp_ireturn d_Tk_fixedOf_77 rfl id (Nat.zero_le _) (Nat.zero_le _) (kI_mk (gOr_ok _ _) T)
    · have T := T.2 h12
      refine wp_iconst d_Tk_fixedOf_61 ?_
      refine wp_goto (tgt := 66) d_Tk_fixedOf_62 (by decide) ?_
      refine wp_iload d_Tk_fixedOf_66 rfl ?_
      refine xz_eq (tgt := 75) d_Tk_fixedOf_68 (by decide) (w32_id (g32_c (x := 1) rfl)) (fun h11 => ?_) (fun h11 => ?_)
      · have T := T.1 h11
        refine wp_iconst d_Tk_fixedOf_75 ?_
        refine wp_ior d_Tk_fixedOf_76 ?_
        exact wp_ireturn d_Tk_fixedOf_77 rfl id (Nat.zero_le _) (Nat.zero_le _) (kI_mk (gOr_ok _ _) T)
      · have T := T.2 h11
        refine wp_iconst d_Tk_fixedOf_71 ?_
        refine wp_goto (tgt := 76) d_Tk_fixedOf_72 (by decide) ?_
        refine wp_ior d_Tk_fixedOf_76 ?_
        exact wp_ireturn d_Tk_fixedOf_77 rfl id (Nat.zero_le _) (Nat.zero_le _) (kI_mk (gOr_ok _ _) T)
theorem e_Tk_fixedOf {l : Launch} {G : gG} {d : Nat} {X : gX} {M : gM} {k : Int → gM → Prop} {c : Nat} {x1 : Int} (T : wp l G y_Tk_fixedOf (gRm d) false (kkI X k) false 0 [.val (gR G (c + 16)), .val (gI x1), .unset, .unset, .unset] [] X M 0 0) : cI l G y_Tk_fixedOf (gRm d) false [gR G (c + 16), gI x1] X M k := cen_I (plainFor_of_name rfl) (by simp only [lg_sl_R, lg_sl_I, lg_sl_L, lg_sl_N, List.length_cons, List.length_nil]; decide) (by unfold gEn; simp only [lg_sl_R, lg_sl_I, lg_sl_L, lg_sl_N]; exact wpt T (And.intro rfl (And.intro rfl True.intro)))
theorem d_Tk_numberOf_0 : decode prog_11_method_14_code 0 = .ok (.aload_n 0, 1) := by decide +kernel
theorem d_Tk_numberOf_1 : decode prog_11_method_14_code 1 = .ok (.getfield 24, 3) := by decide +kernel
theorem d_Tk_numberOf_4 : decode prog_11_method_14_code 4 = .ok (.aload_n 0, 1) := by decide +kernel
theorem d_Tk_numberOf_5 : decode prog_11_method_14_code 5 = .ok (.getfield 15, 3) := by decide +kernel
theorem d_Tk_numberOf_8 : decode prog_11_method_14_code 8 = .ok (.iload_n 1, 1) := by decide +kernel
theorem d_Tk_numberOf_9 : decode prog_11_method_14_code 9 = .ok (.iaload, 1) := by decide +kernel
theorem d_Tk_numberOf_10 : decode prog_11_method_14_code 10 = .ok (.aload_n 0, 1) := by decide +kernel
theorem d_Tk_numberOf_11 : decode prog_11_method_14_code 11 = .ok (.getfield 18, 3) := by decide +kernel
theorem d_Tk_numberOf_14 : decode prog_11_method_14_code 14 = .ok (.iload_n 1, 1) := by decide +kernel
theorem d_Tk_numberOf_15 : decode prog_11_method_14_code 15 = .ok (.iaload, 1) := by decide +kernel
theorem d_Tk_numberOf_16 : decode prog_11_method_14_code 16 = .ok (.invokestatic 87, 3) := by decide +kernel
theorem d_Tk_numberOf_19 : decode prog_11_method_14_code 19 = .ok (.lreturn, 1) := by decide +kernel
set_option maxHeartbeats 4000000 in
theorem w_Tk_numberOf_0 {l : Launch} {G : gG} {d : Nat} {X : gX} {M : gM} {k : Int → gM → Prop} {c : Nat} (hX : glX X c) {x1 : Int} (hx1 : g32 x1)  (T : ((0 : Int) ≤ x1 ∧ x1 < 104) ∧ (g32 (M (c + 18) (Int.toNat x1)) → (((0 : Int) ≤ x1 ∧ x1 < 104) ∧ (g32 (M (c + 19) (Int.toNat x1)) → (cL l G y_Vl_numberIn (gRm d) false [gR G (c + 1), gI (M (c + 18) (Int.toNat x1)), gI (M (c + 19) (Int.toNat x1))] X M (fun v4 M3 => (k v4 M3))))))) : wp l G y_Tk_numberOf (gRm (d + 1)) false (kkL X k) false 0 [.val (gR G (c + 16)), .val (gI x1)] [] X M 0 0 := by
  refine wp_aload_n d_Tk_numberOf_0 rfl rfl (g_nz (gl_1 hX 16)) ?_
  refine xgetR d_Tk_numberOf_1 gc_Tk f_Tk_24.1 f_Tk_24.2.1 f_Tk_24.2.2.1 (gl_1 hX 16) (gl_2 hX (a := 16) (by decide)) (gl_s hX 16 rfl) f_Tk_24.2.2.2.2.1 (gl_f hX 22 rfl) ?_
  refine wp_aload_n d_Tk_numberOf_4 rfl rfl (g_nz (gl_1 hX 16)) ?_
  refine xgetR d_Tk_numberOf_5 gc_Tk f_Tk_15.1 f_Tk_15.2.1 f_Tk_15.2.2.1 (gl_1 hX 16) (gl_2 hX (a := 16) (by decide)) (gl_s hX 16 rfl) f_Tk_15.2.2.2.2.1 (gl_f hX 19 rfl) ?_
  refine wp_iload_n d_Tk_numberOf_8 rfl rfl ?_
  refine wp_iaload d_Tk_numberOf_9 (gl_1 hX 18) (gl_2 hX (a := 18) (by decide)) (gl_s hX 18 rfl) (g32_n T.1 (by decide)) T.1.1 T.1.2 (fun h1 => ?_)
  have T := T.2 h1
  refine wp_aload_n d_Tk_numberOf_10 rfl rfl (g_nz (gl_1 hX 16)) ?_
  refine xgetR d_Tk_numberOf_11 gc_Tk f_Tk_18.1 f_Tk_18.2.1 f_Tk_18.2.2.1 (gl_1 hX 16) (gl_2 hX (a := 16) (by decide)) (gl_s hX 16 rfl) f_Tk_18.2.2.2.2.1 (gl_f hX 20 rfl) ?_
  refine wp_iload_n d_Tk_numberOf_14 rfl rfl ?_
  refine wp_iaload d_Tk_numberOf_15 (gl_1 hX 19) (gl_2 hX (a := 19) (by decide)) (gl_s hX 19 rfl) (g32_n T.1 (by decide)) T.1.1 T.1.2 (fun h2 => ?_)
  have T := T.2 h2
  refine xcS_L (md' := false) (As := [gR G (c + 1), gI (M (c + 18) (Int.toNat x1)), gI (M (c + 19) (Int.toNat x1))]) (st := []) d_Tk_numberOf_16 ca_Vl_numberIn ml_Tk_87 sm_Vl_numberIn rfl (by decide) (by decide) rfl id id T (fun v4 M3 h5 T => ?_)
  exact wp_lreturn d_Tk_numberOf_19 rfl id (Nat.zero_le _) (Nat.zero_le _) (kL_mk h5 T)
theorem e_Tk_numberOf {l : Launch} {G : gG} {d : Nat} {X : gX} {M : gM} {k : Int → gM → Prop} {c : Nat} {x1 : Int} (T : wp l G y_Tk_numberOf (gRm (d + 1)) false (kkL X k) false 0 [.val (gR G (c + 16)), .val (gI x1)] [] X M 0 0) : cL l G y_Tk_numberOf (gRm (d + 1)) false [gR G (c + 16), gI x1] X M k := cen_L (plainFor_of_name rfl) (by simp only [lg_sl_R, lg_sl_I, lg_sl_L, lg_sl_N, List.length_cons, List.length_nil]; decide) (by unfold gEn; simp only [lg_sl_R, lg_sl_I, lg_sl_L, lg_sl_N]; exact wpt T (And.intro rfl (And.intro rfl True.intro)))
theorem d_Vl_set_0 : decode prog_12_method_2_code 0 = .ok (.aload_n 0, 1) := by decide +kernel
theorem d_Vl_set_1 : decode prog_12_method_2_code 1 = .ok (.getfield 9, 3) := by decide +kernel
theorem d_Vl_set_4 : decode prog_12_method_2_code 4 = .ok (.iload_n 1, 1) := by decide +kernel
theorem d_Vl_set_5 : decode prog_12_method_2_code 5 = .ok (.iload_n 2, 1) := by decide +kernel
theorem d_Vl_set_6 : decode prog_12_method_2_code 6 = .ok (.iastore, 1) := by decide +kernel
theorem d_Vl_set_7 : decode prog_12_method_2_code 7 = .ok (.aload_n 0, 1) := by decide +kernel
theorem d_Vl_set_8 : decode prog_12_method_2_code 8 = .ok (.getfield 15, 3) := by decide +kernel
theorem d_Vl_set_11 : decode prog_12_method_2_code 11 = .ok (.iload_n 1, 1) := by decide +kernel
theorem d_Vl_set_12 : decode prog_12_method_2_code 12 = .ok (.lload_n 3, 1) := by decide +kernel
theorem d_Vl_set_13 : decode prog_12_method_2_code 13 = .ok (.lastore, 1) := by decide +kernel
theorem d_Vl_set_14 : decode prog_12_method_2_code 14 = .ok (.return_, 1) := by decide +kernel
set_option maxHeartbeats 4000000 in
theorem w_Vl_set_0 {l : Launch} {G : gG} {d : Nat} {X : gX} {M : gM} {k : gM → Prop} {v n : Nat} (hV : gvX X v n) {x1 : Int} (hx1 : g32 x1) {x2 : Int} (hx2 : g32 x2) {x3 : Int} (hx3 : g64 x3)  (T : ((0 : Int) ≤ x1 ∧ x1 < (n : Int)) ∧ (((0 : Int) ≤ x1 ∧ x1 < (n : Int)) ∧ (k (gUp (gUp M (v + 1) (Int.toNat x1) x2) (v + 2) (Int.toNat x1) x3)))) : wp l G y_Vl_set (gRm d) true (kkV X k) false 0 [.val (gR G v), .val (gI x1), .val (gI x2), .val (gL x3), .unset] [] X M 0 0 := by
  refine wp_aload_n d_Vl_set_0 rfl rfl (g_nz hV.1) ?_
  refine xgetR d_Vl_set_1 gc_Vl f_Vl_9.1 f_Vl_9.2.1 f_Vl_9.2.2.1 hV.1 (gv_2 hV) hV.2.2.1 f_Vl_9.2.2.2.2.1 (gv_r1 hV).1 ?_
  refine wp_iload_n d_Vl_set_4 rfl rfl ?_
  refine wp_iload_n d_Vl_set_5 rfl rfl ?_
  refine xiast d_Vl_set_6 (gv_r1 hV).2.2.1 (gv_r1 hV).2.2.2 (gv_r1 hV).2.1 (gv_n hV) T.1 (w32_id hx2) ?_
  have T := T.2
  refine wp_aload_n d_Vl_set_7 rfl rfl (g_nz hV.1) ?_
  refine xgetR d_Vl_set_8 gc_Vl f_Vl_15.1 f_Vl_15.2.1 f_Vl_15.2.2.1 hV.1 (gv_2 hV) hV.2.2.1 f_Vl_15.2.2.2.2.1 (gv_r2 hV).1 ?_
  refine wp_iload_n d_Vl_set_11 rfl rfl ?_
  refine wp_lload_n d_Vl_set_12 rfl rfl ?_
  refine xlast d_Vl_set_13 (gv_r2 hV).2.2.1 (gv_r2 hV).2.2.2 (gv_r2 hV).2.1 (gv_n hV) T.1 (w64_id hx3) ?_
  have T := T.2
  exact wp_return d_Vl_set_14 rfl (fun _ => rfl) (Nat.zero_le _) (Nat.zero_le _) (kV_mk T)
theorem e_Vl_set {l : Launch} {G : gG} {d : Nat} {X : gX} {M : gM} {k : gM → Prop} {v : Nat} {x1 : Int} {x2 : Int} {x3 : Int} (T : wp l G y_Vl_set (gRm d) true (kkV X k) false 0 [.val (gR G v), .val (gI x1), .val (gI x2), .val (gL x3), .unset] [] X M 0 0) : cV l G y_Vl_set (gRm d) true [gR G v, gI x1, gI x2, gL x3] X M k := cen_V (plainFor_of_name rfl) (by simp only [lg_sl_R, lg_sl_I, lg_sl_L, lg_sl_N, List.length_cons, List.length_nil]; decide) (by unfold gEn; simp only [lg_sl_R, lg_sl_I, lg_sl_L, lg_sl_N]; exact wpt T (And.intro rfl (And.intro rfl (And.intro rfl (And.intro rfl True.intro)))))
theorem d_Vl_setTruth_0 : decode prog_12_method_3_code 0 = .ok (.aload_n 0, 1) := by decide +kernel
theorem d_Vl_setTruth_1 : decode prog_12_method_3_code 1 = .ok (.iload_n 1, 1) := by decide +kernel
theorem d_Vl_setTruth_2 : decode prog_12_method_3_code 2 = .ok (.iconst 3, 1) := by decide +kernel
theorem d_Vl_setTruth_3 : decode prog_12_method_3_code 3 = .ok (.iload_n 2, 1) := by decide +kernel
theorem d_Vl_setTruth_4 : decode prog_12_method_3_code 4 = .ok (.ifCond .eq 7, 3) := by decide +kernel
theorem d_Vl_setTruth_11 : decode prog_12_method_3_code 11 = .ok (.lconst 0, 1) := by decide +kernel
theorem d_Vl_setTruth_12 : decode prog_12_method_3_code 12 = .ok (.invokevirtual 24, 3) := by decide +kernel
theorem d_Vl_setTruth_15 : decode prog_12_method_3_code 15 = .ok (.return_, 1) := by decide +kernel
theorem d_Vl_setTruth_7 : decode prog_12_method_3_code 7 = .ok (.lconst 1, 1) := by decide +kernel
theorem d_Vl_setTruth_8 : decode prog_12_method_3_code 8 = .ok (.goto 4, 3) := by decide +kernel
set_option maxHeartbeats 4000000 in
theorem w_Vl_setTruth_0 {l : Launch} {G : gG} {d : Nat} {X : gX} {M : gM} {k : gM → Prop} {v n : Nat} (hV : gvX X v n) {x1 : Int} (hx1 : g32 x1) {x2 : Int} (hx2 : 0 ≤ x2 ∧ x2 ≤ 1)  (T : (x2 = 0 → (cV l G y_Vl_set (gRm d) true [gR G v, gI x1, gI 3, gL 0] X M (fun M1 => (k M1)))) ∧ (¬ x2 = 0 → (cV l G y_Vl_set (gRm d) true [gR G v, gI x1, gI 3, gL 1] X M (fun M2 => (k M2))))) : wp l G y_Vl_setTruth (gRm (d + 1)) true (kkV X k) false 0 [.val (gR G v), .val (gI x1), .val (gI x2)] [] X M 0 0 := by
  refine wp_aload_n d_Vl_setTruth_0 rfl rfl (g_nz hV.1) ?_
  refine wp_iload_n d_Vl_setTruth_1 rfl rfl ?_
  refine wp_iconst d_Vl_setTruth_2 ?_
  refine wp_iload_n d_Vl_setTruth_3 rfl rfl ?_
  refine xz_eq (tgt := 11) d_Vl_setTruth_4 (by decide) (w32_id (g32_z hx2)) (fun h3 => ?_) (fun h3 => ?_)
  · have T := T.1 h3
    refine wp_lconst0 d_Vl_setTruth_11 ?_
    refine xcV_V (md' := true) (As := [gI x1, gI 3, gL 0]) (st := []) d_Vl_setTruth_12 ca_Vl_set ml_Vl_24 im_Vl_set se_Vl_set gc_Vl hV.1 (gv_2 hV) hV.2.2.1 rfl (by decide) (by decide) rfl (fun _ => rfl) (fun _ => rfl) T (fun M1 T => ?_)
    exact wp_return d_Vl_setTruth_15 rfl (fun _ => rfl) (Nat.zero_le _) (Nat.zero_le _) (kV_mk T)
  · have T := T.2 h3
    refine wp_lconst1 d_Vl_setTruth_7 ?_
    refine wp_goto (tgt := 12) d_Vl_setTruth_8 (by decide) ?_
    refine xcV_V (md' := true) (As := [gI x1, gI 3, gL 1]) (st := []) d_Vl_setTruth_12 ca_Vl_set ml_Vl_24 im_Vl_set se_Vl_set gc_Vl hV.1 (gv_2 hV) hV.2.2.1 rfl (by decide) (by decide) rfl (fun _ => rfl) (fun _ => rfl) T (fun M2 T => ?_)
    exact wp_return d_Vl_setTruth_15 rfl (fun _ => rfl) (Nat.zero_le _) (Nat.zero_le _) (kV_mk T)
theorem e_Vl_setTruth {l : Launch} {G : gG} {d : Nat} {X : gX} {M : gM} {k : gM → Prop} {v : Nat} {x1 : Int} {x2 : Int} (T : wp l G y_Vl_setTruth (gRm (d + 1)) true (kkV X k) false 0 [.val (gR G v), .val (gI x1), .val (gI x2)] [] X M 0 0) : cV l G y_Vl_setTruth (gRm (d + 1)) true [gR G v, gI x1, gI x2] X M k := cen_V (plainFor_of_name rfl) (by simp only [lg_sl_R, lg_sl_I, lg_sl_L, lg_sl_N, List.length_cons, List.length_nil]; decide) (by unfold gEn; simp only [lg_sl_R, lg_sl_I, lg_sl_L, lg_sl_N]; exact wpt T (And.intro rfl (And.intro rfl (And.intro rfl True.intro))))
theorem d_Vl_setText_0 : decode prog_12_method_4_code 0 = .ok (.aload_n 2, 1) := by decide +kernel
theorem d_Vl_setText_1 : decode prog_12_method_4_code 1 = .ok (.iload_n 3, 1) := by decide +kernel
theorem d_Vl_setText_2 : decode prog_12_method_4_code 2 = .ok (.aload_n 0, 1) := by decide +kernel
theorem d_Vl_setText_3 : decode prog_12_method_4_code 3 = .ok (.getfield 21, 3) := by decide +kernel
theorem d_Vl_setText_6 : decode prog_12_method_4_code 6 = .ok (.iload_n 1, 1) := by decide +kernel
theorem d_Vl_setText_7 : decode prog_12_method_4_code 7 = .ok (.aaload, 1) := by decide +kernel
theorem d_Vl_setText_8 : decode prog_12_method_4_code 8 = .ok (.iconst 0, 1) := by decide +kernel
theorem d_Vl_setText_9 : decode prog_12_method_4_code 9 = .ok (.iload 4, 2) := by decide +kernel
theorem d_Vl_setText_11 : decode prog_12_method_4_code 11 = .ok (.invokestatic 28, 3) := by decide +kernel
theorem d_Vl_setText_14 : decode prog_12_method_4_code 14 = .ok (.aload_n 0, 1) := by decide +kernel
theorem d_Vl_setText_15 : decode prog_12_method_4_code 15 = .ok (.iload_n 1, 1) := by decide +kernel
theorem d_Vl_setText_16 : decode prog_12_method_4_code 16 = .ok (.iconst 2, 1) := by decide +kernel
theorem d_Vl_setText_17 : decode prog_12_method_4_code 17 = .ok (.iload 4, 2) := by decide +kernel
theorem d_Vl_setText_19 : decode prog_12_method_4_code 19 = .ok (.i2l, 1) := by decide +kernel
theorem d_Vl_setText_20 : decode prog_12_method_4_code 20 = .ok (.invokevirtual 24, 3) := by decide +kernel
theorem d_Vl_setText_23 : decode prog_12_method_4_code 23 = .ok (.return_, 1) := by decide +kernel
set_option maxHeartbeats 4000000 in
theorem w_Vl_setText_0 {l : Launch} {G : gG} {d : Nat} {X : gX} {M : gM} {k : gM → Prop} {v n : Nat} (hV : gvX X v n) {x1 : Int} (hx1 : g32 x1) {r2 n2 : Nat} (hr2 : 1 ≤ r2 ∧ r2 ≤ X.1 ∧ X.2.1 r2 = (2, n2) ∧ n2 ≤ 2147483647) {x3 : Int} (hx3 : g32 x3) {x4 : Int} (hx4 : g32 x4)  (T : ((0 : Int) ≤ x1 ∧ x1 < (n : Int)) ∧ (((0 : Int) ≤ x3 ∧ (0 : Int) ≤ (0 : Int) ∧ (0 : Int) ≤ x4 ∧ x3 + x4 ≤ (n2 : Int) ∧ (0 : Int) + x4 ≤ 64) ∧ (cV l G y_Vl_set (gRm d) true [gR G v, gI x1, gI 2, gL x4] X (gCp M (v + 4 + Int.toNat x1) r2 (Int.toNat x3) (Int.toNat 0) (Int.toNat x4)) (fun M2 => (k M2))))) : wp l G y_Vl_setText (gRm (d + 1)) true (kkV X k) false 0 [.val (gR G v), .val (gI x1), .val (gR G r2), .val (gI x3), .val (gI x4)] [] X M 0 0 := by
  refine wp_aload_n d_Vl_setText_0 rfl rfl (g_nz hr2.1) ?_
  refine wp_iload_n d_Vl_setText_1 rfl rfl ?_
  refine wp_aload_n d_Vl_setText_2 rfl rfl (g_nz hV.1) ?_
  refine xgetR d_Vl_setText_3 gc_Vl f_Vl_21.1 f_Vl_21.2.1 f_Vl_21.2.2.1 hV.1 (gv_2 hV) hV.2.2.1 f_Vl_21.2.2.2.2.1 (gv_r3 hV).1 ?_
  refine wp_iload_n d_Vl_setText_6 rfl rfl ?_
  have h1 := T.1
  refine xaald d_Vl_setText_7 (Or.inl rfl) (gv_r3 hV).2.2.1 (gv_r3 hV).2.2.2 (gv_r3 hV).2.1 (g32_n h1 (gv_n hV)) h1.1 h1.2 (gv_row hV h1).1 ?_
  have T := T.2
  refine wp_iconst d_Vl_setText_8 ?_
  refine wp_iload d_Vl_setText_9 rfl ?_
  refine wp_copy (a := v + 4 + Int.toNat x1) (a0 := r2) d_Vl_setText_11 ml_Vl_28 na_arraycopy sm_arraycopy in_System (by decide) hr2.1 hr2.2.1 hr2.2.2.1 (gv_row hV h1).2.2.1 (gv_row hV h1).2.2.2 (gv_row hV h1).2.1 (by omega) (by decide) T.1 (g_cpfr d) (g_cplo d) ?_
  have T := T.2
  refine wp_aload_n d_Vl_setText_14 rfl rfl (g_nz hV.1) ?_
  refine wp_iload_n d_Vl_setText_15 rfl rfl ?_
  refine wp_iconst d_Vl_setText_16 ?_
  refine wp_iload d_Vl_setText_17 rfl ?_
  refine xi2l d_Vl_setText_19 (w32_id hx4) ?_
  refine xcV_V (md' := true) (As := [gI x1, gI 2, gL x4]) (st := []) d_Vl_setText_20 ca_Vl_set ml_Vl_24 im_Vl_set se_Vl_set gc_Vl hV.1 (gv_2 hV) hV.2.2.1 rfl (by decide) (by decide) rfl (fun _ => rfl) (fun _ => rfl) T (fun M2 T => ?_)
  exact wp_return d_Vl_setText_23 rfl (fun _ => rfl) (Nat.zero_le _) (Nat.zero_le _) (kV_mk T)
theorem e_Vl_setText {l : Launch} {G : gG} {d : Nat} {X : gX} {M : gM} {k : gM → Prop} {v : Nat} {x1 : Int} {r2 : Nat} {x3 : Int} {x4 : Int} (T : wp l G y_Vl_setText (gRm (d + 1)) true (kkV X k) false 0 [.val (gR G v), .val (gI x1), .val (gR G r2), .val (gI x3), .val (gI x4)] [] X M 0 0) : cV l G y_Vl_setText (gRm (d + 1)) true [gR G v, gI x1, gR G r2, gI x3, gI x4] X M k := cen_V (plainFor_of_name rfl) (by simp only [lg_sl_R, lg_sl_I, lg_sl_L, lg_sl_N, List.length_cons, List.length_nil]; decide) (by unfold gEn; simp only [lg_sl_R, lg_sl_I, lg_sl_L, lg_sl_N]; exact wpt T (And.intro rfl (And.intro rfl (And.intro rfl (And.intro rfl (And.intro rfl True.intro))))))
theorem d_Vl_setFrom_0 : decode prog_12_method_5_code 0 = .ok (.aload_n 0, 1) := by decide +kernel
theorem d_Vl_setFrom_1 : decode prog_12_method_5_code 1 = .ok (.getfield 9, 3) := by decide +kernel
theorem d_Vl_setFrom_4 : decode prog_12_method_5_code 4 = .ok (.iload_n 1, 1) := by decide +kernel
theorem d_Vl_setFrom_5 : decode prog_12_method_5_code 5 = .ok (.aload_n 2, 1) := by decide +kernel
theorem d_Vl_setFrom_6 : decode prog_12_method_5_code 6 = .ok (.getfield 9, 3) := by decide +kernel
theorem d_Vl_setFrom_9 : decode prog_12_method_5_code 9 = .ok (.iload_n 3, 1) := by decide +kernel
theorem d_Vl_setFrom_10 : decode prog_12_method_5_code 10 = .ok (.iaload, 1) := by decide +kernel
theorem d_Vl_setFrom_11 : decode prog_12_method_5_code 11 = .ok (.iastore, 1) := by decide +kernel
theorem d_Vl_setFrom_12 : decode prog_12_method_5_code 12 = .ok (.aload_n 0, 1) := by decide +kernel
theorem d_Vl_setFrom_13 : decode prog_12_method_5_code 13 = .ok (.getfield 15, 3) := by decide +kernel
theorem d_Vl_setFrom_16 : decode prog_12_method_5_code 16 = .ok (.iload_n 1, 1) := by decide +kernel
theorem d_Vl_setFrom_17 : decode prog_12_method_5_code 17 = .ok (.aload_n 2, 1) := by decide +kernel
theorem d_Vl_setFrom_18 : decode prog_12_method_5_code 18 = .ok (.getfield 15, 3) := by decide +kernel
theorem d_Vl_setFrom_21 : decode prog_12_method_5_code 21 = .ok (.iload_n 3, 1) := by decide +kernel
theorem d_Vl_setFrom_22 : decode prog_12_method_5_code 22 = .ok (.laload, 1) := by decide +kernel
theorem d_Vl_setFrom_23 : decode prog_12_method_5_code 23 = .ok (.lastore, 1) := by decide +kernel
theorem d_Vl_setFrom_24 : decode prog_12_method_5_code 24 = .ok (.aload_n 0, 1) := by decide +kernel
theorem d_Vl_setFrom_25 : decode prog_12_method_5_code 25 = .ok (.getfield 9, 3) := by decide +kernel
theorem d_Vl_setFrom_28 : decode prog_12_method_5_code 28 = .ok (.iload_n 1, 1) := by decide +kernel
theorem d_Vl_setFrom_29 : decode prog_12_method_5_code 29 = .ok (.iaload, 1) := by decide +kernel
theorem d_Vl_setFrom_30 : decode prog_12_method_5_code 30 = .ok (.iconst 2, 1) := by decide +kernel
theorem d_Vl_setFrom_31 : decode prog_12_method_5_code 31 = .ok (.if_icmp .ne 27, 3) := by decide +kernel
theorem d_Vl_setFrom_58 : decode prog_12_method_5_code 58 = .ok (.return_, 1) := by decide +kernel
theorem d_Vl_setFrom_34 : decode prog_12_method_5_code 34 = .ok (.aload_n 2, 1) := by decide +kernel
theorem d_Vl_setFrom_35 : decode prog_12_method_5_code 35 = .ok (.getfield 21, 3) := by decide +kernel
theorem d_Vl_setFrom_38 : decode prog_12_method_5_code 38 = .ok (.iload_n 3, 1) := by decide +kernel
theorem d_Vl_setFrom_39 : decode prog_12_method_5_code 39 = .ok (.aaload, 1) := by decide +kernel
theorem d_Vl_setFrom_40 : decode prog_12_method_5_code 40 = .ok (.iconst 0, 1) := by decide +kernel
theorem d_Vl_setFrom_41 : decode prog_12_method_5_code 41 = .ok (.aload_n 0, 1) := by decide +kernel
theorem d_Vl_setFrom_42 : decode prog_12_method_5_code 42 = .ok (.getfield 21, 3) := by decide +kernel
theorem d_Vl_setFrom_45 : decode prog_12_method_5_code 45 = .ok (.iload_n 1, 1) := by decide +kernel
theorem d_Vl_setFrom_46 : decode prog_12_method_5_code 46 = .ok (.aaload, 1) := by decide +kernel
theorem d_Vl_setFrom_47 : decode prog_12_method_5_code 47 = .ok (.iconst 0, 1) := by decide +kernel
theorem d_Vl_setFrom_48 : decode prog_12_method_5_code 48 = .ok (.aload_n 0, 1) := by decide +kernel
theorem d_Vl_setFrom_49 : decode prog_12_method_5_code 49 = .ok (.getfield 15, 3) := by decide +kernel
theorem d_Vl_setFrom_52 : decode prog_12_method_5_code 52 = .ok (.iload_n 1, 1) := by decide +kernel
theorem d_Vl_setFrom_53 : decode prog_12_method_5_code 53 = .ok (.laload, 1) := by decide +kernel
theorem d_Vl_setFrom_54 : decode prog_12_method_5_code 54 = .ok (.l2i, 1) := by decide +kernel
theorem d_Vl_setFrom_55 : decode prog_12_method_5_code 55 = .ok (.invokestatic 28, 3) := by decide +kernel
set_option maxHeartbeats 4000000 in
theorem w_Vl_setFrom_0 {l : Launch} {G : gG} {d : Nat} {X : gX} {M : gM} {k : gM → Prop} {v n : Nat} (hV : gvX X v n) {x1 : Int} (hx1 : g32 x1) {r2 n2 : Nat} (hr2 : gvX X r2 n2) {x3 : Int} (hx3 : g32 x3)  (T : ((0 : Int) ≤ x3 ∧ x3 < (n2 : Int)) ∧ (g32 (M (r2 + 1) (Int.toNat x3)) → (((0 : Int) ≤ x1 ∧ x1 < (n : Int)) ∧ (((0 : Int) ≤ x3 ∧ x3 < (n2 : Int)) ∧ (g64 ((gUp M (v + 1) (Int.toNat x1) (M (r2 + 1) (Int.toNat x3))) (r2 + 2) (Int.toNat x3)) → (((0 : Int) ≤ x1 ∧ x1 < (n : Int)) ∧ (((0 : Int) ≤ x1 ∧ x1 < (n : Int)) ∧ (g32 ((gUp (gUp M (v + 1) (Int.toNat x1) (M (r2 + 1) (Int.toNat x3))) (v + 2) (Int.toNat x1) ((gUp M (v + 1) (Int.toNat x1) (M (r2 + 1) (Int.toNat x3))) (r2 + 2) (Int.toNat x3))) (v + 1) (Int.toNat x1)) → ((¬ (gUp (gUp M (v + 1) (Int.toNat x1) (M (r2 + 1) (Int.toNat x3))) (v + 2) (Int.toNat x1) ((gUp M (v + 1) (Int.toNat x1) (M (r2 + 1) (Int.toNat x3))) (r2 + 2) (Int.toNat x3))) (v + 1) (Int.toNat x1) = 2 → (k (gUp (gUp M (v + 1) (Int.toNat x1) (M (r2 + 1) (Int.toNat x3))) (v + 2) (Int.toNat x1) ((gUp M (v + 1) (Int.toNat x1) (M (r2 + 1) (Int.toNat x3))) (r2 + 2) (Int.toNat x3))))) ∧ ((gUp (gUp M (v + 1) (Int.toNat x1) (M (r2 + 1) (Int.toNat x3))) (v + 2) (Int.toNat x1) ((gUp M (v + 1) (Int.toNat x1) (M (r2 + 1) (Int.toNat x3))) (r2 + 2) (Int.toNat x3))) (v + 1) (Int.toNat x1) = 2 → (((0 : Int) ≤ x3 ∧ x3 < (n2 : Int)) ∧ (((0 : Int) ≤ x1 ∧ x1 < (n : Int)) ∧ (((0 : Int) ≤ x1 ∧ x1 < (n : Int)) ∧ (g64 ((gUp (gUp M (v + 1) (Int.toNat x1) (M (r2 + 1) (Int.toNat x3))) (v + 2) (Int.toNat x1) ((gUp M (v + 1) (Int.toNat x1) (M (r2 + 1) (Int.toNat x3))) (r2 + 2) (Int.toNat x3))) (v + 2) (Int.toNat x1)) → (((0 : Int) ≤ (0 : Int) ∧ (0 : Int) ≤ (0 : Int) ∧ (0 : Int) ≤ ((gUp (gUp M (v + 1) (Int.toNat x1) (M (r2 + 1) (Int.toNat x3))) (v + 2) (Int.toNat x1) ((gUp M (v + 1) (Int.toNat x1) (M (r2 + 1) (Int.toNat x3))) (r2 + 2) (Int.toNat x3))) (v + 2) (Int.toNat x1)) ∧ (0 : Int) + ((gUp (gUp M (v + 1) (Int.toNat x1) (M (r2 + 1) (Int.toNat x3))) (v + 2) (Int.toNat x1) ((gUp M (v + 1) (Int.toNat x1) (M (r2 + 1) (Int.toNat x3))) (r2 + 2) (Int.toNat x3))) (v + 2) (Int.toNat x1)) ≤ 64 ∧ (0 : Int) + ((gUp (gUp M (v + 1) (Int.toNat x1) (M (r2 + 1) (Int.toNat x3))) (v + 2) (Int.toNat x1) ((gUp M (v + 1) (Int.toNat x1) (M (r2 + 1) (Int.toNat x3))) (r2 + 2) (Int.toNat x3))) (v + 2) (Int.toNat x1)) ≤ 64) ∧ (k (gCp (gUp (gUp M (v + 1) (Int.toNat x1) (M (r2 + 1) (Int.toNat x3))) (v + 2) (Int.toNat x1) ((gUp M (v + 1) (Int.toNat x1) (M (r2 + 1) (Int.toNat x3))) (r2 + 2) (Int.toNat x3))) (v + 4 + Int.toNat x1) (r2 + 4 + Int.toNat x3) (Int.toNat 0) (Int.toNat 0) (Int.toNat ((gUp (gUp M (v + 1) (Int.toNat x1) (M (r2 + 1) (Int.toNat x3))) (v + 2) (Int.toNat x1) ((gUp M (v + 1) (Int.toNat x1) (M (r2 + 1) (Int.toNat x3))) (r2 + 2) (Int.toNat x3))) (v + 2) (Int.toNat x1)))))))))))))))))))) : wp l G y_Vl_setFrom (gRm (d + 1)) true (kkV X k) false 0 [.val (gR G v), .val (gI x1), .val (gR G r2), .val (gI x3)] [] X M 0 0 := by
  refine wp_aload_n d_Vl_setFrom_0 rfl rfl (g_nz hV.1) ?_
  refine xgetR d_Vl_setFrom_1 gc_Vl f_Vl_9.1 f_Vl_9.2.1 f_Vl_9.2.2.1 hV.1 (gv_2 hV) hV.2.2.1 f_Vl_9.2.2.2.2.1 (gv_r1 hV).1 ?_
  refine wp_iload_n d_Vl_setFrom_4 rfl rfl ?_
  refine wp_aload_n d_Vl_setFrom_5 rfl rfl (g_nz hr2.1) ?_
  refine xgetR d_Vl_setFrom_6 gc_Vl f_Vl_9.1 f_Vl_9.2.1 f_Vl_9.2.2.1 hr2.1 (gv_2 hr2) hr2.2.2.1 f_Vl_9.2.2.2.2.1 (gv_r1 hr2).1 ?_
  refine wp_iload_n d_Vl_setFrom_9 rfl rfl ?_
  refine wp_iaload d_Vl_setFrom_10 (gv_r1 hr2).2.2.1 (gv_r1 hr2).2.2.2 (gv_r1 hr2).2.1 (g32_n T.1 (gv_n hr2)) T.1.1 T.1.2 (fun h1 => ?_)
  have T := T.2 h1
  refine xiast d_Vl_setFrom_11 (gv_r1 hV).2.2.1 (gv_r1 hV).2.2.2 (gv_r1 hV).2.1 (gv_n hV) T.1 (w32_id h1) ?_
  have T := T.2
  refine wp_aload_n d_Vl_setFrom_12 rfl rfl (g_nz hV.1) ?_
  refine xgetR d_Vl_setFrom_13 gc_Vl f_Vl_15.1 f_Vl_15.2.1 f_Vl_15.2.2.1 hV.1 (gv_2 hV) hV.2.2.1 f_Vl_15.2.2.2.2.1 (gv_r2 hV).1 ?_
  refine wp_iload_n d_Vl_setFrom_16 rfl rfl ?_
  refine wp_aload_n d_Vl_setFrom_17 rfl rfl (g_nz hr2.1) ?_
  refine xgetR d_Vl_setFrom_18 gc_Vl f_Vl_15.1 f_Vl_15.2.1 f_Vl_15.2.2.1 hr2.1 (gv_2 hr2) hr2.2.2.1 f_Vl_15.2.2.2.2.1 (gv_r2 hr2).1 ?_
  refine wp_iload_n d_Vl_setFrom_21 rfl rfl ?_
  refine wp_laload d_Vl_setFrom_22 (gv_r2 hr2).2.2.1 (gv_r2 hr2).2.2.2 (gv_r2 hr2).2.1 (g32_n T.1 (gv_n hr2)) T.1.1 T.1.2 (fun h2 => ?_)
  have T := T.2 h2
  refine xlast d_Vl_setFrom_23 (gv_r2 hV).2.2.1 (gv_r2 hV).2.2.2 (gv_r2 hV).2.1 (gv_n hV) T.1 (w64_id h2) ?_
  have T := T.2
  refine wp_aload_n d_Vl_setFrom_24 rfl rfl (g_nz hV.1) ?_
  refine xgetR d_Vl_setFrom_25 gc_Vl f_Vl_9.1 f_Vl_9.2.1 f_Vl_9.2.2.1 hV.1 (gv_2 hV) hV.2.2.1 f_Vl_9.2.2.2.2.1 (gv_r1 hV).1 ?_
  refine wp_iload_n d_Vl_setFrom_28 rfl rfl ?_
  refine wp_iaload d_Vl_setFrom_29 (gv_r1 hV).2.2.1 (gv_r1 hV).2.2.2 (gv_r1 hV).2.1 (g32_n T.1 (gv_n hV)) T.1.1 T.1.2 (fun h3 => ?_)
  have T := T.2 h3
  refine wp_iconst d_Vl_setFrom_30 ?_
  refine xi_ne (tgt := 58) d_Vl_setFrom_31 (by decide) (w32_id h3) (w32_id (g32_c (x := 2) rfl)) (fun h7 => ?_) (fun h7 => ?_)
  · have T := T.1 h7
    exact wp_return d_Vl_setFrom_58 rfl (fun _ => rfl) (Nat.zero_le _) (Nat.zero_le _) (kV_mk T)
  · have T := T.2 h7
    refine wp_aload_n d_Vl_setFrom_34 rfl rfl (g_nz hr2.1) ?_
    refine xgetR d_Vl_setFrom_35 gc_Vl f_Vl_21.1 f_Vl_21.2.1 f_Vl_21.2.2.1 hr2.1 (gv_2 hr2) hr2.2.2.1 f_Vl_21.2.2.2.2.1 (gv_r3 hr2).1 ?_
    refine wp_iload_n d_Vl_setFrom_38 rfl rfl ?_
    have h4 := T.1
    refine xaald d_Vl_setFrom_39 (Or.inl rfl) (gv_r3 hr2).2.2.1 (gv_r3 hr2).2.2.2 (gv_r3 hr2).2.1 (g32_n h4 (gv_n hr2)) h4.1 h4.2 (gv_row hr2 h4).1 ?_
    have T := T.2
    refine wp_iconst d_Vl_setFrom_40 ?_
    refine wp_aload_n d_Vl_setFrom_41 rfl rfl (g_nz hV.1) ?_
    refine xgetR d_Vl_setFrom_42 gc_Vl f_Vl_21.1 f_Vl_21.2.1 f_Vl_21.2.2.1 hV.1 (gv_2 hV) hV.2.2.1 f_Vl_21.2.2.2.2.1 (gv_r3 hV).1 ?_
    refine wp_iload_n d_Vl_setFrom_45 rfl rfl ?_
    have h5 := T.1
    refine xaald d_Vl_setFrom_46 (Or.inl rfl) (gv_r3 hV).2.2.1 (gv_r3 hV).2.2.2 (gv_r3 hV).2.1 (g32_n h5 (gv_n hV)) h5.1 h5.2 (gv_row hV h5).1 ?_
    have T := T.2
    refine wp_iconst d_Vl_setFrom_47 ?_
    refine wp_aload_n d_Vl_setFrom_48 rfl rfl (g_nz hV.1) ?_
    refine xgetR d_Vl_setFrom_49 gc_Vl f_Vl_15.1 f_Vl_15.2.1 f_Vl_15.2.2.1 hV.1 (gv_2 hV) hV.2.2.1 f_Vl_15.2.2.2.2.1 (gv_r2 hV).1 ?_
    refine wp_iload_n d_Vl_setFrom_52 rfl rfl ?_
    refine wp_laload d_Vl_setFrom_53 (gv_r2 hV).2.2.1 (gv_r2 hV).2.2.2 (gv_r2 hV).2.1 (g32_n T.1 (gv_n hV)) T.1.1 T.1.2 (fun h6 => ?_)
    have T := T.2 h6
    refine wp_l2i d_Vl_setFrom_54 ?_
    refine wp_copy (a := v + 4 + Int.toNat x1) (a0 := r2 + 4 + Int.toNat x3) d_Vl_setFrom_55 ml_Vl_28 na_arraycopy sm_arraycopy in_System (by decide) (gv_row hr2 h4).2.2.1 (gv_row hr2 h4).2.2.2 (gv_row hr2 h4).2.1 (gv_row hV h5).2.2.1 (gv_row hV h5).2.2.2 (gv_row hV h5).2.1 (by decide) (by decide) T.1 (g_cpfr d) (g_cplo d) ?_
    have T := T.2
    exact wp_return d_Vl_setFrom_58 rfl (fun _ => rfl) (Nat.zero_le _) (Nat.zero_le _) (kV_mk T)
theorem e_Vl_setFrom {l : Launch} {G : gG} {d : Nat} {X : gX} {M : gM} {k : gM → Prop} {v : Nat} {x1 : Int} {r2 : Nat} {x3 : Int} (T : wp l G y_Vl_setFrom (gRm (d + 1)) true (kkV X k) false 0 [.val (gR G v), .val (gI x1), .val (gR G r2), .val (gI x3)] [] X M 0 0) : cV l G y_Vl_setFrom (gRm (d + 1)) true [gR G v, gI x1, gR G r2, gI x3] X M k := cen_V (plainFor_of_name rfl) (by simp only [lg_sl_R, lg_sl_I, lg_sl_L, lg_sl_N, List.length_cons, List.length_nil]; decide) (by unfold gEn; simp only [lg_sl_R, lg_sl_I, lg_sl_L, lg_sl_N]; exact wpt T (And.intro rfl (And.intro rfl (And.intro rfl (And.intro rfl True.intro)))))
theorem d_Vl_same_0 : decode prog_12_method_6_code 0 = .ok (.aload_n 0, 1) := by decide +kernel
theorem d_Vl_same_1 : decode prog_12_method_6_code 1 = .ok (.getfield 9, 3) := by decide +kernel
theorem d_Vl_same_4 : decode prog_12_method_6_code 4 = .ok (.iload_n 1, 1) := by decide +kernel
theorem d_Vl_same_5 : decode prog_12_method_6_code 5 = .ok (.iaload, 1) := by decide +kernel
theorem d_Vl_same_6 : decode prog_12_method_6_code 6 = .ok (.aload_n 2, 1) := by decide +kernel
theorem d_Vl_same_7 : decode prog_12_method_6_code 7 = .ok (.getfield 9, 3) := by decide +kernel
theorem d_Vl_same_10 : decode prog_12_method_6_code 10 = .ok (.iload_n 3, 1) := by decide +kernel
theorem d_Vl_same_11 : decode prog_12_method_6_code 11 = .ok (.iaload, 1) := by decide +kernel
theorem d_Vl_same_12 : decode prog_12_method_6_code 12 = .ok (.if_icmp .ne 33, 3) := by decide +kernel
theorem d_Vl_same_45 : decode prog_12_method_6_code 45 = .ok (.iconst 0, 1) := by decide +kernel
theorem d_Vl_same_46 : decode prog_12_method_6_code 46 = .ok (.ireturn, 1) := by decide +kernel
theorem d_Vl_same_15 : decode prog_12_method_6_code 15 = .ok (.aload_n 0, 1) := by decide +kernel
theorem d_Vl_same_16 : decode prog_12_method_6_code 16 = .ok (.getfield 15, 3) := by decide +kernel
theorem d_Vl_same_19 : decode prog_12_method_6_code 19 = .ok (.iload_n 1, 1) := by decide +kernel
theorem d_Vl_same_20 : decode prog_12_method_6_code 20 = .ok (.laload, 1) := by decide +kernel
theorem d_Vl_same_21 : decode prog_12_method_6_code 21 = .ok (.aload_n 2, 1) := by decide +kernel
theorem d_Vl_same_22 : decode prog_12_method_6_code 22 = .ok (.getfield 15, 3) := by decide +kernel
theorem d_Vl_same_25 : decode prog_12_method_6_code 25 = .ok (.iload_n 3, 1) := by decide +kernel
theorem d_Vl_same_26 : decode prog_12_method_6_code 26 = .ok (.laload, 1) := by decide +kernel
theorem d_Vl_same_27 : decode prog_12_method_6_code 27 = .ok (.lcmp, 1) := by decide +kernel
theorem d_Vl_same_28 : decode prog_12_method_6_code 28 = .ok (.ifCond .ne 17, 3) := by decide +kernel
theorem d_Vl_same_31 : decode prog_12_method_6_code 31 = .ok (.aload_n 0, 1) := by decide +kernel
theorem d_Vl_same_32 : decode prog_12_method_6_code 32 = .ok (.iload_n 1, 1) := by decide +kernel
theorem d_Vl_same_33 : decode prog_12_method_6_code 33 = .ok (.aload_n 2, 1) := by decide +kernel
theorem d_Vl_same_34 : decode prog_12_method_6_code 34 = .ok (.iload_n 3, 1) := by decide +kernel
theorem d_Vl_same_35 : decode prog_12_method_6_code 35 = .ok (.invokevirtual 34, 3) := by decide +kernel
theorem d_Vl_same_38 : decode prog_12_method_6_code 38 = .ok (.ifCond .ne 7, 3) := by decide +kernel
theorem d_Vl_same_41 : decode prog_12_method_6_code 41 = .ok (.iconst 1, 1) := by decide +kernel
theorem d_Vl_same_42 : decode prog_12_method_6_code 42 = .ok (.goto 4, 3) := by decide +kernel
set_option maxHeartbeats 4000000 in
theorem w_Vl_same_0 {l : Launch} {G : gG} {d : Nat} {X : gX} {M : gM} {k : Int → gM → Prop} {v n : Nat} (hV : gvX X v n) {x1 : Int} (hx1 : g32 x1) {r2 n2 : Nat} (hr2 : gvX X r2 n2) {x3 : Int} (hx3 : g32 x3)  (T : ((0 : Int) ≤ x1 ∧ x1 < (n : Int)) ∧ (g32 (M (v + 1) (Int.toNat x1)) → (((0 : Int) ≤ x3 ∧ x3 < (n2 : Int)) ∧ (g32 (M (r2 + 1) (Int.toNat x3)) → ((¬ M (v + 1) (Int.toNat x1) = M (r2 + 1) (Int.toNat x3) → (k 0 M)) ∧ (M (v + 1) (Int.toNat x1) = M (r2 + 1) (Int.toNat x3) → (((0 : Int) ≤ x1 ∧ x1 < (n : Int)) ∧ (g64 (M (v + 2) (Int.toNat x1)) → (((0 : Int) ≤ x3 ∧ x3 < (n2 : Int)) ∧ (g64 (M (r2 + 2) (Int.toNat x3)) → ((¬ M (v + 2) (Int.toNat x1) = M (r2 + 2) (Int.toNat x3) → (k 0 M)) ∧ (M (v + 2) (Int.toNat x1) = M (r2 + 2) (Int.toNat x3) → (cI l G y_Vl_compare (gRm d) false [gR G v, gI x1, gR G r2, gI x3] X M (fun v6 M5 => ((¬ v6 = 0 → (k 0 M5)) ∧ (v6 = 0 → (k 1 M5))))))))))))))))) : wp l G y_Vl_same (gRm (d + 1)) false (kkZ X k) false 0 [.val (gR G v), .val (gI x1), .val (gR G r2), .val (gI x3)] [] X M 0 0 := by
  refine wp_aload_n d_Vl_same_0 rfl rfl (g_nz hV.1) ?_
  refine xgetR d_Vl_same_1 gc_Vl f_Vl_9.1 f_Vl_9.2.1 f_Vl_9.2.2.1 hV.1 (gv_2 hV) hV.2.2.1 f_Vl_9.2.2.2.2.1 (gv_r1 hV).1 ?_
  refine wp_iload_n d_Vl_same_4 rfl rfl ?_
  refine wp_iaload d_Vl_same_5 (gv_r1 hV).2.2.1 (gv_r1 hV).2.2.2 (gv_r1 hV).2.1 (g32_n T.1 (gv_n hV)) T.1.1 T.1.2 (fun h1 => ?_)
  have T := T.2 h1
  refine wp_aload_n d_Vl_same_6 rfl rfl (g_nz hr2.1) ?_
  refine xgetR d_Vl_same_7 gc_Vl f_Vl_9.1 f_Vl_9.2.1 f_Vl_9.2.2.1 hr2.1 (gv_2 hr2) hr2.2.2.1 f_Vl_9.2.2.2.2.1 (gv_r1 hr2).1 ?_
  refine wp_iload_n d_Vl_same_10 rfl rfl ?_
  refine wp_iaload d_Vl_same_11 (gv_r1 hr2).2.2.1 (gv_r1 hr2).2.2.2 (gv_r1 hr2).2.1 (g32_n T.1 (gv_n hr2)) T.1.1 T.1.2 (fun h2 => ?_)
  have T := T.2 h2
  refine xi_ne (tgt := 45) d_Vl_same_12 (by decide) (w32_id h1) (w32_id h2) (fun h10 => ?_) (fun h10 => ?_)
  · have T := T.1 h10
    refine wp_iconst d_Vl_same_45 ?_
    exact wp_zreturn d_Vl_same_46 rfl (g_narz (⟨by decide, by decide⟩ : (0 : Int) ≤ 0 ∧ (0 : Int) ≤ 1)) id (Nat.zero_le _) (Nat.zero_le _) (kZ_mk (⟨by decide, by decide⟩ : (0 : Int) ≤ 0 ∧ (0 : Int) ≤ 1) T)
  · have T := T.2 h10
    refine wp_aload_n d_Vl_same_15 rfl rfl (g_nz hV.1) ?_
    refine xgetR d_Vl_same_16 gc_Vl f_Vl_15.1 f_Vl_15.2.1 f_Vl_15.2.2.1 hV.1 (gv_2 hV) hV.2.2.1 f_Vl_15.2.2.2.2.1 (gv_r2 hV).1 ?_
    refine wp_iload_n d_Vl_same_19 rfl rfl ?_
    refine wp_laload d_Vl_same_20 (gv_r2 hV).2.2.1 (gv_r2 hV).2.2.2 (gv_r2 hV).2.1 (g32_n T.1 (gv_n hV)) T.1.1 T.1.2 (fun h3 => ?_)
    have T := T.2 h3
    refine wp_aload_n d_Vl_same_21 rfl rfl (g_nz hr2.1) ?_
    refine xgetR d_Vl_same_22 gc_Vl f_Vl_15.1 f_Vl_15.2.1 f_Vl_15.2.2.1 hr2.1 (gv_2 hr2) hr2.2.2.1 f_Vl_15.2.2.2.2.1 (gv_r2 hr2).1 ?_
    refine wp_iload_n d_Vl_same_25 rfl rfl ?_
    refine wp_laload d_Vl_same_26 (gv_r2 hr2).2.2.1 (gv_r2 hr2).2.2.2 (gv_r2 hr2).2.1 (g32_n T.1 (gv_n hr2)) T.1.1 T.1.2 (fun h4 => ?_)
    have T := T.2 h4
    refine xl_ne (tgt := 45) d_Vl_same_27 d_Vl_same_28 (by decide) (w64_id h3) (w64_id h4) (fun h9 => ?_) (fun h9 => ?_)
    · have T := T.1 h9
      refine wp_iconst d_Vl_same_45 ?_
      exact wp_zreturn d_Vl_same_46 rfl (g_narz (⟨by decide, by decide⟩ : (0 : Int) ≤ 0 ∧ (0 : Int) ≤ 1)) id (Nat.zero_le _) (Nat.zero_le _) (kZ_mk (⟨by decide, by decide⟩ : (0 : Int) ≤ 0 ∧ (0 : Int) ≤ 1) T)
    · have T := T.2 h9
      refine wp_aload_n d_Vl_same_31 rfl rfl (g_nz hV.1) ?_
      refine wp_iload_n d_Vl_same_32 rfl rfl ?_
      refine wp_aload_n d_Vl_same_33 rfl rfl (g_nz hr2.1) ?_
      refine wp_iload_n d_Vl_same_34 rfl rfl ?_
      refine xcV_I (md' := false) (As := [gI x1, gR G r2, gI x3]) (st := []) d_Vl_same_35 ca_Vl_compare ml_Vl_34 im_Vl_compare se_Vl_compare gc_Vl hV.1 (gv_2 hV) hV.2.2.1 rfl (by decide) (by decide) rfl id id T (fun v6 M5 h7 T => ?_)
      refine xz_ne (tgt := 45) d_Vl_same_38 (by decide) (w32_id h7) (fun h8 => ?_) (fun h8 => ?_)
      · have T := T.1 h8
        refine wp_iconst d_Vl_same_45 ?_
        exact wp_zreturn d_Vl_same_46 rfl (g_narz (⟨by decide, by decide⟩ : (0 : Int) ≤ 0 ∧ (0 : Int) ≤ 1)) id (Nat.zero_le _) (Nat.zero_le _) (kZ_mk (⟨by decide, by decide⟩ : (0 : Int) ≤ 0 ∧ (0 : Int) ≤ 1) T)
      · have T := T.2 h8
        refine wp_iconst d_Vl_same_41 ?_
        refine wp_goto (tgt := 46) d_Vl_same_42 (by decide) ?_
        exact wp_zreturn d_Vl_same_46 rfl (g_narz (⟨by decide, by decide⟩ : (0 : Int) ≤ 1 ∧ (1 : Int) ≤ 1)) id (Nat.zero_le _) (Nat.zero_le _) (kZ_mk (⟨by decide, by decide⟩ : (0 : Int) ≤ 1 ∧ (1 : Int) ≤ 1) T)
theorem e_Vl_same {l : Launch} {G : gG} {d : Nat} {X : gX} {M : gM} {k : Int → gM → Prop} {v : Nat} {x1 : Int} {r2 : Nat} {x3 : Int} (T : wp l G y_Vl_same (gRm (d + 1)) false (kkZ X k) false 0 [.val (gR G v), .val (gI x1), .val (gR G r2), .val (gI x3)] [] X M 0 0) : cZ l G y_Vl_same (gRm (d + 1)) false [gR G v, gI x1, gR G r2, gI x3] X M k := cen_Z (plainFor_of_name rfl) (by simp only [lg_sl_R, lg_sl_I, lg_sl_L, lg_sl_N, List.length_cons, List.length_nil]; decide) (by unfold gEn; simp only [lg_sl_R, lg_sl_I, lg_sl_L, lg_sl_N]; exact wpt T (And.intro rfl (And.intro rfl (And.intro rfl (And.intro rfl True.intro)))))
theorem d_Vl_compare_0 : decode prog_12_method_7_code 0 = .ok (.aload_n 0, 1) := by decide +kernel
theorem d_Vl_compare_1 : decode prog_12_method_7_code 1 = .ok (.getfield 9, 3) := by decide +kernel
theorem d_Vl_compare_4 : decode prog_12_method_7_code 4 = .ok (.iload_n 1, 1) := by decide +kernel
theorem d_Vl_compare_5 : decode prog_12_method_7_code 5 = .ok (.iaload, 1) := by decide +kernel
theorem d_Vl_compare_6 : decode prog_12_method_7_code 6 = .ok (.ifCond .ne 12, 3) := by decide +kernel
theorem d_Vl_compare_18 : decode prog_12_method_7_code 18 = .ok (.aload_n 0, 1) := by decide +kernel
theorem d_Vl_compare_19 : decode prog_12_method_7_code 19 = .ok (.getfield 9, 3) := by decide +kernel
theorem d_Vl_compare_22 : decode prog_12_method_7_code 22 = .ok (.iload_n 1, 1) := by decide +kernel
theorem d_Vl_compare_23 : decode prog_12_method_7_code 23 = .ok (.iaload, 1) := by decide +kernel
theorem d_Vl_compare_24 : decode prog_12_method_7_code 24 = .ok (.istore 4, 2) := by decide +kernel
theorem d_Vl_compare_26 : decode prog_12_method_7_code 26 = .ok (.aload_n 2, 1) := by decide +kernel
theorem d_Vl_compare_27 : decode prog_12_method_7_code 27 = .ok (.getfield 9, 3) := by decide +kernel
theorem d_Vl_compare_30 : decode prog_12_method_7_code 30 = .ok (.iload_n 3, 1) := by decide +kernel
theorem d_Vl_compare_31 : decode prog_12_method_7_code 31 = .ok (.iaload, 1) := by decide +kernel
theorem d_Vl_compare_32 : decode prog_12_method_7_code 32 = .ok (.ifCond .ne 8, 3) := by decide +kernel
theorem d_Vl_compare_40 : decode prog_12_method_7_code 40 = .ok (.aload_n 2, 1) := by decide +kernel
theorem d_Vl_compare_41 : decode prog_12_method_7_code 41 = .ok (.getfield 9, 3) := by decide +kernel
theorem d_Vl_compare_44 : decode prog_12_method_7_code 44 = .ok (.iload_n 3, 1) := by decide +kernel
theorem d_Vl_compare_45 : decode prog_12_method_7_code 45 = .ok (.iaload, 1) := by decide +kernel
theorem d_Vl_compare_46 : decode prog_12_method_7_code 46 = .ok (.istore 5, 2) := by decide +kernel
theorem d_Vl_compare_48 : decode prog_12_method_7_code 48 = .ok (.iload 4, 2) := by decide +kernel
theorem d_Vl_compare_50 : decode prog_12_method_7_code 50 = .ok (.iload 5, 2) := by decide +kernel
theorem d_Vl_compare_52 : decode prog_12_method_7_code 52 = .ok (.if_icmp .eq 9, 3) := by decide +kernel
theorem d_Vl_compare_61 : decode prog_12_method_7_code 61 = .ok (.iload 4, 2) := by decide +kernel
theorem d_Vl_compare_63 : decode prog_12_method_7_code 63 = .ok (.iconst 2, 1) := by decide +kernel
theorem d_Vl_compare_64 : decode prog_12_method_7_code 64 = .ok (.if_icmp .ne 79, 3) := by decide +kernel
theorem d_Vl_compare_143 : decode prog_12_method_7_code 143 = .ok (.aload_n 0, 1) := by decide +kernel
theorem d_Vl_compare_144 : decode prog_12_method_7_code 144 = .ok (.getfield 15, 3) := by decide +kernel
theorem d_Vl_compare_147 : decode prog_12_method_7_code 147 = .ok (.iload_n 1, 1) := by decide +kernel
theorem d_Vl_compare_148 : decode prog_12_method_7_code 148 = .ok (.laload, 1) := by decide +kernel
theorem d_Vl_compare_149 : decode prog_12_method_7_code 149 = .ok (.aload_n 2, 1) := by decide +kernel
theorem d_Vl_compare_150 : decode prog_12_method_7_code 150 = .ok (.getfield 15, 3) := by decide +kernel
theorem d_Vl_compare_153 : decode prog_12_method_7_code 153 = .ok (.iload_n 3, 1) := by decide +kernel
theorem d_Vl_compare_154 : decode prog_12_method_7_code 154 = .ok (.laload, 1) := by decide +kernel
theorem d_Vl_compare_155 : decode prog_12_method_7_code 155 = .ok (.invokestatic 44, 3) := by decide +kernel
theorem d_Vl_compare_158 : decode prog_12_method_7_code 158 = .ok (.ireturn, 1) := by decide +kernel
theorem d_Vl_compare_67 : decode prog_12_method_7_code 67 = .ok (.aload_n 0, 1) := by decide +kernel
theorem d_Vl_compare_68 : decode prog_12_method_7_code 68 = .ok (.getfield 15, 3) := by decide +kernel
theorem d_Vl_compare_71 : decode prog_12_method_7_code 71 = .ok (.iload_n 1, 1) := by decide +kernel
theorem d_Vl_compare_72 : decode prog_12_method_7_code 72 = .ok (.laload, 1) := by decide +kernel
theorem d_Vl_compare_73 : decode prog_12_method_7_code 73 = .ok (.aload_n 2, 1) := by decide +kernel
theorem d_Vl_compare_74 : decode prog_12_method_7_code 74 = .ok (.getfield 15, 3) := by decide +kernel
theorem d_Vl_compare_77 : decode prog_12_method_7_code 77 = .ok (.iload_n 3, 1) := by decide +kernel
theorem d_Vl_compare_78 : decode prog_12_method_7_code 78 = .ok (.laload, 1) := by decide +kernel
theorem d_Vl_compare_79 : decode prog_12_method_7_code 79 = .ok (.invokestatic 38, 3) := by decide +kernel
theorem d_Vl_compare_82 : decode prog_12_method_7_code 82 = .ok (.lstore 6, 2) := by decide +kernel
theorem d_Vl_compare_84 : decode prog_12_method_7_code 84 = .ok (.iconst 0, 1) := by decide +kernel
theorem d_Vl_compare_85 : decode prog_12_method_7_code 85 = .ok (.istore 8, 2) := by decide +kernel
theorem d_Vl_compare_55 : decode prog_12_method_7_code 55 = .ok (.iload 4, 2) := by decide +kernel
theorem d_Vl_compare_57 : decode prog_12_method_7_code 57 = .ok (.iload 5, 2) := by decide +kernel
theorem d_Vl_compare_59 : decode prog_12_method_7_code 59 = .ok (.isub, 1) := by decide +kernel
theorem d_Vl_compare_60 : decode prog_12_method_7_code 60 = .ok (.ireturn, 1) := by decide +kernel
theorem d_Vl_compare_35 : decode prog_12_method_7_code 35 = .ok (.iload 4, 2) := by decide +kernel
theorem d_Vl_compare_37 : decode prog_12_method_7_code 37 = .ok (.goto 9, 3) := by decide +kernel
theorem d_Vl_compare_9 : decode prog_12_method_7_code 9 = .ok (.aload_n 2, 1) := by decide +kernel
theorem d_Vl_compare_10 : decode prog_12_method_7_code 10 = .ok (.getfield 9, 3) := by decide +kernel
theorem d_Vl_compare_13 : decode prog_12_method_7_code 13 = .ok (.iload_n 3, 1) := by decide +kernel
theorem d_Vl_compare_14 : decode prog_12_method_7_code 14 = .ok (.iaload, 1) := by decide +kernel
theorem d_Vl_compare_15 : decode prog_12_method_7_code 15 = .ok (.goto 9, 3) := by decide +kernel
theorem d_Vl_compare_87 : decode prog_12_method_7_code 87 = .ok (.iload 8, 2) := by decide +kernel
theorem d_Vl_compare_89 : decode prog_12_method_7_code 89 = .ok (.i2l, 1) := by decide +kernel
theorem d_Vl_compare_90 : decode prog_12_method_7_code 90 = .ok (.lload 6, 2) := by decide +kernel
theorem d_Vl_compare_92 : decode prog_12_method_7_code 92 = .ok (.lcmp, 1) := by decide +kernel
theorem d_Vl_compare_93 : decode prog_12_method_7_code 93 = .ok (.ifCond .ge 50, 3) := by decide +kernel
theorem d_Vl_compare_96 : decode prog_12_method_7_code 96 = .ok (.aload_n 0, 1) := by decide +kernel
theorem d_Vl_compare_97 : decode prog_12_method_7_code 97 = .ok (.getfield 21, 3) := by decide +kernel
theorem d_Vl_compare_100 : decode prog_12_method_7_code 100 = .ok (.iload_n 1, 1) := by decide +kernel
theorem d_Vl_compare_101 : decode prog_12_method_7_code 101 = .ok (.aaload, 1) := by decide +kernel
theorem d_Vl_compare_102 : decode prog_12_method_7_code 102 = .ok (.iload 8, 2) := by decide +kernel
theorem d_Vl_compare_104 : decode prog_12_method_7_code 104 = .ok (.baload, 1) := by decide +kernel
theorem d_Vl_compare_105 : decode prog_12_method_7_code 105 = .ok (.aload_n 2, 1) := by decide +kernel
theorem d_Vl_compare_106 : decode prog_12_method_7_code 106 = .ok (.getfield 21, 3) := by decide +kernel
theorem d_Vl_compare_109 : decode prog_12_method_7_code 109 = .ok (.iload_n 3, 1) := by decide +kernel
theorem d_Vl_compare_110 : decode prog_12_method_7_code 110 = .ok (.aaload, 1) := by decide +kernel
theorem d_Vl_compare_111 : decode prog_12_method_7_code 111 = .ok (.iload 8, 2) := by decide +kernel
theorem d_Vl_compare_113 : decode prog_12_method_7_code 113 = .ok (.baload, 1) := by decide +kernel
theorem d_Vl_compare_114 : decode prog_12_method_7_code 114 = .ok (.if_icmp .eq 23, 3) := by decide +kernel
theorem d_Vl_compare_137 : decode prog_12_method_7_code 137 = .ok (.iinc 8 1, 3) := by decide +kernel
theorem d_Vl_compare_140 : decode prog_12_method_7_code 140 = .ok (.goto (-53), 3) := by decide +kernel
theorem d_Vl_compare_117 : decode prog_12_method_7_code 117 = .ok (.aload_n 0, 1) := by decide +kernel
theorem d_Vl_compare_118 : decode prog_12_method_7_code 118 = .ok (.getfield 21, 3) := by decide +kernel
theorem d_Vl_compare_121 : decode prog_12_method_7_code 121 = .ok (.iload_n 1, 1) := by decide +kernel
theorem d_Vl_compare_122 : decode prog_12_method_7_code 122 = .ok (.aaload, 1) := by decide +kernel
theorem d_Vl_compare_123 : decode prog_12_method_7_code 123 = .ok (.iload 8, 2) := by decide +kernel
theorem d_Vl_compare_125 : decode prog_12_method_7_code 125 = .ok (.baload, 1) := by decide +kernel
theorem d_Vl_compare_126 : decode prog_12_method_7_code 126 = .ok (.aload_n 2, 1) := by decide +kernel
theorem d_Vl_compare_127 : decode prog_12_method_7_code 127 = .ok (.getfield 21, 3) := by decide +kernel
theorem d_Vl_compare_130 : decode prog_12_method_7_code 130 = .ok (.iload_n 3, 1) := by decide +kernel
theorem d_Vl_compare_131 : decode prog_12_method_7_code 131 = .ok (.aaload, 1) := by decide +kernel
theorem d_Vl_compare_132 : decode prog_12_method_7_code 132 = .ok (.iload 8, 2) := by decide +kernel
theorem d_Vl_compare_134 : decode prog_12_method_7_code 134 = .ok (.baload, 1) := by decide +kernel
theorem d_Vl_compare_135 : decode prog_12_method_7_code 135 = .ok (.isub, 1) := by decide +kernel
theorem d_Vl_compare_136 : decode prog_12_method_7_code 136 = .ok (.ireturn, 1) := by decide +kernel
set_option maxHeartbeats 4000000 in
theorem w_Vl_compare_0 {l : Launch} {G : gG} {d : Nat} {X : gX} {M : gM} {k : Int → gM → Prop} {v n : Nat} (hV : gvX X v n) {x1 : Int} (hx1 : g32 x1) {r2 n2 : Nat} (hr2 : gvX X r2 n2) {x3 : Int} (hx3 : g32 x3)  (T : ((0 : Int) ≤ x1 ∧ x1 < (n : Int)) ∧ (g32 (M (v + 1) (Int.toNat x1)) → ((¬ M (v + 1) (Int.toNat x1) = 0 → (((0 : Int) ≤ x1 ∧ x1 < (n : Int)) ∧ (g32 (M (v + 1) (Int.toNat x1)) → (((0 : Int) ≤ x3 ∧ x3 < (n2 : Int)) ∧ (g32 (M (r2 + 1) (Int.toNat x3)) → ((¬ M (r2 + 1) (Int.toNat x3) = 0 → (((0 : Int) ≤ x3 ∧ x3 < (n2 : Int)) ∧ (g32 (M (r2 + 1) (Int.toNat x3)) → ((M (v + 1) (Int.toNat x1) = M (r2 + 1) (Int.toNat x3) → ((¬ M (v + 1) (Int.toNat x1) = 2 → (((0 : Int) ≤ x1 ∧ x1 < (n : Int)) ∧ (g64 (M (v + 2) (Int.toNat x1)) → (((0 : Int) ≤ x3 ∧ x3 < (n2 : Int)) ∧ (g64 (M (r2 + 2) (Int.toNat x3)) → (cI l G y_jLong_compare (gRm d) false [gL (M (v + 2) (Int.toNat x1)), gL (M (r2 + 2) (Int.toNat x3))] X M (fun v8 M7 => (k v8 M7)))))))) ∧ (M (v + 1) (Int.toNat x1) = 2 → (((0 : Int) ≤ x1 ∧ x1 < (n : Int)) ∧ (g64 (M (v + 2) (Int.toNat x1)) → (((0 : Int) ≤ x3 ∧ x3 < (n2 : Int)) ∧ (g64 (M (r2 + 2) (Int.toNat x3)) → (cL l G y_jMath_min_2 (gRm d) false [gL (M (v + 2) (Int.toNat x1)), gL (M (r2 + 2) (Int.toNat x3))] X M (fun v13 M12 => (wp l G y_Vl_compare (gRm (d + 1)) false (kkI X k) false 87 [.val (gR G v), .val (gI x1), .val (gR G r2), .val (gI x3), .unset, .unset, .val (gL v13), .unset, .val (gI 0)] [] X M12 0 0)))))))))) ∧ (¬ M (v + 1) (Int.toNat x1) = M (r2 + 1) (Int.toNat x3) → (k (w32 ((M (v + 1) (Int.toNat x1)) - (M (r2 + 1) (Int.toNat x3)))) M)))))) ∧ (M (r2 + 1) (Int.toNat x3) = 0 → ((M (v + 1) (Int.toNat x1) = M (v + 1) (Int.toNat x1) → ((¬ M (v + 1) (Int.toNat x1) = 2 → (((0 : Int) ≤ x1 ∧ x1 < (n : Int)) ∧ (g64 (M (v + 2) (Int.toNat x1)) → (((0 : Int) ≤ x3 ∧ x3 < (n2 : Int)) ∧ (g64 (M (r2 + 2) (Int.toNat x3)) → (cI l G y_jLong_compare (gRm d) false [gL (M (v + 2) (Int.toNat x1)), gL (M (r2 + 2) (Int.toNat x3))] X M (fun v20 M19 => (k v20 M19)))))))) ∧ (M (v + 1) (Int.toNat x1) = 2 → (((0 : Int) ≤ x1 ∧ x1 < (n : Int)) ∧ (g64 (M (v + 2) (Int.toNat x1)) → (((0 : Int) ≤ x3 ∧ x3 < (n2 : Int)) ∧ (g64 (M (r2 + 2) (Int.toNat x3)) → (cL l G y_jMath_min_2 (gRm d) false [gL (M (v + 2) (Int.toNat x1)), gL (M (r2 + 2) (Int.toNat x3))] X M (fun v25 M24 => (wp l G y_Vl_compare (gRm (d + 1)) false (kkI X k) false 87 [.val (gR G v), .val (gI x1), .val (gR G r2), .val (gI x3), .unset, .unset, .val (gL v25), .unset, .val (gI 0)] [] X M24 0 0)))))))))) ∧ (¬ M (v + 1) (Int.toNat x1) = M (v + 1) (Int.toNat x1) → (k (w32 ((M (v + 1) (Int.toNat x1)) - (M (v + 1) (Int.toNat x1)))) M)))))))))) ∧ (M (v + 1) (Int.toNat x1) = 0 → (((0 : Int) ≤ x3 ∧ x3 < (n2 : Int)) ∧ (g32 (M (r2 + 1) (Int.toNat x3)) → (((0 : Int) ≤ x3 ∧ x3 < (n2 : Int)) ∧ (g32 (M (r2 + 1) (Int.toNat x3)) → ((¬ M (r2 + 1) (Int.toNat x3) = 0 → (((0 : Int) ≤ x3 ∧ x3 < (n2 : Int)) ∧ (g32 (M (r2 + 1) (Int.toNat x3)) → ((M (r2 + 1) (Int.toNat x3) = M (r2 + 1) (Int.toNat x3) → ((¬ M (r2 + 1) (Int.toNat x3) = 2 → (((0 : Int) ≤ x1 ∧ x1 < (n : Int)) ∧ (g64 (M (v + 2) (Int.toNat x1)) → (((0 : Int) ≤ x3 ∧ x3 < (n2 : Int)) ∧ (g64 (M (r2 + 2) (Int.toNat x3)) → (cI l G y_jLong_compare (gRm d) false [gL (M (v + 2) (Int.toNat x1)), gL (M (r2 + 2) (Int.toNat x3))] X M (fun v36 M35 => (k v36 M35)))))))) ∧ (M (r2 + 1) (Int.toNat x3) = 2 → (((0 : Int) ≤ x1 ∧ x1 < (n : Int)) ∧ (g64 (M (v + 2) (Int.toNat x1)) → (((0 : Int) ≤ x3 ∧ x3 < (n2 : Int)) ∧ (g64 (M (r2 + 2) (Int.toNat x3)) → (cL l G y_jMath_min_2 (gRm d) false [gL (M (v + 2) (Int.toNat x1)), gL (M (r2 + 2) (Int.toNat x3))] X M (fun v41 M40 => (wp l G y_Vl_compare (gRm (d + 1)) false (kkI X k) false 87 [.val (gR G v), .val (gI x1), .val (gR G r2), .val (gI x3), .unset, .unset, .val (gL v41), .unset, .val (gI 0)] [] X M40 0 0)))))))))) ∧ (¬ M (r2 + 1) (Int.toNat x3) = M (r2 + 1) (Int.toNat x3) → (k (w32 ((M (r2 + 1) (Int.toNat x3)) - (M (r2 + 1) (Int.toNat x3)))) M)))))) ∧ (M (r2 + 1) (Int.toNat x3) = 0 → ((M (r2 + 1) (Int.toNat x3) = M (r2 + 1) (Int.toNat x3) → ((¬ M (r2 + 1) (Int.toNat x3) = 2 → (((0 : Int) ≤ x1 ∧ x1 < (n : Int)) ∧ (g64 (M (v + 2) (Int.toNat x1)) → (((0 : Int) ≤ x3 ∧ x3 < (n2 : Int)) ∧ (g64 (M (r2 + 2) (Int.toNat x3)) → (cI l G y_jLong_compare (gRm d) false [gL (M (v + 2) (Int.toNat x1)), gL (M (r2 + 2) (Int.toNat x3))] X M (fun v48 M47 => (k v48 M47)))))))) ∧ (M (r2 + 1) (Int.toNat x3) = 2 → (((0 : Int) ≤ x1 ∧ x1 < (n : Int)) ∧ (g64 (M (v + 2) (Int.toNat x1)) → (((0 : Int) ≤ x3 ∧ x3 < (n2 : Int)) ∧ (g64 (M (r2 + 2) (Int.toNat x3)) → (cL l G y_jMath_min_2 (gRm d) false [gL (M (v + 2) (Int.toNat x1)), gL (M (r2 + 2) (Int.toNat x3))] X M (fun v53 M52 => (wp l G y_Vl_compare (gRm (d + 1)) false (kkI X k) false 87 [.val (gR G v), .val (gI x1), .val (gR G r2), .val (gI x3), .unset, .unset, .val (gL v53), .unset, .val (gI 0)] [] X M52 0 0)))))))))) ∧ (¬ M (r2 + 1) (Int.toNat x3) = M (r2 + 1) (Int.toNat x3) → (k (w32 ((M (r2 + 1) (Int.toNat x3)) - (M (r2 + 1) (Int.toNat x3)))) M))))))))))))) : wp l G y_Vl_compare (gRm (d + 1)) false (kkI X k) false 0 [.val (gR G v), .val (gI x1), .val (gR G r2), .val (gI x3), .unset, .unset, .unset, .unset, .unset] [] X M 0 0 := by
  refine wp_aload_n d_Vl_compare_0 rfl rfl (g_nz hV.1) ?_
  refine xgetR d_Vl_compare_1 gc_Vl f_Vl_9.1 f_Vl_9.2.1 f_Vl_9.2.2.1 hV.1 (gv_2 hV) hV.2.2.1 f_Vl_9.2.2.2.2.1 (gv_r1 hV).1 ?_
  refine wp_iload_n d_Vl_compare_4 rfl rfl ?_
  refine wp_iaload d_Vl_compare_5 (gv_r1 hV).2.2.1 (gv_r1 hV).2.2.2 (gv_r1 hV).2.1 (g32_n T.1 (gv_n hV)) T.1.1 T.1.2 (fun h1 => ?_)
  have T := T.2 h1
  refine xz_ne (tgt := 18) d_Vl_compare_6 (by decide) (w32_id h1) (fun h58 => ?_) (fun h58 => ?_)
  · have T := T.1 h58
    refine wp_aload_n d_Vl_compare_18 rfl rfl (g_nz hV.1) ?_
    refine xgetR d_Vl_compare_19 gc_Vl f_Vl_9.1 f_Vl_9.2.1 f_Vl_9.2.2.1 hV.1 (gv_2 hV) hV.2.2.1 f_Vl_9.2.2.2.2.1 (gv_r1 hV).1 ?_
    refine wp_iload_n d_Vl_compare_22 rfl rfl ?_
    refine wp_iaload d_Vl_compare_23 (gv_r1 hV).2.2.1 (gv_r1 hV).2.2.2 (gv_r1 hV).2.1 (g32_n T.1 (gv_n hV)) T.1.1 T.1.2 (fun h2 => ?_)
    have T := T.2 h2
    refine wp_istore (L' := [.val (gR G v), .val (gI x1), .val (gR G r2), .val (gI x3), .val (gI (M (v + 1) (Int.toNat x1))), .unset, .unset, .unset, .unset]) d_Vl_compare_24 (by decide) rfl ?_
    refine wp_aload_n d_Vl_compare_26 rfl rfl (g_nz hr2.1) ?_
    refine xgetR d_Vl_compare_27 gc_Vl f_Vl_9.1 f_Vl_9.2.1 f_Vl_9.2.2.1 hr2.1 (gv_2 hr2) hr2.2.2.1 f_Vl_9.2.2.2.2.1 (gv_r1 hr2).1 ?_
    refine wp_iload_n d_Vl_compare_30 rfl rfl ?_
    refine wp_iaload d_Vl_compare_31 (gv_r1 hr2).2.2.1 (gv_r1 hr2).2.2.2 (gv_r1 hr2).2.1 (g32_n T.1 (gv_n hr2)) T.1.1 T.1.2 (fun h3 => ?_)
    have T := T.2 h3
    refine xz_ne (tgt := 40) d_Vl_compare_32 (by decide) (w32_id h3) (fun h29 => ?_) (fun h29 => ?_)
    · have T := T.1 h29
      refine wp_aload_n d_Vl_compare_40 rfl rfl (g_nz hr2.1) ?_
      refine xgetR d_Vl_compare_41 gc_Vl f_Vl_9.1 f_Vl_9.2.1 f_Vl_9.2.2.1 hr2.1 (gv_2 hr2) hr2.2.2.1 f_Vl_9.2.2.2.2.1 (gv_r1 hr2).1 ?_
      refine wp_iload_n d_Vl_compare_44 rfl rfl ?_
      refine wp_iaload d_Vl_compare_45 (gv_r1 hr2).2.2.1 (gv_r1 hr2).2.2.2 (gv_r1 hr2).2.1 (g32_n T.1 (gv_n hr2)) T.1.1 T.1.2 (fun h4 => ?_)
      have T := T.2 h4
      refine wp_istore (L' := [.val (gR G v), .val (gI x1), .val (gR G r2), .val (gI x3), .val (gI (M (v + 1) (Int.toNat x1))), .val (gI (M (r2 + 1) (Int.toNat x3))), .unset, .unset, .unset]) d_Vl_compare_46 (by decide) rfl ?_
      refine wp_iload d_Vl_compare_48 rfl ?_
      refine wp_iload d_Vl_compare_50 rfl ?_
      refine xi_eq (tgt := 61) d_Vl_compare_52 (by decide) (w32_id h2) (w32_id h4) (fun h16 => ?_) (fun h16 => ?_)
      · have T := T.1 h16
        refine wp_iload d_Vl_compare_61 rfl ?_
        refine wp_iconst d_Vl_compare_63 ?_
        refine xi_ne (tgt := 143) d_Vl_compare_64 (by decide) (w32_id h2) (w32_id (g32_c (x := 2) rfl)) (fun h15 => ?_) (fun h15 => ?_)
        · have T := T.1 h15
          refine wp_aload_n d_Vl_compare_143 rfl rfl (g_nz hV.1) ?_
          refine xgetR d_Vl_compare_144 gc_Vl f_Vl_15.1 f_Vl_15.2.1 f_Vl_15.2.2.1 hV.1 (gv_2 hV) hV.2.2.1 f_Vl_15.2.2.2.2.1 (gv_r2 hV).1 ?_
          refine wp_iload_n d_Vl_compare_147 rfl rfl ?_
          refine wp_laload d_Vl_compare_148 (gv_r2 hV).2.2.1 (gv_r2 hV).2.2.2 (gv_r2 hV).2.1 (g32_n T.1 (gv_n hV)) T.1.1 T.1.2 (fun h5 => ?_)
          have T := T.2 h5
          refine wp_aload_n d_Vl_compare_149 rfl rfl (g_nz hr2.1) ?_
          refine xgetR d_Vl_compare_150 gc_Vl f_Vl_15.1 f_Vl_15.2.1 f_Vl_15.2.2.1 hr2.1 (gv_2 hr2) hr2.2.2.1 f_Vl_15.2.2.2.2.1 (gv_r2 hr2).1 ?_
          refine wp_iload_n d_Vl_compare_153 rfl rfl ?_
          refine wp_laload d_Vl_compare_154 (gv_r2 hr2).2.2.1 (gv_r2 hr2).2.2.2 (gv_r2 hr2).2.1 (g32_n T.1 (gv_n hr2)) T.1.1 T.1.2 (fun h6 => ?_)
          have T := T.2 h6
          refine xcS_I (md' := false) (As := [gL (M (v + 2) (Int.toNat x1)), gL (M (r2 + 2) (Int.toNat x3))]) (st := []) d_Vl_compare_155 ca_jLong_compare ml_Vl_44 sm_jLong_compare rfl (by decide) (by decide) rfl id id T (fun v8 M7 h9 T => ?_)
          exact wp_ireturn d_Vl_compare_158 rfl id (Nat.zero_le _) (Nat.zero_le _) (kI_mk h9 T)
        · have T := T.2 h15
          refine wp_aload_n d_Vl_compare_67 rfl rfl (g_nz hV.1) ?_
          refine xgetR d_Vl_compare_68 gc_Vl f_Vl_15.1 f_Vl_15.2.1 f_Vl_15.2.2.1 hV.1 (gv_2 hV) hV.2.2.1 f_Vl_15.2.2.2.2.1 (gv_r2 hV).1 ?_
          refine wp_iload_n d_Vl_compare_71 rfl rfl ?_
          refine wp_laload d_Vl_compare_72 (gv_r2 hV).2.2.1 (gv_r2 hV).2.2.2 (gv_r2 hV).2.1 (g32_n T.1 (gv_n hV)) T.1.1 T.1.2 (fun h10 => ?_)
          have T := T.2 h10
          refine wp_aload_n d_Vl_compare_73 rfl rfl (g_nz hr2.1) ?_
          refine xgetR d_Vl_compare_74 gc_Vl f_Vl_15.1 f_Vl_15.2.1 f_Vl_15.2.2.1 hr2.1 (gv_2 hr2) hr2.2.2.1 f_Vl_15.2.2.2.2.1 (gv_r2 hr2).1 ?_
          refine wp_iload_n d_Vl_compare_77 rfl rfl ?_
          refine wp_laload d_Vl_compare_78 (gv_r2 hr2).2.2.1 (gv_r2 hr2).2.2.2 (gv_r2 hr2).2.1 (g32_n T.1 (gv_n hr2)) T.1.1 T.1.2 (fun h11 => ?_)
          have T := T.2 h11
          refine xcS_L (md' := false) (As := [gL (M (v + 2) (Int.toNat x1)), gL (M (r2 + 2) (Int.toNat x3))]) (st := []) d_Vl_compare_79 ca_jMath_min_2 ml_Vl_38 sm_jMath_min_2 rfl (by decide) (by decide) rfl id id T (fun v13 M12 h14 T => ?_)
          refine wp_lstore (L' := [.val (gR G v), .val (gI x1), .val (gR G r2), .val (gI x3), .val (gI (M (v + 1) (Int.toNat x1))), .val (gI (M (r2 + 1) (Int.toNat x3))), .val (gL v13), .unset, .unset]) d_Vl_compare_82 (by decide) rfl ?_
          refine wp_iconst d_Vl_compare_84 ?_
          refine wp_istore (L' := [.val (gR G v), .val (gI x1), .val (gR G r2), .val (gI x3), .val (gI (M (v + 1) (Int.toNat x1))), .val (gI (M (r2 + 1) (Int.toNat x3))), .val (gL v13), .unset, .val (gI 0)]) d_Vl_compare_85 (by decide) rfl ?_
          exact (wpt T (And.intro rfl (And.intro rfl (And.intro rfl (And.intro rfl (And.intro rfl (And.intro rfl True.intro)))))))
      · have T := T.2 h16
        refine wp_iload d_Vl_compare_55 rfl ?_
        refine wp_iload d_Vl_compare_57 rfl ?_
        refine wp_isub d_Vl_compare_59 ?_
        exact wp_st (st' := [gI (w32 ((M (v + 1) (Int.toNat x1)) - (M (r2 + 1) (Int.toNat x3))))]) (by rw [gI_w]) (wp_ireturn d_Vl_compare_60 rfl id (Nat.zero_le _) (Nat.zero_le _) (kI_mk (w32_ok _) T))
    · have T := T.2 h29
      refine wp_iload d_Vl_compare_35 rfl ?_
      refine wp_goto (tgt := 46) d_Vl_compare_37 (by decide) ?_
      refine wp_istore (L' := [.val (gR G v), .val (gI x1), .val (gR G r2), .val (gI x3), .val (gI (M (v + 1) (Int.toNat x1))), .val (gI (M (v + 1) (Int.toNat x1))), .unset, .unset, .unset]) d_Vl_compare_46 (by decide) rfl ?_
      refine wp_iload d_Vl_compare_48 rfl ?_
      refine wp_iload d_Vl_compare_50 rfl ?_
      refine xi_eq (tgt := 61) d_Vl_compare_52 (by decide) (w32_id h2) (w32_id h2) (fun h28 => ?_) (fun h28 => ?_)
      · have T := T.1 h28
        refine wp_iload d_Vl_compare_61 rfl ?_
        refine wp_iconst d_Vl_compare_63 ?_
        refine xi_ne (tgt := 143) d_Vl_compare_64 (by decide) (w32_id h2) (w32_id (g32_c (x := 2) rfl)) (fun h27 => ?_) (fun h27 => ?_)
        · have T := T.1 h27
          refine wp_aload_n d_Vl_compare_143 rfl rfl (g_nz hV.1) ?_
          refine xgetR d_Vl_compare_144 gc_Vl f_Vl_15.1 f_Vl_15.2.1 f_Vl_15.2.2.1 hV.1 (gv_2 hV) hV.2.2.1 f_Vl_15.2.2.2.2.1 (gv_r2 hV).1 ?_
          refine wp_iload_n d_Vl_compare_147 rfl rfl ?_
          refine wp_laload d_Vl_compare_148 (gv_r2 hV).2.2.1 (gv_r2 hV).2.2.2 (gv_r2 hV).2.1 (g32_n T.1 (gv_n hV)) T.1.1 T.1.2 (fun h17 => ?_)
          have T := T.2 h17
          refine wp_aload_n d_Vl_compare_149 rfl rfl (g_nz hr2.1) ?_
          refine xgetR d_Vl_compare_150 gc_Vl f_Vl_15.1 f_Vl_15.2.1 f_Vl_15.2.2.1 hr2.1 (gv_2 hr2) hr2.2.2.1 f_Vl_15.2.2.2.2.1 (gv_r2 hr2).1 ?_
          refine wp_iload_n d_Vl_compare_153 rfl rfl ?_
          refine wp_laload d_Vl_compare_154 (gv_r2 hr2).2.2.1 (gv_r2 hr2).2.2.2 (gv_r2 hr2).2.1 (g32_n T.1 (gv_n hr2)) T.1.1 T.1.2 (fun h18 => ?_)
          have T := T.2 h18
          refine xcS_I (md' := false) (As := [gL (M (v + 2) (Int.toNat x1)), gL (M (r2 + 2) (Int.toNat x3))]) (st := []) d_Vl_compare_155 ca_jLong_compare ml_Vl_44 sm_jLong_compare rfl (by decide) (by decide) rfl id id T (fun v20 M19 h21 T => ?_)
          exact wp_ireturn d_Vl_compare_158 rfl id (Nat.zero_le _) (Nat.zero_le _) (kI_mk h21 T)
        · have T := T.2 h27
          refine wp_aload_n d_Vl_compare_67 rfl rfl (g_nz hV.1) ?_
          refine xgetR d_Vl_compare_68 gc_Vl f_Vl_15.1 f_Vl_15.2.1 f_Vl_15.2.2.1 hV.1 (gv_2 hV) hV.2.2.1 f_Vl_15.2.2.2.2.1 (gv_r2 hV).1 ?_
          refine wp_iload_n d_Vl_compare_71 rfl rfl ?_
          refine wp_laload d_Vl_compare_72 (gv_r2 hV).2.2.1 (gv_r2 hV).2.2.2 (gv_r2 hV).2.1 (g32_n T.1 (gv_n hV)) T.1.1 T.1.2 (fun h22 => ?_)
          have T := T.2 h22
          refine wp_aload_n d_Vl_compare_73 rfl rfl (g_nz hr2.1) ?_
          refine xgetR d_Vl_compare_74 gc_Vl f_Vl_15.1 f_Vl_15.2.1 f_Vl_15.2.2.1 hr2.1 (gv_2 hr2) hr2.2.2.1 f_Vl_15.2.2.2.2.1 (gv_r2 hr2).1 ?_
          refine wp_iload_n d_Vl_compare_77 rfl rfl ?_
          refine wp_laload d_Vl_compare_78 (gv_r2 hr2).2.2.1 (gv_r2 hr2).2.2.2 (gv_r2 hr2).2.1 (g32_n T.1 (gv_n hr2)) T.1.1 T.1.2 (fun h23 => ?_)
          have T := T.2 h23
          refine xcS_L (md' := false) (As := [gL (M (v + 2) (Int.toNat x1)), gL (M (r2 + 2) (Int.toNat x3))]) (st := []) d_Vl_compare_79 ca_jMath_min_2 ml_Vl_38 sm_jMath_min_2 rfl (by decide) (by decide) rfl id id T (fun v25 M24 h26 T => ?_)
          refine wp_lstore (L' := [.val (gR G v), .val (gI x1), .val (gR G r2), .val (gI x3), .val (gI (M (v + 1) (Int.toNat x1))), .val (gI (M (v + 1) (Int.toNat x1))), .val (gL v25), .unset, .unset]) d_Vl_compare_82 (by decide) rfl ?_
          refine wp_iconst d_Vl_compare_84 ?_
          refine wp_istore (L' := [.val (gR G v), .val (gI x1), .val (gR G r2), .val (gI x3), .val (gI (M (v + 1) (Int.toNat x1))), .val (gI (M (v + 1) (Int.toNat x1))), .val (gL v25), .unset, .val (gI 0)]) d_Vl_compare_85 (by decide) rfl ?_
          exact (wpt T (And.intro rfl (And.intro rfl (And.intro rfl (And.intro rfl (And.intro rfl (And.intro rfl True.intro)))))))
      · have T := T.2 h28
        refine wp_iload d_Vl_compare_55 rfl ?_
        refine wp_iload d_Vl_compare_57 rfl ?_
        refine wp_isub d_Vl_compare_59 ?_
        exact wp_st (st' := [gI (w32 ((M (v + 1) (Int.toNat x1)) - (M (v + 1) (Int.toNat x1))))]) (by rw [gI_w]) (wp_ireturn d_Vl_compare_60 rfl id (Nat.zero_le _) (Nat.zero_le _) (kI_mk (w32_ok _) T))
  · have T := T.2 h58
    refine wp_aload_n d_Vl_compare_9 rfl rfl (g_nz hr2.1) ?_
    refine xgetR d_Vl_compare_10 gc_Vl f_Vl_9.1 f_Vl_9.2.1 f_Vl_9.2.2.1 hr2.1 (gv_2 hr2) hr2.2.2.1 f_Vl_9.2.2.2.2.1 (gv_r1 hr2).1 ?_
    refine wp_iload_n d_Vl_compare_13 rfl rfl ?_
    refine wp_iaload d_Vl_compare_14 (gv_r1 hr2).2.2.1 (gv_r1 hr2).2.2.2 (gv_r1 hr2).2.1 (g32_n T.1 (gv_n hr2)) T.1.1 T.1.2 (fun h30 => ?_)
    have T := T.2 h30
    refine wp_goto (tgt := 24) d_Vl_compare_15 (by decide) ?_
    refine wp_istore (L' := [.val (gR G v), .val (gI x1), .val (gR G r2), .val (gI x3), .val (gI (M (r2 + 1) (Int.toNat x3))), .unset, .unset, .unset, .unset]) d_Vl_compare_24 (by decide) rfl ?_
    refine wp_aload_n d_Vl_compare_26 rfl rfl (g_nz hr2.1) ?_
    refine xgetR d_Vl_compare_27 gc_Vl f_Vl_9.1 f_Vl_9.2.1 f_Vl_9.2.2.1 hr2.1 (gv_2 hr2) hr2.2.2.1 f_Vl_9.2.2.2.2.1 (gv_r1 hr2).1 ?_
    refine wp_iload_n d_Vl_compare_30 rfl rfl ?_
    refine wp_iaload d_Vl_compare_31 (gv_r1 hr2).2.2.1 (gv_r1 hr2).2.2.2 (gv_r1 hr2).2.1 (g32_n T.1 (gv_n hr2)) T.1.1 T.1.2 (fun h31 => ?_)
    have T := T.2 h31
    refine xz_ne (tgt := 40) d_Vl_compare_32 (by decide) (w32_id h31) (fun h57 => ?_) (fun h57 => ?_)
    · have T := T.1 h57
      refine wp_aload_n d_Vl_compare_40 rfl rfl (g_nz hr2.1) ?_
      refine xgetR d_Vl_compare_41 gc_Vl f_Vl_9.1 f_Vl_9.2.1 f_Vl_9.2.2.1 hr2.1 (gv_2 hr2) hr2.2.2.1 f_Vl_9.2.2.2.2.1 (gv_r1 hr2).1 ?_
      refine wp_iload_n d_Vl_compare_44 rfl rfl ?_
      refine wp_iaload d_Vl_compare_45 (gv_r1 hr2).2.2.1 (gv_r1 hr2).2.2.2 (gv_r1 hr2).2.1 (g32_n T.1 (gv_n hr2)) T.1.1 T.1.2 (fun h32 => ?_)
      have T := T.2 h32
      refine wp_istore (L' := [.val (gR G v), .val (gI x1), .val (gR G r2), .val (gI x3), .val (gI (M (r2 + 1) (Int.toNat x3))), .val (gI (M (r2 + 1) (Int.toNat x3))), .unset, .unset, .unset]) d_Vl_compare_46 (by decide) rfl ?_
      refine wp_iload d_Vl_compare_48 rfl ?_
      refine wp_iload d_Vl_compare_50 rfl ?_
      refine xi_eq (tgt := 61) d_Vl_compare_52 (by decide) (w32_id h30) (w32_id h32) (fun h44 => ?_) (fun h44 => ?_)
      · have T := T.1 h44
        refine wp_iload d_Vl_compare_61 rfl ?_
        refine wp_iconst d_Vl_compare_63 ?_
        refine xi_ne (tgt := 143) d_Vl_compare_64 (by decide) (w32_id h30) (w32_id (g32_c (x := 2) rfl)) (fun h43 => ?_) (fun h43 => ?_)
        · have T := T.1 h43
          refine wp_aload_n d_Vl_compare_143 rfl rfl (g_nz hV.1) ?_
          refine xgetR d_Vl_compare_144 gc_Vl f_Vl_15.1 f_Vl_15.2.1 f_Vl_15.2.2.1 hV.1 (gv_2 hV) hV.2.2.1 f_Vl_15.2.2.2.2.1 (gv_r2 hV).1 ?_
          refine wp_iload_n d_Vl_compare_147 rfl rfl ?_
          refine wp_laload d_Vl_compare_148 (gv_r2 hV).2.2.1 (gv_r2 hV).2.2.2 (gv_r2 hV).2.1 (g32_n T.1 (gv_n hV)) T.1.1 T.1.2 (fun h33 => ?_)
          have T := T.2 h33
          refine wp_aload_n d_Vl_compare_149 rfl rfl (g_nz hr2.1) ?_
          refine xgetR d_Vl_compare_150 gc_Vl f_Vl_15.1 f_Vl_15.2.1 f_Vl_15.2.2.1 hr2.1 (gv_2 hr2) hr2.2.2.1 f_Vl_15.2.2.2.2.1 (gv_r2 hr2).1 ?_
          refine wp_iload_n d_Vl_compare_153 rfl rfl ?_
          refine wp_laload d_Vl_compare_154 (gv_r2 hr2).2.2.1 (gv_r2 hr2).2.2.2 (gv_r2 hr2).2.1 (g32_n T.1 (gv_n hr2)) T.1.1 T.1.2 (fun h34 => ?_)
          have T := T.2 h34
          refine xcS_I (md' := false) (As := [gL (M (v + 2) (Int.toNat x1)), gL (M (r2 + 2) (Int.toNat x3))]) (st := []) d_Vl_compare_155 ca_jLong_compare ml_Vl_44 sm_jLong_compare rfl (by decide) (by decide) rfl id id T (fun v36 M35 h37 T => ?_)
          exact wp_ireturn d_Vl_compare_158 rfl id (Nat.zero_le _) (Nat.zero_le _) (kI_mk h37 T)
        · have T := T.2 h43
          refine wp_aload_n d_Vl_compare_67 rfl rfl (g_nz hV.1) ?_
          refine xgetR d_Vl_compare_68 gc_Vl f_Vl_15.1 f_Vl_15.2.1 f_Vl_15.2.2.1 hV.1 (gv_2 hV) hV.2.2.1 f_Vl_15.2.2.2.2.1 (gv_r2 hV).1 ?_
          refine wp_iload_n d_Vl_compare_71 rfl rfl ?_
          refine wp_laload d_Vl_compare_72 (gv_r2 hV).2.2.1 (gv_r2 hV).2.2.2 (gv_r2 hV).2.1 (g32_n T.1 (gv_n hV)) T.1.1 T.1.2 (fun h38 => ?_)
          have T := T.2 h38
          refine wp_aload_n d_Vl_compare_73 rfl rfl (g_nz hr2.1) ?_
          refine xgetR d_Vl_compare_74 gc_Vl f_Vl_15.1 f_Vl_15.2.1 f_Vl_15.2.2.1 hr2.1 (gv_2 hr2) hr2.2.2.1 f_Vl_15.2.2.2.2.1 (gv_r2 hr2).1 ?_
          refine wp_iload_n d_Vl_compare_77 rfl rfl ?_
          refine wp_laload d_Vl_compare_78 (gv_r2 hr2).2.2.1 (gv_r2 hr2).2.2.2 (gv_r2 hr2).2.1 (g32_n T.1 (gv_n hr2)) T.1.1 T.1.2 (fun h39 => ?_)
          have T := T.2 h39
          refine xcS_L (md' := false) (As := [gL (M (v + 2) (Int.toNat x1)), gL (M (r2 + 2) (Int.toNat x3))]) (st := []) d_Vl_compare_79 ca_jMath_min_2 ml_Vl_38 sm_jMath_min_2 rfl (by decide) (by decide) rfl id id T (fun v41 M40 h42 T => ?_)
          refine wp_lstore (L' := [.val (gR G v), .val (gI x1), .val (gR G r2), .val (gI x3), .val (gI (M (r2 + 1) (Int.toNat x3))), .val (gI (M (r2 + 1) (Int.toNat x3))), .val (gL v41), .unset, .unset]) d_Vl_compare_82 (by decide) rfl ?_
          refine wp_iconst d_Vl_compare_84 ?_
          refine wp_istore (L' := [.val (gR G v), .val (gI x1), .val (gR G r2), .val (gI x3), .val (gI (M (r2 + 1) (Int.toNat x3))), .val (gI (M (r2 + 1) (Int.toNat x3))), .val (gL v41), .unset, .val (gI 0)]) d_Vl_compare_85 (by decide) rfl ?_
          exact (wpt T (And.intro rfl (And.intro rfl (And.intro rfl (And.intro rfl (And.intro rfl (And.intro rfl True.intro)))))))
      · have T := T.2 h44
        refine wp_iload d_Vl_compare_55 rfl ?_
        refine wp_iload d_Vl_compare_57 rfl ?_
        refine wp_isub d_Vl_compare_59 ?_
        exact wp_st (st' := [gI (w32 ((M (r2 + 1) (Int.toNat x3)) - (M (r2 + 1) (Int.toNat x3))))]) (by rw [gI_w]) (wp_ireturn d_Vl_compare_60 rfl id (Nat.zero_le _) (Nat.zero_le _) (kI_mk (w32_ok _) T))
    · have T := T.2 h57
      refine wp_iload d_Vl_compare_35 rfl ?_
      refine wp_goto (tgt := 46) d_Vl_compare_37 (by decide) ?_
      refine wp_istore (L' := [.val (gR G v), .val (gI x1), .val (gR G r2), .val (gI x3), .val (gI (M (r2 + 1) (Int.toNat x3))), .val (gI (M (r2 + 1) (Int.toNat x3))), .unset, .unset, .unset]) d_Vl_compare_46 (by decide) rfl ?_
      refine wp_iload d_Vl_compare_48 rfl ?_
      refine wp_iload d_Vl_compare_50 rfl ?_
      refine xi_eq (tgt := 61) d_Vl_compare_52 (by decide) (w32_id h30) (w32_id h30) (fun h56 => ?_) (fun h56 => ?_)
      · have T := T.1 h56
        refine wp_iload d_Vl_compare_61 rfl ?_
        refine wp_iconst d_Vl_compare_63 ?_
        refine xi_ne (tgt := 143) d_Vl_compare_64 (by decide) (w32_id h30) (w32_id (g32_c (x := 2) rfl)) (fun h55 => ?_) (fun h55 => ?_)
        · have T := T.1 h55
          refine wp_aload_n d_Vl_compare_143 rfl rfl (g_nz hV.1) ?_
          refine xgetR d_Vl_compare_144 gc_Vl f_Vl_15.1 f_Vl_15.2.1 f_Vl_15.2.2.1 hV.1 (gv_2 hV) hV.2.2.1 f_Vl_15.2.2.2.2.1 (gv_r2 hV).1 ?_
          refine wp_iload_n d_Vl_compare_147 rfl rfl ?_
          refine wp_laload d_Vl_compare_148 (gv_r2 hV).2.2.1 (gv_r2 hV).2.2.2 (gv_r2 hV).2.1 (g32_n T.1 (gv_n hV)) T.1.1 T.1.2 (fun h45 => ?_)
          have T := T.2 h45
          refine wp_aload_n d_Vl_compare_149 rfl rfl (g_nz hr2.1) ?_
          refine xgetR d_Vl_compare_150 gc_Vl f_Vl_15.1 f_Vl_15.2.1 f_Vl_15.2.2.1 hr2.1 (gv_2 hr2) hr2.2.2.1 f_Vl_15.2.2.2.2.1 (gv_r2 hr2).1 ?_
          refine wp_iload_n d_Vl_compare_153 rfl rfl ?_
          refine wp_laload d_Vl_compare_154 (gv_r2 hr2).2.2.1 (gv_r2 hr2).2.2.2 (gv_r2 hr2).2.1 (g32_n T.1 (gv_n hr2)) T.1.1 T.1.2 (fun h46 => ?_)
          have T := T.2 h46
          refine xcS_I (md' := false) (As := [gL (M (v + 2) (Int.toNat x1)), gL (M (r2 + 2) (Int.toNat x3))]) (st := []) d_Vl_compare_155 ca_jLong_compare ml_Vl_44 sm_jLong_compare rfl (by decide) (by decide) rfl id id T (fun v48 M47 h49 T => ?_)
          exact wp_ireturn d_Vl_compare_158 rfl id (Nat.zero_le _) (Nat.zero_le _) (kI_mk h49 T)
        · have T := T.2 h55
          refine wp_aload_n d_Vl_compare_67 rfl rfl (g_nz hV.1) ?_
          refine xgetR d_Vl_compare_68 gc_Vl f_Vl_15.1 f_Vl_15.2.1 f_Vl_15.2.2.1 hV.1 (gv_2 hV) hV.2.2.1 f_Vl_15.2.2.2.2.1 (gv_r2 hV).1 ?_
          refine wp_iload_n d_Vl_compare_71 rfl rfl ?_
          refine wp_laload d_Vl_compare_72 (gv_r2 hV).2.2.1 (gv_r2 hV).2.2.2 (gv_r2 hV).2.1 (g32_n T.1 (gv_n hV)) T.1.1 T.1.2 (fun h50 => ?_)
          have T := T.2 h50
          refine wp_aload_n d_Vl_compare_73 rfl rfl (g_nz hr2.1) ?_
          refine xgetR d_Vl_compare_74 gc_Vl f_Vl_15.1 f_Vl_15.2.1 f_Vl_15.2.2.1 hr2.1 (gv_2 hr2) hr2.2.2.1 f_Vl_15.2.2.2.2.1 (gv_r2 hr2).1 ?_
          refine wp_iload_n d_Vl_compare_77 rfl rfl ?_
          refine wp_laload d_Vl_compare_78 (gv_r2 hr2).2.2.1 (gv_r2 hr2).2.2.2 (gv_r2 hr2).2.1 (g32_n T.1 (gv_n hr2)) T.1.1 T.1.2 (fun h51 => ?_)
          have T := T.2 h51
          refine xcS_L (md' := false) (As := [gL (M (v + 2) (Int.toNat x1)), gL (M (r2 + 2) (Int.toNat x3))]) (st := []) d_Vl_compare_79 ca_jMath_min_2 ml_Vl_38 sm_jMath_min_2 rfl (by decide) (by decide) rfl id id T (fun v53 M52 h54 T => ?_)
          refine wp_lstore (L' := [.val (gR G v), .val (gI x1), .val (gR G r2), .val (gI x3), .val (gI (M (r2 + 1) (Int.toNat x3))), .val (gI (M (r2 + 1) (Int.toNat x3))), .val (gL v53), .unset, .unset]) d_Vl_compare_82 (by decide) rfl ?_
          refine wp_iconst d_Vl_compare_84 ?_
          refine wp_istore (L' := [.val (gR G v), .val (gI x1), .val (gR G r2), .val (gI x3), .val (gI (M (r2 + 1) (Int.toNat x3))), .val (gI (M (r2 + 1) (Int.toNat x3))), .val (gL v53), .unset, .val (gI 0)]) d_Vl_compare_85 (by decide) rfl ?_
          exact (wpt T (And.intro rfl (And.intro rfl (And.intro rfl (And.intro rfl (And.intro rfl (And.intro rfl True.intro)))))))
      · have T := T.2 h56
        refine wp_iload d_Vl_compare_55 rfl ?_
        refine wp_iload d_Vl_compare_57 rfl ?_
        refine wp_isub d_Vl_compare_59 ?_
        exact wp_st (st' := [gI (w32 ((M (r2 + 1) (Int.toNat x3)) - (M (r2 + 1) (Int.toNat x3))))]) (by rw [gI_w]) (wp_ireturn d_Vl_compare_60 rfl id (Nat.zero_le _) (Nat.zero_le _) (kI_mk (w32_ok _) T))
set_option maxHeartbeats 4000000 in
theorem w_Vl_compare_87 {l : Launch} {G : gG} {d : Nat} {X : gX} {M : gM} {k : Int → gM → Prop} {v n : Nat} (hV : gvX X v n) {x1 : Int} (hx1 : g32 x1) {x3 : Int} (hx3 : g32 x3) {x6 : Int} (hx6 : g64 x6) {x8 : Int} (hx8 : g32 x8) {r2 n2 : Nat} (hr2 : gvX X r2 n2)  (T : (x6 ≤ x8 → (((0 : Int) ≤ x1 ∧ x1 < (n : Int)) ∧ (g64 (M (v + 2) (Int.toNat x1)) → (((0 : Int) ≤ x3 ∧ x3 < (n2 : Int)) ∧ (g64 (M (r2 + 2) (Int.toNat x3)) → (cI l G y_jLong_compare (gRm d) false [gL (M (v + 2) (Int.toNat x1)), gL (M (r2 + 2) (Int.toNat x3))] X M (fun v62 M61 => (k v62 M61)))))))) ∧ (¬ x6 ≤ x8 → (((0 : Int) ≤ x1 ∧ x1 < (n : Int)) ∧ (((0 : Int) ≤ x8 ∧ x8 < 64) ∧ ((-128 ≤ M (v + 4 + Int.toNat x1) (Int.toNat x8) ∧ M (v + 4 + Int.toNat x1) (Int.toNat x8) < 128) → (((0 : Int) ≤ x3 ∧ x3 < (n2 : Int)) ∧ (((0 : Int) ≤ x8 ∧ x8 < 64) ∧ ((-128 ≤ M (r2 + 4 + Int.toNat x3) (Int.toNat x8) ∧ M (r2 + 4 + Int.toNat x3) (Int.toNat x8) < 128) → ((M (v + 4 + Int.toNat x1) (Int.toNat x8) = M (r2 + 4 + Int.toNat x3) (Int.toNat x8) → (wp l G y_Vl_compare (gRm (d + 1)) false (kkI X k) false 87 [.val (gR G v), .val (gI x1), .val (gR G r2), .val (gI x3), .unset, .unset, .val (gL x6), .unset, .val (gI (w32 (x8 + 1)))] [] X M 0 0)) ∧ (¬ M (v + 4 + Int.toNat x1) (Int.toNat x8) = M (r2 + 4 + Int.toNat x3) (Int.toNat x8) → (((0 : Int) ≤ x1 ∧ x1 < (n : Int)) ∧ (((0 : Int) ≤ x8 ∧ x8 < 64) ∧ ((-128 ≤ M (v + 4 + Int.toNat x1) (Int.toNat x8) ∧ M (v + 4 + Int.toNat x1) (Int.toNat x8) < 128) → (((0 : Int) ≤ x3 ∧ x3 < (n2 : Int)) ∧ (((0 : Int) ≤ x8 ∧ x8 < 64) ∧ ((-128 ≤ M (r2 + 4 + Int.toNat x3) (Int.toNat x8) ∧ M (r2 + 4 + Int.toNat x3) (Int.toNat x8) < 128) → (k (w32 ((M (v + 4 + Int.toNat x1) (Int.toNat x8)) - (M (r2 + 4 + Int.toNat x3) (Int.toNat x8)))) M))))))))))))))))) : wp l G y_Vl_compare (gRm (d + 1)) false (kkI X k) false 87 [.val (gR G v), .val (gI x1), .val (gR G r2), .val (gI x3), .unset, .unset, .val (gL x6), .unset, .val (gI x8)] [] X M 0 0 := by
  refine wp_iload d_Vl_compare_87 rfl ?_
  refine xi2l d_Vl_compare_89 (w32_id hx8) ?_
  refine wp_lload d_Vl_compare_90 rfl ?_
  refine xl_ge (tgt := 143) d_Vl_compare_92 d_Vl_compare_93 (by decide) (w64_id (g64_32 hx8)) (w64_id hx6) (fun h73 => ?_) (fun h73 => ?_)
  · have T := T.1 h73
    refine wp_aload_n d_Vl_compare_143 rfl rfl (g_nz hV.1) ?_
    refine xgetR d_Vl_compare_144 gc_Vl f_Vl_15.1 f_Vl_15.2.1 f_Vl_15.2.2.1 hV.1 (gv_2 hV) hV.2.2.1 f_Vl_15.2.2.2.2.1 (gv_r2 hV).1 ?_
    refine wp_iload_n d_Vl_compare_147 rfl rfl ?_
    refine wp_laload d_Vl_compare_148 (gv_r2 hV).2.2.1 (gv_r2 hV).2.2.2 (gv_r2 hV).2.1 (g32_n T.1 (gv_n hV)) T.1.1 T.1.2 (fun h59 => ?_)
    have T := T.2 h59
    refine wp_aload_n d_Vl_compare_149 rfl rfl (g_nz hr2.1) ?_
    refine xgetR d_Vl_compare_150 gc_Vl f_Vl_15.1 f_Vl_15.2.1 f_Vl_15.2.2.1 hr2.1 (gv_2 hr2) hr2.2.2.1 f_Vl_15.2.2.2.2.1 (gv_r2 hr2).1 ?_
    refine wp_iload_n d_Vl_compare_153 rfl rfl ?_
    refine wp_laload d_Vl_compare_154 (gv_r2 hr2).2.2.1 (gv_r2 hr2).2.2.2 (gv_r2 hr2).2.1 (g32_n T.1 (gv_n hr2)) T.1.1 T.1.2 (fun h60 => ?_)
    have T := T.2 h60
    refine xcS_I (md' := false) (As := [gL (M (v + 2) (Int.toNat x1)), gL (M (r2 + 2) (Int.toNat x3))]) (st := []) d_Vl_compare_155 ca_jLong_compare ml_Vl_44 sm_jLong_compare rfl (by decide) (by decide) rfl id id T (fun v62 M61 h63 T => ?_)
    exact wp_ireturn d_Vl_compare_158 rfl id (Nat.zero_le _) (Nat.zero_le _) (kI_mk h63 T)
  · have T := T.2 h73
    refine wp_aload_n d_Vl_compare_96 rfl rfl (g_nz hV.1) ?_
    refine xgetR d_Vl_compare_97 gc_Vl f_Vl_21.1 f_Vl_21.2.1 f_Vl_21.2.2.1 hV.1 (gv_2 hV) hV.2.2.1 f_Vl_21.2.2.2.2.1 (gv_r3 hV).1 ?_
    refine wp_iload_n d_Vl_compare_100 rfl rfl ?_
    have h64 := T.1
    refine xaald d_Vl_compare_101 (Or.inl rfl) (gv_r3 hV).2.2.1 (gv_r3 hV).2.2.2 (gv_r3 hV).2.1 (g32_n h64 (gv_n hV)) h64.1 h64.2 (gv_row hV h64).1 ?_
    have T := T.2
    refine wp_iload d_Vl_compare_102 rfl ?_
    refine wp_baload d_Vl_compare_104 (gv_row hV h64).2.2.1 (gv_row hV h64).2.2.2 (gv_row hV h64).2.1 (g32_n T.1 (by decide)) T.1.1 T.1.2 (fun h65 => ?_)
    have T := T.2 h65
    refine wp_aload_n d_Vl_compare_105 rfl rfl (g_nz hr2.1) ?_
    refine xgetR d_Vl_compare_106 gc_Vl f_Vl_21.1 f_Vl_21.2.1 f_Vl_21.2.2.1 hr2.1 (gv_2 hr2) hr2.2.2.1 f_Vl_21.2.2.2.2.1 (gv_r3 hr2).1 ?_
    refine wp_iload_n d_Vl_compare_109 rfl rfl ?_
    have h66 := T.1
    refine xaald d_Vl_compare_110 (Or.inl rfl) (gv_r3 hr2).2.2.1 (gv_r3 hr2).2.2.2 (gv_r3 hr2).2.1 (g32_n h66 (gv_n hr2)) h66.1 h66.2 (gv_row hr2 h66).1 ?_
    have T := T.2
    refine wp_iload d_Vl_compare_111 rfl ?_
    refine wp_baload d_Vl_compare_113 (gv_row hr2 h66).2.2.1 (gv_row hr2 h66).2.2.2 (gv_row hr2 h66).2.1 (g32_n T.1 (by decide)) T.1.1 T.1.2 (fun h67 => ?_)
    have T := T.2 h67
    refine xi_eq (tgt := 137) d_Vl_compare_114 (by decide) (w32_id (g32_b h65)) (w32_id (g32_b h67)) (fun h72 => ?_) (fun h72 => ?_)
    · have T := T.1 h72
      refine wp_iinc (L' := [.val (gR G v), .val (gI x1), .val (gR G r2), .val (gI x3), .unset, .unset, .val (gL x6), .unset, .val (gI (x8 + 1))]) d_Vl_compare_137 rfl (by decide) rfl ?_
      refine wp_goto (tgt := 87) d_Vl_compare_140 (by decide) ?_
      exact (wpt T (And.intro rfl (And.intro rfl (And.intro rfl (And.intro rfl (And.intro rfl (And.intro (gI_w _) True.intro)))))))
    · have T := T.2 h72
      refine wp_aload_n d_Vl_compare_117 rfl rfl (g_nz hV.1) ?_
      refine xgetR d_Vl_compare_118 gc_Vl f_Vl_21.1 f_Vl_21.2.1 f_Vl_21.2.2.1 hV.1 (gv_2 hV) hV.2.2.1 f_Vl_21.2.2.2.2.1 (gv_r3 hV).1 ?_
      refine wp_iload_n d_Vl_compare_121 rfl rfl ?_
      have h68 := T.1
      refine xaald d_Vl_compare_122 (Or.inl rfl) (gv_r3 hV).2.2.1 (gv_r3 hV).2.2.2 (gv_r3 hV).2.1 (g32_n h68 (gv_n hV)) h68.1 h68.2 (gv_row hV h68).1 ?_
      have T := T.2
      refine wp_iload d_Vl_compare_123 rfl ?_
      refine wp_baload d_Vl_compare_125 (gv_row hV h68).2.2.1 (gv_row hV h68).2.2.2 (gv_row hV h68).2.1 (g32_n T.1 (by decide)) T.1.1 T.1.2 (fun h69 => ?_)
      have T := T.2 h69
      refine wp_aload_n d_Vl_compare_126 rfl rfl (g_nz hr2.1) ?_
      refine xgetR d_Vl_compare_127 gc_Vl f_Vl_21.1 f_Vl_21.2.1 f_Vl_21.2.2.1 hr2.1 (gv_2 hr2) hr2.2.2.1 f_Vl_21.2.2.2.2.1 (gv_r3 hr2).1 ?_
      refine wp_iload_n d_Vl_compare_130 rfl rfl ?_
      have h70 := T.1
      refine xaald d_Vl_compare_131 (Or.inl rfl) (gv_r3 hr2).2.2.1 (gv_r3 hr2).2.2.2 (gv_r3 hr2).2.1 (g32_n h70 (gv_n hr2)) h70.1 h70.2 (gv_row hr2 h70).1 ?_
      have T := T.2
      refine wp_iload d_Vl_compare_132 rfl ?_
      refine wp_baload d_Vl_compare_134 (gv_row hr2 h70).2.2.1 (gv_row hr2 h70).2.2.2 (gv_row hr2 h70).2.1 (g32_n T.1 (by decide)) T.1.1 T.1.2 (fun h71 => ?_)
      have T := T.2 h71
      refine wp_isub d_Vl_compare_135 ?_
      exact wp_st (st' := [gI (w32 ((M (v + 4 + Int.toNat x1) (Int.toNat x8)) - (M (r2 + 4 + Int.toNat x3) (Int.toNat x8))))]) (by rw [gI_w]) (wp_ireturn d_Vl_compare_136 rfl id (Nat.zero_le _) (Nat.zero_le _) (kI_mk (w32_ok _) T))
theorem e_Vl_compare {l : Launch} {G : gG} {d : Nat} {X : gX} {M : gM} {k : Int → gM → Prop} {v : Nat} {x1 : Int} {r2 : Nat} {x3 : Int} (T : wp l G y_Vl_compare (gRm (d + 1)) false (kkI X k) false 0 [.val (gR G v), .val (gI x1), .val (gR G r2), .val (gI x3), .unset, .unset, .unset, .unset, .unset] [] X M 0 0) : cI l G y_Vl_compare (gRm (d + 1)) false [gR G v, gI x1, gR G r2, gI x3] X M k := cen_I (plainFor_of_name rfl) (by simp only [lg_sl_R, lg_sl_I, lg_sl_L, lg_sl_N, List.length_cons, List.length_nil]; decide) (by unfold gEn; simp only [lg_sl_R, lg_sl_I, lg_sl_L, lg_sl_N]; exact wpt T (And.intro rfl (And.intro rfl (And.intro rfl (And.intro rfl True.intro)))))
theorem d_Vl_turn_0 : decode prog_12_method_8_code 0 = .ok (.iload_n 2, 1) := by decide +kernel
theorem d_Vl_turn_1 : decode prog_12_method_8_code 1 = .ok (.lookupswitch 54 #[(98, 48), (110, 35), (116, 41)], 35) := by decide +kernel
theorem d_Vl_turn_49 : decode prog_12_method_8_code 49 = .ok (.aload_n 0, 1) := by decide +kernel
theorem d_Vl_turn_50 : decode prog_12_method_8_code 50 = .ok (.iload_n 1, 1) := by decide +kernel
theorem d_Vl_turn_51 : decode prog_12_method_8_code 51 = .ok (.invokevirtual 57, 3) := by decide +kernel
theorem d_Vl_turn_54 : decode prog_12_method_8_code 54 = .ok (.ireturn, 1) := by decide +kernel
theorem d_Vl_turn_36 : decode prog_12_method_8_code 36 = .ok (.aload_n 0, 1) := by decide +kernel
theorem d_Vl_turn_37 : decode prog_12_method_8_code 37 = .ok (.iload_n 1, 1) := by decide +kernel
theorem d_Vl_turn_38 : decode prog_12_method_8_code 38 = .ok (.invokevirtual 49, 3) := by decide +kernel
theorem d_Vl_turn_41 : decode prog_12_method_8_code 41 = .ok (.ireturn, 1) := by decide +kernel
theorem d_Vl_turn_42 : decode prog_12_method_8_code 42 = .ok (.aload_n 0, 1) := by decide +kernel
theorem d_Vl_turn_43 : decode prog_12_method_8_code 43 = .ok (.iload_n 1, 1) := by decide +kernel
theorem d_Vl_turn_44 : decode prog_12_method_8_code 44 = .ok (.invokevirtual 53, 3) := by decide +kernel
theorem d_Vl_turn_47 : decode prog_12_method_8_code 47 = .ok (.iconst 1, 1) := by decide +kernel
theorem d_Vl_turn_48 : decode prog_12_method_8_code 48 = .ok (.ireturn, 1) := by decide +kernel
theorem d_Vl_turn_55 : decode prog_12_method_8_code 55 = .ok (.iconst 1, 1) := by decide +kernel
theorem d_Vl_turn_56 : decode prog_12_method_8_code 56 = .ok (.ireturn, 1) := by decide +kernel
set_option maxHeartbeats 4000000 in
theorem w_Vl_turn_0 {l : Launch} {G : gG} {d : Nat} {X : gX} {M : gM} {k : Int → gM → Prop} {v n : Nat} (hV : gvX X v n) {x1 : Int} (hx1 : g32 x1) {x2 : Int} (hx2 : g32 x2)  (T : (x2 = 98 → (cZ l G y_Vl_toTruth (gRm d) true [gR G v, gI x1] X M (fun v2 M1 => (k v2 M1)))) ∧ (x2 = 110 → (cZ l G y_Vl_toNumber (gRm d) true [gR G v, gI x1] X M (fun v5 M4 => (k v5 M4)))) ∧ (x2 = 116 → (cV l G y_Vl_toText (gRm d) true [gR G v, gI x1] X M (fun M7 => (k 1 M7)))) ∧ ((¬ x2 = 98 ∧ ¬ x2 = 110 ∧ ¬ x2 = 116) → (k 1 M))) : wp l G y_Vl_turn (gRm (d + 1)) true (kkZ X k) false 0 [.val (gR G v), .val (gI x1), .val (gI x2)] [] X M 0 0 := by
  refine wp_iload_n d_Vl_turn_0 rfl rfl ?_
  obtain ⟨T0, T1, T2, T3⟩ := T
  by_cases hc0 : x2 = 98
  · refine xlook (off := 48) (tgt := 49) d_Vl_turn_1 (w32_id hx2) rfl (by rw [hc0]; rfl) (by decide) ?_
    have T := T0 hc0
    refine wp_aload_n d_Vl_turn_49 rfl rfl (g_nz hV.1) ?_
    refine wp_iload_n d_Vl_turn_50 rfl rfl ?_
    refine xcV_Z (md' := true) (As := [gI x1]) (st := []) d_Vl_turn_51 ca_Vl_toTruth ml_Vl_57 im_Vl_toTruth se_Vl_toTruth gc_Vl hV.1 (gv_2 hV) hV.2.2.1 rfl (by decide) (by decide) rfl (fun _ => rfl) (fun _ => rfl) T (fun v2 M1 h3 T => ?_)
    exact wp_zreturn d_Vl_turn_54 rfl (g_narz h3) (fun _ => rfl) (Nat.zero_le _) (Nat.zero_le _) (kZ_mk h3 T)
  by_cases hc1 : x2 = 110
  · refine xlook (off := 35) (tgt := 36) d_Vl_turn_1 (w32_id hx2) rfl (by rw [hc1]; rfl) (by decide) ?_
    have T := T1 hc1
    refine wp_aload_n d_Vl_turn_36 rfl rfl (g_nz hV.1) ?_
    refine wp_iload_n d_Vl_turn_37 rfl rfl ?_
    refine xcV_Z (md' := true) (As := [gI x1]) (st := []) d_Vl_turn_38 ca_Vl_toNumber ml_Vl_49 im_Vl_toNumber se_Vl_toNumber gc_Vl hV.1 (gv_2 hV) hV.2.2.1 rfl (by decide) (by decide) rfl (fun _ => rfl) (fun _ => rfl) T (fun v5 M4 h6 T => ?_)
    exact wp_zreturn d_Vl_turn_41 rfl (g_narz h6) (fun _ => rfl) (Nat.zero_le _) (Nat.zero_le _) (kZ_mk h6 T)
  by_cases hc2 : x2 = 116
  · refine xlook (off := 41) (tgt := 42) d_Vl_turn_1 (w32_id hx2) rfl (by rw [hc2]; rfl) (by decide) ?_
    have T := T2 hc2
    refine wp_aload_n d_Vl_turn_42 rfl rfl (g_nz hV.1) ?_
    refine wp_iload_n d_Vl_turn_43 rfl rfl ?_
    refine xcV_V (md' := true) (As := [gI x1]) (st := []) d_Vl_turn_44 ca_Vl_toText ml_Vl_53 im_Vl_toText se_Vl_toText gc_Vl hV.1 (gv_2 hV) hV.2.2.1 rfl (by decide) (by decide) rfl (fun _ => rfl) (fun _ => rfl) T (fun M7 T => ?_)
    refine wp_iconst d_Vl_turn_47 ?_
    exact wp_zreturn d_Vl_turn_48 rfl (g_narz (⟨by decide, by decide⟩ : (0 : Int) ≤ 1 ∧ (1 : Int) ≤ 1)) (fun _ => rfl) (Nat.zero_le _) (Nat.zero_le _) (kZ_mk (⟨by decide, by decide⟩ : (0 : Int) ≤ 1 ∧ (1 : Int) ≤ 1) T)
  refine xlook (off := 54) (tgt := 55) d_Vl_turn_1 (w32_id hx2) rfl (show Op.lookupswitch.offset [(98, 48), (110, 35), (116, 41)] 54 x2 = 54 by simp only [Op.lookupswitch.offset, if_neg (Ne.symm hc0), if_neg (Ne.symm hc1), if_neg (Ne.symm hc2)]) (by decide) ?_
  have T := T3 ⟨hc0, hc1, hc2⟩
  refine wp_iconst d_Vl_turn_55 ?_
  exact wp_zreturn d_Vl_turn_56 rfl (g_narz (⟨by decide, by decide⟩ : (0 : Int) ≤ 1 ∧ (1 : Int) ≤ 1)) (fun _ => rfl) (Nat.zero_le _) (Nat.zero_le _) (kZ_mk (⟨by decide, by decide⟩ : (0 : Int) ≤ 1 ∧ (1 : Int) ≤ 1) T)
theorem e_Vl_turn {l : Launch} {G : gG} {d : Nat} {X : gX} {M : gM} {k : Int → gM → Prop} {v : Nat} {x1 : Int} {x2 : Int} (T : wp l G y_Vl_turn (gRm (d + 1)) true (kkZ X k) false 0 [.val (gR G v), .val (gI x1), .val (gI x2)] [] X M 0 0) : cZ l G y_Vl_turn (gRm (d + 1)) true [gR G v, gI x1, gI x2] X M k := cen_Z (plainFor_of_name rfl) (by simp only [lg_sl_R, lg_sl_I, lg_sl_L, lg_sl_N, List.length_cons, List.length_nil]; decide) (by unfold gEn; simp only [lg_sl_R, lg_sl_I, lg_sl_L, lg_sl_N]; exact wpt T (And.intro rfl (And.intro rfl (And.intro rfl True.intro))))
theorem d_Vl_toNumber_0 : decode prog_12_method_9_code 0 = .ok (.aload_n 0, 1) := by decide +kernel
theorem d_Vl_toNumber_1 : decode prog_12_method_9_code 1 = .ok (.getfield 15, 3) := by decide +kernel
theorem d_Vl_toNumber_4 : decode prog_12_method_9_code 4 = .ok (.iload_n 1, 1) := by decide +kernel
theorem d_Vl_toNumber_5 : decode prog_12_method_9_code 5 = .ok (.laload, 1) := by decide +kernel
theorem d_Vl_toNumber_6 : decode prog_12_method_9_code 6 = .ok (.l2i, 1) := by decide +kernel
theorem d_Vl_toNumber_7 : decode prog_12_method_9_code 7 = .ok (.istore_n 2, 1) := by decide +kernel
theorem d_Vl_toNumber_8 : decode prog_12_method_9_code 8 = .ok (.aload_n 0, 1) := by decide +kernel
theorem d_Vl_toNumber_9 : decode prog_12_method_9_code 9 = .ok (.getfield 9, 3) := by decide +kernel
theorem d_Vl_toNumber_12 : decode prog_12_method_9_code 12 = .ok (.iload_n 1, 1) := by decide +kernel
theorem d_Vl_toNumber_13 : decode prog_12_method_9_code 13 = .ok (.iaload, 1) := by decide +kernel
theorem d_Vl_toNumber_14 : decode prog_12_method_9_code 14 = .ok (.iconst 2, 1) := by decide +kernel
theorem d_Vl_toNumber_15 : decode prog_12_method_9_code 15 = .ok (.if_icmp .ne 36, 3) := by decide +kernel
theorem d_Vl_toNumber_51 : decode prog_12_method_9_code 51 = .ok (.aload_n 0, 1) := by decide +kernel
theorem d_Vl_toNumber_52 : decode prog_12_method_9_code 52 = .ok (.getfield 9, 3) := by decide +kernel
theorem d_Vl_toNumber_55 : decode prog_12_method_9_code 55 = .ok (.iload_n 1, 1) := by decide +kernel
theorem d_Vl_toNumber_56 : decode prog_12_method_9_code 56 = .ok (.iconst 1, 1) := by decide +kernel
theorem d_Vl_toNumber_57 : decode prog_12_method_9_code 57 = .ok (.iastore, 1) := by decide +kernel
theorem d_Vl_toNumber_58 : decode prog_12_method_9_code 58 = .ok (.iconst 1, 1) := by decide +kernel
theorem d_Vl_toNumber_59 : decode prog_12_method_9_code 59 = .ok (.ireturn, 1) := by decide +kernel
theorem d_Vl_toNumber_18 : decode prog_12_method_9_code 18 = .ok (.aload_n 0, 1) := by decide +kernel
theorem d_Vl_toNumber_19 : decode prog_12_method_9_code 19 = .ok (.getfield 21, 3) := by decide +kernel
theorem d_Vl_toNumber_22 : decode prog_12_method_9_code 22 = .ok (.iload_n 1, 1) := by decide +kernel
theorem d_Vl_toNumber_23 : decode prog_12_method_9_code 23 = .ok (.aaload, 1) := by decide +kernel
theorem d_Vl_toNumber_24 : decode prog_12_method_9_code 24 = .ok (.iconst 0, 1) := by decide +kernel
theorem d_Vl_toNumber_25 : decode prog_12_method_9_code 25 = .ok (.iload_n 2, 1) := by decide +kernel
theorem d_Vl_toNumber_26 : decode prog_12_method_9_code 26 = .ok (.invokestatic 60, 3) := by decide +kernel
theorem d_Vl_toNumber_29 : decode prog_12_method_9_code 29 = .ok (.ifCond .ne 5, 3) := by decide +kernel
theorem d_Vl_toNumber_34 : decode prog_12_method_9_code 34 = .ok (.aload_n 0, 1) := by decide +kernel
theorem d_Vl_toNumber_35 : decode prog_12_method_9_code 35 = .ok (.getfield 15, 3) := by decide +kernel
theorem d_Vl_toNumber_38 : decode prog_12_method_9_code 38 = .ok (.iload_n 1, 1) := by decide +kernel
theorem d_Vl_toNumber_39 : decode prog_12_method_9_code 39 = .ok (.aload_n 0, 1) := by decide +kernel
theorem d_Vl_toNumber_40 : decode prog_12_method_9_code 40 = .ok (.getfield 21, 3) := by decide +kernel
theorem d_Vl_toNumber_43 : decode prog_12_method_9_code 43 = .ok (.iload_n 1, 1) := by decide +kernel
theorem d_Vl_toNumber_44 : decode prog_12_method_9_code 44 = .ok (.aaload, 1) := by decide +kernel
theorem d_Vl_toNumber_45 : decode prog_12_method_9_code 45 = .ok (.iconst 0, 1) := by decide +kernel
theorem d_Vl_toNumber_46 : decode prog_12_method_9_code 46 = .ok (.iload_n 2, 1) := by decide +kernel
theorem d_Vl_toNumber_47 : decode prog_12_method_9_code 47 = .ok (.invokestatic 64, 3) := by decide +kernel
theorem d_Vl_toNumber_50 : decode prog_12_method_9_code 50 = .ok (.lastore, 1) := by decide +kernel
theorem d_Vl_toNumber_32 : decode prog_12_method_9_code 32 = .ok (.iconst 0, 1) := by decide +kernel
theorem d_Vl_toNumber_33 : decode prog_12_method_9_code 33 = .ok (.ireturn, 1) := by decide +kernel
set_option maxHeartbeats 4000000 in
theorem w_Vl_toNumber_0 {l : Launch} {G : gG} {d : Nat} {X : gX} {M : gM} {k : Int → gM → Prop} {v n : Nat} (hV : gvX X v n) {x1 : Int} (hx1 : g32 x1)  (T : ((0 : Int) ≤ x1 ∧ x1 < (n : Int)) ∧ (g64 (M (v + 2) (Int.toNat x1)) → (((0 : Int) ≤ x1 ∧ x1 < (n : Int)) ∧ (g32 (M (v + 1) (Int.toNat x1)) → ((¬ M (v + 1) (Int.toNat x1) = 2 → (((0 : Int) ≤ x1 ∧ x1 < (n : Int)) ∧ (k 1 (gUp M (v + 1) (Int.toNat x1) 1)))) ∧ (M (v + 1) (Int.toNat x1) = 2 → (((0 : Int) ≤ x1 ∧ x1 < (n : Int)) ∧ (cZ l G y_Vl_isNumber (gRm d) false [gR G (v + 4 + Int.toNat x1), gI 0, gI (M (v + 2) (Int.toNat x1))] X M (fun v5 M4 => ((¬ v5 = 0 → (((0 : Int) ≤ x1 ∧ x1 < (n : Int)) ∧ (cL l G y_Vl_numberIn (gRm d) false [gR G (v + 4 + Int.toNat x1), gI 0, gI (M (v + 2) (Int.toNat x1))] X M4 (fun v9 M8 => (((0 : Int) ≤ x1 ∧ x1 < (n : Int)) ∧ (((0 : Int) ≤ x1 ∧ x1 < (n : Int)) ∧ (k 1 (gUp (gUp M8 (v + 2) (Int.toNat x1) v9) (v + 1) (Int.toNat x1) 1)))))))) ∧ (v5 = 0 → (k 0 M4)))))))))))) : wp l G y_Vl_toNumber (gRm (d + 1)) true (kkZ X k) false 0 [.val (gR G v), .val (gI x1), .unset] [] X M 0 0 := by
  refine wp_aload_n d_Vl_toNumber_0 rfl rfl (g_nz hV.1) ?_
  refine xgetR d_Vl_toNumber_1 gc_Vl f_Vl_15.1 f_Vl_15.2.1 f_Vl_15.2.2.1 hV.1 (gv_2 hV) hV.2.2.1 f_Vl_15.2.2.2.2.1 (gv_r2 hV).1 ?_
  refine wp_iload_n d_Vl_toNumber_4 rfl rfl ?_
  refine wp_laload d_Vl_toNumber_5 (gv_r2 hV).2.2.1 (gv_r2 hV).2.2.2 (gv_r2 hV).2.1 (g32_n T.1 (gv_n hV)) T.1.1 T.1.2 (fun h1 => ?_)
  have T := T.2 h1
  refine wp_l2i d_Vl_toNumber_6 ?_
  refine wp_istore_n (L' := [.val (gR G v), .val (gI x1), .val (gI (M (v + 2) (Int.toNat x1)))]) d_Vl_toNumber_7 rfl (by decide) rfl ?_
  refine wp_aload_n d_Vl_toNumber_8 rfl rfl (g_nz hV.1) ?_
  refine xgetR d_Vl_toNumber_9 gc_Vl f_Vl_9.1 f_Vl_9.2.1 f_Vl_9.2.2.1 hV.1 (gv_2 hV) hV.2.2.1 f_Vl_9.2.2.2.2.1 (gv_r1 hV).1 ?_
  refine wp_iload_n d_Vl_toNumber_12 rfl rfl ?_
  refine wp_iaload d_Vl_toNumber_13 (gv_r1 hV).2.2.1 (gv_r1 hV).2.2.2 (gv_r1 hV).2.1 (g32_n T.1 (gv_n hV)) T.1.1 T.1.2 (fun h2 => ?_)
  have T := T.2 h2
  refine wp_iconst d_Vl_toNumber_14 ?_
  refine xi_ne (tgt := 51) d_Vl_toNumber_15 (by decide) (w32_id h2) (w32_id (g32_c (x := 2) rfl)) (fun h12 => ?_) (fun h12 => ?_)
  · have T := T.1 h12
    refine wp_aload_n d_Vl_toNumber_51 rfl rfl (g_nz hV.1) ?_
    refine xgetR d_Vl_toNumber_52 gc_Vl f_Vl_9.1 f_Vl_9.2.1 f_Vl_9.2.2.1 hV.1 (gv_2 hV) hV.2.2.1 f_Vl_9.2.2.2.2.1 (gv_r1 hV).1 ?_
    refine wp_iload_n d_Vl_toNumber_55 rfl rfl ?_
    refine wp_iconst d_Vl_toNumber_56 ?_
    refine xiast d_Vl_toNumber_57 (gv_r1 hV).2.2.1 (gv_r1 hV).2.2.2 (gv_r1 hV).2.1 (gv_n hV) T.1 (w32_id (g32_c (x := 1) rfl)) ?_
    have T := T.2
    refine wp_iconst d_Vl_toNumber_58 ?_
    exact wp_zreturn d_Vl_toNumber_59 rfl (g_narz (⟨by decide, by decide⟩ : (0 : Int) ≤ 1 ∧ (1 : Int) ≤ 1)) (fun _ => rfl) (Nat.zero_le _) (Nat.zero_le _) (kZ_mk (⟨by decide, by decide⟩ : (0 : Int) ≤ 1 ∧ (1 : Int) ≤ 1) T)
  · have T := T.2 h12
    refine wp_aload_n d_Vl_toNumber_18 rfl rfl (g_nz hV.1) ?_
    refine xgetR d_Vl_toNumber_19 gc_Vl f_Vl_21.1 f_Vl_21.2.1 f_Vl_21.2.2.1 hV.1 (gv_2 hV) hV.2.2.1 f_Vl_21.2.2.2.2.1 (gv_r3 hV).1 ?_
    refine wp_iload_n d_Vl_toNumber_22 rfl rfl ?_
    have h3 := T.1
    refine xaald d_Vl_toNumber_23 (Or.inl rfl) (gv_r3 hV).2.2.1 (gv_r3 hV).2.2.2 (gv_r3 hV).2.1 (g32_n h3 (gv_n hV)) h3.1 h3.2 (gv_row hV h3).1 ?_
    have T := T.2
    refine wp_iconst d_Vl_toNumber_24 ?_
    refine wp_iload_n d_Vl_toNumber_25 rfl rfl ?_
    refine xcS_Z (md' := false) (As := [gR G (v + 4 + Int.toNat x1), gI 0, gI (M (v + 2) (Int.toNat x1))]) (st := []) d_Vl_toNumber_26 ca_Vl_isNumber ml_Vl_60 sm_Vl_isNumber rfl (by decide) (by decide) rfl id id T (fun v5 M4 h6 T => ?_)
    refine xz_ne (tgt := 34) d_Vl_toNumber_29 (by decide) (w32_id (g32_z h6)) (fun h11 => ?_) (fun h11 => ?_)
    · have T := T.1 h11
      refine wp_aload_n d_Vl_toNumber_34 rfl rfl (g_nz hV.1) ?_
      refine xgetR d_Vl_toNumber_35 gc_Vl f_Vl_15.1 f_Vl_15.2.1 f_Vl_15.2.2.1 hV.1 (gv_2 hV) hV.2.2.1 f_Vl_15.2.2.2.2.1 (gv_r2 hV).1 ?_
      refine wp_iload_n d_Vl_toNumber_38 rfl rfl ?_
      refine wp_aload_n d_Vl_toNumber_39 rfl rfl (g_nz hV.1) ?_
      refine xgetR d_Vl_toNumber_40 gc_Vl f_Vl_21.1 f_Vl_21.2.1 f_Vl_21.2.2.1 hV.1 (gv_2 hV) hV.2.2.1 f_Vl_21.2.2.2.2.1 (gv_r3 hV).1 ?_
      refine wp_iload_n d_Vl_toNumber_43 rfl rfl ?_
      have h7 := T.1
      refine xaald d_Vl_toNumber_44 (Or.inl rfl) (gv_r3 hV).2.2.1 (gv_r3 hV).2.2.2 (gv_r3 hV).2.1 (g32_n h7 (gv_n hV)) h7.1 h7.2 (gv_row hV h7).1 ?_
      have T := T.2
      refine wp_iconst d_Vl_toNumber_45 ?_
      refine wp_iload_n d_Vl_toNumber_46 rfl rfl ?_
      refine xcS_L (md' := false) (As := [gR G (v + 4 + Int.toNat x1), gI 0, gI (M (v + 2) (Int.toNat x1))]) (st := [gI x1, gR G (v + 2)]) d_Vl_toNumber_47 ca_Vl_numberIn ml_Vl_64 sm_Vl_numberIn rfl (by decide) (by simp only [List.map, gR_cat, gI_cat, gL_cat, List.sum_cons, List.sum_nil]; decide) rfl id id T (fun v9 M8 h10 T => ?_)
      refine xlast d_Vl_toNumber_50 (gv_r2 hV).2.2.1 (gv_r2 hV).2.2.2 (gv_r2 hV).2.1 (gv_n hV) T.1 (w64_id h10) ?_
      have T := T.2
      refine wp_aload_n d_Vl_toNumber_51 rfl rfl (g_nz hV.1) ?_
      refine xgetR d_Vl_toNumber_52 gc_Vl f_Vl_9.1 f_Vl_9.2.1 f_Vl_9.2.2.1 hV.1 (gv_2 hV) hV.2.2.1 f_Vl_9.2.2.2.2.1 (gv_r1 hV).1 ?_
      refine wp_iload_n d_Vl_toNumber_55 rfl rfl ?_
      refine wp_iconst d_Vl_toNumber_56 ?_
      refine xiast d_Vl_toNumber_57 (gv_r1 hV).2.2.1 (gv_r1 hV).2.2.2 (gv_r1 hV).2.1 (gv_n hV) T.1 (w32_id (g32_c (x := 1) rfl)) ?_
      have T := T.2
      refine wp_iconst d_Vl_toNumber_58 ?_
      exact wp_zreturn d_Vl_toNumber_59 rfl (g_narz (⟨by decide, by decide⟩ : (0 : Int) ≤ 1 ∧ (1 : Int) ≤ 1)) (fun _ => rfl) (Nat.zero_le _) (Nat.zero_le _) (kZ_mk (⟨by decide, by decide⟩ : (0 : Int) ≤ 1 ∧ (1 : Int) ≤ 1) T)
    · have T := T.2 h11
      refine wp_iconst d_Vl_toNumber_32 ?_
      exact wp_zreturn d_Vl_toNumber_33 rfl (g_narz (⟨by decide, by decide⟩ : (0 : Int) ≤ 0 ∧ (0 : Int) ≤ 1)) (fun _ => rfl) (Nat.zero_le _) (Nat.zero_le _) (kZ_mk (⟨by decide, by decide⟩ : (0 : Int) ≤ 0 ∧ (0 : Int) ≤ 1) T)
theorem e_Vl_toNumber {l : Launch} {G : gG} {d : Nat} {X : gX} {M : gM} {k : Int → gM → Prop} {v : Nat} {x1 : Int} (T : wp l G y_Vl_toNumber (gRm (d + 1)) true (kkZ X k) false 0 [.val (gR G v), .val (gI x1), .unset] [] X M 0 0) : cZ l G y_Vl_toNumber (gRm (d + 1)) true [gR G v, gI x1] X M k := cen_Z (plainFor_of_name rfl) (by simp only [lg_sl_R, lg_sl_I, lg_sl_L, lg_sl_N, List.length_cons, List.length_nil]; decide) (by unfold gEn; simp only [lg_sl_R, lg_sl_I, lg_sl_L, lg_sl_N]; exact wpt T (And.intro rfl (And.intro rfl True.intro)))
theorem d_Vl_toTruth_0 : decode prog_12_method_10_code 0 = .ok (.aload_n 0, 1) := by decide +kernel
theorem d_Vl_toTruth_1 : decode prog_12_method_10_code 1 = .ok (.getfield 9, 3) := by decide +kernel
theorem d_Vl_toTruth_4 : decode prog_12_method_10_code 4 = .ok (.iload_n 1, 1) := by decide +kernel
theorem d_Vl_toTruth_5 : decode prog_12_method_10_code 5 = .ok (.iaload, 1) := by decide +kernel
theorem d_Vl_toTruth_6 : decode prog_12_method_10_code 6 = .ok (.iconst 2, 1) := by decide +kernel
theorem d_Vl_toTruth_7 : decode prog_12_method_10_code 7 = .ok (.if_icmp .ne 5, 3) := by decide +kernel
theorem d_Vl_toTruth_12 : decode prog_12_method_10_code 12 = .ok (.aload_n 0, 1) := by decide +kernel
theorem d_Vl_toTruth_13 : decode prog_12_method_10_code 13 = .ok (.iload_n 1, 1) := by decide +kernel
theorem d_Vl_toTruth_14 : decode prog_12_method_10_code 14 = .ok (.aload_n 0, 1) := by decide +kernel
theorem d_Vl_toTruth_15 : decode prog_12_method_10_code 15 = .ok (.getfield 15, 3) := by decide +kernel
theorem d_Vl_toTruth_18 : decode prog_12_method_10_code 18 = .ok (.iload_n 1, 1) := by decide +kernel
theorem d_Vl_toTruth_19 : decode prog_12_method_10_code 19 = .ok (.laload, 1) := by decide +kernel
theorem d_Vl_toTruth_20 : decode prog_12_method_10_code 20 = .ok (.lconst 0, 1) := by decide +kernel
theorem d_Vl_toTruth_21 : decode prog_12_method_10_code 21 = .ok (.lcmp, 1) := by decide +kernel
theorem d_Vl_toTruth_22 : decode prog_12_method_10_code 22 = .ok (.ifCond .eq 7, 3) := by decide +kernel
theorem d_Vl_toTruth_29 : decode prog_12_method_10_code 29 = .ok (.iconst 0, 1) := by decide +kernel
theorem d_Vl_toTruth_30 : decode prog_12_method_10_code 30 = .ok (.invokevirtual 68, 3) := by decide +kernel
theorem d_Vl_toTruth_33 : decode prog_12_method_10_code 33 = .ok (.iconst 1, 1) := by decide +kernel
theorem d_Vl_toTruth_34 : decode prog_12_method_10_code 34 = .ok (.ireturn, 1) := by decide +kernel
theorem d_Vl_toTruth_25 : decode prog_12_method_10_code 25 = .ok (.iconst 1, 1) := by decide +kernel
theorem d_Vl_toTruth_26 : decode prog_12_method_10_code 26 = .ok (.goto 4, 3) := by decide +kernel
theorem d_Vl_toTruth_10 : decode prog_12_method_10_code 10 = .ok (.iconst 0, 1) := by decide +kernel
theorem d_Vl_toTruth_11 : decode prog_12_method_10_code 11 = .ok (.ireturn, 1) := by decide +kernel
set_option maxHeartbeats 4000000 in
theorem w_Vl_toTruth_0 {l : Launch} {G : gG} {d : Nat} {X : gX} {M : gM} {k : Int → gM → Prop} {v n : Nat} (hV : gvX X v n) {x1 : Int} (hx1 : g32 x1)  (T : ((0 : Int) ≤ x1 ∧ x1 < (n : Int)) ∧ (g32 (M (v + 1) (Int.toNat x1)) → ((¬ M (v + 1) (Int.toNat x1) = 2 → (((0 : Int) ≤ x1 ∧ x1 < (n : Int)) ∧ (g64 (M (v + 2) (Int.toNat x1)) → ((M (v + 2) (Int.toNat x1) = 0 → (cV l G y_Vl_setTruth (gRm d) true [gR G v, gI x1, gI 0] X M (fun M3 => (k 1 M3)))) ∧ (¬ M (v + 2) (Int.toNat x1) = 0 → (cV l G y_Vl_setTruth (gRm d) true [gR G v, gI x1, gI 1] X M (fun M4 => (k 1 M4)))))))) ∧ (M (v + 1) (Int.toNat x1) = 2 → (k 0 M))))) : wp l G y_Vl_toTruth (gRm (d + 1)) true (kkZ X k) false 0 [.val (gR G v), .val (gI x1)] [] X M 0 0 := by
  refine wp_aload_n d_Vl_toTruth_0 rfl rfl (g_nz hV.1) ?_
  refine xgetR d_Vl_toTruth_1 gc_Vl f_Vl_9.1 f_Vl_9.2.1 f_Vl_9.2.2.1 hV.1 (gv_2 hV) hV.2.2.1 f_Vl_9.2.2.2.2.1 (gv_r1 hV).1 ?_
  refine wp_iload_n d_Vl_toTruth_4 rfl rfl ?_
  refine wp_iaload d_Vl_toTruth_5 (gv_r1 hV).2.2.1 (gv_r1 hV).2.2.2 (gv_r1 hV).2.1 (g32_n T.1 (gv_n hV)) T.1.1 T.1.2 (fun h1 => ?_)
  have T := T.2 h1
  refine wp_iconst d_Vl_toTruth_6 ?_
  refine xi_ne (tgt := 12) d_Vl_toTruth_7 (by decide) (w32_id h1) (w32_id (g32_c (x := 2) rfl)) (fun h6 => ?_) (fun h6 => ?_)
  · have T := T.1 h6
    refine wp_aload_n d_Vl_toTruth_12 rfl rfl (g_nz hV.1) ?_
    refine wp_iload_n d_Vl_toTruth_13 rfl rfl ?_
    refine wp_aload_n d_Vl_toTruth_14 rfl rfl (g_nz hV.1) ?_
    refine xgetR d_Vl_toTruth_15 gc_Vl f_Vl_15.1 f_Vl_15.2.1 f_Vl_15.2.2.1 hV.1 (gv_2 hV) hV.2.2.1 f_Vl_15.2.2.2.2.1 (gv_r2 hV).1 ?_
    refine wp_iload_n d_Vl_toTruth_18 rfl rfl ?_
    refine wp_laload d_Vl_toTruth_19 (gv_r2 hV).2.2.1 (gv_r2 hV).2.2.2 (gv_r2 hV).2.1 (g32_n T.1 (gv_n hV)) T.1.1 T.1.2 (fun h2 => ?_)
    have T := T.2 h2
    refine wp_lconst0 d_Vl_toTruth_20 ?_
    refine xl_eq (tgt := 29) d_Vl_toTruth_21 d_Vl_toTruth_22 (by decide) (w64_id h2) (w64_id (g64_c (x := 0) rfl)) (fun h5 => ?_) (fun h5 => ?_)
    · have T := T.1 h5
      refine wp_iconst d_Vl_toTruth_29 ?_
      refine xcV_V (md' := true) (As := [gI x1, gI 0]) (st := []) d_Vl_toTruth_30 ca_Vl_setTruth ml_Vl_68 im_Vl_setTruth se_Vl_setTruth gc_Vl hV.1 (gv_2 hV) hV.2.2.1 rfl (by decide) (by decide) rfl (fun _ => rfl) (fun _ => rfl) T (fun M3 T => ?_)
      refine wp_iconst d_Vl_toTruth_33 ?_
      exact wp_zreturn d_Vl_toTruth_34 rfl (g_narz (⟨by decide, by decide⟩ : (0 : Int) ≤ 1 ∧ (1 : Int) ≤ 1)) (fun _ => rfl) (Nat.zero_le _) (Nat.zero_le _) (kZ_mk (⟨by decide, by decide⟩ : (0 : Int) ≤ 1 ∧ (1 : Int) ≤ 1) T)
    · have T := T.2 h5
      refine wp_iconst d_Vl_toTruth_25 ?_
      refine wp_goto (tgt := 30) d_Vl_toTruth_26 (by decide) ?_
      refine xcV_V (md' := true) (As := [gI x1, gI 1]) (st := []) d_Vl_toTruth_30 ca_Vl_setTruth ml_Vl_68 im_Vl_setTruth se_Vl_setTruth gc_Vl hV.1 (gv_2 hV) hV.2.2.1 rfl (by decide) (by decide) rfl (fun _ => rfl) (fun _ => rfl) T (fun M4 T => ?_)
      refine wp_iconst d_Vl_toTruth_33 ?_
      exact wp_zreturn d_Vl_toTruth_34 rfl (g_narz (⟨by decide, by decide⟩ : (0 : Int) ≤ 1 ∧ (1 : Int) ≤ 1)) (fun _ => rfl) (Nat.zero_le _) (Nat.zero_le _) (kZ_mk (⟨by decide, by decide⟩ : (0 : Int) ≤ 1 ∧ (1 : Int) ≤ 1) T)
  · have T := T.2 h6
    refine wp_iconst d_Vl_toTruth_10 ?_
    exact wp_zreturn d_Vl_toTruth_11 rfl (g_narz (⟨by decide, by decide⟩ : (0 : Int) ≤ 0 ∧ (0 : Int) ≤ 1)) (fun _ => rfl) (Nat.zero_le _) (Nat.zero_le _) (kZ_mk (⟨by decide, by decide⟩ : (0 : Int) ≤ 0 ∧ (0 : Int) ≤ 1) T)
theorem e_Vl_toTruth {l : Launch} {G : gG} {d : Nat} {X : gX} {M : gM} {k : Int → gM → Prop} {v : Nat} {x1 : Int} (T : wp l G y_Vl_toTruth (gRm (d + 1)) true (kkZ X k) false 0 [.val (gR G v), .val (gI x1)] [] X M 0 0) : cZ l G y_Vl_toTruth (gRm (d + 1)) true [gR G v, gI x1] X M k := cen_Z (plainFor_of_name rfl) (by simp only [lg_sl_R, lg_sl_I, lg_sl_L, lg_sl_N, List.length_cons, List.length_nil]; decide) (by unfold gEn; simp only [lg_sl_R, lg_sl_I, lg_sl_L, lg_sl_N]; exact wpt T (And.intro rfl (And.intro rfl True.intro)))
