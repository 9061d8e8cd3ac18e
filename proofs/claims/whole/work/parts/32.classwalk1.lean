/-! Walks of the class's methods, written by wip/whole/gen_class.py -/
theorem d_GL_erase_0 : decode prog_1_method_7_code 0 = .ok (.iload_n 2, 1) := by decide +kernel
theorem d_GL_erase_1 : decode prog_1_method_7_code 1 = .ok (.ifCond .lt 15, 3) := by decide +kernel
theorem d_GL_erase_16 : decode prog_1_method_7_code 16 = .ok (.iconst 0, 1) := by decide +kernel
theorem d_GL_erase_17 : decode prog_1_method_7_code 17 = .ok (.invokestatic 69, 3) := by decide +kernel
theorem d_GL_erase_20 : decode prog_1_method_7_code 20 = .ok (.iload_n 3, 1) := by decide +kernel
theorem d_GL_erase_21 : decode prog_1_method_7_code 21 = .ok (.iconst 1, 1) := by decide +kernel
theorem d_GL_erase_22 : decode prog_1_method_7_code 22 = .ok (.if_icmp .lt 23, 3) := by decide +kernel
theorem d_GL_erase_45 : decode prog_1_method_7_code 45 = .ok (.iconst 0, 1) := by decide +kernel
theorem d_GL_erase_46 : decode prog_1_method_7_code 46 = .ok (.invokestatic 69, 3) := by decide +kernel
theorem d_GL_erase_49 : decode prog_1_method_7_code 49 = .ok (.aload_n 0, 1) := by decide +kernel
theorem d_GL_erase_50 : decode prog_1_method_7_code 50 = .ok (.getfield 34, 3) := by decide +kernel
theorem d_GL_erase_53 : decode prog_1_method_7_code 53 = .ok (.aload_n 0, 1) := by decide +kernel
theorem d_GL_erase_54 : decode prog_1_method_7_code 54 = .ok (.getfield 40, 3) := by decide +kernel
theorem d_GL_erase_57 : decode prog_1_method_7_code 57 = .ok (.aload_n 0, 1) := by decide +kernel
theorem d_GL_erase_58 : decode prog_1_method_7_code 58 = .ok (.getfield 81, 3) := by decide +kernel
theorem d_GL_erase_61 : decode prog_1_method_7_code 61 = .ok (.aaload, 1) := by decide +kernel
theorem d_GL_erase_62 : decode prog_1_method_7_code 62 = .ok (.aload_n 0, 1) := by decide +kernel
theorem d_GL_erase_63 : decode prog_1_method_7_code 63 = .ok (.getfield 45, 3) := by decide +kernel
theorem d_GL_erase_66 : decode prog_1_method_7_code 66 = .ok (.invokevirtual 84, 3) := by decide +kernel
theorem d_GL_erase_69 : decode prog_1_method_7_code 69 = .ok (.aload_n 0, 1) := by decide +kernel
theorem d_GL_erase_70 : decode prog_1_method_7_code 70 = .ok (.aload_n 0, 1) := by decide +kernel
theorem d_GL_erase_71 : decode prog_1_method_7_code 71 = .ok (.getfield 34, 3) := by decide +kernel
theorem d_GL_erase_74 : decode prog_1_method_7_code 74 = .ok (.iload_n 1, 1) := by decide +kernel
theorem d_GL_erase_75 : decode prog_1_method_7_code 75 = .ok (.iconst 0, 1) := by decide +kernel
theorem d_GL_erase_76 : decode prog_1_method_7_code 76 = .ok (.iload_n 2, 1) := by decide +kernel
theorem d_GL_erase_77 : decode prog_1_method_7_code 77 = .ok (.iload_n 3, 1) := by decide +kernel
theorem d_GL_erase_78 : decode prog_1_method_7_code 78 = .ok (.invokevirtual 111, 3) := by decide +kernel
theorem d_GL_erase_81 : decode prog_1_method_7_code 81 = .ok (.invokevirtual 96, 3) := by decide +kernel
theorem d_GL_erase_84 : decode prog_1_method_7_code 84 = .ok (.aload_n 0, 1) := by decide +kernel
theorem d_GL_erase_85 : decode prog_1_method_7_code 85 = .ok (.getfield 54, 3) := by decide +kernel
theorem d_GL_erase_88 : decode prog_1_method_7_code 88 = .ok (.aload_n 0, 1) := by decide +kernel
theorem d_GL_erase_89 : decode prog_1_method_7_code 89 = .ok (.getfield 40, 3) := by decide +kernel
theorem d_GL_erase_92 : decode prog_1_method_7_code 92 = .ok (.aload_n 0, 1) := by decide +kernel
theorem d_GL_erase_93 : decode prog_1_method_7_code 93 = .ok (.getfield 81, 3) := by decide +kernel
theorem d_GL_erase_96 : decode prog_1_method_7_code 96 = .ok (.aaload, 1) := by decide +kernel
theorem d_GL_erase_97 : decode prog_1_method_7_code 97 = .ok (.invokevirtual 99, 3) := by decide +kernel
theorem d_GL_erase_100 : decode prog_1_method_7_code 100 = .ok (.ireturn, 1) := by decide +kernel
theorem d_GL_erase_25 : decode prog_1_method_7_code 25 = .ok (.iload_n 3, 1) := by decide +kernel
theorem d_GL_erase_26 : decode prog_1_method_7_code 26 = .ok (.bipush 50, 2) := by decide +kernel
theorem d_GL_erase_28 : decode prog_1_method_7_code 28 = .ok (.if_icmp .gt 17, 3) := by decide +kernel
theorem d_GL_erase_31 : decode prog_1_method_7_code 31 = .ok (.iload_n 3, 1) := by decide +kernel
theorem d_GL_erase_32 : decode prog_1_method_7_code 32 = .ok (.iload_n 1, 1) := by decide +kernel
theorem d_GL_erase_33 : decode prog_1_method_7_code 33 = .ok (.invokestatic 107, 3) := by decide +kernel
theorem d_GL_erase_36 : decode prog_1_method_7_code 36 = .ok (.iload_n 2, 1) := by decide +kernel
theorem d_GL_erase_37 : decode prog_1_method_7_code 37 = .ok (.isub, 1) := by decide +kernel
theorem d_GL_erase_38 : decode prog_1_method_7_code 38 = .ok (.if_icmp .gt 7, 3) := by decide +kernel
theorem d_GL_erase_41 : decode prog_1_method_7_code 41 = .ok (.iconst 1, 1) := by decide +kernel
theorem d_GL_erase_42 : decode prog_1_method_7_code 42 = .ok (.goto 4, 3) := by decide +kernel
theorem d_GL_erase_4 : decode prog_1_method_7_code 4 = .ok (.iload_n 2, 1) := by decide +kernel
theorem d_GL_erase_5 : decode prog_1_method_7_code 5 = .ok (.iload_n 1, 1) := by decide +kernel
theorem d_GL_erase_6 : decode prog_1_method_7_code 6 = .ok (.invokestatic 107, 3) := by decide +kernel
theorem d_GL_erase_9 : decode prog_1_method_7_code 9 = .ok (.if_icmp .ge 7, 3) := by decide +kernel
theorem d_GL_erase_12 : decode prog_1_method_7_code 12 = .ok (.iconst 1, 1) := by decide +kernel
theorem d_GL_erase_13 : decode prog_1_method_7_code 13 = .ok (.goto 4, 3) := by decide +kernel
set_option maxHeartbeats 4000000 in
theorem w_GL_erase_0 {l : Launch} {G : gG} {d : Nat} {X : gX} {M : gM} {k : Int → gM → Prop} {c : Nat} (hX : glX X c) {x1 : Int} (hx1 : 0 ≤ x1 ∧ x1 ≤ 1) {x2 : Int} (hx2 : g32 x2) {x3 : Int} (hx3 : g32 x3) {s4 : Nat} (hs4 : X.2.2 c 7 = s4 ∧ gsX X s4) (hring : ∀ i : Nat, i < 41 → gsX X (X.2.2 (c + 23) i)) (T : (x2 < 0 → (cV l G y_GL_need (gRm d) false [gI 0] X M (fun M1 => ((x3 < 1 → (cV l G y_GL_need (gRm d) false [gI 0] X M1 (fun M2 => (g32 (M2 c 8) → (((0 : Int) ≤ M2 c 8 ∧ M2 c 8 < 41) ∧ (cV l G y_Ed_open (gRm d) true [gR G (c + 21), gR G (X.2.2 (c + 23) (Int.toNat (M2 c 8))), gR G s4] X M2 (fun M5 => (cZ l G y_Ed_shifted (gRm d) true [gR G (c + 21), gI x1, gI 0, gI x2, gI x3] X M5 (fun v7 M6 => (cV l G y_GL_land (gRm d) true [gR G c, gI v7] X M6 (fun M9 => (g32 (M9 c 8) → (((0 : Int) ≤ M9 c 8 ∧ M9 c 8 < 41) ∧ (cI l G y_Rs_follow (gRm d) true [gR G (c + 234), gR G (X.2.2 (c + 23) (Int.toNat (M9 c 8)))] X M9 (fun v13 M12 => (k v13 M12)))))))))))))))) ∧ (¬ x3 < 1 → ((50 < x3 → (cV l G y_GL_need (gRm d) false [gI 0] X M1 (fun M15 => (g32 (M15 c 8) → (((0 : Int) ≤ M15 c 8 ∧ M15 c 8 < 41) ∧ (cV l G y_Ed_open (gRm d) true [gR G (c + 21), gR G (X.2.2 (c + 23) (Int.toNat (M15 c 8))), gR G s4] X M15 (fun M18 => (cZ l G y_Ed_shifted (gRm d) true [gR G (c + 21), gI x1, gI 0, gI x2, gI x3] X M18 (fun v20 M19 => (cV l G y_GL_land (gRm d) true [gR G c, gI v20] X M19 (fun M22 => (g32 (M22 c 8) → (((0 : Int) ≤ M22 c 8 ∧ M22 c 8 < 41) ∧ (cI l G y_Rs_follow (gRm d) true [gR G (c + 234), gR G (X.2.2 (c + 23) (Int.toNat (M22 c 8)))] X M22 (fun v26 M25 => (k v26 M25)))))))))))))))) ∧ (¬ 50 < x3 → (cI l G y_GL_lines (gRm d) false [gI x1] X M1 (fun v29 M28 => (((w32 (v29 - x2)) < x3 → (cV l G y_GL_need (gRm d) false [gI 0] X M28 (fun M31 => (g32 (M31 c 8) → (((0 : Int) ≤ M31 c 8 ∧ M31 c 8 < 41) ∧ (cV l G y_Ed_open (gRm d) true [gR G (c + 21), gR G (X.2.2 (c + 23) (Int.toNat (M31 c 8))), gR G s4] X M31 (fun M34 => (cZ l G y_Ed_shifted (gRm d) true [gR G (c + 21), gI x1, gI 0, gI x2, gI x3] X M34 (fun v36 M35 => (cV l G y_GL_land (gRm d) true [gR G c, gI v36] X M35 (fun M38 => (g32 (M38 c 8) → (((0 : Int) ≤ M38 c 8 ∧ M38 c 8 < 41) ∧ (cI l G y_Rs_follow (gRm d) true [gR G (c + 234), gR G (X.2.2 (c + 23) (Int.toNat (M38 c 8)))] X M38 (fun v42 M41 => (k v42 M41)))))))))))))))) ∧ (¬ (w32 (v29 - x2)) < x3 → (cV l G y_GL_need (gRm d) false [gI 1] X M28 (fun M44 => (g32 (M44 c 8) → (((0 : Int) ≤ M44 c 8 ∧ M44 c 8 < 41) ∧ (cV l G y_Ed_open (gRm d) true [gR G (c + 21), gR G (X.2.2 (c + 23) (Int.toNat (M44 c 8))), gR G s4] X M44 (fun M47 => (cZ l G y_Ed_shifted (gRm d) true [gR G (c + 21), gI x1, gI 0, gI x2, gI x3] X M47 (fun v49 M48 => (cV l G y_GL_land (gRm d) true [gR G c, gI v49] X M48 (fun M51 => (g32 (M51 c 8) → (((0 : Int) ≤ M51 c 8 ∧ M51 c 8 < 41) ∧ (cI l G y_Rs_follow (gRm d) true [gR G (c + 234), gR G (X.2.2 (c + 23) (Int.toNat (M51 c 8)))] X M51 (fun v55 M54 => (k v55 M54)))))))))))))))))))))))))) ∧ (¬ x2 < 0 → (cI l G y_GL_lines (gRm d) false [gI x1] X M (fun v61 M60 => ((v61 ≤ x2 → (cV l G y_GL_need (gRm d) false [gI 0] X M60 (fun M63 => ((x3 < 1 → (cV l G y_GL_need (gRm d) false [gI 0] X M63 (fun M64 => (g32 (M64 c 8) → (((0 : Int) ≤ M64 c 8 ∧ M64 c 8 < 41) ∧ (cV l G y_Ed_open (gRm d) true [gR G (c + 21), gR G (X.2.2 (c + 23) (Int.toNat (M64 c 8))), gR G s4] X M64 (fun M67 => (cZ l G y_Ed_shifted (gRm d) true [gR G (c + 21), gI x1, gI 0, gI x2, gI x3] X M67 (fun v69 M68 => (cV l G y_GL_land (gRm d) true [gR G c, gI v69] X M68 (fun M71 => (g32 (M71 c 8) → (((0 : Int) ≤ M71 c 8 ∧ M71 c 8 < 41) ∧ (cI l G y_Rs_follow (gRm d) true [gR G (c + 234), gR G (X.2.2 (c + 23) (Int.toNat (M71 c 8)))] X M71 (fun v75 M74 => (k v75 M74)))))))))))))))) ∧ (¬ x3 < 1 → ((50 < x3 → (cV l G y_GL_need (gRm d) false [gI 0] X M63 (fun M77 => (g32 (M77 c 8) → (((0 : Int) ≤ M77 c 8 ∧ M77 c 8 < 41) ∧ (cV l G y_Ed_open (gRm d) true [gR G (c + 21), gR G (X.2.2 (c + 23) (Int.toNat (M77 c 8))), gR G s4] X M77 (fun M80 => (cZ l G y_Ed_shifted (gRm d) true [gR G (c + 21), gI x1, gI 0, gI x2, gI x3] X M80 (fun v82 M81 => (cV l G y_GL_land (gRm d) true [gR G c, gI v82] X M81 (fun M84 => (g32 (M84 c 8) → (((0 : Int) ≤ M84 c 8 ∧ M84 c 8 < 41) ∧ (cI l G y_Rs_follow (gRm d) true [gR G (c + 234), gR G (X.2.2 (c + 23) (Int.toNat (M84 c 8)))] X M84 (fun v88 M87 => (k v88 M87)))))))))))))))) ∧ (¬ 50 < x3 → (cI l G y_GL_lines (gRm d) false [gI x1] X M63 (fun v91 M90 => (((w32 (v91 - x2)) < x3 → (cV l G y_GL_need (gRm d) false [gI 0] X M90 (fun M93 => (g32 (M93 c 8) → (((0 : Int) ≤ M93 c 8 ∧ M93 c 8 < 41) ∧ (cV l G y_Ed_open (gRm d) true [gR G (c + 21), gR G (X.2.2 (c + 23) (Int.toNat (M93 c 8))), gR G s4] X M93 (fun M96 => (cZ l G y_Ed_shifted (gRm d) true [gR G (c + 21), gI x1, gI 0, gI x2, gI x3] X M96 (fun v98 M97 => (cV l G y_GL_land (gRm d) true [gR G c, gI v98] X M97 (fun M100 => (g32 (M100 c 8) → (((0 : Int) ≤ M100 c 8 ∧ M100 c 8 < 41) ∧ (cI l G y_Rs_follow (gRm d) true [gR G (c + 234), gR G (X.2.2 (c + 23) (Int.toNat (M100 c 8)))] X M100 (fun v104 M103 => (k v104 M103)))))))))))))))) ∧ (¬ (w32 (v91 - x2)) < x3 → (cV l G y_GL_need (gRm d) false [gI 1] X M90 (fun M106 => (g32 (M106 c 8) → (((0 : Int) ≤ M106 c 8 ∧ M106 c 8 < 41) ∧ (cV l G y_Ed_open (gRm d) true [gR G (c + 21), gR G (X.2.2 (c + 23) (Int.toNat (M106 c 8))), gR G s4] X M106 (fun M109 => (cZ l G y_Ed_shifted (gRm d) true [gR G (c + 21), gI x1, gI 0, gI x2, gI x3] X M109 (fun v111 M110 => (cV l G y_GL_land (gRm d) true [gR G c, gI v111] X M110 (fun M113 => (g32 (M113 c 8) → (((0 : Int) ≤ M113 c 8 ∧ M113 c 8 < 41) ∧ (cI l G y_Rs_follow (gRm d) true [gR G (c + 234), gR G (X.2.2 (c + 23) (Int.toNat (M113 c 8)))] X M113 (fun v117 M116 => (k v117 M116)))))))))))))))))))))))))) ∧ (¬ v61 ≤ x2 → (cV l G y_GL_need (gRm d) false [gI 1] X M60 (fun M122 => ((x3 < 1 → (cV l G y_GL_need (gRm d) false [gI 0] X M122 (fun M123 => (g32 (M123 c 8) → (((0 : Int) ≤ M123 c 8 ∧ M123 c 8 < 41) ∧ (cV l G y_Ed_open (gRm d) true [gR G (c + 21), gR G (X.2.2 (c + 23) (Int.toNat (M123 c 8))), gR G s4] X M123 (fun M126 => (cZ l G y_Ed_shifted (gRm d) true [gR G (c + 21), gI x1, gI 0, gI x2, gI x3] X M126 (fun v128 M127 => (cV l G y_GL_land (gRm d) true [gR G c, gI v128] X M127 (fun M130 => (g32 (M130 c 8) → (((0 : Int) ≤ M130 c 8 ∧ M130 c 8 < 41) ∧ (cI l G y_Rs_follow (gRm d) true [gR G (c + 234), gR G (X.2.2 (c + 23) (Int.toNat (M130 c 8)))] X M130 (fun v134 M133 => (k v134 M133)))))))))))))))) ∧ (¬ x3 < 1 → ((50 < x3 → (cV l G y_GL_need (gRm d) false [gI 0] X M122 (fun M136 => (g32 (M136 c 8) → (((0 : Int) ≤ M136 c 8 ∧ M136 c 8 < 41) ∧ (cV l G y_Ed_open (gRm d) true [gR G (c + 21), gR G (X.2.2 (c + 23) (Int.toNat (M136 c 8))), gR G s4] X M136 (fun M139 => (cZ l G y_Ed_shifted (gRm d) true [gR G (c + 21), gI x1, gI 0, gI x2, gI x3] X M139 (fun v141 M140 => (cV l G y_GL_land (gRm d) true [gR G c, gI v141] X M140 (fun M143 => (g32 (M143 c 8) → (((0 : Int) ≤ M143 c 8 ∧ M143 c 8 < 41) ∧ (cI l G y_Rs_follow (gRm d) true [gR G (c + 234), gR G (X.2.2 (c + 23) (Int.toNat (M143 c 8)))] X M143 (fun v147 M146 => (k v147 M146)))))))))))))))) ∧ (¬ 50 < x3 → (cI l G y_GL_lines (gRm d) false [gI x1] X M122 (fun v150 M149 => (((w32 (v150 - x2)) < x3 → (cV l G y_GL_need (gRm d) false [gI 0] X M149 (fun M152 => (g32 (M152 c 8) → (((0 : Int) ≤ M152 c 8 ∧ M152 c 8 < 41) ∧ (cV l G y_Ed_open (gRm d) true [gR G (c + 21), gR G (X.2.2 (c + 23) (Int.toNat (M152 c 8))), gR G s4] X M152 (fun M155 => (cZ l G y_Ed_shifted (gRm d) true [gR G (c + 21), gI x1, gI 0, gI x2, gI x3] X M155 (fun v157 M156 => (cV l G y_GL_land (gRm d) true [gR G c, gI v157] X M156 (fun M159 => (g32 (M159 c 8) → (((0 : Int) ≤ M159 c 8 ∧ M159 c 8 < 41) ∧ (cI l G y_Rs_follow (gRm d) true [gR G (c + 234), gR G (X.2.2 (c + 23) (Int.toNat (M159 c 8)))] X M159 (fun v163 M162 => (k v163 M162)))))))))))))))) ∧ (¬ (w32 (v150 - x2)) < x3 → (cV l G y_GL_need (gRm d) false [gI 1] X M149 (fun M165 => (g32 (M165 c 8) → (((0 : Int) ≤ M165 c 8 ∧ M165 c 8 < 41) ∧ (cV l G y_Ed_open (gRm d) true [gR G (c + 21), gR G (X.2.2 (c + 23) (Int.toNat (M165 c 8))), gR G s4] X M165 (fun M168 => (cZ l G y_Ed_shifted (gRm d) true [gR G (c + 21), gI x1, gI 0, gI x2, gI x3] X M168 (fun v170 M169 => (cV l G y_GL_land (gRm d) true [gR G c, gI v170] X M169 (fun M172 => (g32 (M172 c 8) → (((0 : Int) ≤ M172 c 8 ∧ M172 c 8 < 41) ∧ (cI l G y_Rs_follow (gRm d) true [gR G (c + 234), gR G (X.2.2 (c + 23) (Int.toNat (M172 c 8)))] X M172 (fun v176 M175 => (k v176 M175))))))))))))))))))))))))))))))) : wp l G y_GL_erase (gRm (d + 1)) true (kkI X k) false 0 [.val (gR G c), .val (gI x1), .val (gI x2), .val (gI x3)] [] X M 0 0 := by
  refine wp_iload_n d_GL_erase_0 rfl rfl ?_
  refine xz_lt (tgt := 16) d_GL_erase_1 (by decide) (w32_id hx2) (fun h182 => ?_) (fun h182 => ?_)
  · have T := T.1 h182
    refine wp_iconst d_GL_erase_16 ?_
    refine xcS_V (md' := false) (As := [gI 0]) (st := []) d_GL_erase_17 ca_GL_need ml_GL_69 sm_GL_need rfl (by decide) (by decide) rfl id id T (fun M1 T => ?_)
    refine wp_iload_n d_GL_erase_20 rfl rfl ?_
    refine wp_iconst d_GL_erase_21 ?_
    refine xi_lt (tgt := 45) d_GL_erase_22 (by decide) (w32_id hx3) (w32_id (g32_c (x := 1) rfl)) (fun h59 => ?_) (fun h59 => ?_)
    · have T := T.1 h59
      refine wp_iconst d_GL_erase_45 ?_
      refine xcS_V (md' := false) (As := [gI 0]) (st := []) d_GL_erase_46 ca_GL_need ml_GL_69 sm_GL_need rfl (by decide) (by decide) rfl id id T (fun M2 T => ?_)
      refine wp_aload_n d_GL_erase_49 rfl rfl (g_nz (gl_1 hX 0)) ?_
      refine xgetR d_GL_erase_50 gc_GL f_GL_34.1 f_GL_34.2.1 f_GL_34.2.2.1 (gl_1 hX 0) (gl_2 hX (a := 0) (by decide)) (gl_s0 hX) f_GL_34.2.2.2.2.1 (gl_f0 hX 23 rfl) ?_
      refine wp_aload_n d_GL_erase_53 rfl rfl (g_nz (gl_1 hX 0)) ?_
      refine xgetR d_GL_erase_54 gc_GL f_GL_40.1 f_GL_40.2.1 f_GL_40.2.2.1 (gl_1 hX 0) (gl_2 hX (a := 0) (by decide)) (gl_s0 hX) f_GL_40.2.2.2.2.1 (gl_f0 hX 26 rfl) ?_
      refine wp_aload_n d_GL_erase_57 rfl rfl (g_nz (gl_1 hX 0)) ?_
      refine xgetI d_GL_erase_58 gc_GL f_GL_81.1 f_GL_81.2.1 f_GL_81.2.2.1 (gl_1 hX 0) (gl_2 hX (a := 0) (by decide)) (gl_s0 hX) f_GL_81.2.2.2.2.1 (fun h3 => ?_)
      have T := T h3
      have h4 := T.1
      refine xaald d_GL_erase_61 (Or.inr rfl) (gl_1 hX 23) (gl_2 hX (a := 23) (by decide)) (gl_s hX 23 rfl) (g32_n h4 (by decide)) h4.1 h4.2 rfl ?_
      have T := T.2
      refine wp_aload_n d_GL_erase_62 rfl rfl (g_nz (gl_1 hX 0)) ?_
      refine xgetR d_GL_erase_63 gc_GL f_GL_45.1 f_GL_45.2.1 f_GL_45.2.2.1 (gl_1 hX 0) (gl_2 hX (a := 0) (by decide)) (gl_s0 hX) f_GL_45.2.2.2.2.1 hs4.1 ?_
      refine xcV_V (md' := true) (As := [gR G (X.2.2 (c + 23) (Int.toNat (M2 c 8))), gR G s4]) (st := []) d_GL_erase_66 ca_Ed_open ml_GL_84 im_Ed_open se_Ed_open gc_Ed (gl_1 hX 21) (gl_2 hX (a := 21) (by decide)) (gl_s hX 21 rfl) rfl (by decide) (by decide) rfl (fun _ => rfl) (fun _ => rfl) T (fun M5 T => ?_)
      refine wp_aload_n d_GL_erase_69 rfl rfl (g_nz (gl_1 hX 0)) ?_
      refine wp_aload_n d_GL_erase_70 rfl rfl (g_nz (gl_1 hX 0)) ?_
      refine xgetR d_GL_erase_71 gc_GL f_GL_34.1 f_GL_34.2.1 f_GL_34.2.2.1 (gl_1 hX 0) (gl_2 hX (a := 0) (by decide)) (gl_s0 hX) f_GL_34.2.2.2.2.1 (gl_f0 hX 23 rfl) ?_
      refine wp_iload_n d_GL_erase_74 rfl rfl ?_
      refine wp_iconst d_GL_erase_75 ?_
      refine wp_iload_n d_GL_erase_76 rfl rfl ?_
      refine wp_iload_n d_GL_erase_77 rfl rfl ?_
      refine xcV_Z (md' := true) (As := [gI x1, gI 0, gI x2, gI x3]) (st := [gR G c]) d_GL_erase_78 ca_Ed_shifted ml_GL_111 im_Ed_shifted se_Ed_shifted gc_Ed (gl_1 hX 21) (gl_2 hX (a := 21) (by decide)) (gl_s hX 21 rfl) rfl (by decide) (by simp only [List.map, gR_cat, gI_cat, gL_cat, List.sum_cons, List.sum_nil]; decide) rfl (fun _ => rfl) (fun _ => rfl) T (fun v7 M6 h8 T => ?_)
      refine xcV_V (md' := true) (As := [gI v7]) (st := []) d_GL_erase_81 ca_GL_land ml_GL_96 im_GL_land se_GL_land gc_GL (gl_1 hX 0) (gl_2 hX (a := 0) (by decide)) (gl_s0 hX) rfl (by decide) (by decide) rfl (fun _ => rfl) (fun _ => rfl) T (fun M9 T => ?_)
      refine wp_aload_n d_GL_erase_84 rfl rfl (g_nz (gl_1 hX 0)) ?_
      refine xgetR d_GL_erase_85 gc_GL f_GL_54.1 f_GL_54.2.1 f_GL_54.2.2.1 (gl_1 hX 0) (gl_2 hX (a := 0) (by decide)) (gl_s0 hX) f_GL_54.2.2.2.2.1 (gl_f0 hX 27 rfl) ?_
      refine wp_aload_n d_GL_erase_88 rfl rfl (g_nz (gl_1 hX 0)) ?_
      refine xgetR d_GL_erase_89 gc_GL f_GL_40.1 f_GL_40.2.1 f_GL_40.2.2.1 (gl_1 hX 0) (gl_2 hX (a := 0) (by decide)) (gl_s0 hX) f_GL_40.2.2.2.2.1 (gl_f0 hX 26 rfl) ?_
      refine wp_aload_n d_GL_erase_92 rfl rfl (g_nz (gl_1 hX 0)) ?_
      refine xgetI d_GL_erase_93 gc_GL f_GL_81.1 f_GL_81.2.1 f_GL_81.2.2.1 (gl_1 hX 0) (gl_2 hX (a := 0) (by decide)) (gl_s0 hX) f_GL_81.2.2.2.2.1 (fun h10 => ?_)
      have T := T h10
      have h11 := T.1
      refine xaald d_GL_erase_96 (Or.inr rfl) (gl_1 hX 23) (gl_2 hX (a := 23) (by decide)) (gl_s hX 23 rfl) (g32_n h11 (by decide)) h11.1 h11.2 rfl ?_
      have T := T.2
      refine xcV_I (md' := true) (As := [gR G (X.2.2 (c + 23) (Int.toNat (M9 c 8)))]) (st := []) d_GL_erase_97 ca_Rs_follow ml_GL_99 im_Rs_follow se_Rs_follow gc_Rs (gl_1 hX 234) (gl_2 hX (a := 234) (by decide)) (gl_s hX 24 rfl) rfl (by decide) (by decide) rfl (fun _ => rfl) (fun _ => rfl) T (fun v13 M12 h14 T => ?_)
      exact wp_ireturn d_GL_erase_100 rfl (fun _ => rfl) (Nat.zero_le _) (Nat.zero_le _) (kI_mk h14 T)
    · have T := T.2 h59
      refine wp_iload_n d_GL_erase_25 rfl rfl ?_
      refine wp_bipush d_GL_erase_26 ⟨by decide, by decide⟩ ?_
      refine xi_gt (tgt := 45) d_GL_erase_28 (by decide) (w32_id hx3) (w32_id (g32_c (x := 50) rfl)) (fun h58 => ?_) (fun h58 => ?_)
      · have T := T.1 h58
        refine wp_iconst d_GL_erase_45 ?_
        refine xcS_V (md' := false) (As := [gI 0]) (st := []) d_GL_erase_46 ca_GL_need ml_GL_69 sm_GL_need rfl (by decide) (by decide) rfl id id T (fun M15 T => ?_)
        refine wp_aload_n d_GL_erase_49 rfl rfl (g_nz (gl_1 hX 0)) ?_
        refine xgetR d_GL_erase_50 gc_GL f_GL_34.1 f_GL_34.2.1 f_GL_34.2.2.1 (gl_1 hX 0) (gl_2 hX (a := 0) (by decide)) (gl_s0 hX) f_GL_34.2.2.2.2.1 (gl_f0 hX 23 rfl) ?_
        refine wp_aload_n d_GL_erase_53 rfl rfl (g_nz (gl_1 hX 0)) ?_
        refine xgetR d_GL_erase_54 gc_GL f_GL_40.1 f_GL_40.2.1 f_GL_40.2.2.1 (gl_1 hX 0) (gl_2 hX (a := 0) (by decide)) (gl_s0 hX) f_GL_40.2.2.2.2.1 (gl_f0 hX 26 rfl) ?_
        refine wp_aload_n d_GL_erase_57 rfl rfl (g_nz (gl_1 hX 0)) ?_
        refine xgetI d_GL_erase_58 gc_GL f_GL_81.1 f_GL_81.2.1 f_GL_81.2.2.1 (gl_1 hX 0) (gl_2 hX (a := 0) (by decide)) (gl_s0 hX) f_GL_81.2.2.2.2.1 (fun h16 => ?_)
        have T := T h16
        have h17 := T.1
        refine xaald d_GL_erase_61 (Or.inr rfl) (gl_1 hX 23) (gl_2 hX (a := 23) (by decide)) (gl_s hX 23 rfl) (g32_n h17 (by decide)) h17.1 h17.2 rfl ?_
        have T := T.2
        refine wp_aload_n d_GL_erase_62 rfl rfl (g_nz (gl_1 hX 0)) ?_
        refine xgetR d_GL_erase_63 gc_GL f_GL_45.1 f_GL_45.2.1 f_GL_45.2.2.1 (gl_1 hX 0) (gl_2 hX (a := 0) (by decide)) (gl_s0 hX) f_GL_45.2.2.2.2.1 hs4.1 ?_
        refine xcV_V (md' := true) (As := [gR G (X.2.2 (c + 23) (Int.toNat (M15 c 8))), gR G s4]) (st := []) d_GL_erase_66 ca_Ed_open ml_GL_84 im_Ed_open se_Ed_open gc_Ed (gl_1 hX 21) (gl_2 hX (a := 21) (by decide)) (gl_s hX 21 rfl) rfl (by decide) (by decide) rfl (fun _ => rfl) (fun _ => rfl) T (fun M18 T => ?_)
        refine wp_aload_n d_GL_erase_69 rfl rfl (g_nz (gl_1 hX 0)) ?_
        refine wp_aload_n d_GL_erase_70 rfl rfl (g_nz (gl_1 hX 0)) ?_
        refine xgetR d_GL_erase_71 gc_GL f_GL_34.1 f_GL_34.2.1 f_GL_34.2.2.1 (gl_1 hX 0) (gl_2 hX (a := 0) (by decide)) (gl_s0 hX) f_GL_34.2.2.2.2.1 (gl_f0 hX 23 rfl) ?_
        refine wp_iload_n d_GL_erase_74 rfl rfl ?_
        refine wp_iconst d_GL_erase_75 ?_
        refine wp_iload_n d_GL_erase_76 rfl rfl ?_
        refine wp_iload_n d_GL_erase_77 rfl rfl ?_
        refine xcV_Z (md' := true) (As := [gI x1, gI 0, gI x2, gI x3]) (st := [gR G c]) d_GL_erase_78 ca_Ed_shifted ml_GL_111 im_Ed_shifted se_Ed_shifted gc_Ed (gl_1 hX 21) (gl_2 hX (a := 21) (by decide)) (gl_s hX 21 rfl) rfl (by decide) (by simp only [List.map, gR_cat, gI_cat, gL_cat, List.sum_cons, List.sum_nil]; decide) rfl (fun _ => rfl) (fun _ => rfl) T (fun v20 M19 h21 T => ?_)
        refine xcV_V (md' := true) (As := [gI v20]) (st := []) d_GL_erase_81 ca_GL_land ml_GL_96 im_GL_land se_GL_land gc_GL (gl_1 hX 0) (gl_2 hX (a := 0) (by decide)) (gl_s0 hX) rfl (by decide) (by decide) rfl (fun _ => rfl) (fun _ => rfl) T (fun M22 T => ?_)
        refine wp_aload_n d_GL_erase_84 rfl rfl (g_nz (gl_1 hX 0)) ?_
        refine xgetR d_GL_erase_85 gc_GL f_GL_54.1 f_GL_54.2.1 f_GL_54.2.2.1 (gl_1 hX 0) (gl_2 hX (a := 0) (by decide)) (gl_s0 hX) f_GL_54.2.2.2.2.1 (gl_f0 hX 27 rfl) ?_
        refine wp_aload_n d_GL_erase_88 rfl rfl (g_nz (gl_1 hX 0)) ?_
        refine xgetR d_GL_erase_89 gc_GL f_GL_40.1 f_GL_40.2.1 f_GL_40.2.2.1 (gl_1 hX 0) (gl_2 hX (a := 0) (by decide)) (gl_s0 hX) f_GL_40.2.2.2.2.1 (gl_f0 hX 26 rfl) ?_
        refine wp_aload_n d_GL_erase_92 rfl rfl (g_nz (gl_1 hX 0)) ?_
        refine xgetI d_GL_erase_93 gc_GL f_GL_81.1 f_GL_81.2.1 f_GL_81.2.2.1 (gl_1 hX 0) (gl_2 hX (a := 0) (by decide)) (gl_s0 hX) f_GL_81.2.2.2.2.1 (fun h23 => ?_)
        have T := T h23
        have h24 := T.1
        refine xaald d_GL_erase_96 (Or.inr rfl) (gl_1 hX 23) (gl_2 hX (a := 23) (by decide)) (gl_s hX 23 rfl) (g32_n h24 (by decide)) h24.1 h24.2 rfl ?_
        have T := T.2
        refine xcV_I (md' := true) (As := [gR G (X.2.2 (c + 23) (Int.toNat (M22 c 8)))]) (st := []) d_GL_erase_97 ca_Rs_follow ml_GL_99 im_Rs_follow se_Rs_follow gc_Rs (gl_1 hX 234) (gl_2 hX (a := 234) (by decide)) (gl_s hX 24 rfl) rfl (by decide) (by decide) rfl (fun _ => rfl) (fun _ => rfl) T (fun v26 M25 h27 T => ?_)
        exact wp_ireturn d_GL_erase_100 rfl (fun _ => rfl) (Nat.zero_le _) (Nat.zero_le _) (kI_mk h27 T)
      · have T := T.2 h58
        refine wp_iload_n d_GL_erase_31 rfl rfl ?_
        refine wp_iload_n d_GL_erase_32 rfl rfl ?_
        refine xcS_I (md' := false) (As := [gI x1]) (st := [gI x3]) d_GL_erase_33 ca_GL_lines ml_GL_107 sm_GL_lines rfl (by decide) (by simp only [List.map, gR_cat, gI_cat, gL_cat, List.sum_cons, List.sum_nil]; decide) rfl id id T (fun v29 M28 h30 T => ?_)
        refine wp_iload_n d_GL_erase_36 rfl rfl ?_
        refine wp_isub d_GL_erase_37 ?_
        refine xi_gt (tgt := 45) d_GL_erase_38 (by decide) (w32_id hx3) rfl (fun h57 => ?_) (fun h57 => ?_)
        · have T := T.1 h57
          refine wp_iconst d_GL_erase_45 ?_
          refine xcS_V (md' := false) (As := [gI 0]) (st := []) d_GL_erase_46 ca_GL_need ml_GL_69 sm_GL_need rfl (by decide) (by decide) rfl id id T (fun M31 T => ?_)
          refine wp_aload_n d_GL_erase_49 rfl rfl (g_nz (gl_1 hX 0)) ?_
          refine xgetR d_GL_erase_50 gc_GL f_GL_34.1 f_GL_34.2.1 f_GL_34.2.2.1 (gl_1 hX 0) (gl_2 hX (a := 0) (by decide)) (gl_s0 hX) f_GL_34.2.2.2.2.1 (gl_f0 hX 23 rfl) ?_
          refine wp_aload_n d_GL_erase_53 rfl rfl (g_nz (gl_1 hX 0)) ?_
          refine xgetR d_GL_erase_54 gc_GL f_GL_40.1 f_GL_40.2.1 f_GL_40.2.2.1 (gl_1 hX 0) (gl_2 hX (a := 0) (by decide)) (gl_s0 hX) f_GL_40.2.2.2.2.1 (gl_f0 hX 26 rfl) ?_
          refine wp_aload_n d_GL_erase_57 rfl rfl (g_nz (gl_1 hX 0)) ?_
          refine xgetI d_GL_erase_58 gc_GL f_GL_81.1 f_GL_81.2.1 f_GL_81.2.2.1 (gl_1 hX 0) (gl_2 hX (a := 0) (by decide)) (gl_s0 hX) f_GL_81.2.2.2.2.1 (fun h32 => ?_)
          have T := T h32
          have h33 := T.1
          refine xaald d_GL_erase_61 (Or.inr rfl) (gl_1 hX 23) (gl_2 hX (a := 23) (by decide)) (gl_s hX 23 rfl) (g32_n h33 (by decide)) h33.1 h33.2 rfl ?_
          have T := T.2
          refine wp_aload_n d_GL_erase_62 rfl rfl (g_nz (gl_1 hX 0)) ?_
          refine xgetR d_GL_erase_63 gc_GL f_GL_45.1 f_GL_45.2.1 f_GL_45.2.2.1 (gl_1 hX 0) (gl_2 hX (a := 0) (by decide)) (gl_s0 hX) f_GL_45.2.2.2.2.1 hs4.1 ?_
          refine xcV_V (md' := true) (As := [gR G (X.2.2 (c + 23) (Int.toNat (M31 c 8))), gR G s4]) (st := []) d_GL_erase_66 ca_Ed_open ml_GL_84 im_Ed_open se_Ed_open gc_Ed (gl_1 hX 21) (gl_2 hX (a := 21) (by decide)) (gl_s hX 21 rfl) rfl (by decide) (by decide) rfl (fun _ => rfl) (fun _ => rfl) T (fun M34 T => ?_)
          refine wp_aload_n d_GL_erase_69 rfl rfl (g_nz (gl_1 hX 0)) ?_
          refine wp_aload_n d_GL_erase_70 rfl rfl (g_nz (gl_1 hX 0)) ?_
          refine xgetR d_GL_erase_71 gc_GL f_GL_34.1 f_GL_34.2.1 f_GL_34.2.2.1 (gl_1 hX 0) (gl_2 hX (a := 0) (by decide)) (gl_s0 hX) f_GL_34.2.2.2.2.1 (gl_f0 hX 23 rfl) ?_
          refine wp_iload_n d_GL_erase_74 rfl rfl ?_
          refine wp_iconst d_GL_erase_75 ?_
          refine wp_iload_n d_GL_erase_76 rfl rfl ?_
          refine wp_iload_n d_GL_erase_77 rfl rfl ?_
          refine xcV_Z (md' := true) (As := [gI x1, gI 0, gI x2, gI x3]) (st := [gR G c]) d_GL_erase_78 ca_Ed_shifted ml_GL_111 im_Ed_shifted se_Ed_shifted gc_Ed (gl_1 hX 21) (gl_2 hX (a := 21) (by decide)) (gl_s hX 21 rfl) rfl (by decide) (by simp only [List.map, gR_cat, gI_cat, gL_cat, List.sum_cons, List.sum_nil]; decide) rfl (fun _ => rfl) (fun _ => rfl) T (fun v36 M35 h37 T => ?_)
          refine xcV_V (md' := true) (As := [gI v36]) (st := []) d_GL_erase_81 ca_GL_land ml_GL_96 im_GL_land se_GL_land gc_GL (gl_1 hX 0) (gl_2 hX (a := 0) (by decide)) (gl_s0 hX) rfl (by decide) (by decide) rfl (fun _ => rfl) (fun _ => rfl) T (fun M38 T => ?_)
          refine wp_aload_n d_GL_erase_84 rfl rfl (g_nz (gl_1 hX 0)) ?_
          refine xgetR d_GL_erase_85 gc_GL f_GL_54.1 f_GL_54.2.1 f_GL_54.2.2.1 (gl_1 hX 0) (gl_2 hX (a := 0) (by decide)) (gl_s0 hX) f_GL_54.2.2.2.2.1 (gl_f0 hX 27 rfl) ?_
          refine wp_aload_n d_GL_erase_88 rfl rfl (g_nz (gl_1 hX 0)) ?_
          refine xgetR d_GL_erase_89 gc_GL f_GL_40.1 f_GL_40.2.1 f_GL_40.2.2.1 (gl_1 hX 0) (gl_2 hX (a := 0) (by decide)) (gl_s0 hX) f_GL_40.2.2.2.2.1 (gl_f0 hX 26 rfl) ?_
          refine wp_aload_n d_GL_erase_92 rfl rfl (g_nz (gl_1 hX 0)) ?_
          refine xgetI d_GL_erase_93 gc_GL f_GL_81.1 f_GL_81.2.1 f_GL_81.2.2.1 (gl_1 hX 0) (gl_2 hX (a := 0) (by decide)) (gl_s0 hX) f_GL_81.2.2.2.2.1 (fun h39 => ?_)
          have T := T h39
          have h40 := T.1
          refine xaald d_GL_erase_96 (Or.inr rfl) (gl_1 hX 23) (gl_2 hX (a := 23) (by decide)) (gl_s hX 23 rfl) (g32_n h40 (by decide)) h40.1 h40.2 rfl ?_
          have T := T.2
          refine xcV_I (md' := true) (As := [gR G (X.2.2 (c + 23) (Int.toNat (M38 c 8)))]) (st := []) d_GL_erase_97 ca_Rs_follow ml_GL_99 im_Rs_follow se_Rs_follow gc_Rs (gl_1 hX 234) (gl_2 hX (a := 234) (by decide)) (gl_s hX 24 rfl) rfl (by decide) (by decide) rfl (fun _ => rfl) (fun _ => rfl) T (fun v42 M41 h43 T => ?_)
          exact wp_ireturn d_GL_erase_100 rfl (fun _ => rfl) (Nat.zero_le _) (Nat.zero_le _) (kI_mk h43 T)
        · have T := T.2 h57
          refine wp_iconst d_GL_erase_41 ?_
          refine wp_goto (tgt := 46) d_GL_erase_42 (by decide) ?_
          refine xcS_V (md' := false) (As := [gI 1]) (st := []) d_GL_erase_46 ca_GL_need ml_GL_69 sm_GL_need rfl (by decide) (by decide) rfl id id T (fun M44 T => ?_)
          refine wp_aload_n d_GL_erase_49 rfl rfl (g_nz (gl_1 hX 0)) ?_
          refine xgetR d_GL_erase_50 gc_GL f_GL_34.1 f_GL_34.2.1 f_GL_34.2.2.1 (gl_1 hX 0) (gl_2 hX (a := 0) (by decide)) (gl_s0 hX) f_GL_34.2.2.2.2.1 (gl_f0 hX 23 rfl) ?_
          refine wp_aload_n d_GL_erase_53 rfl rfl (g_nz (gl_1 hX 0)) ?_
          refine xgetR d_GL_erase_54 gc_GL f_GL_40.1 f_GL_40.2.1 f_GL_40.2.2.1 (gl_1 hX 0) (gl_2 hX (a := 0) (by decide)) (gl_s0 hX) f_GL_40.2.2.2.2.1 (gl_f0 hX 26 rfl) ?_
          refine wp_aload_n d_GL_erase_57 rfl rfl (g_nz (gl_1 hX 0)) ?_
          refine xgetI d_GL_erase_58 gc_GL f_GL_81.1 f_GL_81.2.1 f_GL_81.2.2.1 (gl_1 hX 0) (gl_2 hX (a := 0) (by decide)) (gl_s0 hX) f_GL_81.2.2.2.2.1 (fun h45 => ?_)
          have T := T h45
          have h46 := T.1
          refine xaald d_GL_erase_61 (Or.inr rfl) (gl_1 hX 23) (gl_2 hX (a := 23) (by decide)) (gl_s hX 23 rfl) (g32_n h46 (by decide)) h46.1 h46.2 rfl ?_
          have T := T.2
          refine wp_aload_n d_GL_erase_62 rfl rfl (g_nz (gl_1 hX 0)) ?_
          refine xgetR d_GL_erase_63 gc_GL f_GL_45.1 f_GL_45.2.1 f_GL_45.2.2.1 (gl_1 hX 0) (gl_2 hX (a := 0) (by decide)) (gl_s0 hX) f_GL_45.2.2.2.2.1 hs4.1 ?_
          refine xcV_V (md' := true) (As := [gR G (X.2.2 (c + 23) (Int.toNat (M44 c 8))), gR G s4]) (st := []) d_GL_erase_66 ca_Ed_open ml_GL_84 im_Ed_open se_Ed_open gc_Ed (gl_1 hX 21) (gl_2 hX (a := 21) (by decide)) (gl_s hX 21 rfl) rfl (by decide) (by decide) rfl (fun _ => rfl) (fun _ => rfl) T (fun M47 T => ?_)
          refine wp_aload_n d_GL_erase_69 rfl rfl (g_nz (gl_1 hX 0)) ?_
          refine wp_aload_n d_GL_erase_70 rfl rfl (g_nz (gl_1 hX 0)) ?_
          refine xgetR d_GL_erase_71 gc_GL f_GL_34.1 f_GL_34.2.1 f_GL_34.2.2.1 (gl_1 hX 0) (gl_2 hX (a := 0) (by decide)) (gl_s0 hX) f_GL_34.2.2.2.2.1 (gl_f0 hX 23 rfl) ?_
          refine wp_iload_n d_GL_erase_74 rfl rfl ?_
          refine wp_iconst d_GL_erase_75 ?_
          refine wp_iload_n d_GL_erase_76 rfl rfl ?_
          refine wp_iload_n d_GL_erase_77 rfl rfl ?_
          refine xcV_Z (md' := true) (As := [gI x1, gI 0, gI x2, gI x3]) (st := [gR G c]) d_GL_erase_78 ca_Ed_shifted ml_GL_111 im_Ed_shifted se_Ed_shifted gc_Ed (gl_1 hX 21) (gl_2 hX (a := 21) (by decide)) (gl_s hX 21 rfl) rfl (by decide) (by simp only [List.map, gR_cat, gI_cat, gL_cat, List.sum_cons, List.sum_nil]; decide) rfl (fun _ => rfl) (fun _ => rfl) T (fun v49 M48 h50 T => ?_)
          refine xcV_V (md' := true) (As := [gI v49]) (st := []) d_GL_erase_81 ca_GL_land ml_GL_96 im_GL_land se_GL_land gc_GL (gl_1 hX 0) (gl_2 hX (a := 0) (by decide)) (gl_s0 hX) rfl (by decide) (by decide) rfl (fun _ => rfl) (fun _ => rfl) T (fun M51 T => ?_)
          refine wp_aload_n d_GL_erase_84 rfl rfl (g_nz (gl_1 hX 0)) ?_
          refine xgetR d_GL_erase_85 gc_GL f_GL_54.1 f_GL_54.2.1 f_GL_54.2.2.1 (gl_1 hX 0) (gl_2 hX (a := 0) (by decide)) (gl_s0 hX) f_GL_54.2.2.2.2.1 (gl_f0 hX 27 rfl) ?_
          refine wp_aload_n d_GL_erase_88 rfl rfl (g_nz (gl_1 hX 0)) ?_
          refine xgetR d_GL_erase_89 gc_GL f_GL_40.1 f_GL_40.2.1 f_GL_40.2.2.1 (gl_1 hX 0) (gl_2 hX (a := 0) (by decide)) (gl_s0 hX) f_GL_40.2.2.2.2.1 (gl_f0 hX 26 rfl) ?_
          refine wp_aload_n d_GL_erase_92 rfl rfl (g_nz (gl_1 hX 0)) ?_
          refine xgetI d_GL_erase_93 gc_GL f_GL_81.1 f_GL_81.2.1 f_GL_81.2.2.1 (gl_1 hX 0) (gl_2 hX (a := 0) (by decide)) (gl_s0 hX) f_GL_81.2.2.2.2.1 (fun h52 => ?_)
          have T := T h52
          have h53 := T.1
          refine xaald d_GL_erase_96 (Or.inr rfl) (gl_1 hX 23) (gl_2 hX (a := 23) (by decide)) (gl_s hX 23 rfl) (g32_n h53 (by decide)) h53.1 h53.2 rfl ?_
          have T := T.2
          refine xcV_I (md' := true) (As := [gR G (X.2.2 (c + 23) (Int.toNat (M51 c 8)))]) (st := []) d_GL_erase_97 ca_Rs_follow ml_GL_99 im_Rs_follow se_Rs_follow gc_Rs (gl_1 hX 234) (gl_2 hX (a := 234) (by decide)) (gl_s hX 24 rfl) rfl (by decide) (by decide) rfl (fun _ => rfl) (fun _ => rfl) T (fun v55 M54 h56 T => ?_)
          exact wp_ireturn d_GL_erase_100 rfl (fun _ => rfl) (Nat.zero_le _) (Nat.zero_le _) (kI_mk h56 T)
  · have T := T.2 h182
    refine wp_iload_n d_GL_erase_4 rfl rfl ?_
    refine wp_iload_n d_GL_erase_5 rfl rfl ?_
    refine xcS_I (md' := false) (As := [gI x1]) (st := [gI x2]) d_GL_erase_6 ca_GL_lines ml_GL_107 sm_GL_lines rfl (by decide) (by simp only [List.map, gR_cat, gI_cat, gL_cat, List.sum_cons, List.sum_nil]; decide) rfl id id T (fun v61 M60 h62 T => ?_)
    refine xi_ge (tgt := 16) d_GL_erase_9 (by decide) (w32_id hx2) (w32_id h62) (fun h181 => ?_) (fun h181 => ?_)
    · have T := T.1 h181
      refine wp_iconst d_GL_erase_16 ?_
      refine xcS_V (md' := false) (As := [gI 0]) (st := []) d_GL_erase_17 ca_GL_need ml_GL_69 sm_GL_need rfl (by decide) (by decide) rfl id id T (fun M63 T => ?_)
      refine wp_iload_n d_GL_erase_20 rfl rfl ?_
      refine wp_iconst d_GL_erase_21 ?_
      refine xi_lt (tgt := 45) d_GL_erase_22 (by decide) (w32_id hx3) (w32_id (g32_c (x := 1) rfl)) (fun h121 => ?_) (fun h121 => ?_)
      · have T := T.1 h121
        refine wp_iconst d_GL_erase_45 ?_
        refine xcS_V (md' := false) (As := [gI 0]) (st := []) d_GL_erase_46 ca_GL_need ml_GL_69 sm_GL_need rfl (by decide) (by decide) rfl id id T (fun M64 T => ?_)
        refine wp_aload_n d_GL_erase_49 rfl rfl (g_nz (gl_1 hX 0)) ?_
        refine xgetR d_GL_erase_50 gc_GL f_GL_34.1 f_GL_34.2.1 f_GL_34.2.2.1 (gl_1 hX 0) (gl_2 hX (a := 0) (by decide)) (gl_s0 hX) f_GL_34.2.2.2.2.1 (gl_f0 hX 23 rfl) ?_
        refine wp_aload_n d_GL_erase_53 rfl rfl (g_nz (gl_1 hX 0)) ?_
        refine xgetR d_GL_erase_54 gc_GL f_GL_40.1 f_GL_40.2.1 f_GL_40.2.2.1 (gl_1 hX 0) (gl_2 hX (a := 0) (by decide)) (gl_s0 hX) f_GL_40.2.2.2.2.1 (gl_f0 hX 26 rfl) ?_
        refine wp_aload_n d_GL_erase_57 rfl rfl (g_nz (gl_1 hX 0)) ?_
        refine xgetI d_GL_erase_58 gc_GL f_GL_81.1 f_GL_81.2.1 f_GL_81.2.2.1 (gl_1 hX 0) (gl_2 hX (a := 0) (by decide)) (gl_s0 hX) f_GL_81.2.2.2.2.1 (fun h65 => ?_)
        have T := T h65
        have h66 := T.1
        refine xaald d_GL_erase_61 (Or.inr rfl) (gl_1 hX 23) (gl_2 hX (a := 23) (by decide)) (gl_s hX 23 rfl) (g32_n h66 (by decide)) h66.1 h66.2 rfl ?_
        have T := T.2
        refine wp_aload_n d_GL_erase_62 rfl rfl (g_nz (gl_1 hX 0)) ?_
        refine xgetR d_GL_erase_63 gc_GL f_GL_45.1 f_GL_45.2.1 f_GL_45.2.2.1 (gl_1 hX 0) (gl_2 hX (a := 0) (by decide)) (gl_s0 hX) f_GL_45.2.2.2.2.1 hs4.1 ?_
        refine xcV_V (md' := true) (As := [gR G (X.2.2 (c + 23) (Int.toNat (M64 c 8))), gR G s4]) (st := []) d_GL_erase_66 ca_Ed_open ml_GL_84 im_Ed_open se_Ed_open gc_Ed (gl_1 hX 21) (gl_2 hX (a := 21) (by decide)) (gl_s hX 21 rfl) rfl (by decide) (by decide) rfl (fun _ => rfl) (fun _ => rfl) T (fun M67 T => ?_)
        refine wp_aload_n d_GL_erase_69 rfl rfl (g_nz (gl_1 hX 0)) ?_
        refine wp_aload_n d_GL_erase_70 rfl rfl (g_nz (gl_1 hX 0)) ?_
        refine xgetR d_GL_erase_71 gc_GL f_GL_34.1 f_GL_34.2.1 f_GL_34.2.2.1 (gl_1 hX 0) (gl_2 hX (a := 0) (by decide)) (gl_s0 hX) f_GL_34.2.2.2.2.1 (gl_f0 hX 23 rfl) ?_
        refine wp_iload_n d_GL_erase_74 rfl rfl ?_
        refine wp_iconst d_GL_erase_75 ?_
        refine wp_iload_n d_GL_erase_76 rfl rfl ?_
        refine wp_iload_n d_GL_erase_77 rfl rfl ?_
        refine xcV_Z (md' := true) (As := [gI x1, gI 0, gI x2, gI x3]) (st := [gR G c]) d_GL_erase_78 ca_Ed_shifted ml_GL_111 im_Ed_shifted se_Ed_shifted gc_Ed (gl_1 hX 21) (gl_2 hX (a := 21) (by decide)) (gl_s hX 21 rfl) rfl (by decide) (by simp only [List.map, gR_cat, gI_cat, gL_cat, List.sum_cons, List.sum_nil]; decide) rfl (fun _ => rfl) (fun _ => rfl) T (fun v69 M68 h70 T => ?_)
        refine xcV_V (md' := true) (As := [gI v69]) (st := []) d_GL_erase_81 ca_GL_land ml_GL_96 im_GL_land se_GL_land gc_GL (gl_1 hX 0) (gl_2 hX (a := 0) (by decide)) (gl_s0 hX) rfl (by decide) (by decide) rfl (fun _ => rfl) (fun _ => rfl) T (fun M71 T => ?_)
        refine wp_aload_n d_GL_erase_84 rfl rfl (g_nz (gl_1 hX 0)) ?_
        refine xgetR d_GL_erase_85 gc_GL f_GL_54.1 f_GL_54.2.1 f_GL_54.2.2.1 (gl_1 hX 0) (gl_2 hX (a := 0) (by decide)) (gl_s0 hX) f_GL_54.2.2.2.2.1 (gl_f0 hX 27 rfl) ?_
        refine wp_aload_n d_GL_erase_88 rfl rfl (g_nz (gl_1 hX 0)) ?_
        refine xgetR d_GL_erase_89 gc_GL f_GL_40.1 f_GL_40.2.1 f_GL_40.2.2.1 (gl_1 hX 0) (gl_2 hX (a := 0) (by decide)) (gl_s0 hX) f_GL_40.2.2.2.2.1 (gl_f0 hX 26 rfl) ?_
        refine wp_aload_n d_GL_erase_92 rfl rfl (g_nz (gl_1 hX 0)) ?_
        refine xgetI d_GL_erase_93 gc_GL f_GL_81.1 f_GL_81.2.1 f_GL_81.2.2.1 (gl_1 hX 0) (gl_2 hX (a := 0) (by decide)) (gl_s0 hX) f_GL_81.2.2.2.2.1 (fun h72 => ?_)
        have T := T h72
        have h73 := T.1
        refine xaald d_GL_erase_96 (Or.inr rfl) (gl_1 hX 23) (gl_2 hX (a := 23) (by decide)) (gl_s hX 23 rfl) (g32_n h73 (by decide)) h73.1 h73.2 rfl ?_
        have T := T.2
        refine xcV_I (md' := true) (As := [gR G (X.2.2 (c + 23) (Int.toNat (M71 c 8)))]) (st := []) d_GL_erase_97 ca_Rs_follow ml_GL_99 im_Rs_follow se_Rs_follow gc_Rs (gl_1 hX 234) (gl_2 hX (a := 234) (by decide)) (gl_s hX 24 rfl) rfl (by decide) (by decide) rfl (fun _ => rfl) (fun _ => rfl) T (fun v75 M74 h76 T => ?_)
        exact wp_ireturn d_GL_erase_100 rfl (fun _ => rfl) (Nat.zero_le _) (Nat.zero_le _) (kI_mk h76 T)
      · have T := T.2 h121
        refine wp_iload_n d_GL_erase_25 rfl rfl ?_
        refine wp_bipush d_GL_erase_26 ⟨by decide, by decide⟩ ?_
        refine xi_gt (tgt := 45) d_GL_erase_28 (by decide) (w32_id hx3) (w32_id (g32_c (x := 50) rfl)) (fun h120 => ?_) (fun h120 => ?_)
        · have T := T.1 h120
          refine wp_iconst d_GL_erase_45 ?_
          refine xcS_V (md' := false) (As := [gI 0]) (st := []) d_GL_erase_46 ca_GL_need ml_GL_69 sm_GL_need rfl (by decide) (by decide) rfl id id T (fun M77 T => ?_)
          refine wp_aload_n d_GL_erase_49 rfl rfl (g_nz (gl_1 hX 0)) ?_
          refine xgetR d_GL_erase_50 gc_GL f_GL_34.1 f_GL_34.2.1 f_GL_34.2.2.1 (gl_1 hX 0) (gl_2 hX (a := 0) (by decide)) (gl_s0 hX) f_GL_34.2.2.2.2.1 (gl_f0 hX 23 rfl) ?_
          refine wp_aload_n d_GL_erase_53 rfl rfl (g_nz (gl_1 hX 0)) ?_
          refine xgetR d_GL_erase_54 gc_GL f_GL_40.1 f_GL_40.2.1 f_GL_40.2.2.1 (gl_1 hX 0) (gl_2 hX (a := 0) (by decide)) (gl_s0 hX) f_GL_40.2.2.2.2.1 (gl_f0 hX 26 rfl) ?_
          refine wp_aload_n d_GL_erase_57 rfl rfl (g_nz (gl_1 hX 0)) ?_
          refine xgetI d_GL_erase_58 gc_GL f_GL_81.1 f_GL_81.2.1 f_GL_81.2.2.1 (gl_1 hX 0) (gl_2 hX (a := 0) (by decide)) (gl_s0 hX) f_GL_81.2.2.2.2.1 (fun h78 => ?_)
          have T := T h78
          have h79 := T.1
          refine xaald d_GL_erase_61 (Or.inr rfl) (gl_1 hX 23) (gl_2 hX (a := 23) (by decide)) (gl_s hX 23 rfl) (g32_n h79 (by decide)) h79.1 h79.2 rfl ?_
          have T := T.2
          refine wp_aload_n d_GL_erase_62 rfl rfl (g_nz (gl_1 hX 0)) ?_
          refine xgetR d_GL_erase_63 gc_GL f_GL_45.1 f_GL_45.2.1 f_GL_45.2.2.1 (gl_1 hX 0) (gl_2 hX (a := 0) (by decide)) (gl_s0 hX) f_GL_45.2.2.2.2.1 hs4.1 ?_
          refine xcV_V (md' := true) (As := [gR G (X.2.2 (c + 23) (Int.toNat (M77 c 8))), gR G s4]) (st := []) d_GL_erase_66 ca_Ed_open ml_GL_84 im_Ed_open se_Ed_open gc_Ed (gl_1 hX 21) (gl_2 hX (a := 21) (by decide)) (gl_s hX 21 rfl) rfl (by decide) (by decide) rfl (fun _ => rfl) (fun _ => rfl) T (fun M80 T => ?_)
          refine wp_aload_n d_GL_erase_69 rfl rfl (g_nz (gl_1 hX 0)) ?_
          refine wp_aload_n d_GL_erase_70 rfl rfl (g_nz (gl_1 hX 0)) ?_
          refine xgetR d_GL_erase_71 gc_GL f_GL_34.1 f_GL_34.2.1 f_GL_34.2.2.1 (gl_1 hX 0) (gl_2 hX (a := 0) (by decide)) (gl_s0 hX) f_GL_34.2.2.2.2.1 (gl_f0 hX 23 rfl) ?_
          refine wp_iload_n d_GL_erase_74 rfl rfl ?_
          refine wp_iconst d_GL_erase_75 ?_
          refine wp_iload_n d_GL_erase_76 rfl rfl ?_
          refine wp_iload_n d_GL_erase_77 rfl rfl ?_
          refine xcV_Z (md' := true) (As := [gI x1, gI 0, gI x2, gI x3]) (st := [gR G c]) d_GL_erase_78 ca_Ed_shifted ml_GL_111 im_Ed_shifted se_Ed_shifted gc_Ed (gl_1 hX 21) (gl_2 hX (a := 21) (by decide)) (gl_s hX 21 rfl) rfl (by decide) (by simp only [List.map, gR_cat, gI_cat, gL_cat, List.sum_cons, List.sum_nil]; decide) rfl (fun _ => rfl) (fun _ => rfl) T (fun v82 M81 h83 T => ?_)
          refine xcV_V (md' := true) (As := [gI v82]) (st := []) d_GL_erase_81 ca_GL_land ml_GL_96 im_GL_land se_GL_land gc_GL (gl_1 hX 0) (gl_2 hX (a := 0) (by decide)) (gl_s0 hX) rfl (by decide) (by decide) rfl (fun _ => rfl) (fun _ => rfl) T (fun M84 T => ?_)
          refine wp_aload_n d_GL_erase_84 rfl rfl (g_nz (gl_1 hX 0)) ?_
          refine xgetR d_GL_erase_85 gc_GL f_GL_54.1 f_GL_54.2.1 f_GL_54.2.2.1 (gl_1 hX 0) (gl_2 hX (a := 0) (by decide)) (gl_s0 hX) f_GL_54.2.2.2.2.1 (gl_f0 hX 27 rfl) ?_
          refine wp_aload_n d_GL_erase_88 rfl rfl (g_nz (gl_1 hX 0)) ?_
          refine xgetR d_GL_erase_89 gc_GL f_GL_40.1 f_GL_40.2.1 f_GL_40.2.2.1 (gl_1 hX 0) (gl_2 hX (a := 0) (by decide)) (gl_s0 hX) f_GL_40.2.2.2.2.1 (gl_f0 hX 26 rfl) ?_
          refine wp_aload_n d_GL_erase_92 rfl rfl (g_nz (gl_1 hX 0)) ?_
          refine xgetI d_GL_erase_93 gc_GL f_GL_81.1 f_GL_81.2.1 f_GL_81.2.2.1 (gl_1 hX 0) (gl_2 hX (a := 0) (by decide)) (gl_s0 hX) f_GL_81.2.2.2.2.1 (fun h85 => ?_)
          have T := T h85
          have h86 := T.1
          refine xaald d_GL_erase_96 (Or.inr rfl) (gl_1 hX 23) (gl_2 hX (a := 23) (by decide)) (gl_s hX 23 rfl) (g32_n h86 (by decide)) h86.1 h86.2 rfl ?_
          have T := T.2
          refine xcV_I (md' := true) (As := [gR G (X.2.2 (c + 23) (Int.toNat (M84 c 8)))]) (st := []) d_GL_erase_97 ca_Rs_follow ml_GL_99 im_Rs_follow se_Rs_follow gc_Rs (gl_1 hX 234) (gl_2 hX (a := 234) (by decide)) (gl_s hX 24 rfl) rfl (by decide) (by decide) rfl (fun _ => rfl) (fun _ => rfl) T (fun v88 M87 h89 T => ?_)
          exact wp_ireturn d_GL_erase_100 rfl (fun _ => rfl) (Nat.zero_le _) (Nat.zero_le _) (kI_mk h89 T)
        · have T := T.2 h120
          refine wp_iload_n d_GL_erase_31 rfl rfl ?_
          refine wp_iload_n d_GL_erase_32 rfl rfl ?_
          refine xcS_I (md' := false) (As := [gI x1]) (st := [gI x3]) d_GL_erase_33 ca_GL_lines ml_GL_107 sm_GL_lines rfl (by decide) (by simp only [List.map, gR_cat, gI_cat, gL_cat, List.sum_cons, List.sum_nil]; decide) rfl id id T (fun v91 M90 h92 T => ?_)
          refine wp_iload_n d_GL_erase_36 rfl rfl ?_
          refine wp_isub d_GL_erase_37 ?_
          refine xi_gt (tgt := 45) d_GL_erase_38 (by decide) (w32_id hx3) rfl (fun h119 => ?_) (fun h119 => ?_)
          · have T := T.1 h119
            refine wp_iconst d_GL_erase_45 ?_
            refine xcS_V (md' := false) (As := [gI 0]) (st := []) d_GL_erase_46 ca_GL_need ml_GL_69 sm_GL_need rfl (by decide) (by decide) rfl id id T (fun M93 T => ?_)
            refine wp_aload_n d_GL_erase_49 rfl rfl (g_nz (gl_1 hX 0)) ?_
            refine xgetR d_GL_erase_50 gc_GL f_GL_34.1 f_GL_34.2.1 f_GL_34.2.2.1 (gl_1 hX 0) (gl_2 hX (a := 0) (by decide)) (gl_s0 hX) f_GL_34.2.2.2.2.1 (gl_f0 hX 23 rfl) ?_
            refine wp_aload_n d_GL_erase_53 rfl rfl (g_nz (gl_1 hX 0)) ?_
            refine xgetR d_GL_erase_54 gc_GL f_GL_40.1 f_GL_40.2.1 f_GL_40.2.2.1 (gl_1 hX 0) (gl_2 hX (a := 0) (by decide)) (gl_s0 hX) f_GL_40.2.2.2.2.1 (gl_f0 hX 26 rfl) ?_
            refine wp_aload_n d_GL_erase_57 rfl rfl (g_nz (gl_1 hX 0)) ?_
            refine xgetI d_GL_erase_58 gc_GL f_GL_81.1 f_GL_81.2.1 f_GL_81.2.2.1 (gl_1 hX 0) (gl_2 hX (a := 0) (by decide)) (gl_s0 hX) f_GL_81.2.2.2.2.1 (fun h94 => ?_)
            have T := T h94
            have h95 := T.1
            refine xaald d_GL_erase_61 (Or.inr rfl) (gl_1 hX 23) (gl_2 hX (a := 23) (by decide)) (gl_s hX 23 rfl) (g32_n h95 (by decide)) h95.1 h95.2 rfl ?_
            have T := T.2
            refine wp_aload_n d_GL_erase_62 rfl rfl (g_nz (gl_1 hX 0)) ?_
            refine xgetR d_GL_erase_63 gc_GL f_GL_45.1 f_GL_45.2.1 f_GL_45.2.2.1 (gl_1 hX 0) (gl_2 hX (a := 0) (by decide)) (gl_s0 hX) f_GL_45.2.2.2.2.1 hs4.1 ?_
            refine xcV_V (md' := true) (As := [gR G (X.2.2 (c + 23) (Int.toNat (M93 c 8))), gR G s4]) (st := []) d_GL_erase_66 ca_Ed_open ml_GL_84 im_Ed_open se_Ed_open gc_Ed (gl_1 hX 21) (gl_2 hX (a := 21) (by decide)) (gl_s hX 21 rfl) rfl (by decide) (by decide) rfl (fun _ => rfl) (fun _ => rfl) T (fun M96 T => ?_)
            refine wp_aload_n d_GL_erase_69 rfl rfl (g_nz (gl_1 hX 0)) ?_
            refine wp_aload_n d_GL_erase_70 rfl rfl (g_nz (gl_1 hX 0)) ?_
            refine xgetR d_GL_erase_71 gc_GL f_GL_34.1 f_GL_34.2.1 f_GL_34.2.2.1 (gl_1 hX 0) (gl_2 hX (a := 0) (by decide)) (gl_s0 hX) f_GL_34.2.2.2.2.1 (gl_f0 hX 23 rfl) ?_
            refine wp_iload_n d_GL_erase_74 rfl rfl ?_
            refine wp_iconst d_GL_erase_75 ?_
            refine wp_iload_n d_GL_erase_76 rfl rfl ?_
            refine wp_iload_n d_GL_erase_77 rfl rfl ?_
            refine xcV_Z (md' := true) (As := [gI x1, gI 0, gI x2, gI x3]) (st := [gR G c]) d_GL_erase_78 ca_Ed_shifted ml_GL_111 im_Ed_shifted se_Ed_shifted gc_Ed (gl_1 hX 21) (gl_2 hX (a := 21) (by decide)) (gl_s hX 21 rfl) rfl (by decide) (by simp only [List.map, gR_cat, gI_cat, gL_cat, List.sum_cons, List.sum_nil]; decide) rfl (fun _ => rfl) (fun _ => rfl) T (fun v98 M97 h99 T => ?_)
            refine xcV_V (md' := true) (As := [gI v98]) (st := []) d_GL_erase_81 ca_GL_land ml_GL_96 im_GL_land se_GL_land gc_GL (gl_1 hX 0) (gl_2 hX (a := 0) (by decide)) (gl_s0 hX) rfl (by decide) (by decide) rfl (fun _ => rfl) (fun _ => rfl) T (fun M100 T => ?_)
            refine wp_aload_n d_GL_erase_84 rfl rfl (g_nz (gl_1 hX 0)) ?_
            refine xgetR d_GL_erase_85 gc_GL f_GL_54.1 f_GL_54.2.1 f_GL_54.2.2.1 (gl_1 hX 0) (gl_2 hX (a := 0) (by decide)) (gl_s0 hX) f_GL_54.2.2.2.2.1 (gl_f0 hX 27 rfl) ?_
            refine wp_aload_n d_GL_erase_88 rfl rfl (g_nz (gl_1 hX 0)) ?_
            refine xgetR d_GL_erase_89 gc_GL f_GL_40.1 f_GL_40.2.1 f_GL_40.2.2.1 (gl_1 hX 0) (gl_2 hX (a := 0) (by decide)) (gl_s0 hX) f_GL_40.2.2.2.2.1 (gl_f0 hX 26 rfl) ?_
            refine wp_aload_n d_GL_erase_92 rfl rfl (g_nz (gl_1 hX 0)) ?_
            refine xgetI d_GL_erase_93 gc_GL f_GL_81.1 f_GL_81.2.1 f_GL_81.2.2.1 (gl_1 hX 0) (gl_2 hX (a := 0) (by decide)) (gl_s0 hX) f_GL_81.2.2.2.2.1 (fun h101 => ?_)
            have T := T h101
            have h102 := T.1
            refine xaald d_GL_erase_96 (Or.inr rfl) (gl_1 hX 23) (gl_2 hX (a := 23) (by decide)) (gl_s hX 23 rfl) (g32_n h102 (by decide)) h102.1 h102.2 rfl ?_
            have T := T.2
            refine xcV_I (md' := true) (As := [gR G (X.2.2 (c + 23) (Int.toNat (M100 c 8)))]) (st := []) d_GL_erase_97 ca_Rs_follow ml_GL_99 im_Rs_follow se_Rs_follow gc_Rs (gl_1 hX 234) (gl_2 hX (a := 234) (by decide)) (gl_s hX 24 rfl) rfl (by decide) (by decide) rfl (fun _ => rfl) (fun _ => rfl) T (fun v104 M103 h105 T => ?_)
            exact wp_ireturn d_GL_erase_100 rfl (fun _ => rfl) (Nat.zero_le _) (Nat.zero_le _) (kI_mk h105 T)
          · have T := T.2 h119
            refine wp_iconst d_GL_erase_41 ?_
            refine wp_goto (tgt := 46) d_GL_erase_42 (by decide) ?_
            refine xcS_V (md' := false) (As := [gI 1]) (st := []) d_GL_erase_46 ca_GL_need ml_GL_69 sm_GL_need rfl (by decide) (by decide) rfl id id T (fun M106 T => ?_)
            refine wp_aload_n d_GL_erase_49 rfl rfl (g_nz (gl_1 hX 0)) ?_
            refine xgetR d_GL_erase_50 gc_GL f_GL_34.1 f_GL_34.2.1 f_GL_34.2.2.1 (gl_1 hX 0) (gl_2 hX (a := 0) (by decide)) (gl_s0 hX) f_GL_34.2.2.2.2.1 (gl_f0 hX 23 rfl) ?_
            refine wp_aload_n d_GL_erase_53 rfl rfl (g_nz (gl_1 hX 0)) ?_
            refine xgetR d_GL_erase_54 gc_GL f_GL_40.1 f_GL_40.2.1 f_GL_40.2.2.1 (gl_1 hX 0) (gl_2 hX (a := 0) (by decide)) (gl_s0 hX) f_GL_40.2.2.2.2.1 (gl_f0 hX 26 rfl) ?_
            refine wp_aload_n d_GL_erase_57 rfl rfl (g_nz (gl_1 hX 0)) ?_
            refine xgetI d_GL_erase_58 gc_GL f_GL_81.1 f_GL_81.2.1 f_GL_81.2.2.1 (gl_1 hX 0) (gl_2 hX (a := 0) (by decide)) (gl_s0 hX) f_GL_81.2.2.2.2.1 (fun h107 => ?_)
            have T := T h107
            have h108 := T.1
            refine xaald d_GL_erase_61 (Or.inr rfl) (gl_1 hX 23) (gl_2 hX (a := 23) (by decide)) (gl_s hX 23 rfl) (g32_n h108 (by decide)) h108.1 h108.2 rfl ?_
            have T := T.2
            refine wp_aload_n d_GL_erase_62 rfl rfl (g_nz (gl_1 hX 0)) ?_
            refine xgetR d_GL_erase_63 gc_GL f_GL_45.1 f_GL_45.2.1 f_GL_45.2.2.1 (gl_1 hX 0) (gl_2 hX (a := 0) (by decide)) (gl_s0 hX) f_GL_45.2.2.2.2.1 hs4.1 ?_
            refine xcV_V (md' := true) (As := [gR G (X.2.2 (c + 23) (Int.toNat (M106 c 8))), gR G s4]) (st := []) d_GL_erase_66 ca_Ed_open ml_GL_84 im_Ed_open se_Ed_open gc_Ed (gl_1 hX 21) (gl_2 hX (a := 21) (by decide)) (gl_s hX 21 rfl) rfl (by decide) (by decide) rfl (fun _ => rfl) (fun _ => rfl) T (fun M109 T => ?_)
            refine wp_aload_n d_GL_erase_69 rfl rfl (g_nz (gl_1 hX 0)) ?_
            refine wp_aload_n d_GL_erase_70 rfl rfl (g_nz (gl_1 hX 0)) ?_
            refine xgetR d_GL_erase_71 gc_GL f_GL_34.1 f_GL_34.2.1 f_GL_34.2.2.1 (gl_1 hX 0) (gl_2 hX (a := 0) (by decide)) (gl_s0 hX) f_GL_34.2.2.2.2.1 (gl_f0 hX 23 rfl) ?_
            refine wp_iload_n d_GL_erase_74 rfl rfl ?_
            refine wp_iconst d_GL_erase_75 ?_
            refine wp_iload_n d_GL_erase_76 rfl rfl ?_
            refine wp_iload_n d_GL_erase_77 rfl rfl ?_
            refine xcV_Z (md' := true) (As := [gI x1, gI 0, gI x2, gI x3]) (st := [gR G c]) d_GL_erase_78 ca_Ed_shifted ml_GL_111 im_Ed_shifted se_Ed_shifted gc_Ed (gl_1 hX 21) (gl_2 hX (a := 21) (by decide)) (gl_s hX 21 rfl) rfl (by decide) (by simp only [List.map, gR_cat, gI_cat, gL_cat, List.sum_cons, List.sum_nil]; decide) rfl (fun _ => rfl) (fun _ => rfl) T (fun v111 M110 h112 T => ?_)
            refine xcV_V (md' := true) (As := [gI v111]) (st := []) d_GL_erase_81 ca_GL_land ml_GL_96 im_GL_land se_GL_land gc_GL (gl_1 hX 0) (gl_2 hX (a := 0) (by decide)) (gl_s0 hX) rfl (by decide) (by decide) rfl (fun _ => rfl) (fun _ => rfl) T (fun M113 T => ?_)
            refine wp_aload_n d_GL_erase_84 rfl rfl (g_nz (gl_1 hX 0)) ?_
            refine xgetR d_GL_erase_85 gc_GL f_GL_54.1 f_GL_54.2.1 f_GL_54.2.2.1 (gl_1 hX 0) (gl_2 hX (a := 0) (by decide)) (gl_s0 hX) f_GL_54.2.2.2.2.1 (gl_f0 hX 27 rfl) ?_
            refine wp_aload_n d_GL_erase_88 rfl rfl (g_nz (gl_1 hX 0)) ?_
            refine xgetR d_GL_erase_89 gc_GL f_GL_40.1 f_GL_40.2.1 f_GL_40.2.2.1 (gl_1 hX 0) (gl_2 hX (a := 0) (by decide)) (gl_s0 hX) f_GL_40.2.2.2.2.1 (gl_f0 hX 26 rfl) ?_
            refine wp_aload_n d_GL_erase_92 rfl rfl (g_nz (gl_1 hX 0)) ?_
            refine xgetI d_GL_erase_93 gc_GL f_GL_81.1 f_GL_81.2.1 f_GL_81.2.2.1 (gl_1 hX 0) (gl_2 hX (a := 0) (by decide)) (gl_s0 hX) f_GL_81.2.2.2.2.1 (fun h114 => ?_)
            have T := T h114
            have h115 := T.1
            refine xaald d_GL_erase_96 (Or.inr rfl) (gl_1 hX 23) (gl_2 hX (a := 23) (by decide)) (gl_s hX 23 rfl) (g32_n h115 (by decide)) h115.1 h115.2 rfl ?_
            have T := T.2
            refine xcV_I (md' := true) (As := [gR G (X.2.2 (c + 23) (Int.toNat (M113 c 8)))]) (st := []) d_GL_erase_97 ca_Rs_follow ml_GL_99 im_Rs_follow se_Rs_follow gc_Rs (gl_1 hX 234) (gl_2 hX (a := 234) (by decide)) (gl_s hX 24 rfl) rfl (by decide) (by decide) rfl (fun _ => rfl) (fun _ => rfl) T (fun v117 M116 h118 T => ?_)
            exact wp_ireturn d_GL_erase_100 rfl (fun _ => rfl) (Nat.zero_le _) (Nat.zero_le _) (kI_mk h118 T)
    · have T := T.2 h181
      refine wp_iconst d_GL_erase_12 ?_
      refine wp_goto (tgt := 17) d_GL_erase_13 (by decide) ?_
      refine xcS_V (md' := false) (As := [gI 1]) (st := []) d_GL_erase_17 ca_GL_need ml_GL_69 sm_GL_need rfl (by decide) (by decide) rfl id id T (fun M122 T => ?_)
      refine wp_iload_n d_GL_erase_20 rfl rfl ?_
      refine wp_iconst d_GL_erase_21 ?_
      refine xi_lt (tgt := 45) d_GL_erase_22 (by decide) (w32_id hx3) (w32_id (g32_c (x := 1) rfl)) (fun h180 => ?_) (fun h180 => ?_)
      · have T := T.1 h180
        refine wp_iconst d_GL_erase_45 ?_
        refine xcS_V (md' := false) (As := [gI 0]) (st := []) d_GL_erase_46 ca_GL_need ml_GL_69 sm_GL_need rfl (by decide) (by decide) rfl id id T (fun M123 T => ?_)
        refine wp_aload_n d_GL_erase_49 rfl rfl (g_nz (gl_1 hX 0)) ?_
        refine xgetR d_GL_erase_50 gc_GL f_GL_34.1 f_GL_34.2.1 f_GL_34.2.2.1 (gl_1 hX 0) (gl_2 hX (a := 0) (by decide)) (gl_s0 hX) f_GL_34.2.2.2.2.1 (gl_f0 hX 23 rfl) ?_
        refine wp_aload_n d_GL_erase_53 rfl rfl (g_nz (gl_1 hX 0)) ?_
        refine xgetR d_GL_erase_54 gc_GL f_GL_40.1 f_GL_40.2.1 f_GL_40.2.2.1 (gl_1 hX 0) (gl_2 hX (a := 0) (by decide)) (gl_s0 hX) f_GL_40.2.2.2.2.1 (gl_f0 hX 26 rfl) ?_
        refine wp_aload_n d_GL_erase_57 rfl rfl (g_nz (gl_1 hX 0)) ?_
        refine xgetI d_GL_erase_58 gc_GL f_GL_81.1 f_GL_81.2.1 f_GL_81.2.2.1 (gl_1 hX 0) (gl_2 hX (a := 0) (by decide)) (gl_s0 hX) f_GL_81.2.2.2.2.1 (fun h124 => ?_)
        have T := T h124
        have h125 := T.1
        refine xaald d_GL_erase_61 (Or.inr rfl) (gl_1 hX 23) (gl_2 hX (a := 23) (by decide)) (gl_s hX 23 rfl) (g32_n h125 (by decide)) h125.1 h125.2 rfl ?_
        have T := T.2
        refine wp_aload_n d_GL_erase_62 rfl rfl (g_nz (gl_1 hX 0)) ?_
        refine xgetR d_GL_erase_63 gc_GL f_GL_45.1 f_GL_45.2.1 f_GL_45.2.2.1 (gl_1 hX 0) (gl_2 hX (a := 0) (by decide)) (gl_s0 hX) f_GL_45.2.2.2.2.1 hs4.1 ?_
        refine xcV_V (md' := true) (As := [gR G (X.2.2 (c + 23) (Int.toNat (M123 c 8))), gR G s4]) (st := []) d_GL_erase_66 ca_Ed_open ml_GL_84 im_Ed_open se_Ed_open gc_Ed (gl_1 hX 21) (gl_2 hX (a := 21) (by decide)) (gl_s hX 21 rfl) rfl (by decide) (by decide) rfl (fun _ => rfl) (fun _ => rfl) T (fun M126 T => ?_)
        refine wp_aload_n d_GL_erase_69 rfl rfl (g_nz (gl_1 hX 0)) ?_
        refine wp_aload_n d_GL_erase_70 rfl rfl (g_nz (gl_1 hX 0)) ?_
        refine xgetR d_GL_erase_71 gc_GL f_GL_34.1 f_GL_34.2.1 f_GL_34.2.2.1 (gl_1 hX 0) (gl_2 hX (a := 0) (by decide)) (gl_s0 hX) f_GL_34.2.2.2.2.1 (gl_f0 hX 23 rfl) ?_
        refine wp_iload_n d_GL_erase_74 rfl rfl ?_
        refine wp_iconst d_GL_erase_75 ?_
        refine wp_iload_n d_GL_erase_76 rfl rfl ?_
        refine wp_iload_n d_GL_erase_77 rfl rfl ?_
        refine xcV_Z (md' := true) (As := [gI x1, gI 0, gI x2, gI x3]) (st := [gR G c]) d_GL_erase_78 ca_Ed_shifted ml_GL_111 im_Ed_shifted se_Ed_shifted gc_Ed (gl_1 hX 21) (gl_2 hX (a := 21) (by decide)) (gl_s hX 21 rfl) rfl (by decide) (by simp only [List.map, gR_cat, gI_cat, gL_cat, List.sum_cons, List.sum_nil]; decide) rfl (fun _ => rfl) (fun _ => rfl) T (fun v128 M127 h129 T => ?_)
        refine xcV_V (md' := true) (As := [gI v128]) (st := []) d_GL_erase_81 ca_GL_land ml_GL_96 im_GL_land se_GL_land gc_GL (gl_1 hX 0) (gl_2 hX (a := 0) (by decide)) (gl_s0 hX) rfl (by decide) (by decide) rfl (fun _ => rfl) (fun _ => rfl) T (fun M130 T => ?_)
        refine wp_aload_n d_GL_erase_84 rfl rfl (g_nz (gl_1 hX 0)) ?_
        refine xgetR d_GL_erase_85 gc_GL f_GL_54.1 f_GL_54.2.1 f_GL_54.2.2.1 (gl_1 hX 0) (gl_2 hX (a := 0) (by decide)) (gl_s0 hX) f_GL_54.2.2.2.2.1 (gl_f0 hX 27 rfl) ?_
        refine wp_aload_n d_GL_erase_88 rfl rfl (g_nz (gl_1 hX 0)) ?_
        refine xgetR d_GL_erase_89 gc_GL f_GL_40.1 f_GL_40.2.1 f_GL_40.2.2.1 (gl_1 hX 0) (gl_2 hX (a := 0) (by decide)) (gl_s0 hX) f_GL_40.2.2.2.2.1 (gl_f0 hX 26 rfl) ?_
        refine wp_aload_n d_GL_erase_92 rfl rfl (g_nz (gl_1 hX 0)) ?_
        refine xgetI d_GL_erase_93 gc_GL f_GL_81.1 f_GL_81.2.1 f_GL_81.2.2.1 (gl_1 hX 0) (gl_2 hX (a := 0) (by decide)) (gl_s0 hX) f_GL_81.2.2.2.2.1 (fun h131 => ?_)
        have T := T h131
        have h132 := T.1
        refine xaald d_GL_erase_96 (Or.inr rfl) (gl_1 hX 23) (gl_2 hX (a := 23) (by decide)) (gl_s hX 23 rfl) (g32_n h132 (by decide)) h132.1 h132.2 rfl ?_
        have T := T.2
        refine xcV_I (md' := true) (As := [gR G (X.2.2 (c + 23) (Int.toNat (M130 c 8)))]) (st := []) d_GL_erase_97 ca_Rs_follow ml_GL_99 im_Rs_follow se_Rs_follow gc_Rs (gl_1 hX 234) (gl_2 hX (a := 234) (by decide)) (gl_s hX 24 rfl) rfl (by decide) (by decide) rfl (fun _ => rfl) (fun _ => rfl) T (fun v134 M133 h135 T => ?_)
        exact wp_ireturn d_GL_erase_100 rfl (fun _ => rfl) (Nat.zero_le _) (Nat.zero_le _) (kI_mk h135 T)
      · have T := T.2 h180
        refine wp_iload_n d_GL_erase_25 rfl rfl ?_
        refine wp_bipush d_GL_erase_26 ⟨by decide, by decide⟩ ?_
        refine xi_gt (tgt := 45) d_GL_erase_28 (by decide) (w32_id hx3) (w32_id (g32_c (x := 50) rfl)) (fun h179 => ?_) (fun h179 => ?_)
        · have T := T.1 h179
          refine wp_iconst d_GL_erase_45 ?_
          refine xcS_V (md' := false) (As := [gI 0]) (st := []) d_GL_erase_46 ca_GL_need ml_GL_69 sm_GL_need rfl (by decide) (by decide) rfl id id T (fun M136 T => ?_)
          refine wp_aload_n d_GL_erase_49 rfl rfl (g_nz (gl_1 hX 0)) ?_
          refine xgetR d_GL_erase_50 gc_GL f_GL_34.1 f_GL_34.2.1 f_GL_34.2.2.1 (gl_1 hX 0) (gl_2 hX (a := 0) (by decide)) (gl_s0 hX) f_GL_34.2.2.2.2.1 (gl_f0 hX 23 rfl) ?_
          refine wp_aload_n d_GL_erase_53 rfl rfl (g_nz (gl_1 hX 0)) ?_
          refine xgetR d_GL_erase_54 gc_GL f_GL_40.1 f_GL_40.2.1 f_GL_40.2.2.1 (gl_1 hX 0) (gl_2 hX (a := 0) (by decide)) (gl_s0 hX) f_GL_40.2.2.2.2.1 (gl_f0 hX 26 rfl) ?_
          refine wp_aload_n d_GL_erase_57 rfl rfl (g_nz (gl_1 hX 0)) ?_
          refine xgetI d_GL_erase_58 gc_GL f_GL_81.1 f_GL_81.2.1 f_GL_81.2.2.1 (gl_1 hX 0) (gl_2 hX (a := 0) (by decide)) (gl_s0 hX) f_GL_81.2.2.2.2.1 (fun h137 => ?_)
          have T := T h137
          have h138 := T.1
          refine xaald d_GL_erase_61 (Or.inr rfl) (gl_1 hX 23) (gl_2 hX (a := 23) (by decide)) (gl_s hX 23 rfl) (g32_n h138 (by decide)) h138.1 h138.2 rfl ?_
          have T := T.2
          refine wp_aload_n d_GL_erase_62 rfl rfl (g_nz (gl_1 hX 0)) ?_
          refine xgetR d_GL_erase_63 gc_GL f_GL_45.1 f_GL_45.2.1 f_GL_45.2.2.1 (gl_1 hX 0) (gl_2 hX (a := 0) (by decide)) (gl_s0 hX) f_GL_45.2.2.2.2.1 hs4.1 ?_
          refine xcV_V (md' := true) (As := [gR G (X.2.2 (c + 23) (Int.toNat (M136 c 8))), gR G s4]) (st := []) d_GL_erase_66 ca_Ed_open ml_GL_84 im_Ed_open se_Ed_open gc_Ed (gl_1 hX 21) (gl_2 hX (a := 21) (by decide)) (gl_s hX 21 rfl) rfl (by decide) (by decide) rfl (fun _ => rfl) (fun _ => rfl) T (fun M139 T => ?_)
          refine wp_aload_n d_GL_erase_69 rfl rfl (g_nz (gl_1 hX 0)) ?_
          refine wp_aload_n d_GL_erase_70 rfl rfl (g_nz (gl_1 hX 0)) ?_
          refine xgetR d_GL_erase_71 gc_GL f_GL_34.1 f_GL_34.2.1 f_GL_34.2.2.1 (gl_1 hX 0) (gl_2 hX (a := 0) (by decide)) (gl_s0 hX) f_GL_34.2.2.2.2.1 (gl_f0 hX 23 rfl) ?_
          refine wp_iload_n d_GL_erase_74 rfl rfl ?_
          refine wp_iconst d_GL_erase_75 ?_
          refine wp_iload_n d_GL_erase_76 rfl rfl ?_
          refine wp_iload_n d_GL_erase_77 rfl rfl ?_
          refine xcV_Z (md' := true) (As := [gI x1, gI 0, gI x2, gI x3]) (st := [gR G c]) d_GL_erase_78 ca_Ed_shifted ml_GL_111 im_Ed_shifted se_Ed_shifted gc_Ed (gl_1 hX 21) (gl_2 hX (a := 21) (by decide)) (gl_s hX 21 rfl) rfl (by decide) (by simp only [List.map, gR_cat, gI_cat, gL_cat, List.sum_cons, List.sum_nil]; decide) rfl (fun _ => rfl) (fun _ => rfl) T (fun v141 M140 h142 T => ?_)
          refine xcV_V (md' := true) (As := [gI v141]) (st := []) d_GL_erase_81 ca_GL_land ml_GL_96 im_GL_land se_GL_land gc_GL (gl_1 hX 0) (gl_2 hX (a := 0) (by decide)) (gl_s0 hX) rfl (by decide) (by decide) rfl (fun _ => rfl) (fun _ => rfl) T (fun M143 T => ?_)
          refine wp_aload_n d_GL_erase_84 rfl rfl (g_nz (gl_1 hX 0)) ?_
          refine xgetR d_GL_erase_85 gc_GL f_GL_54.1 f_GL_54.2.1 f_GL_54.2.2.1 (gl_1 hX 0) (gl_2 hX (a := 0) (by decide)) (gl_s0 hX) f_GL_54.2.2.2.2.1 (gl_f0 hX 27 rfl) ?_
          refine wp_aload_n d_GL_erase_88 rfl rfl (g_nz (gl_1 hX 0)) ?_
          refine xgetR d_GL_erase_89 gc_GL f_GL_40.1 f_GL_40.2.1 f_GL_40.2.2.1 (gl_1 hX 0) (gl_2 hX (a := 0) (by decide)) (gl_s0 hX) f_GL_40.2.2.2.2.1 (gl_f0 hX 26 rfl) ?_
          refine wp_aload_n d_GL_erase_92 rfl rfl (g_nz (gl_1 hX 0)) ?_
          refine xgetI d_GL_erase_93 gc_GL f_GL_81.1 f_GL_81.2.1 f_GL_81.2.2.1 (gl_1 hX 0) (gl_2 hX (a := 0) (by decide)) (gl_s0 hX) f_GL_81.2.2.2.2.1 (fun h144 => ?_)
          have T := T h144
          have h145 := T.1
          refine xaald d_GL_erase_96 (Or.inr rfl) (gl_1 hX 23) (gl_2 hX (a := 23) (by decide)) (gl_s hX 23 rfl) (g32_n h145 (by decide)) h145.1 h145.2 rfl ?_
          have T := T.2
          refine xcV_I (md' := true) (As := [gR G (X.2.2 (c + 23) (Int.toNat (M143 c 8)))]) (st := []) d_GL_erase_97 ca_Rs_follow ml_GL_99 im_Rs_follow se_Rs_follow gc_Rs (gl_1 hX 234) (gl_2 hX (a := 234) (by decide)) (gl_s hX 24 rfl) rfl (by decide) (by decide) rfl (fun _ => rfl) (fun _ => rfl) T (fun v147 M146 h148 T => ?_)
          exact wp_ireturn d_GL_erase_100 rfl (fun _ => rfl) (Nat.zero_le _) (Nat.zero_le _) (kI_mk h148 T)
        · have T := T.2 h179
          refine wp_iload_n d_GL_erase_31 rfl rfl ?_
          refine wp_iload_n d_GL_erase_32 rfl rfl ?_
          refine xcS_I (md' := false) (As := [gI x1]) (st := [gI x3]) d_GL_erase_33 ca_GL_lines ml_GL_107 sm_GL_lines rfl (by decide) (by simp only [List.map, gR_cat, gI_cat, gL_cat, List.sum_cons, List.sum_nil]; decide) rfl id id T (fun v150 M149 h151 T => ?_)
          refine wp_iload_n d_GL_erase_36 rfl rfl ?_
          refine wp_isub d_GL_erase_37 ?_
          refine xi_gt (tgt := 45) d_GL_erase_38 (by decide) (w32_id hx3) rfl (fun h178 => ?_) (fun h178 => ?_)
          · have T := T.1 h178
            refine wp_iconst d_GL_erase_45 ?_
            refine xcS_V (md' := false) (As := [gI 0]) (st := []) d_GL_erase_46 ca_GL_need ml_GL_69 sm_GL_need rfl (by decide) (by decide) rfl id id T (fun M152 T => ?_)
            refine wp_aload_n d_GL_erase_49 rfl rfl (g_nz (gl_1 hX 0)) ?_
            refine xgetR d_GL_erase_50 gc_GL f_GL_34.1 f_GL_34.2.1 f_GL_34.2.2.1 (gl_1 hX 0) (gl_2 hX (a := 0) (by decide)) (gl_s0 hX) f_GL_34.2.2.2.2.1 (gl_f0 hX 23 rfl) ?_
            refine wp_aload_n d_GL_erase_53 rfl rfl (g_nz (gl_1 hX 0)) ?_
            refine xgetR d_GL_erase_54 gc_GL f_GL_40.1 f_GL_40.2.1 f_GL_40.2.2.1 (gl_1 hX 0) (gl_2 hX (a := 0) (by decide)) (gl_s0 hX) f_GL_40.2.2.2.2.1 (gl_f0 hX 26 rfl) ?_
            refine wp_aload_n d_GL_erase_57 rfl rfl (g_nz (gl_1 hX 0)) ?_
            refine xgetI d_GL_erase_58 gc_GL f_GL_81.1 f_GL_81.2.1 f_GL_81.2.2.1 (gl_1 hX 0) (gl_2 hX (a := 0) (by decide)) (gl_s0 hX) f_GL_81.2.2.2.2.1 (fun h153 => ?_)
            have T := T h153
            have h154 := T.1
            refine xaald d_GL_erase_61 (Or.inr rfl) (gl_1 hX 23) (gl_2 hX (a := 23) (by decide)) (gl_s hX 23 rfl) (g32_n h154 (by decide)) h154.1 h154.2 rfl ?_
            have T := T.2
            refine wp_aload_n d_GL_erase_62 rfl rfl (g_nz (gl_1 hX 0)) ?_
            refine xgetR d_GL_erase_63 gc_GL f_GL_45.1 f_GL_45.2.1 f_GL_45.2.2.1 (gl_1 hX 0) (gl_2 hX (a := 0) (by decide)) (gl_s0 hX) f_GL_45.2.2.2.2.1 hs4.1 ?_
            refine xcV_V (md' := true) (As := [gR G (X.2.2 (c + 23) (Int.toNat (M152 c 8))), gR G s4]) (st := []) d_GL_erase_66 ca_Ed_open ml_GL_84 im_Ed_open se_Ed_open gc_Ed (gl_1 hX 21) (gl_2 hX (a := 21) (by decide)) (gl_s hX 21 rfl) rfl (by decide) (by decide) rfl (fun _ => rfl) (fun _ => rfl) T (fun M155 T => ?_)
            refine wp_aload_n d_GL_erase_69 rfl rfl (g_nz (gl_1 hX 0)) ?_
            refine wp_aload_n d_GL_erase_70 rfl rfl (g_nz (gl_1 hX 0)) ?_
            refine xgetR d_GL_erase_71 gc_GL f_GL_34.1 f_GL_34.2.1 f_GL_34.2.2.1 (gl_1 hX 0) (gl_2 hX (a := 0) (by decide)) (gl_s0 hX) f_GL_34.2.2.2.2.1 (gl_f0 hX 23 rfl) ?_
            refine wp_iload_n d_GL_erase_74 rfl rfl ?_
            refine wp_iconst d_GL_erase_75 ?_
            refine wp_iload_n d_GL_erase_76 rfl rfl ?_
            refine wp_iload_n d_GL_erase_77 rfl rfl ?_
            refine xcV_Z (md' := true) (As := [gI x1, gI 0, gI x2, gI x3]) (st := [gR G c]) d_GL_erase_78 ca_Ed_shifted ml_GL_111 im_Ed_shifted se_Ed_shifted gc_Ed (gl_1 hX 21) (gl_2 hX (a := 21) (by decide)) (gl_s hX 21 rfl) rfl (by decide) (by simp only [List.map, gR_cat, gI_cat, gL_cat, List.sum_cons, List.sum_nil]; decide) rfl (fun _ => rfl) (fun _ => rfl) T (fun v157 M156 h158 T => ?_)
            refine xcV_V (md' := true) (As := [gI v157]) (st := []) d_GL_erase_81 ca_GL_land ml_GL_96 im_GL_land se_GL_land gc_GL (gl_1 hX 0) (gl_2 hX (a := 0) (by decide)) (gl_s0 hX) rfl (by decide) (by decide) rfl (fun _ => rfl) (fun _ => rfl) T (fun M159 T => ?_)
            refine wp_aload_n d_GL_erase_84 rfl rfl (g_nz (gl_1 hX 0)) ?_
            refine xgetR d_GL_erase_85 gc_GL f_GL_54.1 f_GL_54.2.1 f_GL_54.2.2.1 (gl_1 hX 0) (gl_2 hX (a := 0) (by decide)) (gl_s0 hX) f_GL_54.2.2.2.2.1 (gl_f0 hX 27 rfl) ?_
            refine wp_aload_n d_GL_erase_88 rfl rfl (g_nz (gl_1 hX 0)) ?_
            refine xgetR d_GL_erase_89 gc_GL f_GL_40.1 f_GL_40.2.1 f_GL_40.2.2.1 (gl_1 hX 0) (gl_2 hX (a := 0) (by decide)) (gl_s0 hX) f_GL_40.2.2.2.2.1 (gl_f0 hX 26 rfl) ?_
            refine wp_aload_n d_GL_erase_92 rfl rfl (g_nz (gl_1 hX 0)) ?_
            refine xgetI d_GL_erase_93 gc_GL f_GL_81.1 f_GL_81.2.1 f_GL_81.2.2.1 (gl_1 hX 0) (gl_2 hX (a := 0) (by decide)) (gl_s0 hX) f_GL_81.2.2.2.2.1 (fun h160 => ?_)
            have T := T h160
            have h161 := T.1
            refine xaald d_GL_erase_96 (Or.inr rfl) (gl_1 hX 23) (gl_2 hX (a := 23) (by decide)) (gl_s hX 23 rfl) (g32_n h161 (by decide)) h161.1 h161.2 rfl ?_
            have T := T.2
            refine xcV_I (md' := true) (As := [gR G (X.2.2 (c + 23) (Int.toNat (M159 c 8)))]) (st := []) d_GL_erase_97 ca_Rs_follow ml_GL_99 im_Rs_follow se_Rs_follow gc_Rs (gl_1 hX 234) (gl_2 hX (a := 234) (by decide)) (gl_s hX 24 rfl) rfl (by decide) (by decide) rfl (fun _ => rfl) (fun _ => rfl) T (fun v163 M162 h164 T => ?_)
            exact wp_ireturn d_GL_erase_100 rfl (fun _ => rfl) (Nat.zero_le _) (Nat.zero_le _) (kI_mk h164 T)
          · have T := T.2 h178
            refine wp_iconst d_GL_erase_41 ?_
            refine wp_goto (tgt := 46) d_GL_erase_42 (by decide) ?_
            refine xcS_V (md' := false) (As := [gI 1]) (st := []) d_GL_erase_46 ca_GL_need ml_GL_69 sm_GL_need rfl (by decide) (by decide) rfl id id T (fun M165 T => ?_)
            refine wp_aload_n d_GL_erase_49 rfl rfl (g_nz (gl_1 hX 0)) ?_
            refine xgetR d_GL_erase_50 gc_GL f_GL_34.1 f_GL_34.2.1 f_GL_34.2.2.1 (gl_1 hX 0) (gl_2 hX (a := 0) (by decide)) (gl_s0 hX) f_GL_34.2.2.2.2.1 (gl_f0 hX 23 rfl) ?_
            refine wp_aload_n d_GL_erase_53 rfl rfl (g_nz (gl_1 hX 0)) ?_
            refine xgetR d_GL_erase_54 gc_GL f_GL_40.1 f_GL_40.2.1 f_GL_40.2.2.1 (gl_1 hX 0) (gl_2 hX (a := 0) (by decide)) (gl_s0 hX) f_GL_40.2.2.2.2.1 (gl_f0 hX 26 rfl) ?_
            refine wp_aload_n d_GL_erase_57 rfl rfl (g_nz (gl_1 hX 0)) ?_
            refine xgetI d_GL_erase_58 gc_GL f_GL_81.1 f_GL_81.2.1 f_GL_81.2.2.1 (gl_1 hX 0) (gl_2 hX (a := 0) (by decide)) (gl_s0 hX) f_GL_81.2.2.2.2.1 (fun h166 => ?_)
            have T := T h166
            have h167 := T.1
            refine xaald d_GL_erase_61 (Or.inr rfl) (gl_1 hX 23) (gl_2 hX (a := 23) (by decide)) (gl_s hX 23 rfl) (g32_n h167 (by decide)) h167.1 h167.2 rfl ?_
            have T := T.2
            refine wp_aload_n d_GL_erase_62 rfl rfl (g_nz (gl_1 hX 0)) ?_
            refine xgetR d_GL_erase_63 gc_GL f_GL_45.1 f_GL_45.2.1 f_GL_45.2.2.1 (gl_1 hX 0) (gl_2 hX (a := 0) (by decide)) (gl_s0 hX) f_GL_45.2.2.2.2.1 hs4.1 ?_
            refine xcV_V (md' := true) (As := [gR G (X.2.2 (c + 23) (Int.toNat (M165 c 8))), gR G s4]) (st := []) d_GL_erase_66 ca_Ed_open ml_GL_84 im_Ed_open se_Ed_open gc_Ed (gl_1 hX 21) (gl_2 hX (a := 21) (by decide)) (gl_s hX 21 rfl) rfl (by decide) (by decide) rfl (fun _ => rfl) (fun _ => rfl) T (fun M168 T => ?_)
            refine wp_aload_n d_GL_erase_69 rfl rfl (g_nz (gl_1 hX 0)) ?_
            refine wp_aload_n d_GL_erase_70 rfl rfl (g_nz (gl_1 hX 0)) ?_
            refine xgetR d_GL_erase_71 gc_GL f_GL_34.1 f_GL_34.2.1 f_GL_34.2.2.1 (gl_1 hX 0) (gl_2 hX (a := 0) (by decide)) (gl_s0 hX) f_GL_34.2.2.2.2.1 (gl_f0 hX 23 rfl) ?_
            refine wp_iload_n d_GL_erase_74 rfl rfl ?_
            refine wp_iconst d_GL_erase_75 ?_
            refine wp_iload_n d_GL_erase_76 rfl rfl ?_
            refine wp_iload_n d_GL_erase_77 rfl rfl ?_
            refine xcV_Z (md' := true) (As := [gI x1, gI 0, gI x2, gI x3]) (st := [gR G c]) d_GL_erase_78 ca_Ed_shifted ml_GL_111 im_Ed_shifted se_Ed_shifted gc_Ed (gl_1 hX 21) (gl_2 hX (a := 21) (by decide)) (gl_s hX 21 rfl) rfl (by decide) (by simp only [List.map, gR_cat, gI_cat, gL_cat, List.sum_cons, List.sum_nil]; decide) rfl (fun _ => rfl) (fun _ => rfl) T (fun v170 M169 h171 T => ?_)
            refine xcV_V (md' := true) (As := [gI v170]) (st := []) d_GL_erase_81 ca_GL_land ml_GL_96 im_GL_land se_GL_land gc_GL (gl_1 hX 0) (gl_2 hX (a := 0) (by decide)) (gl_s0 hX) rfl (by decide) (by decide) rfl (fun _ => rfl) (fun _ => rfl) T (fun M172 T => ?_)
            refine wp_aload_n d_GL_erase_84 rfl rfl (g_nz (gl_1 hX 0)) ?_
            refine xgetR d_GL_erase_85 gc_GL f_GL_54.1 f_GL_54.2.1 f_GL_54.2.2.1 (gl_1 hX 0) (gl_2 hX (a := 0) (by decide)) (gl_s0 hX) f_GL_54.2.2.2.2.1 (gl_f0 hX 27 rfl) ?_
            refine wp_aload_n d_GL_erase_88 rfl rfl (g_nz (gl_1 hX 0)) ?_
            refine xgetR d_GL_erase_89 gc_GL f_GL_40.1 f_GL_40.2.1 f_GL_40.2.2.1 (gl_1 hX 0) (gl_2 hX (a := 0) (by decide)) (gl_s0 hX) f_GL_40.2.2.2.2.1 (gl_f0 hX 26 rfl) ?_
            refine wp_aload_n d_GL_erase_92 rfl rfl (g_nz (gl_1 hX 0)) ?_
            refine xgetI d_GL_erase_93 gc_GL f_GL_81.1 f_GL_81.2.1 f_GL_81.2.2.1 (gl_1 hX 0) (gl_2 hX (a := 0) (by decide)) (gl_s0 hX) f_GL_81.2.2.2.2.1 (fun h173 => ?_)
            have T := T h173
            have h174 := T.1
            refine xaald d_GL_erase_96 (Or.inr rfl) (gl_1 hX 23) (gl_2 hX (a := 23) (by decide)) (gl_s hX 23 rfl) (g32_n h174 (by decide)) h174.1 h174.2 rfl ?_
            have T := T.2
            refine xcV_I (md' := true) (As := [gR G (X.2.2 (c + 23) (Int.toNat (M172 c 8)))]) (st := []) d_GL_erase_97 ca_Rs_follow ml_GL_99 im_Rs_follow se_Rs_follow gc_Rs (gl_1 hX 234) (gl_2 hX (a := 234) (by decide)) (gl_s hX 24 rfl) rfl (by decide) (by decide) rfl (fun _ => rfl) (fun _ => rfl) T (fun v176 M175 h177 T => ?_)
            exact wp_ireturn d_GL_erase_100 rfl (fun _ => rfl) (Nat.zero_le _) (Nat.zero_le _) (kI_mk h177 T)
theorem e_GL_erase {l : Launch} {G : gG} {d : Nat} {X : gX} {M : gM} {k : Int → gM → Prop} {c : Nat} {x1 : Int} {x2 : Int} {x3 : Int} (T : wp l G y_GL_erase (gRm (d + 1)) true (kkI X k) false 0 [.val (gR G c), .val (gI x1), .val (gI x2), .val (gI x3)] [] X M 0 0) : cI l G y_GL_erase (gRm (d + 1)) true [gR G c, gI x1, gI x2, gI x3] X M k := cen_I (plainFor_of_name rfl) (by simp only [lg_sl_R, lg_sl_I, lg_sl_L, lg_sl_N, List.length_cons, List.length_nil]; decide) (by unfold gEn; simp only [lg_sl_R, lg_sl_I, lg_sl_L, lg_sl_N]; exact wpt T (And.intro rfl (And.intro rfl (And.intro rfl (And.intro rfl True.intro)))))
theorem d_GL_value_0 : decode prog_1_method_10_code 0 = .ok (.iload_n 1, 1) := by decide +kernel
theorem d_GL_value_1 : decode prog_1_method_10_code 1 = .ok (.iload_n 2, 1) := by decide +kernel
theorem d_GL_value_2 : decode prog_1_method_10_code 2 = .ok (.invokestatic 73, 3) := by decide +kernel
theorem d_GL_value_5 : decode prog_1_method_10_code 5 = .ok (.iload_n 3, 1) := by decide +kernel
theorem d_GL_value_6 : decode prog_1_method_10_code 6 = .ok (.ifCond .eq 8, 3) := by decide +kernel
theorem d_GL_value_14 : decode prog_1_method_10_code 14 = .ok (.iconst 1, 1) := by decide +kernel
theorem d_GL_value_15 : decode prog_1_method_10_code 15 = .ok (.goto 4, 3) := by decide +kernel
theorem d_GL_value_19 : decode prog_1_method_10_code 19 = .ok (.invokestatic 69, 3) := by decide +kernel
theorem d_GL_value_22 : decode prog_1_method_10_code 22 = .ok (.aload_n 0, 1) := by decide +kernel
theorem d_GL_value_23 : decode prog_1_method_10_code 23 = .ok (.getfield 54, 3) := by decide +kernel
theorem d_GL_value_26 : decode prog_1_method_10_code 26 = .ok (.getfield 127, 3) := by decide +kernel
theorem d_GL_value_29 : decode prog_1_method_10_code 29 = .ok (.iload_n 1, 1) := by decide +kernel
theorem d_GL_value_30 : decode prog_1_method_10_code 30 = .ok (.iload_n 2, 1) := by decide +kernel
theorem d_GL_value_31 : decode prog_1_method_10_code 31 = .ok (.invokestatic 88, 3) := by decide +kernel
theorem d_GL_value_34 : decode prog_1_method_10_code 34 = .ok (.iaload, 1) := by decide +kernel
theorem d_GL_value_35 : decode prog_1_method_10_code 35 = .ok (.istore 4, 2) := by decide +kernel
theorem d_GL_value_37 : decode prog_1_method_10_code 37 = .ok (.iload_n 3, 1) := by decide +kernel
theorem d_GL_value_38 : decode prog_1_method_10_code 38 = .ok (.ifCond .ne 20, 3) := by decide +kernel
theorem d_GL_value_58 : decode prog_1_method_10_code 58 = .ok (.aload_n 0, 1) := by decide +kernel
theorem d_GL_value_59 : decode prog_1_method_10_code 59 = .ok (.getfield 54, 3) := by decide +kernel
theorem d_GL_value_62 : decode prog_1_method_10_code 62 = .ok (.getfield 131, 3) := by decide +kernel
theorem d_GL_value_65 : decode prog_1_method_10_code 65 = .ok (.getfield 140, 3) := by decide +kernel
theorem d_GL_value_68 : decode prog_1_method_10_code 68 = .ok (.iload 4, 2) := by decide +kernel
theorem d_GL_value_70 : decode prog_1_method_10_code 70 = .ok (.laload, 1) := by decide +kernel
theorem d_GL_value_71 : decode prog_1_method_10_code 71 = .ok (.lreturn, 1) := by decide +kernel
theorem d_GL_value_41 : decode prog_1_method_10_code 41 = .ok (.aload_n 0, 1) := by decide +kernel
theorem d_GL_value_42 : decode prog_1_method_10_code 42 = .ok (.getfield 54, 3) := by decide +kernel
theorem d_GL_value_45 : decode prog_1_method_10_code 45 = .ok (.getfield 131, 3) := by decide +kernel
theorem d_GL_value_48 : decode prog_1_method_10_code 48 = .ok (.getfield 135, 3) := by decide +kernel
theorem d_GL_value_51 : decode prog_1_method_10_code 51 = .ok (.iload 4, 2) := by decide +kernel
theorem d_GL_value_53 : decode prog_1_method_10_code 53 = .ok (.iaload, 1) := by decide +kernel
theorem d_GL_value_54 : decode prog_1_method_10_code 54 = .ok (.i2l, 1) := by decide +kernel
theorem d_GL_value_55 : decode prog_1_method_10_code 55 = .ok (.goto 16, 3) := by decide +kernel
theorem d_GL_value_9 : decode prog_1_method_10_code 9 = .ok (.iload_n 3, 1) := by decide +kernel
theorem d_GL_value_10 : decode prog_1_method_10_code 10 = .ok (.iconst 1, 1) := by decide +kernel
theorem d_GL_value_11 : decode prog_1_method_10_code 11 = .ok (.if_icmp .ne 7, 3) := by decide +kernel
theorem d_GL_value_18 : decode prog_1_method_10_code 18 = .ok (.iconst 0, 1) := by decide +kernel
set_option maxHeartbeats 4000000 in
theorem w_GL_value_0 {l : Launch} {G : gG} {d : Nat} {X : gX} {M : gM} {k : Int → gM → Prop} {c : Nat} (hX : glX X c) {x1 : Int} (hx1 : g32 x1) {x2 : Int} (hx2 : g32 x2) {x3 : Int} (hx3 : g32 x3) {v1 : Nat} (hv1 : X.2.2 (c + 234) 4 = v1 ∧ gvX X v1 401) (T : cV l G y_GL_needCell (gRm d) false [gI x1, gI x2] X M (fun M1 => ((x3 = 0 → (cV l G y_GL_need (gRm d) false [gI 1] X M1 (fun M2 => (cI l G y_GL_place (gRm d) false [gI x1, gI x2] X M2 (fun v4 M3 => (((0 : Int) ≤ v4 ∧ v4 < 5200) ∧ (g32 (M3 (c + 235) (Int.toNat v4)) → ((¬ x3 = 0 → (((0 : Int) ≤ M3 (c + 235) (Int.toNat v4) ∧ M3 (c + 235) (Int.toNat v4) < 401) ∧ (g64 (M3 (v1 + 2) (Int.toNat (M3 (c + 235) (Int.toNat v4)))) → (k (M3 (v1 + 2) (Int.toNat (M3 (c + 235) (Int.toNat v4)))) M3)))) ∧ (x3 = 0 → (((0 : Int) ≤ M3 (c + 235) (Int.toNat v4) ∧ M3 (c + 235) (Int.toNat v4) < 401) ∧ (g32 (M3 (v1 + 1) (Int.toNat (M3 (c + 235) (Int.toNat v4)))) → (k (M3 (v1 + 1) (Int.toNat (M3 (c + 235) (Int.toNat v4)))) M3)))))))))))) ∧ (¬ x3 = 0 → ((¬ x3 = 1 → (cV l G y_GL_need (gRm d) false [gI 0] X M1 (fun M10 => (cI l G y_GL_place (gRm d) false [gI x1, gI x2] X M10 (fun v12 M11 => (((0 : Int) ≤ v12 ∧ v12 < 5200) ∧ (g32 (M11 (c + 235) (Int.toNat v12)) → ((¬ x3 = 0 → (((0 : Int) ≤ M11 (c + 235) (Int.toNat v12) ∧ M11 (c + 235) (Int.toNat v12) < 401) ∧ (g64 (M11 (v1 + 2) (Int.toNat (M11 (c + 235) (Int.toNat v12)))) → (k (M11 (v1 + 2) (Int.toNat (M11 (c + 235) (Int.toNat v12)))) M11)))) ∧ (x3 = 0 → (((0 : Int) ≤ M11 (c + 235) (Int.toNat v12) ∧ M11 (c + 235) (Int.toNat v12) < 401) ∧ (g32 (M11 (v1 + 1) (Int.toNat (M11 (c + 235) (Int.toNat v12)))) → (k (M11 (v1 + 1) (Int.toNat (M11 (c + 235) (Int.toNat v12)))) M11)))))))))))) ∧ (x3 = 1 → (cV l G y_GL_need (gRm d) false [gI 1] X M1 (fun M18 => (cI l G y_GL_place (gRm d) false [gI x1, gI x2] X M18 (fun v20 M19 => (((0 : Int) ≤ v20 ∧ v20 < 5200) ∧ (g32 (M19 (c + 235) (Int.toNat v20)) → ((¬ x3 = 0 → (((0 : Int) ≤ M19 (c + 235) (Int.toNat v20) ∧ M19 (c + 235) (Int.toNat v20) < 401) ∧ (g64 (M19 (v1 + 2) (Int.toNat (M19 (c + 235) (Int.toNat v20)))) → (k (M19 (v1 + 2) (Int.toNat (M19 (c + 235) (Int.toNat v20)))) M19)))) ∧ (x3 = 0 → (((0 : Int) ≤ M19 (c + 235) (Int.toNat v20) ∧ M19 (c + 235) (Int.toNat v20) < 401) ∧ (g32 (M19 (v1 + 1) (Int.toNat (M19 (c + 235) (Int.toNat v20)))) → (k (M19 (v1 + 1) (Int.toNat (M19 (c + 235) (Int.toNat v20)))) M19))))))))))))))))) : wp l G y_GL_value (gRm (d + 1)) false (kkL X k) false 0 [.val (gR G c), .val (gI x1), .val (gI x2), .val (gI x3), .unset] [] X M 0 0 := by
  refine wp_iload_n d_GL_value_0 rfl rfl ?_
  refine wp_iload_n d_GL_value_1 rfl rfl ?_
  refine xcS_V (md' := false) (As := [gI x1, gI x2]) (st := []) d_GL_value_2 ca_GL_needCell ml_GL_73 sm_GL_needCell rfl (by decide) (by decide) rfl id id T (fun M1 T => ?_)
  refine wp_iload_n d_GL_value_5 rfl rfl ?_
  refine xz_eq (tgt := 14) d_GL_value_6 (by decide) (w32_id hx3) (fun h27 => ?_) (fun h27 => ?_)
  · have T := T.1 h27
    refine wp_iconst d_GL_value_14 ?_
    refine wp_goto (tgt := 19) d_GL_value_15 (by decide) ?_
    refine xcS_V (md' := false) (As := [gI 1]) (st := []) d_GL_value_19 ca_GL_need ml_GL_69 sm_GL_need rfl (by decide) (by decide) rfl id id T (fun M2 T => ?_)
    refine wp_aload_n d_GL_value_22 rfl rfl (g_nz (gl_1 hX 0)) ?_
    refine xgetR d_GL_value_23 gc_GL f_GL_54.1 f_GL_54.2.1 f_GL_54.2.2.1 (gl_1 hX 0) (gl_2 hX (a := 0) (by decide)) (gl_s0 hX) f_GL_54.2.2.2.2.1 (gl_f0 hX 27 rfl) ?_
    refine xgetR d_GL_value_26 gc_Rs f_GL_127.1 f_GL_127.2.1 f_GL_127.2.2.1 (gl_1 hX 234) (gl_2 hX (a := 234) (by decide)) (gl_s hX 24 rfl) f_GL_127.2.2.2.2.1 (gl_f hX 28 rfl) ?_
    refine wp_iload_n d_GL_value_29 rfl rfl ?_
    refine wp_iload_n d_GL_value_30 rfl rfl ?_
    refine xcS_I (md' := false) (As := [gI x1, gI x2]) (st := [gR G (c + 235)]) d_GL_value_31 ca_GL_place ml_GL_88 sm_GL_place rfl (by decide) (by simp only [List.map, gR_cat, gI_cat, gL_cat, List.sum_cons, List.sum_nil]; decide) rfl id id T (fun v4 M3 h5 T => ?_)
    refine wp_iaload d_GL_value_34 (gl_1 hX 235) (gl_2 hX (a := 235) (by decide)) (gl_s hX 25 rfl) (g32_n T.1 (by decide)) T.1.1 T.1.2 (fun h6 => ?_)
    have T := T.2 h6
    refine wp_istore (L' := [.val (gR G c), .val (gI x1), .val (gI x2), .val (gI x3), .val (gI (M3 (c + 235) (Int.toNat v4)))]) d_GL_value_35 (by decide) rfl ?_
    refine wp_iload_n d_GL_value_37 rfl rfl ?_
    refine xz_ne (tgt := 58) d_GL_value_38 (by decide) (w32_id hx3) (fun h9 => ?_) (fun h9 => ?_)
    · have T := T.1 h9
      refine wp_aload_n d_GL_value_58 rfl rfl (g_nz (gl_1 hX 0)) ?_
      refine xgetR d_GL_value_59 gc_GL f_GL_54.1 f_GL_54.2.1 f_GL_54.2.2.1 (gl_1 hX 0) (gl_2 hX (a := 0) (by decide)) (gl_s0 hX) f_GL_54.2.2.2.2.1 (gl_f0 hX 27 rfl) ?_
      refine xgetR d_GL_value_62 gc_Rs f_GL_131.1 f_GL_131.2.1 f_GL_131.2.2.1 (gl_1 hX 234) (gl_2 hX (a := 234) (by decide)) (gl_s hX 24 rfl) f_GL_131.2.2.2.2.1 hv1.1 ?_
      refine xgetR d_GL_value_65 gc_Vl f_GL_140.1 f_GL_140.2.1 f_GL_140.2.2.1 hv1.2.1 (gv_2 hv1.2) hv1.2.2.2.1 f_GL_140.2.2.2.2.1 (gv_r2 hv1.2).1 ?_
      refine wp_iload d_GL_value_68 rfl ?_
      refine wp_laload d_GL_value_70 (gv_r2 hv1.2).2.2.1 (gv_r2 hv1.2).2.2.2 (gv_r2 hv1.2).2.1 (g32_n T.1 (gv_n hv1.2)) T.1.1 T.1.2 (fun h7 => ?_)
      have T := T.2 h7
      exact wp_lreturn d_GL_value_71 rfl id (Nat.zero_le _) (Nat.zero_le _) (kL_mk h7 T)
    · have T := T.2 h9
      refine wp_aload_n d_GL_value_41 rfl rfl (g_nz (gl_1 hX 0)) ?_
      refine xgetR d_GL_value_42 gc_GL f_GL_54.1 f_GL_54.2.1 f_GL_54.2.2.1 (gl_1 hX 0) (gl_2 hX (a := 0) (by decide)) (gl_s0 hX) f_GL_54.2.2.2.2.1 (gl_f0 hX 27 rfl) ?_
      refine xgetR d_GL_value_45 gc_Rs f_GL_131.1 f_GL_131.2.1 f_GL_131.2.2.1 (gl_1 hX 234) (gl_2 hX (a := 234) (by decide)) (gl_s hX 24 rfl) f_GL_131.2.2.2.2.1 hv1.1 ?_
      refine xgetR d_GL_value_48 gc_Vl f_GL_135.1 f_GL_135.2.1 f_GL_135.2.2.1 hv1.2.1 (gv_2 hv1.2) hv1.2.2.2.1 f_GL_135.2.2.2.2.1 (gv_r1 hv1.2).1 ?_
      refine wp_iload d_GL_value_51 rfl ?_
      refine wp_iaload d_GL_value_53 (gv_r1 hv1.2).2.2.1 (gv_r1 hv1.2).2.2.2 (gv_r1 hv1.2).2.1 (g32_n T.1 (gv_n hv1.2)) T.1.1 T.1.2 (fun h8 => ?_)
      have T := T.2 h8
      refine xi2l d_GL_value_54 (w32_id h8) ?_
      refine wp_goto (tgt := 71) d_GL_value_55 (by decide) ?_
      exact wp_lreturn d_GL_value_71 rfl id (Nat.zero_le _) (Nat.zero_le _) (kL_mk (g64_32 h8) T)
  · have T := T.2 h27
    refine wp_iload_n d_GL_value_9 rfl rfl ?_
    refine wp_iconst d_GL_value_10 ?_
    refine xi_ne (tgt := 18) d_GL_value_11 (by decide) (w32_id hx3) (w32_id (g32_c (x := 1) rfl)) (fun h26 => ?_) (fun h26 => ?_)
    · have T := T.1 h26
      refine wp_iconst d_GL_value_18 ?_
      refine xcS_V (md' := false) (As := [gI 0]) (st := []) d_GL_value_19 ca_GL_need ml_GL_69 sm_GL_need rfl (by decide) (by decide) rfl id id T (fun M10 T => ?_)
      refine wp_aload_n d_GL_value_22 rfl rfl (g_nz (gl_1 hX 0)) ?_
      refine xgetR d_GL_value_23 gc_GL f_GL_54.1 f_GL_54.2.1 f_GL_54.2.2.1 (gl_1 hX 0) (gl_2 hX (a := 0) (by decide)) (gl_s0 hX) f_GL_54.2.2.2.2.1 (gl_f0 hX 27 rfl) ?_
      refine xgetR d_GL_value_26 gc_Rs f_GL_127.1 f_GL_127.2.1 f_GL_127.2.2.1 (gl_1 hX 234) (gl_2 hX (a := 234) (by decide)) (gl_s hX 24 rfl) f_GL_127.2.2.2.2.1 (gl_f hX 28 rfl) ?_
      refine wp_iload_n d_GL_value_29 rfl rfl ?_
      refine wp_iload_n d_GL_value_30 rfl rfl ?_
      refine xcS_I (md' := false) (As := [gI x1, gI x2]) (st := [gR G (c + 235)]) d_GL_value_31 ca_GL_place ml_GL_88 sm_GL_place rfl (by decide) (by simp only [List.map, gR_cat, gI_cat, gL_cat, List.sum_cons, List.sum_nil]; decide) rfl id id T (fun v12 M11 h13 T => ?_)
      refine wp_iaload d_GL_value_34 (gl_1 hX 235) (gl_2 hX (a := 235) (by decide)) (gl_s hX 25 rfl) (g32_n T.1 (by decide)) T.1.1 T.1.2 (fun h14 => ?_)
      have T := T.2 h14
      refine wp_istore (L' := [.val (gR G c), .val (gI x1), .val (gI x2), .val (gI x3), .val (gI (M11 (c + 235) (Int.toNat v12)))]) d_GL_value_35 (by decide) rfl ?_
      refine wp_iload_n d_GL_value_37 rfl rfl ?_
      refine xz_ne (tgt := 58) d_GL_value_38 (by decide) (w32_id hx3) (fun h17 => ?_) (fun h17 => ?_)
      · have T := T.1 h17
        refine wp_aload_n d_GL_value_58 rfl rfl (g_nz (gl_1 hX 0)) ?_
        refine xgetR d_GL_value_59 gc_GL f_GL_54.1 f_GL_54.2.1 f_GL_54.2.2.1 (gl_1 hX 0) (gl_2 hX (a := 0) (by decide)) (gl_s0 hX) f_GL_54.2.2.2.2.1 (gl_f0 hX 27 rfl) ?_
        refine xgetR d_GL_value_62 gc_Rs f_GL_131.1 f_GL_131.2.1 f_GL_131.2.2.1 (gl_1 hX 234) (gl_2 hX (a := 234) (by decide)) (gl_s hX 24 rfl) f_GL_131.2.2.2.2.1 hv1.1 ?_
        refine xgetR d_GL_value_65 gc_Vl f_GL_140.1 f_GL_140.2.1 f_GL_140.2.2.1 hv1.2.1 (gv_2 hv1.2) hv1.2.2.2.1 f_GL_140.2.2.2.2.1 (gv_r2 hv1.2).1 ?_
        refine wp_iload d_GL_value_68 rfl ?_
        refine wp_laload d_GL_value_70 (gv_r2 hv1.2).2.2.1 (gv_r2 hv1.2).2.2.2 (gv_r2 hv1.2).2.1 (g32_n T.1 (gv_n hv1.2)) T.1.1 T.1.2 (fun h15 => ?_)
        have T := T.2 h15
        exact wp_lreturn d_GL_value_71 rfl id (Nat.zero_le _) (Nat.zero_le _) (kL_mk h15 T)
      · have T := T.2 h17
        refine wp_aload_n d_GL_value_41 rfl rfl (g_nz (gl_1 hX 0)) ?_
        refine xgetR d_GL_value_42 gc_GL f_GL_54.1 f_GL_54.2.1 f_GL_54.2.2.1 (gl_1 hX 0) (gl_2 hX (a := 0) (by decide)) (gl_s0 hX) f_GL_54.2.2.2.2.1 (gl_f0 hX 27 rfl) ?_
        refine xgetR d_GL_value_45 gc_Rs f_GL_131.1 f_GL_131.2.1 f_GL_131.2.2.1 (gl_1 hX 234) (gl_2 hX (a := 234) (by decide)) (gl_s hX 24 rfl) f_GL_131.2.2.2.2.1 hv1.1 ?_
        refine xgetR d_GL_value_48 gc_Vl f_GL_135.1 f_GL_135.2.1 f_GL_135.2.2.1 hv1.2.1 (gv_2 hv1.2) hv1.2.2.2.1 f_GL_135.2.2.2.2.1 (gv_r1 hv1.2).1 ?_
        refine wp_iload d_GL_value_51 rfl ?_
        refine wp_iaload d_GL_value_53 (gv_r1 hv1.2).2.2.1 (gv_r1 hv1.2).2.2.2 (gv_r1 hv1.2).2.1 (g32_n T.1 (gv_n hv1.2)) T.1.1 T.1.2 (fun h16 => ?_)
        have T := T.2 h16
        refine xi2l d_GL_value_54 (w32_id h16) ?_
        refine wp_goto (tgt := 71) d_GL_value_55 (by decide) ?_
        exact wp_lreturn d_GL_value_71 rfl id (Nat.zero_le _) (Nat.zero_le _) (kL_mk (g64_32 h16) T)
    · have T := T.2 h26
      refine wp_iconst d_GL_value_14 ?_
      refine wp_goto (tgt := 19) d_GL_value_15 (by decide) ?_
      refine xcS_V (md' := false) (As := [gI 1]) (st := []) d_GL_value_19 ca_GL_need ml_GL_69 sm_GL_need rfl (by decide) (by decide) rfl id id T (fun M18 T => ?_)
      refine wp_aload_n d_GL_value_22 rfl rfl (g_nz (gl_1 hX 0)) ?_
      refine xgetR d_GL_value_23 gc_GL f_GL_54.1 f_GL_54.2.1 f_GL_54.2.2.1 (gl_1 hX 0) (gl_2 hX (a := 0) (by decide)) (gl_s0 hX) f_GL_54.2.2.2.2.1 (gl_f0 hX 27 rfl) ?_
      refine xgetR d_GL_value_26 gc_Rs f_GL_127.1 f_GL_127.2.1 f_GL_127.2.2.1 (gl_1 hX 234) (gl_2 hX (a := 234) (by decide)) (gl_s hX 24 rfl) f_GL_127.2.2.2.2.1 (gl_f hX 28 rfl) ?_
      refine wp_iload_n d_GL_value_29 rfl rfl ?_
      refine wp_iload_n d_GL_value_30 rfl rfl ?_
      refine xcS_I (md' := false) (As := [gI x1, gI x2]) (st := [gR G (c + 235)]) d_GL_value_31 ca_GL_place ml_GL_88 sm_GL_place rfl (by decide) (by simp only [List.map, gR_cat, gI_cat, gL_cat, List.sum_cons, List.sum_nil]; decide) rfl id id T (fun v20 M19 h21 T => ?_)
      refine wp_iaload d_GL_value_34 (gl_1 hX 235) (gl_2 hX (a := 235) (by decide)) (gl_s hX 25 rfl) (g32_n T.1 (by decide)) T.1.1 T.1.2 (fun h22 => ?_)
      have T := T.2 h22
      refine wp_istore (L' := [.val (gR G c), .val (gI x1), .val (gI x2), .val (gI x3), .val (gI (M19 (c + 235) (Int.toNat v20)))]) d_GL_value_35 (by decide) rfl ?_
      refine wp_iload_n d_GL_value_37 rfl rfl ?_
      refine xz_ne (tgt := 58) d_GL_value_38 (by decide) (w32_id hx3) (fun h25 => ?_) (fun h25 => ?_)
      · have T := T.1 h25
        refine wp_aload_n d_GL_value_58 rfl rfl (g_nz (gl_1 hX 0)) ?_
        refine xgetR d_GL_value_59 gc_GL f_GL_54.1 f_GL_54.2.1 f_GL_54.2.2.1 (gl_1 hX 0) (gl_2 hX (a := 0) (by decide)) (gl_s0 hX) f_GL_54.2.2.2.2.1 (gl_f0 hX 27 rfl) ?_
        refine xgetR d_GL_value_62 gc_Rs f_GL_131.1 f_GL_131.2.1 f_GL_131.2.2.1 (gl_1 hX 234) (gl_2 hX (a := 234) (by decide)) (gl_s hX 24 rfl) f_GL_131.2.2.2.2.1 hv1.1 ?_
        refine xgetR d_GL_value_65 gc_Vl f_GL_140.1 f_GL_140.2.1 f_GL_140.2.2.1 hv1.2.1 (gv_2 hv1.2) hv1.2.2.2.1 f_GL_140.2.2.2.2.1 (gv_r2 hv1.2).1 ?_
        refine wp_iload d_GL_value_68 rfl ?_
        refine wp_laload d_GL_value_70 (gv_r2 hv1.2).2.2.1 (gv_r2 hv1.2).2.2.2 (gv_r2 hv1.2).2.1 (g32_n T.1 (gv_n hv1.2)) T.1.1 T.1.2 (fun h23 => ?_)
        have T := T.2 h23
        exact wp_lreturn d_GL_value_71 rfl id (Nat.zero_le _) (Nat.zero_le _) (kL_mk h23 T)
      · have T := T.2 h25
        refine wp_aload_n d_GL_value_41 rfl rfl (g_nz (gl_1 hX 0)) ?_
        refine xgetR d_GL_value_42 gc_GL f_GL_54.1 f_GL_54.2.1 f_GL_54.2.2.1 (gl_1 hX 0) (gl_2 hX (a := 0) (by decide)) (gl_s0 hX) f_GL_54.2.2.2.2.1 (gl_f0 hX 27 rfl) ?_
        refine xgetR d_GL_value_45 gc_Rs f_GL_131.1 f_GL_131.2.1 f_GL_131.2.2.1 (gl_1 hX 234) (gl_2 hX (a := 234) (by decide)) (gl_s hX 24 rfl) f_GL_131.2.2.2.2.1 hv1.1 ?_
        refine xgetR d_GL_value_48 gc_Vl f_GL_135.1 f_GL_135.2.1 f_GL_135.2.2.1 hv1.2.1 (gv_2 hv1.2) hv1.2.2.2.1 f_GL_135.2.2.2.2.1 (gv_r1 hv1.2).1 ?_
        refine wp_iload d_GL_value_51 rfl ?_
        refine wp_iaload d_GL_value_53 (gv_r1 hv1.2).2.2.1 (gv_r1 hv1.2).2.2.2 (gv_r1 hv1.2).2.1 (g32_n T.1 (gv_n hv1.2)) T.1.1 T.1.2 (fun h24 => ?_)
        have T := T.2 h24
        refine xi2l d_GL_value_54 (w32_id h24) ?_
        refine wp_goto (tgt := 71) d_GL_value_55 (by decide) ?_
        exact wp_lreturn d_GL_value_71 rfl id (Nat.zero_le _) (Nat.zero_le _) (kL_mk (g64_32 h24) T)
theorem e_GL_value {l : Launch} {G : gG} {d : Nat} {X : gX} {M : gM} {k : Int → gM → Prop} {c : Nat} {x1 : Int} {x2 : Int} {x3 : Int} (T : wp l G y_GL_value (gRm (d + 1)) false (kkL X k) false 0 [.val (gR G c), .val (gI x1), .val (gI x2), .val (gI x3), .unset] [] X M 0 0) : cL l G y_GL_value (gRm (d + 1)) false [gR G c, gI x1, gI x2, gI x3] X M k := cen_L (plainFor_of_name rfl) (by simp only [lg_sl_R, lg_sl_I, lg_sl_L, lg_sl_N, List.length_cons, List.length_nil]; decide) (by unfold gEn; simp only [lg_sl_R, lg_sl_I, lg_sl_L, lg_sl_N]; exact wpt T (And.intro rfl (And.intro rfl (And.intro rfl (And.intro rfl True.intro)))))
theorem d_GL_content_0 : decode prog_1_method_12_code 0 = .ok (.iload_n 1, 1) := by decide +kernel
theorem d_GL_content_1 : decode prog_1_method_12_code 1 = .ok (.iload_n 2, 1) := by decide +kernel
theorem d_GL_content_2 : decode prog_1_method_12_code 2 = .ok (.invokestatic 73, 3) := by decide +kernel
theorem d_GL_content_5 : decode prog_1_method_12_code 5 = .ok (.iload_n 3, 1) := by decide +kernel
theorem d_GL_content_6 : decode prog_1_method_12_code 6 = .ok (.ifCond .lt 12, 3) := by decide +kernel
theorem d_GL_content_18 : decode prog_1_method_12_code 18 = .ok (.iconst 0, 1) := by decide +kernel
theorem d_GL_content_19 : decode prog_1_method_12_code 19 = .ok (.invokestatic 69, 3) := by decide +kernel
theorem d_GL_content_22 : decode prog_1_method_12_code 22 = .ok (.aload_n 0, 1) := by decide +kernel
theorem d_GL_content_23 : decode prog_1_method_12_code 23 = .ok (.getfield 54, 3) := by decide +kernel
theorem d_GL_content_26 : decode prog_1_method_12_code 26 = .ok (.getfield 127, 3) := by decide +kernel
theorem d_GL_content_29 : decode prog_1_method_12_code 29 = .ok (.iload_n 1, 1) := by decide +kernel
theorem d_GL_content_30 : decode prog_1_method_12_code 30 = .ok (.iload_n 2, 1) := by decide +kernel
theorem d_GL_content_31 : decode prog_1_method_12_code 31 = .ok (.invokestatic 88, 3) := by decide +kernel
theorem d_GL_content_34 : decode prog_1_method_12_code 34 = .ok (.iaload, 1) := by decide +kernel
theorem d_GL_content_35 : decode prog_1_method_12_code 35 = .ok (.istore 4, 2) := by decide +kernel
theorem d_GL_content_37 : decode prog_1_method_12_code 37 = .ok (.iload 4, 2) := by decide +kernel
theorem d_GL_content_39 : decode prog_1_method_12_code 39 = .ok (.sipush 400, 3) := by decide +kernel
theorem d_GL_content_42 : decode prog_1_method_12_code 42 = .ok (.if_icmp .ne 5, 3) := by decide +kernel
theorem d_GL_content_47 : decode prog_1_method_12_code 47 = .ok (.iload_n 3, 1) := by decide +kernel
theorem d_GL_content_48 : decode prog_1_method_12_code 48 = .ok (.lookupswitch 67 #[(0, 28), (1, 52)], 28) := by decide +kernel
theorem d_GL_content_76 : decode prog_1_method_12_code 76 = .ok (.aload_n 0, 1) := by decide +kernel
theorem d_GL_content_77 : decode prog_1_method_12_code 77 = .ok (.getfield 16, 3) := by decide +kernel
theorem d_GL_content_80 : decode prog_1_method_12_code 80 = .ok (.getfield 151, 3) := by decide +kernel
theorem d_GL_content_83 : decode prog_1_method_12_code 83 = .ok (.aload_n 0, 1) := by decide +kernel
theorem d_GL_content_84 : decode prog_1_method_12_code 84 = .ok (.getfield 40, 3) := by decide +kernel
theorem d_GL_content_87 : decode prog_1_method_12_code 87 = .ok (.aload_n 0, 1) := by decide +kernel
theorem d_GL_content_88 : decode prog_1_method_12_code 88 = .ok (.getfield 81, 3) := by decide +kernel
theorem d_GL_content_91 : decode prog_1_method_12_code 91 = .ok (.aaload, 1) := by decide +kernel
theorem d_GL_content_92 : decode prog_1_method_12_code 92 = .ok (.getfield 152, 3) := by decide +kernel
theorem d_GL_content_95 : decode prog_1_method_12_code 95 = .ok (.iload 4, 2) := by decide +kernel
theorem d_GL_content_97 : decode prog_1_method_12_code 97 = .ok (.iaload, 1) := by decide +kernel
theorem d_GL_content_98 : decode prog_1_method_12_code 98 = .ok (.iaload, 1) := by decide +kernel
theorem d_GL_content_99 : decode prog_1_method_12_code 99 = .ok (.ireturn, 1) := by decide +kernel
theorem d_GL_content_100 : decode prog_1_method_12_code 100 = .ok (.aload_n 0, 1) := by decide +kernel
theorem d_GL_content_101 : decode prog_1_method_12_code 101 = .ok (.getfield 40, 3) := by decide +kernel
theorem d_GL_content_104 : decode prog_1_method_12_code 104 = .ok (.aload_n 0, 1) := by decide +kernel
theorem d_GL_content_105 : decode prog_1_method_12_code 105 = .ok (.getfield 81, 3) := by decide +kernel
theorem d_GL_content_108 : decode prog_1_method_12_code 108 = .ok (.aaload, 1) := by decide +kernel
theorem d_GL_content_109 : decode prog_1_method_12_code 109 = .ok (.iload 4, 2) := by decide +kernel
theorem d_GL_content_111 : decode prog_1_method_12_code 111 = .ok (.invokevirtual 155, 3) := by decide +kernel
theorem d_GL_content_114 : decode prog_1_method_12_code 114 = .ok (.ireturn, 1) := by decide +kernel
theorem d_GL_content_115 : decode prog_1_method_12_code 115 = .ok (.aload_n 0, 1) := by decide +kernel
theorem d_GL_content_116 : decode prog_1_method_12_code 116 = .ok (.getfield 40, 3) := by decide +kernel
theorem d_GL_content_119 : decode prog_1_method_12_code 119 = .ok (.aload_n 0, 1) := by decide +kernel
theorem d_GL_content_120 : decode prog_1_method_12_code 120 = .ok (.getfield 81, 3) := by decide +kernel
theorem d_GL_content_123 : decode prog_1_method_12_code 123 = .ok (.aaload, 1) := by decide +kernel
theorem d_GL_content_124 : decode prog_1_method_12_code 124 = .ok (.iload 4, 2) := by decide +kernel
theorem d_GL_content_126 : decode prog_1_method_12_code 126 = .ok (.invokevirtual 158, 3) := by decide +kernel
theorem d_GL_content_129 : decode prog_1_method_12_code 129 = .ok (.ireturn, 1) := by decide +kernel
theorem d_GL_content_45 : decode prog_1_method_12_code 45 = .ok (.iconst 0, 1) := by decide +kernel
theorem d_GL_content_46 : decode prog_1_method_12_code 46 = .ok (.ireturn, 1) := by decide +kernel
theorem d_GL_content_9 : decode prog_1_method_12_code 9 = .ok (.iload_n 3, 1) := by decide +kernel
theorem d_GL_content_10 : decode prog_1_method_12_code 10 = .ok (.iconst 2, 1) := by decide +kernel
theorem d_GL_content_11 : decode prog_1_method_12_code 11 = .ok (.if_icmp .gt 7, 3) := by decide +kernel
theorem d_GL_content_14 : decode prog_1_method_12_code 14 = .ok (.iconst 1, 1) := by decide +kernel
theorem d_GL_content_15 : decode prog_1_method_12_code 15 = .ok (.goto 4, 3) := by decide +kernel
set_option maxHeartbeats 4000000 in
theorem w_GL_content_0 {l : Launch} {G : gG} {d : Nat} {X : gX} {M : gM} {k : Int → gM → Prop} {c : Nat} (hX : glX X c) {x1 : Int} (hx1 : g32 x1) {x2 : Int} (hx2 : g32 x2) {x3 : Int} (hx3 : g32 x3) (hring : ∀ i : Nat, i < 41 → gsX X (X.2.2 (c + 23) i)) (T : cV l G y_GL_needCell (gRm d) false [gI x1, gI x2] X M (fun M1 => ((x3 < 0 → (cV l G y_GL_need (gRm d) false [gI 0] X M1 (fun M2 => (cI l G y_GL_place (gRm d) false [gI x1, gI x2] X M2 (fun v4 M3 => (((0 : Int) ≤ v4 ∧ v4 < 5200) ∧ (g32 (M3 (c + 235) (Int.toNat v4)) → ((¬ M3 (c + 235) (Int.toNat v4) = 400 → ((x3 = 0 → (g32 (M3 c 8) → (((0 : Int) ≤ M3 c 8 ∧ M3 c 8 < 41) ∧ (((0 : Int) ≤ M3 (c + 235) (Int.toNat v4) ∧ M3 (c + 235) (Int.toNat v4) < 400) ∧ (g32 (M3 ((X.2.2 (c + 23) (Int.toNat (M3 c 8))) + 2) (Int.toNat (M3 (c + 235) (Int.toNat v4)))) → (((0 : Int) ≤ M3 ((X.2.2 (c + 23) (Int.toNat (M3 c 8))) + 2) (Int.toNat (M3 (c + 235) (Int.toNat v4))) ∧ M3 ((X.2.2 (c + 23) (Int.toNat (M3 c 8))) + 2) (Int.toNat (M3 (c + 235) (Int.toNat v4))) < 513) ∧ (g32 (M3 (c + 3) (Int.toNat (M3 ((X.2.2 (c + 23) (Int.toNat (M3 c 8))) + 2) (Int.toNat (M3 (c + 235) (Int.toNat v4)))))) → (k (M3 (c + 3) (Int.toNat (M3 ((X.2.2 (c + 23) (Int.toNat (M3 c 8))) + 2) (Int.toNat (M3 (c + 235) (Int.toNat v4)))))) M3)))))))) ∧ (x3 = 1 → (g32 (M3 c 8) → (((0 : Int) ≤ M3 c 8 ∧ M3 c 8 < 41) ∧ (cI l G y_St_refs (gRm d) false [gR G (X.2.2 (c + 23) (Int.toNat (M3 c 8))), gI (M3 (c + 235) (Int.toNat v4))] X M3 (fun v14 M13 => (k v14 M13)))))) ∧ ((¬ x3 = 0 ∧ ¬ x3 = 1) → (g32 (M3 c 8) → (((0 : Int) ≤ M3 c 8 ∧ M3 c 8 < 41) ∧ (cI l G y_St_gone (gRm d) false [gR G (X.2.2 (c + 23) (Int.toNat (M3 c 8))), gI (M3 (c + 235) (Int.toNat v4))] X M3 (fun v19 M18 => (k v19 M18)))))))) ∧ (M3 (c + 235) (Int.toNat v4) = 400 → (k 0 M3)))))))))) ∧ (¬ x3 < 0 → ((2 < x3 → (cV l G y_GL_need (gRm d) false [gI 0] X M1 (fun M22 => (cI l G y_GL_place (gRm d) false [gI x1, gI x2] X M22 (fun v24 M23 => (((0 : Int) ≤ v24 ∧ v24 < 5200) ∧ (g32 (M23 (c + 235) (Int.toNat v24)) → ((¬ M23 (c + 235) (Int.toNat v24) = 400 → ((x3 = 0 → (g32 (M23 c 8) → (((0 : Int) ≤ M23 c 8 ∧ M23 c 8 < 41) ∧ (((0 : Int) ≤ M23 (c + 235) (Int.toNat v24) ∧ M23 (c + 235) (Int.toNat v24) < 400) ∧ (g32 (M23 ((X.2.2 (c + 23) (Int.toNat (M23 c 8))) + 2) (Int.toNat (M23 (c + 235) (Int.toNat v24)))) → (((0 : Int) ≤ M23 ((X.2.2 (c + 23) (Int.toNat (M23 c 8))) + 2) (Int.toNat (M23 (c + 235) (Int.toNat v24))) ∧ M23 ((X.2.2 (c + 23) (Int.toNat (M23 c 8))) + 2) (Int.toNat (M23 (c + 235) (Int.toNat v24))) < 513) ∧ (g32 (M23 (c + 3) (Int.toNat (M23 ((X.2.2 (c + 23) (Int.toNat (M23 c 8))) + 2) (Int.toNat (M23 (c + 235) (Int.toNat v24)))))) → (k (M23 (c + 3) (Int.toNat (M23 ((X.2.2 (c + 23) (Int.toNat (M23 c 8))) + 2) (Int.toNat (M23 (c + 235) (Int.toNat v24)))))) M23)))))))) ∧ (x3 = 1 → (g32 (M23 c 8) → (((0 : Int) ≤ M23 c 8 ∧ M23 c 8 < 41) ∧ (cI l G y_St_refs (gRm d) false [gR G (X.2.2 (c + 23) (Int.toNat (M23 c 8))), gI (M23 (c + 235) (Int.toNat v24))] X M23 (fun v34 M33 => (k v34 M33)))))) ∧ ((¬ x3 = 0 ∧ ¬ x3 = 1) → (g32 (M23 c 8) → (((0 : Int) ≤ M23 c 8 ∧ M23 c 8 < 41) ∧ (cI l G y_St_gone (gRm d) false [gR G (X.2.2 (c + 23) (Int.toNat (M23 c 8))), gI (M23 (c + 235) (Int.toNat v24))] X M23 (fun v39 M38 => (k v39 M38)))))))) ∧ (M23 (c + 235) (Int.toNat v24) = 400 → (k 0 M23)))))))))) ∧ (¬ 2 < x3 → (cV l G y_GL_need (gRm d) false [gI 1] X M1 (fun M42 => (cI l G y_GL_place (gRm d) false [gI x1, gI x2] X M42 (fun v44 M43 => (((0 : Int) ≤ v44 ∧ v44 < 5200) ∧ (g32 (M43 (c + 235) (Int.toNat v44)) → ((¬ M43 (c + 235) (Int.toNat v44) = 400 → ((x3 = 0 → (g32 (M43 c 8) → (((0 : Int) ≤ M43 c 8 ∧ M43 c 8 < 41) ∧ (((0 : Int) ≤ M43 (c + 235) (Int.toNat v44) ∧ M43 (c + 235) (Int.toNat v44) < 400) ∧ (g32 (M43 ((X.2.2 (c + 23) (Int.toNat (M43 c 8))) + 2) (Int.toNat (M43 (c + 235) (Int.toNat v44)))) → (((0 : Int) ≤ M43 ((X.2.2 (c + 23) (Int.toNat (M43 c 8))) + 2) (Int.toNat (M43 (c + 235) (Int.toNat v44))) ∧ M43 ((X.2.2 (c + 23) (Int.toNat (M43 c 8))) + 2) (Int.toNat (M43 (c + 235) (Int.toNat v44))) < 513) ∧ (g32 (M43 (c + 3) (Int.toNat (M43 ((X.2.2 (c + 23) (Int.toNat (M43 c 8))) + 2) (Int.toNat (M43 (c + 235) (Int.toNat v44)))))) → (k (M43 (c + 3) (Int.toNat (M43 ((X.2.2 (c + 23) (Int.toNat (M43 c 8))) + 2) (Int.toNat (M43 (c + 235) (Int.toNat v44)))))) M43)))))))) ∧ (x3 = 1 → (g32 (M43 c 8) → (((0 : Int) ≤ M43 c 8 ∧ M43 c 8 < 41) ∧ (cI l G y_St_refs (gRm d) false [gR G (X.2.2 (c + 23) (Int.toNat (M43 c 8))), gI (M43 (c + 235) (Int.toNat v44))] X M43 (fun v54 M53 => (k v54 M53)))))) ∧ ((¬ x3 = 0 ∧ ¬ x3 = 1) → (g32 (M43 c 8) → (((0 : Int) ≤ M43 c 8 ∧ M43 c 8 < 41) ∧ (cI l G y_St_gone (gRm d) false [gR G (X.2.2 (c + 23) (Int.toNat (M43 c 8))), gI (M43 (c + 235) (Int.toNat v44))] X M43 (fun v59 M58 => (k v59 M58)))))))) ∧ (M43 (c + 235) (Int.toNat v44) = 400 → (k 0 M43))))))))))))))) : wp l G y_GL_content (gRm (d + 1)) false (kkI X k) false 0 [.val (gR G c), .val (gI x1), .val (gI x2), .val (gI x3), .unset] [] X M 0 0 := by
  refine wp_iload_n d_GL_content_0 rfl rfl ?_
  refine wp_iload_n d_GL_content_1 rfl rfl ?_
  refine xcS_V (md' := false) (As := [gI x1, gI x2]) (st := []) d_GL_content_2 ca_GL_needCell ml_GL_73 sm_GL_needCell rfl (by decide) (by decide) rfl id id T (fun M1 T => ?_)
  refine wp_iload_n d_GL_content_5 rfl rfl ?_
  refine xz_lt (tgt := 18) d_GL_content_6 (by decide) (w32_id hx3) (fun h63 => ?_) (fun h63 => ?_)
  · have T := T.1 h63
    refine wp_iconst d_GL_content_18 ?_
    refine xcS_V (md' := false) (As := [gI 0]) (st := []) d_GL_content_19 ca_GL_need ml_GL_69 sm_GL_need rfl (by decide) (by decide) rfl id id T (fun M2 T => ?_)
    refine wp_aload_n d_GL_content_22 rfl rfl (g_nz (gl_1 hX 0)) ?_
    refine xgetR d_GL_content_23 gc_GL f_GL_54.1 f_GL_54.2.1 f_GL_54.2.2.1 (gl_1 hX 0) (gl_2 hX (a := 0) (by decide)) (gl_s0 hX) f_GL_54.2.2.2.2.1 (gl_f0 hX 27 rfl) ?_
    refine xgetR d_GL_content_26 gc_Rs f_GL_127.1 f_GL_127.2.1 f_GL_127.2.2.1 (gl_1 hX 234) (gl_2 hX (a := 234) (by decide)) (gl_s hX 24 rfl) f_GL_127.2.2.2.2.1 (gl_f hX 28 rfl) ?_
    refine wp_iload_n d_GL_content_29 rfl rfl ?_
    refine wp_iload_n d_GL_content_30 rfl rfl ?_
    refine xcS_I (md' := false) (As := [gI x1, gI x2]) (st := [gR G (c + 235)]) d_GL_content_31 ca_GL_place ml_GL_88 sm_GL_place rfl (by decide) (by simp only [List.map, gR_cat, gI_cat, gL_cat, List.sum_cons, List.sum_nil]; decide) rfl id id T (fun v4 M3 h5 T => ?_)
    refine wp_iaload d_GL_content_34 (gl_1 hX 235) (gl_2 hX (a := 235) (by decide)) (gl_s hX 25 rfl) (g32_n T.1 (by decide)) T.1.1 T.1.2 (fun h6 => ?_)
    have T := T.2 h6
    refine wp_istore (L' := [.val (gR G c), .val (gI x1), .val (gI x2), .val (gI x3), .val (gI (M3 (c + 235) (Int.toNat v4)))]) d_GL_content_35 (by decide) rfl ?_
    refine wp_iload d_GL_content_37 rfl ?_
    refine wp_sipush d_GL_content_39 ⟨by decide, by decide⟩ ?_
    refine xi_ne (tgt := 47) d_GL_content_42 (by decide) (w32_id h6) (w32_id (g32_c (x := 400) rfl)) (fun h21 => ?_) (fun h21 => ?_)
    · have T := T.1 h21
      refine wp_iload_n d_GL_content_47 rfl rfl ?_
      obtain ⟨T0, T1, T2⟩ := T
      by_cases hc0 : x3 = 0
      · refine xlook (off := 28) (tgt := 76) d_GL_content_48 (w32_id hx3) rfl (by rw [hc0]; rfl) (by decide) ?_
        have T := T0 hc0
        refine wp_aload_n d_GL_content_76 rfl rfl (g_nz (gl_1 hX 0)) ?_
        refine xgetR d_GL_content_77 gc_GL f_GL_16.1 f_GL_16.2.1 f_GL_16.2.2.1 (gl_1 hX 0) (gl_2 hX (a := 0) (by decide)) (gl_s0 hX) f_GL_16.2.2.2.2.1 (gl_f0 hX 1 rfl) ?_
        refine xgetR d_GL_content_80 gc_Cn f_GL_151.1 f_GL_151.2.1 f_GL_151.2.2.1 (gl_1 hX 2) (gl_2 hX (a := 2) (by decide)) (gl_s hX 2 rfl) f_GL_151.2.2.2.2.1 (gl_f hX 2 rfl) ?_
        refine wp_aload_n d_GL_content_83 rfl rfl (g_nz (gl_1 hX 0)) ?_
        refine xgetR d_GL_content_84 gc_GL f_GL_40.1 f_GL_40.2.1 f_GL_40.2.2.1 (gl_1 hX 0) (gl_2 hX (a := 0) (by decide)) (gl_s0 hX) f_GL_40.2.2.2.2.1 (gl_f0 hX 26 rfl) ?_
        refine wp_aload_n d_GL_content_87 rfl rfl (g_nz (gl_1 hX 0)) ?_
        refine xgetI d_GL_content_88 gc_GL f_GL_81.1 f_GL_81.2.1 f_GL_81.2.2.1 (gl_1 hX 0) (gl_2 hX (a := 0) (by decide)) (gl_s0 hX) f_GL_81.2.2.2.2.1 (fun h7 => ?_)
        have T := T h7
        have h8 := T.1
        refine xaald d_GL_content_91 (Or.inr rfl) (gl_1 hX 23) (gl_2 hX (a := 23) (by decide)) (gl_s hX 23 rfl) (g32_n h8 (by decide)) h8.1 h8.2 rfl ?_
        have T := T.2
        refine xgetR d_GL_content_92 gc_St f_GL_152.1 f_GL_152.2.1 f_GL_152.2.2.1 (hring _ (g_tn h8)).1 (gs_2 (hring _ (g_tn h8))) (hring _ (g_tn h8)).2.2.1 f_GL_152.2.2.2.2.1 (gs_r (hring _ (g_tn h8)) 1 rfl).1 ?_
        refine wp_iload d_GL_content_95 rfl ?_
        refine wp_iaload d_GL_content_97 (gs_r (hring _ (g_tn h8)) 1 rfl).2.2.1 (gs_r (hring _ (g_tn h8)) 1 rfl).2.2.2 (gs_r (hring _ (g_tn h8)) 1 rfl).2.1 (g32_n T.1 (by decide)) T.1.1 T.1.2 (fun h9 => ?_)
        have T := T.2 h9
        refine wp_iaload d_GL_content_98 (gl_1 hX 3) (gl_2 hX (a := 3) (by decide)) (gl_s hX 3 rfl) (g32_n T.1 (by decide)) T.1.1 T.1.2 (fun h10 => ?_)
        have T := T.2 h10
        exact wp_ireturn d_GL_content_99 rfl id (Nat.zero_le _) (Nat.zero_le _) (kI_mk h10 T)
      by_cases hc1 : x3 = 1
      · refine xlook (off := 52) (tgt := 100) d_GL_content_48 (w32_id hx3) rfl (by rw [hc1]; rfl) (by decide) ?_
        have T := T1 hc1
        refine wp_aload_n d_GL_content_100 rfl rfl (g_nz (gl_1 hX 0)) ?_
        refine xgetR d_GL_content_101 gc_GL f_GL_40.1 f_GL_40.2.1 f_GL_40.2.2.1 (gl_1 hX 0) (gl_2 hX (a := 0) (by decide)) (gl_s0 hX) f_GL_40.2.2.2.2.1 (gl_f0 hX 26 rfl) ?_
        refine wp_aload_n d_GL_content_104 rfl rfl (g_nz (gl_1 hX 0)) ?_
        refine xgetI d_GL_content_105 gc_GL f_GL_81.1 f_GL_81.2.1 f_GL_81.2.2.1 (gl_1 hX 0) (gl_2 hX (a := 0) (by decide)) (gl_s0 hX) f_GL_81.2.2.2.2.1 (fun h11 => ?_)
        have T := T h11
        have h12 := T.1
        refine xaald d_GL_content_108 (Or.inr rfl) (gl_1 hX 23) (gl_2 hX (a := 23) (by decide)) (gl_s hX 23 rfl) (g32_n h12 (by decide)) h12.1 h12.2 rfl ?_
        have T := T.2
        refine wp_iload d_GL_content_109 rfl ?_
        refine xcV_I (md' := false) (As := [gI (M3 (c + 235) (Int.toNat v4))]) (st := []) d_GL_content_111 ca_St_refs ml_GL_155 im_St_refs se_St_refs gc_St (hring _ (g_tn h12)).1 (gs_2 (hring _ (g_tn h12))) (hring _ (g_tn h12)).2.2.1 rfl (by decide) (by decide) rfl id id T (fun v14 M13 h15 T => ?_)
        exact wp_ireturn d_GL_content_114 rfl id (Nat.zero_le _) (Nat.zero_le _) (kI_mk h15 T)
      refine xlook (off := 67) (tgt := 115) d_GL_content_48 (w32_id hx3) rfl (show Op.lookupswitch.offset [(0, 28), (1, 52)] 67 x3 = 67 by simp only [Op.lookupswitch.offset, if_neg (Ne.symm hc0), if_neg (Ne.symm hc1)]) (by decide) ?_
      have T := T2 ⟨hc0, hc1⟩
      refine wp_aload_n d_GL_content_115 rfl rfl (g_nz (gl_1 hX 0)) ?_
      refine xgetR d_GL_content_116 gc_GL f_GL_40.1 f_GL_40.2.1 f_GL_40.2.2.1 (gl_1 hX 0) (gl_2 hX (a := 0) (by decide)) (gl_s0 hX) f_GL_40.2.2.2.2.1 (gl_f0 hX 26 rfl) ?_
      refine wp_aload_n d_GL_content_119 rfl rfl (g_nz (gl_1 hX 0)) ?_
      refine xgetI d_GL_content_120 gc_GL f_GL_81.1 f_GL_81.2.1 f_GL_81.2.2.1 (gl_1 hX 0) (gl_2 hX (a := 0) (by decide)) (gl_s0 hX) f_GL_81.2.2.2.2.1 (fun h16 => ?_)
      have T := T h16
      have h17 := T.1
      refine xaald d_GL_content_123 (Or.inr rfl) (gl_1 hX 23) (gl_2 hX (a := 23) (by decide)) (gl_s hX 23 rfl) (g32_n h17 (by decide)) h17.1 h17.2 rfl ?_
      have T := T.2
      refine wp_iload d_GL_content_124 rfl ?_
      refine xcV_I (md' := false) (As := [gI (M3 (c + 235) (Int.toNat v4))]) (st := []) d_GL_content_126 ca_St_gone ml_GL_158 im_St_gone se_St_gone gc_St (hring _ (g_tn h17)).1 (gs_2 (hring _ (g_tn h17))) (hring _ (g_tn h17)).2.2.1 rfl (by decide) (by decide) rfl id id T (fun v19 M18 h20 T => ?_)
      exact wp_ireturn d_GL_content_129 rfl id (Nat.zero_le _) (Nat.zero_le _) (kI_mk h20 T)
    · have T := T.2 h21
      refine wp_iconst d_GL_content_45 ?_
      exact wp_ireturn d_GL_content_46 rfl id (Nat.zero_le _) (Nat.zero_le _) (kI_mk (g32_c (x := 0) rfl) T)
  · have T := T.2 h63
    refine wp_iload_n d_GL_content_9 rfl rfl ?_
    refine wp_iconst d_GL_content_10 ?_
    refine xi_gt (tgt := 18) d_GL_content_11 (by decide) (w32_id hx3) (w32_id (g32_c (x := 2) rfl)) (fun h62 => ?_) (fun h62 => ?_)
    · have T := T.1 h62
      refine wp_iconst d_GL_content_18 ?_
      refine xcS_V (md' := false) (As := [gI 0]) (st := []) d_GL_content_19 ca_GL_need ml_GL_69 sm_GL_need rfl (by decide) (by decide) rfl id id T (fun M22 T => ?_)
      refine wp_aload_n d_GL_content_22 rfl rfl (g_nz (gl_1 hX 0)) ?_
      refine xgetR d_GL_content_23 gc_GL f_GL_54.1 f_GL_54.2.1 f_GL_54.2.2.1 (gl_1 hX 0) (gl_2 hX (a := 0) (by decide)) (gl_s0 hX) f_GL_54.2.2.2.2.1 (gl_f0 hX 27 rfl) ?_
      refine xgetR d_GL_content_26 gc_Rs f_GL_127.1 f_GL_127.2.1 f_GL_127.2.2.1 (gl_1 hX 234) (gl_2 hX (a := 234) (by decide)) (gl_s hX 24 rfl) f_GL_127.2.2.2.2.1 (gl_f hX 28 rfl) ?_
      refine wp_iload_n d_GL_content_29 rfl rfl ?_
      refine wp_iload_n d_GL_content_30 rfl rfl ?_
      refine xcS_I (md' := false) (As := [gI x1, gI x2]) (st := [gR G (c + 235)]) d_GL_content_31 ca_GL_place ml_GL_88 sm_GL_place rfl (by decide) (by simp only [List.map, gR_cat, gI_cat, gL_cat, List.sum_cons, List.sum_nil]; decide) rfl id id T (fun v24 M23 h25 T => ?_)
      refine wp_iaload d_GL_content_34 (gl_1 hX 235) (gl_2 hX (a := 235) (by decide)) (gl_s hX 25 rfl) (g32_n T.1 (by decide)) T.1.1 T.1.2 (fun h26 => ?_)
      have T := T.2 h26
      refine wp_istore (L' := [.val (gR G c), .val (gI x1), .val (gI x2), .val (gI x3), .val (gI (M23 (c + 235) (Int.toNat v24)))]) d_GL_content_35 (by decide) rfl ?_
      refine wp_iload d_GL_content_37 rfl ?_
      refine wp_sipush d_GL_content_39 ⟨by decide, by decide⟩ ?_
      refine xi_ne (tgt := 47) d_GL_content_42 (by decide) (w32_id h26) (w32_id (g32_c (x := 400) rfl)) (fun h41 => ?_) (fun h41 => ?_)
      · have T := T.1 h41
        refine wp_iload_n d_GL_content_47 rfl rfl ?_
        obtain ⟨T0, T1, T2⟩ := T
        by_cases hc0 : x3 = 0
        · refine xlook (off := 28) (tgt := 76) d_GL_content_48 (w32_id hx3) rfl (by rw [hc0]; rfl) (by decide) ?_
          have T := T0 hc0
          refine wp_aload_n d_GL_content_76 rfl rfl (g_nz (gl_1 hX 0)) ?_
          refine xgetR d_GL_content_77 gc_GL f_GL_16.1 f_GL_16.2.1 f_GL_16.2.2.1 (gl_1 hX 0) (gl_2 hX (a := 0) (by decide)) (gl_s0 hX) f_GL_16.2.2.2.2.1 (gl_f0 hX 1 rfl) ?_
          refine xgetR d_GL_content_80 gc_Cn f_GL_151.1 f_GL_151.2.1 f_GL_151.2.2.1 (gl_1 hX 2) (gl_2 hX (a := 2) (by decide)) (gl_s hX 2 rfl) f_GL_151.2.2.2.2.1 (gl_f hX 2 rfl) ?_
          refine wp_aload_n d_GL_content_83 rfl rfl (g_nz (gl_1 hX 0)) ?_
          refine xgetR d_GL_content_84 gc_GL f_GL_40.1 f_GL_40.2.1 f_GL_40.2.2.1 (gl_1 hX 0) (gl_2 hX (a := 0) (by decide)) (gl_s0 hX) f_GL_40.2.2.2.2.1 (gl_f0 hX 26 rfl) ?_
          refine wp_aload_n d_GL_content_87 rfl rfl (g_nz (gl_1 hX 0)) ?_
          refine xgetI d_GL_content_88 gc_GL f_GL_81.1 f_GL_81.2.1 f_GL_81.2.2.1 (gl_1 hX 0) (gl_2 hX (a := 0) (by decide)) (gl_s0 hX) f_GL_81.2.2.2.2.1 (fun h27 => ?_)
          have T := T h27
          have h28 := T.1
          refine xaald d_GL_content_91 (Or.inr rfl) (gl_1 hX 23) (gl_2 hX (a := 23) (by decide)) (gl_s hX 23 rfl) (g32_n h28 (by decide)) h28.1 h28.2 rfl ?_
          have T := T.2
          refine xgetR d_GL_content_92 gc_St f_GL_152.1 f_GL_152.2.1 f_GL_152.2.2.1 (hring _ (g_tn h28)).1 (gs_2 (hring _ (g_tn h28))) (hring _ (g_tn h28)).2.2.1 f_GL_152.2.2.2.2.1 (gs_r (hring _ (g_tn h28)) 1 rfl).1 ?_
          refine wp_iload d_GL_content_95 rfl ?_
          refine wp_iaload d_GL_content_97 (gs_r (hring _ (g_tn h28)) 1 rfl).2.2.1 (gs_r (hring _ (g_tn h28)) 1 rfl).2.2.2 (gs_r (hring _ (g_tn h28)) 1 rfl).2.1 (g32_n T.1 (by decide)) T.1.1 T.1.2 (fun h29 => ?_)
          have T := T.2 h29
          refine wp_iaload d_GL_content_98 (gl_1 hX 3) (gl_2 hX (a := 3) (by decide)) (gl_s hX 3 rfl) (g32_n T.1 (by decide)) T.1.1 T.1.2 (fun h30 => ?_)
          have T := T.2 h30
          exact wp_ireturn d_GL_content_99 rfl id (Nat.zero_le _) (Nat.zero_le _) (kI_mk h30 T)
        by_cases hc1 : x3 = 1
        · refine xlook (off := 52) (tgt := 100) d_GL_content_48 (w32_id hx3) rfl (by rw [hc1]; rfl) (by decide) ?_
          have T := T1 hc1
          refine wp_aload_n d_GL_content_100 rfl rfl (g_nz (gl_1 hX 0)) ?_
          refine xgetR d_GL_content_101 gc_GL f_GL_40.1 f_GL_40.2.1 f_GL_40.2.2.1 (gl_1 hX 0) (gl_2 hX (a := 0) (by decide)) (gl_s0 hX) f_GL_40.2.2.2.2.1 (gl_f0 hX 26 rfl) ?_
          refine wp_aload_n d_GL_content_104 rfl rfl (g_nz (gl_1 hX 0)) ?_
          refine xgetI d_GL_content_105 gc_GL f_GL_81.1 f_GL_81.2.1 f_GL_81.2.2.1 (gl_1 hX 0) (gl_2 hX (a := 0) (by decide)) (gl_s0 hX) f_GL_81.2.2.2.2.1 (fun h31 => ?_)
          have T := T h31
          have h32 := T.1
          refine xaald d_GL_content_108 (Or.inr rfl) (gl_1 hX 23) (gl_2 hX (a := 23) (by decide)) (gl_s hX 23 rfl) (g32_n h32 (by decide)) h32.1 h32.2 rfl ?_
          have T := T.2
          refine wp_iload d_GL_content_109 rfl ?_
          refine xcV_I (md' := false) (As := [gI (M23 (c + 235) (Int.toNat v24))]) (st := []) d_GL_content_111 ca_St_refs ml_GL_155 im_St_refs se_St_refs gc_St (hring _ (g_tn h32)).1 (gs_2 (hring _ (g_tn h32))) (hring _ (g_tn h32)).2.2.1 rfl (by decide) (by decide) rfl id id T (fun v34 M33 h35 T => ?_)
          exact wp_ireturn d_GL_content_114 rfl id (Nat.zero_le _) (Nat.zero_le _) (kI_mk h35 T)
        refine xlook (off := 67) (tgt := 115) d_GL_content_48 (w32_id hx3) rfl (show Op.lookupswitch.offset [(0, 28), (1, 52)] 67 x3 = 67 by simp only [Op.lookupswitch.offset, if_neg (Ne.symm hc0), if_neg (Ne.symm hc1)]) (by decide) ?_
        have T := T2 ⟨hc0, hc1⟩
        refine wp_aload_n d_GL_content_115 rfl rfl (g_nz (gl_1 hX 0)) ?_
        refine xgetR d_GL_content_116 gc_GL f_GL_40.1 f_GL_40.2.1 f_GL_40.2.2.1 (gl_1 hX 0) (gl_2 hX (a := 0) (by decide)) (gl_s0 hX) f_GL_40.2.2.2.2.1 (gl_f0 hX 26 rfl) ?_
        refine wp_aload_n d_GL_content_119 rfl rfl (g_nz (gl_1 hX 0)) ?_
        refine xgetI d_GL_content_120 gc_GL f_GL_81.1 f_GL_81.2.1 f_GL_81.2.2.1 (gl_1 hX 0) (gl_2 hX (a := 0) (by decide)) (gl_s0 hX) f_GL_81.2.2.2.2.1 (fun h36 => ?_)
        have T := T h36
        have h37 := T.1
        refine xaald d_GL_content_123 (Or.inr rfl) (gl_1 hX 23) (gl_2 hX (a := 23) (by decide)) (gl_s hX 23 rfl) (g32_n h37 (by decide)) h37.1 h37.2 rfl ?_
        have T := T.2
        refine wp_iload d_GL_content_124 rfl ?_
        refine xcV_I (md' := false) (As := [gI (M23 (c + 235) (Int.toNat v24))]) (st := []) d_GL_content_126 ca_St_gone ml_GL_158 im_St_gone se_St_gone gc_St (hring _ (g_tn h37)).1 (gs_2 (hring _ (g_tn h37))) (hring _ (g_tn h37)).2.2.1 rfl (by decide) (by decide) rfl id id T (fun v39 M38 h40 T => ?_)
        exact wp_ireturn d_GL_content_129 rfl id (Nat.zero_le _) (Nat.zero_le _) (kI_mk h40 T)
      · have T := T.2 h41
        refine wp_iconst d_GL_content_45 ?_
        exact wp_ireturn d_GL_content_46 rfl id (Nat.zero_le _) (Nat.zero_le _) (kI_mk (g32_c (x := 0) rfl) T)
    · have T := T.2 h62
      refine wp_iconst d_GL_content_14 ?_
      refine wp_goto (tgt := 19) d_GL_content_15 (by decide) ?_
      refine xcS_V (md' := false) (As := [gI 1]) (st := []) d_GL_content_19 ca_GL_need ml_GL_69 sm_GL_need rfl (by decide) (by decide) rfl id id T (fun M42 T => ?_)
      refine wp_aload_n d_GL_content_22 rfl rfl (g_nz (gl_1 hX 0)) ?_
      refine xgetR d_GL_content_23 gc_GL f_GL_54.1 f_GL_54.2.1 f_GL_54.2.2.1 (gl_1 hX 0) (gl_2 hX (a := 0) (by decide)) (gl_s0 hX) f_GL_54.2.2.2.2.1 (gl_f0 hX 27 rfl) ?_
      refine xgetR d_GL_content_26 gc_Rs f_GL_127.1 f_GL_127.2.1 f_GL_127.2.2.1 (gl_1 hX 234) (gl_2 hX (a := 234) (by decide)) (gl_s hX 24 rfl) f_GL_127.2.2.2.2.1 (gl_f hX 28 rfl) ?_
      refine wp_iload_n d_GL_content_29 rfl rfl ?_
      refine wp_iload_n d_GL_content_30 rfl rfl ?_
      refine xcS_I (md' := false) (As := [gI x1, gI x2]) (st := [gR G (c + 235)]) d_GL_content_31 ca_GL_place ml_GL_88 sm_GL_place rfl (by decide) (by simp only [List.map, gR_cat, gI_cat, gL_cat, List.sum_cons, List.sum_nil]; decide) rfl id id T (fun v44 M43 h45 T => ?_)
      refine wp_iaload d_GL_content_34 (gl_1 hX 235) (gl_2 hX (a := 235) (by decide)) (gl_s hX 25 rfl) (g32_n T.1 (by decide)) T.1.1 T.1.2 (fun h46 => ?_)
      have T := T.2 h46
      refine wp_istore (L' := [.val (gR G c), .val (gI x1), .val (gI x2), .val (gI x3), .val (gI (M43 (c + 235) (Int.toNat v44)))]) d_GL_content_35 (by decide) rfl ?_
      refine wp_iload d_GL_content_37 rfl ?_
      refine wp_sipush d_GL_content_39 ⟨by decide, by decide⟩ ?_
      refine xi_ne (tgt := 47) d_GL_content_42 (by decide) (w32_id h46) (w32_id (g32_c (x := 400) rfl)) (fun h61 => ?_) (fun h61 => ?_)
      · have T := T.1 h61
        refine wp_iload_n d_GL_content_47 rfl rfl ?_
        obtain ⟨T0, T1, T2⟩ := T
        by_cases hc0 : x3 = 0
        · refine xlook (off := 28) (tgt := 76) d_GL_content_48 (w32_id hx3) rfl (by rw [hc0]; rfl) (by decide) ?_
          have T := T0 hc0
          refine wp_aload_n d_GL_content_76 rfl rfl (g_nz (gl_1 hX 0)) ?_
          refine xgetR d_GL_content_77 gc_GL f_GL_16.1 f_GL_16.2.1 f_GL_16.2.2.1 (gl_1 hX 0) (gl_2 hX (a := 0) (by decide)) (gl_s0 hX) f_GL_16.2.2.2.2.1 (gl_f0 hX 1 rfl) ?_
          refine xgetR d_GL_content_80 gc_Cn f_GL_151.1 f_GL_151.2.1 f_GL_151.2.2.1 (gl_1 hX 2) (gl_2 hX (a := 2) (by decide)) (gl_s hX 2 rfl) f_GL_151.2.2.2.2.1 (gl_f hX 2 rfl) ?_
          refine wp_aload_n d_GL_content_83 rfl rfl (g_nz (gl_1 hX 0)) ?_
          refine xgetR d_GL_content_84 gc_GL f_GL_40.1 f_GL_40.2.1 f_GL_40.2.2.1 (gl_1 hX 0) (gl_2 hX (a := 0) (by decide)) (gl_s0 hX) f_GL_40.2.2.2.2.1 (gl_f0 hX 26 rfl) ?_
          refine wp_aload_n d_GL_content_87 rfl rfl (g_nz (gl_1 hX 0)) ?_
          refine xgetI d_GL_content_88 gc_GL f_GL_81.1 f_GL_81.2.1 f_GL_81.2.2.1 (gl_1 hX 0) (gl_2 hX (a := 0) (by decide)) (gl_s0 hX) f_GL_81.2.2.2.2.1 (fun h47 => ?_)
          have T := T h47
          have h48 := T.1
          refine xaald d_GL_content_91 (Or.inr rfl) (gl_1 hX 23) (gl_2 hX (a := 23) (by decide)) (gl_s hX 23 rfl) (g32_n h48 (by decide)) h48.1 h48.2 rfl ?_
          have T := T.2
          refine xgetR d_GL_content_92 gc_St f_GL_152.1 f_GL_152.2.1 f_GL_152.2.2.1 (hring _ (g_tn h48)).1 (gs_2 (hring _ (g_tn h48))) (hring _ (g_tn h48)).2.2.1 f_GL_152.2.2.2.2.1 (gs_r (hring _ (g_tn h48)) 1 rfl).1 ?_
          refine wp_iload d_GL_content_95 rfl ?_
          refine wp_iaload d_GL_content_97 (gs_r (hring _ (g_tn h48)) 1 rfl).2.2.1 (gs_r (hring _ (g_tn h48)) 1 rfl).2.2.2 (gs_r (hring _ (g_tn h48)) 1 rfl).2.1 (g32_n T.1 (by decide)) T.1.1 T.1.2 (fun h49 => ?_)
          have T := T.2 h49
          refine wp_iaload d_GL_content_98 (gl_1 hX 3) (gl_2 hX (a := 3) (by decide)) (gl_s hX 3 rfl) (g32_n T.1 (by decide)) T.1.1 T.1.2 (fun h50 => ?_)
          have T := T.2 h50
          exact wp_ireturn d_GL_content_99 rfl id (Nat.zero_le _) (Nat.zero_le _) (kI_mk h50 T)
        by_cases hc1 : x3 = 1
        · refine xlook (off := 52) (tgt := 100) d_GL_content_48 (w32_id hx3) rfl (by rw [hc1]; rfl) (by decide) ?_
          have T := T1 hc1
          refine wp_aload_n d_GL_content_100 rfl rfl (g_nz (gl_1 hX 0)) ?_
          refine xgetR d_GL_content_101 gc_GL f_GL_40.1 f_GL_40.2.1 f_GL_40.2.2.1 (gl_1 hX 0) (gl_2 hX (a := 0) (by decide)) (gl_s0 hX) f_GL_40.2.2.2.2.1 (gl_f0 hX 26 rfl) ?_
          refine wp_aload_n d_GL_content_104 rfl rfl (g_nz (gl_1 hX 0)) ?_
          refine xgetI d_GL_content_105 gc_GL f_GL_81.1 f_GL_81.2.1 f_GL_81.2.2.1 (gl_1 hX 0) (gl_2 hX (a := 0) (by decide)) (gl_s0 hX) f_GL_81.2.2.2.2.1 (fun h51 => ?_)
          have T := T h51
          have h52 := T.1
          refine xaald d_GL_content_108 (Or.inr rfl) (gl_1 hX 23) (gl_2 hX (a := 23) (by decide)) (gl_s hX 23 rfl) (g32_n h52 (by decide)) h52.1 h52.2 rfl ?_
          have T := T.2
          refine wp_iload d_GL_content_109 rfl ?_
          refine xcV_I (md' := false) (As := [gI (M43 (c + 235) (Int.toNat v44))]) (st := []) d_GL_content_111 ca_St_refs ml_GL_155 im_St_refs se_St_refs gc_St (hring _ (g_tn h52)).1 (gs_2 (hring _ (g_tn h52))) (hring _ (g_tn h52)).2.2.1 rfl (by decide) (by decide) rfl id id T (fun v54 M53 h55 T => ?_)
          exact wp_ireturn d_GL_content_114 rfl id (Nat.zero_le _) (Nat.zero_le _) (kI_mk h55 T)
        refine xlook (off := 67) (tgt := 115) d_GL_content_48 (w32_id hx3) rfl (show Op.lookupswitch.offset [(0, 28), (1, 52)] 67 x3 = 67 by simp only [Op.lookupswitch.offset, if_neg (Ne.symm hc0), if_neg (Ne.symm hc1)]) (by decide) ?_
        have T := T2 ⟨hc0, hc1⟩
        refine wp_aload_n d_GL_content_115 rfl rfl (g_nz (gl_1 hX 0)) ?_
        refine xgetR d_GL_content_116 gc_GL f_GL_40.1 f_GL_40.2.1 f_GL_40.2.2.1 (gl_1 hX 0) (gl_2 hX (a := 0) (by decide)) (gl_s0 hX) f_GL_40.2.2.2.2.1 (gl_f0 hX 26 rfl) ?_
        refine wp_aload_n d_GL_content_119 rfl rfl (g_nz (gl_1 hX 0)) ?_
        refine xgetI d_GL_content_120 gc_GL f_GL_81.1 f_GL_81.2.1 f_GL_81.2.2.1 (gl_1 hX 0) (gl_2 hX (a := 0) (by decide)) (gl_s0 hX) f_GL_81.2.2.2.2.1 (fun h56 => ?_)
        have T := T h56
        have h57 := T.1
        refine xaald d_GL_content_123 (Or.inr rfl) (gl_1 hX 23) (gl_2 hX (a := 23) (by decide)) (gl_s hX 23 rfl) (g32_n h57 (by decide)) h57.1 h57.2 rfl ?_
        have T := T.2
        refine wp_iload d_GL_content_124 rfl ?_
        refine xcV_I (md' := false) (As := [gI (M43 (c + 235) (Int.toNat v44))]) (st := []) d_GL_content_126 ca_St_gone ml_GL_158 im_St_gone se_St_gone gc_St (hring _ (g_tn h57)).1 (gs_2 (hring _ (g_tn h57))) (hring _ (g_tn h57)).2.2.1 rfl (by decide) (by decide) rfl id id T (fun v59 M58 h60 T => ?_)
        exact wp_ireturn d_GL_content_129 rfl id (Nat.zero_le _) (Nat.zero_le _) (kI_mk h60 T)
      · have T := T.2 h61
        refine wp_iconst d_GL_content_45 ?_
        exact wp_ireturn d_GL_content_46 rfl id (Nat.zero_le _) (Nat.zero_le _) (kI_mk (g32_c (x := 0) rfl) T)
theorem e_GL_content {l : Launch} {G : gG} {d : Nat} {X : gX} {M : gM} {k : Int → gM → Prop} {c : Nat} {x1 : Int} {x2 : Int} {x3 : Int} (T : wp l G y_GL_content (gRm (d + 1)) false (kkI X k) false 0 [.val (gR G c), .val (gI x1), .val (gI x2), .val (gI x3), .unset] [] X M 0 0) : cI l G y_GL_content (gRm (d + 1)) false [gR G c, gI x1, gI x2, gI x3] X M k := cen_I (plainFor_of_name rfl) (by simp only [lg_sl_R, lg_sl_I, lg_sl_L, lg_sl_N, List.length_cons, List.length_nil]; decide) (by unfold gEn; simp only [lg_sl_R, lg_sl_I, lg_sl_L, lg_sl_N]; exact wpt T (And.intro rfl (And.intro rfl (And.intro rfl (And.intro rfl True.intro)))))
theorem d_GL_count_0 : decode prog_1_method_15_code 0 = .ok (.iload_n 1, 1) := by decide +kernel
theorem d_GL_count_1 : decode prog_1_method_15_code 1 = .ok (.tableswitch 113 0 7 #[47, 52, 60, 65, 70, 83, 88, 108], 47) := by decide +kernel
theorem d_GL_count_48 : decode prog_1_method_15_code 48 = .ok (.aload_n 0, 1) := by decide +kernel
theorem d_GL_count_49 : decode prog_1_method_15_code 49 = .ok (.getfield 58, 3) := by decide +kernel
theorem d_GL_count_52 : decode prog_1_method_15_code 52 = .ok (.ireturn, 1) := by decide +kernel
theorem d_GL_count_53 : decode prog_1_method_15_code 53 = .ok (.aload_n 0, 1) := by decide +kernel
theorem d_GL_count_54 : decode prog_1_method_15_code 54 = .ok (.getfield 54, 3) := by decide +kernel
theorem d_GL_count_57 : decode prog_1_method_15_code 57 = .ok (.getfield 167, 3) := by decide +kernel
theorem d_GL_count_60 : decode prog_1_method_15_code 60 = .ok (.ireturn, 1) := by decide +kernel
theorem d_GL_count_61 : decode prog_1_method_15_code 61 = .ok (.aload_n 0, 1) := by decide +kernel
theorem d_GL_count_62 : decode prog_1_method_15_code 62 = .ok (.getfield 115, 3) := by decide +kernel
theorem d_GL_count_65 : decode prog_1_method_15_code 65 = .ok (.ireturn, 1) := by decide +kernel
theorem d_GL_count_66 : decode prog_1_method_15_code 66 = .ok (.aload_n 0, 1) := by decide +kernel
theorem d_GL_count_67 : decode prog_1_method_15_code 67 = .ok (.getfield 121, 3) := by decide +kernel
theorem d_GL_count_70 : decode prog_1_method_15_code 70 = .ok (.ireturn, 1) := by decide +kernel
theorem d_GL_count_71 : decode prog_1_method_15_code 71 = .ok (.aload_n 0, 1) := by decide +kernel
theorem d_GL_count_72 : decode prog_1_method_15_code 72 = .ok (.getfield 40, 3) := by decide +kernel
theorem d_GL_count_75 : decode prog_1_method_15_code 75 = .ok (.aload_n 0, 1) := by decide +kernel
theorem d_GL_count_76 : decode prog_1_method_15_code 76 = .ok (.getfield 81, 3) := by decide +kernel
theorem d_GL_count_79 : decode prog_1_method_15_code 79 = .ok (.aaload, 1) := by decide +kernel
theorem d_GL_count_80 : decode prog_1_method_15_code 80 = .ok (.getfield 173, 3) := by decide +kernel
theorem d_GL_count_83 : decode prog_1_method_15_code 83 = .ok (.ireturn, 1) := by decide +kernel
theorem d_GL_count_84 : decode prog_1_method_15_code 84 = .ok (.aload_n 0, 1) := by decide +kernel
theorem d_GL_count_85 : decode prog_1_method_15_code 85 = .ok (.invokevirtual 176, 3) := by decide +kernel
theorem d_GL_count_88 : decode prog_1_method_15_code 88 = .ok (.ireturn, 1) := by decide +kernel
theorem d_GL_count_89 : decode prog_1_method_15_code 89 = .ok (.aload_n 0, 1) := by decide +kernel
theorem d_GL_count_90 : decode prog_1_method_15_code 90 = .ok (.getfield 54, 3) := by decide +kernel
theorem d_GL_count_93 : decode prog_1_method_15_code 93 = .ok (.aload_n 0, 1) := by decide +kernel
theorem d_GL_count_94 : decode prog_1_method_15_code 94 = .ok (.getfield 40, 3) := by decide +kernel
theorem d_GL_count_97 : decode prog_1_method_15_code 97 = .ok (.aload_n 0, 1) := by decide +kernel
theorem d_GL_count_98 : decode prog_1_method_15_code 98 = .ok (.getfield 81, 3) := by decide +kernel
theorem d_GL_count_101 : decode prog_1_method_15_code 101 = .ok (.aaload, 1) := by decide +kernel
theorem d_GL_count_102 : decode prog_1_method_15_code 102 = .ok (.getfield 173, 3) := by decide +kernel
theorem d_GL_count_105 : decode prog_1_method_15_code 105 = .ok (.invokevirtual 180, 3) := by decide +kernel
theorem d_GL_count_108 : decode prog_1_method_15_code 108 = .ok (.ireturn, 1) := by decide +kernel
theorem d_GL_count_109 : decode prog_1_method_15_code 109 = .ok (.aload_n 0, 1) := by decide +kernel
theorem d_GL_count_110 : decode prog_1_method_15_code 110 = .ok (.getfield 124, 3) := by decide +kernel
theorem d_GL_count_113 : decode prog_1_method_15_code 113 = .ok (.ireturn, 1) := by decide +kernel
theorem d_GL_count_114 : decode prog_1_method_15_code 114 = .ok (.iconst (-1), 1) := by decide +kernel
theorem d_GL_count_115 : decode prog_1_method_15_code 115 = .ok (.ireturn, 1) := by decide +kernel
set_option maxHeartbeats 4000000 in
theorem w_GL_count_0 {l : Launch} {G : gG} {d : Nat} {X : gX} {M : gM} {k : Int → gM → Prop} {c : Nat} (hX : glX X c) {x1 : Int} (hx1 : g32 x1) (hring : ∀ i : Nat, i < 41 → gsX X (X.2.2 (c + 23) i)) (T : (x1 = 0 → (g32 (M c 1) → (k (M c 1) M))) ∧ (x1 = 1 → (g32 (M (c + 234) 7) → (k (M (c + 234) 7) M))) ∧ (x1 = 2 → (g32 (M c 9) → (k (M c 9) M))) ∧ (x1 = 3 → (g32 (M c 10) → (k (M c 10) M))) ∧ (x1 = 4 → (g32 (M c 8) → (((0 : Int) ≤ M c 8 ∧ M c 8 < 41) ∧ (g32 (M (X.2.2 (c + 23) (Int.toNat (M c 8))) 0) → (k (M (X.2.2 (c + 23) (Int.toNat (M c 8))) 0) M))))) ∧ (x1 = 5 → (cI l G y_GL_formulas (gRm d) false [gR G c] X M (fun v9 M8 => (k v9 M8)))) ∧ (x1 = 6 → (g32 (M c 8) → (((0 : Int) ≤ M c 8 ∧ M c 8 < 41) ∧ (g32 (M (X.2.2 (c + 23) (Int.toNat (M c 8))) 0) → (cI l G y_Rs_cycles (gRm d) false [gR G (c + 234), gI (M (X.2.2 (c + 23) (Int.toNat (M c 8))) 0)] X M (fun v15 M14 => (k v15 M14))))))) ∧ (x1 = 7 → (g32 (M c 11) → (k (M c 11) M))) ∧ ((¬ x1 = 0 ∧ ¬ x1 = 1 ∧ ¬ x1 = 2 ∧ ¬ x1 = 3 ∧ ¬ x1 = 4 ∧ ¬ x1 = 5 ∧ ¬ x1 = 6 ∧ ¬ x1 = 7) → (k (-1) M))) : wp l G y_GL_count (gRm (d + 1)) false (kkI X k) false 0 [.val (gR G c), .val (gI x1)] [] X M 0 0 := by
  refine wp_iload_n d_GL_count_0 rfl rfl ?_
  obtain ⟨T0, T1, T2, T3, T4, T5, T6, T7, T8⟩ := T
  by_cases hc0 : x1 = 0
  · refine xtabIn (tgt := 48) d_GL_count_1 (w32_id hx1) 0 hc0 rfl rfl (by decide) ?_
    have T := T0 hc0
    refine wp_aload_n d_GL_count_48 rfl rfl (g_nz (gl_1 hX 0)) ?_
    refine xgetI d_GL_count_49 gc_GL f_GL_58.1 f_GL_58.2.1 f_GL_58.2.2.1 (gl_1 hX 0) (gl_2 hX (a := 0) (by decide)) (gl_s0 hX) f_GL_58.2.2.2.2.1 (fun h1 => ?_)
    have T := T h1
    exact wp_ireturn d_GL_count_52 rfl id (Nat.zero_le _) (Nat.zero_le _) (kI_mk h1 T)
  by_cases hc1 : x1 = 1
  · refine xtabIn (tgt := 53) d_GL_count_1 (w32_id hx1) 1 hc1 rfl rfl (by decide) ?_
    have T := T1 hc1
    refine wp_aload_n d_GL_count_53 rfl rfl (g_nz (gl_1 hX 0)) ?_
    refine xgetR d_GL_count_54 gc_GL f_GL_54.1 f_GL_54.2.1 f_GL_54.2.2.1 (gl_1 hX 0) (gl_2 hX (a := 0) (by decide)) (gl_s0 hX) f_GL_54.2.2.2.2.1 (gl_f0 hX 27 rfl) ?_
    refine xgetI d_GL_count_57 gc_Rs f_GL_167.1 f_GL_167.2.1 f_GL_167.2.2.1 (gl_1 hX 234) (gl_2 hX (a := 234) (by decide)) (gl_s hX 24 rfl) f_GL_167.2.2.2.2.1 (fun h2 => ?_)
    have T := T h2
    exact wp_ireturn d_GL_count_60 rfl id (Nat.zero_le _) (Nat.zero_le _) (kI_mk h2 T)
  by_cases hc2 : x1 = 2
  · refine xtabIn (tgt := 61) d_GL_count_1 (w32_id hx1) 2 hc2 rfl rfl (by decide) ?_
    have T := T2 hc2
    refine wp_aload_n d_GL_count_61 rfl rfl (g_nz (gl_1 hX 0)) ?_
    refine xgetI d_GL_count_62 gc_GL f_GL_115.1 f_GL_115.2.1 f_GL_115.2.2.1 (gl_1 hX 0) (gl_2 hX (a := 0) (by decide)) (gl_s0 hX) f_GL_115.2.2.2.2.1 (fun h3 => ?_)
    have T := T h3
    exact wp_ireturn d_GL_count_65 rfl id (Nat.zero_le _) (Nat.zero_le _) (kI_mk h3 T)
  by_cases hc3 : x1 = 3
  · refine xtabIn (tgt := 66) d_GL_count_1 (w32_id hx1) 3 hc3 rfl rfl (by decide) ?_
    have T := T3 hc3
    refine wp_aload_n d_GL_count_66 rfl rfl (g_nz (gl_1 hX 0)) ?_
    refine xgetI d_GL_count_67 gc_GL f_GL_121.1 f_GL_121.2.1 f_GL_121.2.2.1 (gl_1 hX 0) (gl_2 hX (a := 0) (by decide)) (gl_s0 hX) f_GL_121.2.2.2.2.1 (fun h4 => ?_)
    have T := T h4
    exact wp_ireturn d_GL_count_70 rfl id (Nat.zero_le _) (Nat.zero_le _) (kI_mk h4 T)
  by_cases hc4 : x1 = 4
  · refine xtabIn (tgt := 71) d_GL_count_1 (w32_id hx1) 4 hc4 rfl rfl (by decide) ?_
    have T := T4 hc4
    refine wp_aload_n d_GL_count_71 rfl rfl (g_nz (gl_1 hX 0)) ?_
    refine xgetR d_GL_count_72 gc_GL f_GL_40.1 f_GL_40.2.1 f_GL_40.2.2.1 (gl_1 hX 0) (gl_2 hX (a := 0) (by decide)) (gl_s0 hX) f_GL_40.2.2.2.2.1 (gl_f0 hX 26 rfl) ?_
    refine wp_aload_n d_GL_count_75 rfl rfl (g_nz (gl_1 hX 0)) ?_
    refine xgetI d_GL_count_76 gc_GL f_GL_81.1 f_GL_81.2.1 f_GL_81.2.2.1 (gl_1 hX 0) (gl_2 hX (a := 0) (by decide)) (gl_s0 hX) f_GL_81.2.2.2.2.1 (fun h5 => ?_)
    have T := T h5
    have h6 := T.1
    refine xaald d_GL_count_79 (Or.inr rfl) (gl_1 hX 23) (gl_2 hX (a := 23) (by decide)) (gl_s hX 23 rfl) (g32_n h6 (by decide)) h6.1 h6.2 rfl ?_
    have T := T.2
    refine xgetI d_GL_count_80 gc_St f_GL_173.1 f_GL_173.2.1 f_GL_173.2.2.1 (hring _ (g_tn h6)).1 (gs_2 (hring _ (g_tn h6))) (hring _ (g_tn h6)).2.2.1 f_GL_173.2.2.2.2.1 (fun h7 => ?_)
    have T := T h7
    exact wp_ireturn d_GL_count_83 rfl id (Nat.zero_le _) (Nat.zero_le _) (kI_mk h7 T)
  by_cases hc5 : x1 = 5
  · refine xtabIn (tgt := 84) d_GL_count_1 (w32_id hx1) 5 hc5 rfl rfl (by decide) ?_
    have T := T5 hc5
    refine wp_aload_n d_GL_count_84 rfl rfl (g_nz (gl_1 hX 0)) ?_
    refine xcV_I (md' := false) (As := []) (st := []) d_GL_count_85 ca_GL_formulas ml_GL_176 im_GL_formulas se_GL_formulas gc_GL (gl_1 hX 0) (gl_2 hX (a := 0) (by decide)) (gl_s0 hX) rfl (by decide) (by decide) rfl id id T (fun v9 M8 h10 T => ?_)
    exact wp_ireturn d_GL_count_88 rfl id (Nat.zero_le _) (Nat.zero_le _) (kI_mk h10 T)
  by_cases hc6 : x1 = 6
  · refine xtabIn (tgt := 89) d_GL_count_1 (w32_id hx1) 6 hc6 rfl rfl (by decide) ?_
    have T := T6 hc6
    refine wp_aload_n d_GL_count_89 rfl rfl (g_nz (gl_1 hX 0)) ?_
    refine xgetR d_GL_count_90 gc_GL f_GL_54.1 f_GL_54.2.1 f_GL_54.2.2.1 (gl_1 hX 0) (gl_2 hX (a := 0) (by decide)) (gl_s0 hX) f_GL_54.2.2.2.2.1 (gl_f0 hX 27 rfl) ?_
    refine wp_aload_n d_GL_count_93 rfl rfl (g_nz (gl_1 hX 0)) ?_
    refine xgetR d_GL_count_94 gc_GL f_GL_40.1 f_GL_40.2.1 f_GL_40.2.2.1 (gl_1 hX 0) (gl_2 hX (a := 0) (by decide)) (gl_s0 hX) f_GL_40.2.2.2.2.1 (gl_f0 hX 26 rfl) ?_
    refine wp_aload_n d_GL_count_97 rfl rfl (g_nz (gl_1 hX 0)) ?_
    refine xgetI d_GL_count_98 gc_GL f_GL_81.1 f_GL_81.2.1 f_GL_81.2.2.1 (gl_1 hX 0) (gl_2 hX (a := 0) (by decide)) (gl_s0 hX) f_GL_81.2.2.2.2.1 (fun h11 => ?_)
    have T := T h11
    have h12 := T.1
    refine xaald d_GL_count_101 (Or.inr rfl) (gl_1 hX 23) (gl_2 hX (a := 23) (by decide)) (gl_s hX 23 rfl) (g32_n h12 (by decide)) h12.1 h12.2 rfl ?_
    have T := T.2
    refine xgetI d_GL_count_102 gc_St f_GL_173.1 f_GL_173.2.1 f_GL_173.2.2.1 (hring _ (g_tn h12)).1 (gs_2 (hring _ (g_tn h12))) (hring _ (g_tn h12)).2.2.1 f_GL_173.2.2.2.2.1 (fun h13 => ?_)
    have T := T h13
    refine xcV_I (md' := false) (As := [gI (M (X.2.2 (c + 23) (Int.toNat (M c 8))) 0)]) (st := []) d_GL_count_105 ca_Rs_cycles ml_GL_180 im_Rs_cycles se_Rs_cycles gc_Rs (gl_1 hX 234) (gl_2 hX (a := 234) (by decide)) (gl_s hX 24 rfl) rfl (by decide) (by decide) rfl id id T (fun v15 M14 h16 T => ?_)
    exact wp_ireturn d_GL_count_108 rfl id (Nat.zero_le _) (Nat.zero_le _) (kI_mk h16 T)
  by_cases hc7 : x1 = 7
  · refine xtabIn (tgt := 109) d_GL_count_1 (w32_id hx1) 7 hc7 rfl rfl (by decide) ?_
    have T := T7 hc7
    refine wp_aload_n d_GL_count_109 rfl rfl (g_nz (gl_1 hX 0)) ?_
    refine xgetI d_GL_count_110 gc_GL f_GL_124.1 f_GL_124.2.1 f_GL_124.2.2.1 (gl_1 hX 0) (gl_2 hX (a := 0) (by decide)) (gl_s0 hX) f_GL_124.2.2.2.2.1 (fun h17 => ?_)
    have T := T h17
    exact wp_ireturn d_GL_count_113 rfl id (Nat.zero_le _) (Nat.zero_le _) (kI_mk h17 T)
  refine xtabOut (tgt := 114) d_GL_count_1 (w32_id hx1) (by omega) (by decide) ?_
  have T := T8 ⟨hc0, hc1, hc2, hc3, hc4, hc5, hc6, hc7⟩
  refine wp_iconst d_GL_count_114 ?_
  exact wp_ireturn d_GL_count_115 rfl id (Nat.zero_le _) (Nat.zero_le _) (kI_mk (g32_c (x := (-1)) rfl) T)
theorem e_GL_count {l : Launch} {G : gG} {d : Nat} {X : gX} {M : gM} {k : Int → gM → Prop} {c : Nat} {x1 : Int} (T : wp l G y_GL_count (gRm (d + 1)) false (kkI X k) false 0 [.val (gR G c), .val (gI x1)] [] X M 0 0) : cI l G y_GL_count (gRm (d + 1)) false [gR G c, gI x1] X M k := cen_I (plainFor_of_name rfl) (by simp only [lg_sl_R, lg_sl_I, lg_sl_L, lg_sl_N, List.length_cons, List.length_nil]; decide) (by unfold gEn; simp only [lg_sl_R, lg_sl_I, lg_sl_L, lg_sl_N]; exact wpt T (And.intro rfl (And.intro rfl True.intro)))
theorem d_GL_take_0 : decode prog_1_method_16_code 0 = .ok (.bipush 24, 2) := by decide +kernel
theorem d_GL_take_2 : decode prog_1_method_16_code 2 = .ok (.istore_n 2, 1) := by decide +kernel
theorem d_GL_take_3 : decode prog_1_method_16_code 3 = .ok (.iload_n 2, 1) := by decide +kernel
theorem d_GL_take_4 : decode prog_1_method_16_code 4 = .ok (.ifCond .lt 32, 3) := by decide +kernel
theorem d_GL_take_36 : decode prog_1_method_16_code 36 = .ok (.return_, 1) := by decide +kernel
theorem d_GL_take_7 : decode prog_1_method_16_code 7 = .ok (.aload_n 0, 1) := by decide +kernel
theorem d_GL_take_8 : decode prog_1_method_16_code 8 = .ok (.getfield 9, 3) := by decide +kernel
theorem d_GL_take_11 : decode prog_1_method_16_code 11 = .ok (.aload_n 0, 1) := by decide +kernel
theorem d_GL_take_12 : decode prog_1_method_16_code 12 = .ok (.getfield 58, 3) := by decide +kernel
theorem d_GL_take_15 : decode prog_1_method_16_code 15 = .ok (.iload_n 1, 1) := by decide +kernel
theorem d_GL_take_16 : decode prog_1_method_16_code 16 = .ok (.iload_n 2, 1) := by decide +kernel
theorem d_GL_take_17 : decode prog_1_method_16_code 17 = .ok (.ishr, 1) := by decide +kernel
theorem d_GL_take_18 : decode prog_1_method_16_code 18 = .ok (.i2b, 1) := by decide +kernel
theorem d_GL_take_19 : decode prog_1_method_16_code 19 = .ok (.bastore, 1) := by decide +kernel
theorem d_GL_take_20 : decode prog_1_method_16_code 20 = .ok (.aload_n 0, 1) := by decide +kernel
theorem d_GL_take_21 : decode prog_1_method_16_code 21 = .ok (.dup, 1) := by decide +kernel
theorem d_GL_take_22 : decode prog_1_method_16_code 22 = .ok (.getfield 58, 3) := by decide +kernel
theorem d_GL_take_25 : decode prog_1_method_16_code 25 = .ok (.iconst 1, 1) := by decide +kernel
theorem d_GL_take_26 : decode prog_1_method_16_code 26 = .ok (.iadd, 1) := by decide +kernel
theorem d_GL_take_27 : decode prog_1_method_16_code 27 = .ok (.putfield 58, 3) := by decide +kernel
theorem d_GL_take_30 : decode prog_1_method_16_code 30 = .ok (.iinc 2 (-8), 3) := by decide +kernel
theorem d_GL_take_33 : decode prog_1_method_16_code 33 = .ok (.goto (-30), 3) := by decide +kernel
set_option maxHeartbeats 4000000 in
theorem w_GL_take_0 {l : Launch} {G : gG} {d : Nat} {X : gX} {M : gM} {k : gM → Prop} {c : Nat} (hX : glX X c) {x1 : Int} (hx1 : g32 x1)  (T : wp l G y_GL_take (gRm d) true (kkV X k) true 3 [.val (gR G c), .val (gI x1), .val (gI 24)] [] X M 0 0) : wp l G y_GL_take (gRm d) true (kkV X k) false 0 [.val (gR G c), .val (gI x1), .unset] [] X M 0 0 := by
  refine wp_bipush d_GL_take_0 ⟨by decide, by decide⟩ ?_
  refine wp_istore_n (L' := [.val (gR G c), .val (gI x1), .val (gI 24)]) d_GL_take_2 rfl (by decide) rfl ?_
  exact wp_md (wpt T (And.intro rfl (And.intro rfl (And.intro rfl True.intro))))
set_option maxHeartbeats 4000000 in
theorem w_GL_take_3 {l : Launch} {G : gG} {d : Nat} {X : gX} {M : gM} {k : gM → Prop} {c : Nat} (hX : glX X c) {x1 : Int} (hx1 : g32 x1) {x2 : Int} (hx2 : g32 x2)  (T : (x2 < 0 → (k M)) ∧ (¬ x2 < 0 → (g32 (M c 1) → (((0 : Int) ≤ M c 1 ∧ M c 1 < 240) ∧ (g32 ((gUp M (c + 1) (Int.toNat (M c 1)) (gByte (gByte (gShr x1 x2)))) c 1) → (wp l G y_GL_take (gRm d) true (kkV X k) true 3 [.val (gR G c), .val (gI x1), .val (gI (w32 (x2 + (-8))))] [] X (gUp (gUp M (c + 1) (Int.toNat (M c 1)) (gByte (gByte (gShr x1 x2)))) c 1 (w32 (((gUp M (c + 1) (Int.toNat (M c 1)) (gByte (gByte (gShr x1 x2)))) c 1) + 1))) 0 0)))))) : wp l G y_GL_take (gRm d) true (kkV X k) true 3 [.val (gR G c), .val (gI x1), .val (gI x2)] [] X M 0 0 := by
  refine wp_iload_n d_GL_take_3 rfl rfl ?_
  refine xz_lt (tgt := 36) d_GL_take_4 (by decide) (w32_id hx2) (fun h3 => ?_) (fun h3 => ?_)
  · have T := T.1 h3
    exact wp_return d_GL_take_36 rfl (fun _ => rfl) (Nat.zero_le _) (Nat.zero_le _) (kV_mk T)
  · have T := T.2 h3
    refine wp_aload_n d_GL_take_7 rfl rfl (g_nz (gl_1 hX 0)) ?_
    refine xgetR d_GL_take_8 gc_GL f_GL_9.1 f_GL_9.2.1 f_GL_9.2.2.1 (gl_1 hX 0) (gl_2 hX (a := 0) (by decide)) (gl_s0 hX) f_GL_9.2.2.2.2.1 (gl_f0 hX 0 rfl) ?_
    refine wp_aload_n d_GL_take_11 rfl rfl (g_nz (gl_1 hX 0)) ?_
    refine xgetI d_GL_take_12 gc_GL f_GL_58.1 f_GL_58.2.1 f_GL_58.2.2.1 (gl_1 hX 0) (gl_2 hX (a := 0) (by decide)) (gl_s0 hX) f_GL_58.2.2.2.2.1 (fun h1 => ?_)
    have T := T h1
    refine wp_iload_n d_GL_take_15 rfl rfl ?_
    refine wp_iload_n d_GL_take_16 rfl rfl ?_
    refine wp_ishr d_GL_take_17 ?_
    refine wp_i2b d_GL_take_18 ?_
    refine xbast d_GL_take_19 (gl_1 hX 1) (gl_2 hX (a := 1) (by decide)) (gl_s hX 1 rfl) (by decide) T.1 ?_
    have T := T.2
    refine wp_aload_n d_GL_take_20 rfl rfl (g_nz (gl_1 hX 0)) ?_
    refine wp_dup d_GL_take_21 (gR_cat _) ?_
    refine xgetI d_GL_take_22 gc_GL f_GL_58.1 f_GL_58.2.1 f_GL_58.2.2.1 (gl_1 hX 0) (gl_2 hX (a := 0) (by decide)) (gl_s0 hX) f_GL_58.2.2.2.2.1 (fun h2 => ?_)
    have T := T h2
    refine wp_iconst d_GL_take_25 ?_
    refine wp_iadd d_GL_take_26 ?_
    refine xputI d_GL_take_27 gc_GL f_GL_58.1 f_GL_58.2.1 f_GL_58.2.2.1 (gl_1 hX 0) (gl_2 hX (a := 0) (by decide)) (gl_s0 hX) f_GL_58.2.2.2.1 f_GL_58.2.2.2.2.1 f_GL_58.2.2.2.2.2 rfl ?_
    refine wp_iinc (L' := [.val (gR G c), .val (gI x1), .val (gI (x2 + (-8)))]) d_GL_take_30 rfl (by decide) rfl ?_
    refine wp_goto (tgt := 3) d_GL_take_33 (by decide) ?_
    exact wp_md (wpt T (And.intro rfl (And.intro rfl (And.intro (gI_w _) True.intro))))
theorem e_GL_take {l : Launch} {G : gG} {d : Nat} {X : gX} {M : gM} {k : gM → Prop} {c : Nat} {x1 : Int} (T : wp l G y_GL_take (gRm d) true (kkV X k) false 0 [.val (gR G c), .val (gI x1), .unset] [] X M 0 0) : cV l G y_GL_take (gRm d) true [gR G c, gI x1] X M k := cen_V (plainFor_of_name rfl) (by simp only [lg_sl_R, lg_sl_I, lg_sl_L, lg_sl_N, List.length_cons, List.length_nil]; decide) (by unfold gEn; simp only [lg_sl_R, lg_sl_I, lg_sl_L, lg_sl_N]; exact wpt T (And.intro rfl (And.intro rfl True.intro)))
theorem d_GL_needCell_0 : decode prog_1_method_18_code 0 = .ok (.iload_n 0, 1) := by decide +kernel
theorem d_GL_needCell_1 : decode prog_1_method_18_code 1 = .ok (.ifCond .lt 24, 3) := by decide +kernel
theorem d_GL_needCell_25 : decode prog_1_method_18_code 25 = .ok (.iconst 0, 1) := by decide +kernel
theorem d_GL_needCell_26 : decode prog_1_method_18_code 26 = .ok (.invokestatic 69, 3) := by decide +kernel
theorem d_GL_needCell_29 : decode prog_1_method_18_code 29 = .ok (.return_, 1) := by decide +kernel
theorem d_GL_needCell_4 : decode prog_1_method_18_code 4 = .ok (.iload_n 0, 1) := by decide +kernel
theorem d_GL_needCell_5 : decode prog_1_method_18_code 5 = .ok (.bipush 26, 2) := by decide +kernel
theorem d_GL_needCell_7 : decode prog_1_method_18_code 7 = .ok (.if_icmp .ge 18, 3) := by decide +kernel
theorem d_GL_needCell_10 : decode prog_1_method_18_code 10 = .ok (.iload_n 1, 1) := by decide +kernel
theorem d_GL_needCell_11 : decode prog_1_method_18_code 11 = .ok (.ifCond .lt 14, 3) := by decide +kernel
theorem d_GL_needCell_14 : decode prog_1_method_18_code 14 = .ok (.iload_n 1, 1) := by decide +kernel
theorem d_GL_needCell_15 : decode prog_1_method_18_code 15 = .ok (.sipush 200, 3) := by decide +kernel
theorem d_GL_needCell_18 : decode prog_1_method_18_code 18 = .ok (.if_icmp .ge 7, 3) := by decide +kernel
theorem d_GL_needCell_21 : decode prog_1_method_18_code 21 = .ok (.iconst 1, 1) := by decide +kernel
theorem d_GL_needCell_22 : decode prog_1_method_18_code 22 = .ok (.goto 4, 3) := by decide +kernel
set_option maxHeartbeats 4000000 in
theorem w_GL_needCell_0 {l : Launch} {G : gG} {d : Nat} {X : gX} {M : gM} {k : gM → Prop}  {x0 : Int} (hx0 : g32 x0) {x1 : Int} (hx1 : g32 x1)  (T : (x0 < 0 → (cV l G y_GL_need (gRm d) false [gI 0] X M (fun M1 => (k M1)))) ∧ (¬ x0 < 0 → ((26 ≤ x0 → (cV l G y_GL_need (gRm d) false [gI 0] X M (fun M2 => (k M2)))) ∧ (¬ 26 ≤ x0 → ((x1 < 0 → (cV l G y_GL_need (gRm d) false [gI 0] X M (fun M3 => (k M3)))) ∧ (¬ x1 < 0 → ((200 ≤ x1 → (cV l G y_GL_need (gRm d) false [gI 0] X M (fun M4 => (k M4)))) ∧ (¬ 200 ≤ x1 → (cV l G y_GL_need (gRm d) false [gI 1] X M (fun M5 => (k M5))))))))))) : wp l G y_GL_needCell (gRm (d + 1)) false (kkV X k) false 0 [.val (gI x0), .val (gI x1)] [] X M 0 0 := by
  refine wp_iload_n d_GL_needCell_0 rfl rfl ?_
  refine xz_lt (tgt := 25) d_GL_needCell_1 (by decide) (w32_id hx0) (fun h9 => ?_) (fun h9 => ?_)
  · have T := T.1 h9
    refine wp_iconst d_GL_needCell_25 ?_
    refine xcS_V (md' := false) (As := [gI 0]) (st := []) d_GL_needCell_26 ca_GL_need ml_GL_69 sm_GL_need rfl (by decide) (by decide) rfl id id T (fun M1 T => ?_)
    exact wp_return d_GL_needCell_29 rfl id (Nat.zero_le _) (Nat.zero_le _) (kV_mk T)
  · have T := T.2 h9
    refine wp_iload_n d_GL_needCell_4 rfl rfl ?_
    refine wp_bipush d_GL_needCell_5 ⟨by decide, by decide⟩ ?_
    refine xi_ge (tgt := 25) d_GL_needCell_7 (by decide) (w32_id hx0) (w32_id (g32_c (x := 26) rfl)) (fun h8 => ?_) (fun h8 => ?_)
    · have T := T.1 h8
      refine wp_iconst d_GL_needCell_25 ?_
      refine xcS_V (md' := false) (As := [gI 0]) (st := []) d_GL_needCell_26 ca_GL_need ml_GL_69 sm_GL_need rfl (by decide) (by decide) rfl id id T (fun M2 T => ?_)
      exact wp_return d_GL_needCell_29 rfl id (Nat.zero_le _) (Nat.zero_le _) (kV_mk T)
    · have T := T.2 h8
      refine wp_iload_n d_GL_needCell_10 rfl rfl ?_
      refine xz_lt (tgt := 25) d_GL_needCell_11 (by decide) (w32_id hx1) (fun h7 => ?_) (fun h7 => ?_)
      · have T := T.1 h7
        refine wp_iconst d_GL_needCell_25 ?_
        refine xcS_V (md' := false) (As := [gI 0]) (st := []) d_GL_needCell_26 ca_GL_need ml_GL_69 sm_GL_need rfl (by decide) (by decide) rfl id id T (fun M3 T => ?_)
        exact wp_return d_GL_needCell_29 rfl id (Nat.zero_le _) (Nat.zero_le _) (kV_mk T)
      · have T := T.2 h7
        refine wp_iload_n d_GL_needCell_14 rfl rfl ?_
        refine wp_sipush d_GL_needCell_15 ⟨by decide, by decide⟩ ?_
        refine xi_ge (tgt := 25) d_GL_needCell_18 (by decide) (w32_id hx1) (w32_id (g32_c (x := 200) rfl)) (fun h6 => ?_) (fun h6 => ?_)
        · have T := T.1 h6
          refine wp_iconst d_GL_needCell_25 ?_
          refine xcS_V (md' := false) (As := [gI 0]) (st := []) d_GL_needCell_26 ca_GL_need ml_GL_69 sm_GL_need rfl (by decide) (by decide) rfl id id T (fun M4 T => ?_)
          exact wp_return d_GL_needCell_29 rfl id (Nat.zero_le _) (Nat.zero_le _) (kV_mk T)
        · have T := T.2 h6
          refine wp_iconst d_GL_needCell_21 ?_
          refine wp_goto (tgt := 26) d_GL_needCell_22 (by decide) ?_
          refine xcS_V (md' := false) (As := [gI 1]) (st := []) d_GL_needCell_26 ca_GL_need ml_GL_69 sm_GL_need rfl (by decide) (by decide) rfl id id T (fun M5 T => ?_)
          exact wp_return d_GL_needCell_29 rfl id (Nat.zero_le _) (Nat.zero_le _) (kV_mk T)
theorem e_GL_needCell {l : Launch} {G : gG} {d : Nat} {X : gX} {M : gM} {k : gM → Prop}  {x0 : Int} {x1 : Int} (T : wp l G y_GL_needCell (gRm (d + 1)) false (kkV X k) false 0 [.val (gI x0), .val (gI x1)] [] X M 0 0) : cV l G y_GL_needCell (gRm (d + 1)) false [gI x0, gI x1] X M k := cen_V (plainFor_of_name rfl) (by simp only [lg_sl_R, lg_sl_I, lg_sl_L, lg_sl_N, List.length_cons, List.length_nil]; decide) (by unfold gEn; simp only [lg_sl_R, lg_sl_I, lg_sl_L, lg_sl_N]; exact wpt T (And.intro rfl (And.intro rfl True.intro)))
theorem d_GL_place_0 : decode prog_1_method_19_code 0 = .ok (.iload_n 0, 1) := by decide +kernel
theorem d_GL_place_1 : decode prog_1_method_19_code 1 = .ok (.bipush 26, 2) := by decide +kernel
theorem d_GL_place_3 : decode prog_1_method_19_code 3 = .ok (.iload_n 1, 1) := by decide +kernel
theorem d_GL_place_4 : decode prog_1_method_19_code 4 = .ok (.imul, 1) := by decide +kernel
theorem d_GL_place_5 : decode prog_1_method_19_code 5 = .ok (.iadd, 1) := by decide +kernel
theorem d_GL_place_6 : decode prog_1_method_19_code 6 = .ok (.ireturn, 1) := by decide +kernel
set_option maxHeartbeats 4000000 in
theorem w_GL_place_0 {l : Launch} {G : gG} {d : Nat} {X : gX} {M : gM} {k : Int → gM → Prop}  {x0 : Int} (hx0 : g32 x0) {x1 : Int} (hx1 : g32 x1)  (T : k (w32 (x0 + (26 * x1))) M) : wp l G y_GL_place (gRm d) false (kkI X k) false 0 [.val (gI x0), .val (gI x1)] [] X M 0 0 := by
  refine wp_iload_n d_GL_place_0 rfl rfl ?_
  refine wp_bipush d_GL_place_1 ⟨by decide, by decide⟩ ?_
  refine wp_iload_n d_GL_place_3 rfl rfl ?_
  refine wp_imul d_GL_place_4 ?_
  refine wp_iadd d_GL_place_5 ?_
  exact wp_st (st' := [gI (w32 (x0 + (26 * x1)))]) (by rw [gI_w]) (wp_ireturn d_GL_place_6 rfl id (Nat.zero_le _) (Nat.zero_le _) (kI_mk (w32_ok _) T))
theorem e_GL_place {l : Launch} {G : gG} {d : Nat} {X : gX} {M : gM} {k : Int → gM → Prop}  {x0 : Int} {x1 : Int} (T : wp l G y_GL_place (gRm d) false (kkI X k) false 0 [.val (gI x0), .val (gI x1)] [] X M 0 0) : cI l G y_GL_place (gRm d) false [gI x0, gI x1] X M k := cen_I (plainFor_of_name rfl) (by simp only [lg_sl_R, lg_sl_I, lg_sl_L, lg_sl_N, List.length_cons, List.length_nil]; decide) (by unfold gEn; simp only [lg_sl_R, lg_sl_I, lg_sl_L, lg_sl_N]; exact wpt T (And.intro rfl (And.intro rfl True.intro)))
theorem d_GL_lines_0 : decode prog_1_method_20_code 0 = .ok (.iload_n 0, 1) := by decide +kernel
theorem d_GL_lines_1 : decode prog_1_method_20_code 1 = .ok (.ifCond .eq 8, 3) := by decide +kernel
theorem d_GL_lines_9 : decode prog_1_method_20_code 9 = .ok (.sipush 200, 3) := by decide +kernel
theorem d_GL_lines_12 : decode prog_1_method_20_code 12 = .ok (.ireturn, 1) := by decide +kernel
theorem d_GL_lines_4 : decode prog_1_method_20_code 4 = .ok (.bipush 26, 2) := by decide +kernel
theorem d_GL_lines_6 : decode prog_1_method_20_code 6 = .ok (.goto 6, 3) := by decide +kernel
set_option maxHeartbeats 4000000 in
theorem w_GL_lines_0 {l : Launch} {G : gG} {d : Nat} {X : gX} {M : gM} {k : Int → gM → Prop}  {x0 : Int} (hx0 : 0 ≤ x0 ∧ x0 ≤ 1)  (T : (x0 = 0 → (k 200 M)) ∧ (¬ x0 = 0 → (k 26 M))) : wp l G y_GL_lines (gRm d) false (kkI X k) false 0 [.val (gI x0)] [] X M 0 0 := by
  refine wp_iload_n d_GL_lines_0 rfl rfl ?_
  refine xz_eq (tgt := 9) d_GL_lines_1 (by decide) (w32_id (g32_z hx0)) (fun h1 => ?_) (fun h1 => ?_)
  · have T := T.1 h1
    refine wp_sipush d_GL_lines_9 ⟨by decide, by decide⟩ ?_
    exact wp_ireturn d_GL_lines_12 rfl id (Nat.zero_le _) (Nat.zero_le _) (kI_mk (g32_c (x := 200) rfl) T)
  · have T := T.2 h1
    refine wp_bipush d_GL_lines_4 ⟨by decide, by decide⟩ ?_
    refine wp_goto (tgt := 12) d_GL_lines_6 (by decide) ?_
    exact wp_ireturn d_GL_lines_12 rfl id (Nat.zero_le _) (Nat.zero_le _) (kI_mk (g32_c (x := 26) rfl) T)
theorem e_GL_lines {l : Launch} {G : gG} {d : Nat} {X : gX} {M : gM} {k : Int → gM → Prop}  {x0 : Int} (T : wp l G y_GL_lines (gRm d) false (kkI X k) false 0 [.val (gI x0)] [] X M 0 0) : cI l G y_GL_lines (gRm d) false [gI x0] X M k := cen_I (plainFor_of_name rfl) (by simp only [lg_sl_R, lg_sl_I, lg_sl_L, lg_sl_N, List.length_cons, List.length_nil]; decide) (by unfold gEn; simp only [lg_sl_R, lg_sl_I, lg_sl_L, lg_sl_N]; exact wpt T (And.intro rfl True.intro))
theorem d_GL_formulas_0 : decode prog_1_method_22_code 0 = .ok (.iconst 0, 1) := by decide +kernel
theorem d_GL_formulas_1 : decode prog_1_method_22_code 1 = .ok (.istore_n 1, 1) := by decide +kernel
theorem d_GL_formulas_2 : decode prog_1_method_22_code 2 = .ok (.iconst 0, 1) := by decide +kernel
theorem d_GL_formulas_3 : decode prog_1_method_22_code 3 = .ok (.istore_n 2, 1) := by decide +kernel
theorem d_GL_formulas_4 : decode prog_1_method_22_code 4 = .ok (.iload_n 2, 1) := by decide +kernel
theorem d_GL_formulas_5 : decode prog_1_method_22_code 5 = .ok (.aload_n 0, 1) := by decide +kernel
theorem d_GL_formulas_6 : decode prog_1_method_22_code 6 = .ok (.getfield 40, 3) := by decide +kernel
theorem d_GL_formulas_9 : decode prog_1_method_22_code 9 = .ok (.aload_n 0, 1) := by decide +kernel
theorem d_GL_formulas_10 : decode prog_1_method_22_code 10 = .ok (.getfield 81, 3) := by decide +kernel
theorem d_GL_formulas_13 : decode prog_1_method_22_code 13 = .ok (.aaload, 1) := by decide +kernel
theorem d_GL_formulas_14 : decode prog_1_method_22_code 14 = .ok (.getfield 173, 3) := by decide +kernel
theorem d_GL_formulas_17 : decode prog_1_method_22_code 17 = .ok (.if_icmp .ge 38, 3) := by decide +kernel
theorem d_GL_formulas_55 : decode prog_1_method_22_code 55 = .ok (.iload_n 1, 1) := by decide +kernel
theorem d_GL_formulas_56 : decode prog_1_method_22_code 56 = .ok (.ireturn, 1) := by decide +kernel
theorem d_GL_formulas_20 : decode prog_1_method_22_code 20 = .ok (.aload_n 0, 1) := by decide +kernel
theorem d_GL_formulas_21 : decode prog_1_method_22_code 21 = .ok (.getfield 16, 3) := by decide +kernel
theorem d_GL_formulas_24 : decode prog_1_method_22_code 24 = .ok (.getfield 151, 3) := by decide +kernel
theorem d_GL_formulas_27 : decode prog_1_method_22_code 27 = .ok (.aload_n 0, 1) := by decide +kernel
theorem d_GL_formulas_28 : decode prog_1_method_22_code 28 = .ok (.getfield 40, 3) := by decide +kernel
theorem d_GL_formulas_31 : decode prog_1_method_22_code 31 = .ok (.aload_n 0, 1) := by decide +kernel
theorem d_GL_formulas_32 : decode prog_1_method_22_code 32 = .ok (.getfield 81, 3) := by decide +kernel
theorem d_GL_formulas_35 : decode prog_1_method_22_code 35 = .ok (.aaload, 1) := by decide +kernel
theorem d_GL_formulas_36 : decode prog_1_method_22_code 36 = .ok (.getfield 152, 3) := by decide +kernel
theorem d_GL_formulas_39 : decode prog_1_method_22_code 39 = .ok (.iload_n 2, 1) := by decide +kernel
theorem d_GL_formulas_40 : decode prog_1_method_22_code 40 = .ok (.iaload, 1) := by decide +kernel
theorem d_GL_formulas_41 : decode prog_1_method_22_code 41 = .ok (.iaload, 1) := by decide +kernel
theorem d_GL_formulas_42 : decode prog_1_method_22_code 42 = .ok (.iconst 3, 1) := by decide +kernel
theorem d_GL_formulas_43 : decode prog_1_method_22_code 43 = .ok (.if_icmp .ne 6, 3) := by decide +kernel
theorem d_GL_formulas_49 : decode prog_1_method_22_code 49 = .ok (.iinc 2 1, 3) := by decide +kernel
theorem d_GL_formulas_52 : decode prog_1_method_22_code 52 = .ok (.goto (-48), 3) := by decide +kernel
theorem d_GL_formulas_46 : decode prog_1_method_22_code 46 = .ok (.iinc 1 1, 3) := by decide +kernel
set_option maxHeartbeats 4000000 in
theorem w_GL_formulas_0 {l : Launch} {G : gG} {d : Nat} {X : gX} {M : gM} {k : Int → gM → Prop} {c : Nat} (hX : glX X c)   (T : wp l G y_GL_formulas (gRm d) false (kkI X k) false 4 [.val (gR G c), .val (gI 0), .val (gI 0)] [] X M 0 0) : wp l G y_GL_formulas (gRm d) false (kkI X k) false 0 [.val (gR G c), .unset, .unset] [] X M 0 0 := by
  refine wp_iconst d_GL_formulas_0 ?_
  refine wp_istore_n (L' := [.val (gR G c), .val (gI 0), .unset]) d_GL_formulas_1 rfl (by decide) (gS1_R rfl rfl) ?_
  refine wp_iconst d_GL_formulas_2 ?_
  refine wp_istore_n (L' := [.val (gR G c), .val (gI 0), .val (gI 0)]) d_GL_formulas_3 rfl (by decide) rfl ?_
  exact (wpt T (And.intro rfl (And.intro rfl (And.intro rfl True.intro))))
set_option maxHeartbeats 4000000 in
theorem w_GL_formulas_4 {l : Launch} {G : gG} {d : Nat} {X : gX} {M : gM} {k : Int → gM → Prop} {c : Nat} (hX : glX X c) {x1 : Int} (hx1 : g32 x1) {x2 : Int} (hx2 : g32 x2) (hring : ∀ i : Nat, i < 41 → gsX X (X.2.2 (c + 23) i)) (T : g32 (M c 8) → (((0 : Int) ≤ M c 8 ∧ M c 8 < 41) ∧ (g32 (M (X.2.2 (c + 23) (Int.toNat (M c 8))) 0) → ((M (X.2.2 (c + 23) (Int.toNat (M c 8))) 0 ≤ x2 → (k x1 M)) ∧ (¬ M (X.2.2 (c + 23) (Int.toNat (M c 8))) 0 ≤ x2 → (g32 (M c 8) → (((0 : Int) ≤ M c 8 ∧ M c 8 < 41) ∧ (((0 : Int) ≤ x2 ∧ x2 < 400) ∧ (g32 (M ((X.2.2 (c + 23) (Int.toNat (M c 8))) + 2) (Int.toNat x2)) → (((0 : Int) ≤ M ((X.2.2 (c + 23) (Int.toNat (M c 8))) + 2) (Int.toNat x2) ∧ M ((X.2.2 (c + 23) (Int.toNat (M c 8))) + 2) (Int.toNat x2) < 513) ∧ (g32 (M (c + 3) (Int.toNat (M ((X.2.2 (c + 23) (Int.toNat (M c 8))) + 2) (Int.toNat x2)))) → ((¬ M (c + 3) (Int.toNat (M ((X.2.2 (c + 23) (Int.toNat (M c 8))) + 2) (Int.toNat x2))) = 3 → (wp l G y_GL_formulas (gRm d) false (kkI X k) false 4 [.val (gR G c), .val (gI x1), .val (gI (w32 (x2 + 1)))] [] X M 0 0)) ∧ (M (c + 3) (Int.toNat (M ((X.2.2 (c + 23) (Int.toNat (M c 8))) + 2) (Int.toNat x2))) = 3 → (wp l G y_GL_formulas (gRm d) false (kkI X k) false 4 [.val (gR G c), .val (gI (w32 (x1 + 1))), .val (gI (w32 (x2 + 1)))] [] X M 0 0)))))))))))))) : wp l G y_GL_formulas (gRm d) false (kkI X k) false 4 [.val (gR G c), .val (gI x1), .val (gI x2)] [] X M 0 0 := by
  refine wp_iload_n d_GL_formulas_4 rfl rfl ?_
  refine wp_aload_n d_GL_formulas_5 rfl rfl (g_nz (gl_1 hX 0)) ?_
  refine xgetR d_GL_formulas_6 gc_GL f_GL_40.1 f_GL_40.2.1 f_GL_40.2.2.1 (gl_1 hX 0) (gl_2 hX (a := 0) (by decide)) (gl_s0 hX) f_GL_40.2.2.2.2.1 (gl_f0 hX 26 rfl) ?_
  refine wp_aload_n d_GL_formulas_9 rfl rfl (g_nz (gl_1 hX 0)) ?_
  refine xgetI d_GL_formulas_10 gc_GL f_GL_81.1 f_GL_81.2.1 f_GL_81.2.2.1 (gl_1 hX 0) (gl_2 hX (a := 0) (by decide)) (gl_s0 hX) f_GL_81.2.2.2.2.1 (fun h1 => ?_)
  have T := T h1
  have h2 := T.1
  refine xaald d_GL_formulas_13 (Or.inr rfl) (gl_1 hX 23) (gl_2 hX (a := 23) (by decide)) (gl_s hX 23 rfl) (g32_n h2 (by decide)) h2.1 h2.2 rfl ?_
  have T := T.2
  refine xgetI d_GL_formulas_14 gc_St f_GL_173.1 f_GL_173.2.1 f_GL_173.2.2.1 (hring _ (g_tn h2)).1 (gs_2 (hring _ (g_tn h2))) (hring _ (g_tn h2)).2.2.1 f_GL_173.2.2.2.2.1 (fun h3 => ?_)
  have T := T h3
  refine xi_ge (tgt := 55) d_GL_formulas_17 (by decide) (w32_id hx2) (w32_id h3) (fun h9 => ?_) (fun h9 => ?_)
  · have T := T.1 h9
    refine wp_iload_n d_GL_formulas_55 rfl rfl ?_
    exact wp_ireturn d_GL_formulas_56 rfl id (Nat.zero_le _) (Nat.zero_le _) (kI_mk hx1 T)
  · have T := T.2 h9
    refine wp_aload_n d_GL_formulas_20 rfl rfl (g_nz (gl_1 hX 0)) ?_
    refine xgetR d_GL_formulas_21 gc_GL f_GL_16.1 f_GL_16.2.1 f_GL_16.2.2.1 (gl_1 hX 0) (gl_2 hX (a := 0) (by decide)) (gl_s0 hX) f_GL_16.2.2.2.2.1 (gl_f0 hX 1 rfl) ?_
    refine xgetR d_GL_formulas_24 gc_Cn f_GL_151.1 f_GL_151.2.1 f_GL_151.2.2.1 (gl_1 hX 2) (gl_2 hX (a := 2) (by decide)) (gl_s hX 2 rfl) f_GL_151.2.2.2.2.1 (gl_f hX 2 rfl) ?_
    refine wp_aload_n d_GL_formulas_27 rfl rfl (g_nz (gl_1 hX 0)) ?_
    refine xgetR d_GL_formulas_28 gc_GL f_GL_40.1 f_GL_40.2.1 f_GL_40.2.2.1 (gl_1 hX 0) (gl_2 hX (a := 0) (by decide)) (gl_s0 hX) f_GL_40.2.2.2.2.1 (gl_f0 hX 26 rfl) ?_
    refine wp_aload_n d_GL_formulas_31 rfl rfl (g_nz (gl_1 hX 0)) ?_
    refine xgetI d_GL_formulas_32 gc_GL f_GL_81.1 f_GL_81.2.1 f_GL_81.2.2.1 (gl_1 hX 0) (gl_2 hX (a := 0) (by decide)) (gl_s0 hX) f_GL_81.2.2.2.2.1 (fun h4 => ?_)
    have T := T h4
    have h5 := T.1
    refine xaald d_GL_formulas_35 (Or.inr rfl) (gl_1 hX 23) (gl_2 hX (a := 23) (by decide)) (gl_s hX 23 rfl) (g32_n h5 (by decide)) h5.1 h5.2 rfl ?_
    have T := T.2
    refine xgetR d_GL_formulas_36 gc_St f_GL_152.1 f_GL_152.2.1 f_GL_152.2.2.1 (hring _ (g_tn h5)).1 (gs_2 (hring _ (g_tn h5))) (hring _ (g_tn h5)).2.2.1 f_GL_152.2.2.2.2.1 (gs_r (hring _ (g_tn h5)) 1 rfl).1 ?_
    refine wp_iload_n d_GL_formulas_39 rfl rfl ?_
    refine wp_iaload d_GL_formulas_40 (gs_r (hring _ (g_tn h5)) 1 rfl).2.2.1 (gs_r (hring _ (g_tn h5)) 1 rfl).2.2.2 (gs_r (hring _ (g_tn h5)) 1 rfl).2.1 (g32_n T.1 (by decide)) T.1.1 T.1.2 (fun h6 => ?_)
    have T := T.2 h6
    refine wp_iaload d_GL_formulas_41 (gl_1 hX 3) (gl_2 hX (a := 3) (by decide)) (gl_s hX 3 rfl) (g32_n T.1 (by decide)) T.1.1 T.1.2 (fun h7 => ?_)
    have T := T.2 h7
    refine wp_iconst d_GL_formulas_42 ?_
    refine xi_ne (tgt := 49) d_GL_formulas_43 (by decide) (w32_id h7) (w32_id (g32_c (x := 3) rfl)) (fun h8 => ?_) (fun h8 => ?_)
    · have T := T.1 h8
      refine wp_iinc (L' := [.val (gR G c), .val (gI x1), .val (gI (x2 + 1))]) d_GL_formulas_49 rfl (by decide) rfl ?_
      refine wp_goto (tgt := 4) d_GL_formulas_52 (by decide) ?_
      exact (wpt T (And.intro rfl (And.intro rfl (And.intro (gI_w _) True.intro))))
    · have T := T.2 h8
      refine wp_iinc (L' := [.val (gR G c), .val (gI (x1 + 1)), .val (gI x2)]) d_GL_formulas_46 rfl (by decide) (gS1_R rfl rfl) ?_
      refine wp_iinc (L' := [.val (gR G c), .val (gI (x1 + 1)), .val (gI (x2 + 1))]) d_GL_formulas_49 rfl (by decide) rfl ?_
      refine wp_goto (tgt := 4) d_GL_formulas_52 (by decide) ?_
      exact (wpt T (And.intro rfl (And.intro (gI_w _) (And.intro (gI_w _) True.intro))))
theorem e_GL_formulas {l : Launch} {G : gG} {d : Nat} {X : gX} {M : gM} {k : Int → gM → Prop} {c : Nat} (T : wp l G y_GL_formulas (gRm d) false (kkI X k) false 0 [.val (gR G c), .unset, .unset] [] X M 0 0) : cI l G y_GL_formulas (gRm d) false [gR G c] X M k := cen_I (plainFor_of_name rfl) (by simp only [lg_sl_R, lg_sl_I, lg_sl_L, lg_sl_N, List.length_cons, List.length_nil]; decide) (by unfold gEn; simp only [lg_sl_R, lg_sl_I, lg_sl_L, lg_sl_N]; exact wpt T (And.intro rfl True.intro))
