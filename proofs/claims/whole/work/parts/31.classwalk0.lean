/-! Walks of the class's methods, written by wip/whole/gen_class.py -/
theorem d_GL_end_0 : decode prog_1_method_3_code 0 = .ok (.iload_n 1, 1) := by decide +kernel
theorem d_GL_end_1 : decode prog_1_method_3_code 1 = .ok (.ifCond .lt 15, 3) := by decide +kernel
theorem d_GL_end_16 : decode prog_1_method_3_code 16 = .ok (.iconst 0, 1) := by decide +kernel
theorem d_GL_end_17 : decode prog_1_method_3_code 17 = .ok (.invokestatic 69, 3) := by decide +kernel
theorem d_GL_end_20 : decode prog_1_method_3_code 20 = .ok (.aload_n 0, 1) := by decide +kernel
theorem d_GL_end_21 : decode prog_1_method_3_code 21 = .ok (.dup, 1) := by decide +kernel
theorem d_GL_end_22 : decode prog_1_method_3_code 22 = .ok (.getfield 58, 3) := by decide +kernel
theorem d_GL_end_25 : decode prog_1_method_3_code 25 = .ok (.iload_n 1, 1) := by decide +kernel
theorem d_GL_end_26 : decode prog_1_method_3_code 26 = .ok (.isub, 1) := by decide +kernel
theorem d_GL_end_27 : decode prog_1_method_3_code 27 = .ok (.putfield 58, 3) := by decide +kernel
theorem d_GL_end_30 : decode prog_1_method_3_code 30 = .ok (.aload_n 0, 1) := by decide +kernel
theorem d_GL_end_31 : decode prog_1_method_3_code 31 = .ok (.getfield 58, 3) := by decide +kernel
theorem d_GL_end_34 : decode prog_1_method_3_code 34 = .ok (.ireturn, 1) := by decide +kernel
theorem d_GL_end_4 : decode prog_1_method_3_code 4 = .ok (.iload_n 1, 1) := by decide +kernel
theorem d_GL_end_5 : decode prog_1_method_3_code 5 = .ok (.aload_n 0, 1) := by decide +kernel
theorem d_GL_end_6 : decode prog_1_method_3_code 6 = .ok (.getfield 58, 3) := by decide +kernel
theorem d_GL_end_9 : decode prog_1_method_3_code 9 = .ok (.if_icmp .gt 7, 3) := by decide +kernel
theorem d_GL_end_12 : decode prog_1_method_3_code 12 = .ok (.iconst 1, 1) := by decide +kernel
theorem d_GL_end_13 : decode prog_1_method_3_code 13 = .ok (.goto 4, 3) := by decide +kernel
set_option maxHeartbeats 4000000 in
theorem w_GL_end_0 {l : Launch} {G : gG} {d : Nat} {X : gX} {M : gM} {k : Int → gM → Prop} {c : Nat} (hX : glX X c) {x1 : Int} (hx1 : g32 x1)  (T : (x1 < 0 → (cV l G y_GL_need (gRm d) false [gI 0] X M (fun M1 => (g32 (M1 c 1) → (g32 ((gUp M1 c 1 (w32 ((M1 c 1) - x1))) c 1) → (k ((gUp M1 c 1 (w32 ((M1 c 1) - x1))) c 1) (gUp M1 c 1 (w32 ((M1 c 1) - x1))))))))) ∧ (¬ x1 < 0 → (g32 (M c 1) → ((M c 1 < x1 → (cV l G y_GL_need (gRm d) false [gI 0] X M (fun M5 => (g32 (M5 c 1) → (g32 ((gUp M5 c 1 (w32 ((M5 c 1) - x1))) c 1) → (k ((gUp M5 c 1 (w32 ((M5 c 1) - x1))) c 1) (gUp M5 c 1 (w32 ((M5 c 1) - x1))))))))) ∧ (¬ M c 1 < x1 → (cV l G y_GL_need (gRm d) false [gI 1] X M (fun M8 => (g32 (M8 c 1) → (g32 ((gUp M8 c 1 (w32 ((M8 c 1) - x1))) c 1) → (k ((gUp M8 c 1 (w32 ((M8 c 1) - x1))) c 1) (gUp M8 c 1 (w32 ((M8 c 1) - x1))))))))))))) : wp l G y_GL_end (gRm (d + 1)) true (kkI X k) false 0 [.val (gR G c), .val (gI x1)] [] X M 0 0 := by
  refine wp_iload_n d_GL_end_0 rfl rfl ?_
  refine xz_lt (tgt := 16) d_GL_end_1 (by decide) (w32_id hx1) (fun h12 => ?_) (fun h12 => ?_)
  · have T := T.1 h12
    refine wp_iconst d_GL_end_16 ?_
    refine xcS_V (md' := false) (As := [gI 0]) (st := []) d_GL_end_17 ca_GL_need ml_GL_69 sm_GL_need rfl (by decide) (by decide) rfl id id T (fun M1 T => ?_)
    refine wp_aload_n d_GL_end_20 rfl rfl (g_nz (gl_1 hX 0)) ?_
    refine wp_dup d_GL_end_21 (gR_cat _) ?_
    refine xgetI d_GL_end_22 gc_GL f_GL_58.1 f_GL_58.2.1 f_GL_58.2.2.1 (gl_1 hX 0) (gl_2 hX (a := 0) (by decide)) (gl_s0 hX) f_GL_58.2.2.2.2.1 (fun h2 => ?_)
    have T := T h2
    refine wp_iload_n d_GL_end_25 rfl rfl ?_
    refine wp_isub d_GL_end_26 ?_
    refine xputI d_GL_end_27 gc_GL f_GL_58.1 f_GL_58.2.1 f_GL_58.2.2.1 (gl_1 hX 0) (gl_2 hX (a := 0) (by decide)) (gl_s0 hX) f_GL_58.2.2.2.1 f_GL_58.2.2.2.2.1 f_GL_58.2.2.2.2.2 rfl ?_
    refine wp_aload_n d_GL_end_30 rfl rfl (g_nz (gl_1 hX 0)) ?_
    refine xgetI d_GL_end_31 gc_GL f_GL_58.1 f_GL_58.2.1 f_GL_58.2.2.1 (gl_1 hX 0) (gl_2 hX (a := 0) (by decide)) (gl_s0 hX) f_GL_58.2.2.2.2.1 (fun h3 => ?_)
    have T := T h3
    exact wp_ireturn d_GL_end_34 rfl (fun _ => rfl) (Nat.zero_le _) (Nat.zero_le _) (kI_mk h3 T)
  · have T := T.2 h12
    refine wp_iload_n d_GL_end_4 rfl rfl ?_
    refine wp_aload_n d_GL_end_5 rfl rfl (g_nz (gl_1 hX 0)) ?_
    refine xgetI d_GL_end_6 gc_GL f_GL_58.1 f_GL_58.2.1 f_GL_58.2.2.1 (gl_1 hX 0) (gl_2 hX (a := 0) (by decide)) (gl_s0 hX) f_GL_58.2.2.2.2.1 (fun h4 => ?_)
    have T := T h4
    refine xi_gt (tgt := 16) d_GL_end_9 (by decide) (w32_id hx1) (w32_id h4) (fun h11 => ?_) (fun h11 => ?_)
    · have T := T.1 h11
      refine wp_iconst d_GL_end_16 ?_
      refine xcS_V (md' := false) (As := [gI 0]) (st := []) d_GL_end_17 ca_GL_need ml_GL_69 sm_GL_need rfl (by decide) (by decide) rfl id id T (fun M5 T => ?_)
      refine wp_aload_n d_GL_end_20 rfl rfl (g_nz (gl_1 hX 0)) ?_
      refine wp_dup d_GL_end_21 (gR_cat _) ?_
      refine xgetI d_GL_end_22 gc_GL f_GL_58.1 f_GL_58.2.1 f_GL_58.2.2.1 (gl_1 hX 0) (gl_2 hX (a := 0) (by decide)) (gl_s0 hX) f_GL_58.2.2.2.2.1 (fun h6 => ?_)
      have T := T h6
      refine wp_iload_n d_GL_end_25 rfl rfl ?_
      refine wp_isub d_GL_end_26 ?_
      refine xputI d_GL_end_27 gc_GL f_GL_58.1 f_GL_58.2.1 f_GL_58.2.2.1 (gl_1 hX 0) (gl_2 hX (a := 0) (by decide)) (gl_s0 hX) f_GL_58.2.2.2.1 f_GL_58.2.2.2.2.1 f_GL_58.2.2.2.2.2 rfl ?_
      refine wp_aload_n d_GL_end_30 rfl rfl (g_nz (gl_1 hX 0)) ?_
      refine xgetI d_GL_end_31 gc_GL f_GL_58.1 f_GL_58.2.1 f_GL_58.2.2.1 (gl_1 hX 0) (gl_2 hX (a := 0) (by decide)) (gl_s0 hX) f_GL_58.2.2.2.2.1 (fun h7 => ?_)
      have T := T h7
      exact wp_ireturn d_GL_end_34 rfl (fun _ => rfl) (Nat.zero_le _) (Nat.zero_le _) (kI_mk h7 T)
    · have T := T.2 h11
      refine wp_iconst d_GL_end_12 ?_
      refine wp_goto (tgt := 17) d_GL_end_13 (by decide) ?_
      refine xcS_V (md' := false) (As := [gI 1]) (st := []) d_GL_end_17 ca_GL_need ml_GL_69 sm_GL_need rfl (by decide) (by decide) rfl id id T (fun M8 T => ?_)
      refine wp_aload_n d_GL_end_20 rfl rfl (g_nz (gl_1 hX 0)) ?_
      refine wp_dup d_GL_end_21 (gR_cat _) ?_
      refine xgetI d_GL_end_22 gc_GL f_GL_58.1 f_GL_58.2.1 f_GL_58.2.2.1 (gl_1 hX 0) (gl_2 hX (a := 0) (by decide)) (gl_s0 hX) f_GL_58.2.2.2.2.1 (fun h9 => ?_)
      have T := T h9
      refine wp_iload_n d_GL_end_25 rfl rfl ?_
      refine wp_isub d_GL_end_26 ?_
      refine xputI d_GL_end_27 gc_GL f_GL_58.1 f_GL_58.2.1 f_GL_58.2.2.1 (gl_1 hX 0) (gl_2 hX (a := 0) (by decide)) (gl_s0 hX) f_GL_58.2.2.2.1 f_GL_58.2.2.2.2.1 f_GL_58.2.2.2.2.2 rfl ?_
      refine wp_aload_n d_GL_end_30 rfl rfl (g_nz (gl_1 hX 0)) ?_
      refine xgetI d_GL_end_31 gc_GL f_GL_58.1 f_GL_58.2.1 f_GL_58.2.2.1 (gl_1 hX 0) (gl_2 hX (a := 0) (by decide)) (gl_s0 hX) f_GL_58.2.2.2.2.1 (fun h10 => ?_)
      have T := T h10
      exact wp_ireturn d_GL_end_34 rfl (fun _ => rfl) (Nat.zero_le _) (Nat.zero_le _) (kI_mk h10 T)
theorem e_GL_end {l : Launch} {G : gG} {d : Nat} {X : gX} {M : gM} {k : Int → gM → Prop} {c : Nat} {x1 : Int} (T : wp l G y_GL_end (gRm (d + 1)) true (kkI X k) false 0 [.val (gR G c), .val (gI x1)] [] X M 0 0) : cI l G y_GL_end (gRm (d + 1)) true [gR G c, gI x1] X M k := cen_I (plainFor_of_name rfl) (by simp only [lg_sl_R, lg_sl_I, lg_sl_L, lg_sl_N, List.length_cons, List.length_nil]; decide) (by unfold gEn; simp only [lg_sl_R, lg_sl_I, lg_sl_L, lg_sl_N]; exact wpt T (And.intro rfl (And.intro rfl True.intro)))
theorem d_GL_put_0 : decode prog_1_method_4_code 0 = .ok (.aload_n 0, 1) := by decide +kernel
theorem d_GL_put_1 : decode prog_1_method_4_code 1 = .ok (.getfield 58, 3) := by decide +kernel
theorem d_GL_put_4 : decode prog_1_method_4_code 4 = .ok (.istore_n 3, 1) := by decide +kernel
theorem d_GL_put_5 : decode prog_1_method_4_code 5 = .ok (.aload_n 0, 1) := by decide +kernel
theorem d_GL_put_6 : decode prog_1_method_4_code 6 = .ok (.iconst 0, 1) := by decide +kernel
theorem d_GL_put_7 : decode prog_1_method_4_code 7 = .ok (.putfield 58, 3) := by decide +kernel
theorem d_GL_put_10 : decode prog_1_method_4_code 10 = .ok (.iload_n 1, 1) := by decide +kernel
theorem d_GL_put_11 : decode prog_1_method_4_code 11 = .ok (.iload_n 2, 1) := by decide +kernel
theorem d_GL_put_12 : decode prog_1_method_4_code 12 = .ok (.invokestatic 73, 3) := by decide +kernel
theorem d_GL_put_15 : decode prog_1_method_4_code 15 = .ok (.aload_n 0, 1) := by decide +kernel
theorem d_GL_put_16 : decode prog_1_method_4_code 16 = .ok (.getfield 25, 3) := by decide +kernel
theorem d_GL_put_19 : decode prog_1_method_4_code 19 = .ok (.iload_n 3, 1) := by decide +kernel
theorem d_GL_put_20 : decode prog_1_method_4_code 20 = .ok (.invokevirtual 77, 3) := by decide +kernel
theorem d_GL_put_23 : decode prog_1_method_4_code 23 = .ok (.istore 4, 2) := by decide +kernel
theorem d_GL_put_25 : decode prog_1_method_4_code 25 = .ok (.iload 4, 2) := by decide +kernel
theorem d_GL_put_27 : decode prog_1_method_4_code 27 = .ok (.iconst (-1), 1) := by decide +kernel
theorem d_GL_put_28 : decode prog_1_method_4_code 28 = .ok (.if_icmp .eq 7, 3) := by decide +kernel
theorem d_GL_put_35 : decode prog_1_method_4_code 35 = .ok (.iconst 0, 1) := by decide +kernel
theorem d_GL_put_36 : decode prog_1_method_4_code 36 = .ok (.invokestatic 69, 3) := by decide +kernel
theorem d_GL_put_39 : decode prog_1_method_4_code 39 = .ok (.aload_n 0, 1) := by decide +kernel
theorem d_GL_put_40 : decode prog_1_method_4_code 40 = .ok (.getfield 34, 3) := by decide +kernel
theorem d_GL_put_43 : decode prog_1_method_4_code 43 = .ok (.aload_n 0, 1) := by decide +kernel
theorem d_GL_put_44 : decode prog_1_method_4_code 44 = .ok (.getfield 40, 3) := by decide +kernel
theorem d_GL_put_47 : decode prog_1_method_4_code 47 = .ok (.aload_n 0, 1) := by decide +kernel
theorem d_GL_put_48 : decode prog_1_method_4_code 48 = .ok (.getfield 81, 3) := by decide +kernel
theorem d_GL_put_51 : decode prog_1_method_4_code 51 = .ok (.aaload, 1) := by decide +kernel
theorem d_GL_put_52 : decode prog_1_method_4_code 52 = .ok (.aload_n 0, 1) := by decide +kernel
theorem d_GL_put_53 : decode prog_1_method_4_code 53 = .ok (.getfield 45, 3) := by decide +kernel
theorem d_GL_put_56 : decode prog_1_method_4_code 56 = .ok (.invokevirtual 84, 3) := by decide +kernel
theorem d_GL_put_59 : decode prog_1_method_4_code 59 = .ok (.aload_n 0, 1) := by decide +kernel
theorem d_GL_put_60 : decode prog_1_method_4_code 60 = .ok (.iload 4, 2) := by decide +kernel
theorem d_GL_put_62 : decode prog_1_method_4_code 62 = .ok (.bipush (-2), 2) := by decide +kernel
theorem d_GL_put_64 : decode prog_1_method_4_code 64 = .ok (.if_icmp .eq 24, 3) := by decide +kernel
theorem d_GL_put_88 : decode prog_1_method_4_code 88 = .ok (.iconst 0, 1) := by decide +kernel
theorem d_GL_put_89 : decode prog_1_method_4_code 89 = .ok (.invokevirtual 96, 3) := by decide +kernel
theorem d_GL_put_92 : decode prog_1_method_4_code 92 = .ok (.aload_n 0, 1) := by decide +kernel
theorem d_GL_put_93 : decode prog_1_method_4_code 93 = .ok (.getfield 54, 3) := by decide +kernel
theorem d_GL_put_96 : decode prog_1_method_4_code 96 = .ok (.aload_n 0, 1) := by decide +kernel
theorem d_GL_put_97 : decode prog_1_method_4_code 97 = .ok (.getfield 40, 3) := by decide +kernel
theorem d_GL_put_100 : decode prog_1_method_4_code 100 = .ok (.aload_n 0, 1) := by decide +kernel
theorem d_GL_put_101 : decode prog_1_method_4_code 101 = .ok (.getfield 81, 3) := by decide +kernel
theorem d_GL_put_104 : decode prog_1_method_4_code 104 = .ok (.aaload, 1) := by decide +kernel
theorem d_GL_put_105 : decode prog_1_method_4_code 105 = .ok (.invokevirtual 99, 3) := by decide +kernel
theorem d_GL_put_108 : decode prog_1_method_4_code 108 = .ok (.ireturn, 1) := by decide +kernel
theorem d_GL_put_67 : decode prog_1_method_4_code 67 = .ok (.aload_n 0, 1) := by decide +kernel
theorem d_GL_put_68 : decode prog_1_method_4_code 68 = .ok (.getfield 34, 3) := by decide +kernel
theorem d_GL_put_71 : decode prog_1_method_4_code 71 = .ok (.iload_n 1, 1) := by decide +kernel
theorem d_GL_put_72 : decode prog_1_method_4_code 72 = .ok (.iload_n 2, 1) := by decide +kernel
theorem d_GL_put_73 : decode prog_1_method_4_code 73 = .ok (.invokestatic 88, 3) := by decide +kernel
theorem d_GL_put_76 : decode prog_1_method_4_code 76 = .ok (.iload 4, 2) := by decide +kernel
theorem d_GL_put_78 : decode prog_1_method_4_code 78 = .ok (.invokevirtual 92, 3) := by decide +kernel
theorem d_GL_put_81 : decode prog_1_method_4_code 81 = .ok (.ifCond .eq 7, 3) := by decide +kernel
theorem d_GL_put_84 : decode prog_1_method_4_code 84 = .ok (.iconst 1, 1) := by decide +kernel
theorem d_GL_put_85 : decode prog_1_method_4_code 85 = .ok (.goto 4, 3) := by decide +kernel
theorem d_GL_put_31 : decode prog_1_method_4_code 31 = .ok (.iconst 1, 1) := by decide +kernel
theorem d_GL_put_32 : decode prog_1_method_4_code 32 = .ok (.goto 4, 3) := by decide +kernel
set_option maxHeartbeats 4000000 in
theorem w_GL_put_0 {l : Launch} {G : gG} {d : Nat} {X : gX} {M : gM} {k : Int → gM → Prop} {c : Nat} (hX : glX X c) {x1 : Int} (hx1 : g32 x1) {x2 : Int} (hx2 : g32 x2) {s4 : Nat} (hs4 : X.2.2 c 7 = s4 ∧ gsX X s4) (hring : ∀ i : Nat, i < 41 → gsX X (X.2.2 (c + 23) i)) (T : g32 (M c 1) → (cV l G y_GL_needCell (gRm d) false [gI x1, gI x2] X (gUp M c 1 0) (fun M2 => (cI l G y_Rd_typed (gRm d) true [gR G (c + 14), gI (M c 1)] X M2 (fun v4 M3 => ((v4 = (-1) → (cV l G y_GL_need (gRm d) false [gI 0] X M3 (fun M6 => (g32 (M6 c 8) → (((0 : Int) ≤ M6 c 8 ∧ M6 c 8 < 41) ∧ (cV l G y_Ed_open (gRm d) true [gR G (c + 21), gR G (X.2.2 (c + 23) (Int.toNat (M6 c 8))), gR G s4] X M6 (fun M9 => ((v4 = (-2) → (cV l G y_GL_land (gRm d) true [gR G c, gI 0] X M9 (fun M10 => (g32 (M10 c 8) → (((0 : Int) ≤ M10 c 8 ∧ M10 c 8 < 41) ∧ (cI l G y_Rs_follow (gRm d) true [gR G (c + 234), gR G (X.2.2 (c + 23) (Int.toNat (M10 c 8)))] X M10 (fun v14 M13 => (k v14 M13)))))))) ∧ (¬ v4 = (-2) → (cI l G y_GL_place (gRm d) false [gI x1, gI x2] X M9 (fun v17 M16 => (cZ l G y_Ed_replaced (gRm d) true [gR G (c + 21), gI v17, gI v4] X M16 (fun v20 M19 => ((v20 = 0 → (cV l G y_GL_land (gRm d) true [gR G c, gI 0] X M19 (fun M22 => (g32 (M22 c 8) → (((0 : Int) ≤ M22 c 8 ∧ M22 c 8 < 41) ∧ (cI l G y_Rs_follow (gRm d) true [gR G (c + 234), gR G (X.2.2 (c + 23) (Int.toNat (M22 c 8)))] X M22 (fun v26 M25 => (k v26 M25)))))))) ∧ (¬ v20 = 0 → (cV l G y_GL_land (gRm d) true [gR G c, gI 1] X M19 (fun M28 => (g32 (M28 c 8) → (((0 : Int) ≤ M28 c 8 ∧ M28 c 8 < 41) ∧ (cI l G y_Rs_follow (gRm d) true [gR G (c + 234), gR G (X.2.2 (c + 23) (Int.toNat (M28 c 8)))] X M28 (fun v32 M31 => (k v32 M31)))))))))))))))))))))) ∧ (¬ v4 = (-1) → (cV l G y_GL_need (gRm d) false [gI 1] X M3 (fun M36 => (g32 (M36 c 8) → (((0 : Int) ≤ M36 c 8 ∧ M36 c 8 < 41) ∧ (cV l G y_Ed_open (gRm d) true [gR G (c + 21), gR G (X.2.2 (c + 23) (Int.toNat (M36 c 8))), gR G s4] X M36 (fun M39 => ((v4 = (-2) → (cV l G y_GL_land (gRm d) true [gR G c, gI 0] X M39 (fun M40 => (g32 (M40 c 8) → (((0 : Int) ≤ M40 c 8 ∧ M40 c 8 < 41) ∧ (cI l G y_Rs_follow (gRm d) true [gR G (c + 234), gR G (X.2.2 (c + 23) (Int.toNat (M40 c 8)))] X M40 (fun v44 M43 => (k v44 M43)))))))) ∧ (¬ v4 = (-2) → (cI l G y_GL_place (gRm d) false [gI x1, gI x2] X M39 (fun v47 M46 => (cZ l G y_Ed_replaced (gRm d) true [gR G (c + 21), gI v47, gI v4] X M46 (fun v50 M49 => ((v50 = 0 → (cV l G y_GL_land (gRm d) true [gR G c, gI 0] X M49 (fun M52 => (g32 (M52 c 8) → (((0 : Int) ≤ M52 c 8 ∧ M52 c 8 < 41) ∧ (cI l G y_Rs_follow (gRm d) true [gR G (c + 234), gR G (X.2.2 (c + 23) (Int.toNat (M52 c 8)))] X M52 (fun v56 M55 => (k v56 M55)))))))) ∧ (¬ v50 = 0 → (cV l G y_GL_land (gRm d) true [gR G c, gI 1] X M49 (fun M58 => (g32 (M58 c 8) → (((0 : Int) ≤ M58 c 8 ∧ M58 c 8 < 41) ∧ (cI l G y_Rs_follow (gRm d) true [gR G (c + 234), gR G (X.2.2 (c + 23) (Int.toNat (M58 c 8)))] X M58 (fun v62 M61 => (k v62 M61)))))))))))))))))))))))))))) : wp l G y_GL_put (gRm (d + 1)) true (kkI X k) false 0 [.val (gR G c), .val (gI x1), .val (gI x2), .unset, .unset] [] X M 0 0 := by
  refine wp_aload_n d_GL_put_0 rfl rfl (g_nz (gl_1 hX 0)) ?_
  refine xgetI d_GL_put_1 gc_GL f_GL_58.1 f_GL_58.2.1 f_GL_58.2.2.1 (gl_1 hX 0) (gl_2 hX (a := 0) (by decide)) (gl_s0 hX) f_GL_58.2.2.2.2.1 (fun h1 => ?_)
  have T := T h1
  refine wp_istore_n (L' := [.val (gR G c), .val (gI x1), .val (gI x2), .val (gI (M c 1)), .unset]) d_GL_put_4 rfl (by decide) rfl ?_
  refine wp_aload_n d_GL_put_5 rfl rfl (g_nz (gl_1 hX 0)) ?_
  refine wp_iconst d_GL_put_6 ?_
  refine xputI d_GL_put_7 gc_GL f_GL_58.1 f_GL_58.2.1 f_GL_58.2.2.1 (gl_1 hX 0) (gl_2 hX (a := 0) (by decide)) (gl_s0 hX) f_GL_58.2.2.2.1 f_GL_58.2.2.2.2.1 f_GL_58.2.2.2.2.2 (w32_id (g32_c (x := 0) rfl)) ?_
  refine wp_iload_n d_GL_put_10 rfl rfl ?_
  refine wp_iload_n d_GL_put_11 rfl rfl ?_
  refine xcS_V (md' := true) (As := [gI x1, gI x2]) (st := []) d_GL_put_12 ca_GL_needCell ml_GL_73 sm_GL_needCell rfl (by decide) (by decide) rfl (fun _ => rfl) (fun _ => rfl) T (fun M2 T => ?_)
  refine wp_aload_n d_GL_put_15 rfl rfl (g_nz (gl_1 hX 0)) ?_
  refine xgetR d_GL_put_16 gc_GL f_GL_25.1 f_GL_25.2.1 f_GL_25.2.2.1 (gl_1 hX 0) (gl_2 hX (a := 0) (by decide)) (gl_s0 hX) f_GL_25.2.2.2.2.1 (gl_f0 hX 13 rfl) ?_
  refine wp_iload_n d_GL_put_19 rfl rfl ?_
  refine xcV_I (md' := true) (As := [gI (M c 1)]) (st := []) d_GL_put_20 ca_Rd_typed ml_GL_77 im_Rd_typed se_Rd_typed gc_Rd (gl_1 hX 14) (gl_2 hX (a := 14) (by decide)) (gl_s hX 14 rfl) rfl (by decide) (by decide) rfl (fun _ => rfl) (fun _ => rfl) T (fun v4 M3 h5 T => ?_)
  refine wp_istore (L' := [.val (gR G c), .val (gI x1), .val (gI x2), .val (gI (M c 1)), .val (gI v4)]) d_GL_put_23 (by decide) rfl ?_
  refine wp_iload d_GL_put_25 rfl ?_
  refine wp_iconst d_GL_put_27 ?_
  refine xi_eq (tgt := 35) d_GL_put_28 (by decide) (w32_id h5) (w32_id (g32_c (x := (-1)) rfl)) (fun h66 => ?_) (fun h66 => ?_)
  · have T := T.1 h66
    refine wp_iconst d_GL_put_35 ?_
    refine xcS_V (md' := true) (As := [gI 0]) (st := []) d_GL_put_36 ca_GL_need ml_GL_69 sm_GL_need rfl (by decide) (by decide) rfl (fun _ => rfl) (fun _ => rfl) T (fun M6 T => ?_)
    refine wp_aload_n d_GL_put_39 rfl rfl (g_nz (gl_1 hX 0)) ?_
    refine xgetR d_GL_put_40 gc_GL f_GL_34.1 f_GL_34.2.1 f_GL_34.2.2.1 (gl_1 hX 0) (gl_2 hX (a := 0) (by decide)) (gl_s0 hX) f_GL_34.2.2.2.2.1 (gl_f0 hX 23 rfl) ?_
    refine wp_aload_n d_GL_put_43 rfl rfl (g_nz (gl_1 hX 0)) ?_
    refine xgetR d_GL_put_44 gc_GL f_GL_40.1 f_GL_40.2.1 f_GL_40.2.2.1 (gl_1 hX 0) (gl_2 hX (a := 0) (by decide)) (gl_s0 hX) f_GL_40.2.2.2.2.1 (gl_f0 hX 26 rfl) ?_
    refine wp_aload_n d_GL_put_47 rfl rfl (g_nz (gl_1 hX 0)) ?_
    refine xgetI d_GL_put_48 gc_GL f_GL_81.1 f_GL_81.2.1 f_GL_81.2.2.1 (gl_1 hX 0) (gl_2 hX (a := 0) (by decide)) (gl_s0 hX) f_GL_81.2.2.2.2.1 (fun h7 => ?_)
    have T := T h7
    have h8 := T.1
    refine xaald d_GL_put_51 (Or.inr rfl) (gl_1 hX 23) (gl_2 hX (a := 23) (by decide)) (gl_s hX 23 rfl) (g32_n h8 (by decide)) h8.1 h8.2 rfl ?_
    have T := T.2
    refine wp_aload_n d_GL_put_52 rfl rfl (g_nz (gl_1 hX 0)) ?_
    refine xgetR d_GL_put_53 gc_GL f_GL_45.1 f_GL_45.2.1 f_GL_45.2.2.1 (gl_1 hX 0) (gl_2 hX (a := 0) (by decide)) (gl_s0 hX) f_GL_45.2.2.2.2.1 hs4.1 ?_
    refine xcV_V (md' := true) (As := [gR G (X.2.2 (c + 23) (Int.toNat (M6 c 8))), gR G s4]) (st := []) d_GL_put_56 ca_Ed_open ml_GL_84 im_Ed_open se_Ed_open gc_Ed (gl_1 hX 21) (gl_2 hX (a := 21) (by decide)) (gl_s hX 21 rfl) rfl (by decide) (by decide) rfl (fun _ => rfl) (fun _ => rfl) T (fun M9 T => ?_)
    refine wp_aload_n d_GL_put_59 rfl rfl (g_nz (gl_1 hX 0)) ?_
    refine wp_iload d_GL_put_60 rfl ?_
    refine wp_bipush d_GL_put_62 ⟨by decide, by decide⟩ ?_
    refine xi_eq (tgt := 88) d_GL_put_64 (by decide) (w32_id h5) (w32_id (g32_c (x := (-2)) rfl)) (fun h35 => ?_) (fun h35 => ?_)
    · have T := T.1 h35
      refine wp_iconst d_GL_put_88 ?_
      refine xcV_V (md' := true) (As := [gI 0]) (st := []) d_GL_put_89 ca_GL_land ml_GL_96 im_GL_land se_GL_land gc_GL (gl_1 hX 0) (gl_2 hX (a := 0) (by decide)) (gl_s0 hX) rfl (by decide) (by decide) rfl (fun _ => rfl) (fun _ => rfl) T (fun M10 T => ?_)
      refine wp_aload_n d_GL_put_92 rfl rfl (g_nz (gl_1 hX 0)) ?_
      refine xgetR d_GL_put_93 gc_GL f_GL_54.1 f_GL_54.2.1 f_GL_54.2.2.1 (gl_1 hX 0) (gl_2 hX (a := 0) (by decide)) (gl_s0 hX) f_GL_54.2.2.2.2.1 (gl_f0 hX 27 rfl) ?_
      refine wp_aload_n d_GL_put_96 rfl rfl (g_nz (gl_1 hX 0)) ?_
      refine xgetR d_GL_put_97 gc_GL f_GL_40.1 f_GL_40.2.1 f_GL_40.2.2.1 (gl_1 hX 0) (gl_2 hX (a := 0) (by decide)) (gl_s0 hX) f_GL_40.2.2.2.2.1 (gl_f0 hX 26 rfl) ?_
      refine wp_aload_n d_GL_put_100 rfl rfl (g_nz (gl_1 hX 0)) ?_
      refine xgetI d_GL_put_101 gc_GL f_GL_81.1 f_GL_81.2.1 f_GL_81.2.2.1 (gl_1 hX 0) (gl_2 hX (a := 0) (by decide)) (gl_s0 hX) f_GL_81.2.2.2.2.1 (fun h11 => ?_)
      have T := T h11
      have h12 := T.1
      refine xaald d_GL_put_104 (Or.inr rfl) (gl_1 hX 23) (gl_2 hX (a := 23) (by decide)) (gl_s hX 23 rfl) (g32_n h12 (by decide)) h12.1 h12.2 rfl ?_
      have T := T.2
      refine xcV_I (md' := true) (As := [gR G (X.2.2 (c + 23) (Int.toNat (M10 c 8)))]) (st := []) d_GL_put_105 ca_Rs_follow ml_GL_99 im_Rs_follow se_Rs_follow gc_Rs (gl_1 hX 234) (gl_2 hX (a := 234) (by decide)) (gl_s hX 24 rfl) rfl (by decide) (by decide) rfl (fun _ => rfl) (fun _ => rfl) T (fun v14 M13 h15 T => ?_)
      exact wp_ireturn d_GL_put_108 rfl (fun _ => rfl) (Nat.zero_le _) (Nat.zero_le _) (kI_mk h15 T)
    · have T := T.2 h35
      refine wp_aload_n d_GL_put_67 rfl rfl (g_nz (gl_1 hX 0)) ?_
      refine xgetR d_GL_put_68 gc_GL f_GL_34.1 f_GL_34.2.1 f_GL_34.2.2.1 (gl_1 hX 0) (gl_2 hX (a := 0) (by decide)) (gl_s0 hX) f_GL_34.2.2.2.2.1 (gl_f0 hX 23 rfl) ?_
      refine wp_iload_n d_GL_put_71 rfl rfl ?_
      refine wp_iload_n d_GL_put_72 rfl rfl ?_
      refine xcS_I (md' := true) (As := [gI x1, gI x2]) (st := [gR G (c + 21), gR G c]) d_GL_put_73 ca_GL_place ml_GL_88 sm_GL_place rfl (by decide) (by simp only [List.map, gR_cat, gI_cat, gL_cat, List.sum_cons, List.sum_nil]; decide) rfl (fun _ => rfl) (fun _ => rfl) T (fun v17 M16 h18 T => ?_)
      refine wp_iload d_GL_put_76 rfl ?_
      refine xcV_Z (md' := true) (As := [gI v17, gI v4]) (st := [gR G c]) d_GL_put_78 ca_Ed_replaced ml_GL_92 im_Ed_replaced se_Ed_replaced gc_Ed (gl_1 hX 21) (gl_2 hX (a := 21) (by decide)) (gl_s hX 21 rfl) rfl (by decide) (by simp only [List.map, gR_cat, gI_cat, gL_cat, List.sum_cons, List.sum_nil]; decide) rfl (fun _ => rfl) (fun _ => rfl) T (fun v20 M19 h21 T => ?_)
      refine xz_eq (tgt := 88) d_GL_put_81 (by decide) (w32_id (g32_z h21)) (fun h34 => ?_) (fun h34 => ?_)
      · have T := T.1 h34
        refine wp_iconst d_GL_put_88 ?_
        refine xcV_V (md' := true) (As := [gI 0]) (st := []) d_GL_put_89 ca_GL_land ml_GL_96 im_GL_land se_GL_land gc_GL (gl_1 hX 0) (gl_2 hX (a := 0) (by decide)) (gl_s0 hX) rfl (by decide) (by decide) rfl (fun _ => rfl) (fun _ => rfl) T (fun M22 T => ?_)
        refine wp_aload_n d_GL_put_92 rfl rfl (g_nz (gl_1 hX 0)) ?_
        refine xgetR d_GL_put_93 gc_GL f_GL_54.1 f_GL_54.2.1 f_GL_54.2.2.1 (gl_1 hX 0) (gl_2 hX (a := 0) (by decide)) (gl_s0 hX) f_GL_54.2.2.2.2.1 (gl_f0 hX 27 rfl) ?_
        refine wp_aload_n d_GL_put_96 rfl rfl (g_nz (gl_1 hX 0)) ?_
        refine xgetR d_GL_put_97 gc_GL f_GL_40.1 f_GL_40.2.1 f_GL_40.2.2.1 (gl_1 hX 0) (gl_2 hX (a := 0) (by decide)) (gl_s0 hX) f_GL_40.2.2.2.2.1 (gl_f0 hX 26 rfl) ?_
        refine wp_aload_n d_GL_put_100 rfl rfl (g_nz (gl_1 hX 0)) ?_
        refine xgetI d_GL_put_101 gc_GL f_GL_81.1 f_GL_81.2.1 f_GL_81.2.2.1 (gl_1 hX 0) (gl_2 hX (a := 0) (by decide)) (gl_s0 hX) f_GL_81.2.2.2.2.1 (fun h23 => ?_)
        have T := T h23
        have h24 := T.1
        refine xaald d_GL_put_104 (Or.inr rfl) (gl_1 hX 23) (gl_2 hX (a := 23) (by decide)) (gl_s hX 23 rfl) (g32_n h24 (by decide)) h24.1 h24.2 rfl ?_
        have T := T.2
        refine xcV_I (md' := true) (As := [gR G (X.2.2 (c + 23) (Int.toNat (M22 c 8)))]) (st := []) d_GL_put_105 ca_Rs_follow ml_GL_99 im_Rs_follow se_Rs_follow gc_Rs (gl_1 hX 234) (gl_2 hX (a := 234) (by decide)) (gl_s hX 24 rfl) rfl (by decide) (by decide) rfl (fun _ => rfl) (fun _ => rfl) T (fun v26 M25 h27 T => ?_)
        exact wp_ireturn d_GL_put_108 rfl (fun _ => rfl) (Nat.zero_le _) (Nat.zero_le _) (kI_mk h27 T)
      · have T := T.2 h34
        refine wp_iconst d_GL_put_84 ?_
        refine wp_goto (tgt := 89) d_GL_put_85 (by decide) ?_
        refine xcV_V (md' := true) (As := [gI 1]) (st := []) d_GL_put_89 ca_GL_land ml_GL_96 im_GL_land se_GL_land gc_GL (gl_1 hX 0) (gl_2 hX (a := 0) (by decide)) (gl_s0 hX) rfl (by decide) (by decide) rfl (fun _ => rfl) (fun _ => rfl) T (fun M28 T => ?_)
        refine wp_aload_n d_GL_put_92 rfl rfl (g_nz (gl_1 hX 0)) ?_
        refine xgetR d_GL_put_93 gc_GL f_GL_54.1 f_GL_54.2.1 f_GL_54.2.2.1 (gl_1 hX 0) (gl_2 hX (a := 0) (by decide)) (gl_s0 hX) f_GL_54.2.2.2.2.1 (gl_f0 hX 27 rfl) ?_
        refine wp_aload_n d_GL_put_96 rfl rfl (g_nz (gl_1 hX 0)) ?_
        refine xgetR d_GL_put_97 gc_GL f_GL_40.1 f_GL_40.2.1 f_GL_40.2.2.1 (gl_1 hX 0) (gl_2 hX (a := 0) (by decide)) (gl_s0 hX) f_GL_40.2.2.2.2.1 (gl_f0 hX 26 rfl) ?_
        refine wp_aload_n d_GL_put_100 rfl rfl (g_nz (gl_1 hX 0)) ?_
        refine xgetI d_GL_put_101 gc_GL f_GL_81.1 f_GL_81.2.1 f_GL_81.2.2.1 (gl_1 hX 0) (gl_2 hX (a := 0) (by decide)) (gl_s0 hX) f_GL_81.2.2.2.2.1 (fun h29 => ?_)
        have T := T h29
        have h30 := T.1
        refine xaald d_GL_put_104 (Or.inr rfl) (gl_1 hX 23) (gl_2 hX (a := 23) (by decide)) (gl_s hX 23 rfl) (g32_n h30 (by decide)) h30.1 h30.2 rfl ?_
        have T := T.2
        refine xcV_I (md' := true) (As := [gR G (X.2.2 (c + 23) (Int.toNat (M28 c 8)))]) (st := []) d_GL_put_105 ca_Rs_follow ml_GL_99 im_Rs_follow se_Rs_follow gc_Rs (gl_1 hX 234) (gl_2 hX (a := 234) (by decide)) (gl_s hX 24 rfl) rfl (by decide) (by decide) rfl (fun _ => rfl) (fun _ => rfl) T (fun v32 M31 h33 T => ?_)
        exact wp_ireturn d_GL_put_108 rfl (fun _ => rfl) (Nat.zero_le _) (Nat.zero_le _) (kI_mk h33 T)
  · have T := T.2 h66
    refine wp_iconst d_GL_put_31 ?_
    refine wp_goto (tgt := 36) d_GL_put_32 (by decide) ?_
    refine xcS_V (md' := true) (As := [gI 1]) (st := []) d_GL_put_36 ca_GL_need ml_GL_69 sm_GL_need rfl (by decide) (by decide) rfl (fun _ => rfl) (fun _ => rfl) T (fun M36 T => ?_)
    refine wp_aload_n d_GL_put_39 rfl rfl (g_nz (gl_1 hX 0)) ?_
    refine xgetR d_GL_put_40 gc_GL f_GL_34.1 f_GL_34.2.1 f_GL_34.2.2.1 (gl_1 hX 0) (gl_2 hX (a := 0) (by decide)) (gl_s0 hX) f_GL_34.2.2.2.2.1 (gl_f0 hX 23 rfl) ?_
    refine wp_aload_n d_GL_put_43 rfl rfl (g_nz (gl_1 hX 0)) ?_
    refine xgetR d_GL_put_44 gc_GL f_GL_40.1 f_GL_40.2.1 f_GL_40.2.2.1 (gl_1 hX 0) (gl_2 hX (a := 0) (by decide)) (gl_s0 hX) f_GL_40.2.2.2.2.1 (gl_f0 hX 26 rfl) ?_
    refine wp_aload_n d_GL_put_47 rfl rfl (g_nz (gl_1 hX 0)) ?_
    refine xgetI d_GL_put_48 gc_GL f_GL_81.1 f_GL_81.2.1 f_GL_81.2.2.1 (gl_1 hX 0) (gl_2 hX (a := 0) (by decide)) (gl_s0 hX) f_GL_81.2.2.2.2.1 (fun h37 => ?_)
    have T := T h37
    have h38 := T.1
    refine xaald d_GL_put_51 (Or.inr rfl) (gl_1 hX 23) (gl_2 hX (a := 23) (by decide)) (gl_s hX 23 rfl) (g32_n h38 (by decide)) h38.1 h38.2 rfl ?_
    have T := T.2
    refine wp_aload_n d_GL_put_52 rfl rfl (g_nz (gl_1 hX 0)) ?_
    refine xgetR d_GL_put_53 gc_GL f_GL_45.1 f_GL_45.2.1 f_GL_45.2.2.1 (gl_1 hX 0) (gl_2 hX (a := 0) (by decide)) (gl_s0 hX) f_GL_45.2.2.2.2.1 hs4.1 ?_
    refine xcV_V (md' := true) (As := [gR G (X.2.2 (c + 23) (Int.toNat (M36 c 8))), gR G s4]) (st := []) d_GL_put_56 ca_Ed_open ml_GL_84 im_Ed_open se_Ed_open gc_Ed (gl_1 hX 21) (gl_2 hX (a := 21) (by decide)) (gl_s hX 21 rfl) rfl (by decide) (by decide) rfl (fun _ => rfl) (fun _ => rfl) T (fun M39 T => ?_)
    refine wp_aload_n d_GL_put_59 rfl rfl (g_nz (gl_1 hX 0)) ?_
    refine wp_iload d_GL_put_60 rfl ?_
    refine wp_bipush d_GL_put_62 ⟨by decide, by decide⟩ ?_
    refine xi_eq (tgt := 88) d_GL_put_64 (by decide) (w32_id h5) (w32_id (g32_c (x := (-2)) rfl)) (fun h65 => ?_) (fun h65 => ?_)
    · have T := T.1 h65
      refine wp_iconst d_GL_put_88 ?_
      refine xcV_V (md' := true) (As := [gI 0]) (st := []) d_GL_put_89 ca_GL_land ml_GL_96 im_GL_land se_GL_land gc_GL (gl_1 hX 0) (gl_2 hX (a := 0) (by decide)) (gl_s0 hX) rfl (by decide) (by decide) rfl (fun _ => rfl) (fun _ => rfl) T (fun M40 T => ?_)
      refine wp_aload_n d_GL_put_92 rfl rfl (g_nz (gl_1 hX 0)) ?_
      refine xgetR d_GL_put_93 gc_GL f_GL_54.1 f_GL_54.2.1 f_GL_54.2.2.1 (gl_1 hX 0) (gl_2 hX (a := 0) (by decide)) (gl_s0 hX) f_GL_54.2.2.2.2.1 (gl_f0 hX 27 rfl) ?_
      refine wp_aload_n d_GL_put_96 rfl rfl (g_nz (gl_1 hX 0)) ?_
      refine xgetR d_GL_put_97 gc_GL f_GL_40.1 f_GL_40.2.1 f_GL_40.2.2.1 (gl_1 hX 0) (gl_2 hX (a := 0) (by decide)) (gl_s0 hX) f_GL_40.2.2.2.2.1 (gl_f0 hX 26 rfl) ?_
      refine wp_aload_n d_GL_put_100 rfl rfl (g_nz (gl_1 hX 0)) ?_
      refine xgetI d_GL_put_101 gc_GL f_GL_81.1 f_GL_81.2.1 f_GL_81.2.2.1 (gl_1 hX 0) (gl_2 hX (a := 0) (by decide)) (gl_s0 hX) f_GL_81.2.2.2.2.1 (fun h41 => ?_)
      have T := T h41
      have h42 := T.1
      refine xaald d_GL_put_104 (Or.inr rfl) (gl_1 hX 23) (gl_2 hX (a := 23) (by decide)) (gl_s hX 23 rfl) (g32_n h42 (by decide)) h42.1 h42.2 rfl ?_
      have T := T.2
      refine xcV_I (md' := true) (As := [gR G (X.2.2 (c + 23) (Int.toNat (M40 c 8)))]) (st := []) d_GL_put_105 ca_Rs_follow ml_GL_99 im_Rs_follow se_Rs_follow gc_Rs (gl_1 hX 234) (gl_2 hX (a := 234) (by decide)) (gl_s hX 24 rfl) rfl (by decide) (by decide) rfl (fun _ => rfl) (fun _ => rfl) T (fun v44 M43 h45 T => ?_)
      exact wp_ireturn d_GL_put_108 rfl (fun _ => rfl) (Nat.zero_le _) (Nat.zero_le _) (kI_mk h45 T)
    · have T := T.2 h65
      refine wp_aload_n d_GL_put_67 rfl rfl (g_nz (gl_1 hX 0)) ?_
      refine xgetR d_GL_put_68 gc_GL f_GL_34.1 f_GL_34.2.1 f_GL_34.2.2.1 (gl_1 hX 0) (gl_2 hX (a := 0) (by decide)) (gl_s0 hX) f_GL_34.2.2.2.2.1 (gl_f0 hX 23 rfl) ?_
      refine wp_iload_n d_GL_put_71 rfl rfl ?_
      refine wp_iload_n d_GL_put_72 rfl rfl ?_
      refine xcS_I (md' := true) (As := [gI x1, gI x2]) (st := [gR G (c + 21), gR G c]) d_GL_put_73 ca_GL_place ml_GL_88 sm_GL_place rfl (by decide) (by simp only [List.map, gR_cat, gI_cat, gL_cat, List.sum_cons, List.sum_nil]; decide) rfl (fun _ => rfl) (fun _ => rfl) T (fun v47 M46 h48 T => ?_)
      refine wp_iload d_GL_put_76 rfl ?_
      refine xcV_Z (md' := true) (As := [gI v47, gI v4]) (st := [gR G c]) d_GL_put_78 ca_Ed_replaced ml_GL_92 im_Ed_replaced se_Ed_replaced gc_Ed (gl_1 hX 21) (gl_2 hX (a := 21) (by decide)) (gl_s hX 21 rfl) rfl (by decide) (by simp only [List.map, gR_cat, gI_cat, gL_cat, List.sum_cons, List.sum_nil]; decide) rfl (fun _ => rfl) (fun _ => rfl) T (fun v50 M49 h51 T => ?_)
      refine xz_eq (tgt := 88) d_GL_put_81 (by decide) (w32_id (g32_z h51)) (fun h64 => ?_) (fun h64 => ?_)
      · have T := T.1 h64
        refine wp_iconst d_GL_put_88 ?_
        refine xcV_V (md' := true) (As := [gI 0]) (st := []) d_GL_put_89 ca_GL_land ml_GL_96 im_GL_land se_GL_land gc_GL (gl_1 hX 0) (gl_2 hX (a := 0) (by decide)) (gl_s0 hX) rfl (by decide) (by decide) rfl (fun _ => rfl) (fun _ => rfl) T (fun M52 T => ?_)
        refine wp_aload_n d_GL_put_92 rfl rfl (g_nz (gl_1 hX 0)) ?_
        refine xgetR d_GL_put_93 gc_GL f_GL_54.1 f_GL_54.2.1 f_GL_54.2.2.1 (gl_1 hX 0) (gl_2 hX (a := 0) (by decide)) (gl_s0 hX) f_GL_54.2.2.2.2.1 (gl_f0 hX 27 rfl) ?_
        refine wp_aload_n d_GL_put_96 rfl rfl (g_nz (gl_1 hX 0)) ?_
        refine xgetR d_GL_put_97 gc_GL f_GL_40.1 f_GL_40.2.1 f_GL_40.2.2.1 (gl_1 hX 0) (gl_2 hX (a := 0) (by decide)) (gl_s0 hX) f_GL_40.2.2.2.2.1 (gl_f0 hX 26 rfl) ?_
        refine wp_aload_n d_GL_put_100 rfl rfl (g_nz (gl_1 hX 0)) ?_
        refine xgetI d_GL_put_101 gc_GL f_GL_81.1 f_GL_81.2.1 f_GL_81.2.2.1 (gl_1 hX 0) (gl_2 hX (a := 0) (by decide)) (gl_s0 hX) f_GL_81.2.2.2.2.1 (fun h53 => ?_)
        have T := T h53
        have h54 := T.1
        refine xaald d_GL_put_104 (Or.inr rfl) (gl_1 hX 23) (gl_2 hX (a := 23) (by decide)) (gl_s hX 23 rfl) (g32_n h54 (by decide)) h54.1 h54.2 rfl ?_
        have T := T.2
        refine xcV_I (md' := true) (As := [gR G (X.2.2 (c + 23) (Int.toNat (M52 c 8)))]) (st := []) d_GL_put_105 ca_Rs_follow ml_GL_99 im_Rs_follow se_Rs_follow gc_Rs (gl_1 hX 234) (gl_2 hX (a := 234) (by decide)) (gl_s hX 24 rfl) rfl (by decide) (by decide) rfl (fun _ => rfl) (fun _ => rfl) T (fun v56 M55 h57 T => ?_)
        exact wp_ireturn d_GL_put_108 rfl (fun _ => rfl) (Nat.zero_le _) (Nat.zero_le _) (kI_mk h57 T)
      · have T := T.2 h64
        refine wp_iconst d_GL_put_84 ?_
        refine wp_goto (tgt := 89) d_GL_put_85 (by decide) ?_
        refine xcV_V (md' := true) (As := [gI 1]) (st := []) d_GL_put_89 ca_GL_land ml_GL_96 im_GL_land se_GL_land gc_GL (gl_1 hX 0) (gl_2 hX (a := 0) (by decide)) (gl_s0 hX) rfl (by decide) (by decide) rfl (fun _ => rfl) (fun _ => rfl) T (fun M58 T => ?_)
        refine wp_aload_n d_GL_put_92 rfl rfl (g_nz (gl_1 hX 0)) ?_
        refine xgetR d_GL_put_93 gc_GL f_GL_54.1 f_GL_54.2.1 f_GL_54.2.2.1 (gl_1 hX 0) (gl_2 hX (a := 0) (by decide)) (gl_s0 hX) f_GL_54.2.2.2.2.1 (gl_f0 hX 27 rfl) ?_
        refine wp_aload_n d_GL_put_96 rfl rfl (g_nz (gl_1 hX 0)) ?_
        refine xgetR d_GL_put_97 gc_GL f_GL_40.1 f_GL_40.2.1 f_GL_40.2.2.1 (gl_1 hX 0) (gl_2 hX (a := 0) (by decide)) (gl_s0 hX) f_GL_40.2.2.2.2.1 (gl_f0 hX 26 rfl) ?_
        refine wp_aload_n d_GL_put_100 rfl rfl (g_nz (gl_1 hX 0)) ?_
        refine xgetI d_GL_put_101 gc_GL f_GL_81.1 f_GL_81.2.1 f_GL_81.2.2.1 (gl_1 hX 0) (gl_2 hX (a := 0) (by decide)) (gl_s0 hX) f_GL_81.2.2.2.2.1 (fun h59 => ?_)
        have T := T h59
        have h60 := T.1
        refine xaald d_GL_put_104 (Or.inr rfl) (gl_1 hX 23) (gl_2 hX (a := 23) (by decide)) (gl_s hX 23 rfl) (g32_n h60 (by decide)) h60.1 h60.2 rfl ?_
        have T := T.2
        refine xcV_I (md' := true) (As := [gR G (X.2.2 (c + 23) (Int.toNat (M58 c 8)))]) (st := []) d_GL_put_105 ca_Rs_follow ml_GL_99 im_Rs_follow se_Rs_follow gc_Rs (gl_1 hX 234) (gl_2 hX (a := 234) (by decide)) (gl_s hX 24 rfl) rfl (by decide) (by decide) rfl (fun _ => rfl) (fun _ => rfl) T (fun v62 M61 h63 T => ?_)
        exact wp_ireturn d_GL_put_108 rfl (fun _ => rfl) (Nat.zero_le _) (Nat.zero_le _) (kI_mk h63 T)
theorem e_GL_put {l : Launch} {G : gG} {d : Nat} {X : gX} {M : gM} {k : Int → gM → Prop} {c : Nat} {x1 : Int} {x2 : Int} (T : wp l G y_GL_put (gRm (d + 1)) true (kkI X k) false 0 [.val (gR G c), .val (gI x1), .val (gI x2), .unset, .unset] [] X M 0 0) : cI l G y_GL_put (gRm (d + 1)) true [gR G c, gI x1, gI x2] X M k := cen_I (plainFor_of_name rfl) (by simp only [lg_sl_R, lg_sl_I, lg_sl_L, lg_sl_N, List.length_cons, List.length_nil]; decide) (by unfold gEn; simp only [lg_sl_R, lg_sl_I, lg_sl_L, lg_sl_N]; exact wpt T (And.intro rfl (And.intro rfl (And.intro rfl True.intro))))
theorem d_GL_fill_0 : decode prog_1_method_5_code 0 = .ok (.iload_n 1, 1) := by decide +kernel
theorem d_GL_fill_1 : decode prog_1_method_5_code 1 = .ok (.iload_n 2, 1) := by decide +kernel
theorem d_GL_fill_2 : decode prog_1_method_5_code 2 = .ok (.invokestatic 73, 3) := by decide +kernel
theorem d_GL_fill_5 : decode prog_1_method_5_code 5 = .ok (.iload_n 3, 1) := by decide +kernel
theorem d_GL_fill_6 : decode prog_1_method_5_code 6 = .ok (.iload 4, 2) := by decide +kernel
theorem d_GL_fill_8 : decode prog_1_method_5_code 8 = .ok (.invokestatic 73, 3) := by decide +kernel
theorem d_GL_fill_11 : decode prog_1_method_5_code 11 = .ok (.iload 5, 2) := by decide +kernel
theorem d_GL_fill_13 : decode prog_1_method_5_code 13 = .ok (.iload 6, 2) := by decide +kernel
theorem d_GL_fill_15 : decode prog_1_method_5_code 15 = .ok (.invokestatic 73, 3) := by decide +kernel
theorem d_GL_fill_18 : decode prog_1_method_5_code 18 = .ok (.iload_n 3, 1) := by decide +kernel
theorem d_GL_fill_19 : decode prog_1_method_5_code 19 = .ok (.iload 5, 2) := by decide +kernel
theorem d_GL_fill_21 : decode prog_1_method_5_code 21 = .ok (.if_icmp .gt 14, 3) := by decide +kernel
theorem d_GL_fill_35 : decode prog_1_method_5_code 35 = .ok (.iconst 0, 1) := by decide +kernel
theorem d_GL_fill_36 : decode prog_1_method_5_code 36 = .ok (.invokestatic 69, 3) := by decide +kernel
theorem d_GL_fill_39 : decode prog_1_method_5_code 39 = .ok (.aload_n 0, 1) := by decide +kernel
theorem d_GL_fill_40 : decode prog_1_method_5_code 40 = .ok (.getfield 34, 3) := by decide +kernel
theorem d_GL_fill_43 : decode prog_1_method_5_code 43 = .ok (.aload_n 0, 1) := by decide +kernel
theorem d_GL_fill_44 : decode prog_1_method_5_code 44 = .ok (.getfield 40, 3) := by decide +kernel
theorem d_GL_fill_47 : decode prog_1_method_5_code 47 = .ok (.aload_n 0, 1) := by decide +kernel
theorem d_GL_fill_48 : decode prog_1_method_5_code 48 = .ok (.getfield 81, 3) := by decide +kernel
theorem d_GL_fill_51 : decode prog_1_method_5_code 51 = .ok (.aaload, 1) := by decide +kernel
theorem d_GL_fill_52 : decode prog_1_method_5_code 52 = .ok (.aload_n 0, 1) := by decide +kernel
theorem d_GL_fill_53 : decode prog_1_method_5_code 53 = .ok (.getfield 45, 3) := by decide +kernel
theorem d_GL_fill_56 : decode prog_1_method_5_code 56 = .ok (.invokevirtual 84, 3) := by decide +kernel
theorem d_GL_fill_59 : decode prog_1_method_5_code 59 = .ok (.aload_n 0, 1) := by decide +kernel
theorem d_GL_fill_60 : decode prog_1_method_5_code 60 = .ok (.aload_n 0, 1) := by decide +kernel
theorem d_GL_fill_61 : decode prog_1_method_5_code 61 = .ok (.getfield 34, 3) := by decide +kernel
theorem d_GL_fill_64 : decode prog_1_method_5_code 64 = .ok (.iload_n 1, 1) := by decide +kernel
theorem d_GL_fill_65 : decode prog_1_method_5_code 65 = .ok (.iload_n 2, 1) := by decide +kernel
theorem d_GL_fill_66 : decode prog_1_method_5_code 66 = .ok (.invokestatic 88, 3) := by decide +kernel
theorem d_GL_fill_69 : decode prog_1_method_5_code 69 = .ok (.iload_n 3, 1) := by decide +kernel
theorem d_GL_fill_70 : decode prog_1_method_5_code 70 = .ok (.iload 4, 2) := by decide +kernel
theorem d_GL_fill_72 : decode prog_1_method_5_code 72 = .ok (.iload 5, 2) := by decide +kernel
theorem d_GL_fill_74 : decode prog_1_method_5_code 74 = .ok (.iload 6, 2) := by decide +kernel
theorem d_GL_fill_76 : decode prog_1_method_5_code 76 = .ok (.invokevirtual 103, 3) := by decide +kernel
theorem d_GL_fill_79 : decode prog_1_method_5_code 79 = .ok (.invokevirtual 96, 3) := by decide +kernel
theorem d_GL_fill_82 : decode prog_1_method_5_code 82 = .ok (.aload_n 0, 1) := by decide +kernel
theorem d_GL_fill_83 : decode prog_1_method_5_code 83 = .ok (.getfield 54, 3) := by decide +kernel
theorem d_GL_fill_86 : decode prog_1_method_5_code 86 = .ok (.aload_n 0, 1) := by decide +kernel
theorem d_GL_fill_87 : decode prog_1_method_5_code 87 = .ok (.getfield 40, 3) := by decide +kernel
theorem d_GL_fill_90 : decode prog_1_method_5_code 90 = .ok (.aload_n 0, 1) := by decide +kernel
theorem d_GL_fill_91 : decode prog_1_method_5_code 91 = .ok (.getfield 81, 3) := by decide +kernel
theorem d_GL_fill_94 : decode prog_1_method_5_code 94 = .ok (.aaload, 1) := by decide +kernel
theorem d_GL_fill_95 : decode prog_1_method_5_code 95 = .ok (.invokevirtual 99, 3) := by decide +kernel
theorem d_GL_fill_98 : decode prog_1_method_5_code 98 = .ok (.ireturn, 1) := by decide +kernel
theorem d_GL_fill_24 : decode prog_1_method_5_code 24 = .ok (.iload 4, 2) := by decide +kernel
theorem d_GL_fill_26 : decode prog_1_method_5_code 26 = .ok (.iload 6, 2) := by decide +kernel
theorem d_GL_fill_28 : decode prog_1_method_5_code 28 = .ok (.if_icmp .gt 7, 3) := by decide +kernel
theorem d_GL_fill_31 : decode prog_1_method_5_code 31 = .ok (.iconst 1, 1) := by decide +kernel
theorem d_GL_fill_32 : decode prog_1_method_5_code 32 = .ok (.goto 4, 3) := by decide +kernel
set_option maxHeartbeats 4000000 in
theorem w_GL_fill_0 {l : Launch} {G : gG} {d : Nat} {X : gX} {M : gM} {k : Int → gM → Prop} {c : Nat} (hX : glX X c) {x1 : Int} (hx1 : g32 x1) {x2 : Int} (hx2 : g32 x2) {x3 : Int} (hx3 : g32 x3) {x4 : Int} (hx4 : g32 x4) {x5 : Int} (hx5 : g32 x5) {x6 : Int} (hx6 : g32 x6) {s4 : Nat} (hs4 : X.2.2 c 7 = s4 ∧ gsX X s4) (hring : ∀ i : Nat, i < 41 → gsX X (X.2.2 (c + 23) i)) (T : cV l G y_GL_needCell (gRm d) false [gI x1, gI x2] X M (fun M1 => (cV l G y_GL_needCell (gRm d) false [gI x3, gI x4] X M1 (fun M2 => (cV l G y_GL_needCell (gRm d) false [gI x5, gI x6] X M2 (fun M3 => ((x5 < x3 → (cV l G y_GL_need (gRm d) false [gI 0] X M3 (fun M4 => (g32 (M4 c 8) → (((0 : Int) ≤ M4 c 8 ∧ M4 c 8 < 41) ∧ (cV l G y_Ed_open (gRm d) true [gR G (c + 21), gR G (X.2.2 (c + 23) (Int.toNat (M4 c 8))), gR G s4] X M4 (fun M7 => (cI l G y_GL_place (gRm d) false [gI x1, gI x2] X M7 (fun v9 M8 => (cZ l G y_Ed_filled (gRm d) true [gR G (c + 21), gI v9, gI x3, gI x4, gI x5, gI x6] X M8 (fun v12 M11 => (cV l G y_GL_land (gRm d) true [gR G c, gI v12] X M11 (fun M14 => (g32 (M14 c 8) → (((0 : Int) ≤ M14 c 8 ∧ M14 c 8 < 41) ∧ (cI l G y_Rs_follow (gRm d) true [gR G (c + 234), gR G (X.2.2 (c + 23) (Int.toNat (M14 c 8)))] X M14 (fun v18 M17 => (k v18 M17)))))))))))))))))) ∧ (¬ x5 < x3 → ((x6 < x4 → (cV l G y_GL_need (gRm d) false [gI 0] X M3 (fun M20 => (g32 (M20 c 8) → (((0 : Int) ≤ M20 c 8 ∧ M20 c 8 < 41) ∧ (cV l G y_Ed_open (gRm d) true [gR G (c + 21), gR G (X.2.2 (c + 23) (Int.toNat (M20 c 8))), gR G s4] X M20 (fun M23 => (cI l G y_GL_place (gRm d) false [gI x1, gI x2] X M23 (fun v25 M24 => (cZ l G y_Ed_filled (gRm d) true [gR G (c + 21), gI v25, gI x3, gI x4, gI x5, gI x6] X M24 (fun v28 M27 => (cV l G y_GL_land (gRm d) true [gR G c, gI v28] X M27 (fun M30 => (g32 (M30 c 8) → (((0 : Int) ≤ M30 c 8 ∧ M30 c 8 < 41) ∧ (cI l G y_Rs_follow (gRm d) true [gR G (c + 234), gR G (X.2.2 (c + 23) (Int.toNat (M30 c 8)))] X M30 (fun v34 M33 => (k v34 M33)))))))))))))))))) ∧ (¬ x6 < x4 → (cV l G y_GL_need (gRm d) false [gI 1] X M3 (fun M36 => (g32 (M36 c 8) → (((0 : Int) ≤ M36 c 8 ∧ M36 c 8 < 41) ∧ (cV l G y_Ed_open (gRm d) true [gR G (c + 21), gR G (X.2.2 (c + 23) (Int.toNat (M36 c 8))), gR G s4] X M36 (fun M39 => (cI l G y_GL_place (gRm d) false [gI x1, gI x2] X M39 (fun v41 M40 => (cZ l G y_Ed_filled (gRm d) true [gR G (c + 21), gI v41, gI x3, gI x4, gI x5, gI x6] X M40 (fun v44 M43 => (cV l G y_GL_land (gRm d) true [gR G c, gI v44] X M43 (fun M46 => (g32 (M46 c 8) → (((0 : Int) ≤ M46 c 8 ∧ M46 c 8 < 41) ∧ (cI l G y_Rs_follow (gRm d) true [gR G (c + 234), gR G (X.2.2 (c + 23) (Int.toNat (M46 c 8)))] X M46 (fun v50 M49 => (k v50 M49))))))))))))))))))))))))))) : wp l G y_GL_fill (gRm (d + 1)) true (kkI X k) false 0 [.val (gR G c), .val (gI x1), .val (gI x2), .val (gI x3), .val (gI x4), .val (gI x5), .val (gI x6)] [] X M 0 0 := by
  refine wp_iload_n d_GL_fill_0 rfl rfl ?_
  refine wp_iload_n d_GL_fill_1 rfl rfl ?_
  refine xcS_V (md' := false) (As := [gI x1, gI x2]) (st := []) d_GL_fill_2 ca_GL_needCell ml_GL_73 sm_GL_needCell rfl (by decide) (by decide) rfl id id T (fun M1 T => ?_)
  refine wp_iload_n d_GL_fill_5 rfl rfl ?_
  refine wp_iload d_GL_fill_6 rfl ?_
  refine xcS_V (md' := false) (As := [gI x3, gI x4]) (st := []) d_GL_fill_8 ca_GL_needCell ml_GL_73 sm_GL_needCell rfl (by decide) (by decide) rfl id id T (fun M2 T => ?_)
  refine wp_iload d_GL_fill_11 rfl ?_
  refine wp_iload d_GL_fill_13 rfl ?_
  refine xcS_V (md' := false) (As := [gI x5, gI x6]) (st := []) d_GL_fill_15 ca_GL_needCell ml_GL_73 sm_GL_needCell rfl (by decide) (by decide) rfl id id T (fun M3 T => ?_)
  refine wp_iload_n d_GL_fill_18 rfl rfl ?_
  refine wp_iload d_GL_fill_19 rfl ?_
  refine xi_gt (tgt := 35) d_GL_fill_21 (by decide) (w32_id hx3) (w32_id hx5) (fun h53 => ?_) (fun h53 => ?_)
  · have T := T.1 h53
    refine wp_iconst d_GL_fill_35 ?_
    refine xcS_V (md' := false) (As := [gI 0]) (st := []) d_GL_fill_36 ca_GL_need ml_GL_69 sm_GL_need rfl (by decide) (by decide) rfl id id T (fun M4 T => ?_)
    refine wp_aload_n d_GL_fill_39 rfl rfl (g_nz (gl_1 hX 0)) ?_
    refine xgetR d_GL_fill_40 gc_GL f_GL_34.1 f_GL_34.2.1 f_GL_34.2.2.1 (gl_1 hX 0) (gl_2 hX (a := 0) (by decide)) (gl_s0 hX) f_GL_34.2.2.2.2.1 (gl_f0 hX 23 rfl) ?_
    refine wp_aload_n d_GL_fill_43 rfl rfl (g_nz (gl_1 hX 0)) ?_
    refine xgetR d_GL_fill_44 gc_GL f_GL_40.1 f_GL_40.2.1 f_GL_40.2.2.1 (gl_1 hX 0) (gl_2 hX (a := 0) (by decide)) (gl_s0 hX) f_GL_40.2.2.2.2.1 (gl_f0 hX 26 rfl) ?_
    refine wp_aload_n d_GL_fill_47 rfl rfl (g_nz (gl_1 hX 0)) ?_
    refine xgetI d_GL_fill_48 gc_GL f_GL_81.1 f_GL_81.2.1 f_GL_81.2.2.1 (gl_1 hX 0) (gl_2 hX (a := 0) (by decide)) (gl_s0 hX) f_GL_81.2.2.2.2.1 (fun h5 => ?_)
    have T := T h5
    have h6 := T.1
    refine xaald d_GL_fill_51 (Or.inr rfl) (gl_1 hX 23) (gl_2 hX (a := 23) (by decide)) (gl_s hX 23 rfl) (g32_n h6 (by decide)) h6.1 h6.2 rfl ?_
    have T := T.2
    refine wp_aload_n d_GL_fill_52 rfl rfl (g_nz (gl_1 hX 0)) ?_
    refine xgetR d_GL_fill_53 gc_GL f_GL_45.1 f_GL_45.2.1 f_GL_45.2.2.1 (gl_1 hX 0) (gl_2 hX (a := 0) (by decide)) (gl_s0 hX) f_GL_45.2.2.2.2.1 hs4.1 ?_
    refine xcV_V (md' := true) (As := [gR G (X.2.2 (c + 23) (Int.toNat (M4 c 8))), gR G s4]) (st := []) d_GL_fill_56 ca_Ed_open ml_GL_84 im_Ed_open se_Ed_open gc_Ed (gl_1 hX 21) (gl_2 hX (a := 21) (by decide)) (gl_s hX 21 rfl) rfl (by decide) (by decide) rfl (fun _ => rfl) (fun _ => rfl) T (fun M7 T => ?_)
    refine wp_aload_n d_GL_fill_59 rfl rfl (g_nz (gl_1 hX 0)) ?_
    refine wp_aload_n d_GL_fill_60 rfl rfl (g_nz (gl_1 hX 0)) ?_
    refine xgetR d_GL_fill_61 gc_GL f_GL_34.1 f_GL_34.2.1 f_GL_34.2.2.1 (gl_1 hX 0) (gl_2 hX (a := 0) (by decide)) (gl_s0 hX) f_GL_34.2.2.2.2.1 (gl_f0 hX 23 rfl) ?_
    refine wp_iload_n d_GL_fill_64 rfl rfl ?_
    refine wp_iload_n d_GL_fill_65 rfl rfl ?_
    refine xcS_I (md' := true) (As := [gI x1, gI x2]) (st := [gR G (c + 21), gR G c]) d_GL_fill_66 ca_GL_place ml_GL_88 sm_GL_place rfl (by decide) (by simp only [List.map, gR_cat, gI_cat, gL_cat, List.sum_cons, List.sum_nil]; decide) rfl (fun _ => rfl) (fun _ => rfl) T (fun v9 M8 h10 T => ?_)
    refine wp_iload_n d_GL_fill_69 rfl rfl ?_
    refine wp_iload d_GL_fill_70 rfl ?_
    refine wp_iload d_GL_fill_72 rfl ?_
    refine wp_iload d_GL_fill_74 rfl ?_
    refine xcV_Z (md' := true) (As := [gI v9, gI x3, gI x4, gI x5, gI x6]) (st := [gR G c]) d_GL_fill_76 ca_Ed_filled ml_GL_103 im_Ed_filled se_Ed_filled gc_Ed (gl_1 hX 21) (gl_2 hX (a := 21) (by decide)) (gl_s hX 21 rfl) rfl (by decide) (by simp only [List.map, gR_cat, gI_cat, gL_cat, List.sum_cons, List.sum_nil]; decide) rfl (fun _ => rfl) (fun _ => rfl) T (fun v12 M11 h13 T => ?_)
    refine xcV_V (md' := true) (As := [gI v12]) (st := []) d_GL_fill_79 ca_GL_land ml_GL_96 im_GL_land se_GL_land gc_GL (gl_1 hX 0) (gl_2 hX (a := 0) (by decide)) (gl_s0 hX) rfl (by decide) (by decide) rfl (fun _ => rfl) (fun _ => rfl) T (fun M14 T => ?_)
    refine wp_aload_n d_GL_fill_82 rfl rfl (g_nz (gl_1 hX 0)) ?_
    refine xgetR d_GL_fill_83 gc_GL f_GL_54.1 f_GL_54.2.1 f_GL_54.2.2.1 (gl_1 hX 0) (gl_2 hX (a := 0) (by decide)) (gl_s0 hX) f_GL_54.2.2.2.2.1 (gl_f0 hX 27 rfl) ?_
    refine wp_aload_n d_GL_fill_86 rfl rfl (g_nz (gl_1 hX 0)) ?_
    refine xgetR d_GL_fill_87 gc_GL f_GL_40.1 f_GL_40.2.1 f_GL_40.2.2.1 (gl_1 hX 0) (gl_2 hX (a := 0) (by decide)) (gl_s0 hX) f_GL_40.2.2.2.2.1 (gl_f0 hX 26 rfl) ?_
    refine wp_aload_n d_GL_fill_90 rfl rfl (g_nz (gl_1 hX 0)) ?_
    refine xgetI d_GL_fill_91 gc_GL f_GL_81.1 f_GL_81.2.1 f_GL_81.2.2.1 (gl_1 hX 0) (gl_2 hX (a := 0) (by decide)) (gl_s0 hX) f_GL_81.2.2.2.2.1 (fun h15 => ?_)
    have T := T h15
    have h16 := T.1
    refine xaald d_GL_fill_94 (Or.inr rfl) (gl_1 hX 23) (gl_2 hX (a := 23) (by decide)) (gl_s hX 23 rfl) (g32_n h16 (by decide)) h16.1 h16.2 rfl ?_
    have T := T.2
    refine xcV_I (md' := true) (As := [gR G (X.2.2 (c + 23) (Int.toNat (M14 c 8)))]) (st := []) d_GL_fill_95 ca_Rs_follow ml_GL_99 im_Rs_follow se_Rs_follow gc_Rs (gl_1 hX 234) (gl_2 hX (a := 234) (by decide)) (gl_s hX 24 rfl) rfl (by decide) (by decide) rfl (fun _ => rfl) (fun _ => rfl) T (fun v18 M17 h19 T => ?_)
    exact wp_ireturn d_GL_fill_98 rfl (fun _ => rfl) (Nat.zero_le _) (Nat.zero_le _) (kI_mk h19 T)
  · have T := T.2 h53
    refine wp_iload d_GL_fill_24 rfl ?_
    refine wp_iload d_GL_fill_26 rfl ?_
    refine xi_gt (tgt := 35) d_GL_fill_28 (by decide) (w32_id hx4) (w32_id hx6) (fun h52 => ?_) (fun h52 => ?_)
    · have T := T.1 h52
      refine wp_iconst d_GL_fill_35 ?_
      refine xcS_V (md' := false) (As := [gI 0]) (st := []) d_GL_fill_36 ca_GL_need ml_GL_69 sm_GL_need rfl (by decide) (by decide) rfl id id T (fun M20 T => ?_)
      refine wp_aload_n d_GL_fill_39 rfl rfl (g_nz (gl_1 hX 0)) ?_
      refine xgetR d_GL_fill_40 gc_GL f_GL_34.1 f_GL_34.2.1 f_GL_34.2.2.1 (gl_1 hX 0) (gl_2 hX (a := 0) (by decide)) (gl_s0 hX) f_GL_34.2.2.2.2.1 (gl_f0 hX 23 rfl) ?_
      refine wp_aload_n d_GL_fill_43 rfl rfl (g_nz (gl_1 hX 0)) ?_
      refine xgetR d_GL_fill_44 gc_GL f_GL_40.1 f_GL_40.2.1 f_GL_40.2.2.1 (gl_1 hX 0) (gl_2 hX (a := 0) (by decide)) (gl_s0 hX) f_GL_40.2.2.2.2.1 (gl_f0 hX 26 rfl) ?_
      refine wp_aload_n d_GL_fill_47 rfl rfl (g_nz (gl_1 hX 0)) ?_
      refine xgetI d_GL_fill_48 gc_GL f_GL_81.1 f_GL_81.2.1 f_GL_81.2.2.1 (gl_1 hX 0) (gl_2 hX (a := 0) (by decide)) (gl_s0 hX) f_GL_81.2.2.2.2.1 (fun h21 => ?_)
      have T := T h21
      have h22 := T.1
      refine xaald d_GL_fill_51 (Or.inr rfl) (gl_1 hX 23) (gl_2 hX (a := 23) (by decide)) (gl_s hX 23 rfl) (g32_n h22 (by decide)) h22.1 h22.2 rfl ?_
      have T := T.2
      refine wp_aload_n d_GL_fill_52 rfl rfl (g_nz (gl_1 hX 0)) ?_
      refine xgetR d_GL_fill_53 gc_GL f_GL_45.1 f_GL_45.2.1 f_GL_45.2.2.1 (gl_1 hX 0) (gl_2 hX (a := 0) (by decide)) (gl_s0 hX) f_GL_45.2.2.2.2.1 hs4.1 ?_
      refine xcV_V (md' := true) (As := [gR G (X.2.2 (c + 23) (Int.toNat (M20 c 8))), gR G s4]) (st := []) d_GL_fill_56 ca_Ed_open ml_GL_84 im_Ed_open se_Ed_open gc_Ed (gl_1 hX 21) (gl_2 hX (a := 21) (by decide)) (gl_s hX 21 rfl) rfl (by decide) (by decide) rfl (fun _ => rfl) (fun _ => rfl) T (fun M23 T => ?_)
      refine wp_aload_n d_GL_fill_59 rfl rfl (g_nz (gl_1 hX 0)) ?_
      refine wp_aload_n d_GL_fill_60 rfl rfl (g_nz (gl_1 hX 0)) ?_
      refine xgetR d_GL_fill_61 gc_GL f_GL_34.1 f_GL_34.2.1 f_GL_34.2.2.1 (gl_1 hX 0) (gl_2 hX (a := 0) (by decide)) (gl_s0 hX) f_GL_34.2.2.2.2.1 (gl_f0 hX 23 rfl) ?_
      refine wp_iload_n d_GL_fill_64 rfl rfl ?_
      refine wp_iload_n d_GL_fill_65 rfl rfl ?_
      refine xcS_I (md' := true) (As := [gI x1, gI x2]) (st := [gR G (c + 21), gR G c]) d_GL_fill_66 ca_GL_place ml_GL_88 sm_GL_place rfl (by decide) (by simp only [List.map, gR_cat, gI_cat, gL_cat, List.sum_cons, List.sum_nil]; decide) rfl (fun _ => rfl) (fun _ => rfl) T (fun v25 M24 h26 T => ?_)
      refine wp_iload_n d_GL_fill_69 rfl rfl ?_
      refine wp_iload d_GL_fill_70 rfl ?_
      refine wp_iload d_GL_fill_72 rfl ?_
      refine wp_iload d_GL_fill_74 rfl ?_
      refine xcV_Z (md' := true) (As := [gI v25, gI x3, gI x4, gI x5, gI x6]) (st := [gR G c]) d_GL_fill_76 ca_Ed_filled ml_GL_103 im_Ed_filled se_Ed_filled gc_Ed (gl_1 hX 21) (gl_2 hX (a := 21) (by decide)) (gl_s hX 21 rfl) rfl (by decide) (by simp only [List.map, gR_cat, gI_cat, gL_cat, List.sum_cons, List.sum_nil]; decide) rfl (fun _ => rfl) (fun _ => rfl) T (fun v28 M27 h29 T => ?_)
      refine xcV_V (md' := true) (As := [gI v28]) (st := []) d_GL_fill_79 ca_GL_land ml_GL_96 im_GL_land se_GL_land gc_GL (gl_1 hX 0) (gl_2 hX (a := 0) (by decide)) (gl_s0 hX) rfl (by decide) (by decide) rfl (fun _ => rfl) (fun _ => rfl) T (fun M30 T => ?_)
      refine wp_aload_n d_GL_fill_82 rfl rfl (g_nz (gl_1 hX 0)) ?_
      refine xgetR d_GL_fill_83 gc_GL f_GL_54.1 f_GL_54.2.1 f_GL_54.2.2.1 (gl_1 hX 0) (gl_2 hX (a := 0) (by decide)) (gl_s0 hX) f_GL_54.2.2.2.2.1 (gl_f0 hX 27 rfl) ?_
      refine wp_aload_n d_GL_fill_86 rfl rfl (g_nz (gl_1 hX 0)) ?_
      refine xgetR d_GL_fill_87 gc_GL f_GL_40.1 f_GL_40.2.1 f_GL_40.2.2.1 (gl_1 hX 0) (gl_2 hX (a := 0) (by decide)) (gl_s0 hX) f_GL_40.2.2.2.2.1 (gl_f0 hX 26 rfl) ?_
      refine wp_aload_n d_GL_fill_90 rfl rfl (g_nz (gl_1 hX 0)) ?_
      refine xgetI d_GL_fill_91 gc_GL f_GL_81.1 f_GL_81.2.1 f_GL_81.2.2.1 (gl_1 hX 0) (gl_2 hX (a := 0) (by decide)) (gl_s0 hX) f_GL_81.2.2.2.2.1 (fun h31 => ?_)
      have T := T h31
      have h32 := T.1
      refine xaald d_GL_fill_94 (Or.inr rfl) (gl_1 hX 23) (gl_2 hX (a := 23) (by decide)) (gl_s hX 23 rfl) (g32_n h32 (by decide)) h32.1 h32.2 rfl ?_
      have T := T.2
      refine xcV_I (md' := true) (As := [gR G (X.2.2 (c + 23) (Int.toNat (M30 c 8)))]) (st := []) d_GL_fill_95 ca_Rs_follow ml_GL_99 im_Rs_follow se_Rs_follow gc_Rs (gl_1 hX 234) (gl_2 hX (a := 234) (by decide)) (gl_s hX 24 rfl) rfl (by decide) (by decide) rfl (fun _ => rfl) (fun _ => rfl) T (fun v34 M33 h35 T => ?_)
      exact wp_ireturn d_GL_fill_98 rfl (fun _ => rfl) (Nat.zero_le _) (Nat.zero_le _) (kI_mk h35 T)
    · have T := T.2 h52
      refine wp_iconst d_GL_fill_31 ?_
      refine wp_goto (tgt := 36) d_GL_fill_32 (by decide) ?_
      refine xcS_V (md' := false) (As := [gI 1]) (st := []) d_GL_fill_36 ca_GL_need ml_GL_69 sm_GL_need rfl (by decide) (by decide) rfl id id T (fun M36 T => ?_)
      refine wp_aload_n d_GL_fill_39 rfl rfl (g_nz (gl_1 hX 0)) ?_
      refine xgetR d_GL_fill_40 gc_GL f_GL_34.1 f_GL_34.2.1 f_GL_34.2.2.1 (gl_1 hX 0) (gl_2 hX (a := 0) (by decide)) (gl_s0 hX) f_GL_34.2.2.2.2.1 (gl_f0 hX 23 rfl) ?_
      refine wp_aload_n d_GL_fill_43 rfl rfl (g_nz (gl_1 hX 0)) ?_
      refine xgetR d_GL_fill_44 gc_GL f_GL_40.1 f_GL_40.2.1 f_GL_40.2.2.1 (gl_1 hX 0) (gl_2 hX (a := 0) (by decide)) (gl_s0 hX) f_GL_40.2.2.2.2.1 (gl_f0 hX 26 rfl) ?_
      refine wp_aload_n d_GL_fill_47 rfl rfl (g_nz (gl_1 hX 0)) ?_
      refine xgetI d_GL_fill_48 gc_GL f_GL_81.1 f_GL_81.2.1 f_GL_81.2.2.1 (gl_1 hX 0) (gl_2 hX (a := 0) (by decide)) (gl_s0 hX) f_GL_81.2.2.2.2.1 (fun h37 => ?_)
      have T := T h37
      have h38 := T.1
      refine xaald d_GL_fill_51 (Or.inr rfl) (gl_1 hX 23) (gl_2 hX (a := 23) (by decide)) (gl_s hX 23 rfl) (g32_n h38 (by decide)) h38.1 h38.2 rfl ?_
      have T := T.2
      refine wp_aload_n d_GL_fill_52 rfl rfl (g_nz (gl_1 hX 0)) ?_
      refine xgetR d_GL_fill_53 gc_GL f_GL_45.1 f_GL_45.2.1 f_GL_45.2.2.1 (gl_1 hX 0) (gl_2 hX (a := 0) (by decide)) (gl_s0 hX) f_GL_45.2.2.2.2.1 hs4.1 ?_
      refine xcV_V (md' := true) (As := [gR G (X.2.2 (c + 23) (Int.toNat (M36 c 8))), gR G s4]) (st := []) d_GL_fill_56 ca_Ed_open ml_GL_84 im_Ed_open se_Ed_open gc_Ed (gl_1 hX 21) (gl_2 hX (a := 21) (by decide)) (gl_s hX 21 rfl) rfl (by decide) (by decide) rfl (fun _ => rfl) (fun _ => rfl) T (fun M39 T => ?_)
      refine wp_aload_n d_GL_fill_59 rfl rfl (g_nz (gl_1 hX 0)) ?_
      refine wp_aload_n d_GL_fill_60 rfl rfl (g_nz (gl_1 hX 0)) ?_
      refine xgetR d_GL_fill_61 gc_GL f_GL_34.1 f_GL_34.2.1 f_GL_34.2.2.1 (gl_1 hX 0) (gl_2 hX (a := 0) (by decide)) (gl_s0 hX) f_GL_34.2.2.2.2.1 (gl_f0 hX 23 rfl) ?_
      refine wp_iload_n d_GL_fill_64 rfl rfl ?_
      refine wp_iload_n d_GL_fill_65 rfl rfl ?_
      refine xcS_I (md' := true) (As := [gI x1, gI x2]) (st := [gR G (c + 21), gR G c]) d_GL_fill_66 ca_GL_place ml_GL_88 sm_GL_place rfl (by decide) (by simp only [List.map, gR_cat, gI_cat, gL_cat, List.sum_cons, List.sum_nil]; decide) rfl (fun _ => rfl) (fun _ => rfl) T (fun v41 M40 h42 T => ?_)
      refine wp_iload_n d_GL_fill_69 rfl rfl ?_
      refine wp_iload d_GL_fill_70 rfl ?_
      refine wp_iload d_GL_fill_72 rfl ?_
      refine wp_iload d_GL_fill_74 rfl ?_
      refine xcV_Z (md' := true) (As := [gI v41, gI x3, gI x4, gI x5, gI x6]) (st := [gR G c]) d_GL_fill_76 ca_Ed_filled ml_GL_103 im_Ed_filled se_Ed_filled gc_Ed (gl_1 hX 21) (gl_2 hX (a := 21) (by decide)) (gl_s hX 21 rfl) rfl (by decide) (by simp only [List.map, gR_cat, gI_cat, gL_cat, List.sum_cons, List.sum_nil]; decide) rfl (fun _ => rfl) (fun _ => rfl) T (fun v44 M43 h45 T => ?_)
      refine xcV_V (md' := true) (As := [gI v44]) (st := []) d_GL_fill_79 ca_GL_land ml_GL_96 im_GL_land se_GL_land gc_GL (gl_1 hX 0) (gl_2 hX (a := 0) (by decide)) (gl_s0 hX) rfl (by decide) (by decide) rfl (fun _ => rfl) (fun _ => rfl) T (fun M46 T => ?_)
      refine wp_aload_n d_GL_fill_82 rfl rfl (g_nz (gl_1 hX 0)) ?_
      refine xgetR d_GL_fill_83 gc_GL f_GL_54.1 f_GL_54.2.1 f_GL_54.2.2.1 (gl_1 hX 0) (gl_2 hX (a := 0) (by decide)) (gl_s0 hX) f_GL_54.2.2.2.2.1 (gl_f0 hX 27 rfl) ?_
      refine wp_aload_n d_GL_fill_86 rfl rfl (g_nz (gl_1 hX 0)) ?_
      refine xgetR d_GL_fill_87 gc_GL f_GL_40.1 f_GL_40.2.1 f_GL_40.2.2.1 (gl_1 hX 0) (gl_2 hX (a := 0) (by decide)) (gl_s0 hX) f_GL_40.2.2.2.2.1 (gl_f0 hX 26 rfl) ?_
      refine wp_aload_n d_GL_fill_90 rfl rfl (g_nz (gl_1 hX 0)) ?_
      refine xgetI d_GL_fill_91 gc_GL f_GL_81.1 f_GL_81.2.1 f_GL_81.2.2.1 (gl_1 hX 0) (gl_2 hX (a := 0) (by decide)) (gl_s0 hX) f_GL_81.2.2.2.2.1 (fun h47 => ?_)
      have T := T h47
      have h48 := T.1
      refine xaald d_GL_fill_94 (Or.inr rfl) (gl_1 hX 23) (gl_2 hX (a := 23) (by decide)) (gl_s hX 23 rfl) (g32_n h48 (by decide)) h48.1 h48.2 rfl ?_
      have T := T.2
      refine xcV_I (md' := true) (As := [gR G (X.2.2 (c + 23) (Int.toNat (M46 c 8)))]) (st := []) d_GL_fill_95 ca_Rs_follow ml_GL_99 im_Rs_follow se_Rs_follow gc_Rs (gl_1 hX 234) (gl_2 hX (a := 234) (by decide)) (gl_s hX 24 rfl) rfl (by decide) (by decide) rfl (fun _ => rfl) (fun _ => rfl) T (fun v50 M49 h51 T => ?_)
      exact wp_ireturn d_GL_fill_98 rfl (fun _ => rfl) (Nat.zero_le _) (Nat.zero_le _) (kI_mk h51 T)
theorem e_GL_fill {l : Launch} {G : gG} {d : Nat} {X : gX} {M : gM} {k : Int → gM → Prop} {c : Nat} {x1 : Int} {x2 : Int} {x3 : Int} {x4 : Int} {x5 : Int} {x6 : Int} (T : wp l G y_GL_fill (gRm (d + 1)) true (kkI X k) false 0 [.val (gR G c), .val (gI x1), .val (gI x2), .val (gI x3), .val (gI x4), .val (gI x5), .val (gI x6)] [] X M 0 0) : cI l G y_GL_fill (gRm (d + 1)) true [gR G c, gI x1, gI x2, gI x3, gI x4, gI x5, gI x6] X M k := cen_I (plainFor_of_name rfl) (by simp only [lg_sl_R, lg_sl_I, lg_sl_L, lg_sl_N, List.length_cons, List.length_nil]; decide) (by unfold gEn; simp only [lg_sl_R, lg_sl_I, lg_sl_L, lg_sl_N]; exact wpt T (And.intro rfl (And.intro rfl (And.intro rfl (And.intro rfl (And.intro rfl (And.intro rfl (And.intro rfl True.intro))))))))
theorem d_GL_insert_0 : decode prog_1_method_6_code 0 = .ok (.iload_n 2, 1) := by decide +kernel
theorem d_GL_insert_1 : decode prog_1_method_6_code 1 = .ok (.ifCond .lt 15, 3) := by decide +kernel
theorem d_GL_insert_16 : decode prog_1_method_6_code 16 = .ok (.iconst 0, 1) := by decide +kernel
theorem d_GL_insert_17 : decode prog_1_method_6_code 17 = .ok (.invokestatic 69, 3) := by decide +kernel
theorem d_GL_insert_20 : decode prog_1_method_6_code 20 = .ok (.iload_n 3, 1) := by decide +kernel
theorem d_GL_insert_21 : decode prog_1_method_6_code 21 = .ok (.iconst 1, 1) := by decide +kernel
theorem d_GL_insert_22 : decode prog_1_method_6_code 22 = .ok (.if_icmp .lt 13, 3) := by decide +kernel
theorem d_GL_insert_35 : decode prog_1_method_6_code 35 = .ok (.iconst 0, 1) := by decide +kernel
theorem d_GL_insert_36 : decode prog_1_method_6_code 36 = .ok (.invokestatic 69, 3) := by decide +kernel
theorem d_GL_insert_39 : decode prog_1_method_6_code 39 = .ok (.aload_n 0, 1) := by decide +kernel
theorem d_GL_insert_40 : decode prog_1_method_6_code 40 = .ok (.getfield 34, 3) := by decide +kernel
theorem d_GL_insert_43 : decode prog_1_method_6_code 43 = .ok (.aload_n 0, 1) := by decide +kernel
theorem d_GL_insert_44 : decode prog_1_method_6_code 44 = .ok (.getfield 40, 3) := by decide +kernel
theorem d_GL_insert_47 : decode prog_1_method_6_code 47 = .ok (.aload_n 0, 1) := by decide +kernel
theorem d_GL_insert_48 : decode prog_1_method_6_code 48 = .ok (.getfield 81, 3) := by decide +kernel
theorem d_GL_insert_51 : decode prog_1_method_6_code 51 = .ok (.aaload, 1) := by decide +kernel
theorem d_GL_insert_52 : decode prog_1_method_6_code 52 = .ok (.aload_n 0, 1) := by decide +kernel
theorem d_GL_insert_53 : decode prog_1_method_6_code 53 = .ok (.getfield 45, 3) := by decide +kernel
theorem d_GL_insert_56 : decode prog_1_method_6_code 56 = .ok (.invokevirtual 84, 3) := by decide +kernel
theorem d_GL_insert_59 : decode prog_1_method_6_code 59 = .ok (.aload_n 0, 1) := by decide +kernel
theorem d_GL_insert_60 : decode prog_1_method_6_code 60 = .ok (.aload_n 0, 1) := by decide +kernel
theorem d_GL_insert_61 : decode prog_1_method_6_code 61 = .ok (.getfield 34, 3) := by decide +kernel
theorem d_GL_insert_64 : decode prog_1_method_6_code 64 = .ok (.iload_n 1, 1) := by decide +kernel
theorem d_GL_insert_65 : decode prog_1_method_6_code 65 = .ok (.iconst 1, 1) := by decide +kernel
theorem d_GL_insert_66 : decode prog_1_method_6_code 66 = .ok (.iload_n 2, 1) := by decide +kernel
theorem d_GL_insert_67 : decode prog_1_method_6_code 67 = .ok (.iload_n 3, 1) := by decide +kernel
theorem d_GL_insert_68 : decode prog_1_method_6_code 68 = .ok (.invokevirtual 111, 3) := by decide +kernel
theorem d_GL_insert_71 : decode prog_1_method_6_code 71 = .ok (.invokevirtual 96, 3) := by decide +kernel
theorem d_GL_insert_74 : decode prog_1_method_6_code 74 = .ok (.aload_n 0, 1) := by decide +kernel
theorem d_GL_insert_75 : decode prog_1_method_6_code 75 = .ok (.getfield 54, 3) := by decide +kernel
theorem d_GL_insert_78 : decode prog_1_method_6_code 78 = .ok (.aload_n 0, 1) := by decide +kernel
theorem d_GL_insert_79 : decode prog_1_method_6_code 79 = .ok (.getfield 40, 3) := by decide +kernel
theorem d_GL_insert_82 : decode prog_1_method_6_code 82 = .ok (.aload_n 0, 1) := by decide +kernel
theorem d_GL_insert_83 : decode prog_1_method_6_code 83 = .ok (.getfield 81, 3) := by decide +kernel
theorem d_GL_insert_86 : decode prog_1_method_6_code 86 = .ok (.aaload, 1) := by decide +kernel
theorem d_GL_insert_87 : decode prog_1_method_6_code 87 = .ok (.invokevirtual 99, 3) := by decide +kernel
theorem d_GL_insert_90 : decode prog_1_method_6_code 90 = .ok (.ireturn, 1) := by decide +kernel
theorem d_GL_insert_25 : decode prog_1_method_6_code 25 = .ok (.iload_n 3, 1) := by decide +kernel
theorem d_GL_insert_26 : decode prog_1_method_6_code 26 = .ok (.bipush 50, 2) := by decide +kernel
theorem d_GL_insert_28 : decode prog_1_method_6_code 28 = .ok (.if_icmp .gt 7, 3) := by decide +kernel
theorem d_GL_insert_31 : decode prog_1_method_6_code 31 = .ok (.iconst 1, 1) := by decide +kernel
theorem d_GL_insert_32 : decode prog_1_method_6_code 32 = .ok (.goto 4, 3) := by decide +kernel
theorem d_GL_insert_4 : decode prog_1_method_6_code 4 = .ok (.iload_n 2, 1) := by decide +kernel
theorem d_GL_insert_5 : decode prog_1_method_6_code 5 = .ok (.iload_n 1, 1) := by decide +kernel
theorem d_GL_insert_6 : decode prog_1_method_6_code 6 = .ok (.invokestatic 107, 3) := by decide +kernel
theorem d_GL_insert_9 : decode prog_1_method_6_code 9 = .ok (.if_icmp .ge 7, 3) := by decide +kernel
theorem d_GL_insert_12 : decode prog_1_method_6_code 12 = .ok (.iconst 1, 1) := by decide +kernel
theorem d_GL_insert_13 : decode prog_1_method_6_code 13 = .ok (.goto 4, 3) := by decide +kernel
set_option maxHeartbeats 4000000 in
theorem w_GL_insert_0 {l : Launch} {G : gG} {d : Nat} {X : gX} {M : gM} {k : Int → gM → Prop} {c : Nat} (hX : glX X c) {x1 : Int} (hx1 : 0 ≤ x1 ∧ x1 ≤ 1) {x2 : Int} (hx2 : g32 x2) {x3 : Int} (hx3 : g32 x3) {s4 : Nat} (hs4 : X.2.2 c 7 = s4 ∧ gsX X s4) (hring : ∀ i : Nat, i < 41 → gsX X (X.2.2 (c + 23) i)) (T : (x2 < 0 → (cV l G y_GL_need (gRm d) false [gI 0] X M (fun M1 => ((x3 < 1 → (cV l G y_GL_need (gRm d) false [gI 0] X M1 (fun M2 => (g32 (M2 c 8) → (((0 : Int) ≤ M2 c 8 ∧ M2 c 8 < 41) ∧ (cV l G y_Ed_open (gRm d) true [gR G (c + 21), gR G (X.2.2 (c + 23) (Int.toNat (M2 c 8))), gR G s4] X M2 (fun M5 => (cZ l G y_Ed_shifted (gRm d) true [gR G (c + 21), gI x1, gI 1, gI x2, gI x3] X M5 (fun v7 M6 => (cV l G y_GL_land (gRm d) true [gR G c, gI v7] X M6 (fun M9 => (g32 (M9 c 8) → (((0 : Int) ≤ M9 c 8 ∧ M9 c 8 < 41) ∧ (cI l G y_Rs_follow (gRm d) true [gR G (c + 234), gR G (X.2.2 (c + 23) (Int.toNat (M9 c 8)))] X M9 (fun v13 M12 => (k v13 M12)))))))))))))))) ∧ (¬ x3 < 1 → ((50 < x3 → (cV l G y_GL_need (gRm d) false [gI 0] X M1 (fun M15 => (g32 (M15 c 8) → (((0 : Int) ≤ M15 c 8 ∧ M15 c 8 < 41) ∧ (cV l G y_Ed_open (gRm d) true [gR G (c + 21), gR G (X.2.2 (c + 23) (Int.toNat (M15 c 8))), gR G s4] X M15 (fun M18 => (cZ l G y_Ed_shifted (gRm d) true [gR G (c + 21), gI x1, gI 1, gI x2, gI x3] X M18 (fun v20 M19 => (cV l G y_GL_land (gRm d) true [gR G c, gI v20] X M19 (fun M22 => (g32 (M22 c 8) → (((0 : Int) ≤ M22 c 8 ∧ M22 c 8 < 41) ∧ (cI l G y_Rs_follow (gRm d) true [gR G (c + 234), gR G (X.2.2 (c + 23) (Int.toNat (M22 c 8)))] X M22 (fun v26 M25 => (k v26 M25)))))))))))))))) ∧ (¬ 50 < x3 → (cV l G y_GL_need (gRm d) false [gI 1] X M1 (fun M28 => (g32 (M28 c 8) → (((0 : Int) ≤ M28 c 8 ∧ M28 c 8 < 41) ∧ (cV l G y_Ed_open (gRm d) true [gR G (c + 21), gR G (X.2.2 (c + 23) (Int.toNat (M28 c 8))), gR G s4] X M28 (fun M31 => (cZ l G y_Ed_shifted (gRm d) true [gR G (c + 21), gI x1, gI 1, gI x2, gI x3] X M31 (fun v33 M32 => (cV l G y_GL_land (gRm d) true [gR G c, gI v33] X M32 (fun M35 => (g32 (M35 c 8) → (((0 : Int) ≤ M35 c 8 ∧ M35 c 8 < 41) ∧ (cI l G y_Rs_follow (gRm d) true [gR G (c + 234), gR G (X.2.2 (c + 23) (Int.toNat (M35 c 8)))] X M35 (fun v39 M38 => (k v39 M38)))))))))))))))))))))) ∧ (¬ x2 < 0 → (cI l G y_GL_lines (gRm d) false [gI x1] X M (fun v44 M43 => ((v44 ≤ x2 → (cV l G y_GL_need (gRm d) false [gI 0] X M43 (fun M46 => ((x3 < 1 → (cV l G y_GL_need (gRm d) false [gI 0] X M46 (fun M47 => (g32 (M47 c 8) → (((0 : Int) ≤ M47 c 8 ∧ M47 c 8 < 41) ∧ (cV l G y_Ed_open (gRm d) true [gR G (c + 21), gR G (X.2.2 (c + 23) (Int.toNat (M47 c 8))), gR G s4] X M47 (fun M50 => (cZ l G y_Ed_shifted (gRm d) true [gR G (c + 21), gI x1, gI 1, gI x2, gI x3] X M50 (fun v52 M51 => (cV l G y_GL_land (gRm d) true [gR G c, gI v52] X M51 (fun M54 => (g32 (M54 c 8) → (((0 : Int) ≤ M54 c 8 ∧ M54 c 8 < 41) ∧ (cI l G y_Rs_follow (gRm d) true [gR G (c + 234), gR G (X.2.2 (c + 23) (Int.toNat (M54 c 8)))] X M54 (fun v58 M57 => (k v58 M57)))))))))))))))) ∧ (¬ x3 < 1 → ((50 < x3 → (cV l G y_GL_need (gRm d) false [gI 0] X M46 (fun M60 => (g32 (M60 c 8) → (((0 : Int) ≤ M60 c 8 ∧ M60 c 8 < 41) ∧ (cV l G y_Ed_open (gRm d) true [gR G (c + 21), gR G (X.2.2 (c + 23) (Int.toNat (M60 c 8))), gR G s4] X M60 (fun M63 => (cZ l G y_Ed_shifted (gRm d) true [gR G (c + 21), gI x1, gI 1, gI x2, gI x3] X M63 (fun v65 M64 => (cV l G y_GL_land (gRm d) true [gR G c, gI v65] X M64 (fun M67 => (g32 (M67 c 8) → (((0 : Int) ≤ M67 c 8 ∧ M67 c 8 < 41) ∧ (cI l G y_Rs_follow (gRm d) true [gR G (c + 234), gR G (X.2.2 (c + 23) (Int.toNat (M67 c 8)))] X M67 (fun v71 M70 => (k v71 M70)))))))))))))))) ∧ (¬ 50 < x3 → (cV l G y_GL_need (gRm d) false [gI 1] X M46 (fun M73 => (g32 (M73 c 8) → (((0 : Int) ≤ M73 c 8 ∧ M73 c 8 < 41) ∧ (cV l G y_Ed_open (gRm d) true [gR G (c + 21), gR G (X.2.2 (c + 23) (Int.toNat (M73 c 8))), gR G s4] X M73 (fun M76 => (cZ l G y_Ed_shifted (gRm d) true [gR G (c + 21), gI x1, gI 1, gI x2, gI x3] X M76 (fun v78 M77 => (cV l G y_GL_land (gRm d) true [gR G c, gI v78] X M77 (fun M80 => (g32 (M80 c 8) → (((0 : Int) ≤ M80 c 8 ∧ M80 c 8 < 41) ∧ (cI l G y_Rs_follow (gRm d) true [gR G (c + 234), gR G (X.2.2 (c + 23) (Int.toNat (M80 c 8)))] X M80 (fun v84 M83 => (k v84 M83)))))))))))))))))))))) ∧ (¬ v44 ≤ x2 → (cV l G y_GL_need (gRm d) false [gI 1] X M43 (fun M88 => ((x3 < 1 → (cV l G y_GL_need (gRm d) false [gI 0] X M88 (fun M89 => (g32 (M89 c 8) → (((0 : Int) ≤ M89 c 8 ∧ M89 c 8 < 41) ∧ (cV l G y_Ed_open (gRm d) true [gR G (c + 21), gR G (X.2.2 (c + 23) (Int.toNat (M89 c 8))), gR G s4] X M89 (fun M92 => (cZ l G y_Ed_shifted (gRm d) true [gR G (c + 21), gI x1, gI 1, gI x2, gI x3] X M92 (fun v94 M93 => (cV l G y_GL_land (gRm d) true [gR G c, gI v94] X M93 (fun M96 => (g32 (M96 c 8) → (((0 : Int) ≤ M96 c 8 ∧ M96 c 8 < 41) ∧ (cI l G y_Rs_follow (gRm d) true [gR G (c + 234), gR G (X.2.2 (c + 23) (Int.toNat (M96 c 8)))] X M96 (fun v100 M99 => (k v100 M99)))))))))))))))) ∧ (¬ x3 < 1 → ((50 < x3 → (cV l G y_GL_need (gRm d) false [gI 0] X M88 (fun M102 => (g32 (M102 c 8) → (((0 : Int) ≤ M102 c 8 ∧ M102 c 8 < 41) ∧ (cV l G y_Ed_open (gRm d) true [gR G (c + 21), gR G (X.2.2 (c + 23) (Int.toNat (M102 c 8))), gR G s4] X M102 (fun M105 => (cZ l G y_Ed_shifted (gRm d) true [gR G (c + 21), gI x1, gI 1, gI x2, gI x3] X M105 (fun v107 M106 => (cV l G y_GL_land (gRm d) true [gR G c, gI v107] X M106 (fun M109 => (g32 (M109 c 8) → (((0 : Int) ≤ M109 c 8 ∧ M109 c 8 < 41) ∧ (cI l G y_Rs_follow (gRm d) true [gR G (c + 234), gR G (X.2.2 (c + 23) (Int.toNat (M109 c 8)))] X M109 (fun v113 M112 => (k v113 M112)))))))))))))))) ∧ (¬ 50 < x3 → (cV l G y_GL_need (gRm d) false [gI 1] X M88 (fun M115 => (g32 (M115 c 8) → (((0 : Int) ≤ M115 c 8 ∧ M115 c 8 < 41) ∧ (cV l G y_Ed_open (gRm d) true [gR G (c + 21), gR G (X.2.2 (c + 23) (Int.toNat (M115 c 8))), gR G s4] X M115 (fun M118 => (cZ l G y_Ed_shifted (gRm d) true [gR G (c + 21), gI x1, gI 1, gI x2, gI x3] X M118 (fun v120 M119 => (cV l G y_GL_land (gRm d) true [gR G c, gI v120] X M119 (fun M122 => (g32 (M122 c 8) → (((0 : Int) ≤ M122 c 8 ∧ M122 c 8 < 41) ∧ (cI l G y_Rs_follow (gRm d) true [gR G (c + 234), gR G (X.2.2 (c + 23) (Int.toNat (M122 c 8)))] X M122 (fun v126 M125 => (k v126 M125))))))))))))))))))))))))))) : wp l G y_GL_insert (gRm (d + 1)) true (kkI X k) false 0 [.val (gR G c), .val (gI x1), .val (gI x2), .val (gI x3)] [] X M 0 0 := by
  refine wp_iload_n d_GL_insert_0 rfl rfl ?_
  refine xz_lt (tgt := 16) d_GL_insert_1 (by decide) (w32_id hx2) (fun h131 => ?_) (fun h131 => ?_)
  · have T := T.1 h131
    refine wp_iconst d_GL_insert_16 ?_
    refine xcS_V (md' := false) (As := [gI 0]) (st := []) d_GL_insert_17 ca_GL_need ml_GL_69 sm_GL_need rfl (by decide) (by decide) rfl id id T (fun M1 T => ?_)
    refine wp_iload_n d_GL_insert_20 rfl rfl ?_
    refine wp_iconst d_GL_insert_21 ?_
    refine xi_lt (tgt := 35) d_GL_insert_22 (by decide) (w32_id hx3) (w32_id (g32_c (x := 1) rfl)) (fun h42 => ?_) (fun h42 => ?_)
    · have T := T.1 h42
      refine wp_iconst d_GL_insert_35 ?_
      refine xcS_V (md' := false) (As := [gI 0]) (st := []) d_GL_insert_36 ca_GL_need ml_GL_69 sm_GL_need rfl (by decide) (by decide) rfl id id T (fun M2 T => ?_)
      refine wp_aload_n d_GL_insert_39 rfl rfl (g_nz (gl_1 hX 0)) ?_
      refine xgetR d_GL_insert_40 gc_GL f_GL_34.1 f_GL_34.2.1 f_GL_34.2.2.1 (gl_1 hX 0) (gl_2 hX (a := 0) (by decide)) (gl_s0 hX) f_GL_34.2.2.2.2.1 (gl_f0 hX 23 rfl) ?_
      refine wp_aload_n d_GL_insert_43 rfl rfl (g_nz (gl_1 hX 0)) ?_
      refine xgetR d_GL_insert_44 gc_GL f_GL_40.1 f_GL_40.2.1 f_GL_40.2.2.1 (gl_1 hX 0) (gl_2 hX (a := 0) (by decide)) (gl_s0 hX) f_GL_40.2.2.2.2.1 (gl_f0 hX 26 rfl) ?_
      refine wp_aload_n d_GL_insert_47 rfl rfl (g_nz (gl_1 hX 0)) ?_
      refine xgetI d_GL_insert_48 gc_GL f_GL_81.1 f_GL_81.2.1 f_GL_81.2.2.1 (gl_1 hX 0) (gl_2 hX (a := 0) (by decide)) (gl_s0 hX) f_GL_81.2.2.2.2.1 (fun h3 => ?_)
      have T := T h3
      have h4 := T.1
      refine xaald d_GL_insert_51 (Or.inr rfl) (gl_1 hX 23) (gl_2 hX (a := 23) (by decide)) (gl_s hX 23 rfl) (g32_n h4 (by decide)) h4.1 h4.2 rfl ?_
      have T := T.2
      refine wp_aload_n d_GL_insert_52 rfl rfl (g_nz (gl_1 hX 0)) ?_
      refine xgetR d_GL_insert_53 gc_GL f_GL_45.1 f_GL_45.2.1 f_GL_45.2.2.1 (gl_1 hX 0) (gl_2 hX (a := 0) (by decide)) (gl_s0 hX) f_GL_45.2.2.2.2.1 hs4.1 ?_
      refine xcV_V (md' := true) (As := [gR G (X.2.2 (c + 23) (Int.toNat (M2 c 8))), gR G s4]) (st := []) d_GL_insert_56 ca_Ed_open ml_GL_84 im_Ed_open se_Ed_open gc_Ed (gl_1 hX 21) (gl_2 hX (a := 21) (by decide)) (gl_s hX 21 rfl) rfl (by decide) (by decide) rfl (fun _ => rfl) (fun _ => rfl) T (fun M5 T => ?_)
      refine wp_aload_n d_GL_insert_59 rfl rfl (g_nz (gl_1 hX 0)) ?_
      refine wp_aload_n d_GL_insert_60 rfl rfl (g_nz (gl_1 hX 0)) ?_
      refine xgetR d_GL_insert_61 gc_GL f_GL_34.1 f_GL_34.2.1 f_GL_34.2.2.1 (gl_1 hX 0) (gl_2 hX (a := 0) (by decide)) (gl_s0 hX) f_GL_34.2.2.2.2.1 (gl_f0 hX 23 rfl) ?_
      refine wp_iload_n d_GL_insert_64 rfl rfl ?_
      refine wp_iconst d_GL_insert_65 ?_
      refine wp_iload_n d_GL_insert_66 rfl rfl ?_
      refine wp_iload_n d_GL_insert_67 rfl rfl ?_
      refine xcV_Z (md' := true) (As := [gI x1, gI 1, gI x2, gI x3]) (st := [gR G c]) d_GL_insert_68 ca_Ed_shifted ml_GL_111 im_Ed_shifted se_Ed_shifted gc_Ed (gl_1 hX 21) (gl_2 hX (a := 21) (by decide)) (gl_s hX 21 rfl) rfl (by decide) (by simp only [List.map, gR_cat, gI_cat, gL_cat, List.sum_cons, List.sum_nil]; decide) rfl (fun _ => rfl) (fun _ => rfl) T (fun v7 M6 h8 T => ?_)
      refine xcV_V (md' := true) (As := [gI v7]) (st := []) d_GL_insert_71 ca_GL_land ml_GL_96 im_GL_land se_GL_land gc_GL (gl_1 hX 0) (gl_2 hX (a := 0) (by decide)) (gl_s0 hX) rfl (by decide) (by decide) rfl (fun _ => rfl) (fun _ => rfl) T (fun M9 T => ?_)
      refine wp_aload_n d_GL_insert_74 rfl rfl (g_nz (gl_1 hX 0)) ?_
      refine xgetR d_GL_insert_75 gc_GL f_GL_54.1 f_GL_54.2.1 f_GL_54.2.2.1 (gl_1 hX 0) (gl_2 hX (a := 0) (by decide)) (gl_s0 hX) f_GL_54.2.2.2.2.1 (gl_f0 hX 27 rfl) ?_
      refine wp_aload_n d_GL_insert_78 rfl rfl (g_nz (gl_1 hX 0)) ?_
      refine xgetR d_GL_insert_79 gc_GL f_GL_40.1 f_GL_40.2.1 f_GL_40.2.2.1 (gl_1 hX 0) (gl_2 hX (a := 0) (by decide)) (gl_s0 hX) f_GL_40.2.2.2.2.1 (gl_f0 hX 26 rfl) ?_
      refine wp_aload_n d_GL_insert_82 rfl rfl (g_nz (gl_1 hX 0)) ?_
      refine xgetI d_GL_insert_83 gc_GL f_GL_81.1 f_GL_81.2.1 f_GL_81.2.2.1 (gl_1 hX 0) (gl_2 hX (a := 0) (by decide)) (gl_s0 hX) f_GL_81.2.2.2.2.1 (fun h10 => ?_)
      have T := T h10
      have h11 := T.1
      refine xaald d_GL_insert_86 (Or.inr rfl) (gl_1 hX 23) (gl_2 hX (a := 23) (by decide)) (gl_s hX 23 rfl) (g32_n h11 (by decide)) h11.1 h11.2 rfl ?_
      have T := T.2
      refine xcV_I (md' := true) (As := [gR G (X.2.2 (c + 23) (Int.toNat (M9 c 8)))]) (st := []) d_GL_insert_87 ca_Rs_follow ml_GL_99 im_Rs_follow se_Rs_follow gc_Rs (gl_1 hX 234) (gl_2 hX (a := 234) (by decide)) (gl_s hX 24 rfl) rfl (by decide) (by decide) rfl (fun _ => rfl) (fun _ => rfl) T (fun v13 M12 h14 T => ?_)
      exact wp_ireturn d_GL_insert_90 rfl (fun _ => rfl) (Nat.zero_le _) (Nat.zero_le _) (kI_mk h14 T)
    · have T := T.2 h42
      refine wp_iload_n d_GL_insert_25 rfl rfl ?_
      refine wp_bipush d_GL_insert_26 ⟨by decide, by decide⟩ ?_
      refine xi_gt (tgt := 35) d_GL_insert_28 (by decide) (w32_id hx3) (w32_id (g32_c (x := 50) rfl)) (fun h41 => ?_) (fun h41 => ?_)
      · have T := T.1 h41
        refine wp_iconst d_GL_insert_35 ?_
        refine xcS_V (md' := false) (As := [gI 0]) (st := []) d_GL_insert_36 ca_GL_need ml_GL_69 sm_GL_need rfl (by decide) (by decide) rfl id id T (fun M15 T => ?_)
        refine wp_aload_n d_GL_insert_39 rfl rfl (g_nz (gl_1 hX 0)) ?_
        refine xgetR d_GL_insert_40 gc_GL f_GL_34.1 f_GL_34.2.1 f_GL_34.2.2.1 (gl_1 hX 0) (gl_2 hX (a := 0) (by decide)) (gl_s0 hX) f_GL_34.2.2.2.2.1 (gl_f0 hX 23 rfl) ?_
        refine wp_aload_n d_GL_insert_43 rfl rfl (g_nz (gl_1 hX 0)) ?_
        refine xgetR d_GL_insert_44 gc_GL f_GL_40.1 f_GL_40.2.1 f_GL_40.2.2.1 (gl_1 hX 0) (gl_2 hX (a := 0) (by decide)) (gl_s0 hX) f_GL_40.2.2.2.2.1 (gl_f0 hX 26 rfl) ?_
        refine wp_aload_n d_GL_insert_47 rfl rfl (g_nz (gl_1 hX 0)) ?_
        refine xgetI d_GL_insert_48 gc_GL f_GL_81.1 f_GL_81.2.1 f_GL_81.2.2.1 (gl_1 hX 0) (gl_2 hX (a := 0) (by decide)) (gl_s0 hX) f_GL_81.2.2.2.2.1 (fun h16 => ?_)
        have T := T h16
        have h17 := T.1
        refine xaald d_GL_insert_51 (Or.inr rfl) (gl_1 hX 23) (gl_2 hX (a := 23) (by decide)) (gl_s hX 23 rfl) (g32_n h17 (by decide)) h17.1 h17.2 rfl ?_
        have T := T.2
        refine wp_aload_n d_GL_insert_52 rfl rfl (g_nz (gl_1 hX 0)) ?_
        refine xgetR d_GL_insert_53 gc_GL f_GL_45.1 f_GL_45.2.1 f_GL_45.2.2.1 (gl_1 hX 0) (gl_2 hX (a := 0) (by decide)) (gl_s0 hX) f_GL_45.2.2.2.2.1 hs4.1 ?_
        refine xcV_V (md' := true) (As := [gR G (X.2.2 (c + 23) (Int.toNat (M15 c 8))), gR G s4]) (st := []) d_GL_insert_56 ca_Ed_open ml_GL_84 im_Ed_open se_Ed_open gc_Ed (gl_1 hX 21) (gl_2 hX (a := 21) (by decide)) (gl_s hX 21 rfl) rfl (by decide) (by decide) rfl (fun _ => rfl) (fun _ => rfl) T (fun M18 T => ?_)
        refine wp_aload_n d_GL_insert_59 rfl rfl (g_nz (gl_1 hX 0)) ?_
        refine wp_aload_n d_GL_insert_60 rfl rfl (g_nz (gl_1 hX 0)) ?_
        refine xgetR d_GL_insert_61 gc_GL f_GL_34.1 f_GL_34.2.1 f_GL_34.2.2.1 (gl_1 hX 0) (gl_2 hX (a := 0) (by decide)) (gl_s0 hX) f_GL_34.2.2.2.2.1 (gl_f0 hX 23 rfl) ?_
        refine wp_iload_n d_GL_insert_64 rfl rfl ?_
        refine wp_iconst d_GL_insert_65 ?_
        refine wp_iload_n d_GL_insert_66 rfl rfl ?_
        refine wp_iload_n d_GL_insert_67 rfl rfl ?_
        refine xcV_Z (md' := true) (As := [gI x1, gI 1, gI x2, gI x3]) (st := [gR G c]) d_GL_insert_68 ca_Ed_shifted ml_GL_111 im_Ed_shifted se_Ed_shifted gc_Ed (gl_1 hX 21) (gl_2 hX (a := 21) (by decide)) (gl_s hX 21 rfl) rfl (by decide) (by simp only [List.map, gR_cat, gI_cat, gL_cat, List.sum_cons, List.sum_nil]; decide) rfl (fun _ => rfl) (fun _ => rfl) T (fun v20 M19 h21 T => ?_)
        refine xcV_V (md' := true) (As := [gI v20]) (st := []) d_GL_insert_71 ca_GL_land ml_GL_96 im_GL_land se_GL_land gc_GL (gl_1 hX 0) (gl_2 hX (a := 0) (by decide)) (gl_s0 hX) rfl (by decide) (by decide) rfl (fun _ => rfl) (fun _ => rfl) T (fun M22 T => ?_)
        refine wp_aload_n d_GL_insert_74 rfl rfl (g_nz (gl_1 hX 0)) ?_
        refine xgetR d_GL_insert_75 gc_GL f_GL_54.1 f_GL_54.2.1 f_GL_54.2.2.1 (gl_1 hX 0) (gl_2 hX (a := 0) (by decide)) (gl_s0 hX) f_GL_54.2.2.2.2.1 (gl_f0 hX 27 rfl) ?_
        refine wp_aload_n d_GL_insert_78 rfl rfl (g_nz (gl_1 hX 0)) ?_
        refine xgetR d_GL_insert_79 gc_GL f_GL_40.1 f_GL_40.2.1 f_GL_40.2.2.1 (gl_1 hX 0) (gl_2 hX (a := 0) (by decide)) (gl_s0 hX) f_GL_40.2.2.2.2.1 (gl_f0 hX 26 rfl) ?_
        refine wp_aload_n d_GL_insert_82 rfl rfl (g_nz (gl_1 hX 0)) ?_
        refine xgetI d_GL_insert_83 gc_GL f_GL_81.1 f_GL_81.2.1 f_GL_81.2.2.1 (gl_1 hX 0) (gl_2 hX (a := 0) (by decide)) (gl_s0 hX) f_GL_81.2.2.2.2.1 (fun h23 => ?_)
        have T := T h23
        have h24 := T.1
        refine xaald d_GL_insert_86 (Or.inr rfl) (gl_1 hX 23) (gl_2 hX (a := 23) (by decide)) (gl_s hX 23 rfl) (g32_n h24 (by decide)) h24.1 h24.2 rfl ?_
        have T := T.2
        refine xcV_I (md' := true) (As := [gR G (X.2.2 (c + 23) (Int.toNat (M22 c 8)))]) (st := []) d_GL_insert_87 ca_Rs_follow ml_GL_99 im_Rs_follow se_Rs_follow gc_Rs (gl_1 hX 234) (gl_2 hX (a := 234) (by decide)) (gl_s hX 24 rfl) rfl (by decide) (by decide) rfl (fun _ => rfl) (fun _ => rfl) T (fun v26 M25 h27 T => ?_)
        exact wp_ireturn d_GL_insert_90 rfl (fun _ => rfl) (Nat.zero_le _) (Nat.zero_le _) (kI_mk h27 T)
      · have T := T.2 h41
        refine wp_iconst d_GL_insert_31 ?_
        refine wp_goto (tgt := 36) d_GL_insert_32 (by decide) ?_
        refine xcS_V (md' := false) (As := [gI 1]) (st := []) d_GL_insert_36 ca_GL_need ml_GL_69 sm_GL_need rfl (by decide) (by decide) rfl id id T (fun M28 T => ?_)
        refine wp_aload_n d_GL_insert_39 rfl rfl (g_nz (gl_1 hX 0)) ?_
        refine xgetR d_GL_insert_40 gc_GL f_GL_34.1 f_GL_34.2.1 f_GL_34.2.2.1 (gl_1 hX 0) (gl_2 hX (a := 0) (by decide)) (gl_s0 hX) f_GL_34.2.2.2.2.1 (gl_f0 hX 23 rfl) ?_
        refine wp_aload_n d_GL_insert_43 rfl rfl (g_nz (gl_1 hX 0)) ?_
        refine xgetR d_GL_insert_44 gc_GL f_GL_40.1 f_GL_40.2.1 f_GL_40.2.2.1 (gl_1 hX 0) (gl_2 hX (a := 0) (by decide)) (gl_s0 hX) f_GL_40.2.2.2.2.1 (gl_f0 hX 26 rfl) ?_
        refine wp_aload_n d_GL_insert_47 rfl rfl (g_nz (gl_1 hX 0)) ?_
        refine xgetI d_GL_insert_48 gc_GL f_GL_81.1 f_GL_81.2.1 f_GL_81.2.2.1 (gl_1 hX 0) (gl_2 hX (a := 0) (by decide)) (gl_s0 hX) f_GL_81.2.2.2.2.1 (fun h29 => ?_)
        have T := T h29
        have h30 := T.1
        refine xaald d_GL_insert_51 (Or.inr rfl) (gl_1 hX 23) (gl_2 hX (a := 23) (by decide)) (gl_s hX 23 rfl) (g32_n h30 (by decide)) h30.1 h30.2 rfl ?_
        have T := T.2
        refine wp_aload_n d_GL_insert_52 rfl rfl (g_nz (gl_1 hX 0)) ?_
        refine xgetR d_GL_insert_53 gc_GL f_GL_45.1 f_GL_45.2.1 f_GL_45.2.2.1 (gl_1 hX 0) (gl_2 hX (a := 0) (by decide)) (gl_s0 hX) f_GL_45.2.2.2.2.1 hs4.1 ?_
        refine xcV_V (md' := true) (As := [gR G (X.2.2 (c + 23) (Int.toNat (M28 c 8))), gR G s4]) (st := []) d_GL_insert_56 ca_Ed_open ml_GL_84 im_Ed_open se_Ed_open gc_Ed (gl_1 hX 21) (gl_2 hX (a := 21) (by decide)) (gl_s hX 21 rfl) rfl (by decide) (by decide) rfl (fun _ => rfl) (fun _ => rfl) T (fun M31 T => ?_)
        refine wp_aload_n d_GL_insert_59 rfl rfl (g_nz (gl_1 hX 0)) ?_
        refine wp_aload_n d_GL_insert_60 rfl rfl (g_nz (gl_1 hX 0)) ?_
        refine xgetR d_GL_insert_61 gc_GL f_GL_34.1 f_GL_34.2.1 f_GL_34.2.2.1 (gl_1 hX 0) (gl_2 hX (a := 0) (by decide)) (gl_s0 hX) f_GL_34.2.2.2.2.1 (gl_f0 hX 23 rfl) ?_
        refine wp_iload_n d_GL_insert_64 rfl rfl ?_
        refine wp_iconst d_GL_insert_65 ?_
        refine wp_iload_n d_GL_insert_66 rfl rfl ?_
        refine wp_iload_n d_GL_insert_67 rfl rfl ?_
        refine xcV_Z (md' := true) (As := [gI x1, gI 1, gI x2, gI x3]) (st := [gR G c]) d_GL_insert_68 ca_Ed_shifted ml_GL_111 im_Ed_shifted se_Ed_shifted gc_Ed (gl_1 hX 21) (gl_2 hX (a := 21) (by decide)) (gl_s hX 21 rfl) rfl (by decide) (by simp only [List.map, gR_cat, gI_cat, gL_cat, List.sum_cons, List.sum_nil]; decide) rfl (fun _ => rfl) (fun _ => rfl) T (fun v33 M32 h34 T => ?_)
        refine xcV_V (md' := true) (As := [gI v33]) (st := []) d_GL_insert_71 ca_GL_land ml_GL_96 im_GL_land se_GL_land gc_GL (gl_1 hX 0) (gl_2 hX (a := 0) (by decide)) (gl_s0 hX) rfl (by decide) (by decide) rfl (fun _ => rfl) (fun _ => rfl) T (fun M35 T => ?_)
        refine wp_aload_n d_GL_insert_74 rfl rfl (g_nz (gl_1 hX 0)) ?_
        refine xgetR d_GL_insert_75 gc_GL f_GL_54.1 f_GL_54.2.1 f_GL_54.2.2.1 (gl_1 hX 0) (gl_2 hX (a := 0) (by decide)) (gl_s0 hX) f_GL_54.2.2.2.2.1 (gl_f0 hX 27 rfl) ?_
        refine wp_aload_n d_GL_insert_78 rfl rfl (g_nz (gl_1 hX 0)) ?_
        refine xgetR d_GL_insert_79 gc_GL f_GL_40.1 f_GL_40.2.1 f_GL_40.2.2.1 (gl_1 hX 0) (gl_2 hX (a := 0) (by decide)) (gl_s0 hX) f_GL_40.2.2.2.2.1 (gl_f0 hX 26 rfl) ?_
        refine wp_aload_n d_GL_insert_82 rfl rfl (g_nz (gl_1 hX 0)) ?_
        refine xgetI d_GL_insert_83 gc_GL f_GL_81.1 f_GL_81.2.1 f_GL_81.2.2.1 (gl_1 hX 0) (gl_2 hX (a := 0) (by decide)) (gl_s0 hX) f_GL_81.2.2.2.2.1 (fun h36 => ?_)
        have T := T h36
        have h37 := T.1
        refine xaald d_GL_insert_86 (Or.inr rfl) (gl_1 hX 23) (gl_2 hX (a := 23) (by decide)) (gl_s hX 23 rfl) (g32_n h37 (by decide)) h37.1 h37.2 rfl ?_
        have T := T.2
        refine xcV_I (md' := true) (As := [gR G (X.2.2 (c + 23) (Int.toNat (M35 c 8)))]) (st := []) d_GL_insert_87 ca_Rs_follow ml_GL_99 im_Rs_follow se_Rs_follow gc_Rs (gl_1 hX 234) (gl_2 hX (a := 234) (by decide)) (gl_s hX 24 rfl) rfl (by decide) (by decide) rfl (fun _ => rfl) (fun _ => rfl) T (fun v39 M38 h40 T => ?_)
        exact wp_ireturn d_GL_insert_90 rfl (fun _ => rfl) (Nat.zero_le _) (Nat.zero_le _) (kI_mk h40 T)
  · have T := T.2 h131
    refine wp_iload_n d_GL_insert_4 rfl rfl ?_
    refine wp_iload_n d_GL_insert_5 rfl rfl ?_
    refine xcS_I (md' := false) (As := [gI x1]) (st := [gI x2]) d_GL_insert_6 ca_GL_lines ml_GL_107 sm_GL_lines rfl (by decide) (by simp only [List.map, gR_cat, gI_cat, gL_cat, List.sum_cons, List.sum_nil]; decide) rfl id id T (fun v44 M43 h45 T => ?_)
    refine xi_ge (tgt := 16) d_GL_insert_9 (by decide) (w32_id hx2) (w32_id h45) (fun h130 => ?_) (fun h130 => ?_)
    · have T := T.1 h130
      refine wp_iconst d_GL_insert_16 ?_
      refine xcS_V (md' := false) (As := [gI 0]) (st := []) d_GL_insert_17 ca_GL_need ml_GL_69 sm_GL_need rfl (by decide) (by decide) rfl id id T (fun M46 T => ?_)
      refine wp_iload_n d_GL_insert_20 rfl rfl ?_
      refine wp_iconst d_GL_insert_21 ?_
      refine xi_lt (tgt := 35) d_GL_insert_22 (by decide) (w32_id hx3) (w32_id (g32_c (x := 1) rfl)) (fun h87 => ?_) (fun h87 => ?_)
      · have T := T.1 h87
        refine wp_iconst d_GL_insert_35 ?_
        refine xcS_V (md' := false) (As := [gI 0]) (st := []) d_GL_insert_36 ca_GL_need ml_GL_69 sm_GL_need rfl (by decide) (by decide) rfl id id T (fun M47 T => ?_)
        refine wp_aload_n d_GL_insert_39 rfl rfl (g_nz (gl_1 hX 0)) ?_
        refine xgetR d_GL_insert_40 gc_GL f_GL_34.1 f_GL_34.2.1 f_GL_34.2.2.1 (gl_1 hX 0) (gl_2 hX (a := 0) (by decide)) (gl_s0 hX) f_GL_34.2.2.2.2.1 (gl_f0 hX 23 rfl) ?_
        refine wp_aload_n d_GL_insert_43 rfl rfl (g_nz (gl_1 hX 0)) ?_
        refine xgetR d_GL_insert_44 gc_GL f_GL_40.1 f_GL_40.2.1 f_GL_40.2.2.1 (gl_1 hX 0) (gl_2 hX (a := 0) (by decide)) (gl_s0 hX) f_GL_40.2.2.2.2.1 (gl_f0 hX 26 rfl) ?_
        refine wp_aload_n d_GL_insert_47 rfl rfl (g_nz (gl_1 hX 0)) ?_
        refine xgetI d_GL_insert_48 gc_GL f_GL_81.1 f_GL_81.2.1 f_GL_81.2.2.1 (gl_1 hX 0) (gl_2 hX (a := 0) (by decide)) (gl_s0 hX) f_GL_81.2.2.2.2.1 (fun h48 => ?_)
        have T := T h48
        have h49 := T.1
        refine xaald d_GL_insert_51 (Or.inr rfl) (gl_1 hX 23) (gl_2 hX (a := 23) (by decide)) (gl_s hX 23 rfl) (g32_n h49 (by decide)) h49.1 h49.2 rfl ?_
        have T := T.2
        refine wp_aload_n d_GL_insert_52 rfl rfl (g_nz (gl_1 hX 0)) ?_
        refine xgetR d_GL_insert_53 gc_GL f_GL_45.1 f_GL_45.2.1 f_GL_45.2.2.1 (gl_1 hX 0) (gl_2 hX (a := 0) (by decide)) (gl_s0 hX) f_GL_45.2.2.2.2.1 hs4.1 ?_
        refine xcV_V (md' := true) (As := [gR G (X.2.2 (c + 23) (Int.toNat (M47 c 8))), gR G s4]) (st := []) d_GL_insert_56 ca_Ed_open ml_GL_84 im_Ed_open se_Ed_open gc_Ed (gl_1 hX 21) (gl_2 hX (a := 21) (by decide)) (gl_s hX 21 rfl) rfl (by decide) (by decide) rfl (fun _ => rfl) (fun _ => rfl) T (fun M50 T => ?_)
        refine wp_aload_n d_GL_insert_59 rfl rfl (g_nz (gl_1 hX 0)) ?_
        refine wp_aload_n d_GL_insert_60 rfl rfl (g_nz (gl_1 hX 0)) ?_
        refine xgetR d_GL_insert_61 gc_GL f_GL_34.1 f_GL_34.2.1 f_GL_34.2.2.1 (gl_1 hX 0) (gl_2 hX (a := 0) (by decide)) (gl_s0 hX) f_GL_34.2.2.2.2.1 (gl_f0 hX 23 rfl) ?_
        refine wp_iload_n d_GL_insert_64 rfl rfl ?_
        refine wp_iconst d_GL_insert_65 ?_
        refine wp_iload_n d_GL_insert_66 rfl rfl ?_
        refine wp_iload_n d_GL_insert_67 rfl rfl ?_
        refine xcV_Z (md' := true) (As := [gI x1, gI 1, gI x2, gI x3]) (st := [gR G c]) d_GL_insert_68 ca_Ed_shifted ml_GL_111 im_Ed_shifted se_Ed_shifted gc_Ed (gl_1 hX 21) (gl_2 hX (a := 21) (by decide)) (gl_s hX 21 rfl) rfl (by decide) (by simp only [List.map, gR_cat, gI_cat, gL_cat, List.sum_cons, List.sum_nil]; decide) rfl (fun _ => rfl) (fun _ => rfl) T (fun v52 M51 h53 T => ?_)
        refine xcV_V (md' := true) (As := [gI v52]) (st := []) d_GL_insert_71 ca_GL_land ml_GL_96 im_GL_land se_GL_land gc_GL (gl_1 hX 0) (gl_2 hX (a := 0) (by decide)) (gl_s0 hX) rfl (by decide) (by decide) rfl (fun _ => rfl) (fun _ => rfl) T (fun M54 T => ?_)
        refine wp_aload_n d_GL_insert_74 rfl rfl (g_nz (gl_1 hX 0)) ?_
        refine xgetR d_GL_insert_75 gc_GL f_GL_54.1 f_GL_54.2.1 f_GL_54.2.2.1 (gl_1 hX 0) (gl_2 hX (a := 0) (by decide)) (gl_s0 hX) f_GL_54.2.2.2.2.1 (gl_f0 hX 27 rfl) ?_
        refine wp_aload_n d_GL_insert_78 rfl rfl (g_nz (gl_1 hX 0)) ?_
        refine xgetR d_GL_insert_79 gc_GL f_GL_40.1 f_GL_40.2.1 f_GL_40.2.2.1 (gl_1 hX 0) (gl_2 hX (a := 0) (by decide)) (gl_s0 hX) f_GL_40.2.2.2.2.1 (gl_f0 hX 26 rfl) ?_
        refine wp_aload_n d_GL_insert_82 rfl rfl (g_nz (gl_1 hX 0)) ?_
        refine xgetI d_GL_insert_83 gc_GL f_GL_81.1 f_GL_81.2.1 f_GL_81.2.2.1 (gl_1 hX 0) (gl_2 hX (a := 0) (by decide)) (gl_s0 hX) f_GL_81.2.2.2.2.1 (fun h55 => ?_)
        have T := T h55
        have h56 := T.1
        refine xaald d_GL_insert_86 (Or.inr rfl) (gl_1 hX 23) (gl_2 hX (a := 23) (by decide)) (gl_s hX 23 rfl) (g32_n h56 (by decide)) h56.1 h56.2 rfl ?_
        have T := T.2
        refine xcV_I (md' := true) (As := [gR G (X.2.2 (c + 23) (Int.toNat (M54 c 8)))]) (st := []) d_GL_insert_87 ca_Rs_follow ml_GL_99 im_Rs_follow se_Rs_follow gc_Rs (gl_1 hX 234) (gl_2 hX (a := 234) (by decide)) (gl_s hX 24 rfl) rfl (by decide) (by decide) rfl (fun _ => rfl) (fun _ => rfl) T (fun v58 M57 h59 T => ?_)
        exact wp_ireturn d_GL_insert_90 rfl (fun _ => rfl) (Nat.zero_le _) (Nat.zero_le _) (kI_mk h59 T)
      · have T := T.2 h87
        refine wp_iload_n d_GL_insert_25 rfl rfl ?_
        refine wp_bipush d_GL_insert_26 ⟨by decide, by decide⟩ ?_
        refine xi_gt (tgt := 35) d_GL_insert_28 (by decide) (w32_id hx3) (w32_id (g32_c (x := 50) rfl)) (fun h86 => ?_) (fun h86 => ?_)
        · have T := T.1 h86
          refine wp_iconst d_GL_insert_35 ?_
          refine xcS_V (md' := false) (As := [gI 0]) (st := []) d_GL_insert_36 ca_GL_need ml_GL_69 sm_GL_need rfl (by decide) (by decide) rfl id id T (fun M60 T => ?_)
          refine wp_aload_n d_GL_insert_39 rfl rfl (g_nz (gl_1 hX 0)) ?_
          refine xgetR d_GL_insert_40 gc_GL f_GL_34.1 f_GL_34.2.1 f_GL_34.2.2.1 (gl_1 hX 0) (gl_2 hX (a := 0) (by decide)) (gl_s0 hX) f_GL_34.2.2.2.2.1 (gl_f0 hX 23 rfl) ?_
          refine wp_aload_n d_GL_insert_43 rfl rfl (g_nz (gl_1 hX 0)) ?_
          refine xgetR d_GL_insert_44 gc_GL f_GL_40.1 f_GL_40.2.1 f_GL_40.2.2.1 (gl_1 hX 0) (gl_2 hX (a := 0) (by decide)) (gl_s0 hX) f_GL_40.2.2.2.2.1 (gl_f0 hX 26 rfl) ?_
          refine wp_aload_n d_GL_insert_47 rfl rfl (g_nz (gl_1 hX 0)) ?_
          refine xgetI d_GL_insert_48 gc_GL f_GL_81.1 f_GL_81.2.1 f_GL_81.2.2.1 (gl_1 hX 0) (gl_2 hX (a := 0) (by decide)) (gl_s0 hX) f_GL_81.2.2.2.2.1 (fun h61 => ?_)
          have T := T h61
          have h62 := T.1
          refine xaald d_GL_insert_51 (Or.inr rfl) (gl_1 hX 23) (gl_2 hX (a := 23) (by decide)) (gl_s hX 23 rfl) (g32_n h62 (by decide)) h62.1 h62.2 rfl ?_
          have T := T.2
          refine wp_aload_n d_GL_insert_52 rfl rfl (g_nz (gl_1 hX 0)) ?_
          refine xgetR d_GL_insert_53 gc_GL f_GL_45.1 f_GL_45.2.1 f_GL_45.2.2.1 (gl_1 hX 0) (gl_2 hX (a := 0) (by decide)) (gl_s0 hX) f_GL_45.2.2.2.2.1 hs4.1 ?_
          refine xcV_V (md' := true) (As := [gR G (X.2.2 (c + 23) (Int.toNat (M60 c 8))), gR G s4]) (st := []) d_GL_insert_56 ca_Ed_open ml_GL_84 im_Ed_open se_Ed_open gc_Ed (gl_1 hX 21) (gl_2 hX (a := 21) (by decide)) (gl_s hX 21 rfl) rfl (by decide) (by decide) rfl (fun _ => rfl) (fun _ => rfl) T (fun M63 T => ?_)
          refine wp_aload_n d_GL_insert_59 rfl rfl (g_nz (gl_1 hX 0)) ?_
          refine wp_aload_n d_GL_insert_60 rfl rfl (g_nz (gl_1 hX 0)) ?_
          refine xgetR d_GL_insert_61 gc_GL f_GL_34.1 f_GL_34.2.1 f_GL_34.2.2.1 (gl_1 hX 0) (gl_2 hX (a := 0) (by decide)) (gl_s0 hX) f_GL_34.2.2.2.2.1 (gl_f0 hX 23 rfl) ?_
          refine wp_iload_n d_GL_insert_64 rfl rfl ?_
          refine wp_iconst d_GL_insert_65 ?_
          refine wp_iload_n d_GL_insert_66 rfl rfl ?_
          refine wp_iload_n d_GL_insert_67 rfl rfl ?_
          refine xcV_Z (md' := true) (As := [gI x1, gI 1, gI x2, gI x3]) (st := [gR G c]) d_GL_insert_68 ca_Ed_shifted ml_GL_111 im_Ed_shifted se_Ed_shifted gc_Ed (gl_1 hX 21) (gl_2 hX (a := 21) (by decide)) (gl_s hX 21 rfl) rfl (by decide) (by simp only [List.map, gR_cat, gI_cat, gL_cat, List.sum_cons, List.sum_nil]; decide) rfl (fun _ => rfl) (fun _ => rfl) T (fun v65 M64 h66 T => ?_)
          refine xcV_V (md' := true) (As := [gI v65]) (st := []) d_GL_insert_71 ca_GL_land ml_GL_96 im_GL_land se_GL_land gc_GL (gl_1 hX 0) (gl_2 hX (a := 0) (by decide)) (gl_s0 hX) rfl (by decide) (by decide) rfl (fun _ => rfl) (fun _ => rfl) T (fun M67 T => ?_)
          refine wp_aload_n d_GL_insert_74 rfl rfl (g_nz (gl_1 hX 0)) ?_
          refine xgetR d_GL_insert_75 gc_GL f_GL_54.1 f_GL_54.2.1 f_GL_54.2.2.1 (gl_1 hX 0) (gl_2 hX (a := 0) (by decide)) (gl_s0 hX) f_GL_54.2.2.2.2.1 (gl_f0 hX 27 rfl) ?_
          refine wp_aload_n d_GL_insert_78 rfl rfl (g_nz (gl_1 hX 0)) ?_
          refine xgetR d_GL_insert_79 gc_GL f_GL_40.1 f_GL_40.2.1 f_GL_40.2.2.1 (gl_1 hX 0) (gl_2 hX (a := 0) (by decide)) (gl_s0 hX) f_GL_40.2.2.2.2.1 (gl_f0 hX 26 rfl) ?_
          refine wp_aload_n d_GL_insert_82 rfl rfl (g_nz (gl_1 hX 0)) ?_
          refine xgetI d_GL_insert_83 gc_GL f_GL_81.1 f_GL_81.2.1 f_GL_81.2.2.1 (gl_1 hX 0) (gl_2 hX (a := 0) (by decide)) (gl_s0 hX) f_GL_81.2.2.2.2.1 (fun h68 => ?_)
          have T := T h68
          have h69 := T.1
          refine xaald d_GL_insert_86 (Or.inr rfl) (gl_1 hX 23) (gl_2 hX (a := 23) (by decide)) (gl_s hX 23 rfl) (g32_n h69 (by decide)) h69.1 h69.2 rfl ?_
          have T := T.2
          refine xcV_I (md' := true) (As := [gR G (X.2.2 (c + 23) (Int.toNat (M67 c 8)))]) (st := []) d_GL_insert_87 ca_Rs_follow ml_GL_99 im_Rs_follow se_Rs_follow gc_Rs (gl_1 hX 234) (gl_2 hX (a := 234) (by decide)) (gl_s hX 24 rfl) rfl (by decide) (by decide) rfl (fun _ => rfl) (fun _ => rfl) T (fun v71 M70 h72 T => ?_)
          exact wp_ireturn d_GL_insert_90 rfl (fun _ => rfl) (Nat.zero_le _) (Nat.zero_le _) (kI_mk h72 T)
        · have T := T.2 h86
          refine wp_iconst d_GL_insert_31 ?_
          refine wp_goto (tgt := 36) d_GL_insert_32 (by decide) ?_
          refine xcS_V (md' := false) (As := [gI 1]) (st := []) d_GL_insert_36 ca_GL_need ml_GL_69 sm_GL_need rfl (by decide) (by decide) rfl id id T (fun M73 T => ?_)
          refine wp_aload_n d_GL_insert_39 rfl rfl (g_nz (gl_1 hX 0)) ?_
          refine xgetR d_GL_insert_40 gc_GL f_GL_34.1 f_GL_34.2.1 f_GL_34.2.2.1 (gl_1 hX 0) (gl_2 hX (a := 0) (by decide)) (gl_s0 hX) f_GL_34.2.2.2.2.1 (gl_f0 hX 23 rfl) ?_
          refine wp_aload_n d_GL_insert_43 rfl rfl (g_nz (gl_1 hX 0)) ?_
          refine xgetR d_GL_insert_44 gc_GL f_GL_40.1 f_GL_40.2.1 f_GL_40.2.2.1 (gl_1 hX 0) (gl_2 hX (a := 0) (by decide)) (gl_s0 hX) f_GL_40.2.2.2.2.1 (gl_f0 hX 26 rfl) ?_
          refine wp_aload_n d_GL_insert_47 rfl rfl (g_nz (gl_1 hX 0)) ?_
          refine xgetI d_GL_insert_48 gc_GL f_GL_81.1 f_GL_81.2.1 f_GL_81.2.2.1 (gl_1 hX 0) (gl_2 hX (a := 0) (by decide)) (gl_s0 hX) f_GL_81.2.2.2.2.1 (fun h74 => ?_)
          have T := T h74
          have h75 := T.1
          refine xaald d_GL_insert_51 (Or.inr rfl) (gl_1 hX 23) (gl_2 hX (a := 23) (by decide)) (gl_s hX 23 rfl) (g32_n h75 (by decide)) h75.1 h75.2 rfl ?_
          have T := T.2
          refine wp_aload_n d_GL_insert_52 rfl rfl (g_nz (gl_1 hX 0)) ?_
          refine xgetR d_GL_insert_53 gc_GL f_GL_45.1 f_GL_45.2.1 f_GL_45.2.2.1 (gl_1 hX 0) (gl_2 hX (a := 0) (by decide)) (gl_s0 hX) f_GL_45.2.2.2.2.1 hs4.1 ?_
          refine xcV_V (md' := true) (As := [gR G (X.2.2 (c + 23) (Int.toNat (M73 c 8))), gR G s4]) (st := []) d_GL_insert_56 ca_Ed_open ml_GL_84 im_Ed_open se_Ed_open gc_Ed (gl_1 hX 21) (gl_2 hX (a := 21) (by decide)) (gl_s hX 21 rfl) rfl (by decide) (by decide) rfl (fun _ => rfl) (fun _ => rfl) T (fun M76 T => ?_)
          refine wp_aload_n d_GL_insert_59 rfl rfl (g_nz (gl_1 hX 0)) ?_
          refine wp_aload_n d_GL_insert_60 rfl rfl (g_nz (gl_1 hX 0)) ?_
          refine xgetR d_GL_insert_61 gc_GL f_GL_34.1 f_GL_34.2.1 f_GL_34.2.2.1 (gl_1 hX 0) (gl_2 hX (a := 0) (by decide)) (gl_s0 hX) f_GL_34.2.2.2.2.1 (gl_f0 hX 23 rfl) ?_
          refine wp_iload_n d_GL_insert_64 rfl rfl ?_
          refine wp_iconst d_GL_insert_65 ?_
          refine wp_iload_n d_GL_insert_66 rfl rfl ?_
          refine wp_iload_n d_GL_insert_67 rfl rfl ?_
          refine xcV_Z (md' := true) (As := [gI x1, gI 1, gI x2, gI x3]) (st := [gR G c]) d_GL_insert_68 ca_Ed_shifted ml_GL_111 im_Ed_shifted se_Ed_shifted gc_Ed (gl_1 hX 21) (gl_2 hX (a := 21) (by decide)) (gl_s hX 21 rfl) rfl (by decide) (by simp only [List.map, gR_cat, gI_cat, gL_cat, List.sum_cons, List.sum_nil]; decide) rfl (fun _ => rfl) (fun _ => rfl) T (fun v78 M77 h79 T => ?_)
          refine xcV_V (md' := true) (As := [gI v78]) (st := []) d_GL_insert_71 ca_GL_land ml_GL_96 im_GL_land se_GL_land gc_GL (gl_1 hX 0) (gl_2 hX (a := 0) (by decide)) (gl_s0 hX) rfl (by decide) (by decide) rfl (fun _ => rfl) (fun _ => rfl) T (fun M80 T => ?_)
          refine wp_aload_n d_GL_insert_74 rfl rfl (g_nz (gl_1 hX 0)) ?_
          refine xgetR d_GL_insert_75 gc_GL f_GL_54.1 f_GL_54.2.1 f_GL_54.2.2.1 (gl_1 hX 0) (gl_2 hX (a := 0) (by decide)) (gl_s0 hX) f_GL_54.2.2.2.2.1 (gl_f0 hX 27 rfl) ?_
          refine wp_aload_n d_GL_insert_78 rfl rfl (g_nz (gl_1 hX 0)) ?_
          refine xgetR d_GL_insert_79 gc_GL f_GL_40.1 f_GL_40.2.1 f_GL_40.2.2.1 (gl_1 hX 0) (gl_2 hX (a := 0) (by decide)) (gl_s0 hX) f_GL_40.2.2.2.2.1 (gl_f0 hX 26 rfl) ?_
          refine wp_aload_n d_GL_insert_82 rfl rfl (g_nz (gl_1 hX 0)) ?_
          refine xgetI d_GL_insert_83 gc_GL f_GL_81.1 f_GL_81.2.1 f_GL_81.2.2.1 (gl_1 hX 0) (gl_2 hX (a := 0) (by decide)) (gl_s0 hX) f_GL_81.2.2.2.2.1 (fun h81 => ?_)
          have T := T h81
          have h82 := T.1
          refine xaald d_GL_insert_86 (Or.inr rfl) (gl_1 hX 23) (gl_2 hX (a := 23) (by decide)) (gl_s hX 23 rfl) (g32_n h82 (by decide)) h82.1 h82.2 rfl ?_
          have T := T.2
          refine xcV_I (md' := true) (As := [gR G (X.2.2 (c + 23) (Int.toNat (M80 c 8)))]) (st := []) d_GL_insert_87 ca_Rs_follow ml_GL_99 im_Rs_follow se_Rs_follow gc_Rs (gl_1 hX 234) (gl_2 hX (a := 234) (by decide)) (gl_s hX 24 rfl) rfl (by decide) (by decide) rfl (fun _ => rfl) (fun _ => rfl) T (fun v84 M83 h85 T => ?_)
          exact wp_ireturn d_GL_insert_90 rfl (fun _ => rfl) (Nat.zero_le _) (Nat.zero_le _) (kI_mk h85 T)
    · have T := T.2 h130
      refine wp_iconst d_GL_insert_12 ?_
      refine wp_goto (tgt := 17) d_GL_insert_13 (by decide) ?_
      refine xcS_V (md' := false) (As := [gI 1]) (st := []) d_GL_insert_17 ca_GL_need ml_GL_69 sm_GL_need rfl (by decide) (by decide) rfl id id T (fun M88 T => ?_)
      refine wp_iload_n d_GL_insert_20 rfl rfl ?_
      refine wp_iconst d_GL_insert_21 ?_
      refine xi_lt (tgt := 35) d_GL_insert_22 (by decide) (w32_id hx3) (w32_id (g32_c (x := 1) rfl)) (fun h129 => ?_) (fun h129 => ?_)
      · have T := T.1 h129
        refine wp_iconst d_GL_insert_35 ?_
        refine xcS_V (md' := false) (As := [gI 0]) (st := []) d_GL_insert_36 ca_GL_need ml_GL_69 sm_GL_need rfl (by decide) (by decide) rfl id id T (fun M89 T => ?_)
        refine wp_aload_n d_GL_insert_39 rfl rfl (g_nz (gl_1 hX 0)) ?_
        refine xgetR d_GL_insert_40 gc_GL f_GL_34.1 f_GL_34.2.1 f_GL_34.2.2.1 (gl_1 hX 0) (gl_2 hX (a := 0) (by decide)) (gl_s0 hX) f_GL_34.2.2.2.2.1 (gl_f0 hX 23 rfl) ?_
        refine wp_aload_n d_GL_insert_43 rfl rfl (g_nz (gl_1 hX 0)) ?_
        refine xgetR d_GL_insert_44 gc_GL f_GL_40.1 f_GL_40.2.1 f_GL_40.2.2.1 (gl_1 hX 0) (gl_2 hX (a := 0) (by decide)) (gl_s0 hX) f_GL_40.2.2.2.2.1 (gl_f0 hX 26 rfl) ?_
        refine wp_aload_n d_GL_insert_47 rfl rfl (g_nz (gl_1 hX 0)) ?_
        refine xgetI d_GL_insert_48 gc_GL f_GL_81.1 f_GL_81.2.1 f_GL_81.2.2.1 (gl_1 hX 0) (gl_2 hX (a := 0) (by decide)) (gl_s0 hX) f_GL_81.2.2.2.2.1 (fun h90 => ?_)
        have T := T h90
        have h91 := T.1
        refine xaald d_GL_insert_51 (Or.inr rfl) (gl_1 hX 23) (gl_2 hX (a := 23) (by decide)) (gl_s hX 23 rfl) (g32_n h91 (by decide)) h91.1 h91.2 rfl ?_
        have T := T.2
        refine wp_aload_n d_GL_insert_52 rfl rfl (g_nz (gl_1 hX 0)) ?_
        refine xgetR d_GL_insert_53 gc_GL f_GL_45.1 f_GL_45.2.1 f_GL_45.2.2.1 (gl_1 hX 0) (gl_2 hX (a := 0) (by decide)) (gl_s0 hX) f_GL_45.2.2.2.2.1 hs4.1 ?_
        refine xcV_V (md' := true) (As := [gR G (X.2.2 (c + 23) (Int.toNat (M89 c 8))), gR G s4]) (st := []) d_GL_insert_56 ca_Ed_open ml_GL_84 im_Ed_open se_Ed_open gc_Ed (gl_1 hX 21) (gl_2 hX (a := 21) (by decide)) (gl_s hX 21 rfl) rfl (by decide) (by decide) rfl (fun _ => rfl) (fun _ => rfl) T (fun M92 T => ?_)
        refine wp_aload_n d_GL_insert_59 rfl rfl (g_nz (gl_1 hX 0)) ?_
        refine wp_aload_n d_GL_insert_60 rfl rfl (g_nz (gl_1 hX 0)) ?_
        refine xgetR d_GL_insert_61 gc_GL f_GL_34.1 f_GL_34.2.1 f_GL_34.2.2.1 (gl_1 hX 0) (gl_2 hX (a := 0) (by decide)) (gl_s0 hX) f_GL_34.2.2.2.2.1 (gl_f0 hX 23 rfl) ?_
        refine wp_iload_n d_GL_insert_64 rfl rfl ?_
        refine wp_iconst d_GL_insert_65 ?_
        refine wp_iload_n d_GL_insert_66 rfl rfl ?_
        refine wp_iload_n d_GL_insert_67 rfl rfl ?_
        refine xcV_Z (md' := true) (As := [gI x1, gI 1, gI x2, gI x3]) (st := [gR G c]) d_GL_insert_68 ca_Ed_shifted ml_GL_111 im_Ed_shifted se_Ed_shifted gc_Ed (gl_1 hX 21) (gl_2 hX (a := 21) (by decide)) (gl_s hX 21 rfl) rfl (by decide) (by simp only [List.map, gR_cat, gI_cat, gL_cat, List.sum_cons, List.sum_nil]; decide) rfl (fun _ => rfl) (fun _ => rfl) T (fun v94 M93 h95 T => ?_)
        refine xcV_V (md' := true) (As := [gI v94]) (st := []) d_GL_insert_71 ca_GL_land ml_GL_96 im_GL_land se_GL_land gc_GL (gl_1 hX 0) (gl_2 hX (a := 0) (by decide)) (gl_s0 hX) rfl (by decide) (by decide) rfl (fun _ => rfl) (fun _ => rfl) T (fun M96 T => ?_)
        refine wp_aload_n d_GL_insert_74 rfl rfl (g_nz (gl_1 hX 0)) ?_
        refine xgetR d_GL_insert_75 gc_GL f_GL_54.1 f_GL_54.2.1 f_GL_54.2.2.1 (gl_1 hX 0) (gl_2 hX (a := 0) (by decide)) (gl_s0 hX) f_GL_54.2.2.2.2.1 (gl_f0 hX 27 rfl) ?_
        refine wp_aload_n d_GL_insert_78 rfl rfl (g_nz (gl_1 hX 0)) ?_
        refine xgetR d_GL_insert_79 gc_GL f_GL_40.1 f_GL_40.2.1 f_GL_40.2.2.1 (gl_1 hX 0) (gl_2 hX (a := 0) (by decide)) (gl_s0 hX) f_GL_40.2.2.2.2.1 (gl_f0 hX 26 rfl) ?_
        refine wp_aload_n d_GL_insert_82 rfl rfl (g_nz (gl_1 hX 0)) ?_
        refine xgetI d_GL_insert_83 gc_GL f_GL_81.1 f_GL_81.2.1 f_GL_81.2.2.1 (gl_1 hX 0) (gl_2 hX (a := 0) (by decide)) (gl_s0 hX) f_GL_81.2.2.2.2.1 (fun h97 => ?_)
        have T := T h97
        have h98 := T.1
        refine xaald d_GL_insert_86 (Or.inr rfl) (gl_1 hX 23) (gl_2 hX (a := 23) (by decide)) (gl_s hX 23 rfl) (g32_n h98 (by decide)) h98.1 h98.2 rfl ?_
        have T := T.2
        refine xcV_I (md' := true) (As := [gR G (X.2.2 (c + 23) (Int.toNat (M96 c 8)))]) (st := []) d_GL_insert_87 ca_Rs_follow ml_GL_99 im_Rs_follow se_Rs_follow gc_Rs (gl_1 hX 234) (gl_2 hX (a := 234) (by decide)) (gl_s hX 24 rfl) rfl (by decide) (by decide) rfl (fun _ => rfl) (fun _ => rfl) T (fun v100 M99 h101 T => ?_)
        exact wp_ireturn d_GL_insert_90 rfl (fun _ => rfl) (Nat.zero_le _) (Nat.zero_le _) (kI_mk h101 T)
      · have T := T.2 h129
        refine wp_iload_n d_GL_insert_25 rfl rfl ?_
        refine wp_bipush d_GL_insert_26 ⟨by decide, by decide⟩ ?_
        refine xi_gt (tgt := 35) d_GL_insert_28 (by decide) (w32_id hx3) (w32_id (g32_c (x := 50) rfl)) (fun h128 => ?_) (fun h128 => ?_)
        · have T := T.1 h128
          refine wp_iconst d_GL_insert_35 ?_
          refine xcS_V (md' := false) (As := [gI 0]) (st := []) d_GL_insert_36 ca_GL_need ml_GL_69 sm_GL_need rfl (by decide) (by decide) rfl id id T (fun M102 T => ?_)
          refine wp_aload_n d_GL_insert_39 rfl rfl (g_nz (gl_1 hX 0)) ?_
          refine xgetR d_GL_insert_40 gc_GL f_GL_34.1 f_GL_34.2.1 f_GL_34.2.2.1 (gl_1 hX 0) (gl_2 hX (a := 0) (by decide)) (gl_s0 hX) f_GL_34.2.2.2.2.1 (gl_f0 hX 23 rfl) ?_
          refine wp_aload_n d_GL_insert_43 rfl rfl (g_nz (gl_1 hX 0)) ?_
          refine xgetR d_GL_insert_44 gc_GL f_GL_40.1 f_GL_40.2.1 f_GL_40.2.2.1 (gl_1 hX 0) (gl_2 hX (a := 0) (by decide)) (gl_s0 hX) f_GL_40.2.2.2.2.1 (gl_f0 hX 26 rfl) ?_
          refine wp_aload_n d_GL_insert_47 rfl rfl (g_nz (gl_1 hX 0)) ?_
          refine xgetI d_GL_insert_48 gc_GL f_GL_81.1 f_GL_81.2.1 f_GL_81.2.2.1 (gl_1 hX 0) (gl_2 hX (a := 0) (by decide)) (gl_s0 hX) f_GL_81.2.2.2.2.1 (fun h103 => ?_)
          have T := T h103
          have h104 := T.1
          refine xaald d_GL_insert_51 (Or.inr rfl) (gl_1 hX 23) (gl_2 hX (a := 23) (by decide)) (gl_s hX 23 rfl) (g32_n h104 (by decide)) h104.1 h104.2 rfl ?_
          have T := T.2
          refine wp_aload_n d_GL_insert_52 rfl rfl (g_nz (gl_1 hX 0)) ?_
          refine xgetR d_GL_insert_53 gc_GL f_GL_45.1 f_GL_45.2.1 f_GL_45.2.2.1 (gl_1 hX 0) (gl_2 hX (a := 0) (by decide)) (gl_s0 hX) f_GL_45.2.2.2.2.1 hs4.1 ?_
          refine xcV_V (md' := true) (As := [gR G (X.2.2 (c + 23) (Int.toNat (M102 c 8))), gR G s4]) (st := []) d_GL_insert_56 ca_Ed_open ml_GL_84 im_Ed_open se_Ed_open gc_Ed (gl_1 hX 21) (gl_2 hX (a := 21) (by decide)) (gl_s hX 21 rfl) rfl (by decide) (by decide) rfl (fun _ => rfl) (fun _ => rfl) T (fun M105 T => ?_)
          refine wp_aload_n d_GL_insert_59 rfl rfl (g_nz (gl_1 hX 0)) ?_
          refine wp_aload_n d_GL_insert_60 rfl rfl (g_nz (gl_1 hX 0)) ?_
          refine xgetR d_GL_insert_61 gc_GL f_GL_34.1 f_GL_34.2.1 f_GL_34.2.2.1 (gl_1 hX 0) (gl_2 hX (a := 0) (by decide)) (gl_s0 hX) f_GL_34.2.2.2.2.1 (gl_f0 hX 23 rfl) ?_
          refine wp_iload_n d_GL_insert_64 rfl rfl ?_
          refine wp_iconst d_GL_insert_65 ?_
          refine wp_iload_n d_GL_insert_66 rfl rfl ?_
          refine wp_iload_n d_GL_insert_67 rfl rfl ?_
          refine xcV_Z (md' := true) (As := [gI x1, gI 1, gI x2, gI x3]) (st := [gR G c]) d_GL_insert_68 ca_Ed_shifted ml_GL_111 im_Ed_shifted se_Ed_shifted gc_Ed (gl_1 hX 21) (gl_2 hX (a := 21) (by decide)) (gl_s hX 21 rfl) rfl (by decide) (by simp only [List.map, gR_cat, gI_cat, gL_cat, List.sum_cons, List.sum_nil]; decide) rfl (fun _ => rfl) (fun _ => rfl) T (fun v107 M106 h108 T => ?_)
          refine xcV_V (md' := true) (As := [gI v107]) (st := []) d_GL_insert_71 ca_GL_land ml_GL_96 im_GL_land se_GL_land gc_GL (gl_1 hX 0) (gl_2 hX (a := 0) (by decide)) (gl_s0 hX) rfl (by decide) (by decide) rfl (fun _ => rfl) (fun _ => rfl) T (fun M109 T => ?_)
          refine wp_aload_n d_GL_insert_74 rfl rfl (g_nz (gl_1 hX 0)) ?_
          refine xgetR d_GL_insert_75 gc_GL f_GL_54.1 f_GL_54.2.1 f_GL_54.2.2.1 (gl_1 hX 0) (gl_2 hX (a := 0) (by decide)) (gl_s0 hX) f_GL_54.2.2.2.2.1 (gl_f0 hX 27 rfl) ?_
          refine wp_aload_n d_GL_insert_78 rfl rfl (g_nz (gl_1 hX 0)) ?_
          refine xgetR d_GL_insert_79 gc_GL f_GL_40.1 f_GL_40.2.1 f_GL_40.2.2.1 (gl_1 hX 0) (gl_2 hX (a := 0) (by decide)) (gl_s0 hX) f_GL_40.2.2.2.2.1 (gl_f0 hX 26 rfl) ?_
          refine wp_aload_n d_GL_insert_82 rfl rfl (g_nz (gl_1 hX 0)) ?_
          refine xgetI d_GL_insert_83 gc_GL f_GL_81.1 f_GL_81.2.1 f_GL_81.2.2.1 (gl_1 hX 0) (gl_2 hX (a := 0) (by decide)) (gl_s0 hX) f_GL_81.2.2.2.2.1 (fun h110 => ?_)
          have T := T h110
          have h111 := T.1
          refine xaald d_GL_insert_86 (Or.inr rfl) (gl_1 hX 23) (gl_2 hX (a := 23) (by decide)) (gl_s hX 23 rfl) (g32_n h111 (by decide)) h111.1 h111.2 rfl ?_
          have T := T.2
          refine xcV_I (md' := true) (As := [gR G (X.2.2 (c + 23) (Int.toNat (M109 c 8)))]) (st := []) d_GL_insert_87 ca_Rs_follow ml_GL_99 im_Rs_follow se_Rs_follow gc_Rs (gl_1 hX 234) (gl_2 hX (a := 234) (by decide)) (gl_s hX 24 rfl) rfl (by decide) (by decide) rfl (fun _ => rfl) (fun _ => rfl) T (fun v113 M112 h114 T => ?_)
          exact wp_ireturn d_GL_insert_90 rfl (fun _ => rfl) (Nat.zero_le _) (Nat.zero_le _) (kI_mk h114 T)
        · have T := T.2 h128
          refine wp_iconst d_GL_insert_31 ?_
          refine wp_goto (tgt := 36) d_GL_insert_32 (by decide) ?_
          refine xcS_V (md' := false) (As := [gI 1]) (st := []) d_GL_insert_36 ca_GL_need ml_GL_69 sm_GL_need rfl (by decide) (by decide) rfl id id T (fun M115 T => ?_)
          refine wp_aload_n d_GL_insert_39 rfl rfl (g_nz (gl_1 hX 0)) ?_
          refine xgetR d_GL_insert_40 gc_GL f_GL_34.1 f_GL_34.2.1 f_GL_34.2.2.1 (gl_1 hX 0) (gl_2 hX (a := 0) (by decide)) (gl_s0 hX) f_GL_34.2.2.2.2.1 (gl_f0 hX 23 rfl) ?_
          refine wp_aload_n d_GL_insert_43 rfl rfl (g_nz (gl_1 hX 0)) ?_
          refine xgetR d_GL_insert_44 gc_GL f_GL_40.1 f_GL_40.2.1 f_GL_40.2.2.1 (gl_1 hX 0) (gl_2 hX (a := 0) (by decide)) (gl_s0 hX) f_GL_40.2.2.2.2.1 (gl_f0 hX 26 rfl) ?_
          refine wp_aload_n d_GL_insert_47 rfl rfl (g_nz (gl_1 hX 0)) ?_
          refine xgetI d_GL_insert_48 gc_GL f_GL_81.1 f_GL_81.2.1 f_GL_81.2.2.1 (gl_1 hX 0) (gl_2 hX (a := 0) (by decide)) (gl_s0 hX) f_GL_81.2.2.2.2.1 (fun h116 => ?_)
          have T := T h116
          have h117 := T.1
          refine xaald d_GL_insert_51 (Or.inr rfl) (gl_1 hX 23) (gl_2 hX (a := 23) (by decide)) (gl_s hX 23 rfl) (g32_n h117 (by decide)) h117.1 h117.2 rfl ?_
          have T := T.2
          refine wp_aload_n d_GL_insert_52 rfl rfl (g_nz (gl_1 hX 0)) ?_
          refine xgetR d_GL_insert_53 gc_GL f_GL_45.1 f_GL_45.2.1 f_GL_45.2.2.1 (gl_1 hX 0) (gl_2 hX (a := 0) (by decide)) (gl_s0 hX) f_GL_45.2.2.2.2.1 hs4.1 ?_
          refine xcV_V (md' := true) (As := [gR G (X.2.2 (c + 23) (Int.toNat (M115 c 8))), gR G s4]) (st := []) d_GL_insert_56 ca_Ed_open ml_GL_84 im_Ed_open se_Ed_open gc_Ed (gl_1 hX 21) (gl_2 hX (a := 21) (by decide)) (gl_s hX 21 rfl) rfl (by decide) (by decide) rfl (fun _ => rfl) (fun _ => rfl) T (fun M118 T => ?_)
          refine wp_aload_n d_GL_insert_59 rfl rfl (g_nz (gl_1 hX 0)) ?_
          refine wp_aload_n d_GL_insert_60 rfl rfl (g_nz (gl_1 hX 0)) ?_
          refine xgetR d_GL_insert_61 gc_GL f_GL_34.1 f_GL_34.2.1 f_GL_34.2.2.1 (gl_1 hX 0) (gl_2 hX (a := 0) (by decide)) (gl_s0 hX) f_GL_34.2.2.2.2.1 (gl_f0 hX 23 rfl) ?_
          refine wp_iload_n d_GL_insert_64 rfl rfl ?_
          refine wp_iconst d_GL_insert_65 ?_
          refine wp_iload_n d_GL_insert_66 rfl rfl ?_
          refine wp_iload_n d_GL_insert_67 rfl rfl ?_
          refine xcV_Z (md' := true) (As := [gI x1, gI 1, gI x2, gI x3]) (st := [gR G c]) d_GL_insert_68 ca_Ed_shifted ml_GL_111 im_Ed_shifted se_Ed_shifted gc_Ed (gl_1 hX 21) (gl_2 hX (a := 21) (by decide)) (gl_s hX 21 rfl) rfl (by decide) (by simp only [List.map, gR_cat, gI_cat, gL_cat, List.sum_cons, List.sum_nil]; decide) rfl (fun _ => rfl) (fun _ => rfl) T (fun v120 M119 h121 T => ?_)
          refine xcV_V (md' := true) (As := [gI v120]) (st := []) d_GL_insert_71 ca_GL_land ml_GL_96 im_GL_land se_GL_land gc_GL (gl_1 hX 0) (gl_2 hX (a := 0) (by decide)) (gl_s0 hX) rfl (by decide) (by decide) rfl (fun _ => rfl) (fun _ => rfl) T (fun M122 T => ?_)
          refine wp_aload_n d_GL_insert_74 rfl rfl (g_nz (gl_1 hX 0)) ?_
          refine xgetR d_GL_insert_75 gc_GL f_GL_54.1 f_GL_54.2.1 f_GL_54.2.2.1 (gl_1 hX 0) (gl_2 hX (a := 0) (by decide)) (gl_s0 hX) f_GL_54.2.2.2.2.1 (gl_f0 hX 27 rfl) ?_
          refine wp_aload_n d_GL_insert_78 rfl rfl (g_nz (gl_1 hX 0)) ?_
          refine xgetR d_GL_insert_79 gc_GL f_GL_40.1 f_GL_40.2.1 f_GL_40.2.2.1 (gl_1 hX 0) (gl_2 hX (a := 0) (by decide)) (gl_s0 hX) f_GL_40.2.2.2.2.1 (gl_f0 hX 26 rfl) ?_
          refine wp_aload_n d_GL_insert_82 rfl rfl (g_nz (gl_1 hX 0)) ?_
          refine xgetI d_GL_insert_83 gc_GL f_GL_81.1 f_GL_81.2.1 f_GL_81.2.2.1 (gl_1 hX 0) (gl_2 hX (a := 0) (by decide)) (gl_s0 hX) f_GL_81.2.2.2.2.1 (fun h123 => ?_)
          have T := T h123
          have h124 := T.1
          refine xaald d_GL_insert_86 (Or.inr rfl) (gl_1 hX 23) (gl_2 hX (a := 23) (by decide)) (gl_s hX 23 rfl) (g32_n h124 (by decide)) h124.1 h124.2 rfl ?_
          have T := T.2
          refine xcV_I (md' := true) (As := [gR G (X.2.2 (c + 23) (Int.toNat (M122 c 8)))]) (st := []) d_GL_insert_87 ca_Rs_follow ml_GL_99 im_Rs_follow se_Rs_follow gc_Rs (gl_1 hX 234) (gl_2 hX (a := 234) (by decide)) (gl_s hX 24 rfl) rfl (by decide) (by decide) rfl (fun _ => rfl) (fun _ => rfl) T (fun v126 M125 h127 T => ?_)
          exact wp_ireturn d_GL_insert_90 rfl (fun _ => rfl) (Nat.zero_le _) (Nat.zero_le _) (kI_mk h127 T)
theorem e_GL_insert {l : Launch} {G : gG} {d : Nat} {X : gX} {M : gM} {k : Int → gM → Prop} {c : Nat} {x1 : Int} {x2 : Int} {x3 : Int} (T : wp l G y_GL_insert (gRm (d + 1)) true (kkI X k) false 0 [.val (gR G c), .val (gI x1), .val (gI x2), .val (gI x3)] [] X M 0 0) : cI l G y_GL_insert (gRm (d + 1)) true [gR G c, gI x1, gI x2, gI x3] X M k := cen_I (plainFor_of_name rfl) (by simp only [lg_sl_R, lg_sl_I, lg_sl_L, lg_sl_N, List.length_cons, List.length_nil]; decide) (by unfold gEn; simp only [lg_sl_R, lg_sl_I, lg_sl_L, lg_sl_N]; exact wpt T (And.intro rfl (And.intro rfl (And.intro rfl (And.intro rfl True.intro)))))
