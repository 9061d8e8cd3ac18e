/-! Walks of the class's methods, written by wip/whole/gen_class.py -/
theorem d_Ed_addFollowedRange_0 : decode prog_5_method_10_code 0 = .ok (.aload_n 0, 1) := by decide +kernel
theorem d_Ed_addFollowedRange_1 : decode prog_5_method_10_code 1 = .ok (.iload_n 1, 1) := by decide +kernel
theorem d_Ed_addFollowedRange_2 : decode prog_5_method_10_code 2 = .ok (.invokevirtual 121, 3) := by decide +kernel
theorem d_Ed_addFollowedRange_5 : decode prog_5_method_10_code 5 = .ok (.istore_n 3, 1) := by decide +kernel
theorem d_Ed_addFollowedRange_6 : decode prog_5_method_10_code 6 = .ok (.aload_n 0, 1) := by decide +kernel
theorem d_Ed_addFollowedRange_7 : decode prog_5_method_10_code 7 = .ok (.iload_n 2, 1) := by decide +kernel
theorem d_Ed_addFollowedRange_8 : decode prog_5_method_10_code 8 = .ok (.invokevirtual 121, 3) := by decide +kernel
theorem d_Ed_addFollowedRange_11 : decode prog_5_method_10_code 11 = .ok (.istore 4, 2) := by decide +kernel
theorem d_Ed_addFollowedRange_13 : decode prog_5_method_10_code 13 = .ok (.aload_n 0, 1) := by decide +kernel
theorem d_Ed_addFollowedRange_14 : decode prog_5_method_10_code 14 = .ok (.iload_n 3, 1) := by decide +kernel
theorem d_Ed_addFollowedRange_15 : decode prog_5_method_10_code 15 = .ok (.iload 4, 2) := by decide +kernel
theorem d_Ed_addFollowedRange_17 : decode prog_5_method_10_code 17 = .ok (.invokestatic 124, 3) := by decide +kernel
theorem d_Ed_addFollowedRange_20 : decode prog_5_method_10_code 20 = .ok (.invokevirtual 129, 3) := by decide +kernel
theorem d_Ed_addFollowedRange_23 : decode prog_5_method_10_code 23 = .ok (.istore 5, 2) := by decide +kernel
theorem d_Ed_addFollowedRange_25 : decode prog_5_method_10_code 25 = .ok (.aload_n 0, 1) := by decide +kernel
theorem d_Ed_addFollowedRange_26 : decode prog_5_method_10_code 26 = .ok (.iload_n 3, 1) := by decide +kernel
theorem d_Ed_addFollowedRange_27 : decode prog_5_method_10_code 27 = .ok (.iload 4, 2) := by decide +kernel
theorem d_Ed_addFollowedRange_29 : decode prog_5_method_10_code 29 = .ok (.invokestatic 132, 3) := by decide +kernel
theorem d_Ed_addFollowedRange_32 : decode prog_5_method_10_code 32 = .ok (.invokevirtual 135, 3) := by decide +kernel
theorem d_Ed_addFollowedRange_35 : decode prog_5_method_10_code 35 = .ok (.istore 6, 2) := by decide +kernel
theorem d_Ed_addFollowedRange_37 : decode prog_5_method_10_code 37 = .ok (.iload 5, 2) := by decide +kernel
theorem d_Ed_addFollowedRange_39 : decode prog_5_method_10_code 39 = .ok (.iload 6, 2) := by decide +kernel
theorem d_Ed_addFollowedRange_41 : decode prog_5_method_10_code 41 = .ok (.if_icmp .gt 7, 3) := by decide +kernel
theorem d_Ed_addFollowedRange_48 : decode prog_5_method_10_code 48 = .ok (.iconst 0, 1) := by decide +kernel
theorem d_Ed_addFollowedRange_44 : decode prog_5_method_10_code 44 = .ok (.iconst 1, 1) := by decide +kernel
theorem d_Ed_addFollowedRange_45 : decode prog_5_method_10_code 45 = .ok (.goto 4, 3) := by decide +kernel
theorem d_Ed_addFollowedRange_49 : decode prog_5_method_10_code 49 = .ok (.istore 7, 2) := by decide +kernel
theorem d_Ed_addFollowedRange_51 : decode prog_5_method_10_code 51 = .ok (.aload_n 0, 1) := by decide +kernel
theorem d_Ed_addFollowedRange_52 : decode prog_5_method_10_code 52 = .ok (.getfield 23, 3) := by decide +kernel
theorem d_Ed_addFollowedRange_55 : decode prog_5_method_10_code 55 = .ok (.iload 7, 2) := by decide +kernel
theorem d_Ed_addFollowedRange_57 : decode prog_5_method_10_code 57 = .ok (.ifCond .eq 24, 3) := by decide +kernel
theorem d_Ed_addFollowedRange_81 : decode prog_5_method_10_code 81 = .ok (.iconst (-1), 1) := by decide +kernel
theorem d_Ed_addFollowedRange_82 : decode prog_5_method_10_code 82 = .ok (.invokevirtual 95, 3) := by decide +kernel
theorem d_Ed_addFollowedRange_85 : decode prog_5_method_10_code 85 = .ok (.aload_n 0, 1) := by decide +kernel
theorem d_Ed_addFollowedRange_86 : decode prog_5_method_10_code 86 = .ok (.getfield 23, 3) := by decide +kernel
theorem d_Ed_addFollowedRange_89 : decode prog_5_method_10_code 89 = .ok (.iload 7, 2) := by decide +kernel
theorem d_Ed_addFollowedRange_91 : decode prog_5_method_10_code 91 = .ok (.ifCond .eq 24, 3) := by decide +kernel
theorem d_Ed_addFollowedRange_115 : decode prog_5_method_10_code 115 = .ok (.iconst (-1), 1) := by decide +kernel
theorem d_Ed_addFollowedRange_116 : decode prog_5_method_10_code 116 = .ok (.invokevirtual 95, 3) := by decide +kernel
theorem d_Ed_addFollowedRange_119 : decode prog_5_method_10_code 119 = .ok (.return_, 1) := by decide +kernel
theorem d_Ed_addFollowedRange_94 : decode prog_5_method_10_code 94 = .ok (.aload_n 0, 1) := by decide +kernel
theorem d_Ed_addFollowedRange_95 : decode prog_5_method_10_code 95 = .ok (.iload_n 2, 1) := by decide +kernel
theorem d_Ed_addFollowedRange_96 : decode prog_5_method_10_code 96 = .ok (.iload_n 3, 1) := by decide +kernel
theorem d_Ed_addFollowedRange_97 : decode prog_5_method_10_code 97 = .ok (.iload 4, 2) := by decide +kernel
theorem d_Ed_addFollowedRange_99 : decode prog_5_method_10_code 99 = .ok (.if_icmp .gt 8, 3) := by decide +kernel
theorem d_Ed_addFollowedRange_107 : decode prog_5_method_10_code 107 = .ok (.iload 5, 2) := by decide +kernel
theorem d_Ed_addFollowedRange_109 : decode prog_5_method_10_code 109 = .ok (.invokevirtual 138, 3) := by decide +kernel
theorem d_Ed_addFollowedRange_112 : decode prog_5_method_10_code 112 = .ok (.goto 4, 3) := by decide +kernel
theorem d_Ed_addFollowedRange_102 : decode prog_5_method_10_code 102 = .ok (.iload 6, 2) := by decide +kernel
theorem d_Ed_addFollowedRange_104 : decode prog_5_method_10_code 104 = .ok (.goto 5, 3) := by decide +kernel
theorem d_Ed_addFollowedRange_60 : decode prog_5_method_10_code 60 = .ok (.aload_n 0, 1) := by decide +kernel
theorem d_Ed_addFollowedRange_61 : decode prog_5_method_10_code 61 = .ok (.iload_n 1, 1) := by decide +kernel
theorem d_Ed_addFollowedRange_62 : decode prog_5_method_10_code 62 = .ok (.iload_n 3, 1) := by decide +kernel
theorem d_Ed_addFollowedRange_63 : decode prog_5_method_10_code 63 = .ok (.iload 4, 2) := by decide +kernel
theorem d_Ed_addFollowedRange_65 : decode prog_5_method_10_code 65 = .ok (.if_icmp .gt 8, 3) := by decide +kernel
theorem d_Ed_addFollowedRange_73 : decode prog_5_method_10_code 73 = .ok (.iload 6, 2) := by decide +kernel
theorem d_Ed_addFollowedRange_75 : decode prog_5_method_10_code 75 = .ok (.invokevirtual 138, 3) := by decide +kernel
theorem d_Ed_addFollowedRange_78 : decode prog_5_method_10_code 78 = .ok (.goto 4, 3) := by decide +kernel
theorem d_Ed_addFollowedRange_68 : decode prog_5_method_10_code 68 = .ok (.iload 5, 2) := by decide +kernel
theorem d_Ed_addFollowedRange_70 : decode prog_5_method_10_code 70 = .ok (.goto 5, 3) := by decide +kernel
set_option maxHeartbeats 4000000 in
theorem w_Ed_addFollowedRange_0 {l : Launch} {G : gG} {d : Nat} {X : gX} {M : gM} {k : gM → Prop} {c : Nat} (hX : glX X c) {x1 : Int} (hx1 : g32 x1) {x2 : Int} (hx2 : g32 x2)  (T : cI l G y_Ed_lineOf (gRm d) false [gR G (c + 21), gI x1] X M (fun v2 M1 => (cI l G y_Ed_lineOf (gRm d) false [gR G (c + 21), gI x2] X M1 (fun v5 M4 => (cI l G y_jMath_min (gRm d) false [gI v2, gI v5] X M4 (fun v8 M7 => (cI l G y_Ed_followedFirst (gRm d) false [gR G (c + 21), gI v8] X M7 (fun v11 M10 => (cI l G y_jMath_max (gRm d) false [gI v2, gI v5] X M10 (fun v14 M13 => (cI l G y_Ed_followedLast (gRm d) false [gR G (c + 21), gI v14] X M13 (fun v17 M16 => ((v17 < v11 → (wp l G y_Ed_addFollowedRange (gRm (d + 1)) true (kkV X k) true 49 [.val (gR G (c + 21)), .val (gI x1), .val (gI x2), .val (gI v2), .val (gI v5), .val (gI v11), .val (gI v17), .unset] [gI 0] X M16 0 0)) ∧ (¬ v17 < v11 → (wp l G y_Ed_addFollowedRange (gRm (d + 1)) true (kkV X k) true 49 [.val (gR G (c + 21)), .val (gI x1), .val (gI x2), .val (gI v2), .val (gI v5), .val (gI v11), .val (gI v17), .unset] [gI 1] X M16 0 0))))))))))))))) : wp l G y_Ed_addFollowedRange (gRm (d + 1)) true (kkV X k) false 0 [.val (gR G (c + 21)), .val (gI x1), .val (gI x2), .unset, .unset, .unset, .unset, .unset] [] X M 0 0 := by
  refine wp_aload_n d_Ed_addFollowedRange_0 rfl rfl (g_nz (gl_1 hX 21)) ?_
  refine wp_iload_n d_Ed_addFollowedRange_1 rfl rfl ?_
  refine xcV_I (md' := false) (As := [gI x1]) (st := []) d_Ed_addFollowedRange_2 ca_Ed_lineOf ml_Ed_121 im_Ed_lineOf se_Ed_lineOf gc_Ed (gl_1 hX 21) (gl_2 hX (a := 21) (by decide)) (gl_s hX 21 rfl) rfl (by decide) (by decide) rfl id id T (fun v2 M1 h3 T => ?_)
  refine wp_istore_n (L' := [.val (gR G (c + 21)), .val (gI x1), .val (gI x2), .val (gI v2), .unset, .unset, .unset, .unset]) d_Ed_addFollowedRange_5 rfl (by decide) rfl ?_
  refine wp_aload_n d_Ed_addFollowedRange_6 rfl rfl (g_nz (gl_1 hX 21)) ?_
  refine wp_iload_n d_Ed_addFollowedRange_7 rfl rfl ?_
  refine xcV_I (md' := false) (As := [gI x2]) (st := []) d_Ed_addFollowedRange_8 ca_Ed_lineOf ml_Ed_121 im_Ed_lineOf se_Ed_lineOf gc_Ed (gl_1 hX 21) (gl_2 hX (a := 21) (by decide)) (gl_s hX 21 rfl) rfl (by decide) (by decide) rfl id id T (fun v5 M4 h6 T => ?_)
  refine wp_istore (L' := [.val (gR G (c + 21)), .val (gI x1), .val (gI x2), .val (gI v2), .val (gI v5), .unset, .unset, .unset]) d_Ed_addFollowedRange_11 (by decide) rfl ?_
  refine wp_aload_n d_Ed_addFollowedRange_13 rfl rfl (g_nz (gl_1 hX 21)) ?_
  refine wp_iload_n d_Ed_addFollowedRange_14 rfl rfl ?_
  refine wp_iload d_Ed_addFollowedRange_15 rfl ?_
  refine xcS_I (md' := false) (As := [gI v2, gI v5]) (st := [gR G (c + 21)]) d_Ed_addFollowedRange_17 ca_jMath_min ml_Ed_124 sm_jMath_min rfl (by decide) (by simp only [List.map, gR_cat, gI_cat, gL_cat, List.sum_cons, List.sum_nil]; decide) rfl id id T (fun v8 M7 h9 T => ?_)
  refine xcV_I (md' := false) (As := [gI v8]) (st := []) d_Ed_addFollowedRange_20 ca_Ed_followedFirst ml_Ed_129 im_Ed_followedFirst se_Ed_followedFirst gc_Ed (gl_1 hX 21) (gl_2 hX (a := 21) (by decide)) (gl_s hX 21 rfl) rfl (by decide) (by decide) rfl id id T (fun v11 M10 h12 T => ?_)
  refine wp_istore (L' := [.val (gR G (c + 21)), .val (gI x1), .val (gI x2), .val (gI v2), .val (gI v5), .val (gI v11), .unset, .unset]) d_Ed_addFollowedRange_23 (by decide) rfl ?_
  refine wp_aload_n d_Ed_addFollowedRange_25 rfl rfl (g_nz (gl_1 hX 21)) ?_
  refine wp_iload_n d_Ed_addFollowedRange_26 rfl rfl ?_
  refine wp_iload d_Ed_addFollowedRange_27 rfl ?_
  refine xcS_I (md' := false) (As := [gI v2, gI v5]) (st := [gR G (c + 21)]) d_Ed_addFollowedRange_29 ca_jMath_max ml_Ed_132 sm_jMath_max rfl (by decide) (by simp only [List.map, gR_cat, gI_cat, gL_cat, List.sum_cons, List.sum_nil]; decide) rfl id id T (fun v14 M13 h15 T => ?_)
  refine xcV_I (md' := false) (As := [gI v14]) (st := []) d_Ed_addFollowedRange_32 ca_Ed_followedLast ml_Ed_135 im_Ed_followedLast se_Ed_followedLast gc_Ed (gl_1 hX 21) (gl_2 hX (a := 21) (by decide)) (gl_s hX 21 rfl) rfl (by decide) (by decide) rfl id id T (fun v17 M16 h18 T => ?_)
  refine wp_istore (L' := [.val (gR G (c + 21)), .val (gI x1), .val (gI x2), .val (gI v2), .val (gI v5), .val (gI v11), .val (gI v17), .unset]) d_Ed_addFollowedRange_35 (by decide) rfl ?_
  refine wp_iload d_Ed_addFollowedRange_37 rfl ?_
  refine wp_iload d_Ed_addFollowedRange_39 rfl ?_
  refine xi_gt (tgt := 48) d_Ed_addFollowedRange_41 (by decide) (w32_id h12) (w32_id h18) (fun h19 => ?_) (fun h19 => ?_)
  · have T := T.1 h19
    refine wp_iconst d_Ed_addFollowedRange_48 ?_
    exact wp_md (wpt T (And.intro rfl (And.intro rfl (And.intro rfl (And.intro rfl (And.intro rfl (And.intro rfl (And.intro rfl True.intro))))))))
  · have T := T.2 h19
    refine wp_iconst d_Ed_addFollowedRange_44 ?_
    refine wp_goto (tgt := 49) d_Ed_addFollowedRange_45 (by decide) ?_
    exact wp_md (wpt T (And.intro rfl (And.intro rfl (And.intro rfl (And.intro rfl (And.intro rfl (And.intro rfl (And.intro rfl True.intro))))))))
set_option maxHeartbeats 4000000 in
theorem w_Ed_addFollowedRange_49 {l : Launch} {G : gG} {d : Nat} {X : gX} {M : gM} {k : gM → Prop} {c : Nat} (hX : glX X c) {x1 : Int} (hx1 : g32 x1) {x2 : Int} (hx2 : g32 x2) {x3 : Int} (hx3 : g32 x3) {x4 : Int} (hx4 : g32 x4) {x5 : Int} (hx5 : g32 x5) {x6 : Int} (hx6 : g32 x6) {s0 : Int} (hs0 : g32 s0) {s3 : Nat} (hs3 : X.2.2 (c + 21) 3 = s3 ∧ gsX X s3) (T : (s0 = 0 → (cV l G y_St_addTarget (gRm d) true [gR G s3, gI (-1)] X M (fun M20 => ((s0 = 0 → (cV l G y_St_addTarget (gRm d) true [gR G s3, gI (-1)] X M20 (fun M21 => (k M21)))) ∧ (¬ s0 = 0 → ((x4 < x3 → (cI l G y_Ed_onLine (gRm d) false [gR G (c + 21), gI x2, gI x5] X M20 (fun v23 M22 => (cV l G y_St_addTarget (gRm d) true [gR G s3, gI v23] X M22 (fun M25 => (k M25)))))) ∧ (¬ x4 < x3 → (cI l G y_Ed_onLine (gRm d) false [gR G (c + 21), gI x2, gI x6] X M20 (fun v27 M26 => (cV l G y_St_addTarget (gRm d) true [gR G s3, gI v27] X M26 (fun M29 => (k M29)))))))))))) ∧ (¬ s0 = 0 → ((x4 < x3 → (cI l G y_Ed_onLine (gRm d) false [gR G (c + 21), gI x1, gI x6] X M (fun v33 M32 => (cV l G y_St_addTarget (gRm d) true [gR G s3, gI v33] X M32 (fun M35 => ((s0 = 0 → (cV l G y_St_addTarget (gRm d) true [gR G s3, gI (-1)] X M35 (fun M36 => (k M36)))) ∧ (¬ s0 = 0 → ((x4 < x3 → (cI l G y_Ed_onLine (gRm d) false [gR G (c + 21), gI x2, gI x5] X M35 (fun v38 M37 => (cV l G y_St_addTarget (gRm d) true [gR G s3, gI v38] X M37 (fun M40 => (k M40)))))) ∧ (¬ x4 < x3 → (cI l G y_Ed_onLine (gRm d) false [gR G (c + 21), gI x2, gI x6] X M35 (fun v42 M41 => (cV l G y_St_addTarget (gRm d) true [gR G s3, gI v42] X M41 (fun M44 => (k M44)))))))))))))) ∧ (¬ x4 < x3 → (cI l G y_Ed_onLine (gRm d) false [gR G (c + 21), gI x1, gI x5] X M (fun v48 M47 => (cV l G y_St_addTarget (gRm d) true [gR G s3, gI v48] X M47 (fun M50 => ((s0 = 0 → (cV l G y_St_addTarget (gRm d) true [gR G s3, gI (-1)] X M50 (fun M51 => (k M51)))) ∧ (¬ s0 = 0 → ((x4 < x3 → (cI l G y_Ed_onLine (gRm d) false [gR G (c + 21), gI x2, gI x5] X M50 (fun v53 M52 => (cV l G y_St_addTarget (gRm d) true [gR G s3, gI v53] X M52 (fun M55 => (k M55)))))) ∧ (¬ x4 < x3 → (cI l G y_Ed_onLine (gRm d) false [gR G (c + 21), gI x2, gI x6] X M50 (fun v57 M56 => (cV l G y_St_addTarget (gRm d) true [gR G s3, gI v57] X M56 (fun M59 => (k M59))))))))))))))))) : wp l G y_Ed_addFollowedRange (gRm (d + 1)) true (kkV X k) true 49 [.val (gR G (c + 21)), .val (gI x1), .val (gI x2), .val (gI x3), .val (gI x4), .val (gI x5), .val (gI x6), .unset] [gI s0] X M 0 0 := by
  refine wp_istore (L' := [.val (gR G (c + 21)), .val (gI x1), .val (gI x2), .val (gI x3), .val (gI x4), .val (gI x5), .val (gI x6), .val (gI s0)]) d_Ed_addFollowedRange_49 (by decide) rfl ?_
  refine wp_aload_n d_Ed_addFollowedRange_51 rfl rfl (g_nz (gl_1 hX 21)) ?_
  refine xgetR d_Ed_addFollowedRange_52 gc_Ed f_Ed_23.1 f_Ed_23.2.1 f_Ed_23.2.2.1 (gl_1 hX 21) (gl_2 hX (a := 21) (by decide)) (gl_s hX 21 rfl) f_Ed_23.2.2.2.2.1 hs3.1 ?_
  refine wp_iload d_Ed_addFollowedRange_55 rfl ?_
  refine xz_eq (tgt := 81) d_Ed_addFollowedRange_57 (by decide) (w32_id hs0) (fun h63 => ?_) (fun h63 => ?_)
  · have T := T.1 h63
    refine wp_iconst d_Ed_addFollowedRange_81 ?_
    refine xcV_V (md' := true) (As := [gI (-1)]) (st := []) d_Ed_addFollowedRange_82 ca_St_addTarget ml_Ed_95 im_St_addTarget se_St_addTarget gc_St hs3.2.1 (gs_2 hs3.2) hs3.2.2.2.1 rfl (by decide) (by decide) rfl (fun _ => rfl) (fun _ => rfl) T (fun M20 T => ?_)
    refine wp_aload_n d_Ed_addFollowedRange_85 rfl rfl (g_nz (gl_1 hX 21)) ?_
    refine xgetR d_Ed_addFollowedRange_86 gc_Ed f_Ed_23.1 f_Ed_23.2.1 f_Ed_23.2.2.1 (gl_1 hX 21) (gl_2 hX (a := 21) (by decide)) (gl_s hX 21 rfl) f_Ed_23.2.2.2.2.1 hs3.1 ?_
    refine wp_iload d_Ed_addFollowedRange_89 rfl ?_
    refine xz_eq (tgt := 115) d_Ed_addFollowedRange_91 (by decide) (w32_id hs0) (fun h31 => ?_) (fun h31 => ?_)
    · have T := T.1 h31
      refine wp_iconst d_Ed_addFollowedRange_115 ?_
      refine xcV_V (md' := true) (As := [gI (-1)]) (st := []) d_Ed_addFollowedRange_116 ca_St_addTarget ml_Ed_95 im_St_addTarget se_St_addTarget gc_St hs3.2.1 (gs_2 hs3.2) hs3.2.2.2.1 rfl (by decide) (by decide) rfl (fun _ => rfl) (fun _ => rfl) T (fun M21 T => ?_)
      exact wp_return d_Ed_addFollowedRange_119 rfl (fun _ => rfl) (Nat.zero_le _) (Nat.zero_le _) (kV_mk T)
    · have T := T.2 h31
      refine wp_aload_n d_Ed_addFollowedRange_94 rfl rfl (g_nz (gl_1 hX 21)) ?_
      refine wp_iload_n d_Ed_addFollowedRange_95 rfl rfl ?_
      refine wp_iload_n d_Ed_addFollowedRange_96 rfl rfl ?_
      refine wp_iload d_Ed_addFollowedRange_97 rfl ?_
      refine xi_gt (tgt := 107) d_Ed_addFollowedRange_99 (by decide) (w32_id hx3) (w32_id hx4) (fun h30 => ?_) (fun h30 => ?_)
      · have T := T.1 h30
        refine wp_iload d_Ed_addFollowedRange_107 rfl ?_
        refine xcV_I (md' := true) (As := [gI x2, gI x5]) (st := [gR G s3]) d_Ed_addFollowedRange_109 ca_Ed_onLine ml_Ed_138 im_Ed_onLine se_Ed_onLine gc_Ed (gl_1 hX 21) (gl_2 hX (a := 21) (by decide)) (gl_s hX 21 rfl) rfl (by decide) (by simp only [List.map, gR_cat, gI_cat, gL_cat, List.sum_cons, List.sum_nil]; decide) rfl (fun _ => rfl) (fun _ => rfl) T (fun v23 M22 h24 T => ?_)
        refine wp_goto (tgt := 116) d_Ed_addFollowedRange_112 (by decide) ?_
        refine xcV_V (md' := true) (As := [gI v23]) (st := []) d_Ed_addFollowedRange_116 ca_St_addTarget ml_Ed_95 im_St_addTarget se_St_addTarget gc_St hs3.2.1 (gs_2 hs3.2) hs3.2.2.2.1 rfl (by decide) (by decide) rfl (fun _ => rfl) (fun _ => rfl) T (fun M25 T => ?_)
        exact wp_return d_Ed_addFollowedRange_119 rfl (fun _ => rfl) (Nat.zero_le _) (Nat.zero_le _) (kV_mk T)
      · have T := T.2 h30
        refine wp_iload d_Ed_addFollowedRange_102 rfl ?_
        refine wp_goto (tgt := 109) d_Ed_addFollowedRange_104 (by decide) ?_
        refine xcV_I (md' := true) (As := [gI x2, gI x6]) (st := [gR G s3]) d_Ed_addFollowedRange_109 ca_Ed_onLine ml_Ed_138 im_Ed_onLine se_Ed_onLine gc_Ed (gl_1 hX 21) (gl_2 hX (a := 21) (by decide)) (gl_s hX 21 rfl) rfl (by decide) (by simp only [List.map, gR_cat, gI_cat, gL_cat, List.sum_cons, List.sum_nil]; decide) rfl (fun _ => rfl) (fun _ => rfl) T (fun v27 M26 h28 T => ?_)
        refine wp_goto (tgt := 116) d_Ed_addFollowedRange_112 (by decide) ?_
        refine xcV_V (md' := true) (As := [gI v27]) (st := []) d_Ed_addFollowedRange_116 ca_St_addTarget ml_Ed_95 im_St_addTarget se_St_addTarget gc_St hs3.2.1 (gs_2 hs3.2) hs3.2.2.2.1 rfl (by decide) (by decide) rfl (fun _ => rfl) (fun _ => rfl) T (fun M29 T => ?_)
        exact wp_return d_Ed_addFollowedRange_119 rfl (fun _ => rfl) (Nat.zero_le _) (Nat.zero_le _) (kV_mk T)
  · have T := T.2 h63
    refine wp_aload_n d_Ed_addFollowedRange_60 rfl rfl (g_nz (gl_1 hX 21)) ?_
    refine wp_iload_n d_Ed_addFollowedRange_61 rfl rfl ?_
    refine wp_iload_n d_Ed_addFollowedRange_62 rfl rfl ?_
    refine wp_iload d_Ed_addFollowedRange_63 rfl ?_
    refine xi_gt (tgt := 73) d_Ed_addFollowedRange_65 (by decide) (w32_id hx3) (w32_id hx4) (fun h62 => ?_) (fun h62 => ?_)
    · have T := T.1 h62
      refine wp_iload d_Ed_addFollowedRange_73 rfl ?_
      refine xcV_I (md' := true) (As := [gI x1, gI x6]) (st := [gR G s3]) d_Ed_addFollowedRange_75 ca_Ed_onLine ml_Ed_138 im_Ed_onLine se_Ed_onLine gc_Ed (gl_1 hX 21) (gl_2 hX (a := 21) (by decide)) (gl_s hX 21 rfl) rfl (by decide) (by simp only [List.map, gR_cat, gI_cat, gL_cat, List.sum_cons, List.sum_nil]; decide) rfl (fun _ => rfl) (fun _ => rfl) T (fun v33 M32 h34 T => ?_)
      refine wp_goto (tgt := 82) d_Ed_addFollowedRange_78 (by decide) ?_
      refine xcV_V (md' := true) (As := [gI v33]) (st := []) d_Ed_addFollowedRange_82 ca_St_addTarget ml_Ed_95 im_St_addTarget se_St_addTarget gc_St hs3.2.1 (gs_2 hs3.2) hs3.2.2.2.1 rfl (by decide) (by decide) rfl (fun _ => rfl) (fun _ => rfl) T (fun M35 T => ?_)
      refine wp_aload_n d_Ed_addFollowedRange_85 rfl rfl (g_nz (gl_1 hX 21)) ?_
      refine xgetR d_Ed_addFollowedRange_86 gc_Ed f_Ed_23.1 f_Ed_23.2.1 f_Ed_23.2.2.1 (gl_1 hX 21) (gl_2 hX (a := 21) (by decide)) (gl_s hX 21 rfl) f_Ed_23.2.2.2.2.1 hs3.1 ?_
      refine wp_iload d_Ed_addFollowedRange_89 rfl ?_
      refine xz_eq (tgt := 115) d_Ed_addFollowedRange_91 (by decide) (w32_id hs0) (fun h46 => ?_) (fun h46 => ?_)
      · have T := T.1 h46
        refine wp_iconst d_Ed_addFollowedRange_115 ?_
        refine xcV_V (md' := true) (As := [gI (-1)]) (st := []) d_Ed_addFollowedRange_116 ca_St_addTarget ml_Ed_95 im_St_addTarget se_St_addTarget gc_St hs3.2.1 (gs_2 hs3.2) hs3.2.2.2.1 rfl (by decide) (by decide) rfl (fun _ => rfl) (fun _ => rfl) T (fun M36 T => ?_)
        exact wp_return d_Ed_addFollowedRange_119 rfl (fun _ => rfl) (Nat.zero_le _) (Nat.zero_le _) (kV_mk T)
      · have T := T.2 h46
        refine wp_aload_n d_Ed_addFollowedRange_94 rfl rfl (g_nz (gl_1 hX 21)) ?_
        refine wp_iload_n d_Ed_addFollowedRange_95 rfl rfl ?_
        refine wp_iload_n d_Ed_addFollowedRange_96 rfl rfl ?_
        refine wp_iload d_Ed_addFollowedRange_97 rfl ?_
        refine xi_gt (tgt := 107) d_Ed_addFollowedRange_99 (by decide) (w32_id hx3) (w32_id hx4) (fun h45 => ?_) (fun h45 => ?_)
        · have T := T.1 h45
          refine wp_iload d_Ed_addFollowedRange_107 rfl ?_
          refine xcV_I (md' := true) (As := [gI x2, gI x5]) (st := [gR G s3]) d_Ed_addFollowedRange_109 ca_Ed_onLine ml_Ed_138 im_Ed_onLine se_Ed_onLine gc_Ed (gl_1 hX 21) (gl_2 hX (a := 21) (by decide)) (gl_s hX 21 rfl) rfl (by decide) (by simp only [List.map, gR_cat, gI_cat, gL_cat, List.sum_cons, List.sum_nil]; decide) rfl (fun _ => rfl) (fun _ => rfl) T (fun v38 M37 h39 T => ?_)
          refine wp_goto (tgt := 116) d_Ed_addFollowedRange_112 (by decide) ?_
          refine xcV_V (md' := true) (As := [gI v38]) (st := []) d_Ed_addFollowedRange_116 ca_St_addTarget ml_Ed_95 im_St_addTarget se_St_addTarget gc_St hs3.2.1 (gs_2 hs3.2) hs3.2.2.2.1 rfl (by decide) (by decide) rfl (fun _ => rfl) (fun _ => rfl) T (fun M40 T => ?_)
          exact wp_return d_Ed_addFollowedRange_119 rfl (fun _ => rfl) (Nat.zero_le _) (Nat.zero_le _) (kV_mk T)
        · have T := T.2 h45
          refine wp_iload d_Ed_addFollowedRange_102 rfl ?_
          refine wp_goto (tgt := 109) d_Ed_addFollowedRange_104 (by decide) ?_
          refine xcV_I (md' := true) (As := [gI x2, gI x6]) (st := [gR G s3]) d_Ed_addFollowedRange_109 ca_Ed_onLine ml_Ed_138 im_Ed_onLine se_Ed_onLine gc_Ed (gl_1 hX 21) (gl_2 hX (a := 21) (by decide)) (gl_s hX 21 rfl) rfl (by decide) (by simp only [List.map, gR_cat, gI_cat, gL_cat, List.sum_cons, List.sum_nil]; decide) rfl (fun _ => rfl) (fun _ => rfl) T (fun v42 M41 h43 T => ?_)
          refine wp_goto (tgt := 116) d_Ed_addFollowedRange_112 (by decide) ?_
          refine xcV_V (md' := true) (As := [gI v42]) (st := []) d_Ed_addFollowedRange_116 ca_St_addTarget ml_Ed_95 im_St_addTarget se_St_addTarget gc_St hs3.2.1 (gs_2 hs3.2) hs3.2.2.2.1 rfl (by decide) (by decide) rfl (fun _ => rfl) (fun _ => rfl) T (fun M44 T => ?_)
          exact wp_return d_Ed_addFollowedRange_119 rfl (fun _ => rfl) (Nat.zero_le _) (Nat.zero_le _) (kV_mk T)
    · have T := T.2 h62
      refine wp_iload d_Ed_addFollowedRange_68 rfl ?_
      refine wp_goto (tgt := 75) d_Ed_addFollowedRange_70 (by decide) ?_
      refine xcV_I (md' := true) (As := [gI x1, gI x5]) (st := [gR G s3]) d_Ed_addFollowedRange_75 ca_Ed_onLine ml_Ed_138 im_Ed_onLine se_Ed_onLine gc_Ed (gl_1 hX 21) (gl_2 hX (a := 21) (by decide)) (gl_s hX 21 rfl) rfl (by decide) (by simp only [List.map, gR_cat, gI_cat, gL_cat, List.sum_cons, List.sum_nil]; decide) rfl (fun _ => rfl) (fun _ => rfl) T (fun v48 M47 h49 T => ?_)
      refine wp_goto (tgt := 82) d_Ed_addFollowedRange_78 (by decide) ?_
      refine xcV_V (md' := true) (As := [gI v48]) (st := []) d_Ed_addFollowedRange_82 ca_St_addTarget ml_Ed_95 im_St_addTarget se_St_addTarget gc_St hs3.2.1 (gs_2 hs3.2) hs3.2.2.2.1 rfl (by decide) (by decide) rfl (fun _ => rfl) (fun _ => rfl) T (fun M50 T => ?_)
      refine wp_aload_n d_Ed_addFollowedRange_85 rfl rfl (g_nz (gl_1 hX 21)) ?_
      refine xgetR d_Ed_addFollowedRange_86 gc_Ed f_Ed_23.1 f_Ed_23.2.1 f_Ed_23.2.2.1 (gl_1 hX 21) (gl_2 hX (a := 21) (by decide)) (gl_s hX 21 rfl) f_Ed_23.2.2.2.2.1 hs3.1 ?_
      refine wp_iload d_Ed_addFollowedRange_89 rfl ?_
      refine xz_eq (tgt := 115) d_Ed_addFollowedRange_91 (by decide) (w32_id hs0) (fun h61 => ?_) (fun h61 => ?_)
      · have T := T.1 h61
        refine wp_iconst d_Ed_addFollowedRange_115 ?_
        refine xcV_V (md' := true) (As := [gI (-1)]) (st := []) d_Ed_addFollowedRange_116 ca_St_addTarget ml_Ed_95 im_St_addTarget se_St_addTarget gc_St hs3.2.1 (gs_2 hs3.2) hs3.2.2.2.1 rfl (by decide) (by decide) rfl (fun _ => rfl) (fun _ => rfl) T (fun M51 T => ?_)
        exact wp_return d_Ed_addFollowedRange_119 rfl (fun _ => rfl) (Nat.zero_le _) (Nat.zero_le _) (kV_mk T)
      · have T := T.2 h61
        refine wp_aload_n d_Ed_addFollowedRange_94 rfl rfl (g_nz (gl_1 hX 21)) ?_
        refine wp_iload_n d_Ed_addFollowedRange_95 rfl rfl ?_
        refine wp_iload_n d_Ed_addFollowedRange_96 rfl rfl ?_
        refine wp_iload d_Ed_addFollowedRange_97 rfl ?_
        refine xi_gt (tgt := 107) d_Ed_addFollowedRange_99 (by decide) (w32_id hx3) (w32_id hx4) (fun h60 => ?_) (fun h60 => ?_)
        · have T := T.1 h60
          refine wp_iload d_Ed_addFollowedRange_107 rfl ?_
          refine xcV_I (md' := true) (As := [gI x2, gI x5]) (st := [gR G s3]) d_Ed_addFollowedRange_109 ca_Ed_onLine ml_Ed_138 im_Ed_onLine se_Ed_onLine gc_Ed (gl_1 hX 21) (gl_2 hX (a := 21) (by decide)) (gl_s hX 21 rfl) rfl (by decide) (by simp only [List.map, gR_cat, gI_cat, gL_cat, List.sum_cons, List.sum_nil]; decide) rfl (fun _ => rfl) (fun _ => rfl) T (fun v53 M52 h54 T => ?_)
          refine wp_goto (tgt := 116) d_Ed_addFollowedRange_112 (by decide) ?_
          refine xcV_V (md' := true) (As := [gI v53]) (st := []) d_Ed_addFollowedRange_116 ca_St_addTarget ml_Ed_95 im_St_addTarget se_St_addTarget gc_St hs3.2.1 (gs_2 hs3.2) hs3.2.2.2.1 rfl (by decide) (by decide) rfl (fun _ => rfl) (fun _ => rfl) T (fun M55 T => ?_)
          exact wp_return d_Ed_addFollowedRange_119 rfl (fun _ => rfl) (Nat.zero_le _) (Nat.zero_le _) (kV_mk T)
        · have T := T.2 h60
          refine wp_iload d_Ed_addFollowedRange_102 rfl ?_
          refine wp_goto (tgt := 109) d_Ed_addFollowedRange_104 (by decide) ?_
          refine xcV_I (md' := true) (As := [gI x2, gI x6]) (st := [gR G s3]) d_Ed_addFollowedRange_109 ca_Ed_onLine ml_Ed_138 im_Ed_onLine se_Ed_onLine gc_Ed (gl_1 hX 21) (gl_2 hX (a := 21) (by decide)) (gl_s hX 21 rfl) rfl (by decide) (by simp only [List.map, gR_cat, gI_cat, gL_cat, List.sum_cons, List.sum_nil]; decide) rfl (fun _ => rfl) (fun _ => rfl) T (fun v57 M56 h58 T => ?_)
          refine wp_goto (tgt := 116) d_Ed_addFollowedRange_112 (by decide) ?_
          refine xcV_V (md' := true) (As := [gI v57]) (st := []) d_Ed_addFollowedRange_116 ca_St_addTarget ml_Ed_95 im_St_addTarget se_St_addTarget gc_St hs3.2.1 (gs_2 hs3.2) hs3.2.2.2.1 rfl (by decide) (by decide) rfl (fun _ => rfl) (fun _ => rfl) T (fun M59 T => ?_)
          exact wp_return d_Ed_addFollowedRange_119 rfl (fun _ => rfl) (Nat.zero_le _) (Nat.zero_le _) (kV_mk T)
theorem e_Ed_addFollowedRange {l : Launch} {G : gG} {d : Nat} {X : gX} {M : gM} {k : gM → Prop} {c : Nat} {x1 : Int} {x2 : Int} (T : wp l G y_Ed_addFollowedRange (gRm (d + 1)) true (kkV X k) false 0 [.val (gR G (c + 21)), .val (gI x1), .val (gI x2), .unset, .unset, .unset, .unset, .unset] [] X M 0 0) : cV l G y_Ed_addFollowedRange (gRm (d + 1)) true [gR G (c + 21), gI x1, gI x2] X M k := cen_V (plainFor_of_name rfl) (by simp only [lg_sl_R, lg_sl_I, lg_sl_L, lg_sl_N, List.length_cons, List.length_nil]; decide) (by unfold gEn; simp only [lg_sl_R, lg_sl_I, lg_sl_L, lg_sl_N]; exact wpt T (And.intro rfl (And.intro rfl (And.intro rfl True.intro))))
theorem d_Ed_lineOf_0 : decode prog_5_method_11_code 0 = .ok (.aload_n 0, 1) := by decide +kernel
theorem d_Ed_lineOf_1 : decode prog_5_method_11_code 1 = .ok (.getfield 99, 3) := by decide +kernel
theorem d_Ed_lineOf_4 : decode prog_5_method_11_code 4 = .ok (.ifCond .eq 10, 3) := by decide +kernel
theorem d_Ed_lineOf_14 : decode prog_5_method_11_code 14 = .ok (.iload_n 1, 1) := by decide +kernel
theorem d_Ed_lineOf_15 : decode prog_5_method_11_code 15 = .ok (.bipush 26, 2) := by decide +kernel
theorem d_Ed_lineOf_17 : decode prog_5_method_11_code 17 = .ok (.idiv, 1) := by decide +kernel
theorem d_Ed_lineOf_18 : decode prog_5_method_11_code 18 = .ok (.ireturn, 1) := by decide +kernel
theorem d_Ed_lineOf_7 : decode prog_5_method_11_code 7 = .ok (.iload_n 1, 1) := by decide +kernel
theorem d_Ed_lineOf_8 : decode prog_5_method_11_code 8 = .ok (.bipush 26, 2) := by decide +kernel
theorem d_Ed_lineOf_10 : decode prog_5_method_11_code 10 = .ok (.irem, 1) := by decide +kernel
theorem d_Ed_lineOf_11 : decode prog_5_method_11_code 11 = .ok (.goto 7, 3) := by decide +kernel
set_option maxHeartbeats 4000000 in
theorem w_Ed_lineOf_0 {l : Launch} {G : gG} {d : Nat} {X : gX} {M : gM} {k : Int → gM → Prop} {c : Nat} (hX : glX X c) {x1 : Int} (hx1 : g32 x1)  (T : (0 ≤ M (c + 21) 4 ∧ M (c + 21) 4 ≤ 1) → ((M (c + 21) 4 = 0 → (k (w32 (x1.tdiv 26)) M)) ∧ (¬ M (c + 21) 4 = 0 → (k (w32 (x1.tmod 26)) M)))) : wp l G y_Ed_lineOf (gRm d) false (kkI X k) false 0 [.val (gR G (c + 21)), .val (gI x1)] [] X M 0 0 := by
  refine wp_aload_n d_Ed_lineOf_0 rfl rfl (g_nz (gl_1 hX 21)) ?_
  refine xgetZ d_Ed_lineOf_1 gc_Ed f_Ed_99.1 f_Ed_99.2.1 f_Ed_99.2.2.1 (gl_1 hX 21) (gl_2 hX (a := 21) (by decide)) (gl_s hX 21 rfl) f_Ed_99.2.2.2.2.1 (fun h1 => ?_)
  have T := T h1
  refine xz_eq (tgt := 14) d_Ed_lineOf_4 (by decide) (w32_id (g32_z h1)) (fun h2 => ?_) (fun h2 => ?_)
  · have T := T.1 h2
    refine wp_iload_n d_Ed_lineOf_14 rfl rfl ?_
    refine wp_bipush d_Ed_lineOf_15 ⟨by decide, by decide⟩ ?_
    refine xidiv d_Ed_lineOf_17 (w32_id hx1) (w32_id (g32_c (x := 26) rfl)) (by decide) ?_
    exact wp_st (st' := [gI (w32 (x1.tdiv 26))]) (by rw [gI_w]) (wp_ireturn d_Ed_lineOf_18 rfl id (Nat.zero_le _) (Nat.zero_le _) (kI_mk (w32_ok _) T))
  · have T := T.2 h2
    refine wp_iload_n d_Ed_lineOf_7 rfl rfl ?_
    refine wp_bipush d_Ed_lineOf_8 ⟨by decide, by decide⟩ ?_
    refine xirem d_Ed_lineOf_10 (w32_id hx1) (w32_id (g32_c (x := 26) rfl)) (by decide) ?_
    refine wp_goto (tgt := 18) d_Ed_lineOf_11 (by decide) ?_
    exact wp_st (st' := [gI (w32 (x1.tmod 26))]) (by rw [gI_w]) (wp_ireturn d_Ed_lineOf_18 rfl id (Nat.zero_le _) (Nat.zero_le _) (kI_mk (w32_ok _) T))
theorem e_Ed_lineOf {l : Launch} {G : gG} {d : Nat} {X : gX} {M : gM} {k : Int → gM → Prop} {c : Nat} {x1 : Int} (T : wp l G y_Ed_lineOf (gRm d) false (kkI X k) false 0 [.val (gR G (c + 21)), .val (gI x1)] [] X M 0 0) : cI l G y_Ed_lineOf (gRm d) false [gR G (c + 21), gI x1] X M k := cen_I (plainFor_of_name rfl) (by simp only [lg_sl_R, lg_sl_I, lg_sl_L, lg_sl_N, List.length_cons, List.length_nil]; decide) (by unfold gEn; simp only [lg_sl_R, lg_sl_I, lg_sl_L, lg_sl_N]; exact wpt T (And.intro rfl (And.intro rfl True.intro)))
theorem d_Ed_onLine_0 : decode prog_5_method_12_code 0 = .ok (.aload_n 0, 1) := by decide +kernel
theorem d_Ed_onLine_1 : decode prog_5_method_12_code 1 = .ok (.getfield 99, 3) := by decide +kernel
theorem d_Ed_onLine_4 : decode prog_5_method_12_code 4 = .ok (.ifCond .eq 14, 3) := by decide +kernel
theorem d_Ed_onLine_18 : decode prog_5_method_12_code 18 = .ok (.iload_n 1, 1) := by decide +kernel
theorem d_Ed_onLine_19 : decode prog_5_method_12_code 19 = .ok (.bipush 26, 2) := by decide +kernel
theorem d_Ed_onLine_21 : decode prog_5_method_12_code 21 = .ok (.irem, 1) := by decide +kernel
theorem d_Ed_onLine_22 : decode prog_5_method_12_code 22 = .ok (.iload_n 2, 1) := by decide +kernel
theorem d_Ed_onLine_23 : decode prog_5_method_12_code 23 = .ok (.invokestatic 69, 3) := by decide +kernel
theorem d_Ed_onLine_26 : decode prog_5_method_12_code 26 = .ok (.ireturn, 1) := by decide +kernel
theorem d_Ed_onLine_7 : decode prog_5_method_12_code 7 = .ok (.iload_n 2, 1) := by decide +kernel
theorem d_Ed_onLine_8 : decode prog_5_method_12_code 8 = .ok (.iload_n 1, 1) := by decide +kernel
theorem d_Ed_onLine_9 : decode prog_5_method_12_code 9 = .ok (.bipush 26, 2) := by decide +kernel
theorem d_Ed_onLine_11 : decode prog_5_method_12_code 11 = .ok (.idiv, 1) := by decide +kernel
theorem d_Ed_onLine_12 : decode prog_5_method_12_code 12 = .ok (.invokestatic 69, 3) := by decide +kernel
theorem d_Ed_onLine_15 : decode prog_5_method_12_code 15 = .ok (.goto 11, 3) := by decide +kernel
set_option maxHeartbeats 4000000 in
theorem w_Ed_onLine_0 {l : Launch} {G : gG} {d : Nat} {X : gX} {M : gM} {k : Int → gM → Prop} {c : Nat} (hX : glX X c) {x1 : Int} (hx1 : g32 x1) {x2 : Int} (hx2 : g32 x2)  (T : (0 ≤ M (c + 21) 4 ∧ M (c + 21) 4 ≤ 1) → ((M (c + 21) 4 = 0 → (cI l G y_GL_place (gRm d) false [gI (x1.tmod 26), gI x2] X M (fun v3 M2 => (k v3 M2)))) ∧ (¬ M (c + 21) 4 = 0 → (cI l G y_GL_place (gRm d) false [gI x2, gI (x1.tdiv 26)] X M (fun v6 M5 => (k v6 M5)))))) : wp l G y_Ed_onLine (gRm (d + 1)) false (kkI X k) false 0 [.val (gR G (c + 21)), .val (gI x1), .val (gI x2)] [] X M 0 0 := by
  refine wp_aload_n d_Ed_onLine_0 rfl rfl (g_nz (gl_1 hX 21)) ?_
  refine xgetZ d_Ed_onLine_1 gc_Ed f_Ed_99.1 f_Ed_99.2.1 f_Ed_99.2.2.1 (gl_1 hX 21) (gl_2 hX (a := 21) (by decide)) (gl_s hX 21 rfl) f_Ed_99.2.2.2.2.1 (fun h1 => ?_)
  have T := T h1
  refine xz_eq (tgt := 18) d_Ed_onLine_4 (by decide) (w32_id (g32_z h1)) (fun h8 => ?_) (fun h8 => ?_)
  · have T := T.1 h8
    refine wp_iload_n d_Ed_onLine_18 rfl rfl ?_
    refine wp_bipush d_Ed_onLine_19 ⟨by decide, by decide⟩ ?_
    refine xirem d_Ed_onLine_21 (w32_id hx1) (w32_id (g32_c (x := 26) rfl)) (by decide) ?_
    refine wp_iload_n d_Ed_onLine_22 rfl rfl ?_
    refine xcN_I (md' := false) (As := [gI (x1.tmod 26), gI x2]) (st := []) d_Ed_onLine_23 ca_GL_place ml_Ed_69 sm_GL_place rfl (by decide) (by decide) rfl id id T (fun v3 M2 h4 T => ?_)
    exact wp_ireturn d_Ed_onLine_26 rfl id (Nat.zero_le _) (Nat.zero_le _) (kI_mk h4 T)
  · have T := T.2 h8
    refine wp_iload_n d_Ed_onLine_7 rfl rfl ?_
    refine wp_iload_n d_Ed_onLine_8 rfl rfl ?_
    refine wp_bipush d_Ed_onLine_9 ⟨by decide, by decide⟩ ?_
    refine xidiv d_Ed_onLine_11 (w32_id hx1) (w32_id (g32_c (x := 26) rfl)) (by decide) ?_
    refine xcN_I (md' := false) (As := [gI x2, gI (x1.tdiv 26)]) (st := []) d_Ed_onLine_12 ca_GL_place ml_Ed_69 sm_GL_place rfl (by decide) (by decide) rfl id id T (fun v6 M5 h7 T => ?_)
    refine wp_goto (tgt := 26) d_Ed_onLine_15 (by decide) ?_
    exact wp_ireturn d_Ed_onLine_26 rfl id (Nat.zero_le _) (Nat.zero_le _) (kI_mk h7 T)
theorem e_Ed_onLine {l : Launch} {G : gG} {d : Nat} {X : gX} {M : gM} {k : Int → gM → Prop} {c : Nat} {x1 : Int} {x2 : Int} (T : wp l G y_Ed_onLine (gRm (d + 1)) false (kkI X k) false 0 [.val (gR G (c + 21)), .val (gI x1), .val (gI x2)] [] X M 0 0) : cI l G y_Ed_onLine (gRm (d + 1)) false [gR G (c + 21), gI x1, gI x2] X M k := cen_I (plainFor_of_name rfl) (by simp only [lg_sl_R, lg_sl_I, lg_sl_L, lg_sl_N, List.length_cons, List.length_nil]; decide) (by unfold gEn; simp only [lg_sl_R, lg_sl_I, lg_sl_L, lg_sl_N]; exact wpt T (And.intro rfl (And.intro rfl (And.intro rfl True.intro))))
theorem d_Ed_followed_0 : decode prog_5_method_13_code 0 = .ok (.iload_n 1, 1) := by decide +kernel
theorem d_Ed_followed_1 : decode prog_5_method_13_code 1 = .ok (.iconst (-1), 1) := by decide +kernel
theorem d_Ed_followed_2 : decode prog_5_method_13_code 2 = .ok (.if_icmp .ne 5, 3) := by decide +kernel
theorem d_Ed_followed_7 : decode prog_5_method_13_code 7 = .ok (.aload_n 0, 1) := by decide +kernel
theorem d_Ed_followed_8 : decode prog_5_method_13_code 8 = .ok (.iload_n 1, 1) := by decide +kernel
theorem d_Ed_followed_9 : decode prog_5_method_13_code 9 = .ok (.invokevirtual 121, 3) := by decide +kernel
theorem d_Ed_followed_12 : decode prog_5_method_13_code 12 = .ok (.istore_n 2, 1) := by decide +kernel
theorem d_Ed_followed_13 : decode prog_5_method_13_code 13 = .ok (.aload_n 0, 1) := by decide +kernel
theorem d_Ed_followed_14 : decode prog_5_method_13_code 14 = .ok (.iload_n 2, 1) := by decide +kernel
theorem d_Ed_followed_15 : decode prog_5_method_13_code 15 = .ok (.invokevirtual 129, 3) := by decide +kernel
theorem d_Ed_followed_18 : decode prog_5_method_13_code 18 = .ok (.istore_n 3, 1) := by decide +kernel
theorem d_Ed_followed_19 : decode prog_5_method_13_code 19 = .ok (.iload_n 3, 1) := by decide +kernel
theorem d_Ed_followed_20 : decode prog_5_method_13_code 20 = .ok (.aload_n 0, 1) := by decide +kernel
theorem d_Ed_followed_21 : decode prog_5_method_13_code 21 = .ok (.iload_n 2, 1) := by decide +kernel
theorem d_Ed_followed_22 : decode prog_5_method_13_code 22 = .ok (.invokevirtual 135, 3) := by decide +kernel
theorem d_Ed_followed_25 : decode prog_5_method_13_code 25 = .ok (.if_icmp .gt 12, 3) := by decide +kernel
theorem d_Ed_followed_37 : decode prog_5_method_13_code 37 = .ok (.iconst (-1), 1) := by decide +kernel
theorem d_Ed_followed_38 : decode prog_5_method_13_code 38 = .ok (.ireturn, 1) := by decide +kernel
theorem d_Ed_followed_28 : decode prog_5_method_13_code 28 = .ok (.aload_n 0, 1) := by decide +kernel
theorem d_Ed_followed_29 : decode prog_5_method_13_code 29 = .ok (.iload_n 1, 1) := by decide +kernel
theorem d_Ed_followed_30 : decode prog_5_method_13_code 30 = .ok (.iload_n 3, 1) := by decide +kernel
theorem d_Ed_followed_31 : decode prog_5_method_13_code 31 = .ok (.invokevirtual 138, 3) := by decide +kernel
theorem d_Ed_followed_34 : decode prog_5_method_13_code 34 = .ok (.goto 4, 3) := by decide +kernel
theorem d_Ed_followed_5 : decode prog_5_method_13_code 5 = .ok (.iconst (-1), 1) := by decide +kernel
theorem d_Ed_followed_6 : decode prog_5_method_13_code 6 = .ok (.ireturn, 1) := by decide +kernel
set_option maxHeartbeats 4000000 in
theorem w_Ed_followed_0 {l : Launch} {G : gG} {d : Nat} {X : gX} {M : gM} {k : Int → gM → Prop} {c : Nat} (hX : glX X c) {x1 : Int} (hx1 : g32 x1)  (T : (¬ x1 = (-1) → (cI l G y_Ed_lineOf (gRm d) false [gR G (c + 21), gI x1] X M (fun v2 M1 => (cI l G y_Ed_followedFirst (gRm d) false [gR G (c + 21), gI v2] X M1 (fun v5 M4 => (cI l G y_Ed_followedLast (gRm d) false [gR G (c + 21), gI v2] X M4 (fun v8 M7 => ((v8 < v5 → (k (-1) M7)) ∧ (¬ v8 < v5 → (cI l G y_Ed_onLine (gRm d) false [gR G (c + 21), gI x1, gI v5] X M7 (fun v11 M10 => (k v11 M10)))))))))))) ∧ (x1 = (-1) → (k (-1) M))) : wp l G y_Ed_followed (gRm (d + 1)) false (kkI X k) false 0 [.val (gR G (c + 21)), .val (gI x1), .unset, .unset] [] X M 0 0 := by
  refine wp_iload_n d_Ed_followed_0 rfl rfl ?_
  refine wp_iconst d_Ed_followed_1 ?_
  refine xi_ne (tgt := 7) d_Ed_followed_2 (by decide) (w32_id hx1) (w32_id (g32_c (x := (-1)) rfl)) (fun h14 => ?_) (fun h14 => ?_)
  · have T := T.1 h14
    refine wp_aload_n d_Ed_followed_7 rfl rfl (g_nz (gl_1 hX 21)) ?_
    refine wp_iload_n d_Ed_followed_8 rfl rfl ?_
    refine xcV_I (md' := false) (As := [gI x1]) (st := []) d_Ed_followed_9 ca_Ed_lineOf ml_Ed_121 im_Ed_lineOf se_Ed_lineOf gc_Ed (gl_1 hX 21) (gl_2 hX (a := 21) (by decide)) (gl_s hX 21 rfl) rfl (by decide) (by decide) rfl id id T (fun v2 M1 h3 T => ?_)
    refine wp_istore_n (L' := [.val (gR G (c + 21)), .val (gI x1), .val (gI v2), .unset]) d_Ed_followed_12 rfl (by decide) rfl ?_
    refine wp_aload_n d_Ed_followed_13 rfl rfl (g_nz (gl_1 hX 21)) ?_
    refine wp_iload_n d_Ed_followed_14 rfl rfl ?_
    refine xcV_I (md' := false) (As := [gI v2]) (st := []) d_Ed_followed_15 ca_Ed_followedFirst ml_Ed_129 im_Ed_followedFirst se_Ed_followedFirst gc_Ed (gl_1 hX 21) (gl_2 hX (a := 21) (by decide)) (gl_s hX 21 rfl) rfl (by decide) (by decide) rfl id id T (fun v5 M4 h6 T => ?_)
    refine wp_istore_n (L' := [.val (gR G (c + 21)), .val (gI x1), .val (gI v2), .val (gI v5)]) d_Ed_followed_18 rfl (by decide) rfl ?_
    refine wp_iload_n d_Ed_followed_19 rfl rfl ?_
    refine wp_aload_n d_Ed_followed_20 rfl rfl (g_nz (gl_1 hX 21)) ?_
    refine wp_iload_n d_Ed_followed_21 rfl rfl ?_
    refine xcV_I (md' := false) (As := [gI v2]) (st := [gI v5]) d_Ed_followed_22 ca_Ed_followedLast ml_Ed_135 im_Ed_followedLast se_Ed_followedLast gc_Ed (gl_1 hX 21) (gl_2 hX (a := 21) (by decide)) (gl_s hX 21 rfl) rfl (by decide) (by simp only [List.map, gR_cat, gI_cat, gL_cat, List.sum_cons, List.sum_nil]; decide) rfl id id T (fun v8 M7 h9 T => ?_)
    refine xi_gt (tgt := 37) d_Ed_followed_25 (by decide) (w32_id h6) (w32_id h9) (fun h13 => ?_) (fun h13 => ?_)
    · have T := T.1 h13
      refine wp_iconst d_Ed_followed_37 ?_
      exact wp_ireturn d_Ed_followed_38 rfl id (Nat.zero_le _) (Nat.zero_le _) (kI_mk (g32_c (x := (-1)) rfl) T)
    · have T := T.2 h13
      refine wp_aload_n d_Ed_followed_28 rfl rfl (g_nz (gl_1 hX 21)) ?_
      refine wp_iload_n d_Ed_followed_29 rfl rfl ?_
      refine wp_iload_n d_Ed_followed_30 rfl rfl ?_
      refine xcV_I (md' := false) (As := [gI x1, gI v5]) (st := []) d_Ed_followed_31 ca_Ed_onLine ml_Ed_138 im_Ed_onLine se_Ed_onLine gc_Ed (gl_1 hX 21) (gl_2 hX (a := 21) (by decide)) (gl_s hX 21 rfl) rfl (by decide) (by decide) rfl id id T (fun v11 M10 h12 T => ?_)
      refine wp_goto (tgt := 38) d_Ed_followed_34 (by decide) ?_
      exact wp_ireturn d_Ed_followed_38 rfl id (Nat.zero_le _) (Nat.zero_le _) (kI_mk h12 T)
  · have T := T.2 h14
    refine wp_iconst d_Ed_followed_5 ?_
    exact wp_ireturn d_Ed_followed_6 rfl id (Nat.zero_le _) (Nat.zero_le _) (kI_mk (g32_c (x := (-1)) rfl) T)
theorem e_Ed_followed {l : Launch} {G : gG} {d : Nat} {X : gX} {M : gM} {k : Int → gM → Prop} {c : Nat} {x1 : Int} (T : wp l G y_Ed_followed (gRm (d + 1)) false (kkI X k) false 0 [.val (gR G (c + 21)), .val (gI x1), .unset, .unset] [] X M 0 0) : cI l G y_Ed_followed (gRm (d + 1)) false [gR G (c + 21), gI x1] X M k := cen_I (plainFor_of_name rfl) (by simp only [lg_sl_R, lg_sl_I, lg_sl_L, lg_sl_N, List.length_cons, List.length_nil]; decide) (by unfold gEn; simp only [lg_sl_R, lg_sl_I, lg_sl_L, lg_sl_N]; exact wpt T (And.intro rfl (And.intro rfl True.intro)))
theorem d_Ed_followedFirst_0 : decode prog_5_method_14_code 0 = .ok (.iload_n 1, 1) := by decide +kernel
theorem d_Ed_followedFirst_1 : decode prog_5_method_14_code 1 = .ok (.aload_n 0, 1) := by decide +kernel
theorem d_Ed_followedFirst_2 : decode prog_5_method_14_code 2 = .ok (.getfield 106, 3) := by decide +kernel
theorem d_Ed_followedFirst_5 : decode prog_5_method_14_code 5 = .ok (.if_icmp .ge 5, 3) := by decide +kernel
theorem d_Ed_followedFirst_10 : decode prog_5_method_14_code 10 = .ok (.aload_n 0, 1) := by decide +kernel
theorem d_Ed_followedFirst_11 : decode prog_5_method_14_code 11 = .ok (.getfield 103, 3) := by decide +kernel
theorem d_Ed_followedFirst_14 : decode prog_5_method_14_code 14 = .ok (.ifCond .eq 12, 3) := by decide +kernel
theorem d_Ed_followedFirst_26 : decode prog_5_method_14_code 26 = .ok (.iload_n 1, 1) := by decide +kernel
theorem d_Ed_followedFirst_27 : decode prog_5_method_14_code 27 = .ok (.aload_n 0, 1) := by decide +kernel
theorem d_Ed_followedFirst_28 : decode prog_5_method_14_code 28 = .ok (.getfield 109, 3) := by decide +kernel
theorem d_Ed_followedFirst_31 : decode prog_5_method_14_code 31 = .ok (.isub, 1) := by decide +kernel
theorem d_Ed_followedFirst_32 : decode prog_5_method_14_code 32 = .ok (.aload_n 0, 1) := by decide +kernel
theorem d_Ed_followedFirst_33 : decode prog_5_method_14_code 33 = .ok (.getfield 106, 3) := by decide +kernel
theorem d_Ed_followedFirst_36 : decode prog_5_method_14_code 36 = .ok (.invokestatic 132, 3) := by decide +kernel
theorem d_Ed_followedFirst_39 : decode prog_5_method_14_code 39 = .ok (.ireturn, 1) := by decide +kernel
theorem d_Ed_followedFirst_17 : decode prog_5_method_14_code 17 = .ok (.iload_n 1, 1) := by decide +kernel
theorem d_Ed_followedFirst_18 : decode prog_5_method_14_code 18 = .ok (.aload_n 0, 1) := by decide +kernel
theorem d_Ed_followedFirst_19 : decode prog_5_method_14_code 19 = .ok (.getfield 109, 3) := by decide +kernel
theorem d_Ed_followedFirst_22 : decode prog_5_method_14_code 22 = .ok (.iadd, 1) := by decide +kernel
theorem d_Ed_followedFirst_23 : decode prog_5_method_14_code 23 = .ok (.goto 16, 3) := by decide +kernel
theorem d_Ed_followedFirst_8 : decode prog_5_method_14_code 8 = .ok (.iload_n 1, 1) := by decide +kernel
theorem d_Ed_followedFirst_9 : decode prog_5_method_14_code 9 = .ok (.ireturn, 1) := by decide +kernel
set_option maxHeartbeats 4000000 in
theorem w_Ed_followedFirst_0 {l : Launch} {G : gG} {d : Nat} {X : gX} {M : gM} {k : Int → gM → Prop} {c : Nat} (hX : glX X c) {x1 : Int} (hx1 : g32 x1)  (T : g32 (M (c + 21) 6) → ((M (c + 21) 6 ≤ x1 → ((0 ≤ M (c + 21) 5 ∧ M (c + 21) 5 ≤ 1) → ((M (c + 21) 5 = 0 → (g32 (M (c + 21) 7) → (g32 (M (c + 21) 6) → (cI l G y_jMath_max (gRm d) false [gI (x1 - (M (c + 21) 7)), gI (M (c + 21) 6)] X M (fun v6 M5 => (k v6 M5)))))) ∧ (¬ M (c + 21) 5 = 0 → (g32 (M (c + 21) 7) → (k (w32 (x1 + (M (c + 21) 7))) M)))))) ∧ (¬ M (c + 21) 6 ≤ x1 → (k x1 M)))) : wp l G y_Ed_followedFirst (gRm (d + 1)) false (kkI X k) false 0 [.val (gR G (c + 21)), .val (gI x1)] [] X M 0 0 := by
  refine wp_iload_n d_Ed_followedFirst_0 rfl rfl ?_
  refine wp_aload_n d_Ed_followedFirst_1 rfl rfl (g_nz (gl_1 hX 21)) ?_
  refine xgetI d_Ed_followedFirst_2 gc_Ed f_Ed_106.1 f_Ed_106.2.1 f_Ed_106.2.2.1 (gl_1 hX 21) (gl_2 hX (a := 21) (by decide)) (gl_s hX 21 rfl) f_Ed_106.2.2.2.2.1 (fun h1 => ?_)
  have T := T h1
  refine xi_ge (tgt := 10) d_Ed_followedFirst_5 (by decide) (w32_id hx1) (w32_id h1) (fun h10 => ?_) (fun h10 => ?_)
  · have T := T.1 h10
    refine wp_aload_n d_Ed_followedFirst_10 rfl rfl (g_nz (gl_1 hX 21)) ?_
    refine xgetZ d_Ed_followedFirst_11 gc_Ed f_Ed_103.1 f_Ed_103.2.1 f_Ed_103.2.2.1 (gl_1 hX 21) (gl_2 hX (a := 21) (by decide)) (gl_s hX 21 rfl) f_Ed_103.2.2.2.2.1 (fun h2 => ?_)
    have T := T h2
    refine xz_eq (tgt := 26) d_Ed_followedFirst_14 (by decide) (w32_id (g32_z h2)) (fun h9 => ?_) (fun h9 => ?_)
    · have T := T.1 h9
      refine wp_iload_n d_Ed_followedFirst_26 rfl rfl ?_
      refine wp_aload_n d_Ed_followedFirst_27 rfl rfl (g_nz (gl_1 hX 21)) ?_
      refine xgetI d_Ed_followedFirst_28 gc_Ed f_Ed_109.1 f_Ed_109.2.1 f_Ed_109.2.2.1 (gl_1 hX 21) (gl_2 hX (a := 21) (by decide)) (gl_s hX 21 rfl) f_Ed_109.2.2.2.2.1 (fun h3 => ?_)
      have T := T h3
      refine wp_isub d_Ed_followedFirst_31 ?_
      refine wp_aload_n d_Ed_followedFirst_32 rfl rfl (g_nz (gl_1 hX 21)) ?_
      refine xgetI d_Ed_followedFirst_33 gc_Ed f_Ed_106.1 f_Ed_106.2.1 f_Ed_106.2.2.1 (gl_1 hX 21) (gl_2 hX (a := 21) (by decide)) (gl_s hX 21 rfl) f_Ed_106.2.2.2.2.1 (fun h4 => ?_)
      have T := T h4
      refine xcS_I (md' := false) (As := [gI (x1 - (M (c + 21) 7)), gI (M (c + 21) 6)]) (st := []) d_Ed_followedFirst_36 ca_jMath_max ml_Ed_132 sm_jMath_max rfl (by decide) (by decide) rfl id id T (fun v6 M5 h7 T => ?_)
      exact wp_ireturn d_Ed_followedFirst_39 rfl id (Nat.zero_le _) (Nat.zero_le _) (kI_mk h7 T)
    · have T := T.2 h9
      refine wp_iload_n d_Ed_followedFirst_17 rfl rfl ?_
      refine wp_aload_n d_Ed_followedFirst_18 rfl rfl (g_nz (gl_1 hX 21)) ?_
      refine xgetI d_Ed_followedFirst_19 gc_Ed f_Ed_109.1 f_Ed_109.2.1 f_Ed_109.2.2.1 (gl_1 hX 21) (gl_2 hX (a := 21) (by decide)) (gl_s hX 21 rfl) f_Ed_109.2.2.2.2.1 (fun h8 => ?_)
      have T := T h8
      refine wp_iadd d_Ed_followedFirst_22 ?_
      refine wp_goto (tgt := 39) d_Ed_followedFirst_23 (by decide) ?_
      exact wp_st (st' := [gI (w32 (x1 + (M (c + 21) 7)))]) (by rw [gI_w]) (wp_ireturn d_Ed_followedFirst_39 rfl id (Nat.zero_le _) (Nat.zero_le _) (kI_mk (w32_ok _) T))
  · have T := T.2 h10
    refine wp_iload_n d_Ed_followedFirst_8 rfl rfl ?_
    exact wp_ireturn d_Ed_followedFirst_9 rfl id (Nat.zero_le _) (Nat.zero_le _) (kI_mk hx1 T)
theorem e_Ed_followedFirst {l : Launch} {G : gG} {d : Nat} {X : gX} {M : gM} {k : Int → gM → Prop} {c : Nat} {x1 : Int} (T : wp l G y_Ed_followedFirst (gRm (d + 1)) false (kkI X k) false 0 [.val (gR G (c + 21)), .val (gI x1)] [] X M 0 0) : cI l G y_Ed_followedFirst (gRm (d + 1)) false [gR G (c + 21), gI x1] X M k := cen_I (plainFor_of_name rfl) (by simp only [lg_sl_R, lg_sl_I, lg_sl_L, lg_sl_N, List.length_cons, List.length_nil]; decide) (by unfold gEn; simp only [lg_sl_R, lg_sl_I, lg_sl_L, lg_sl_N]; exact wpt T (And.intro rfl (And.intro rfl True.intro)))
theorem d_Ed_followedLast_0 : decode prog_5_method_15_code 0 = .ok (.iload_n 1, 1) := by decide +kernel
theorem d_Ed_followedLast_1 : decode prog_5_method_15_code 1 = .ok (.aload_n 0, 1) := by decide +kernel
theorem d_Ed_followedLast_2 : decode prog_5_method_15_code 2 = .ok (.getfield 106, 3) := by decide +kernel
theorem d_Ed_followedLast_5 : decode prog_5_method_15_code 5 = .ok (.if_icmp .ge 5, 3) := by decide +kernel
theorem d_Ed_followedLast_10 : decode prog_5_method_15_code 10 = .ok (.aload_n 0, 1) := by decide +kernel
theorem d_Ed_followedLast_11 : decode prog_5_method_15_code 11 = .ok (.getfield 103, 3) := by decide +kernel
theorem d_Ed_followedLast_14 : decode prog_5_method_15_code 14 = .ok (.ifCond .eq 22, 3) := by decide +kernel
theorem d_Ed_followedLast_36 : decode prog_5_method_15_code 36 = .ok (.iload_n 1, 1) := by decide +kernel
theorem d_Ed_followedLast_37 : decode prog_5_method_15_code 37 = .ok (.aload_n 0, 1) := by decide +kernel
theorem d_Ed_followedLast_38 : decode prog_5_method_15_code 38 = .ok (.getfield 109, 3) := by decide +kernel
theorem d_Ed_followedLast_41 : decode prog_5_method_15_code 41 = .ok (.isub, 1) := by decide +kernel
theorem d_Ed_followedLast_42 : decode prog_5_method_15_code 42 = .ok (.aload_n 0, 1) := by decide +kernel
theorem d_Ed_followedLast_43 : decode prog_5_method_15_code 43 = .ok (.getfield 106, 3) := by decide +kernel
theorem d_Ed_followedLast_46 : decode prog_5_method_15_code 46 = .ok (.iconst 1, 1) := by decide +kernel
theorem d_Ed_followedLast_47 : decode prog_5_method_15_code 47 = .ok (.isub, 1) := by decide +kernel
theorem d_Ed_followedLast_48 : decode prog_5_method_15_code 48 = .ok (.invokestatic 132, 3) := by decide +kernel
theorem d_Ed_followedLast_51 : decode prog_5_method_15_code 51 = .ok (.ireturn, 1) := by decide +kernel
theorem d_Ed_followedLast_17 : decode prog_5_method_15_code 17 = .ok (.iload_n 1, 1) := by decide +kernel
theorem d_Ed_followedLast_18 : decode prog_5_method_15_code 18 = .ok (.aload_n 0, 1) := by decide +kernel
theorem d_Ed_followedLast_19 : decode prog_5_method_15_code 19 = .ok (.getfield 109, 3) := by decide +kernel
theorem d_Ed_followedLast_22 : decode prog_5_method_15_code 22 = .ok (.iadd, 1) := by decide +kernel
theorem d_Ed_followedLast_23 : decode prog_5_method_15_code 23 = .ok (.aload_n 0, 1) := by decide +kernel
theorem d_Ed_followedLast_24 : decode prog_5_method_15_code 24 = .ok (.getfield 99, 3) := by decide +kernel
theorem d_Ed_followedLast_27 : decode prog_5_method_15_code 27 = .ok (.invokestatic 141, 3) := by decide +kernel
theorem d_Ed_followedLast_30 : decode prog_5_method_15_code 30 = .ok (.iconst 1, 1) := by decide +kernel
theorem d_Ed_followedLast_31 : decode prog_5_method_15_code 31 = .ok (.isub, 1) := by decide +kernel
theorem d_Ed_followedLast_32 : decode prog_5_method_15_code 32 = .ok (.invokestatic 124, 3) := by decide +kernel
theorem d_Ed_followedLast_35 : decode prog_5_method_15_code 35 = .ok (.ireturn, 1) := by decide +kernel
theorem d_Ed_followedLast_8 : decode prog_5_method_15_code 8 = .ok (.iload_n 1, 1) := by decide +kernel
theorem d_Ed_followedLast_9 : decode prog_5_method_15_code 9 = .ok (.ireturn, 1) := by decide +kernel
set_option maxHeartbeats 4000000 in
theorem w_Ed_followedLast_0 {l : Launch} {G : gG} {d : Nat} {X : gX} {M : gM} {k : Int → gM → Prop} {c : Nat} (hX : glX X c) {x1 : Int} (hx1 : g32 x1)  (T : g32 (M (c + 21) 6) → ((M (c + 21) 6 ≤ x1 → ((0 ≤ M (c + 21) 5 ∧ M (c + 21) 5 ≤ 1) → ((M (c + 21) 5 = 0 → (g32 (M (c + 21) 7) → (g32 (M (c + 21) 6) → (cI l G y_jMath_max (gRm d) false [gI (x1 - (M (c + 21) 7)), gI ((M (c + 21) 6) - 1)] X M (fun v6 M5 => (k v6 M5)))))) ∧ (¬ M (c + 21) 5 = 0 → (g32 (M (c + 21) 7) → ((0 ≤ M (c + 21) 4 ∧ M (c + 21) 4 ≤ 1) → (cI l G y_GL_lines (gRm d) false [gI (M (c + 21) 4)] X M (fun v11 M10 => (cI l G y_jMath_min (gRm d) false [gI (x1 + (M (c + 21) 7)), gI (v11 - 1)] X M10 (fun v14 M13 => (k v14 M13))))))))))) ∧ (¬ M (c + 21) 6 ≤ x1 → (k x1 M)))) : wp l G y_Ed_followedLast (gRm (d + 1)) false (kkI X k) false 0 [.val (gR G (c + 21)), .val (gI x1)] [] X M 0 0 := by
  refine wp_iload_n d_Ed_followedLast_0 rfl rfl ?_
  refine wp_aload_n d_Ed_followedLast_1 rfl rfl (g_nz (gl_1 hX 21)) ?_
  refine xgetI d_Ed_followedLast_2 gc_Ed f_Ed_106.1 f_Ed_106.2.1 f_Ed_106.2.2.1 (gl_1 hX 21) (gl_2 hX (a := 21) (by decide)) (gl_s hX 21 rfl) f_Ed_106.2.2.2.2.1 (fun h1 => ?_)
  have T := T h1
  refine xi_ge (tgt := 10) d_Ed_followedLast_5 (by decide) (w32_id hx1) (w32_id h1) (fun h17 => ?_) (fun h17 => ?_)
  · have T := T.1 h17
    refine wp_aload_n d_Ed_followedLast_10 rfl rfl (g_nz (gl_1 hX 21)) ?_
    refine xgetZ d_Ed_followedLast_11 gc_Ed f_Ed_103.1 f_Ed_103.2.1 f_Ed_103.2.2.1 (gl_1 hX 21) (gl_2 hX (a := 21) (by decide)) (gl_s hX 21 rfl) f_Ed_103.2.2.2.2.1 (fun h2 => ?_)
    have T := T h2
    refine xz_eq (tgt := 36) d_Ed_followedLast_14 (by decide) (w32_id (g32_z h2)) (fun h16 => ?_) (fun h16 => ?_)
    · have T := T.1 h16
      refine wp_iload_n d_Ed_followedLast_36 rfl rfl ?_
      refine wp_aload_n d_Ed_followedLast_37 rfl rfl (g_nz (gl_1 hX 21)) ?_
      refine xgetI d_Ed_followedLast_38 gc_Ed f_Ed_109.1 f_Ed_109.2.1 f_Ed_109.2.2.1 (gl_1 hX 21) (gl_2 hX (a := 21) (by decide)) (gl_s hX 21 rfl) f_Ed_109.2.2.2.2.1 (fun h3 => ?_)
      have T := T h3
      refine wp_isub d_Ed_followedLast_41 ?_
      refine wp_aload_n d_Ed_followedLast_42 rfl rfl (g_nz (gl_1 hX 21)) ?_
      refine xgetI d_Ed_followedLast_43 gc_Ed f_Ed_106.1 f_Ed_106.2.1 f_Ed_106.2.2.1 (gl_1 hX 21) (gl_2 hX (a := 21) (by decide)) (gl_s hX 21 rfl) f_Ed_106.2.2.2.2.1 (fun h4 => ?_)
      have T := T h4
      refine wp_iconst d_Ed_followedLast_46 ?_
      refine wp_isub d_Ed_followedLast_47 ?_
      refine xcS_I (md' := false) (As := [gI (x1 - (M (c + 21) 7)), gI ((M (c + 21) 6) - 1)]) (st := []) d_Ed_followedLast_48 ca_jMath_max ml_Ed_132 sm_jMath_max rfl (by decide) (by decide) rfl id id T (fun v6 M5 h7 T => ?_)
      exact wp_ireturn d_Ed_followedLast_51 rfl id (Nat.zero_le _) (Nat.zero_le _) (kI_mk h7 T)
    · have T := T.2 h16
      refine wp_iload_n d_Ed_followedLast_17 rfl rfl ?_
      refine wp_aload_n d_Ed_followedLast_18 rfl rfl (g_nz (gl_1 hX 21)) ?_
      refine xgetI d_Ed_followedLast_19 gc_Ed f_Ed_109.1 f_Ed_109.2.1 f_Ed_109.2.2.1 (gl_1 hX 21) (gl_2 hX (a := 21) (by decide)) (gl_s hX 21 rfl) f_Ed_109.2.2.2.2.1 (fun h8 => ?_)
      have T := T h8
      refine wp_iadd d_Ed_followedLast_22 ?_
      refine wp_aload_n d_Ed_followedLast_23 rfl rfl (g_nz (gl_1 hX 21)) ?_
      refine xgetZ d_Ed_followedLast_24 gc_Ed f_Ed_99.1 f_Ed_99.2.1 f_Ed_99.2.2.1 (gl_1 hX 21) (gl_2 hX (a := 21) (by decide)) (gl_s hX 21 rfl) f_Ed_99.2.2.2.2.1 (fun h9 => ?_)
      have T := T h9
      refine xcN_I (md' := false) (As := [gI (M (c + 21) 4)]) (st := [gI (x1 + (M (c + 21) 7))]) d_Ed_followedLast_27 ca_GL_lines ml_Ed_141 sm_GL_lines rfl (by decide) (by simp only [List.map, gR_cat, gI_cat, gL_cat, List.sum_cons, List.sum_nil]; decide) rfl id id T (fun v11 M10 h12 T => ?_)
      refine wp_iconst d_Ed_followedLast_30 ?_
      refine wp_isub d_Ed_followedLast_31 ?_
      refine xcS_I (md' := false) (As := [gI (x1 + (M (c + 21) 7)), gI (v11 - 1)]) (st := []) d_Ed_followedLast_32 ca_jMath_min ml_Ed_124 sm_jMath_min rfl (by decide) (by decide) rfl id id T (fun v14 M13 h15 T => ?_)
      exact wp_ireturn d_Ed_followedLast_35 rfl id (Nat.zero_le _) (Nat.zero_le _) (kI_mk h15 T)
  · have T := T.2 h17
    refine wp_iload_n d_Ed_followedLast_8 rfl rfl ?_
    exact wp_ireturn d_Ed_followedLast_9 rfl id (Nat.zero_le _) (Nat.zero_le _) (kI_mk hx1 T)
theorem e_Ed_followedLast {l : Launch} {G : gG} {d : Nat} {X : gX} {M : gM} {k : Int → gM → Prop} {c : Nat} {x1 : Int} (T : wp l G y_Ed_followedLast (gRm (d + 1)) false (kkI X k) false 0 [.val (gR G (c + 21)), .val (gI x1)] [] X M 0 0) : cI l G y_Ed_followedLast (gRm (d + 1)) false [gR G (c + 21), gI x1] X M k := cen_I (plainFor_of_name rfl) (by simp only [lg_sl_R, lg_sl_I, lg_sl_L, lg_sl_N, List.length_cons, List.length_nil]; decide) (by unfold gEn; simp only [lg_sl_R, lg_sl_I, lg_sl_L, lg_sl_N]; exact wpt T (And.intro rfl (And.intro rfl True.intro)))
theorem d_Ed_rangesFit_0 : decode prog_5_method_16_code 0 = .ok (.iconst 0, 1) := by decide +kernel
theorem d_Ed_rangesFit_1 : decode prog_5_method_16_code 1 = .ok (.istore_n 1, 1) := by decide +kernel
theorem d_Ed_rangesFit_2 : decode prog_5_method_16_code 2 = .ok (.iconst 0, 1) := by decide +kernel
theorem d_Ed_rangesFit_3 : decode prog_5_method_16_code 3 = .ok (.istore_n 2, 1) := by decide +kernel
theorem d_Ed_rangesFit_4 : decode prog_5_method_16_code 4 = .ok (.iload_n 2, 1) := by decide +kernel
theorem d_Ed_rangesFit_5 : decode prog_5_method_16_code 5 = .ok (.aload_n 0, 1) := by decide +kernel
theorem d_Ed_rangesFit_6 : decode prog_5_method_16_code 6 = .ok (.getfield 23, 3) := by decide +kernel
theorem d_Ed_rangesFit_9 : decode prog_5_method_16_code 9 = .ok (.getfield 26, 3) := by decide +kernel
theorem d_Ed_rangesFit_12 : decode prog_5_method_16_code 12 = .ok (.if_icmp .ge 37, 3) := by decide +kernel
theorem d_Ed_rangesFit_49 : decode prog_5_method_16_code 49 = .ok (.iload_n 1, 1) := by decide +kernel
theorem d_Ed_rangesFit_50 : decode prog_5_method_16_code 50 = .ok (.sipush 20000, 3) := by decide +kernel
theorem d_Ed_rangesFit_53 : decode prog_5_method_16_code 53 = .ok (.if_icmp .gt 7, 3) := by decide +kernel
theorem d_Ed_rangesFit_60 : decode prog_5_method_16_code 60 = .ok (.iconst 0, 1) := by decide +kernel
theorem d_Ed_rangesFit_61 : decode prog_5_method_16_code 61 = .ok (.ireturn, 1) := by decide +kernel
theorem d_Ed_rangesFit_56 : decode prog_5_method_16_code 56 = .ok (.iconst 1, 1) := by decide +kernel
theorem d_Ed_rangesFit_57 : decode prog_5_method_16_code 57 = .ok (.goto 4, 3) := by decide +kernel
theorem d_Ed_rangesFit_15 : decode prog_5_method_16_code 15 = .ok (.aload_n 0, 1) := by decide +kernel
theorem d_Ed_rangesFit_16 : decode prog_5_method_16_code 16 = .ok (.getfield 15, 3) := by decide +kernel
theorem d_Ed_rangesFit_19 : decode prog_5_method_16_code 19 = .ok (.getfield 144, 3) := by decide +kernel
theorem d_Ed_rangesFit_22 : decode prog_5_method_16_code 22 = .ok (.aload_n 0, 1) := by decide +kernel
theorem d_Ed_rangesFit_23 : decode prog_5_method_16_code 23 = .ok (.getfield 23, 3) := by decide +kernel
theorem d_Ed_rangesFit_26 : decode prog_5_method_16_code 26 = .ok (.getfield 60, 3) := by decide +kernel
theorem d_Ed_rangesFit_29 : decode prog_5_method_16_code 29 = .ok (.iload_n 2, 1) := by decide +kernel
theorem d_Ed_rangesFit_30 : decode prog_5_method_16_code 30 = .ok (.iaload, 1) := by decide +kernel
theorem d_Ed_rangesFit_31 : decode prog_5_method_16_code 31 = .ok (.iaload, 1) := by decide +kernel
theorem d_Ed_rangesFit_32 : decode prog_5_method_16_code 32 = .ok (.ifCond .le 11, 3) := by decide +kernel
theorem d_Ed_rangesFit_43 : decode prog_5_method_16_code 43 = .ok (.iinc 2 1, 3) := by decide +kernel
theorem d_Ed_rangesFit_46 : decode prog_5_method_16_code 46 = .ok (.goto (-42), 3) := by decide +kernel
theorem d_Ed_rangesFit_35 : decode prog_5_method_16_code 35 = .ok (.iload_n 1, 1) := by decide +kernel
theorem d_Ed_rangesFit_36 : decode prog_5_method_16_code 36 = .ok (.aload_n 0, 1) := by decide +kernel
theorem d_Ed_rangesFit_37 : decode prog_5_method_16_code 37 = .ok (.iload_n 2, 1) := by decide +kernel
theorem d_Ed_rangesFit_38 : decode prog_5_method_16_code 38 = .ok (.invokevirtual 147, 3) := by decide +kernel
theorem d_Ed_rangesFit_41 : decode prog_5_method_16_code 41 = .ok (.iadd, 1) := by decide +kernel
theorem d_Ed_rangesFit_42 : decode prog_5_method_16_code 42 = .ok (.istore_n 1, 1) := by decide +kernel
set_option maxHeartbeats 4000000 in
theorem w_Ed_rangesFit_0 {l : Launch} {G : gG} {d : Nat} {X : gX} {M : gM} {k : Int → gM → Prop} {c : Nat} (hX : glX X c)   (T : wp l G y_Ed_rangesFit (gRm (d + 1)) false (kkZ X k) false 4 [.val (gR G (c + 21)), .val (gI 0), .val (gI 0)] [] X M 0 0) : wp l G y_Ed_rangesFit (gRm (d + 1)) false (kkZ X k) false 0 [.val (gR G (c + 21)), .unset, .unset] [] X M 0 0 := by
  refine wp_iconst d_Ed_rangesFit_0 ?_
  refine wp_istore_n (L' := [.val (gR G (c + 21)), .val (gI 0), .unset]) d_Ed_rangesFit_1 rfl (by decide) (gS1_R rfl rfl) ?_
  refine wp_iconst d_Ed_rangesFit_2 ?_
  refine wp_istore_n (L' := [.val (gR G (c + 21)), .val (gI 0), .val (gI 0)]) d_Ed_rangesFit_3 rfl (by decide) rfl ?_
  exact (wpt T (And.intro rfl (And.intro rfl (And.intro rfl True.intro))))
set_option maxHeartbeats 4000000 in
theorem w_Ed_rangesFit_4 {l : Launch} {G : gG} {d : Nat} {X : gX} {M : gM} {k : Int → gM → Prop} {c : Nat} (hX : glX X c) {x1 : Int} (hx1 : g32 x1) {x2 : Int} (hx2 : g32 x2) {s3 : Nat} (hs3 : X.2.2 (c + 21) 3 = s3 ∧ gsX X s3) (T : g32 (M s3 0) → ((M s3 0 ≤ x2 → ((20000 < x1 → (k 0 M)) ∧ (¬ 20000 < x1 → (k 1 M)))) ∧ (¬ M s3 0 ≤ x2 → (((0 : Int) ≤ x2 ∧ x2 < 400) ∧ (g32 (M (s3 + 2) (Int.toNat x2)) → (((0 : Int) ≤ M (s3 + 2) (Int.toNat x2) ∧ M (s3 + 2) (Int.toNat x2) < 513) ∧ (g32 (M (c + 8) (Int.toNat (M (s3 + 2) (Int.toNat x2)))) → ((M (c + 8) (Int.toNat (M (s3 + 2) (Int.toNat x2))) ≤ 0 → (wp l G y_Ed_rangesFit (gRm (d + 1)) false (kkZ X k) false 4 [.val (gR G (c + 21)), .val (gI x1), .val (gI (w32 (x2 + 1)))] [] X M 0 0)) ∧ (¬ M (c + 8) (Int.toNat (M (s3 + 2) (Int.toNat x2))) ≤ 0 → (cI l G y_Ed_rangeCells (gRm d) false [gR G (c + 21), gI x2] X M (fun v6 M5 => (wp l G y_Ed_rangesFit (gRm (d + 1)) false (kkZ X k) false 4 [.val (gR G (c + 21)), .val (gI (w32 (x1 + v6))), .val (gI (w32 (x2 + 1)))] [] X M5 0 0)))))))))))) : wp l G y_Ed_rangesFit (gRm (d + 1)) false (kkZ X k) false 4 [.val (gR G (c + 21)), .val (gI x1), .val (gI x2)] [] X M 0 0 := by
  refine wp_iload_n d_Ed_rangesFit_4 rfl rfl ?_
  refine wp_aload_n d_Ed_rangesFit_5 rfl rfl (g_nz (gl_1 hX 21)) ?_
  refine xgetR d_Ed_rangesFit_6 gc_Ed f_Ed_23.1 f_Ed_23.2.1 f_Ed_23.2.2.1 (gl_1 hX 21) (gl_2 hX (a := 21) (by decide)) (gl_s hX 21 rfl) f_Ed_23.2.2.2.2.1 hs3.1 ?_
  refine xgetI d_Ed_rangesFit_9 gc_St f_Ed_26.1 f_Ed_26.2.1 f_Ed_26.2.2.1 hs3.2.1 (gs_2 hs3.2) hs3.2.2.2.1 f_Ed_26.2.2.2.2.1 (fun h1 => ?_)
  have T := T h1
  refine xi_ge (tgt := 49) d_Ed_rangesFit_12 (by decide) (w32_id hx2) (w32_id h1) (fun h9 => ?_) (fun h9 => ?_)
  · have T := T.1 h9
    refine wp_iload_n d_Ed_rangesFit_49 rfl rfl ?_
    refine wp_sipush d_Ed_rangesFit_50 ⟨by decide, by decide⟩ ?_
    refine xi_gt (tgt := 60) d_Ed_rangesFit_53 (by decide) (w32_id hx1) (w32_id (g32_c (x := 20000) rfl)) (fun h2 => ?_) (fun h2 => ?_)
    · have T := T.1 h2
      refine wp_iconst d_Ed_rangesFit_60 ?_
      exact wp_zreturn d_Ed_rangesFit_61 rfl (g_narz (⟨by decide, by decide⟩ : (0 : Int) ≤ 0 ∧ (0 : Int) ≤ 1)) id (Nat.zero_le _) (Nat.zero_le _) (kZ_mk (⟨by decide, by decide⟩ : (0 : Int) ≤ 0 ∧ (0 : Int) ≤ 1) T)
    · have T := T.2 h2
      refine wp_iconst d_Ed_rangesFit_56 ?_
      refine wp_goto (tgt := 61) d_Ed_rangesFit_57 (by decide) ?_
      exact wp_zreturn d_Ed_rangesFit_61 rfl (g_narz (⟨by decide, by decide⟩ : (0 : Int) ≤ 1 ∧ (1 : Int) ≤ 1)) id (Nat.zero_le _) (Nat.zero_le _) (kZ_mk (⟨by decide, by decide⟩ : (0 : Int) ≤ 1 ∧ (1 : Int) ≤ 1) T)
  · have T := T.2 h9
    refine wp_aload_n d_Ed_rangesFit_15 rfl rfl (g_nz (gl_1 hX 21)) ?_
    refine xgetR d_Ed_rangesFit_16 gc_Ed f_Ed_15.1 f_Ed_15.2.1 f_Ed_15.2.2.1 (gl_1 hX 21) (gl_2 hX (a := 21) (by decide)) (gl_s hX 21 rfl) f_Ed_15.2.2.2.2.1 (gl_f hX 25 rfl) ?_
    refine xgetR d_Ed_rangesFit_19 gc_Cn f_Ed_144.1 f_Ed_144.2.1 f_Ed_144.2.2.1 (gl_1 hX 2) (gl_2 hX (a := 2) (by decide)) (gl_s hX 2 rfl) f_Ed_144.2.2.2.2.1 (gl_f hX 7 rfl) ?_
    refine wp_aload_n d_Ed_rangesFit_22 rfl rfl (g_nz (gl_1 hX 21)) ?_
    refine xgetR d_Ed_rangesFit_23 gc_Ed f_Ed_23.1 f_Ed_23.2.1 f_Ed_23.2.2.1 (gl_1 hX 21) (gl_2 hX (a := 21) (by decide)) (gl_s hX 21 rfl) f_Ed_23.2.2.2.2.1 hs3.1 ?_
    refine xgetR d_Ed_rangesFit_26 gc_St f_Ed_60.1 f_Ed_60.2.1 f_Ed_60.2.2.1 hs3.2.1 (gs_2 hs3.2) hs3.2.2.2.1 f_Ed_60.2.2.2.2.1 (gs_r hs3.2 1 rfl).1 ?_
    refine wp_iload_n d_Ed_rangesFit_29 rfl rfl ?_
    refine wp_iaload d_Ed_rangesFit_30 (gs_r hs3.2 1 rfl).2.2.1 (gs_r hs3.2 1 rfl).2.2.2 (gs_r hs3.2 1 rfl).2.1 (g32_n T.1 (by decide)) T.1.1 T.1.2 (fun h3 => ?_)
    have T := T.2 h3
    refine wp_iaload d_Ed_rangesFit_31 (gl_1 hX 8) (gl_2 hX (a := 8) (by decide)) (gl_s hX 8 rfl) (g32_n T.1 (by decide)) T.1.1 T.1.2 (fun h4 => ?_)
    have T := T.2 h4
    refine xz_le (tgt := 43) d_Ed_rangesFit_32 (by decide) (w32_id h4) (fun h8 => ?_) (fun h8 => ?_)
    · have T := T.1 h8
      refine wp_iinc (L' := [.val (gR G (c + 21)), .val (gI x1), .val (gI (x2 + 1))]) d_Ed_rangesFit_43 rfl (by decide) rfl ?_
      refine wp_goto (tgt := 4) d_Ed_rangesFit_46 (by decide) ?_
      exact (wpt T (And.intro rfl (And.intro rfl (And.intro (gI_w _) True.intro))))
    · have T := T.2 h8
      refine wp_iload_n d_Ed_rangesFit_35 rfl rfl ?_
      refine wp_aload_n d_Ed_rangesFit_36 rfl rfl (g_nz (gl_1 hX 21)) ?_
      refine wp_iload_n d_Ed_rangesFit_37 rfl rfl ?_
      refine xcV_I (md' := false) (As := [gI x2]) (st := [gI x1]) d_Ed_rangesFit_38 ca_Ed_rangeCells ml_Ed_147 im_Ed_rangeCells se_Ed_rangeCells gc_Ed (gl_1 hX 21) (gl_2 hX (a := 21) (by decide)) (gl_s hX 21 rfl) rfl (by decide) (by simp only [List.map, gR_cat, gI_cat, gL_cat, List.sum_cons, List.sum_nil]; decide) rfl id id T (fun v6 M5 h7 T => ?_)
      refine wp_iadd d_Ed_rangesFit_41 ?_
      refine wp_istore_n (L' := [.val (gR G (c + 21)), .val (gI (x1 + v6)), .val (gI x2)]) d_Ed_rangesFit_42 rfl (by decide) (gS1_R rfl rfl) ?_
      refine wp_iinc (L' := [.val (gR G (c + 21)), .val (gI (x1 + v6)), .val (gI (x2 + 1))]) d_Ed_rangesFit_43 rfl (by decide) rfl ?_
      refine wp_goto (tgt := 4) d_Ed_rangesFit_46 (by decide) ?_
      exact (wpt T (And.intro rfl (And.intro (gI_w _) (And.intro (gI_w _) True.intro))))
theorem e_Ed_rangesFit {l : Launch} {G : gG} {d : Nat} {X : gX} {M : gM} {k : Int → gM → Prop} {c : Nat} (T : wp l G y_Ed_rangesFit (gRm (d + 1)) false (kkZ X k) false 0 [.val (gR G (c + 21)), .unset, .unset] [] X M 0 0) : cZ l G y_Ed_rangesFit (gRm (d + 1)) false [gR G (c + 21)] X M k := cen_Z (plainFor_of_name rfl) (by simp only [lg_sl_R, lg_sl_I, lg_sl_L, lg_sl_N, List.length_cons, List.length_nil]; decide) (by unfold gEn; simp only [lg_sl_R, lg_sl_I, lg_sl_L, lg_sl_N]; exact wpt T (And.intro rfl True.intro))
theorem d_Ed_rangeCells_0 : decode prog_5_method_17_code 0 = .ok (.aload_n 0, 1) := by decide +kernel
theorem d_Ed_rangeCells_1 : decode prog_5_method_17_code 1 = .ok (.getfield 15, 3) := by decide +kernel
theorem d_Ed_rangeCells_4 : decode prog_5_method_17_code 4 = .ok (.getfield 37, 3) := by decide +kernel
theorem d_Ed_rangeCells_7 : decode prog_5_method_17_code 7 = .ok (.aload_n 0, 1) := by decide +kernel
theorem d_Ed_rangeCells_8 : decode prog_5_method_17_code 8 = .ok (.getfield 23, 3) := by decide +kernel
theorem d_Ed_rangeCells_11 : decode prog_5_method_17_code 11 = .ok (.getfield 60, 3) := by decide +kernel
theorem d_Ed_rangeCells_14 : decode prog_5_method_17_code 14 = .ok (.iload_n 1, 1) := by decide +kernel
theorem d_Ed_rangeCells_15 : decode prog_5_method_17_code 15 = .ok (.iaload, 1) := by decide +kernel
theorem d_Ed_rangeCells_16 : decode prog_5_method_17_code 16 = .ok (.iaload, 1) := by decide +kernel
theorem d_Ed_rangeCells_17 : decode prog_5_method_17_code 17 = .ok (.aload_n 0, 1) := by decide +kernel
theorem d_Ed_rangeCells_18 : decode prog_5_method_17_code 18 = .ok (.getfield 23, 3) := by decide +kernel
theorem d_Ed_rangeCells_21 : decode prog_5_method_17_code 21 = .ok (.getfield 64, 3) := by decide +kernel
theorem d_Ed_rangeCells_24 : decode prog_5_method_17_code 24 = .ok (.iload_n 1, 1) := by decide +kernel
theorem d_Ed_rangeCells_25 : decode prog_5_method_17_code 25 = .ok (.iaload, 1) := by decide +kernel
theorem d_Ed_rangeCells_26 : decode prog_5_method_17_code 26 = .ok (.isub, 1) := by decide +kernel
theorem d_Ed_rangeCells_27 : decode prog_5_method_17_code 27 = .ok (.istore_n 2, 1) := by decide +kernel
theorem d_Ed_rangeCells_28 : decode prog_5_method_17_code 28 = .ok (.iconst 0, 1) := by decide +kernel
theorem d_Ed_rangeCells_29 : decode prog_5_method_17_code 29 = .ok (.istore_n 3, 1) := by decide +kernel
theorem d_Ed_rangeCells_30 : decode prog_5_method_17_code 30 = .ok (.aload_n 0, 1) := by decide +kernel
theorem d_Ed_rangeCells_31 : decode prog_5_method_17_code 31 = .ok (.getfield 23, 3) := by decide +kernel
theorem d_Ed_rangeCells_34 : decode prog_5_method_17_code 34 = .ok (.getfield 64, 3) := by decide +kernel
theorem d_Ed_rangeCells_37 : decode prog_5_method_17_code 37 = .ok (.iload_n 1, 1) := by decide +kernel
theorem d_Ed_rangeCells_38 : decode prog_5_method_17_code 38 = .ok (.iaload, 1) := by decide +kernel
theorem d_Ed_rangeCells_39 : decode prog_5_method_17_code 39 = .ok (.istore 4, 2) := by decide +kernel
theorem d_Ed_rangeCells_41 : decode prog_5_method_17_code 41 = .ok (.iload 4, 2) := by decide +kernel
theorem d_Ed_rangeCells_43 : decode prog_5_method_17_code 43 = .ok (.aload_n 0, 1) := by decide +kernel
theorem d_Ed_rangeCells_44 : decode prog_5_method_17_code 44 = .ok (.getfield 23, 3) := by decide +kernel
theorem d_Ed_rangeCells_47 : decode prog_5_method_17_code 47 = .ok (.getfield 64, 3) := by decide +kernel
theorem d_Ed_rangeCells_50 : decode prog_5_method_17_code 50 = .ok (.iload_n 1, 1) := by decide +kernel
theorem d_Ed_rangeCells_51 : decode prog_5_method_17_code 51 = .ok (.iconst 1, 1) := by decide +kernel
theorem d_Ed_rangeCells_52 : decode prog_5_method_17_code 52 = .ok (.iadd, 1) := by decide +kernel
theorem d_Ed_rangeCells_53 : decode prog_5_method_17_code 53 = .ok (.iaload, 1) := by decide +kernel
theorem d_Ed_rangeCells_54 : decode prog_5_method_17_code 54 = .ok (.if_icmp .ge 102, 3) := by decide +kernel
theorem d_Ed_rangeCells_156 : decode prog_5_method_17_code 156 = .ok (.iload_n 3, 1) := by decide +kernel
theorem d_Ed_rangeCells_157 : decode prog_5_method_17_code 157 = .ok (.ireturn, 1) := by decide +kernel
theorem d_Ed_rangeCells_57 : decode prog_5_method_17_code 57 = .ok (.aload_n 0, 1) := by decide +kernel
theorem d_Ed_rangeCells_58 : decode prog_5_method_17_code 58 = .ok (.getfield 23, 3) := by decide +kernel
theorem d_Ed_rangeCells_61 : decode prog_5_method_17_code 61 = .ok (.getfield 63, 3) := by decide +kernel
theorem d_Ed_rangeCells_64 : decode prog_5_method_17_code 64 = .ok (.iload 4, 2) := by decide +kernel
theorem d_Ed_rangeCells_66 : decode prog_5_method_17_code 66 = .ok (.iaload, 1) := by decide +kernel
theorem d_Ed_rangeCells_67 : decode prog_5_method_17_code 67 = .ok (.istore 5, 2) := by decide +kernel
theorem d_Ed_rangeCells_69 : decode prog_5_method_17_code 69 = .ok (.aload_n 0, 1) := by decide +kernel
theorem d_Ed_rangeCells_70 : decode prog_5_method_17_code 70 = .ok (.getfield 15, 3) := by decide +kernel
theorem d_Ed_rangeCells_73 : decode prog_5_method_17_code 73 = .ok (.getfield 88, 3) := by decide +kernel
theorem d_Ed_rangeCells_76 : decode prog_5_method_17_code 76 = .ok (.iload_n 2, 1) := by decide +kernel
theorem d_Ed_rangeCells_77 : decode prog_5_method_17_code 77 = .ok (.iload 4, 2) := by decide +kernel
theorem d_Ed_rangeCells_79 : decode prog_5_method_17_code 79 = .ok (.iadd, 1) := by decide +kernel
theorem d_Ed_rangeCells_80 : decode prog_5_method_17_code 80 = .ok (.iaload, 1) := by decide +kernel
theorem d_Ed_rangeCells_81 : decode prog_5_method_17_code 81 = .ok (.iconst 4, 1) := by decide +kernel
theorem d_Ed_rangeCells_82 : decode prog_5_method_17_code 82 = .ok (.iand, 1) := by decide +kernel
theorem d_Ed_rangeCells_83 : decode prog_5_method_17_code 83 = .ok (.ifCond .eq 67, 3) := by decide +kernel
theorem d_Ed_rangeCells_150 : decode prog_5_method_17_code 150 = .ok (.iinc 4 1, 3) := by decide +kernel
theorem d_Ed_rangeCells_153 : decode prog_5_method_17_code 153 = .ok (.goto (-112), 3) := by decide +kernel
theorem d_Ed_rangeCells_86 : decode prog_5_method_17_code 86 = .ok (.iload 5, 2) := by decide +kernel
theorem d_Ed_rangeCells_88 : decode prog_5_method_17_code 88 = .ok (.iconst (-1), 1) := by decide +kernel
theorem d_Ed_rangeCells_89 : decode prog_5_method_17_code 89 = .ok (.if_icmp .eq 61, 3) := by decide +kernel
theorem d_Ed_rangeCells_92 : decode prog_5_method_17_code 92 = .ok (.aload_n 0, 1) := by decide +kernel
theorem d_Ed_rangeCells_93 : decode prog_5_method_17_code 93 = .ok (.getfield 23, 3) := by decide +kernel
theorem d_Ed_rangeCells_96 : decode prog_5_method_17_code 96 = .ok (.getfield 63, 3) := by decide +kernel
theorem d_Ed_rangeCells_99 : decode prog_5_method_17_code 99 = .ok (.iload 4, 2) := by decide +kernel
theorem d_Ed_rangeCells_101 : decode prog_5_method_17_code 101 = .ok (.iconst 1, 1) := by decide +kernel
theorem d_Ed_rangeCells_102 : decode prog_5_method_17_code 102 = .ok (.iadd, 1) := by decide +kernel
theorem d_Ed_rangeCells_103 : decode prog_5_method_17_code 103 = .ok (.iaload, 1) := by decide +kernel
theorem d_Ed_rangeCells_104 : decode prog_5_method_17_code 104 = .ok (.istore 6, 2) := by decide +kernel
theorem d_Ed_rangeCells_106 : decode prog_5_method_17_code 106 = .ok (.iload 5, 2) := by decide +kernel
theorem d_Ed_rangeCells_108 : decode prog_5_method_17_code 108 = .ok (.bipush 26, 2) := by decide +kernel
theorem d_Ed_rangeCells_110 : decode prog_5_method_17_code 110 = .ok (.irem, 1) := by decide +kernel
theorem d_Ed_rangeCells_111 : decode prog_5_method_17_code 111 = .ok (.iload 6, 2) := by decide +kernel
theorem d_Ed_rangeCells_113 : decode prog_5_method_17_code 113 = .ok (.bipush 26, 2) := by decide +kernel
theorem d_Ed_rangeCells_115 : decode prog_5_method_17_code 115 = .ok (.irem, 1) := by decide +kernel
theorem d_Ed_rangeCells_116 : decode prog_5_method_17_code 116 = .ok (.isub, 1) := by decide +kernel
theorem d_Ed_rangeCells_117 : decode prog_5_method_17_code 117 = .ok (.invokestatic 150, 3) := by decide +kernel
theorem d_Ed_rangeCells_120 : decode prog_5_method_17_code 120 = .ok (.iconst 1, 1) := by decide +kernel
theorem d_Ed_rangeCells_121 : decode prog_5_method_17_code 121 = .ok (.iadd, 1) := by decide +kernel
theorem d_Ed_rangeCells_122 : decode prog_5_method_17_code 122 = .ok (.istore 7, 2) := by decide +kernel
theorem d_Ed_rangeCells_124 : decode prog_5_method_17_code 124 = .ok (.iload 5, 2) := by decide +kernel
theorem d_Ed_rangeCells_126 : decode prog_5_method_17_code 126 = .ok (.bipush 26, 2) := by decide +kernel
theorem d_Ed_rangeCells_128 : decode prog_5_method_17_code 128 = .ok (.idiv, 1) := by decide +kernel
theorem d_Ed_rangeCells_129 : decode prog_5_method_17_code 129 = .ok (.iload 6, 2) := by decide +kernel
theorem d_Ed_rangeCells_131 : decode prog_5_method_17_code 131 = .ok (.bipush 26, 2) := by decide +kernel
theorem d_Ed_rangeCells_133 : decode prog_5_method_17_code 133 = .ok (.idiv, 1) := by decide +kernel
theorem d_Ed_rangeCells_134 : decode prog_5_method_17_code 134 = .ok (.isub, 1) := by decide +kernel
theorem d_Ed_rangeCells_135 : decode prog_5_method_17_code 135 = .ok (.invokestatic 150, 3) := by decide +kernel
theorem d_Ed_rangeCells_138 : decode prog_5_method_17_code 138 = .ok (.iconst 1, 1) := by decide +kernel
theorem d_Ed_rangeCells_139 : decode prog_5_method_17_code 139 = .ok (.iadd, 1) := by decide +kernel
theorem d_Ed_rangeCells_140 : decode prog_5_method_17_code 140 = .ok (.istore 8, 2) := by decide +kernel
theorem d_Ed_rangeCells_142 : decode prog_5_method_17_code 142 = .ok (.iload_n 3, 1) := by decide +kernel
theorem d_Ed_rangeCells_143 : decode prog_5_method_17_code 143 = .ok (.iload 7, 2) := by decide +kernel
theorem d_Ed_rangeCells_145 : decode prog_5_method_17_code 145 = .ok (.iload 8, 2) := by decide +kernel
theorem d_Ed_rangeCells_147 : decode prog_5_method_17_code 147 = .ok (.imul, 1) := by decide +kernel
theorem d_Ed_rangeCells_148 : decode prog_5_method_17_code 148 = .ok (.iadd, 1) := by decide +kernel
theorem d_Ed_rangeCells_149 : decode prog_5_method_17_code 149 = .ok (.istore_n 3, 1) := by decide +kernel
set_option maxHeartbeats 4000000 in
theorem w_Ed_rangeCells_0 {l : Launch} {G : gG} {d : Nat} {X : gX} {M : gM} {k : Int → gM → Prop} {c : Nat} (hX : glX X c) {x1 : Int} (hx1 : g32 x1) {s3 : Nat} (hs3 : X.2.2 (c + 21) 3 = s3 ∧ gsX X s3) (T : ((0 : Int) ≤ x1 ∧ x1 < 400) ∧ (g32 (M (s3 + 2) (Int.toNat x1)) → (((0 : Int) ≤ M (s3 + 2) (Int.toNat x1) ∧ M (s3 + 2) (Int.toNat x1) < 513) ∧ (g32 (M (c + 6) (Int.toNat (M (s3 + 2) (Int.toNat x1)))) → (((0 : Int) ≤ x1 ∧ x1 < 401) ∧ (g32 (M (s3 + 3) (Int.toNat x1)) → (((0 : Int) ≤ x1 ∧ x1 < 401) ∧ (g32 (M (s3 + 3) (Int.toNat x1)) → (wp l G y_Ed_rangeCells (gRm (d + 1)) false (kkI X k) false 41 [.val (gR G (c + 21)), .val (gI x1), .val (gI (w32 ((M (c + 6) (Int.toNat (M (s3 + 2) (Int.toNat x1)))) - (M (s3 + 3) (Int.toNat x1))))), .val (gI 0), .val (gI (M (s3 + 3) (Int.toNat x1))), .unset, .unset, .unset, .unset] [] X M 0 0))))))))) : wp l G y_Ed_rangeCells (gRm (d + 1)) false (kkI X k) false 0 [.val (gR G (c + 21)), .val (gI x1), .unset, .unset, .unset, .unset, .unset, .unset, .unset] [] X M 0 0 := by
  refine wp_aload_n d_Ed_rangeCells_0 rfl rfl (g_nz (gl_1 hX 21)) ?_
  refine xgetR d_Ed_rangeCells_1 gc_Ed f_Ed_15.1 f_Ed_15.2.1 f_Ed_15.2.2.1 (gl_1 hX 21) (gl_2 hX (a := 21) (by decide)) (gl_s hX 21 rfl) f_Ed_15.2.2.2.2.1 (gl_f hX 25 rfl) ?_
  refine xgetR d_Ed_rangeCells_4 gc_Cn f_Ed_37.1 f_Ed_37.2.1 f_Ed_37.2.2.1 (gl_1 hX 2) (gl_2 hX (a := 2) (by decide)) (gl_s hX 2 rfl) f_Ed_37.2.2.2.2.1 (gl_f hX 5 rfl) ?_
  refine wp_aload_n d_Ed_rangeCells_7 rfl rfl (g_nz (gl_1 hX 21)) ?_
  refine xgetR d_Ed_rangeCells_8 gc_Ed f_Ed_23.1 f_Ed_23.2.1 f_Ed_23.2.2.1 (gl_1 hX 21) (gl_2 hX (a := 21) (by decide)) (gl_s hX 21 rfl) f_Ed_23.2.2.2.2.1 hs3.1 ?_
  refine xgetR d_Ed_rangeCells_11 gc_St f_Ed_60.1 f_Ed_60.2.1 f_Ed_60.2.2.1 hs3.2.1 (gs_2 hs3.2) hs3.2.2.2.1 f_Ed_60.2.2.2.2.1 (gs_r hs3.2 1 rfl).1 ?_
  refine wp_iload_n d_Ed_rangeCells_14 rfl rfl ?_
  refine wp_iaload d_Ed_rangeCells_15 (gs_r hs3.2 1 rfl).2.2.1 (gs_r hs3.2 1 rfl).2.2.2 (gs_r hs3.2 1 rfl).2.1 (g32_n T.1 (by decide)) T.1.1 T.1.2 (fun h1 => ?_)
  have T := T.2 h1
  refine wp_iaload d_Ed_rangeCells_16 (gl_1 hX 6) (gl_2 hX (a := 6) (by decide)) (gl_s hX 6 rfl) (g32_n T.1 (by decide)) T.1.1 T.1.2 (fun h2 => ?_)
  have T := T.2 h2
  refine wp_aload_n d_Ed_rangeCells_17 rfl rfl (g_nz (gl_1 hX 21)) ?_
  refine xgetR d_Ed_rangeCells_18 gc_Ed f_Ed_23.1 f_Ed_23.2.1 f_Ed_23.2.2.1 (gl_1 hX 21) (gl_2 hX (a := 21) (by decide)) (gl_s hX 21 rfl) f_Ed_23.2.2.2.2.1 hs3.1 ?_
  refine xgetR d_Ed_rangeCells_21 gc_St f_Ed_64.1 f_Ed_64.2.1 f_Ed_64.2.2.1 hs3.2.1 (gs_2 hs3.2) hs3.2.2.2.1 f_Ed_64.2.2.2.2.1 (gs_r hs3.2 2 rfl).1 ?_
  refine wp_iload_n d_Ed_rangeCells_24 rfl rfl ?_
  refine wp_iaload d_Ed_rangeCells_25 (gs_r hs3.2 2 rfl).2.2.1 (gs_r hs3.2 2 rfl).2.2.2 (gs_r hs3.2 2 rfl).2.1 (g32_n T.1 (by decide)) T.1.1 T.1.2 (fun h3 => ?_)
  have T := T.2 h3
  refine wp_isub d_Ed_rangeCells_26 ?_
  refine wp_istore_n (L' := [.val (gR G (c + 21)), .val (gI x1), .val (gI ((M (c + 6) (Int.toNat (M (s3 + 2) (Int.toNat x1)))) - (M (s3 + 3) (Int.toNat x1)))), .unset, .unset, .unset, .unset, .unset, .unset]) d_Ed_rangeCells_27 rfl (by decide) rfl ?_
  refine wp_iconst d_Ed_rangeCells_28 ?_
  refine wp_istore_n (L' := [.val (gR G (c + 21)), .val (gI x1), .val (gI ((M (c + 6) (Int.toNat (M (s3 + 2) (Int.toNat x1)))) - (M (s3 + 3) (Int.toNat x1)))), .val (gI 0), .unset, .unset, .unset, .unset, .unset]) d_Ed_rangeCells_29 rfl (by decide) rfl ?_
  refine wp_aload_n d_Ed_rangeCells_30 rfl rfl (g_nz (gl_1 hX 21)) ?_
  refine xgetR d_Ed_rangeCells_31 gc_Ed f_Ed_23.1 f_Ed_23.2.1 f_Ed_23.2.2.1 (gl_1 hX 21) (gl_2 hX (a := 21) (by decide)) (gl_s hX 21 rfl) f_Ed_23.2.2.2.2.1 hs3.1 ?_
  refine xgetR d_Ed_rangeCells_34 gc_St f_Ed_64.1 f_Ed_64.2.1 f_Ed_64.2.2.1 hs3.2.1 (gs_2 hs3.2) hs3.2.2.2.1 f_Ed_64.2.2.2.2.1 (gs_r hs3.2 2 rfl).1 ?_
  refine wp_iload_n d_Ed_rangeCells_37 rfl rfl ?_
  refine wp_iaload d_Ed_rangeCells_38 (gs_r hs3.2 2 rfl).2.2.1 (gs_r hs3.2 2 rfl).2.2.2 (gs_r hs3.2 2 rfl).2.1 (g32_n T.1 (by decide)) T.1.1 T.1.2 (fun h4 => ?_)
  have T := T.2 h4
  refine wp_istore (L' := [.val (gR G (c + 21)), .val (gI x1), .val (gI ((M (c + 6) (Int.toNat (M (s3 + 2) (Int.toNat x1)))) - (M (s3 + 3) (Int.toNat x1)))), .val (gI 0), .val (gI (M (s3 + 3) (Int.toNat x1))), .unset, .unset, .unset, .unset]) d_Ed_rangeCells_39 (by decide) rfl ?_
  exact (wpt T (And.intro rfl (And.intro rfl (And.intro (gI_w _) (And.intro rfl (And.intro rfl True.intro))))))
set_option maxHeartbeats 4000000 in
theorem w_Ed_rangeCells_41 {l : Launch} {G : gG} {d : Nat} {X : gX} {M : gM} {k : Int → gM → Prop} {c : Nat} (hX : glX X c) {x1 : Int} (hx1 : g32 x1) {x2 : Int} (hx2 : g32 x2) {x3 : Int} (hx3 : g32 x3) {x4 : Int} (hx4 : g32 x4) {s3 : Nat} (hs3 : X.2.2 (c + 21) 3 = s3 ∧ gsX X s3) (T : ((0 : Int) ≤ x1 + 1 ∧ x1 + 1 < 401) ∧ (g32 (M (s3 + 3) (Int.toNat (x1 + 1))) → ((M (s3 + 3) (Int.toNat (x1 + 1)) ≤ x4 → (k x3 M)) ∧ (¬ M (s3 + 3) (Int.toNat (x1 + 1)) ≤ x4 → (((0 : Int) ≤ x4 ∧ x4 < 20000) ∧ (g32 (M (s3 + 4) (Int.toNat x4)) → (((0 : Int) ≤ x2 + x4 ∧ x2 + x4 < 10480) ∧ (g32 (M (c + 12) (Int.toNat (x2 + x4))) → ((gAnd (M (c + 12) (Int.toNat (x2 + x4))) 4 = 0 → (wp l G y_Ed_rangeCells (gRm (d + 1)) false (kkI X k) false 41 [.val (gR G (c + 21)), .val (gI x1), .val (gI x2), .val (gI x3), .val (gI (w32 (x4 + 1))), .unset, .unset, .unset, .unset] [] X M 0 0)) ∧ (¬ gAnd (M (c + 12) (Int.toNat (x2 + x4))) 4 = 0 → ((M (s3 + 4) (Int.toNat x4) = (-1) → (wp l G y_Ed_rangeCells (gRm (d + 1)) false (kkI X k) false 41 [.val (gR G (c + 21)), .val (gI x1), .val (gI x2), .val (gI x3), .val (gI (w32 (x4 + 1))), .unset, .unset, .unset, .unset] [] X M 0 0)) ∧ (¬ M (s3 + 4) (Int.toNat x4) = (-1) → (((0 : Int) ≤ x4 + 1 ∧ x4 + 1 < 20000) ∧ (g32 (M (s3 + 4) (Int.toNat (x4 + 1))) → (cI l G y_jMath_abs (gRm d) false [gI (((M (s3 + 4) (Int.toNat x4)).tmod 26) - ((M (s3 + 4) (Int.toNat (x4 + 1))).tmod 26))] X M (fun v10 M9 => (cI l G y_jMath_abs (gRm d) false [gI (((M (s3 + 4) (Int.toNat x4)).tdiv 26) - ((M (s3 + 4) (Int.toNat (x4 + 1))).tdiv 26))] X M9 (fun v13 M12 => (wp l G y_Ed_rangeCells (gRm (d + 1)) false (kkI X k) false 41 [.val (gR G (c + 21)), .val (gI x1), .val (gI x2), .val (gI (w32 (x3 + ((v10 + 1) * (v13 + 1))))), .val (gI (w32 (x4 + 1))), .unset, .unset, .unset, .unset] [] X M12 0 0))))))))))))))))))) : wp l G y_Ed_rangeCells (gRm (d + 1)) false (kkI X k) false 41 [.val (gR G (c + 21)), .val (gI x1), .val (gI x2), .val (gI x3), .val (gI x4), .unset, .unset, .unset, .unset] [] X M 0 0 := by
  refine wp_iload d_Ed_rangeCells_41 rfl ?_
  refine wp_aload_n d_Ed_rangeCells_43 rfl rfl (g_nz (gl_1 hX 21)) ?_
  refine xgetR d_Ed_rangeCells_44 gc_Ed f_Ed_23.1 f_Ed_23.2.1 f_Ed_23.2.2.1 (gl_1 hX 21) (gl_2 hX (a := 21) (by decide)) (gl_s hX 21 rfl) f_Ed_23.2.2.2.2.1 hs3.1 ?_
  refine xgetR d_Ed_rangeCells_47 gc_St f_Ed_64.1 f_Ed_64.2.1 f_Ed_64.2.2.1 hs3.2.1 (gs_2 hs3.2) hs3.2.2.2.1 f_Ed_64.2.2.2.2.1 (gs_r hs3.2 2 rfl).1 ?_
  refine wp_iload_n d_Ed_rangeCells_50 rfl rfl ?_
  refine wp_iconst d_Ed_rangeCells_51 ?_
  refine wp_iadd d_Ed_rangeCells_52 ?_
  refine wp_iaload d_Ed_rangeCells_53 (gs_r hs3.2 2 rfl).2.2.1 (gs_r hs3.2 2 rfl).2.2.2 (gs_r hs3.2 2 rfl).2.1 (g32_n T.1 (by decide)) T.1.1 T.1.2 (fun h5 => ?_)
  have T := T.2 h5
  refine xi_ge (tgt := 156) d_Ed_rangeCells_54 (by decide) (w32_id hx4) (w32_id h5) (fun h17 => ?_) (fun h17 => ?_)
  · have T := T.1 h17
    refine wp_iload_n d_Ed_rangeCells_156 rfl rfl ?_
    exact wp_ireturn d_Ed_rangeCells_157 rfl id (Nat.zero_le _) (Nat.zero_le _) (kI_mk hx3 T)
  · have T := T.2 h17
    refine wp_aload_n d_Ed_rangeCells_57 rfl rfl (g_nz (gl_1 hX 21)) ?_
    refine xgetR d_Ed_rangeCells_58 gc_Ed f_Ed_23.1 f_Ed_23.2.1 f_Ed_23.2.2.1 (gl_1 hX 21) (gl_2 hX (a := 21) (by decide)) (gl_s hX 21 rfl) f_Ed_23.2.2.2.2.1 hs3.1 ?_
    refine xgetR d_Ed_rangeCells_61 gc_St f_Ed_63.1 f_Ed_63.2.1 f_Ed_63.2.2.1 hs3.2.1 (gs_2 hs3.2) hs3.2.2.2.1 f_Ed_63.2.2.2.2.1 (gs_r hs3.2 3 rfl).1 ?_
    refine wp_iload d_Ed_rangeCells_64 rfl ?_
    refine wp_iaload d_Ed_rangeCells_66 (gs_r hs3.2 3 rfl).2.2.1 (gs_r hs3.2 3 rfl).2.2.2 (gs_r hs3.2 3 rfl).2.1 (g32_n T.1 (by decide)) T.1.1 T.1.2 (fun h6 => ?_)
    have T := T.2 h6
    refine wp_istore (L' := [.val (gR G (c + 21)), .val (gI x1), .val (gI x2), .val (gI x3), .val (gI x4), .val (gI (M (s3 + 4) (Int.toNat x4))), .unset, .unset, .unset]) d_Ed_rangeCells_67 (by decide) rfl ?_
    refine wp_aload_n d_Ed_rangeCells_69 rfl rfl (g_nz (gl_1 hX 21)) ?_
    refine xgetR d_Ed_rangeCells_70 gc_Ed f_Ed_15.1 f_Ed_15.2.1 f_Ed_15.2.2.1 (gl_1 hX 21) (gl_2 hX (a := 21) (by decide)) (gl_s hX 21 rfl) f_Ed_15.2.2.2.2.1 (gl_f hX 25 rfl) ?_
    refine xgetR d_Ed_rangeCells_73 gc_Cn f_Ed_88.1 f_Ed_88.2.1 f_Ed_88.2.2.1 (gl_1 hX 2) (gl_2 hX (a := 2) (by decide)) (gl_s hX 2 rfl) f_Ed_88.2.2.2.2.1 (gl_f hX 11 rfl) ?_
    refine wp_iload_n d_Ed_rangeCells_76 rfl rfl ?_
    refine wp_iload d_Ed_rangeCells_77 rfl ?_
    refine wp_iadd d_Ed_rangeCells_79 ?_
    refine wp_iaload d_Ed_rangeCells_80 (gl_1 hX 12) (gl_2 hX (a := 12) (by decide)) (gl_s hX 12 rfl) (g32_n T.1 (by decide)) T.1.1 T.1.2 (fun h7 => ?_)
    have T := T.2 h7
    refine wp_iconst d_Ed_rangeCells_81 ?_
    refine wp_iand d_Ed_rangeCells_82 ?_
    refine xz_eq (tgt := 150) d_Ed_rangeCells_83 (by decide) (w32_id (gAnd_ok _ _)) (fun h16 => ?_) (fun h16 => ?_)
    · have T := T.1 h16
      refine wp_iinc (L' := [.val (gR G (c + 21)), .val (gI x1), .val (gI x2), .val (gI x3), .val (gI (x4 + 1)), .val (gI (M (s3 + 4) (Int.toNat x4))), .unset, .unset, .unset]) d_Ed_rangeCells_150 rfl (by decide) rfl ?_
      refine wp_goto (tgt := 41) d_Ed_rangeCells_153 (by decide) ?_
      exact (wpt T (And.intro rfl (And.intro rfl (And.intro rfl (And.intro rfl (And.intro (gI_w _) True.intro))))))
    · have T := T.2 h16
      refine wp_iload d_Ed_rangeCells_86 rfl ?_
      refine wp_iconst d_Ed_rangeCells_88 ?_
      refine xi_eq (tgt := 150) d_Ed_rangeCells_89 (by decide) (w32_id h6) (w32_id (g32_c (x := (-1)) rfl)) (fun h15 => ?_) (fun h15 => ?_)
      · have T := T.1 h15
        refine wp_iinc (L' := [.val (gR G (c + 21)), .val (gI x1), .val (gI x2), .val (gI x3), .val (gI (x4 + 1)), .val (gI (M (s3 + 4) (Int.toNat x4))), .unset, .unset, .unset]) d_Ed_rangeCells_150 rfl (by decide) rfl ?_
        refine wp_goto (tgt := 41) d_Ed_rangeCells_153 (by decide) ?_
        exact (wpt T (And.intro rfl (And.intro rfl (And.intro rfl (And.intro rfl (And.intro (gI_w _) True.intro))))))
      · have T := T.2 h15
        refine wp_aload_n d_Ed_rangeCells_92 rfl rfl (g_nz (gl_1 hX 21)) ?_
        refine xgetR d_Ed_rangeCells_93 gc_Ed f_Ed_23.1 f_Ed_23.2.1 f_Ed_23.2.2.1 (gl_1 hX 21) (gl_2 hX (a := 21) (by decide)) (gl_s hX 21 rfl) f_Ed_23.2.2.2.2.1 hs3.1 ?_
        refine xgetR d_Ed_rangeCells_96 gc_St f_Ed_63.1 f_Ed_63.2.1 f_Ed_63.2.2.1 hs3.2.1 (gs_2 hs3.2) hs3.2.2.2.1 f_Ed_63.2.2.2.2.1 (gs_r hs3.2 3 rfl).1 ?_
        refine wp_iload d_Ed_rangeCells_99 rfl ?_
        refine wp_iconst d_Ed_rangeCells_101 ?_
        refine wp_iadd d_Ed_rangeCells_102 ?_
        refine wp_iaload d_Ed_rangeCells_103 (gs_r hs3.2 3 rfl).2.2.1 (gs_r hs3.2 3 rfl).2.2.2 (gs_r hs3.2 3 rfl).2.1 (g32_n T.1 (by decide)) T.1.1 T.1.2 (fun h8 => ?_)
        have T := T.2 h8
        refine wp_istore (L' := [.val (gR G (c + 21)), .val (gI x1), .val (gI x2), .val (gI x3), .val (gI x4), .val (gI (M (s3 + 4) (Int.toNat x4))), .val (gI (M (s3 + 4) (Int.toNat (x4 + 1)))), .unset, .unset]) d_Ed_rangeCells_104 (by decide) rfl ?_
        refine wp_iload d_Ed_rangeCells_106 rfl ?_
        refine wp_bipush d_Ed_rangeCells_108 ⟨by decide, by decide⟩ ?_
        refine xirem d_Ed_rangeCells_110 (w32_id h6) (w32_id (g32_c (x := 26) rfl)) (by decide) ?_
        refine wp_iload d_Ed_rangeCells_111 rfl ?_
        refine wp_bipush d_Ed_rangeCells_113 ⟨by decide, by decide⟩ ?_
        refine xirem d_Ed_rangeCells_115 (w32_id h8) (w32_id (g32_c (x := 26) rfl)) (by decide) ?_
        refine wp_isub d_Ed_rangeCells_116 ?_
        refine xcS_I (md' := false) (As := [gI (((M (s3 + 4) (Int.toNat x4)).tmod 26) - ((M (s3 + 4) (Int.toNat (x4 + 1))).tmod 26))]) (st := []) d_Ed_rangeCells_117 ca_jMath_abs ml_Ed_150 sm_jMath_abs rfl (by decide) (by decide) rfl id id T (fun v10 M9 h11 T => ?_)
        refine wp_iconst d_Ed_rangeCells_120 ?_
        refine wp_iadd d_Ed_rangeCells_121 ?_
        refine wp_istore (L' := [.val (gR G (c + 21)), .val (gI x1), .val (gI x2), .val (gI x3), .val (gI x4), .val (gI (M (s3 + 4) (Int.toNat x4))), .val (gI (M (s3 + 4) (Int.toNat (x4 + 1)))), .val (gI (v10 + 1)), .unset]) d_Ed_rangeCells_122 (by decide) rfl ?_
        refine wp_iload d_Ed_rangeCells_124 rfl ?_
        refine wp_bipush d_Ed_rangeCells_126 ⟨by decide, by decide⟩ ?_
        refine xidiv d_Ed_rangeCells_128 (w32_id h6) (w32_id (g32_c (x := 26) rfl)) (by decide) ?_
        refine wp_iload d_Ed_rangeCells_129 rfl ?_
        refine wp_bipush d_Ed_rangeCells_131 ⟨by decide, by decide⟩ ?_
        refine xidiv d_Ed_rangeCells_133 (w32_id h8) (w32_id (g32_c (x := 26) rfl)) (by decide) ?_
        refine wp_isub d_Ed_rangeCells_134 ?_
        refine xcS_I (md' := false) (As := [gI (((M (s3 + 4) (Int.toNat x4)).tdiv 26) - ((M (s3 + 4) (Int.toNat (x4 + 1))).tdiv 26))]) (st := []) d_Ed_rangeCells_135 ca_jMath_abs ml_Ed_150 sm_jMath_abs rfl (by decide) (by decide) rfl id id T (fun v13 M12 h14 T => ?_)
        refine wp_iconst d_Ed_rangeCells_138 ?_
        refine wp_iadd d_Ed_rangeCells_139 ?_
        refine wp_istore (L' := [.val (gR G (c + 21)), .val (gI x1), .val (gI x2), .val (gI x3), .val (gI x4), .val (gI (M (s3 + 4) (Int.toNat x4))), .val (gI (M (s3 + 4) (Int.toNat (x4 + 1)))), .val (gI (v10 + 1)), .val (gI (v13 + 1))]) d_Ed_rangeCells_140 (by decide) rfl ?_
        refine wp_iload_n d_Ed_rangeCells_142 rfl rfl ?_
        refine wp_iload d_Ed_rangeCells_143 rfl ?_
        refine wp_iload d_Ed_rangeCells_145 rfl ?_
        refine wp_imul d_Ed_rangeCells_147 ?_
        refine wp_iadd d_Ed_rangeCells_148 ?_
        refine wp_istore_n (L' := [.val (gR G (c + 21)), .val (gI x1), .val (gI x2), .val (gI (x3 + ((v10 + 1) * (v13 + 1)))), .val (gI x4), .val (gI (M (s3 + 4) (Int.toNat x4))), .val (gI (M (s3 + 4) (Int.toNat (x4 + 1)))), .val (gI (v10 + 1)), .val (gI (v13 + 1))]) d_Ed_rangeCells_149 rfl (by decide) rfl ?_
        refine wp_iinc (L' := [.val (gR G (c + 21)), .val (gI x1), .val (gI x2), .val (gI (x3 + ((v10 + 1) * (v13 + 1)))), .val (gI (x4 + 1)), .val (gI (M (s3 + 4) (Int.toNat x4))), .val (gI (M (s3 + 4) (Int.toNat (x4 + 1)))), .val (gI (v10 + 1)), .val (gI (v13 + 1))]) d_Ed_rangeCells_150 rfl (by decide) rfl ?_
        refine wp_goto (tgt := 41) d_Ed_rangeCells_153 (by decide) ?_
        exact (wpt T (And.intro rfl (And.intro rfl (And.intro rfl (And.intro (gI_w _) (And.intro (gI_w _) True.intro))))))
theorem e_Ed_rangeCells {l : Launch} {G : gG} {d : Nat} {X : gX} {M : gM} {k : Int → gM → Prop} {c : Nat} {x1 : Int} (T : wp l G y_Ed_rangeCells (gRm (d + 1)) false (kkI X k) false 0 [.val (gR G (c + 21)), .val (gI x1), .unset, .unset, .unset, .unset, .unset, .unset, .unset] [] X M 0 0) : cI l G y_Ed_rangeCells (gRm (d + 1)) false [gR G (c + 21), gI x1] X M k := cen_I (plainFor_of_name rfl) (by simp only [lg_sl_R, lg_sl_I, lg_sl_L, lg_sl_N, List.length_cons, List.length_nil]; decide) (by unfold gEn; simp only [lg_sl_R, lg_sl_I, lg_sl_L, lg_sl_N]; exact wpt T (And.intro rfl (And.intro rfl True.intro)))
theorem d_Ma_push_0 : decode prog_6_method_4_code 0 = .ok (.iload_n 1, 1) := by decide +kernel
theorem d_Ma_push_1 : decode prog_6_method_4_code 1 = .ok (.tableswitch 112 0 3 #[31, 47, 80, 96], 31) := by decide +kernel
theorem d_Ma_push_32 : decode prog_6_method_4_code 32 = .ok (.aload_n 0, 1) := by decide +kernel
theorem d_Ma_push_33 : decode prog_6_method_4_code 33 = .ok (.getfield 14, 3) := by decide +kernel
theorem d_Ma_push_36 : decode prog_6_method_4_code 36 = .ok (.aload_n 0, 1) := by decide +kernel
theorem d_Ma_push_37 : decode prog_6_method_4_code 37 = .ok (.getfield 65, 3) := by decide +kernel
theorem d_Ma_push_40 : decode prog_6_method_4_code 40 = .ok (.iconst 1, 1) := by decide +kernel
theorem d_Ma_push_41 : decode prog_6_method_4_code 41 = .ok (.lload_n 2, 1) := by decide +kernel
theorem d_Ma_push_42 : decode prog_6_method_4_code 42 = .ok (.invokevirtual 110, 3) := by decide +kernel
theorem d_Ma_push_45 : decode prog_6_method_4_code 45 = .ok (.goto 80, 3) := by decide +kernel
theorem d_Ma_push_125 : decode prog_6_method_4_code 125 = .ok (.aload_n 0, 1) := by decide +kernel
theorem d_Ma_push_126 : decode prog_6_method_4_code 126 = .ok (.dup, 1) := by decide +kernel
theorem d_Ma_push_127 : decode prog_6_method_4_code 127 = .ok (.getfield 65, 3) := by decide +kernel
theorem d_Ma_push_130 : decode prog_6_method_4_code 130 = .ok (.iconst 1, 1) := by decide +kernel
theorem d_Ma_push_131 : decode prog_6_method_4_code 131 = .ok (.iadd, 1) := by decide +kernel
theorem d_Ma_push_132 : decode prog_6_method_4_code 132 = .ok (.putfield 65, 3) := by decide +kernel
theorem d_Ma_push_135 : decode prog_6_method_4_code 135 = .ok (.return_, 1) := by decide +kernel
theorem d_Ma_push_48 : decode prog_6_method_4_code 48 = .ok (.aload_n 0, 1) := by decide +kernel
theorem d_Ma_push_49 : decode prog_6_method_4_code 49 = .ok (.getfield 14, 3) := by decide +kernel
theorem d_Ma_push_52 : decode prog_6_method_4_code 52 = .ok (.aload_n 0, 1) := by decide +kernel
theorem d_Ma_push_53 : decode prog_6_method_4_code 53 = .ok (.getfield 65, 3) := by decide +kernel
theorem d_Ma_push_56 : decode prog_6_method_4_code 56 = .ok (.aload_n 0, 1) := by decide +kernel
theorem d_Ma_push_57 : decode prog_6_method_4_code 57 = .ok (.getfield 24, 3) := by decide +kernel
theorem d_Ma_push_60 : decode prog_6_method_4_code 60 = .ok (.getfield 114, 3) := by decide +kernel
theorem d_Ma_push_63 : decode prog_6_method_4_code 63 = .ok (.lload_n 2, 1) := by decide +kernel
theorem d_Ma_push_64 : decode prog_6_method_4_code 64 = .ok (.ldc2_w 117, 3) := by decide +kernel
theorem d_Ma_push_67 : decode prog_6_method_4_code 67 = .ok (.ldiv, 1) := by decide +kernel
theorem d_Ma_push_68 : decode prog_6_method_4_code 68 = .ok (.l2i, 1) := by decide +kernel
theorem d_Ma_push_69 : decode prog_6_method_4_code 69 = .ok (.lload_n 2, 1) := by decide +kernel
theorem d_Ma_push_70 : decode prog_6_method_4_code 70 = .ok (.ldc2_w 117, 3) := by decide +kernel
theorem d_Ma_push_73 : decode prog_6_method_4_code 73 = .ok (.lrem, 1) := by decide +kernel
theorem d_Ma_push_74 : decode prog_6_method_4_code 74 = .ok (.l2i, 1) := by decide +kernel
theorem d_Ma_push_75 : decode prog_6_method_4_code 75 = .ok (.invokevirtual 119, 3) := by decide +kernel
theorem d_Ma_push_78 : decode prog_6_method_4_code 78 = .ok (.goto 47, 3) := by decide +kernel
theorem d_Ma_push_81 : decode prog_6_method_4_code 81 = .ok (.aload_n 0, 1) := by decide +kernel
theorem d_Ma_push_82 : decode prog_6_method_4_code 82 = .ok (.getfield 14, 3) := by decide +kernel
theorem d_Ma_push_85 : decode prog_6_method_4_code 85 = .ok (.aload_n 0, 1) := by decide +kernel
theorem d_Ma_push_86 : decode prog_6_method_4_code 86 = .ok (.getfield 65, 3) := by decide +kernel
theorem d_Ma_push_89 : decode prog_6_method_4_code 89 = .ok (.iconst 3, 1) := by decide +kernel
theorem d_Ma_push_90 : decode prog_6_method_4_code 90 = .ok (.lload_n 2, 1) := by decide +kernel
theorem d_Ma_push_91 : decode prog_6_method_4_code 91 = .ok (.invokevirtual 110, 3) := by decide +kernel
theorem d_Ma_push_94 : decode prog_6_method_4_code 94 = .ok (.goto 31, 3) := by decide +kernel
theorem d_Ma_push_97 : decode prog_6_method_4_code 97 = .ok (.aload_n 0, 1) := by decide +kernel
theorem d_Ma_push_98 : decode prog_6_method_4_code 98 = .ok (.getfield 14, 3) := by decide +kernel
theorem d_Ma_push_101 : decode prog_6_method_4_code 101 = .ok (.aload_n 0, 1) := by decide +kernel
theorem d_Ma_push_102 : decode prog_6_method_4_code 102 = .ok (.getfield 65, 3) := by decide +kernel
theorem d_Ma_push_105 : decode prog_6_method_4_code 105 = .ok (.iconst 4, 1) := by decide +kernel
theorem d_Ma_push_106 : decode prog_6_method_4_code 106 = .ok (.lload_n 2, 1) := by decide +kernel
theorem d_Ma_push_107 : decode prog_6_method_4_code 107 = .ok (.invokevirtual 110, 3) := by decide +kernel
theorem d_Ma_push_110 : decode prog_6_method_4_code 110 = .ok (.goto 15, 3) := by decide +kernel
theorem d_Ma_push_113 : decode prog_6_method_4_code 113 = .ok (.aload_n 0, 1) := by decide +kernel
theorem d_Ma_push_114 : decode prog_6_method_4_code 114 = .ok (.iload_n 1, 1) := by decide +kernel
theorem d_Ma_push_115 : decode prog_6_method_4_code 115 = .ok (.aload_n 0, 1) := by decide +kernel
theorem d_Ma_push_116 : decode prog_6_method_4_code 116 = .ok (.getfield 61, 3) := by decide +kernel
theorem d_Ma_push_119 : decode prog_6_method_4_code 119 = .ok (.lload_n 2, 1) := by decide +kernel
theorem d_Ma_push_120 : decode prog_6_method_4_code 120 = .ok (.l2i, 1) := by decide +kernel
theorem d_Ma_push_121 : decode prog_6_method_4_code 121 = .ok (.iadd, 1) := by decide +kernel
theorem d_Ma_push_122 : decode prog_6_method_4_code 122 = .ok (.invokevirtual 123, 3) := by decide +kernel
set_option maxHeartbeats 4000000 in
theorem w_Ma_push_0 {l : Launch} {G : gG} {d : Nat} {X : gX} {M : gM} {k : gM → Prop} {c : Nat} (hX : glX X c) {x1 : Int} (hx1 : g32 x1) {x2 : Int} (hx2 : g64 x2)  (T : (x1 = 0 → (g32 (M (c + 1057) 6) → (cV l G y_Vl_set (gRm d) true [gR G (c + 1058), gI (M (c + 1057) 6), gI 1, gL x2] X M (fun M2 => (g32 (M2 (c + 1057) 6) → (k (gUp M2 (c + 1057) 6 (w32 ((M2 (c + 1057) 6) + 1))))))))) ∧ (x1 = 1 → (g32 (M (c + 1057) 6) → (cV l G y_Vl_setText (gRm d) true [gR G (c + 1058), gI (M (c + 1057) 6), gR G (c + 13), gI (x2.tdiv 240), gI (x2.tmod 240)] X M (fun M5 => (g32 (M5 (c + 1057) 6) → (k (gUp M5 (c + 1057) 6 (w32 ((M5 (c + 1057) 6) + 1))))))))) ∧ (x1 = 2 → (g32 (M (c + 1057) 6) → (cV l G y_Vl_set (gRm d) true [gR G (c + 1058), gI (M (c + 1057) 6), gI 3, gL x2] X M (fun M8 => (g32 (M8 (c + 1057) 6) → (k (gUp M8 (c + 1057) 6 (w32 ((M8 (c + 1057) 6) + 1))))))))) ∧ (x1 = 3 → (g32 (M (c + 1057) 6) → (cV l G y_Vl_set (gRm d) true [gR G (c + 1058), gI (M (c + 1057) 6), gI 4, gL x2] X M (fun M11 => (g32 (M11 (c + 1057) 6) → (k (gUp M11 (c + 1057) 6 (w32 ((M11 (c + 1057) 6) + 1))))))))) ∧ ((¬ x1 = 0 ∧ ¬ x1 = 1 ∧ ¬ x1 = 2 ∧ ¬ x1 = 3) → (g32 (M (c + 1057) 5) → (cV l G y_Ma_pushTarget (gRm d) true [gR G (c + 1057), gI x1, gI ((M (c + 1057) 5) + x2)] X M (fun M14 => (g32 (M14 (c + 1057) 6) → (k (gUp M14 (c + 1057) 6 (w32 ((M14 (c + 1057) 6) + 1)))))))))) : wp l G y_Ma_push (gRm (d + 1)) true (kkV X k) false 0 [.val (gR G (c + 1057)), .val (gI x1), .val (gL x2), .unset] [] X M 0 0 := by
  refine wp_iload_n d_Ma_push_0 rfl rfl ?_
  obtain ⟨T0, T1, T2, T3, T4⟩ := T
  by_cases hc0 : x1 = 0
  · refine xtabIn (tgt := 32) d_Ma_push_1 (w32_id hx1) 0 hc0 rfl rfl (by decide) ?_
    have T := T0 hc0
    refine wp_aload_n d_Ma_push_32 rfl rfl (g_nz (gl_1 hX 1057)) ?_
    refine xgetR d_Ma_push_33 gc_Ma f_Ma_14.1 f_Ma_14.2.1 f_Ma_14.2.2.1 (gl_1 hX 1057) (gl_2 hX (a := 1057) (by decide)) (gl_s hX 37 rfl) f_Ma_14.2.2.2.2.1 (gl_f hX 42 rfl) ?_
    refine wp_aload_n d_Ma_push_36 rfl rfl (g_nz (gl_1 hX 1057)) ?_
    refine xgetI d_Ma_push_37 gc_Ma f_Ma_65.1 f_Ma_65.2.1 f_Ma_65.2.2.1 (gl_1 hX 1057) (gl_2 hX (a := 1057) (by decide)) (gl_s hX 37 rfl) f_Ma_65.2.2.2.2.1 (fun h1 => ?_)
    have T := T h1
    refine wp_iconst d_Ma_push_40 ?_
    refine wp_lload_n d_Ma_push_41 rfl rfl ?_
    refine xcV_V (md' := true) (As := [gI (M (c + 1057) 6), gI 1, gL x2]) (st := []) d_Ma_push_42 ca_Vl_set ml_Ma_110 im_Vl_set se_Vl_set gc_Vl (gl_stk hX).1 (gv_2 (gl_stk hX)) (gl_stk hX).2.2.1 rfl (by decide) (by decide) rfl (fun _ => rfl) (fun _ => rfl) T (fun M2 T => ?_)
    refine wp_goto (tgt := 125) d_Ma_push_45 (by decide) ?_
    refine wp_aload_n d_Ma_push_125 rfl rfl (g_nz (gl_1 hX 1057)) ?_
    refine wp_dup d_Ma_push_126 (gR_cat _) ?_
    refine xgetI d_Ma_push_127 gc_Ma f_Ma_65.1 f_Ma_65.2.1 f_Ma_65.2.2.1 (gl_1 hX 1057) (gl_2 hX (a := 1057) (by decide)) (gl_s hX 37 rfl) f_Ma_65.2.2.2.2.1 (fun h3 => ?_)
    have T := T h3
    refine wp_iconst d_Ma_push_130 ?_
    refine wp_iadd d_Ma_push_131 ?_
    refine xputI d_Ma_push_132 gc_Ma f_Ma_65.1 f_Ma_65.2.1 f_Ma_65.2.2.1 (gl_1 hX 1057) (gl_2 hX (a := 1057) (by decide)) (gl_s hX 37 rfl) f_Ma_65.2.2.2.1 f_Ma_65.2.2.2.2.1 f_Ma_65.2.2.2.2.2 rfl ?_
    exact wp_return d_Ma_push_135 rfl (fun _ => rfl) (Nat.zero_le _) (Nat.zero_le _) (kV_mk T)
  by_cases hc1 : x1 = 1
  · refine xtabIn (tgt := 48) d_Ma_push_1 (w32_id hx1) 1 hc1 rfl rfl (by decide) ?_
    have T := T1 hc1
    refine wp_aload_n d_Ma_push_48 rfl rfl (g_nz (gl_1 hX 1057)) ?_
    refine xgetR d_Ma_push_49 gc_Ma f_Ma_14.1 f_Ma_14.2.1 f_Ma_14.2.2.1 (gl_1 hX 1057) (gl_2 hX (a := 1057) (by decide)) (gl_s hX 37 rfl) f_Ma_14.2.2.2.2.1 (gl_f hX 42 rfl) ?_
    refine wp_aload_n d_Ma_push_52 rfl rfl (g_nz (gl_1 hX 1057)) ?_
    refine xgetI d_Ma_push_53 gc_Ma f_Ma_65.1 f_Ma_65.2.1 f_Ma_65.2.2.1 (gl_1 hX 1057) (gl_2 hX (a := 1057) (by decide)) (gl_s hX 37 rfl) f_Ma_65.2.2.2.2.1 (fun h4 => ?_)
    have T := T h4
    refine wp_aload_n d_Ma_push_56 rfl rfl (g_nz (gl_1 hX 1057)) ?_
    refine xgetR d_Ma_push_57 gc_Ma f_Ma_24.1 f_Ma_24.2.1 f_Ma_24.2.2.1 (gl_1 hX 1057) (gl_2 hX (a := 1057) (by decide)) (gl_s hX 37 rfl) f_Ma_24.2.2.2.2.1 (gl_f hX 44 rfl) ?_
    refine xgetR d_Ma_push_60 gc_Cn f_Ma_114.1 f_Ma_114.2.1 f_Ma_114.2.2.1 (gl_1 hX 2) (gl_2 hX (a := 2) (by decide)) (gl_s hX 2 rfl) f_Ma_114.2.2.2.2.1 (gl_f hX 12 rfl) ?_
    refine wp_lload_n d_Ma_push_63 rfl rfl ?_
    refine wp_ldc2 (n := 240) d_Ma_push_64 c_Ma_117 rfl ?_
    refine xldiv d_Ma_push_67 (w64_id hx2) (w64_id (g64_c (x := 240) rfl)) (by decide) ?_
    refine wp_l2i d_Ma_push_68 ?_
    refine wp_lload_n d_Ma_push_69 rfl rfl ?_
    refine wp_ldc2 (n := 240) d_Ma_push_70 c_Ma_117 rfl ?_
    refine xlrem d_Ma_push_73 (w64_id hx2) (w64_id (g64_c (x := 240) rfl)) (by decide) ?_
    refine wp_l2i d_Ma_push_74 ?_
    refine xcV_V (md' := true) (As := [gI (M (c + 1057) 6), gR G (c + 13), gI (x2.tdiv 240), gI (x2.tmod 240)]) (st := []) d_Ma_push_75 ca_Vl_setText ml_Ma_119 im_Vl_setText se_Vl_setText gc_Vl (gl_stk hX).1 (gv_2 (gl_stk hX)) (gl_stk hX).2.2.1 rfl (by decide) (by decide) rfl (fun _ => rfl) (fun _ => rfl) T (fun M5 T => ?_)
    refine wp_goto (tgt := 125) d_Ma_push_78 (by decide) ?_
    refine wp_aload_n d_Ma_push_125 rfl rfl (g_nz (gl_1 hX 1057)) ?_
    refine wp_dup d_Ma_push_126 (gR_cat _) ?_
    refine xgetI d_Ma_push_127 gc_Ma f_Ma_65.1 f_Ma_65.2.1 f_Ma_65.2.2.1 (gl_1 hX 1057) (gl_2 hX (a := 1057) (by decide)) (gl_s hX 37 rfl) f_Ma_65.2.2.2.2.1 (fun h6 => ?_)
    have T := T h6
    refine wp_iconst d_Ma_push_130 ?_
    refine wp_iadd d_Ma_push_131 ?_
    refine xputI d_Ma_push_132 gc_Ma f_Ma_65.1 f_Ma_65.2.1 f_Ma_65.2.2.1 (gl_1 hX 1057) (gl_2 hX (a := 1057) (by decide)) (gl_s hX 37 rfl) f_Ma_65.2.2.2.1 f_Ma_65.2.2.2.2.1 f_Ma_65.2.2.2.2.2 rfl ?_
    exact wp_return d_Ma_push_135 rfl (fun _ => rfl) (Nat.zero_le _) (Nat.zero_le _) (kV_mk T)
  by_cases hc2 : x1 = 2
  · refine xtabIn (tgt := 81) d_Ma_push_1 (w32_id hx1) 2 hc2 rfl rfl (by decide) ?_
    have T := T2 hc2
    refine wp_aload_n d_Ma_push_81 rfl rfl (g_nz (gl_1 hX 1057)) ?_
    refine xgetR d_Ma_push_82 gc_Ma f_Ma_14.1 f_Ma_14.2.1 f_Ma_14.2.2.1 (gl_1 hX 1057) (gl_2 hX (a := 1057) (by decide)) (gl_s hX 37 rfl) f_Ma_14.2.2.2.2.1 (gl_f hX 42 rfl) ?_
    refine wp_aload_n d_Ma_push_85 rfl rfl (g_nz (gl_1 hX 1057)) ?_
    refine xgetI d_Ma_push_86 gc_Ma f_Ma_65.1 f_Ma_65.2.1 f_Ma_65.2.2.1 (gl_1 hX 1057) (gl_2 hX (a := 1057) (by decide)) (gl_s hX 37 rfl) f_Ma_65.2.2.2.2.1 (fun h7 => ?_)
    have T := T h7
    refine wp_iconst d_Ma_push_89 ?_
    refine wp_lload_n d_Ma_push_90 rfl rfl ?_
    refine xcV_V (md' := true) (As := [gI (M (c + 1057) 6), gI 3, gL x2]) (st := []) d_Ma_push_91 ca_Vl_set ml_Ma_110 im_Vl_set se_Vl_set gc_Vl (gl_stk hX).1 (gv_2 (gl_stk hX)) (gl_stk hX).2.2.1 rfl (by decide) (by decide) rfl (fun _ => rfl) (fun _ => rfl) T (fun M8 T => ?_)
    refine wp_goto (tgt := 125) d_Ma_push_94 (by decide) ?_
    refine wp_aload_n d_Ma_push_125 rfl rfl (g_nz (gl_1 hX 1057)) ?_
    refine wp_dup d_Ma_push_126 (gR_cat _) ?_
    refine xgetI d_Ma_push_127 gc_Ma f_Ma_65.1 f_Ma_65.2.1 f_Ma_65.2.2.1 (gl_1 hX 1057) (gl_2 hX (a := 1057) (by decide)) (gl_s hX 37 rfl) f_Ma_65.2.2.2.2.1 (fun h9 => ?_)
    have T := T h9
    refine wp_iconst d_Ma_push_130 ?_
    refine wp_iadd d_Ma_push_131 ?_
    refine xputI d_Ma_push_132 gc_Ma f_Ma_65.1 f_Ma_65.2.1 f_Ma_65.2.2.1 (gl_1 hX 1057) (gl_2 hX (a := 1057) (by decide)) (gl_s hX 37 rfl) f_Ma_65.2.2.2.1 f_Ma_65.2.2.2.2.1 f_Ma_65.2.2.2.2.2 rfl ?_
    exact wp_return d_Ma_push_135 rfl (fun _ => rfl) (Nat.zero_le _) (Nat.zero_le _) (kV_mk T)
  by_cases hc3 : x1 = 3
  · refine xtabIn (tgt := 97) d_Ma_push_1 (w32_id hx1) 3 hc3 rfl rfl (by decide) ?_
    have T := T3 hc3
    refine wp_aload_n d_Ma_push_97 rfl rfl (g_nz (gl_1 hX 1057)) ?_
    refine xgetR d_Ma_push_98 gc_Ma f_Ma_14.1 f_Ma_14.2.1 f_Ma_14.2.2.1 (gl_1 hX 1057) (gl_2 hX (a := 1057) (by decide)) (gl_s hX 37 rfl) f_Ma_14.2.2.2.2.1 (gl_f hX 42 rfl) ?_
    refine wp_aload_n d_Ma_push_101 rfl rfl (g_nz (gl_1 hX 1057)) ?_
    refine xgetI d_Ma_push_102 gc_Ma f_Ma_65.1 f_Ma_65.2.1 f_Ma_65.2.2.1 (gl_1 hX 1057) (gl_2 hX (a := 1057) (by decide)) (gl_s hX 37 rfl) f_Ma_65.2.2.2.2.1 (fun h10 => ?_)
    have T := T h10
    refine wp_iconst d_Ma_push_105 ?_
    refine wp_lload_n d_Ma_push_106 rfl rfl ?_
    refine xcV_V (md' := true) (As := [gI (M (c + 1057) 6), gI 4, gL x2]) (st := []) d_Ma_push_107 ca_Vl_set ml_Ma_110 im_Vl_set se_Vl_set gc_Vl (gl_stk hX).1 (gv_2 (gl_stk hX)) (gl_stk hX).2.2.1 rfl (by decide) (by decide) rfl (fun _ => rfl) (fun _ => rfl) T (fun M11 T => ?_)
    refine wp_goto (tgt := 125) d_Ma_push_110 (by decide) ?_
    refine wp_aload_n d_Ma_push_125 rfl rfl (g_nz (gl_1 hX 1057)) ?_
    refine wp_dup d_Ma_push_126 (gR_cat _) ?_
    refine xgetI d_Ma_push_127 gc_Ma f_Ma_65.1 f_Ma_65.2.1 f_Ma_65.2.2.1 (gl_1 hX 1057) (gl_2 hX (a := 1057) (by decide)) (gl_s hX 37 rfl) f_Ma_65.2.2.2.2.1 (fun h12 => ?_)
    have T := T h12
    refine wp_iconst d_Ma_push_130 ?_
    refine wp_iadd d_Ma_push_131 ?_
    refine xputI d_Ma_push_132 gc_Ma f_Ma_65.1 f_Ma_65.2.1 f_Ma_65.2.2.1 (gl_1 hX 1057) (gl_2 hX (a := 1057) (by decide)) (gl_s hX 37 rfl) f_Ma_65.2.2.2.1 f_Ma_65.2.2.2.2.1 f_Ma_65.2.2.2.2.2 rfl ?_
    exact wp_return d_Ma_push_135 rfl (fun _ => rfl) (Nat.zero_le _) (Nat.zero_le _) (kV_mk T)
  refine xtabOut (tgt := 113) d_Ma_push_1 (w32_id hx1) (by omega) (by decide) ?_
  have T := T4 ⟨hc0, hc1, hc2, hc3⟩
  refine wp_aload_n d_Ma_push_113 rfl rfl (g_nz (gl_1 hX 1057)) ?_
  refine wp_iload_n d_Ma_push_114 rfl rfl ?_
  refine wp_aload_n d_Ma_push_115 rfl rfl (g_nz (gl_1 hX 1057)) ?_
  refine xgetI d_Ma_push_116 gc_Ma f_Ma_61.1 f_Ma_61.2.1 f_Ma_61.2.2.1 (gl_1 hX 1057) (gl_2 hX (a := 1057) (by decide)) (gl_s hX 37 rfl) f_Ma_61.2.2.2.2.1 (fun h13 => ?_)
  have T := T h13
  refine wp_lload_n d_Ma_push_119 rfl rfl ?_
  refine wp_l2i d_Ma_push_120 ?_
  refine wp_iadd d_Ma_push_121 ?_
  refine xcV_V (md' := true) (As := [gI x1, gI ((M (c + 1057) 5) + x2)]) (st := []) d_Ma_push_122 ca_Ma_pushTarget ml_Ma_123 im_Ma_pushTarget se_Ma_pushTarget gc_Ma (gl_1 hX 1057) (gl_2 hX (a := 1057) (by decide)) (gl_s hX 37 rfl) rfl (by decide) (by decide) rfl (fun _ => rfl) (fun _ => rfl) T (fun M14 T => ?_)
  refine wp_aload_n d_Ma_push_125 rfl rfl (g_nz (gl_1 hX 1057)) ?_
  refine wp_dup d_Ma_push_126 (gR_cat _) ?_
  refine xgetI d_Ma_push_127 gc_Ma f_Ma_65.1 f_Ma_65.2.1 f_Ma_65.2.2.1 (gl_1 hX 1057) (gl_2 hX (a := 1057) (by decide)) (gl_s hX 37 rfl) f_Ma_65.2.2.2.2.1 (fun h15 => ?_)
  have T := T h15
  refine wp_iconst d_Ma_push_130 ?_
  refine wp_iadd d_Ma_push_131 ?_
  refine xputI d_Ma_push_132 gc_Ma f_Ma_65.1 f_Ma_65.2.1 f_Ma_65.2.2.1 (gl_1 hX 1057) (gl_2 hX (a := 1057) (by decide)) (gl_s hX 37 rfl) f_Ma_65.2.2.2.1 f_Ma_65.2.2.2.2.1 f_Ma_65.2.2.2.2.2 rfl ?_
  exact wp_return d_Ma_push_135 rfl (fun _ => rfl) (Nat.zero_le _) (Nat.zero_le _) (kV_mk T)
theorem e_Ma_push {l : Launch} {G : gG} {d : Nat} {X : gX} {M : gM} {k : gM → Prop} {c : Nat} {x1 : Int} {x2 : Int} (T : wp l G y_Ma_push (gRm (d + 1)) true (kkV X k) false 0 [.val (gR G (c + 1057)), .val (gI x1), .val (gL x2), .unset] [] X M 0 0) : cV l G y_Ma_push (gRm (d + 1)) true [gR G (c + 1057), gI x1, gL x2] X M k := cen_V (plainFor_of_name rfl) (by simp only [lg_sl_R, lg_sl_I, lg_sl_L, lg_sl_N, List.length_cons, List.length_nil]; decide) (by unfold gEn; simp only [lg_sl_R, lg_sl_I, lg_sl_L, lg_sl_N]; exact wpt T (And.intro rfl (And.intro rfl (And.intro rfl True.intro))))
theorem d_Ma_pushTarget_0 : decode prog_6_method_5_code 0 = .ok (.aload_n 0, 1) := by decide +kernel
theorem d_Ma_pushTarget_1 : decode prog_6_method_5_code 1 = .ok (.getfield 28, 3) := by decide +kernel
theorem d_Ma_pushTarget_4 : decode prog_6_method_5_code 4 = .ok (.getfield 127, 3) := by decide +kernel
theorem d_Ma_pushTarget_7 : decode prog_6_method_5_code 7 = .ok (.iload_n 2, 1) := by decide +kernel
theorem d_Ma_pushTarget_8 : decode prog_6_method_5_code 8 = .ok (.iaload, 1) := by decide +kernel
theorem d_Ma_pushTarget_9 : decode prog_6_method_5_code 9 = .ok (.istore_n 3, 1) := by decide +kernel
theorem d_Ma_pushTarget_10 : decode prog_6_method_5_code 10 = .ok (.iload_n 3, 1) := by decide +kernel
theorem d_Ma_pushTarget_11 : decode prog_6_method_5_code 11 = .ok (.iconst (-1), 1) := by decide +kernel
theorem d_Ma_pushTarget_12 : decode prog_6_method_5_code 12 = .ok (.if_icmp .ne 21, 3) := by decide +kernel
theorem d_Ma_pushTarget_33 : decode prog_6_method_5_code 33 = .ok (.iload_n 1, 1) := by decide +kernel
theorem d_Ma_pushTarget_34 : decode prog_6_method_5_code 34 = .ok (.iconst 4, 1) := by decide +kernel
theorem d_Ma_pushTarget_35 : decode prog_6_method_5_code 35 = .ok (.if_icmp .ne 33, 3) := by decide +kernel
theorem d_Ma_pushTarget_68 : decode prog_6_method_5_code 68 = .ok (.iload_n 1, 1) := by decide +kernel
theorem d_Ma_pushTarget_69 : decode prog_6_method_5_code 69 = .ok (.bipush 6, 2) := by decide +kernel
theorem d_Ma_pushTarget_71 : decode prog_6_method_5_code 71 = .ok (.if_icmp .ne 17, 3) := by decide +kernel
theorem d_Ma_pushTarget_88 : decode prog_6_method_5_code 88 = .ok (.iload_n 3, 1) := by decide +kernel
theorem d_Ma_pushTarget_89 : decode prog_6_method_5_code 89 = .ok (.istore 4, 2) := by decide +kernel
theorem d_Ma_pushTarget_91 : decode prog_6_method_5_code 91 = .ok (.aload_n 0, 1) := by decide +kernel
theorem d_Ma_pushTarget_92 : decode prog_6_method_5_code 92 = .ok (.getfield 14, 3) := by decide +kernel
theorem d_Ma_pushTarget_95 : decode prog_6_method_5_code 95 = .ok (.aload_n 0, 1) := by decide +kernel
theorem d_Ma_pushTarget_96 : decode prog_6_method_5_code 96 = .ok (.getfield 65, 3) := by decide +kernel
theorem d_Ma_pushTarget_99 : decode prog_6_method_5_code 99 = .ok (.iconst 5, 1) := by decide +kernel
theorem d_Ma_pushTarget_100 : decode prog_6_method_5_code 100 = .ok (.iload_n 3, 1) := by decide +kernel
theorem d_Ma_pushTarget_101 : decode prog_6_method_5_code 101 = .ok (.i2l, 1) := by decide +kernel
theorem d_Ma_pushTarget_102 : decode prog_6_method_5_code 102 = .ok (.ldc2_w 139, 3) := by decide +kernel
theorem d_Ma_pushTarget_105 : decode prog_6_method_5_code 105 = .ok (.lmul, 1) := by decide +kernel
theorem d_Ma_pushTarget_106 : decode prog_6_method_5_code 106 = .ok (.iload 4, 2) := by decide +kernel
theorem d_Ma_pushTarget_108 : decode prog_6_method_5_code 108 = .ok (.i2l, 1) := by decide +kernel
theorem d_Ma_pushTarget_109 : decode prog_6_method_5_code 109 = .ok (.ladd, 1) := by decide +kernel
theorem d_Ma_pushTarget_110 : decode prog_6_method_5_code 110 = .ok (.invokevirtual 110, 3) := by decide +kernel
theorem d_Ma_pushTarget_113 : decode prog_6_method_5_code 113 = .ok (.return_, 1) := by decide +kernel
theorem d_Ma_pushTarget_74 : decode prog_6_method_5_code 74 = .ok (.aload_n 0, 1) := by decide +kernel
theorem d_Ma_pushTarget_75 : decode prog_6_method_5_code 75 = .ok (.getfield 28, 3) := by decide +kernel
theorem d_Ma_pushTarget_78 : decode prog_6_method_5_code 78 = .ok (.getfield 127, 3) := by decide +kernel
theorem d_Ma_pushTarget_81 : decode prog_6_method_5_code 81 = .ok (.iload_n 2, 1) := by decide +kernel
theorem d_Ma_pushTarget_82 : decode prog_6_method_5_code 82 = .ok (.iconst 1, 1) := by decide +kernel
theorem d_Ma_pushTarget_83 : decode prog_6_method_5_code 83 = .ok (.iadd, 1) := by decide +kernel
theorem d_Ma_pushTarget_84 : decode prog_6_method_5_code 84 = .ok (.iaload, 1) := by decide +kernel
theorem d_Ma_pushTarget_85 : decode prog_6_method_5_code 85 = .ok (.goto 4, 3) := by decide +kernel
theorem d_Ma_pushTarget_38 : decode prog_6_method_5_code 38 = .ok (.aload_n 0, 1) := by decide +kernel
theorem d_Ma_pushTarget_39 : decode prog_6_method_5_code 39 = .ok (.getfield 14, 3) := by decide +kernel
theorem d_Ma_pushTarget_42 : decode prog_6_method_5_code 42 = .ok (.aload_n 0, 1) := by decide +kernel
theorem d_Ma_pushTarget_43 : decode prog_6_method_5_code 43 = .ok (.getfield 65, 3) := by decide +kernel
theorem d_Ma_pushTarget_46 : decode prog_6_method_5_code 46 = .ok (.aload_n 0, 1) := by decide +kernel
theorem d_Ma_pushTarget_47 : decode prog_6_method_5_code 47 = .ok (.getfield 37, 3) := by decide +kernel
theorem d_Ma_pushTarget_50 : decode prog_6_method_5_code 50 = .ok (.getfield 41, 3) := by decide +kernel
theorem d_Ma_pushTarget_53 : decode prog_6_method_5_code 53 = .ok (.aload_n 0, 1) := by decide +kernel
theorem d_Ma_pushTarget_54 : decode prog_6_method_5_code 54 = .ok (.getfield 37, 3) := by decide +kernel
theorem d_Ma_pushTarget_57 : decode prog_6_method_5_code 57 = .ok (.getfield 132, 3) := by decide +kernel
theorem d_Ma_pushTarget_60 : decode prog_6_method_5_code 60 = .ok (.iload_n 3, 1) := by decide +kernel
theorem d_Ma_pushTarget_61 : decode prog_6_method_5_code 61 = .ok (.iaload, 1) := by decide +kernel
theorem d_Ma_pushTarget_62 : decode prog_6_method_5_code 62 = .ok (.invokevirtual 135, 3) := by decide +kernel
theorem d_Ma_pushTarget_65 : decode prog_6_method_5_code 65 = .ok (.goto 48, 3) := by decide +kernel
theorem d_Ma_pushTarget_15 : decode prog_6_method_5_code 15 = .ok (.aload_n 0, 1) := by decide +kernel
theorem d_Ma_pushTarget_16 : decode prog_6_method_5_code 16 = .ok (.getfield 14, 3) := by decide +kernel
theorem d_Ma_pushTarget_19 : decode prog_6_method_5_code 19 = .ok (.aload_n 0, 1) := by decide +kernel
theorem d_Ma_pushTarget_20 : decode prog_6_method_5_code 20 = .ok (.getfield 65, 3) := by decide +kernel
theorem d_Ma_pushTarget_23 : decode prog_6_method_5_code 23 = .ok (.iconst 4, 1) := by decide +kernel
theorem d_Ma_pushTarget_24 : decode prog_6_method_5_code 24 = .ok (.ldc2_w 130, 3) := by decide +kernel
theorem d_Ma_pushTarget_27 : decode prog_6_method_5_code 27 = .ok (.invokevirtual 110, 3) := by decide +kernel
theorem d_Ma_pushTarget_30 : decode prog_6_method_5_code 30 = .ok (.goto 83, 3) := by decide +kernel
set_option maxHeartbeats 4000000 in
theorem w_Ma_pushTarget_0 {l : Launch} {G : gG} {d : Nat} {X : gX} {M : gM} {k : gM → Prop} {c : Nat} (hX : glX X c) {x1 : Int} (hx1 : g32 x1) {x2 : Int} (hx2 : g32 x2) {v0 : Nat} (hv0 : X.2.2 (c + 1167) 2 = v0 ∧ gvX X v0 401) {s0 : Nat} (hs0 : X.2.2 (c + 1057) 4 = s0 ∧ gsX X s0) (T : ((0 : Int) ≤ x2 ∧ x2 < 20000) ∧ (g32 (M (s0 + 4) (Int.toNat x2)) → ((¬ M (s0 + 4) (Int.toNat x2) = (-1) → ((¬ x1 = 4 → ((¬ x1 = 6 → (g32 (M (c + 1057) 6) → (cV l G y_Vl_set (gRm d) true [gR G (c + 1058), gI (M (c + 1057) 6), gI 5, gL (((M (s0 + 4) (Int.toNat x2)) * 5200) + (M (s0 + 4) (Int.toNat x2)))] X M (fun M3 => (k M3))))) ∧ (x1 = 6 → (((0 : Int) ≤ x2 + 1 ∧ x2 + 1 < 20000) ∧ (g32 (M (s0 + 4) (Int.toNat (x2 + 1))) → (g32 (M (c + 1057) 6) → (cV l G y_Vl_set (gRm d) true [gR G (c + 1058), gI (M (c + 1057) 6), gI 5, gL (((M (s0 + 4) (Int.toNat x2)) * 5200) + (M (s0 + 4) (Int.toNat (x2 + 1))))] X M (fun M6 => (k M6))))))))) ∧ (x1 = 4 → (g32 (M (c + 1057) 6) → (((0 : Int) ≤ M (s0 + 4) (Int.toNat x2) ∧ M (s0 + 4) (Int.toNat x2) < 5200) ∧ (g32 (M (c + 235) (Int.toNat (M (s0 + 4) (Int.toNat x2)))) → (cV l G y_Vl_setFrom (gRm d) true [gR G (c + 1058), gI (M (c + 1057) 6), gR G v0, gI (M (c + 235) (Int.toNat (M (s0 + 4) (Int.toNat x2))))] X M (fun M10 => (k M10))))))))) ∧ (M (s0 + 4) (Int.toNat x2) = (-1) → (g32 (M (c + 1057) 6) → (cV l G y_Vl_set (gRm d) true [gR G (c + 1058), gI (M (c + 1057) 6), gI 4, gL 2] X M (fun M13 => (k M13)))))))) : wp l G y_Ma_pushTarget (gRm (d + 1)) true (kkV X k) false 0 [.val (gR G (c + 1057)), .val (gI x1), .val (gI x2), .unset, .unset] [] X M 0 0 := by
  refine wp_aload_n d_Ma_pushTarget_0 rfl rfl (g_nz (gl_1 hX 1057)) ?_
  refine xgetR d_Ma_pushTarget_1 gc_Ma f_Ma_28.1 f_Ma_28.2.1 f_Ma_28.2.2.1 (gl_1 hX 1057) (gl_2 hX (a := 1057) (by decide)) (gl_s hX 37 rfl) f_Ma_28.2.2.2.2.1 hs0.1 ?_
  refine xgetR d_Ma_pushTarget_4 gc_St f_Ma_127.1 f_Ma_127.2.1 f_Ma_127.2.2.1 hs0.2.1 (gs_2 hs0.2) hs0.2.2.2.1 f_Ma_127.2.2.2.2.1 (gs_r hs0.2 3 rfl).1 ?_
  refine wp_iload_n d_Ma_pushTarget_7 rfl rfl ?_
  refine wp_iaload d_Ma_pushTarget_8 (gs_r hs0.2 3 rfl).2.2.1 (gs_r hs0.2 3 rfl).2.2.2 (gs_r hs0.2 3 rfl).2.1 (g32_n T.1 (by decide)) T.1.1 T.1.2 (fun h1 => ?_)
  have T := T.2 h1
  refine wp_istore_n (L' := [.val (gR G (c + 1057)), .val (gI x1), .val (gI x2), .val (gI (M (s0 + 4) (Int.toNat x2))), .unset]) d_Ma_pushTarget_9 rfl (by decide) rfl ?_
  refine wp_iload_n d_Ma_pushTarget_10 rfl rfl ?_
  refine wp_iconst d_Ma_pushTarget_11 ?_
  refine xi_ne (tgt := 33) d_Ma_pushTarget_12 (by decide) (w32_id h1) (w32_id (g32_c (x := (-1)) rfl)) (fun h14 => ?_) (fun h14 => ?_)
  · have T := T.1 h14
    refine wp_iload_n d_Ma_pushTarget_33 rfl rfl ?_
    refine wp_iconst d_Ma_pushTarget_34 ?_
    refine xi_ne (tgt := 68) d_Ma_pushTarget_35 (by decide) (w32_id hx1) (w32_id (g32_c (x := 4) rfl)) (fun h11 => ?_) (fun h11 => ?_)
    · have T := T.1 h11
      refine wp_iload_n d_Ma_pushTarget_68 rfl rfl ?_
      refine wp_bipush d_Ma_pushTarget_69 ⟨by decide, by decide⟩ ?_
      refine xi_ne (tgt := 88) d_Ma_pushTarget_71 (by decide) (w32_id hx1) (w32_id (g32_c (x := 6) rfl)) (fun h7 => ?_) (fun h7 => ?_)
      · have T := T.1 h7
        refine wp_iload_n d_Ma_pushTarget_88 rfl rfl ?_
        refine wp_istore (L' := [.val (gR G (c + 1057)), .val (gI x1), .val (gI x2), .val (gI (M (s0 + 4) (Int.toNat x2))), .val (gI (M (s0 + 4) (Int.toNat x2)))]) d_Ma_pushTarget_89 (by decide) rfl ?_
        refine wp_aload_n d_Ma_pushTarget_91 rfl rfl (g_nz (gl_1 hX 1057)) ?_
        refine xgetR d_Ma_pushTarget_92 gc_Ma f_Ma_14.1 f_Ma_14.2.1 f_Ma_14.2.2.1 (gl_1 hX 1057) (gl_2 hX (a := 1057) (by decide)) (gl_s hX 37 rfl) f_Ma_14.2.2.2.2.1 (gl_f hX 42 rfl) ?_
        refine wp_aload_n d_Ma_pushTarget_95 rfl rfl (g_nz (gl_1 hX 1057)) ?_
        refine xgetI d_Ma_pushTarget_96 gc_Ma f_Ma_65.1 f_Ma_65.2.1 f_Ma_65.2.2.1 (gl_1 hX 1057) (gl_2 hX (a := 1057) (by decide)) (gl_s hX 37 rfl) f_Ma_65.2.2.2.2.1 (fun h2 => ?_)
        have T := T h2
        refine wp_iconst d_Ma_pushTarget_99 ?_
        refine wp_iload_n d_Ma_pushTarget_100 rfl rfl ?_
        refine xi2l d_Ma_pushTarget_101 (w32_id h1) ?_
        refine wp_ldc2 (n := 5200) d_Ma_pushTarget_102 c_Ma_139 rfl ?_
        refine wp_lmul d_Ma_pushTarget_105 ?_
        refine wp_iload d_Ma_pushTarget_106 rfl ?_
        refine xi2l d_Ma_pushTarget_108 (w32_id h1) ?_
        refine wp_ladd d_Ma_pushTarget_109 ?_
        refine xcV_V (md' := true) (As := [gI (M (c + 1057) 6), gI 5, gL (((M (s0 + 4) (Int.toNat x2)) * 5200) + (M (s0 + 4) (Int.toNat x2)))]) (st := []) d_Ma_pushTarget_110 ca_Vl_set ml_Ma_110 im_Vl_set se_Vl_set gc_Vl (gl_stk hX).1 (gv_2 (gl_stk hX)) (gl_stk hX).2.2.1 rfl (by decide) (by decide) rfl (fun _ => rfl) (fun _ => rfl) T (fun M3 T => ?_)
        exact wp_return d_Ma_pushTarget_113 rfl (fun _ => rfl) (Nat.zero_le _) (Nat.zero_le _) (kV_mk T)
      · have T := T.2 h7
        refine wp_aload_n d_Ma_pushTarget_74 rfl rfl (g_nz (gl_1 hX 1057)) ?_
        refine xgetR d_Ma_pushTarget_75 gc_Ma f_Ma_28.1 f_Ma_28.2.1 f_Ma_28.2.2.1 (gl_1 hX 1057) (gl_2 hX (a := 1057) (by decide)) (gl_s hX 37 rfl) f_Ma_28.2.2.2.2.1 hs0.1 ?_
        refine xgetR d_Ma_pushTarget_78 gc_St f_Ma_127.1 f_Ma_127.2.1 f_Ma_127.2.2.1 hs0.2.1 (gs_2 hs0.2) hs0.2.2.2.1 f_Ma_127.2.2.2.2.1 (gs_r hs0.2 3 rfl).1 ?_
        refine wp_iload_n d_Ma_pushTarget_81 rfl rfl ?_
        refine wp_iconst d_Ma_pushTarget_82 ?_
        refine wp_iadd d_Ma_pushTarget_83 ?_
        refine wp_iaload d_Ma_pushTarget_84 (gs_r hs0.2 3 rfl).2.2.1 (gs_r hs0.2 3 rfl).2.2.2 (gs_r hs0.2 3 rfl).2.1 (g32_n T.1 (by decide)) T.1.1 T.1.2 (fun h4 => ?_)
        have T := T.2 h4
        refine wp_goto (tgt := 89) d_Ma_pushTarget_85 (by decide) ?_
        refine wp_istore (L' := [.val (gR G (c + 1057)), .val (gI x1), .val (gI x2), .val (gI (M (s0 + 4) (Int.toNat x2))), .val (gI (M (s0 + 4) (Int.toNat (x2 + 1))))]) d_Ma_pushTarget_89 (by decide) rfl ?_
        refine wp_aload_n d_Ma_pushTarget_91 rfl rfl (g_nz (gl_1 hX 1057)) ?_
        refine xgetR d_Ma_pushTarget_92 gc_Ma f_Ma_14.1 f_Ma_14.2.1 f_Ma_14.2.2.1 (gl_1 hX 1057) (gl_2 hX (a := 1057) (by decide)) (gl_s hX 37 rfl) f_Ma_14.2.2.2.2.1 (gl_f hX 42 rfl) ?_
        refine wp_aload_n d_Ma_pushTarget_95 rfl rfl (g_nz (gl_1 hX 1057)) ?_
        refine xgetI d_Ma_pushTarget_96 gc_Ma f_Ma_65.1 f_Ma_65.2.1 f_Ma_65.2.2.1 (gl_1 hX 1057) (gl_2 hX (a := 1057) (by decide)) (gl_s hX 37 rfl) f_Ma_65.2.2.2.2.1 (fun h5 => ?_)
        have T := T h5
        refine wp_iconst d_Ma_pushTarget_99 ?_
        refine wp_iload_n d_Ma_pushTarget_100 rfl rfl ?_
        refine xi2l d_Ma_pushTarget_101 (w32_id h1) ?_
        refine wp_ldc2 (n := 5200) d_Ma_pushTarget_102 c_Ma_139 rfl ?_
        refine wp_lmul d_Ma_pushTarget_105 ?_
        refine wp_iload d_Ma_pushTarget_106 rfl ?_
        refine xi2l d_Ma_pushTarget_108 (w32_id h4) ?_
        refine wp_ladd d_Ma_pushTarget_109 ?_
        refine xcV_V (md' := true) (As := [gI (M (c + 1057) 6), gI 5, gL (((M (s0 + 4) (Int.toNat x2)) * 5200) + (M (s0 + 4) (Int.toNat (x2 + 1))))]) (st := []) d_Ma_pushTarget_110 ca_Vl_set ml_Ma_110 im_Vl_set se_Vl_set gc_Vl (gl_stk hX).1 (gv_2 (gl_stk hX)) (gl_stk hX).2.2.1 rfl (by decide) (by decide) rfl (fun _ => rfl) (fun _ => rfl) T (fun M6 T => ?_)
        exact wp_return d_Ma_pushTarget_113 rfl (fun _ => rfl) (Nat.zero_le _) (Nat.zero_le _) (kV_mk T)
    · have T := T.2 h11
      refine wp_aload_n d_Ma_pushTarget_38 rfl rfl (g_nz (gl_1 hX 1057)) ?_
      refine xgetR d_Ma_pushTarget_39 gc_Ma f_Ma_14.1 f_Ma_14.2.1 f_Ma_14.2.2.1 (gl_1 hX 1057) (gl_2 hX (a := 1057) (by decide)) (gl_s hX 37 rfl) f_Ma_14.2.2.2.2.1 (gl_f hX 42 rfl) ?_
      refine wp_aload_n d_Ma_pushTarget_42 rfl rfl (g_nz (gl_1 hX 1057)) ?_
      refine xgetI d_Ma_pushTarget_43 gc_Ma f_Ma_65.1 f_Ma_65.2.1 f_Ma_65.2.2.1 (gl_1 hX 1057) (gl_2 hX (a := 1057) (by decide)) (gl_s hX 37 rfl) f_Ma_65.2.2.2.2.1 (fun h8 => ?_)
      have T := T h8
      refine wp_aload_n d_Ma_pushTarget_46 rfl rfl (g_nz (gl_1 hX 1057)) ?_
      refine xgetR d_Ma_pushTarget_47 gc_Ma f_Ma_37.1 f_Ma_37.2.1 f_Ma_37.2.2.1 (gl_1 hX 1057) (gl_2 hX (a := 1057) (by decide)) (gl_s hX 37 rfl) f_Ma_37.2.2.2.2.1 (gl_f hX 45 rfl) ?_
      refine xgetR d_Ma_pushTarget_50 gc_Bx f_Ma_41.1 f_Ma_41.2.1 f_Ma_41.2.2.1 (gl_1 hX 1167) (gl_2 hX (a := 1167) (by decide)) (gl_s hX 39 rfl) f_Ma_41.2.2.2.2.1 hv0.1 ?_
      refine wp_aload_n d_Ma_pushTarget_53 rfl rfl (g_nz (gl_1 hX 1057)) ?_
      refine xgetR d_Ma_pushTarget_54 gc_Ma f_Ma_37.1 f_Ma_37.2.1 f_Ma_37.2.2.1 (gl_1 hX 1057) (gl_2 hX (a := 1057) (by decide)) (gl_s hX 37 rfl) f_Ma_37.2.2.2.2.1 (gl_f hX 45 rfl) ?_
      refine xgetR d_Ma_pushTarget_57 gc_Bx f_Ma_132.1 f_Ma_132.2.1 f_Ma_132.2.2.1 (gl_1 hX 1167) (gl_2 hX (a := 1167) (by decide)) (gl_s hX 39 rfl) f_Ma_132.2.2.2.2.1 (gl_f hX 47 rfl) ?_
      refine wp_iload_n d_Ma_pushTarget_60 rfl rfl ?_
      refine wp_iaload d_Ma_pushTarget_61 (gl_1 hX 235) (gl_2 hX (a := 235) (by decide)) (gl_s hX 25 rfl) (g32_n T.1 (by decide)) T.1.1 T.1.2 (fun h9 => ?_)
      have T := T.2 h9
      refine xcV_V (md' := true) (As := [gI (M (c + 1057) 6), gR G v0, gI (M (c + 235) (Int.toNat (M (s0 + 4) (Int.toNat x2))))]) (st := []) d_Ma_pushTarget_62 ca_Vl_setFrom ml_Ma_135 im_Vl_setFrom se_Vl_setFrom gc_Vl (gl_stk hX).1 (gv_2 (gl_stk hX)) (gl_stk hX).2.2.1 rfl (by decide) (by decide) rfl (fun _ => rfl) (fun _ => rfl) T (fun M10 T => ?_)
      refine wp_goto (tgt := 113) d_Ma_pushTarget_65 (by decide) ?_
      exact wp_return d_Ma_pushTarget_113 rfl (fun _ => rfl) (Nat.zero_le _) (Nat.zero_le _) (kV_mk T)
  · have T := T.2 h14
    refine wp_aload_n d_Ma_pushTarget_15 rfl rfl (g_nz (gl_1 hX 1057)) ?_
    refine xgetR d_Ma_pushTarget_16 gc_Ma f_Ma_14.1 f_Ma_14.2.1 f_Ma_14.2.2.1 (gl_1 hX 1057) (gl_2 hX (a := 1057) (by decide)) (gl_s hX 37 rfl) f_Ma_14.2.2.2.2.1 (gl_f hX 42 rfl) ?_
    refine wp_aload_n d_Ma_pushTarget_19 rfl rfl (g_nz (gl_1 hX 1057)) ?_
    refine xgetI d_Ma_pushTarget_20 gc_Ma f_Ma_65.1 f_Ma_65.2.1 f_Ma_65.2.2.1 (gl_1 hX 1057) (gl_2 hX (a := 1057) (by decide)) (gl_s hX 37 rfl) f_Ma_65.2.2.2.2.1 (fun h12 => ?_)
    have T := T h12
    refine wp_iconst d_Ma_pushTarget_23 ?_
    refine wp_ldc2 (n := 2) d_Ma_pushTarget_24 c_Ma_130 rfl ?_
    refine xcV_V (md' := true) (As := [gI (M (c + 1057) 6), gI 4, gL 2]) (st := []) d_Ma_pushTarget_27 ca_Vl_set ml_Ma_110 im_Vl_set se_Vl_set gc_Vl (gl_stk hX).1 (gv_2 (gl_stk hX)) (gl_stk hX).2.2.1 rfl (by decide) (by decide) rfl (fun _ => rfl) (fun _ => rfl) T (fun M13 T => ?_)
    refine wp_goto (tgt := 113) d_Ma_pushTarget_30 (by decide) ?_
    exact wp_return d_Ma_pushTarget_113 rfl (fun _ => rfl) (Nat.zero_le _) (Nat.zero_le _) (kV_mk T)
theorem e_Ma_pushTarget {l : Launch} {G : gG} {d : Nat} {X : gX} {M : gM} {k : gM → Prop} {c : Nat} {x1 : Int} {x2 : Int} (T : wp l G y_Ma_pushTarget (gRm (d + 1)) true (kkV X k) false 0 [.val (gR G (c + 1057)), .val (gI x1), .val (gI x2), .unset, .unset] [] X M 0 0) : cV l G y_Ma_pushTarget (gRm (d + 1)) true [gR G (c + 1057), gI x1, gI x2] X M k := cen_V (plainFor_of_name rfl) (by simp only [lg_sl_R, lg_sl_I, lg_sl_L, lg_sl_N, List.length_cons, List.length_nil]; decide) (by unfold gEn; simp only [lg_sl_R, lg_sl_I, lg_sl_L, lg_sl_N]; exact wpt T (And.intro rfl (And.intro rfl (And.intro rfl True.intro))))
