/-! Walks of the reference's methods, written by wip/whole/gen_model.py -/
theorem d_GM_pass_0 : decode prog_15_method_13_code 0 = .ok (.aload_n 0, 1) := by decide +kernel
theorem d_GM_pass_1 : decode prog_15_method_13_code 1 = .ok (.getfield 221, 3) := by decide +kernel
theorem d_GM_pass_4 : decode prog_15_method_13_code 4 = .ok (.bipush 20, 2) := by decide +kernel
theorem d_GM_pass_6 : decode prog_15_method_13_code 6 = .ok (.if_icmp .gt 14, 3) := by decide +kernel
theorem d_GM_pass_20 : decode prog_15_method_13_code 20 = .ok (.aload_n 0, 1) := by decide +kernel
theorem d_GM_pass_21 : decode prog_15_method_13_code 21 = .ok (.iconst 1, 1) := by decide +kernel
theorem d_GM_pass_22 : decode prog_15_method_13_code 22 = .ok (.putfield 181, 3) := by decide +kernel
theorem d_GM_pass_25 : decode prog_15_method_13_code 25 = .ok (.aload_n 0, 1) := by decide +kernel
theorem d_GM_pass_26 : decode prog_15_method_13_code 26 = .ok (.dup, 1) := by decide +kernel
theorem d_GM_pass_27 : decode prog_15_method_13_code 27 = .ok (.getfield 218, 3) := by decide +kernel
theorem d_GM_pass_30 : decode prog_15_method_13_code 30 = .ok (.iconst 1, 1) := by decide +kernel
theorem d_GM_pass_31 : decode prog_15_method_13_code 31 = .ok (.iadd, 1) := by decide +kernel
theorem d_GM_pass_32 : decode prog_15_method_13_code 32 = .ok (.putfield 218, 3) := by decide +kernel
theorem d_GM_pass_35 : decode prog_15_method_13_code 35 = .ok (.return_, 1) := by decide +kernel
theorem d_GM_pass_9 : decode prog_15_method_13_code 9 = .ok (.aload_n 0, 1) := by decide +kernel
theorem d_GM_pass_10 : decode prog_15_method_13_code 10 = .ok (.getfield 218, 3) := by decide +kernel
theorem d_GM_pass_13 : decode prog_15_method_13_code 13 = .ok (.aload_n 0, 1) := by decide +kernel
theorem d_GM_pass_14 : decode prog_15_method_13_code 14 = .ok (.getfield 178, 3) := by decide +kernel
theorem d_GM_pass_17 : decode prog_15_method_13_code 17 = .ok (.if_icmp .lt 8, 3) := by decide +kernel
set_option maxHeartbeats 4000000 in
theorem w_GM_pass_0 {l : Launch} {G : gG} {d : Nat} {X : gX} {M : gM} {k : gM → Prop} {o : Nat} (hX : gmX X o)  (T : g32 (M o 26) → ((20 < M o 26 → (g32 ((gUp M o 27 1) o 25) → (k (gUp (gUp M o 27 1) o 25 (w32 (((gUp M o 27 1) o 25) + 1)))))) ∧ (¬ 20 < M o 26 → (g32 (M o 25) → (g32 (M o 24) → ((M o 25 < M o 24 → (g32 (M o 25) → (k (gUp M o 25 (w32 ((M o 25) + 1)))))) ∧ (¬ M o 25 < M o 24 → (g32 ((gUp M o 27 1) o 25) → (k (gUp (gUp M o 27 1) o 25 (w32 (((gUp M o 27 1) o 25) + 1)))))))))))) : wp l G y_GM_pass (gRm d) true (kkV X k) false 0 [.val (gR G o)] [] X M 0 0 := by
  refine wp_aload_n d_GM_pass_0 rfl rfl (g_nz hX.1) ?_
  refine xgetI d_GM_pass_1 gc_GM f_GM_221.1 f_GM_221.2.1 f_GM_221.2.2.1 hX.1 (gm_o2 hX) hX.2.2.1 f_GM_221.2.2.2.2.1 (fun h1 => ?_)
  have T := T h1
  refine wp_bipush d_GM_pass_4 ⟨by decide, by decide⟩ ?_
  refine xi_gt (tgt := 20) d_GM_pass_6 (by decide) (w32_id h1) (w32_id (g32_c (x := 20) rfl)) (fun h8 => ?_) (fun h8 => ?_)
  · have T := T.1 h8
    refine wp_aload_n d_GM_pass_20 rfl rfl (g_nz hX.1) ?_
    refine wp_iconst d_GM_pass_21 ?_
    refine xputZ d_GM_pass_22 gc_GM f_GM_181.1 f_GM_181.2.1 f_GM_181.2.2.1 hX.1 (gm_o2 hX) hX.2.2.1 f_GM_181.2.2.2.1 f_GM_181.2.2.2.2.1 f_GM_181.2.2.2.2.2 (⟨by decide, by decide⟩ : (0 : Int) ≤ 1 ∧ (1 : Int) ≤ 1) ?_
    refine wp_aload_n d_GM_pass_25 rfl rfl (g_nz hX.1) ?_
    refine wp_dup d_GM_pass_26 (gR_cat _) ?_
    refine xgetI d_GM_pass_27 gc_GM f_GM_218.1 f_GM_218.2.1 f_GM_218.2.2.1 hX.1 (gm_o2 hX) hX.2.2.1 f_GM_218.2.2.2.2.1 (fun h2 => ?_)
    have T := T h2
    refine wp_iconst d_GM_pass_30 ?_
    refine wp_iadd d_GM_pass_31 ?_
    refine xputI d_GM_pass_32 gc_GM f_GM_218.1 f_GM_218.2.1 f_GM_218.2.2.1 hX.1 (gm_o2 hX) hX.2.2.1 f_GM_218.2.2.2.1 f_GM_218.2.2.2.2.1 f_GM_218.2.2.2.2.2 rfl ?_
    exact wp_return d_GM_pass_35 rfl (fun _ => rfl) (Nat.zero_le _) (Nat.zero_le _) (kV_mk T)
  · have T := T.2 h8
    refine wp_aload_n d_GM_pass_9 rfl rfl (g_nz hX.1) ?_
    refine xgetI d_GM_pass_10 gc_GM f_GM_218.1 f_GM_218.2.1 f_GM_218.2.2.1 hX.1 (gm_o2 hX) hX.2.2.1 f_GM_218.2.2.2.2.1 (fun h3 => ?_)
    have T := T h3
    refine wp_aload_n d_GM_pass_13 rfl rfl (g_nz hX.1) ?_
    refine xgetI d_GM_pass_14 gc_GM f_GM_178.1 f_GM_178.2.1 f_GM_178.2.2.1 hX.1 (gm_o2 hX) hX.2.2.1 f_GM_178.2.2.2.2.1 (fun h4 => ?_)
    have T := T h4
    refine xi_lt (tgt := 25) d_GM_pass_17 (by decide) (w32_id h3) (w32_id h4) (fun h7 => ?_) (fun h7 => ?_)
    · have T := T.1 h7
      refine wp_aload_n d_GM_pass_25 rfl rfl (g_nz hX.1) ?_
      refine wp_dup d_GM_pass_26 (gR_cat _) ?_
      refine xgetI d_GM_pass_27 gc_GM f_GM_218.1 f_GM_218.2.1 f_GM_218.2.2.1 hX.1 (gm_o2 hX) hX.2.2.1 f_GM_218.2.2.2.2.1 (fun h5 => ?_)
      have T := T h5
      refine wp_iconst d_GM_pass_30 ?_
      refine wp_iadd d_GM_pass_31 ?_
      refine xputI d_GM_pass_32 gc_GM f_GM_218.1 f_GM_218.2.1 f_GM_218.2.2.1 hX.1 (gm_o2 hX) hX.2.2.1 f_GM_218.2.2.2.1 f_GM_218.2.2.2.2.1 f_GM_218.2.2.2.2.2 rfl ?_
      exact wp_return d_GM_pass_35 rfl (fun _ => rfl) (Nat.zero_le _) (Nat.zero_le _) (kV_mk T)
    · have T := T.2 h7
      refine wp_aload_n d_GM_pass_20 rfl rfl (g_nz hX.1) ?_
      refine wp_iconst d_GM_pass_21 ?_
      refine xputZ d_GM_pass_22 gc_GM f_GM_181.1 f_GM_181.2.1 f_GM_181.2.2.1 hX.1 (gm_o2 hX) hX.2.2.1 f_GM_181.2.2.2.1 f_GM_181.2.2.2.2.1 f_GM_181.2.2.2.2.2 (⟨by decide, by decide⟩ : (0 : Int) ≤ 1 ∧ (1 : Int) ≤ 1) ?_
      refine wp_aload_n d_GM_pass_25 rfl rfl (g_nz hX.1) ?_
      refine wp_dup d_GM_pass_26 (gR_cat _) ?_
      refine xgetI d_GM_pass_27 gc_GM f_GM_218.1 f_GM_218.2.1 f_GM_218.2.2.1 hX.1 (gm_o2 hX) hX.2.2.1 f_GM_218.2.2.2.2.1 (fun h6 => ?_)
      have T := T h6
      refine wp_iconst d_GM_pass_30 ?_
      refine wp_iadd d_GM_pass_31 ?_
      refine xputI d_GM_pass_32 gc_GM f_GM_218.1 f_GM_218.2.1 f_GM_218.2.2.1 hX.1 (gm_o2 hX) hX.2.2.1 f_GM_218.2.2.2.1 f_GM_218.2.2.2.2.1 f_GM_218.2.2.2.2.2 rfl ?_
      exact wp_return d_GM_pass_35 rfl (fun _ => rfl) (Nat.zero_le _) (Nat.zero_le _) (kV_mk T)
theorem e_GM_pass {l : Launch} {G : gG} {d : Nat} {X : gX} {M : gM} {k : gM → Prop} {o : Nat} (T : wp l G y_GM_pass (gRm d) true (kkV X k) false 0 [.val (gR G o)] [] X M 0 0) : cV l G y_GM_pass (gRm d) true [gR G o] X M k := cen_V (plainFor_of_name rfl) (by simp only [lg_sl_R, lg_sl_I, lg_sl_L, lg_sl_N, List.length_cons, List.length_nil]; decide) (by unfold gEn; simp only [lg_sl_R, lg_sl_I, lg_sl_L, lg_sl_N]; exact wpt T (And.intro rfl True.intro))
theorem d_GM_need_0 : decode prog_15_method_14_code 0 = .ok (.aload_n 0, 1) := by decide +kernel
theorem d_GM_need_1 : decode prog_15_method_14_code 1 = .ok (.iconst 0, 1) := by decide +kernel
theorem d_GM_need_2 : decode prog_15_method_14_code 2 = .ok (.invokevirtual 224, 3) := by decide +kernel
theorem d_GM_need_5 : decode prog_15_method_14_code 5 = .ok (.iload_n 1, 1) := by decide +kernel
theorem d_GM_need_6 : decode prog_15_method_14_code 6 = .ok (.if_icmp .eq 8, 3) := by decide +kernel
theorem d_GM_need_14 : decode prog_15_method_14_code 14 = .ok (.aload_n 0, 1) := by decide +kernel
theorem d_GM_need_15 : decode prog_15_method_14_code 15 = .ok (.invokevirtual 228, 3) := by decide +kernel
theorem d_GM_need_18 : decode prog_15_method_14_code 18 = .ok (.return_, 1) := by decide +kernel
theorem d_GM_need_9 : decode prog_15_method_14_code 9 = .ok (.aload_n 0, 1) := by decide +kernel
theorem d_GM_need_10 : decode prog_15_method_14_code 10 = .ok (.iconst 1, 1) := by decide +kernel
theorem d_GM_need_11 : decode prog_15_method_14_code 11 = .ok (.putfield 181, 3) := by decide +kernel
set_option maxHeartbeats 4000000 in
theorem w_GM_need_0 {l : Launch} {G : gG} {d : Nat} {X : gX} {M : gM} {k : gM → Prop} {o : Nat} (hX : gmX X o) {x1 : Int} (hx1 : g32 x1) (T : cI l G y_GM_look (gRm d) false [gR G o, gI 0] X M (fun v2 M1 => ((v2 = x1 → (cV l G y_GM_pass (gRm d) true [gR G o] X M1 (fun M4 => (k M4)))) ∧ (¬ v2 = x1 → (cV l G y_GM_pass (gRm d) true [gR G o] X (gUp M1 o 27 1) (fun M5 => (k M5))))))) : wp l G y_GM_need (gRm (d + 1)) true (kkV X k) false 0 [.val (gR G o), .val (gI x1)] [] X M 0 0 := by
  refine wp_aload_n d_GM_need_0 rfl rfl (g_nz hX.1) ?_
  refine wp_iconst d_GM_need_1 ?_
  refine xcV_I (md' := false) (As := [gI 0]) (st := []) d_GM_need_2 ca_GM_look ml_GM_224 im_GM_look se_GM_look gc_GM hX.1 (gm_o2 hX) hX.2.2.1 rfl (by decide) (by decide) rfl id id T (fun v2 M1 h3 T => ?_)
  refine wp_iload_n d_GM_need_5 rfl rfl ?_
  refine xi_eq (tgt := 14) d_GM_need_6 (by decide) (w32_id h3) (w32_id hx1) (fun h6 => ?_) (fun h6 => ?_)
  · have T := T.1 h6
    refine wp_aload_n d_GM_need_14 rfl rfl (g_nz hX.1) ?_
    refine xcV_V (md' := true) (As := []) (st := []) d_GM_need_15 ca_GM_pass ml_GM_228 im_GM_pass se_GM_pass gc_GM hX.1 (gm_o2 hX) hX.2.2.1 rfl (by decide) (by decide) rfl (fun _ => rfl) (fun _ => rfl) T (fun M4 T => ?_)
    exact wp_return d_GM_need_18 rfl (fun _ => rfl) (Nat.zero_le _) (Nat.zero_le _) (kV_mk T)
  · have T := T.2 h6
    refine wp_aload_n d_GM_need_9 rfl rfl (g_nz hX.1) ?_
    refine wp_iconst d_GM_need_10 ?_
    refine xputZ d_GM_need_11 gc_GM f_GM_181.1 f_GM_181.2.1 f_GM_181.2.2.1 hX.1 (gm_o2 hX) hX.2.2.1 f_GM_181.2.2.2.1 f_GM_181.2.2.2.2.1 f_GM_181.2.2.2.2.2 (⟨by decide, by decide⟩ : (0 : Int) ≤ 1 ∧ (1 : Int) ≤ 1) ?_
    refine wp_aload_n d_GM_need_14 rfl rfl (g_nz hX.1) ?_
    refine xcV_V (md' := true) (As := []) (st := []) d_GM_need_15 ca_GM_pass ml_GM_228 im_GM_pass se_GM_pass gc_GM hX.1 (gm_o2 hX) hX.2.2.1 rfl (by decide) (by decide) rfl (fun _ => rfl) (fun _ => rfl) T (fun M5 T => ?_)
    exact wp_return d_GM_need_18 rfl (fun _ => rfl) (Nat.zero_le _) (Nat.zero_le _) (kV_mk T)
theorem e_GM_need {l : Launch} {G : gG} {d : Nat} {X : gX} {M : gM} {k : gM → Prop} {o : Nat} {x1 : Int} (T : wp l G y_GM_need (gRm (d + 1)) true (kkV X k) false 0 [.val (gR G o), .val (gI x1)] [] X M 0 0) : cV l G y_GM_need (gRm (d + 1)) true [gR G o, gI x1] X M k := cen_V (plainFor_of_name rfl) (by simp only [lg_sl_R, lg_sl_I, lg_sl_L, lg_sl_N, List.length_cons, List.length_nil]; decide) (by unfold gEn; simp only [lg_sl_R, lg_sl_I, lg_sl_L, lg_sl_N]; exact wpt T (And.intro rfl (And.intro rfl True.intro)))
theorem d_GM_node_0 : decode prog_15_method_15_code 0 = .ok (.aload_n 0, 1) := by decide +kernel
theorem d_GM_node_1 : decode prog_15_method_15_code 1 = .ok (.getfield 14, 3) := by decide +kernel
theorem d_GM_node_4 : decode prog_15_method_15_code 4 = .ok (.aload_n 0, 1) := by decide +kernel
theorem d_GM_node_5 : decode prog_15_method_15_code 5 = .ok (.getfield 231, 3) := by decide +kernel
theorem d_GM_node_8 : decode prog_15_method_15_code 8 = .ok (.iload_n 1, 1) := by decide +kernel
theorem d_GM_node_9 : decode prog_15_method_15_code 9 = .ok (.iastore, 1) := by decide +kernel
theorem d_GM_node_10 : decode prog_15_method_15_code 10 = .ok (.aload_n 0, 1) := by decide +kernel
theorem d_GM_node_11 : decode prog_15_method_15_code 11 = .ok (.getfield 18, 3) := by decide +kernel
theorem d_GM_node_14 : decode prog_15_method_15_code 14 = .ok (.aload_n 0, 1) := by decide +kernel
theorem d_GM_node_15 : decode prog_15_method_15_code 15 = .ok (.getfield 231, 3) := by decide +kernel
theorem d_GM_node_18 : decode prog_15_method_15_code 18 = .ok (.iload_n 2, 1) := by decide +kernel
theorem d_GM_node_19 : decode prog_15_method_15_code 19 = .ok (.iastore, 1) := by decide +kernel
theorem d_GM_node_20 : decode prog_15_method_15_code 20 = .ok (.aload_n 0, 1) := by decide +kernel
theorem d_GM_node_21 : decode prog_15_method_15_code 21 = .ok (.getfield 21, 3) := by decide +kernel
theorem d_GM_node_24 : decode prog_15_method_15_code 24 = .ok (.aload_n 0, 1) := by decide +kernel
theorem d_GM_node_25 : decode prog_15_method_15_code 25 = .ok (.getfield 231, 3) := by decide +kernel
theorem d_GM_node_28 : decode prog_15_method_15_code 28 = .ok (.iload_n 3, 1) := by decide +kernel
theorem d_GM_node_29 : decode prog_15_method_15_code 29 = .ok (.iastore, 1) := by decide +kernel
theorem d_GM_node_30 : decode prog_15_method_15_code 30 = .ok (.aload_n 0, 1) := by decide +kernel
theorem d_GM_node_31 : decode prog_15_method_15_code 31 = .ok (.getfield 27, 3) := by decide +kernel
theorem d_GM_node_34 : decode prog_15_method_15_code 34 = .ok (.aload_n 0, 1) := by decide +kernel
theorem d_GM_node_35 : decode prog_15_method_15_code 35 = .ok (.getfield 231, 3) := by decide +kernel
theorem d_GM_node_38 : decode prog_15_method_15_code 38 = .ok (.lload 4, 2) := by decide +kernel
theorem d_GM_node_40 : decode prog_15_method_15_code 40 = .ok (.lastore, 1) := by decide +kernel
theorem d_GM_node_41 : decode prog_15_method_15_code 41 = .ok (.aload_n 0, 1) := by decide +kernel
theorem d_GM_node_42 : decode prog_15_method_15_code 42 = .ok (.getfield 24, 3) := by decide +kernel
theorem d_GM_node_45 : decode prog_15_method_15_code 45 = .ok (.aload_n 0, 1) := by decide +kernel
theorem d_GM_node_46 : decode prog_15_method_15_code 46 = .ok (.getfield 231, 3) := by decide +kernel
theorem d_GM_node_49 : decode prog_15_method_15_code 49 = .ok (.iconst (-1), 1) := by decide +kernel
theorem d_GM_node_50 : decode prog_15_method_15_code 50 = .ok (.iastore, 1) := by decide +kernel
theorem d_GM_node_51 : decode prog_15_method_15_code 51 = .ok (.aload_n 0, 1) := by decide +kernel
theorem d_GM_node_52 : decode prog_15_method_15_code 52 = .ok (.dup, 1) := by decide +kernel
theorem d_GM_node_53 : decode prog_15_method_15_code 53 = .ok (.getfield 231, 3) := by decide +kernel
theorem d_GM_node_56 : decode prog_15_method_15_code 56 = .ok (.iconst 1, 1) := by decide +kernel
theorem d_GM_node_57 : decode prog_15_method_15_code 57 = .ok (.iadd, 1) := by decide +kernel
theorem d_GM_node_58 : decode prog_15_method_15_code 58 = .ok (.putfield 231, 3) := by decide +kernel
theorem d_GM_node_61 : decode prog_15_method_15_code 61 = .ok (.aload_n 0, 1) := by decide +kernel
theorem d_GM_node_62 : decode prog_15_method_15_code 62 = .ok (.getfield 231, 3) := by decide +kernel
theorem d_GM_node_65 : decode prog_15_method_15_code 65 = .ok (.iconst 1, 1) := by decide +kernel
theorem d_GM_node_66 : decode prog_15_method_15_code 66 = .ok (.isub, 1) := by decide +kernel
theorem d_GM_node_67 : decode prog_15_method_15_code 67 = .ok (.ireturn, 1) := by decide +kernel
set_option maxHeartbeats 4000000 in
theorem w_GM_node_0 {l : Launch} {G : gG} {d : Nat} {X : gX} {M : gM} {k : Int → gM → Prop} {o : Nat} (hX : gmX X o) {x1 : Int} (hx1 : g32 x1) {x2 : Int} (hx2 : g32 x2) {x3 : Int} (hx3 : g32 x3) {x4 : Int} (hx4 : g64 x4) (T : g32 (M o 9) → (((0 : Int) ≤ M o 9 ∧ M o 9 < 90000) ∧ (g32 ((gUp M (o + 2) (Int.toNat (M o 9)) x1) o 9) → (((0 : Int) ≤ (gUp M (o + 2) (Int.toNat (M o 9)) x1) o 9 ∧ (gUp M (o + 2) (Int.toNat (M o 9)) x1) o 9 < 90000) ∧ (g32 ((gUp (gUp M (o + 2) (Int.toNat (M o 9)) x1) (o + 3) (Int.toNat ((gUp M (o + 2) (Int.toNat (M o 9)) x1) o 9)) x2) o 9) → (((0 : Int) ≤ (gUp (gUp M (o + 2) (Int.toNat (M o 9)) x1) (o + 3) (Int.toNat ((gUp M (o + 2) (Int.toNat (M o 9)) x1) o 9)) x2) o 9 ∧ (gUp (gUp M (o + 2) (Int.toNat (M o 9)) x1) (o + 3) (Int.toNat ((gUp M (o + 2) (Int.toNat (M o 9)) x1) o 9)) x2) o 9 < 90000) ∧ (g32 ((gUp (gUp (gUp M (o + 2) (Int.toNat (M o 9)) x1) (o + 3) (Int.toNat ((gUp M (o + 2) (Int.toNat (M o 9)) x1) o 9)) x2) (o + 4) (Int.toNat ((gUp (gUp M (o + 2) (Int.toNat (M o 9)) x1) (o + 3) (Int.toNat ((gUp M (o + 2) (Int.toNat (M o 9)) x1) o 9)) x2) o 9)) x3) o 9) → (((0 : Int) ≤ (gUp (gUp (gUp M (o + 2) (Int.toNat (M o 9)) x1) (o + 3) (Int.toNat ((gUp M (o + 2) (Int.toNat (M o 9)) x1) o 9)) x2) (o + 4) (Int.toNat ((gUp (gUp M (o + 2) (Int.toNat (M o 9)) x1) (o + 3) (Int.toNat ((gUp M (o + 2) (Int.toNat (M o 9)) x1) o 9)) x2) o 9)) x3) o 9 ∧ (gUp (gUp (gUp M (o + 2) (Int.toNat (M o 9)) x1) (o + 3) (Int.toNat ((gUp M (o + 2) (Int.toNat (M o 9)) x1) o 9)) x2) (o + 4) (Int.toNat ((gUp (gUp M (o + 2) (Int.toNat (M o 9)) x1) (o + 3) (Int.toNat ((gUp M (o + 2) (Int.toNat (M o 9)) x1) o 9)) x2) o 9)) x3) o 9 < 90000) ∧ (g32 ((gUp (gUp (gUp (gUp M (o + 2) (Int.toNat (M o 9)) x1) (o + 3) (Int.toNat ((gUp M (o + 2) (Int.toNat (M o 9)) x1) o 9)) x2) (o + 4) (Int.toNat ((gUp (gUp M (o + 2) (Int.toNat (M o 9)) x1) (o + 3) (Int.toNat ((gUp M (o + 2) (Int.toNat (M o 9)) x1) o 9)) x2) o 9)) x3) (o + 6) (Int.toNat ((gUp (gUp (gUp M (o + 2) (Int.toNat (M o 9)) x1) (o + 3) (Int.toNat ((gUp M (o + 2) (Int.toNat (M o 9)) x1) o 9)) x2) (o + 4) (Int.toNat ((gUp (gUp M (o + 2) (Int.toNat (M o 9)) x1) (o + 3) (Int.toNat ((gUp M (o + 2) (Int.toNat (M o 9)) x1) o 9)) x2) o 9)) x3) o 9)) x4) o 9) → (((0 : Int) ≤ (gUp (gUp (gUp (gUp M (o + 2) (Int.toNat (M o 9)) x1) (o + 3) (Int.toNat ((gUp M (o + 2) (Int.toNat (M o 9)) x1) o 9)) x2) (o + 4) (Int.toNat ((gUp (gUp M (o + 2) (Int.toNat (M o 9)) x1) (o + 3) (Int.toNat ((gUp M (o + 2) (Int.toNat (M o 9)) x1) o 9)) x2) o 9)) x3) (o + 6) (Int.toNat ((gUp (gUp (gUp M (o + 2) (Int.toNat (M o 9)) x1) (o + 3) (Int.toNat ((gUp M (o + 2) (Int.toNat (M o 9)) x1) o 9)) x2) (o + 4) (Int.toNat ((gUp (gUp M (o + 2) (Int.toNat (M o 9)) x1) (o + 3) (Int.toNat ((gUp M (o + 2) (Int.toNat (M o 9)) x1) o 9)) x2) o 9)) x3) o 9)) x4) o 9 ∧ (gUp (gUp (gUp (gUp M (o + 2) (Int.toNat (M o 9)) x1) (o + 3) (Int.toNat ((gUp M (o + 2) (Int.toNat (M o 9)) x1) o 9)) x2) (o + 4) (Int.toNat ((gUp (gUp M (o + 2) (Int.toNat (M o 9)) x1) (o + 3) (Int.toNat ((gUp M (o + 2) (Int.toNat (M o 9)) x1) o 9)) x2) o 9)) x3) (o + 6) (Int.toNat ((gUp (gUp (gUp M (o + 2) (Int.toNat (M o 9)) x1) (o + 3) (Int.toNat ((gUp M (o + 2) (Int.toNat (M o 9)) x1) o 9)) x2) (o + 4) (Int.toNat ((gUp (gUp M (o + 2) (Int.toNat (M o 9)) x1) (o + 3) (Int.toNat ((gUp M (o + 2) (Int.toNat (M o 9)) x1) o 9)) x2) o 9)) x3) o 9)) x4) o 9 < 90000) ∧ (g32 ((gUp (gUp (gUp (gUp (gUp M (o + 2) (Int.toNat (M o 9)) x1) (o + 3) (Int.toNat ((gUp M (o + 2) (Int.toNat (M o 9)) x1) o 9)) x2) (o + 4) (Int.toNat ((gUp (gUp M (o + 2) (Int.toNat (M o 9)) x1) (o + 3) (Int.toNat ((gUp M (o + 2) (Int.toNat (M o 9)) x1) o 9)) x2) o 9)) x3) (o + 6) (Int.toNat ((gUp (gUp (gUp M (o + 2) (Int.toNat (M o 9)) x1) (o + 3) (Int.toNat ((gUp M (o + 2) (Int.toNat (M o 9)) x1) o 9)) x2) (o + 4) (Int.toNat ((gUp (gUp M (o + 2) (Int.toNat (M o 9)) x1) (o + 3) (Int.toNat ((gUp M (o + 2) (Int.toNat (M o 9)) x1) o 9)) x2) o 9)) x3) o 9)) x4) (o + 5) (Int.toNat ((gUp (gUp (gUp (gUp M (o + 2) (Int.toNat (M o 9)) x1) (o + 3) (Int.toNat ((gUp M (o + 2) (Int.toNat (M o 9)) x1) o 9)) x2) (o + 4) (Int.toNat ((gUp (gUp M (o + 2) (Int.toNat (M o 9)) x1) (o + 3) (Int.toNat ((gUp M (o + 2) (Int.toNat (M o 9)) x1) o 9)) x2) o 9)) x3) (o + 6) (Int.toNat ((gUp (gUp (gUp M (o + 2) (Int.toNat (M o 9)) x1) (o + 3) (Int.toNat ((gUp M (o + 2) (Int.toNat (M o 9)) x1) o 9)) x2) (o + 4) (Int.toNat ((gUp (gUp M (o + 2) (Int.toNat (M o 9)) x1) (o + 3) (Int.toNat ((gUp M (o + 2) (Int.toNat (M o 9)) x1) o 9)) x2) o 9)) x3) o 9)) x4) o 9)) (-1)) o 9) → (g32 ((gUp (gUp (gUp (gUp (gUp (gUp M (o + 2) (Int.toNat (M o 9)) x1) (o + 3) (Int.toNat ((gUp M (o + 2) (Int.toNat (M o 9)) x1) o 9)) x2) (o + 4) (Int.toNat ((gUp (gUp M (o + 2) (Int.toNat (M o 9)) x1) (o + 3) (Int.toNat ((gUp M (o + 2) (Int.toNat (M o 9)) x1) o 9)) x2) o 9)) x3) (o + 6) (Int.toNat ((gUp (gUp (gUp M (o + 2) (Int.toNat (M o 9)) x1) (o + 3) (Int.toNat ((gUp M (o + 2) (Int.toNat (M o 9)) x1) o 9)) x2) (o + 4) (Int.toNat ((gUp (gUp M (o + 2) (Int.toNat (M o 9)) x1) (o + 3) (Int.toNat ((gUp M (o + 2) (Int.toNat (M o 9)) x1) o 9)) x2) o 9)) x3) o 9)) x4) (o + 5) (Int.toNat ((gUp (gUp (gUp (gUp M (o + 2) (Int.toNat (M o 9)) x1) (o + 3) (Int.toNat ((gUp M (o + 2) (Int.toNat (M o 9)) x1) o 9)) x2) (o + 4) (Int.toNat ((gUp (gUp M (o + 2) (Int.toNat (M o 9)) x1) (o + 3) (Int.toNat ((gUp M (o + 2) (Int.toNat (M o 9)) x1) o 9)) x2) o 9)) x3) (o + 6) (Int.toNat ((gUp (gUp (gUp M (o + 2) (Int.toNat (M o 9)) x1) (o + 3) (Int.toNat ((gUp M (o + 2) (Int.toNat (M o 9)) x1) o 9)) x2) (o + 4) (Int.toNat ((gUp (gUp M (o + 2) (Int.toNat (M o 9)) x1) (o + 3) (Int.toNat ((gUp M (o + 2) (Int.toNat (M o 9)) x1) o 9)) x2) o 9)) x3) o 9)) x4) o 9)) (-1)) o 9 (w32 (((gUp (gUp (gUp (gUp (gUp M (o + 2) (Int.toNat (M o 9)) x1) (o + 3) (Int.toNat ((gUp M (o + 2) (Int.toNat (M o 9)) x1) o 9)) x2) (o + 4) (Int.toNat ((gUp (gUp M (o + 2) (Int.toNat (M o 9)) x1) (o + 3) (Int.toNat ((gUp M (o + 2) (Int.toNat (M o 9)) x1) o 9)) x2) o 9)) x3) (o + 6) (Int.toNat ((gUp (gUp (gUp M (o + 2) (Int.toNat (M o 9)) x1) (o + 3) (Int.toNat ((gUp M (o + 2) (Int.toNat (M o 9)) x1) o 9)) x2) (o + 4) (Int.toNat ((gUp (gUp M (o + 2) (Int.toNat (M o 9)) x1) (o + 3) (Int.toNat ((gUp M (o + 2) (Int.toNat (M o 9)) x1) o 9)) x2) o 9)) x3) o 9)) x4) (o + 5) (Int.toNat ((gUp (gUp (gUp (gUp M (o + 2) (Int.toNat (M o 9)) x1) (o + 3) (Int.toNat ((gUp M (o + 2) (Int.toNat (M o 9)) x1) o 9)) x2) (o + 4) (Int.toNat ((gUp (gUp M (o + 2) (Int.toNat (M o 9)) x1) (o + 3) (Int.toNat ((gUp M (o + 2) (Int.toNat (M o 9)) x1) o 9)) x2) o 9)) x3) (o + 6) (Int.toNat ((gUp (gUp (gUp M (o + 2) (Int.toNat (M o 9)) x1) (o + 3) (Int.toNat ((gUp M (o + 2) (Int.toNat (M o 9)) x1) o 9)) x2) (o + 4) (Int.toNat ((gUp (gUp M (o + 2) (Int.toNat (M o 9)) x1) (o + 3) (Int.toNat ((gUp M (o + 2) (Int.toNat (M o 9)) x1) o 9)) x2) o 9)) x3) o 9)) x4) o 9)) (-1)) o 9) + 1))) o 9) → (k (w32 (((gUp (gUp (gUp (gUp (gUp (gUp M (o + 2) (Int.toNat (M o 9)) x1) (o + 3) (Int.toNat ((gUp M (o + 2) (Int.toNat (M o 9)) x1) o 9)) x2) (o + 4) (Int.toNat ((gUp (gUp M (o + 2) (Int.toNat (M o 9)) x1) (o + 3) (Int.toNat ((gUp M (o + 2) (Int.toNat (M o 9)) x1) o 9)) x2) o 9)) x3) (o + 6) (Int.toNat ((gUp (gUp (gUp M (o + 2) (Int.toNat (M o 9)) x1) (o + 3) (Int.toNat ((gUp M (o + 2) (Int.toNat (M o 9)) x1) o 9)) x2) (o + 4) (Int.toNat ((gUp (gUp M (o + 2) (Int.toNat (M o 9)) x1) (o + 3) (Int.toNat ((gUp M (o + 2) (Int.toNat (M o 9)) x1) o 9)) x2) o 9)) x3) o 9)) x4) (o + 5) (Int.toNat ((gUp (gUp (gUp (gUp M (o + 2) (Int.toNat (M o 9)) x1) (o + 3) (Int.toNat ((gUp M (o + 2) (Int.toNat (M o 9)) x1) o 9)) x2) (o + 4) (Int.toNat ((gUp (gUp M (o + 2) (Int.toNat (M o 9)) x1) (o + 3) (Int.toNat ((gUp M (o + 2) (Int.toNat (M o 9)) x1) o 9)) x2) o 9)) x3) (o + 6) (Int.toNat ((gUp (gUp (gUp M (o + 2) (Int.toNat (M o 9)) x1) (o + 3) (Int.toNat ((gUp M (o + 2) (Int.toNat (M o 9)) x1) o 9)) x2) (o + 4) (Int.toNat ((gUp (gUp M (o + 2) (Int.toNat (M o 9)) x1) (o + 3) (Int.toNat ((gUp M (o + 2) (Int.toNat (M o 9)) x1) o 9)) x2) o 9)) x3) o 9)) x4) o 9)) (-1)) o 9 (w32 (((gUp (gUp (gUp (gUp (gUp M (o + 2) (Int.toNat (M o 9)) x1) (o + 3) (Int.toNat ((gUp M (o + 2) (Int.toNat (M o 9)) x1) o 9)) x2) (o + 4) (Int.toNat ((gUp (gUp M (o + 2) (Int.toNat (M o 9)) x1) (o + 3) (Int.toNat ((gUp M (o + 2) (Int.toNat (M o 9)) x1) o 9)) x2) o 9)) x3) (o + 6) (Int.toNat ((gUp (gUp (gUp M (o + 2) (Int.toNat (M o 9)) x1) (o + 3) (Int.toNat ((gUp M (o + 2) (Int.toNat (M o 9)) x1) o 9)) x2) (o + 4) (Int.toNat ((gUp (gUp M (o + 2) (Int.toNat (M o 9)) x1) (o + 3) (Int.toNat ((gUp M (o + 2) (Int.toNat (M o 9)) x1) o 9)) x2) o 9)) x3) o 9)) x4) (o + 5) (Int.toNat ((gUp (gUp (gUp (gUp M (o + 2) (Int.toNat (M o 9)) x1) (o + 3) (Int.toNat ((gUp M (o + 2) (Int.toNat (M o 9)) x1) o 9)) x2) (o + 4) (Int.toNat ((gUp (gUp M (o + 2) (Int.toNat (M o 9)) x1) (o + 3) (Int.toNat ((gUp M (o + 2) (Int.toNat (M o 9)) x1) o 9)) x2) o 9)) x3) (o + 6) (Int.toNat ((gUp (gUp (gUp M (o + 2) (Int.toNat (M o 9)) x1) (o + 3) (Int.toNat ((gUp M (o + 2) (Int.toNat (M o 9)) x1) o 9)) x2) (o + 4) (Int.toNat ((gUp (gUp M (o + 2) (Int.toNat (M o 9)) x1) (o + 3) (Int.toNat ((gUp M (o + 2) (Int.toNat (M o 9)) x1) o 9)) x2) o 9)) x3) o 9)) x4) o 9)) (-1)) o 9) + 1))) o 9) - 1)) (gUp (gUp (gUp (gUp (gUp (gUp M (o + 2) (Int.toNat (M o 9)) x1) (o + 3) (Int.toNat ((gUp M (o + 2) (Int.toNat (M o 9)) x1) o 9)) x2) (o + 4) (Int.toNat ((gUp (gUp M (o + 2) (Int.toNat (M o 9)) x1) (o + 3) (Int.toNat ((gUp M (o + 2) (Int.toNat (M o 9)) x1) o 9)) x2) o 9)) x3) (o + 6) (Int.toNat ((gUp (gUp (gUp M (o + 2) (Int.toNat (M o 9)) x1) (o + 3) (Int.toNat ((gUp M (o + 2) (Int.toNat (M o 9)) x1) o 9)) x2) (o + 4) (Int.toNat ((gUp (gUp M (o + 2) (Int.toNat (M o 9)) x1) (o + 3) (Int.toNat ((gUp M (o + 2) (Int.toNat (M o 9)) x1) o 9)) x2) o 9)) x3) o 9)) x4) (o + 5) (Int.toNat ((gUp (gUp (gUp (gUp M (o + 2) (Int.toNat (M o 9)) x1) (o + 3) (Int.toNat ((gUp M (o + 2) (Int.toNat (M o 9)) x1) o 9)) x2) (o + 4) (Int.toNat ((gUp (gUp M (o + 2) (Int.toNat (M o 9)) x1) (o + 3) (Int.toNat ((gUp M (o + 2) (Int.toNat (M o 9)) x1) o 9)) x2) o 9)) x3) (o + 6) (Int.toNat ((gUp (gUp (gUp M (o + 2) (Int.toNat (M o 9)) x1) (o + 3) (Int.toNat ((gUp M (o + 2) (Int.toNat (M o 9)) x1) o 9)) x2) (o + 4) (Int.toNat ((gUp (gUp M (o + 2) (Int.toNat (M o 9)) x1) (o + 3) (Int.toNat ((gUp M (o + 2) (Int.toNat (M o 9)) x1) o 9)) x2) o 9)) x3) o 9)) x4) o 9)) (-1)) o 9 (w32 (((gUp (gUp (gUp (gUp (gUp M (o + 2) (Int.toNat (M o 9)) x1) (o + 3) (Int.toNat ((gUp M (o + 2) (Int.toNat (M o 9)) x1) o 9)) x2) (o + 4) (Int.toNat ((gUp (gUp M (o + 2) (Int.toNat (M o 9)) x1) (o + 3) (Int.toNat ((gUp M (o + 2) (Int.toNat (M o 9)) x1) o 9)) x2) o 9)) x3) (o + 6) (Int.toNat ((gUp (gUp (gUp M (o + 2) (Int.toNat (M o 9)) x1) (o + 3) (Int.toNat ((gUp M (o + 2) (Int.toNat (M o 9)) x1) o 9)) x2) (o + 4) (Int.toNat ((gUp (gUp M (o + 2) (Int.toNat (M o 9)) x1) (o + 3) (Int.toNat ((gUp M (o + 2) (Int.toNat (M o 9)) x1) o 9)) x2) o 9)) x3) o 9)) x4) (o + 5) (Int.toNat ((gUp (gUp (gUp (gUp M (o + 2) (Int.toNat (M o 9)) x1) (o + 3) (Int.toNat ((gUp M (o + 2) (Int.toNat (M o 9)) x1) o 9)) x2) (o + 4) (Int.toNat ((gUp (gUp M (o + 2) (Int.toNat (M o 9)) x1) (o + 3) (Int.toNat ((gUp M (o + 2) (Int.toNat (M o 9)) x1) o 9)) x2) o 9)) x3) (o + 6) (Int.toNat ((gUp (gUp (gUp M (o + 2) (Int.toNat (M o 9)) x1) (o + 3) (Int.toNat ((gUp M (o + 2) (Int.toNat (M o 9)) x1) o 9)) x2) (o + 4) (Int.toNat ((gUp (gUp M (o + 2) (Int.toNat (M o 9)) x1) (o + 3) (Int.toNat ((gUp M (o + 2) (Int.toNat (M o 9)) x1) o 9)) x2) o 9)) x3) o 9)) x4) o 9)) (-1)) o 9) + 1)))))))))))))))) : wp l G y_GM_node (gRm d) true (kkI X k) false 0 [.val (gR G o), .val (gI x1), .val (gI x2), .val (gI x3), .val (gL x4), .unset] [] X M 0 0 := by
  refine wp_aload_n d_GM_node_0 rfl rfl (g_nz hX.1) ?_
  refine xgetR d_GM_node_1 gc_GM f_GM_14.1 f_GM_14.2.1 f_GM_14.2.2.1 hX.1 (gm_o2 hX) hX.2.2.1 f_GM_14.2.2.2.2.1 (gm_row hX 1 rfl).1 ?_
  refine wp_aload_n d_GM_node_4 rfl rfl (g_nz hX.1) ?_
  refine xgetI d_GM_node_5 gc_GM f_GM_231.1 f_GM_231.2.1 f_GM_231.2.2.1 hX.1 (gm_o2 hX) hX.2.2.1 f_GM_231.2.2.2.2.1 (fun h1 => ?_)
  have T := T h1
  refine wp_iload_n d_GM_node_8 rfl rfl ?_
  refine xiast d_GM_node_9 (gm_row hX 1 rfl).2.2.1 (gm_row hX 1 rfl).2.2.2 (gm_row hX 1 rfl).2.1 (by decide) T.1 (w32_id hx1) ?_
  have T := T.2
  refine wp_aload_n d_GM_node_10 rfl rfl (g_nz hX.1) ?_
  refine xgetR d_GM_node_11 gc_GM f_GM_18.1 f_GM_18.2.1 f_GM_18.2.2.1 hX.1 (gm_o2 hX) hX.2.2.1 f_GM_18.2.2.2.2.1 (gm_row hX 2 rfl).1 ?_
  refine wp_aload_n d_GM_node_14 rfl rfl (g_nz hX.1) ?_
  refine xgetI d_GM_node_15 gc_GM f_GM_231.1 f_GM_231.2.1 f_GM_231.2.2.1 hX.1 (gm_o2 hX) hX.2.2.1 f_GM_231.2.2.2.2.1 (fun h2 => ?_)
  have T := T h2
  refine wp_iload_n d_GM_node_18 rfl rfl ?_
  refine xiast d_GM_node_19 (gm_row hX 2 rfl).2.2.1 (gm_row hX 2 rfl).2.2.2 (gm_row hX 2 rfl).2.1 (by decide) T.1 (w32_id hx2) ?_
  have T := T.2
  refine wp_aload_n d_GM_node_20 rfl rfl (g_nz hX.1) ?_
  refine xgetR d_GM_node_21 gc_GM f_GM_21.1 f_GM_21.2.1 f_GM_21.2.2.1 hX.1 (gm_o2 hX) hX.2.2.1 f_GM_21.2.2.2.2.1 (gm_row hX 3 rfl).1 ?_
  refine wp_aload_n d_GM_node_24 rfl rfl (g_nz hX.1) ?_
  refine xgetI d_GM_node_25 gc_GM f_GM_231.1 f_GM_231.2.1 f_GM_231.2.2.1 hX.1 (gm_o2 hX) hX.2.2.1 f_GM_231.2.2.2.2.1 (fun h3 => ?_)
  have T := T h3
  refine wp_iload_n d_GM_node_28 rfl rfl ?_
  refine xiast d_GM_node_29 (gm_row hX 3 rfl).2.2.1 (gm_row hX 3 rfl).2.2.2 (gm_row hX 3 rfl).2.1 (by decide) T.1 (w32_id hx3) ?_
  have T := T.2
  refine wp_aload_n d_GM_node_30 rfl rfl (g_nz hX.1) ?_
  refine xgetR d_GM_node_31 gc_GM f_GM_27.1 f_GM_27.2.1 f_GM_27.2.2.1 hX.1 (gm_o2 hX) hX.2.2.1 f_GM_27.2.2.2.2.1 (gm_row hX 5 rfl).1 ?_
  refine wp_aload_n d_GM_node_34 rfl rfl (g_nz hX.1) ?_
  refine xgetI d_GM_node_35 gc_GM f_GM_231.1 f_GM_231.2.1 f_GM_231.2.2.1 hX.1 (gm_o2 hX) hX.2.2.1 f_GM_231.2.2.2.2.1 (fun h4 => ?_)
  have T := T h4
  refine wp_lload d_GM_node_38 rfl ?_
  refine xlast d_GM_node_40 (gm_row hX 5 rfl).2.2.1 (gm_row hX 5 rfl).2.2.2 (gm_row hX 5 rfl).2.1 (by decide) T.1 (w64_id hx4) ?_
  have T := T.2
  refine wp_aload_n d_GM_node_41 rfl rfl (g_nz hX.1) ?_
  refine xgetR d_GM_node_42 gc_GM f_GM_24.1 f_GM_24.2.1 f_GM_24.2.2.1 hX.1 (gm_o2 hX) hX.2.2.1 f_GM_24.2.2.2.2.1 (gm_row hX 4 rfl).1 ?_
  refine wp_aload_n d_GM_node_45 rfl rfl (g_nz hX.1) ?_
  refine xgetI d_GM_node_46 gc_GM f_GM_231.1 f_GM_231.2.1 f_GM_231.2.2.1 hX.1 (gm_o2 hX) hX.2.2.1 f_GM_231.2.2.2.2.1 (fun h5 => ?_)
  have T := T h5
  refine wp_iconst d_GM_node_49 ?_
  refine xiast d_GM_node_50 (gm_row hX 4 rfl).2.2.1 (gm_row hX 4 rfl).2.2.2 (gm_row hX 4 rfl).2.1 (by decide) T.1 (w32_id (g32_c (x := (-1)) rfl)) ?_
  have T := T.2
  refine wp_aload_n d_GM_node_51 rfl rfl (g_nz hX.1) ?_
  refine wp_dup d_GM_node_52 (gR_cat _) ?_
  refine xgetI d_GM_node_53 gc_GM f_GM_231.1 f_GM_231.2.1 f_GM_231.2.2.1 hX.1 (gm_o2 hX) hX.2.2.1 f_GM_231.2.2.2.2.1 (fun h6 => ?_)
  have T := T h6
  refine wp_iconst d_GM_node_56 ?_
  refine wp_iadd d_GM_node_57 ?_
  refine xputI d_GM_node_58 gc_GM f_GM_231.1 f_GM_231.2.1 f_GM_231.2.2.1 hX.1 (gm_o2 hX) hX.2.2.1 f_GM_231.2.2.2.1 f_GM_231.2.2.2.2.1 f_GM_231.2.2.2.2.2 rfl ?_
  refine wp_aload_n d_GM_node_61 rfl rfl (g_nz hX.1) ?_
  refine xgetI d_GM_node_62 gc_GM f_GM_231.1 f_GM_231.2.1 f_GM_231.2.2.1 hX.1 (gm_o2 hX) hX.2.2.1 f_GM_231.2.2.2.2.1 (fun h7 => ?_)
  have T := T h7
  refine wp_iconst d_GM_node_65 ?_
  refine wp_isub d_GM_node_66 ?_
  exact wp_st (st' := [gI (w32 (((gUp (gUp (gUp (gUp (gUp (gUp M (o + 2) (Int.toNat (M o 9)) x1) (o + 3) (Int.toNat ((gUp M (o + 2) (Int.toNat (M o 9)) x1) o 9)) x2) (o + 4) (Int.toNat ((gUp (gUp M (o + 2) (Int.toNat (M o 9)) x1) (o + 3) (Int.toNat ((gUp M (o + 2) (Int.toNat (M o 9)) x1) o 9)) x2) o 9)) x3) (o + 6) (Int.toNat ((gUp (gUp (gUp M (o + 2) (Int.toNat (M o 9)) x1) (o + 3) (Int.toNat ((gUp M (o + 2) (Int.toNat (M o 9)) x1) o 9)) x2) (o + 4) (Int.toNat ((gUp (gUp M (o + 2) (Int.toNat (M o 9)) x1) (o + 3) (Int.toNat ((gUp M (o + 2) (Int.toNat (M o 9)) x1) o 9)) x2) o 9)) x3) o 9)) x4) (o + 5) (Int.toNat ((gUp (gUp (gUp (gUp M (o + 2) (Int.toNat (M o 9)) x1) (o + 3) (Int.toNat ((gUp M (o + 2) (Int.toNat (M o 9)) x1) o 9)) x2) (o + 4) (Int.toNat ((gUp (gUp M (o + 2) (Int.toNat (M o 9)) x1) (o + 3) (Int.toNat ((gUp M (o + 2) (Int.toNat (M o 9)) x1) o 9)) x2) o 9)) x3) (o + 6) (Int.toNat ((gUp (gUp (gUp M (o + 2) (Int.toNat (M o 9)) x1) (o + 3) (Int.toNat ((gUp M (o + 2) (Int.toNat (M o 9)) x1) o 9)) x2) (o + 4) (Int.toNat ((gUp (gUp M (o + 2) (Int.toNat (M o 9)) x1) (o + 3) (Int.toNat ((gUp M (o + 2) (Int.toNat (M o 9)) x1) o 9)) x2) o 9)) x3) o 9)) x4) o 9)) (-1)) o 9 (w32 (((gUp (gUp (gUp (gUp (gUp M (o + 2) (Int.toNat (M o 9)) x1) (o + 3) (Int.toNat ((gUp M (o + 2) (Int.toNat (M o 9)) x1) o 9)) x2) (o + 4) (Int.toNat ((gUp (gUp M (o + 2) (Int.toNat (M o 9)) x1) (o + 3) (Int.toNat ((gUp M (o + 2) (Int.toNat (M o 9)) x1) o 9)) x2) o 9)) x3) (o + 6) (Int.toNat ((gUp (gUp (gUp M (o + 2) (Int.toNat (M o 9)) x1) (o + 3) (Int.toNat ((gUp M (o + 2) (Int.toNat (M o 9)) x1) o 9)) x2) (o + 4) (Int.toNat ((gUp (gUp M (o + 2) (Int.toNat (M o 9)) x1) (o + 3) (Int.toNat ((gUp M (o + 2) (Int.toNat (M o 9)) x1) o 9)) x2) o 9)) x3) o 9)) x4) (o + 5) (Int.toNat ((gUp (gUp (gUp (gUp M (o + 2) (Int.toNat (M o 9)) x1) (o + 3) (Int.toNat ((gUp M (o + 2) (Int.toNat (M o 9)) x1) o 9)) x2) (o + 4) (Int.toNat ((gUp (gUp M (o + 2) (Int.toNat (M o 9)) x1) (o + 3) (Int.toNat ((gUp M (o + 2) (Int.toNat (M o 9)) x1) o 9)) x2) o 9)) x3) (o + 6) (Int.toNat ((gUp (gUp (gUp M (o + 2) (Int.toNat (M o 9)) x1) (o + 3) (Int.toNat ((gUp M (o + 2) (Int.toNat (M o 9)) x1) o 9)) x2) (o + 4) (Int.toNat ((gUp (gUp M (o + 2) (Int.toNat (M o 9)) x1) (o + 3) (Int.toNat ((gUp M (o + 2) (Int.toNat (M o 9)) x1) o 9)) x2) o 9)) x3) o 9)) x4) o 9)) (-1)) o 9) + 1))) o 9) - 1))]) (by rw [gI_w]) (wp_ireturn d_GM_node_67 rfl (fun _ => rfl) (Nat.zero_le _) (Nat.zero_le _) (kI_mk (w32_ok _) T))
theorem e_GM_node {l : Launch} {G : gG} {d : Nat} {X : gX} {M : gM} {k : Int → gM → Prop} {o : Nat} {x1 : Int} {x2 : Int} {x3 : Int} {x4 : Int} (T : wp l G y_GM_node (gRm d) true (kkI X k) false 0 [.val (gR G o), .val (gI x1), .val (gI x2), .val (gI x3), .val (gL x4), .unset] [] X M 0 0) : cI l G y_GM_node (gRm d) true [gR G o, gI x1, gI x2, gI x3, gL x4] X M k := cen_I (plainFor_of_name rfl) (by simp only [lg_sl_R, lg_sl_I, lg_sl_L, lg_sl_N, List.length_cons, List.length_nil]; decide) (by unfold gEn; simp only [lg_sl_R, lg_sl_I, lg_sl_L, lg_sl_N]; exact wpt T (And.intro rfl (And.intro rfl (And.intro rfl (And.intro rfl (And.intro rfl True.intro))))))
theorem d_GM_level_0 : decode prog_15_method_16_code 0 = .ok (.iload_n 1, 1) := by decide +kernel
theorem d_GM_level_1 : decode prog_15_method_16_code 1 = .ok (.lookupswitch 117 #[(38, 109), (42, 113), (43, 111), (45, 111), (47, 113), (60, 107), (61, 107), (62, 107), (94, 115), (103, 107), (108, 107), (110, 107)], 107) := by decide +kernel
theorem d_GM_level_110 : decode prog_15_method_16_code 110 = .ok (.iconst 2, 1) := by decide +kernel
theorem d_GM_level_111 : decode prog_15_method_16_code 111 = .ok (.ireturn, 1) := by decide +kernel
theorem d_GM_level_114 : decode prog_15_method_16_code 114 = .ok (.iconst 4, 1) := by decide +kernel
theorem d_GM_level_115 : decode prog_15_method_16_code 115 = .ok (.ireturn, 1) := by decide +kernel
theorem d_GM_level_112 : decode prog_15_method_16_code 112 = .ok (.iconst 3, 1) := by decide +kernel
theorem d_GM_level_113 : decode prog_15_method_16_code 113 = .ok (.ireturn, 1) := by decide +kernel
theorem d_GM_level_108 : decode prog_15_method_16_code 108 = .ok (.iconst 1, 1) := by decide +kernel
theorem d_GM_level_109 : decode prog_15_method_16_code 109 = .ok (.ireturn, 1) := by decide +kernel
theorem d_GM_level_116 : decode prog_15_method_16_code 116 = .ok (.iconst 5, 1) := by decide +kernel
theorem d_GM_level_117 : decode prog_15_method_16_code 117 = .ok (.ireturn, 1) := by decide +kernel
theorem d_GM_level_118 : decode prog_15_method_16_code 118 = .ok (.iconst 0, 1) := by decide +kernel
theorem d_GM_level_119 : decode prog_15_method_16_code 119 = .ok (.ireturn, 1) := by decide +kernel
set_option maxHeartbeats 4000000 in
theorem w_GM_level_0 {l : Launch} {G : gG} {d : Nat} {X : gX} {M : gM} {k : Int → gM → Prop} {o : Nat} (hX : gmX X o) {x1 : Int} (hx1 : g32 x1) (T : (x1 = 38 → (k 2 M)) ∧ (x1 = 42 → (k 4 M)) ∧ (x1 = 43 → (k 3 M)) ∧ (x1 = 45 → (k 3 M)) ∧ (x1 = 47 → (k 4 M)) ∧ (x1 = 60 → (k 1 M)) ∧ (x1 = 61 → (k 1 M)) ∧ (x1 = 62 → (k 1 M)) ∧ (x1 = 94 → (k 5 M)) ∧ (x1 = 103 → (k 1 M)) ∧ (x1 = 108 → (k 1 M)) ∧ (x1 = 110 → (k 1 M)) ∧ ((¬ x1 = 38 ∧ ¬ x1 = 42 ∧ ¬ x1 = 43 ∧ ¬ x1 = 45 ∧ ¬ x1 = 47 ∧ ¬ x1 = 60 ∧ ¬ x1 = 61 ∧ ¬ x1 = 62 ∧ ¬ x1 = 94 ∧ ¬ x1 = 103 ∧ ¬ x1 = 108 ∧ ¬ x1 = 110) → (k 0 M))) : wp l G y_GM_level (gRm d) false (kkI X k) false 0 [.val (gR G o), .val (gI x1)] [] X M 0 0 := by
  refine wp_iload_n d_GM_level_0 rfl rfl ?_
  obtain ⟨T0, T1, T2, T3, T4, T5, T6, T7, T8, T9, T10, T11, T12⟩ := T
  by_cases hc0 : x1 = 38
  · refine xlook (off := 109) (tgt := 110) d_GM_level_1 (w32_id hx1) rfl (by rw [hc0]; rfl) (by decide) ?_
    have T := T0 hc0
    refine wp_iconst d_GM_level_110 ?_
    exact wp_ireturn d_GM_level_111 rfl id (Nat.zero_le _) (Nat.zero_le _) (kI_mk (g32_c (x := 2) rfl) T)
  by_cases hc1 : x1 = 42
  · refine xlook (off := 113) (tgt := 114) d_GM_level_1 (w32_id hx1) rfl (by rw [hc1]; rfl) (by decide) ?_
    have T := T1 hc1
    refine wp_iconst d_GM_level_114 ?_
    exact wp_ireturn d_GM_level_115 rfl id (Nat.zero_le _) (Nat.zero_le _) (kI_mk (g32_c (x := 4) rfl) T)
  by_cases hc2 : x1 = 43
  · refine xlook (off := 111) (tgt := 112) d_GM_level_1 (w32_id hx1) rfl (by rw [hc2]; rfl) (by decide) ?_
    have T := T2 hc2
    refine wp_iconst d_GM_level_112 ?_
    exact wp_ireturn d_GM_level_113 rfl id (Nat.zero_le _) (Nat.zero_le _) (kI_mk (g32_c (x := 3) rfl) T)
  by_cases hc3 : x1 = 45
  · refine xlook (off := 111) (tgt := 112) d_GM_level_1 (w32_id hx1) rfl (by rw [hc3]; rfl) (by decide) ?_
    have T := T3 hc3
    refine wp_iconst d_GM_level_112 ?_
    exact wp_ireturn d_GM_level_113 rfl id (Nat.zero_le _) (Nat.zero_le _) (kI_mk (g32_c (x := 3) rfl) T)
  by_cases hc4 : x1 = 47
  · refine xlook (off := 113) (tgt := 114) d_GM_level_1 (w32_id hx1) rfl (by rw [hc4]; rfl) (by decide) ?_
    have T := T4 hc4
    refine wp_iconst d_GM_level_114 ?_
    exact wp_ireturn d_GM_level_115 rfl id (Nat.zero_le _) (Nat.zero_le _) (kI_mk (g32_c (x := 4) rfl) T)
  by_cases hc5 : x1 = 60
  · refine xlook (off := 107) (tgt := 108) d_GM_level_1 (w32_id hx1) rfl (by rw [hc5]; rfl) (by decide) ?_
    have T := T5 hc5
    refine wp_iconst d_GM_level_108 ?_
    exact wp_ireturn d_GM_level_109 rfl id (Nat.zero_le _) (Nat.zero_le _) (kI_mk (g32_c (x := 1) rfl) T)
  by_cases hc6 : x1 = 61
  · refine xlook (off := 107) (tgt := 108) d_GM_level_1 (w32_id hx1) rfl (by rw [hc6]; rfl) (by decide) ?_
    have T := T6 hc6
    refine wp_iconst d_GM_level_108 ?_
    exact wp_ireturn d_GM_level_109 rfl id (Nat.zero_le _) (Nat.zero_le _) (kI_mk (g32_c (x := 1) rfl) T)
  by_cases hc7 : x1 = 62
  · refine xlook (off := 107) (tgt := 108) d_GM_level_1 (w32_id hx1) rfl (by rw [hc7]; rfl) (by decide) ?_
    have T := T7 hc7
    refine wp_iconst d_GM_level_108 ?_
    exact wp_ireturn d_GM_level_109 rfl id (Nat.zero_le _) (Nat.zero_le _) (kI_mk (g32_c (x := 1) rfl) T)
  by_cases hc8 : x1 = 94
  · refine xlook (off := 115) (tgt := 116) d_GM_level_1 (w32_id hx1) rfl (by rw [hc8]; rfl) (by decide) ?_
    have T := T8 hc8
    refine wp_iconst d_GM_level_116 ?_
    exact wp_ireturn d_GM_level_117 rfl id (Nat.zero_le _) (Nat.zero_le _) (kI_mk (g32_c (x := 5) rfl) T)
  by_cases hc9 : x1 = 103
  · refine xlook (off := 107) (tgt := 108) d_GM_level_1 (w32_id hx1) rfl (by rw [hc9]; rfl) (by decide) ?_
    have T := T9 hc9
    refine wp_iconst d_GM_level_108 ?_
    exact wp_ireturn d_GM_level_109 rfl id (Nat.zero_le _) (Nat.zero_le _) (kI_mk (g32_c (x := 1) rfl) T)
  by_cases hc10 : x1 = 108
  · refine xlook (off := 107) (tgt := 108) d_GM_level_1 (w32_id hx1) rfl (by rw [hc10]; rfl) (by decide) ?_
    have T := T10 hc10
    refine wp_iconst d_GM_level_108 ?_
    exact wp_ireturn d_GM_level_109 rfl id (Nat.zero_le _) (Nat.zero_le _) (kI_mk (g32_c (x := 1) rfl) T)
  by_cases hc11 : x1 = 110
  · refine xlook (off := 107) (tgt := 108) d_GM_level_1 (w32_id hx1) rfl (by rw [hc11]; rfl) (by decide) ?_
    have T := T11 hc11
    refine wp_iconst d_GM_level_108 ?_
    exact wp_ireturn d_GM_level_109 rfl id (Nat.zero_le _) (Nat.zero_le _) (kI_mk (g32_c (x := 1) rfl) T)
  refine xlook (off := 117) (tgt := 118) d_GM_level_1 (w32_id hx1) rfl (show Op.lookupswitch.offset [(38, 109), (42, 113), (43, 111), (45, 111), (47, 113), (60, 107), (61, 107), (62, 107), (94, 115), (103, 107), (108, 107), (110, 107)] 117 x1 = 117 by simp only [Op.lookupswitch.offset, if_neg (Ne.symm hc0), if_neg (Ne.symm hc1), if_neg (Ne.symm hc2), if_neg (Ne.symm hc3), if_neg (Ne.symm hc4), if_neg (Ne.symm hc5), if_neg (Ne.symm hc6), if_neg (Ne.symm hc7), if_neg (Ne.symm hc8), if_neg (Ne.symm hc9), if_neg (Ne.symm hc10), if_neg (Ne.symm hc11)]) (by decide) ?_
  have T := T12 ⟨hc0, hc1, hc2, hc3, hc4, hc5, hc6, hc7, hc8, hc9, hc10, hc11⟩
  refine wp_iconst d_GM_level_118 ?_
  exact wp_ireturn d_GM_level_119 rfl id (Nat.zero_le _) (Nat.zero_le _) (kI_mk (g32_c (x := 0) rfl) T)
theorem e_GM_level {l : Launch} {G : gG} {d : Nat} {X : gX} {M : gM} {k : Int → gM → Prop} {o : Nat} {x1 : Int} (T : wp l G y_GM_level (gRm d) false (kkI X k) false 0 [.val (gR G o), .val (gI x1)] [] X M 0 0) : cI l G y_GM_level (gRm d) false [gR G o, gI x1] X M k := cen_I (plainFor_of_name rfl) (by simp only [lg_sl_R, lg_sl_I, lg_sl_L, lg_sl_N, List.length_cons, List.length_nil]; decide) (by unfold gEn; simp only [lg_sl_R, lg_sl_I, lg_sl_L, lg_sl_N]; exact wpt T (And.intro rfl (And.intro rfl True.intro)))
theorem d_GM_expr_0 : decode prog_15_method_17_code 0 = .ok (.aload_n 0, 1) := by decide +kernel
theorem d_GM_expr_1 : decode prog_15_method_17_code 1 = .ok (.invokevirtual 234, 3) := by decide +kernel
theorem d_GM_expr_4 : decode prog_15_method_17_code 4 = .ok (.istore_n 2, 1) := by decide +kernel
theorem d_GM_expr_5 : decode prog_15_method_17_code 5 = .ok (.aload_n 0, 1) := by decide +kernel
theorem d_GM_expr_6 : decode prog_15_method_17_code 6 = .ok (.getfield 181, 3) := by decide +kernel
theorem d_GM_expr_9 : decode prog_15_method_17_code 9 = .ok (.ifCond .ne 52, 3) := by decide +kernel
theorem d_GM_expr_61 : decode prog_15_method_17_code 61 = .ok (.iload_n 2, 1) := by decide +kernel
theorem d_GM_expr_62 : decode prog_15_method_17_code 62 = .ok (.ireturn, 1) := by decide +kernel
theorem d_GM_expr_12 : decode prog_15_method_17_code 12 = .ok (.aload_n 0, 1) := by decide +kernel
theorem d_GM_expr_13 : decode prog_15_method_17_code 13 = .ok (.aload_n 0, 1) := by decide +kernel
theorem d_GM_expr_14 : decode prog_15_method_17_code 14 = .ok (.iconst 0, 1) := by decide +kernel
theorem d_GM_expr_15 : decode prog_15_method_17_code 15 = .ok (.invokevirtual 224, 3) := by decide +kernel
theorem d_GM_expr_18 : decode prog_15_method_17_code 18 = .ok (.invokevirtual 237, 3) := by decide +kernel
theorem d_GM_expr_21 : decode prog_15_method_17_code 21 = .ok (.iload_n 1, 1) := by decide +kernel
theorem d_GM_expr_22 : decode prog_15_method_17_code 22 = .ok (.if_icmp .le 39, 3) := by decide +kernel
theorem d_GM_expr_25 : decode prog_15_method_17_code 25 = .ok (.aload_n 0, 1) := by decide +kernel
theorem d_GM_expr_26 : decode prog_15_method_17_code 26 = .ok (.iconst 0, 1) := by decide +kernel
theorem d_GM_expr_27 : decode prog_15_method_17_code 27 = .ok (.invokevirtual 224, 3) := by decide +kernel
theorem d_GM_expr_30 : decode prog_15_method_17_code 30 = .ok (.istore_n 3, 1) := by decide +kernel
theorem d_GM_expr_31 : decode prog_15_method_17_code 31 = .ok (.aload_n 0, 1) := by decide +kernel
theorem d_GM_expr_32 : decode prog_15_method_17_code 32 = .ok (.invokevirtual 228, 3) := by decide +kernel
theorem d_GM_expr_35 : decode prog_15_method_17_code 35 = .ok (.aload_n 0, 1) := by decide +kernel
theorem d_GM_expr_36 : decode prog_15_method_17_code 36 = .ok (.aload_n 0, 1) := by decide +kernel
theorem d_GM_expr_37 : decode prog_15_method_17_code 37 = .ok (.iload_n 3, 1) := by decide +kernel
theorem d_GM_expr_38 : decode prog_15_method_17_code 38 = .ok (.invokevirtual 237, 3) := by decide +kernel
theorem d_GM_expr_41 : decode prog_15_method_17_code 41 = .ok (.invokevirtual 240, 3) := by decide +kernel
theorem d_GM_expr_44 : decode prog_15_method_17_code 44 = .ok (.istore 4, 2) := by decide +kernel
theorem d_GM_expr_46 : decode prog_15_method_17_code 46 = .ok (.aload_n 0, 1) := by decide +kernel
theorem d_GM_expr_47 : decode prog_15_method_17_code 47 = .ok (.bipush 7, 2) := by decide +kernel
theorem d_GM_expr_49 : decode prog_15_method_17_code 49 = .ok (.iload_n 2, 1) := by decide +kernel
theorem d_GM_expr_50 : decode prog_15_method_17_code 50 = .ok (.iload 4, 2) := by decide +kernel
theorem d_GM_expr_52 : decode prog_15_method_17_code 52 = .ok (.iload_n 3, 1) := by decide +kernel
theorem d_GM_expr_53 : decode prog_15_method_17_code 53 = .ok (.i2l, 1) := by decide +kernel
theorem d_GM_expr_54 : decode prog_15_method_17_code 54 = .ok (.invokevirtual 243, 3) := by decide +kernel
theorem d_GM_expr_57 : decode prog_15_method_17_code 57 = .ok (.istore_n 2, 1) := by decide +kernel
theorem d_GM_expr_58 : decode prog_15_method_17_code 58 = .ok (.goto (-53), 3) := by decide +kernel
set_option maxHeartbeats 4000000 in
theorem w_GM_expr_0 {l : Launch} {G : gG} {d : Nat} {X : gX} {M : gM} {k : Int → gM → Prop} {o : Nat} (hX : gmX X o) {x1 : Int} (hx1 : g32 x1) (T : cI l G y_GM_minus (gRm d) true [gR G o] X M (fun v2 M1 => (wp l G y_GM_expr (gRm (d + 1)) true (kkI X k) true 5 [.val (gR G o), .val (gI x1), .val (gI v2), .unset, .unset] [] X M1 0 0))) : wp l G y_GM_expr (gRm (d + 1)) true (kkI X k) false 0 [.val (gR G o), .val (gI x1), .unset, .unset, .unset] [] X M 0 0 := by
  refine wp_aload_n d_GM_expr_0 rfl rfl (g_nz hX.1) ?_
  refine xcV_I (md' := true) (As := []) (st := []) d_GM_expr_1 ca_GM_minus ml_GM_234 im_GM_minus se_GM_minus gc_GM hX.1 (gm_o2 hX) hX.2.2.1 rfl (by decide) (by decide) rfl (fun _ => rfl) (fun _ => rfl) T (fun v2 M1 h3 T => ?_)
  refine wp_istore_n (L' := [.val (gR G o), .val (gI x1), .val (gI v2), .unset, .unset]) d_GM_expr_4 rfl (by decide) rfl ?_
  exact wp_md (wpt T (And.intro rfl (And.intro rfl (And.intro rfl True.intro))))
set_option maxHeartbeats 4000000 in
theorem w_GM_expr_5 {l : Launch} {G : gG} {d : Nat} {X : gX} {M : gM} {k : Int → gM → Prop} {o : Nat} (hX : gmX X o) {x1 : Int} (hx1 : g32 x1) {x2 : Int} (hx2 : g32 x2) (T : (0 ≤ M o 27 ∧ M o 27 ≤ 1) → ((¬ M o 27 = 0 → (k x2 M)) ∧ (M o 27 = 0 → (cI l G y_GM_look (gRm d) false [gR G o, gI 0] X M (fun v6 M5 => (cI l G y_GM_level (gRm d) false [gR G o, gI v6] X M5 (fun v9 M8 => ((v9 ≤ x1 → (k x2 M8)) ∧ (¬ v9 ≤ x1 → (cI l G y_GM_look (gRm d) false [gR G o, gI 0] X M8 (fun v12 M11 => (cV l G y_GM_pass (gRm d) true [gR G o] X M11 (fun M14 => (cI l G y_GM_level (gRm d) false [gR G o, gI v12] X M14 (fun v16 M15 => (cI l G y_GM_expr (gRm d) true [gR G o, gI v16] X M15 (fun v19 M18 => (cI l G y_GM_node (gRm d) true [gR G o, gI 7, gI x2, gI v19, gL v12] X M18 (fun v22 M21 => (wp l G y_GM_expr (gRm (d + 1)) true (kkI X k) true 5 [.val (gR G o), .val (gI x1), .val (gI v22), .unset, .unset] [] X M21 0 0)))))))))))))))))))) : wp l G y_GM_expr (gRm (d + 1)) true (kkI X k) true 5 [.val (gR G o), .val (gI x1), .val (gI x2), .unset, .unset] [] X M 0 0 := by
  refine wp_aload_n d_GM_expr_5 rfl rfl (g_nz hX.1) ?_
  refine xgetZ d_GM_expr_6 gc_GM f_GM_181.1 f_GM_181.2.1 f_GM_181.2.2.1 hX.1 (gm_o2 hX) hX.2.2.1 f_GM_181.2.2.2.2.1 (fun h4 => ?_)
  have T := T h4
  refine xz_ne (tgt := 61) d_GM_expr_9 (by decide) (w32_id (g32_z h4)) (fun h25 => ?_) (fun h25 => ?_)
  · have T := T.1 h25
    refine wp_iload_n d_GM_expr_61 rfl rfl ?_
    exact wp_ireturn d_GM_expr_62 rfl (fun _ => rfl) (Nat.zero_le _) (Nat.zero_le _) (kI_mk hx2 T)
  · have T := T.2 h25
    refine wp_aload_n d_GM_expr_12 rfl rfl (g_nz hX.1) ?_
    refine wp_aload_n d_GM_expr_13 rfl rfl (g_nz hX.1) ?_
    refine wp_iconst d_GM_expr_14 ?_
    refine xcV_I (md' := true) (As := [gI 0]) (st := [gR G o]) d_GM_expr_15 ca_GM_look ml_GM_224 im_GM_look se_GM_look gc_GM hX.1 (gm_o2 hX) hX.2.2.1 rfl (by decide) (by simp only [List.map, gR_cat, gI_cat, gL_cat, List.sum_cons, List.sum_nil]; decide) rfl (fun _ => rfl) (fun _ => rfl) T (fun v6 M5 h7 T => ?_)
    refine xcV_I (md' := true) (As := [gI v6]) (st := []) d_GM_expr_18 ca_GM_level ml_GM_237 im_GM_level se_GM_level gc_GM hX.1 (gm_o2 hX) hX.2.2.1 rfl (by decide) (by decide) rfl (fun _ => rfl) (fun _ => rfl) T (fun v9 M8 h10 T => ?_)
    refine wp_iload_n d_GM_expr_21 rfl rfl ?_
    refine xi_le (tgt := 61) d_GM_expr_22 (by decide) (w32_id h10) (w32_id hx1) (fun h24 => ?_) (fun h24 => ?_)
    · have T := T.1 h24
      refine wp_iload_n d_GM_expr_61 rfl rfl ?_
      exact wp_ireturn d_GM_expr_62 rfl (fun _ => rfl) (Nat.zero_le _) (Nat.zero_le _) (kI_mk hx2 T)
    · have T := T.2 h24
      refine wp_aload_n d_GM_expr_25 rfl rfl (g_nz hX.1) ?_
      refine wp_iconst d_GM_expr_26 ?_
      refine xcV_I (md' := true) (As := [gI 0]) (st := []) d_GM_expr_27 ca_GM_look ml_GM_224 im_GM_look se_GM_look gc_GM hX.1 (gm_o2 hX) hX.2.2.1 rfl (by decide) (by decide) rfl (fun _ => rfl) (fun _ => rfl) T (fun v12 M11 h13 T => ?_)
      refine wp_istore_n (L' := [.val (gR G o), .val (gI x1), .val (gI x2), .val (gI v12), .unset]) d_GM_expr_30 rfl (by decide) rfl ?_
      refine wp_aload_n d_GM_expr_31 rfl rfl (g_nz hX.1) ?_
      refine xcV_V (md' := true) (As := []) (st := []) d_GM_expr_32 ca_GM_pass ml_GM_228 im_GM_pass se_GM_pass gc_GM hX.1 (gm_o2 hX) hX.2.2.1 rfl (by decide) (by decide) rfl (fun _ => rfl) (fun _ => rfl) T (fun M14 T => ?_)
      refine wp_aload_n d_GM_expr_35 rfl rfl (g_nz hX.1) ?_
      refine wp_aload_n d_GM_expr_36 rfl rfl (g_nz hX.1) ?_
      refine wp_iload_n d_GM_expr_37 rfl rfl ?_
      refine xcV_I (md' := true) (As := [gI v12]) (st := [gR G o]) d_GM_expr_38 ca_GM_level ml_GM_237 im_GM_level se_GM_level gc_GM hX.1 (gm_o2 hX) hX.2.2.1 rfl (by decide) (by simp only [List.map, gR_cat, gI_cat, gL_cat, List.sum_cons, List.sum_nil]; decide) rfl (fun _ => rfl) (fun _ => rfl) T (fun v16 M15 h17 T => ?_)
      refine xcV_I (md' := true) (As := [gI v16]) (st := []) d_GM_expr_41 ca_GM_expr ml_GM_240 im_GM_expr se_GM_expr gc_GM hX.1 (gm_o2 hX) hX.2.2.1 rfl (by decide) (by decide) rfl (fun _ => rfl) (fun _ => rfl) T (fun v19 M18 h20 T => ?_)
      refine wp_istore (L' := [.val (gR G o), .val (gI x1), .val (gI x2), .val (gI v12), .val (gI v19)]) d_GM_expr_44 (by decide) rfl ?_
      refine wp_aload_n d_GM_expr_46 rfl rfl (g_nz hX.1) ?_
      refine wp_bipush d_GM_expr_47 ⟨by decide, by decide⟩ ?_
      refine wp_iload_n d_GM_expr_49 rfl rfl ?_
      refine wp_iload d_GM_expr_50 rfl ?_
      refine wp_iload_n d_GM_expr_52 rfl rfl ?_
      refine xi2l d_GM_expr_53 (w32_id h13) ?_
      refine xcV_I (md' := true) (As := [gI 7, gI x2, gI v19, gL v12]) (st := []) d_GM_expr_54 ca_GM_node ml_GM_243 im_GM_node se_GM_node gc_GM hX.1 (gm_o2 hX) hX.2.2.1 rfl (by decide) (by decide) rfl (fun _ => rfl) (fun _ => rfl) T (fun v22 M21 h23 T => ?_)
      refine wp_istore_n (L' := [.val (gR G o), .val (gI x1), .val (gI v22), .val (gI v12), .val (gI v19)]) d_GM_expr_57 rfl (by decide) rfl ?_
      refine wp_goto (tgt := 5) d_GM_expr_58 (by decide) ?_
      exact wp_md (wpt T (And.intro rfl (And.intro rfl (And.intro rfl True.intro))))
theorem e_GM_expr {l : Launch} {G : gG} {d : Nat} {X : gX} {M : gM} {k : Int → gM → Prop} {o : Nat} {x1 : Int} (T : wp l G y_GM_expr (gRm (d + 1)) true (kkI X k) false 0 [.val (gR G o), .val (gI x1), .unset, .unset, .unset] [] X M 0 0) : cI l G y_GM_expr (gRm (d + 1)) true [gR G o, gI x1] X M k := cen_I (plainFor_of_name rfl) (by simp only [lg_sl_R, lg_sl_I, lg_sl_L, lg_sl_N, List.length_cons, List.length_nil]; decide) (by unfold gEn; simp only [lg_sl_R, lg_sl_I, lg_sl_L, lg_sl_N]; exact wpt T (And.intro rfl (And.intro rfl True.intro)))
theorem d_GM_minus_0 : decode prog_15_method_18_code 0 = .ok (.aload_n 0, 1) := by decide +kernel
theorem d_GM_minus_1 : decode prog_15_method_18_code 1 = .ok (.iconst 0, 1) := by decide +kernel
theorem d_GM_minus_2 : decode prog_15_method_18_code 2 = .ok (.invokevirtual 224, 3) := by decide +kernel
theorem d_GM_minus_5 : decode prog_15_method_18_code 5 = .ok (.bipush 45, 2) := by decide +kernel
theorem d_GM_minus_7 : decode prog_15_method_18_code 7 = .ok (.if_icmp .ne 52, 3) := by decide +kernel
theorem d_GM_minus_59 : decode prog_15_method_18_code 59 = .ok (.aload_n 0, 1) := by decide +kernel
theorem d_GM_minus_60 : decode prog_15_method_18_code 60 = .ok (.invokevirtual 247, 3) := by decide +kernel
theorem d_GM_minus_63 : decode prog_15_method_18_code 63 = .ok (.istore_n 1, 1) := by decide +kernel
theorem d_GM_minus_10 : decode prog_15_method_18_code 10 = .ok (.aload_n 0, 1) := by decide +kernel
theorem d_GM_minus_11 : decode prog_15_method_18_code 11 = .ok (.invokevirtual 228, 3) := by decide +kernel
theorem d_GM_minus_14 : decode prog_15_method_18_code 14 = .ok (.aload_n 0, 1) := by decide +kernel
theorem d_GM_minus_15 : decode prog_15_method_18_code 15 = .ok (.dup, 1) := by decide +kernel
theorem d_GM_minus_16 : decode prog_15_method_18_code 16 = .ok (.getfield 221, 3) := by decide +kernel
theorem d_GM_minus_19 : decode prog_15_method_18_code 19 = .ok (.iconst 1, 1) := by decide +kernel
theorem d_GM_minus_20 : decode prog_15_method_18_code 20 = .ok (.iadd, 1) := by decide +kernel
theorem d_GM_minus_21 : decode prog_15_method_18_code 21 = .ok (.putfield 221, 3) := by decide +kernel
theorem d_GM_minus_24 : decode prog_15_method_18_code 24 = .ok (.aload_n 0, 1) := by decide +kernel
theorem d_GM_minus_25 : decode prog_15_method_18_code 25 = .ok (.getfield 181, 3) := by decide +kernel
theorem d_GM_minus_28 : decode prog_15_method_18_code 28 = .ok (.ifCond .eq 7, 3) := by decide +kernel
theorem d_GM_minus_35 : decode prog_15_method_18_code 35 = .ok (.aload_n 0, 1) := by decide +kernel
theorem d_GM_minus_36 : decode prog_15_method_18_code 36 = .ok (.invokevirtual 234, 3) := by decide +kernel
theorem d_GM_minus_39 : decode prog_15_method_18_code 39 = .ok (.istore_n 1, 1) := by decide +kernel
theorem d_GM_minus_40 : decode prog_15_method_18_code 40 = .ok (.aload_n 0, 1) := by decide +kernel
theorem d_GM_minus_41 : decode prog_15_method_18_code 41 = .ok (.dup, 1) := by decide +kernel
theorem d_GM_minus_42 : decode prog_15_method_18_code 42 = .ok (.getfield 221, 3) := by decide +kernel
theorem d_GM_minus_45 : decode prog_15_method_18_code 45 = .ok (.iconst 1, 1) := by decide +kernel
theorem d_GM_minus_46 : decode prog_15_method_18_code 46 = .ok (.isub, 1) := by decide +kernel
theorem d_GM_minus_47 : decode prog_15_method_18_code 47 = .ok (.putfield 221, 3) := by decide +kernel
theorem d_GM_minus_50 : decode prog_15_method_18_code 50 = .ok (.aload_n 0, 1) := by decide +kernel
theorem d_GM_minus_51 : decode prog_15_method_18_code 51 = .ok (.iconst 5, 1) := by decide +kernel
theorem d_GM_minus_52 : decode prog_15_method_18_code 52 = .ok (.iload_n 1, 1) := by decide +kernel
theorem d_GM_minus_53 : decode prog_15_method_18_code 53 = .ok (.iconst 0, 1) := by decide +kernel
theorem d_GM_minus_54 : decode prog_15_method_18_code 54 = .ok (.lconst 0, 1) := by decide +kernel
theorem d_GM_minus_55 : decode prog_15_method_18_code 55 = .ok (.invokevirtual 243, 3) := by decide +kernel
theorem d_GM_minus_58 : decode prog_15_method_18_code 58 = .ok (.ireturn, 1) := by decide +kernel
theorem d_GM_minus_31 : decode prog_15_method_18_code 31 = .ok (.iconst 0, 1) := by decide +kernel
theorem d_GM_minus_32 : decode prog_15_method_18_code 32 = .ok (.goto 7, 3) := by decide +kernel
theorem d_GM_minus_64 : decode prog_15_method_18_code 64 = .ok (.aload_n 0, 1) := by decide +kernel
theorem d_GM_minus_65 : decode prog_15_method_18_code 65 = .ok (.getfield 181, 3) := by decide +kernel
theorem d_GM_minus_68 : decode prog_15_method_18_code 68 = .ok (.ifCond .ne 30, 3) := by decide +kernel
theorem d_GM_minus_98 : decode prog_15_method_18_code 98 = .ok (.iload_n 1, 1) := by decide +kernel
theorem d_GM_minus_99 : decode prog_15_method_18_code 99 = .ok (.ireturn, 1) := by decide +kernel
theorem d_GM_minus_71 : decode prog_15_method_18_code 71 = .ok (.aload_n 0, 1) := by decide +kernel
theorem d_GM_minus_72 : decode prog_15_method_18_code 72 = .ok (.iconst 0, 1) := by decide +kernel
theorem d_GM_minus_73 : decode prog_15_method_18_code 73 = .ok (.invokevirtual 224, 3) := by decide +kernel
theorem d_GM_minus_76 : decode prog_15_method_18_code 76 = .ok (.bipush 37, 2) := by decide +kernel
theorem d_GM_minus_78 : decode prog_15_method_18_code 78 = .ok (.if_icmp .ne 20, 3) := by decide +kernel
theorem d_GM_minus_81 : decode prog_15_method_18_code 81 = .ok (.aload_n 0, 1) := by decide +kernel
theorem d_GM_minus_82 : decode prog_15_method_18_code 82 = .ok (.invokevirtual 228, 3) := by decide +kernel
theorem d_GM_minus_85 : decode prog_15_method_18_code 85 = .ok (.aload_n 0, 1) := by decide +kernel
theorem d_GM_minus_86 : decode prog_15_method_18_code 86 = .ok (.bipush 6, 2) := by decide +kernel
theorem d_GM_minus_88 : decode prog_15_method_18_code 88 = .ok (.iload_n 1, 1) := by decide +kernel
theorem d_GM_minus_89 : decode prog_15_method_18_code 89 = .ok (.iconst 0, 1) := by decide +kernel
theorem d_GM_minus_90 : decode prog_15_method_18_code 90 = .ok (.lconst 0, 1) := by decide +kernel
theorem d_GM_minus_91 : decode prog_15_method_18_code 91 = .ok (.invokevirtual 243, 3) := by decide +kernel
theorem d_GM_minus_94 : decode prog_15_method_18_code 94 = .ok (.istore_n 1, 1) := by decide +kernel
theorem d_GM_minus_95 : decode prog_15_method_18_code 95 = .ok (.goto (-31), 3) := by decide +kernel
set_option maxHeartbeats 4000000 in
theorem w_GM_minus_0 {l : Launch} {G : gG} {d : Nat} {X : gX} {M : gM} {k : Int → gM → Prop} {o : Nat} (hX : gmX X o)  (T : cI l G y_GM_look (gRm d) false [gR G o, gI 0] X M (fun v2 M1 => ((¬ v2 = 45 → (cI l G y_GM_primary (gRm d) true [gR G o] X M1 (fun v5 M4 => (wp l G y_GM_minus (gRm (d + 1)) true (kkI X k) true 64 [.val (gR G o), .val (gI v5)] [] X M4 0 0)))) ∧ (v2 = 45 → (cV l G y_GM_pass (gRm d) true [gR G o] X M1 (fun M7 => (g32 (M7 o 26) → ((0 ≤ (gUp M7 o 26 (w32 ((M7 o 26) + 1))) o 27 ∧ (gUp M7 o 26 (w32 ((M7 o 26) + 1))) o 27 ≤ 1) → (((gUp M7 o 26 (w32 ((M7 o 26) + 1))) o 27 = 0 → (cI l G y_GM_minus (gRm d) true [gR G o] X (gUp M7 o 26 (w32 ((M7 o 26) + 1))) (fun v11 M10 => (g32 (M10 o 26) → (cI l G y_GM_node (gRm d) true [gR G o, gI 5, gI v11, gI 0, gL 0] X (gUp M10 o 26 (w32 ((M10 o 26) - 1))) (fun v15 M14 => (k v15 M14))))))) ∧ (¬ (gUp M7 o 26 (w32 ((M7 o 26) + 1))) o 27 = 0 → (g32 ((gUp M7 o 26 (w32 ((M7 o 26) + 1))) o 26) → (cI l G y_GM_node (gRm d) true [gR G o, gI 5, gI 0, gI 0, gL 0] X (gUp (gUp M7 o 26 (w32 ((M7 o 26) + 1))) o 26 (w32 (((gUp M7 o 26 (w32 ((M7 o 26) + 1))) o 26) - 1))) (fun v19 M18 => (k v19 M18)))))))))))))) : wp l G y_GM_minus (gRm (d + 1)) true (kkI X k) false 0 [.val (gR G o), .unset] [] X M 0 0 := by
  refine wp_aload_n d_GM_minus_0 rfl rfl (g_nz hX.1) ?_
  refine wp_iconst d_GM_minus_1 ?_
  refine xcV_I (md' := false) (As := [gI 0]) (st := []) d_GM_minus_2 ca_GM_look ml_GM_224 im_GM_look se_GM_look gc_GM hX.1 (gm_o2 hX) hX.2.2.1 rfl (by decide) (by decide) rfl id id T (fun v2 M1 h3 T => ?_)
  refine wp_bipush d_GM_minus_5 ⟨by decide, by decide⟩ ?_
  refine xi_ne (tgt := 59) d_GM_minus_7 (by decide) (w32_id h3) (w32_id (g32_c (x := 45) rfl)) (fun h22 => ?_) (fun h22 => ?_)
  · have T := T.1 h22
    refine wp_aload_n d_GM_minus_59 rfl rfl (g_nz hX.1) ?_
    refine xcV_I (md' := true) (As := []) (st := []) d_GM_minus_60 ca_GM_primary ml_GM_247 im_GM_primary se_GM_primary gc_GM hX.1 (gm_o2 hX) hX.2.2.1 rfl (by decide) (by decide) rfl (fun _ => rfl) (fun _ => rfl) T (fun v5 M4 h6 T => ?_)
    refine wp_istore_n (L' := [.val (gR G o), .val (gI v5)]) d_GM_minus_63 rfl (by decide) (gS1_R rfl rfl) ?_
    exact wp_md (wpt T (And.intro rfl (And.intro rfl True.intro)))
  · have T := T.2 h22
    refine wp_aload_n d_GM_minus_10 rfl rfl (g_nz hX.1) ?_
    refine xcV_V (md' := true) (As := []) (st := []) d_GM_minus_11 ca_GM_pass ml_GM_228 im_GM_pass se_GM_pass gc_GM hX.1 (gm_o2 hX) hX.2.2.1 rfl (by decide) (by decide) rfl (fun _ => rfl) (fun _ => rfl) T (fun M7 T => ?_)
    refine wp_aload_n d_GM_minus_14 rfl rfl (g_nz hX.1) ?_
    refine wp_dup d_GM_minus_15 (gR_cat _) ?_
    refine xgetI d_GM_minus_16 gc_GM f_GM_221.1 f_GM_221.2.1 f_GM_221.2.2.1 hX.1 (gm_o2 hX) hX.2.2.1 f_GM_221.2.2.2.2.1 (fun h8 => ?_)
    have T := T h8
    refine wp_iconst d_GM_minus_19 ?_
    refine wp_iadd d_GM_minus_20 ?_
    refine xputI d_GM_minus_21 gc_GM f_GM_221.1 f_GM_221.2.1 f_GM_221.2.2.1 hX.1 (gm_o2 hX) hX.2.2.1 f_GM_221.2.2.2.1 f_GM_221.2.2.2.2.1 f_GM_221.2.2.2.2.2 rfl ?_
    refine wp_aload_n d_GM_minus_24 rfl rfl (g_nz hX.1) ?_
    refine xgetZ d_GM_minus_25 gc_GM f_GM_181.1 f_GM_181.2.1 f_GM_181.2.2.1 hX.1 (gm_o2 hX) hX.2.2.1 f_GM_181.2.2.2.2.1 (fun h9 => ?_)
    have T := T h9
    refine xz_eq (tgt := 35) d_GM_minus_28 (by decide) (w32_id (g32_z h9)) (fun h21 => ?_) (fun h21 => ?_)
    · have T := T.1 h21
      refine wp_aload_n d_GM_minus_35 rfl rfl (g_nz hX.1) ?_
      refine xcV_I (md' := true) (As := []) (st := []) d_GM_minus_36 ca_GM_minus ml_GM_234 im_GM_minus se_GM_minus gc_GM hX.1 (gm_o2 hX) hX.2.2.1 rfl (by decide) (by decide) rfl (fun _ => rfl) (fun _ => rfl) T (fun v11 M10 h12 T => ?_)
      refine wp_istore_n (L' := [.val (gR G o), .val (gI v11)]) d_GM_minus_39 rfl (by decide) (gS1_R rfl rfl) ?_
      refine wp_aload_n d_GM_minus_40 rfl rfl (g_nz hX.1) ?_
      refine wp_dup d_GM_minus_41 (gR_cat _) ?_
      refine xgetI d_GM_minus_42 gc_GM f_GM_221.1 f_GM_221.2.1 f_GM_221.2.2.1 hX.1 (gm_o2 hX) hX.2.2.1 f_GM_221.2.2.2.2.1 (fun h13 => ?_)
      have T := T h13
      refine wp_iconst d_GM_minus_45 ?_
      refine wp_isub d_GM_minus_46 ?_
      refine xputI d_GM_minus_47 gc_GM f_GM_221.1 f_GM_221.2.1 f_GM_221.2.2.1 hX.1 (gm_o2 hX) hX.2.2.1 f_GM_221.2.2.2.1 f_GM_221.2.2.2.2.1 f_GM_221.2.2.2.2.2 rfl ?_
      refine wp_aload_n d_GM_minus_50 rfl rfl (g_nz hX.1) ?_
      refine wp_iconst d_GM_minus_51 ?_
      refine wp_iload_n d_GM_minus_52 rfl rfl ?_
      refine wp_iconst d_GM_minus_53 ?_
      refine wp_lconst0 d_GM_minus_54 ?_
      refine xcV_I (md' := true) (As := [gI 5, gI v11, gI 0, gL 0]) (st := []) d_GM_minus_55 ca_GM_node ml_GM_243 im_GM_node se_GM_node gc_GM hX.1 (gm_o2 hX) hX.2.2.1 rfl (by decide) (by decide) rfl (fun _ => rfl) (fun _ => rfl) T (fun v15 M14 h16 T => ?_)
      exact wp_ireturn d_GM_minus_58 rfl (fun _ => rfl) (Nat.zero_le _) (Nat.zero_le _) (kI_mk h16 T)
    · have T := T.2 h21
      refine wp_iconst d_GM_minus_31 ?_
      refine wp_goto (tgt := 39) d_GM_minus_32 (by decide) ?_
      refine wp_istore_n (L' := [.val (gR G o), .val (gI 0)]) d_GM_minus_39 rfl (by decide) (gS1_R rfl rfl) ?_
      refine wp_aload_n d_GM_minus_40 rfl rfl (g_nz hX.1) ?_
      refine wp_dup d_GM_minus_41 (gR_cat _) ?_
      refine xgetI d_GM_minus_42 gc_GM f_GM_221.1 f_GM_221.2.1 f_GM_221.2.2.1 hX.1 (gm_o2 hX) hX.2.2.1 f_GM_221.2.2.2.2.1 (fun h17 => ?_)
      have T := T h17
      refine wp_iconst d_GM_minus_45 ?_
      refine wp_isub d_GM_minus_46 ?_
      refine xputI d_GM_minus_47 gc_GM f_GM_221.1 f_GM_221.2.1 f_GM_221.2.2.1 hX.1 (gm_o2 hX) hX.2.2.1 f_GM_221.2.2.2.1 f_GM_221.2.2.2.2.1 f_GM_221.2.2.2.2.2 rfl ?_
      refine wp_aload_n d_GM_minus_50 rfl rfl (g_nz hX.1) ?_
      refine wp_iconst d_GM_minus_51 ?_
      refine wp_iload_n d_GM_minus_52 rfl rfl ?_
      refine wp_iconst d_GM_minus_53 ?_
      refine wp_lconst0 d_GM_minus_54 ?_
      refine xcV_I (md' := true) (As := [gI 5, gI 0, gI 0, gL 0]) (st := []) d_GM_minus_55 ca_GM_node ml_GM_243 im_GM_node se_GM_node gc_GM hX.1 (gm_o2 hX) hX.2.2.1 rfl (by decide) (by decide) rfl (fun _ => rfl) (fun _ => rfl) T (fun v19 M18 h20 T => ?_)
      exact wp_ireturn d_GM_minus_58 rfl (fun _ => rfl) (Nat.zero_le _) (Nat.zero_le _) (kI_mk h20 T)
set_option maxHeartbeats 4000000 in
theorem w_GM_minus_64 {l : Launch} {G : gG} {d : Nat} {X : gX} {M : gM} {k : Int → gM → Prop} {o : Nat} (hX : gmX X o) {x1 : Int} (hx1 : g32 x1) (T : (0 ≤ M o 27 ∧ M o 27 ≤ 1) → ((¬ M o 27 = 0 → (k x1 M)) ∧ (M o 27 = 0 → (cI l G y_GM_look (gRm d) false [gR G o, gI 0] X M (fun v25 M24 => ((¬ v25 = 37 → (k x1 M24)) ∧ (v25 = 37 → (cV l G y_GM_pass (gRm d) true [gR G o] X M24 (fun M27 => (cI l G y_GM_node (gRm d) true [gR G o, gI 6, gI x1, gI 0, gL 0] X M27 (fun v29 M28 => (wp l G y_GM_minus (gRm (d + 1)) true (kkI X k) true 64 [.val (gR G o), .val (gI v29)] [] X M28 0 0)))))))))))) : wp l G y_GM_minus (gRm (d + 1)) true (kkI X k) true 64 [.val (gR G o), .val (gI x1)] [] X M 0 0 := by
  refine wp_aload_n d_GM_minus_64 rfl rfl (g_nz hX.1) ?_
  refine xgetZ d_GM_minus_65 gc_GM f_GM_181.1 f_GM_181.2.1 f_GM_181.2.2.1 hX.1 (gm_o2 hX) hX.2.2.1 f_GM_181.2.2.2.2.1 (fun h23 => ?_)
  have T := T h23
  refine xz_ne (tgt := 98) d_GM_minus_68 (by decide) (w32_id (g32_z h23)) (fun h32 => ?_) (fun h32 => ?_)
  · have T := T.1 h32
    refine wp_iload_n d_GM_minus_98 rfl rfl ?_
    exact wp_ireturn d_GM_minus_99 rfl (fun _ => rfl) (Nat.zero_le _) (Nat.zero_le _) (kI_mk hx1 T)
  · have T := T.2 h32
    refine wp_aload_n d_GM_minus_71 rfl rfl (g_nz hX.1) ?_
    refine wp_iconst d_GM_minus_72 ?_
    refine xcV_I (md' := true) (As := [gI 0]) (st := []) d_GM_minus_73 ca_GM_look ml_GM_224 im_GM_look se_GM_look gc_GM hX.1 (gm_o2 hX) hX.2.2.1 rfl (by decide) (by decide) rfl (fun _ => rfl) (fun _ => rfl) T (fun v25 M24 h26 T => ?_)
    refine wp_bipush d_GM_minus_76 ⟨by decide, by decide⟩ ?_
    refine xi_ne (tgt := 98) d_GM_minus_78 (by decide) (w32_id h26) (w32_id (g32_c (x := 37) rfl)) (fun h31 => ?_) (fun h31 => ?_)
    · have T := T.1 h31
      refine wp_iload_n d_GM_minus_98 rfl rfl ?_
      exact wp_ireturn d_GM_minus_99 rfl (fun _ => rfl) (Nat.zero_le _) (Nat.zero_le _) (kI_mk hx1 T)
    · have T := T.2 h31
      refine wp_aload_n d_GM_minus_81 rfl rfl (g_nz hX.1) ?_
      refine xcV_V (md' := true) (As := []) (st := []) d_GM_minus_82 ca_GM_pass ml_GM_228 im_GM_pass se_GM_pass gc_GM hX.1 (gm_o2 hX) hX.2.2.1 rfl (by decide) (by decide) rfl (fun _ => rfl) (fun _ => rfl) T (fun M27 T => ?_)
      refine wp_aload_n d_GM_minus_85 rfl rfl (g_nz hX.1) ?_
      refine wp_bipush d_GM_minus_86 ⟨by decide, by decide⟩ ?_
      refine wp_iload_n d_GM_minus_88 rfl rfl ?_
      refine wp_iconst d_GM_minus_89 ?_
      refine wp_lconst0 d_GM_minus_90 ?_
      refine xcV_I (md' := true) (As := [gI 6, gI x1, gI 0, gL 0]) (st := []) d_GM_minus_91 ca_GM_node ml_GM_243 im_GM_node se_GM_node gc_GM hX.1 (gm_o2 hX) hX.2.2.1 rfl (by decide) (by decide) rfl (fun _ => rfl) (fun _ => rfl) T (fun v29 M28 h30 T => ?_)
      refine wp_istore_n (L' := [.val (gR G o), .val (gI v29)]) d_GM_minus_94 rfl (by decide) (gS1_R rfl rfl) ?_
      refine wp_goto (tgt := 64) d_GM_minus_95 (by decide) ?_
      exact wp_md (wpt T (And.intro rfl (And.intro rfl True.intro)))
theorem e_GM_minus {l : Launch} {G : gG} {d : Nat} {X : gX} {M : gM} {k : Int → gM → Prop} {o : Nat} (T : wp l G y_GM_minus (gRm (d + 1)) true (kkI X k) false 0 [.val (gR G o), .unset] [] X M 0 0) : cI l G y_GM_minus (gRm (d + 1)) true [gR G o] X M k := cen_I (plainFor_of_name rfl) (by simp only [lg_sl_R, lg_sl_I, lg_sl_L, lg_sl_N, List.length_cons, List.length_nil]; decide) (by unfold gEn; simp only [lg_sl_R, lg_sl_I, lg_sl_L, lg_sl_N]; exact wpt T (And.intro rfl True.intro))
theorem d_GM_ref_0 : decode prog_15_method_19_code 0 = .ok (.aload_n 0, 1) := by decide +kernel
theorem d_GM_ref_1 : decode prog_15_method_19_code 1 = .ok (.getfield 41, 3) := by decide +kernel
theorem d_GM_ref_4 : decode prog_15_method_19_code 4 = .ok (.aload_n 0, 1) := by decide +kernel
theorem d_GM_ref_5 : decode prog_15_method_19_code 5 = .ok (.getfield 250, 3) := by decide +kernel
theorem d_GM_ref_8 : decode prog_15_method_19_code 8 = .ok (.aload_n 0, 1) := by decide +kernel
theorem d_GM_ref_9 : decode prog_15_method_19_code 9 = .ok (.getfield 59, 3) := by decide +kernel
theorem d_GM_ref_12 : decode prog_15_method_19_code 12 = .ok (.aload_n 0, 1) := by decide +kernel
theorem d_GM_ref_13 : decode prog_15_method_19_code 13 = .ok (.getfield 218, 3) := by decide +kernel
theorem d_GM_ref_16 : decode prog_15_method_19_code 16 = .ok (.iaload, 1) := by decide +kernel
theorem d_GM_ref_17 : decode prog_15_method_19_code 17 = .ok (.iastore, 1) := by decide +kernel
theorem d_GM_ref_18 : decode prog_15_method_19_code 18 = .ok (.aload_n 0, 1) := by decide +kernel
theorem d_GM_ref_19 : decode prog_15_method_19_code 19 = .ok (.getfield 44, 3) := by decide +kernel
theorem d_GM_ref_22 : decode prog_15_method_19_code 22 = .ok (.aload_n 0, 1) := by decide +kernel
theorem d_GM_ref_23 : decode prog_15_method_19_code 23 = .ok (.getfield 250, 3) := by decide +kernel
theorem d_GM_ref_26 : decode prog_15_method_19_code 26 = .ok (.aload_n 0, 1) := by decide +kernel
theorem d_GM_ref_27 : decode prog_15_method_19_code 27 = .ok (.getfield 62, 3) := by decide +kernel
theorem d_GM_ref_30 : decode prog_15_method_19_code 30 = .ok (.aload_n 0, 1) := by decide +kernel
theorem d_GM_ref_31 : decode prog_15_method_19_code 31 = .ok (.getfield 218, 3) := by decide +kernel
theorem d_GM_ref_34 : decode prog_15_method_19_code 34 = .ok (.iaload, 1) := by decide +kernel
theorem d_GM_ref_35 : decode prog_15_method_19_code 35 = .ok (.iastore, 1) := by decide +kernel
theorem d_GM_ref_36 : decode prog_15_method_19_code 36 = .ok (.aload_n 0, 1) := by decide +kernel
theorem d_GM_ref_37 : decode prog_15_method_19_code 37 = .ok (.getfield 47, 3) := by decide +kernel
theorem d_GM_ref_40 : decode prog_15_method_19_code 40 = .ok (.aload_n 0, 1) := by decide +kernel
theorem d_GM_ref_41 : decode prog_15_method_19_code 41 = .ok (.getfield 250, 3) := by decide +kernel
theorem d_GM_ref_44 : decode prog_15_method_19_code 44 = .ok (.iload_n 1, 1) := by decide +kernel
theorem d_GM_ref_45 : decode prog_15_method_19_code 45 = .ok (.iastore, 1) := by decide +kernel
theorem d_GM_ref_46 : decode prog_15_method_19_code 46 = .ok (.aload_n 0, 1) := by decide +kernel
theorem d_GM_ref_47 : decode prog_15_method_19_code 47 = .ok (.invokevirtual 228, 3) := by decide +kernel
theorem d_GM_ref_50 : decode prog_15_method_19_code 50 = .ok (.aload_n 0, 1) := by decide +kernel
theorem d_GM_ref_51 : decode prog_15_method_19_code 51 = .ok (.dup, 1) := by decide +kernel
theorem d_GM_ref_52 : decode prog_15_method_19_code 52 = .ok (.getfield 250, 3) := by decide +kernel
theorem d_GM_ref_55 : decode prog_15_method_19_code 55 = .ok (.iconst 1, 1) := by decide +kernel
theorem d_GM_ref_56 : decode prog_15_method_19_code 56 = .ok (.iadd, 1) := by decide +kernel
theorem d_GM_ref_57 : decode prog_15_method_19_code 57 = .ok (.putfield 250, 3) := by decide +kernel
theorem d_GM_ref_60 : decode prog_15_method_19_code 60 = .ok (.aload_n 0, 1) := by decide +kernel
theorem d_GM_ref_61 : decode prog_15_method_19_code 61 = .ok (.getfield 250, 3) := by decide +kernel
theorem d_GM_ref_64 : decode prog_15_method_19_code 64 = .ok (.iconst 1, 1) := by decide +kernel
theorem d_GM_ref_65 : decode prog_15_method_19_code 65 = .ok (.isub, 1) := by decide +kernel
theorem d_GM_ref_66 : decode prog_15_method_19_code 66 = .ok (.aload_n 0, 1) := by decide +kernel
theorem d_GM_ref_67 : decode prog_15_method_19_code 67 = .ok (.getfield 34, 3) := by decide +kernel
theorem d_GM_ref_70 : decode prog_15_method_19_code 70 = .ok (.aload_n 0, 1) := by decide +kernel
theorem d_GM_ref_71 : decode prog_15_method_19_code 71 = .ok (.getfield 253, 3) := by decide +kernel
theorem d_GM_ref_74 : decode prog_15_method_19_code 74 = .ok (.iaload, 1) := by decide +kernel
theorem d_GM_ref_75 : decode prog_15_method_19_code 75 = .ok (.isub, 1) := by decide +kernel
theorem d_GM_ref_76 : decode prog_15_method_19_code 76 = .ok (.ireturn, 1) := by decide +kernel
set_option maxHeartbeats 4000000 in
theorem w_GM_ref_0 {l : Launch} {G : gG} {d : Nat} {X : gX} {M : gM} {k : Int → gM → Prop} {o : Nat} (hX : gmX X o) {x1 : Int} (hx1 : g32 x1) (T : g32 (M o 17) → (g32 (M o 25) → (((0 : Int) ≤ M o 25 ∧ M o 25 < 101) ∧ (g32 (M (o + 16) (Int.toNat (M o 25))) → (((0 : Int) ≤ M o 17 ∧ M o 17 < 45000) ∧ (g32 ((gUp M (o + 10) (Int.toNat (M o 17)) (M (o + 16) (Int.toNat (M o 25)))) o 17) → (g32 ((gUp M (o + 10) (Int.toNat (M o 17)) (M (o + 16) (Int.toNat (M o 25)))) o 25) → (((0 : Int) ≤ (gUp M (o + 10) (Int.toNat (M o 17)) (M (o + 16) (Int.toNat (M o 25)))) o 25 ∧ (gUp M (o + 10) (Int.toNat (M o 17)) (M (o + 16) (Int.toNat (M o 25)))) o 25 < 101) ∧ (g32 ((gUp M (o + 10) (Int.toNat (M o 17)) (M (o + 16) (Int.toNat (M o 25)))) (o + 17) (Int.toNat ((gUp M (o + 10) (Int.toNat (M o 17)) (M (o + 16) (Int.toNat (M o 25)))) o 25))) → (((0 : Int) ≤ (gUp M (o + 10) (Int.toNat (M o 17)) (M (o + 16) (Int.toNat (M o 25)))) o 17 ∧ (gUp M (o + 10) (Int.toNat (M o 17)) (M (o + 16) (Int.toNat (M o 25)))) o 17 < 45000) ∧ (g32 ((gUp (gUp M (o + 10) (Int.toNat (M o 17)) (M (o + 16) (Int.toNat (M o 25)))) (o + 11) (Int.toNat ((gUp M (o + 10) (Int.toNat (M o 17)) (M (o + 16) (Int.toNat (M o 25)))) o 17)) ((gUp M (o + 10) (Int.toNat (M o 17)) (M (o + 16) (Int.toNat (M o 25)))) (o + 17) (Int.toNat ((gUp M (o + 10) (Int.toNat (M o 17)) (M (o + 16) (Int.toNat (M o 25)))) o 25)))) o 17) → (((0 : Int) ≤ (gUp (gUp M (o + 10) (Int.toNat (M o 17)) (M (o + 16) (Int.toNat (M o 25)))) (o + 11) (Int.toNat ((gUp M (o + 10) (Int.toNat (M o 17)) (M (o + 16) (Int.toNat (M o 25)))) o 17)) ((gUp M (o + 10) (Int.toNat (M o 17)) (M (o + 16) (Int.toNat (M o 25)))) (o + 17) (Int.toNat ((gUp M (o + 10) (Int.toNat (M o 17)) (M (o + 16) (Int.toNat (M o 25)))) o 25)))) o 17 ∧ (gUp (gUp M (o + 10) (Int.toNat (M o 17)) (M (o + 16) (Int.toNat (M o 25)))) (o + 11) (Int.toNat ((gUp M (o + 10) (Int.toNat (M o 17)) (M (o + 16) (Int.toNat (M o 25)))) o 17)) ((gUp M (o + 10) (Int.toNat (M o 17)) (M (o + 16) (Int.toNat (M o 25)))) (o + 17) (Int.toNat ((gUp M (o + 10) (Int.toNat (M o 17)) (M (o + 16) (Int.toNat (M o 25)))) o 25)))) o 17 < 45000) ∧ (cV l G y_GM_pass (gRm d) true [gR G o] X (gUp (gUp (gUp M (o + 10) (Int.toNat (M o 17)) (M (o + 16) (Int.toNat (M o 25)))) (o + 11) (Int.toNat ((gUp M (o + 10) (Int.toNat (M o 17)) (M (o + 16) (Int.toNat (M o 25)))) o 17)) ((gUp M (o + 10) (Int.toNat (M o 17)) (M (o + 16) (Int.toNat (M o 25)))) (o + 17) (Int.toNat ((gUp M (o + 10) (Int.toNat (M o 17)) (M (o + 16) (Int.toNat (M o 25)))) o 25)))) (o + 12) (Int.toNat ((gUp (gUp M (o + 10) (Int.toNat (M o 17)) (M (o + 16) (Int.toNat (M o 25)))) (o + 11) (Int.toNat ((gUp M (o + 10) (Int.toNat (M o 17)) (M (o + 16) (Int.toNat (M o 25)))) o 17)) ((gUp M (o + 10) (Int.toNat (M o 17)) (M (o + 16) (Int.toNat (M o 25)))) (o + 17) (Int.toNat ((gUp M (o + 10) (Int.toNat (M o 17)) (M (o + 16) (Int.toNat (M o 25)))) o 25)))) o 17)) x1) (fun M8 => (g32 (M8 o 17) → (g32 ((gUp M8 o 17 (w32 ((M8 o 17) + 1))) o 17) → (g32 ((gUp M8 o 17 (w32 ((M8 o 17) + 1))) o 13) → (((0 : Int) ≤ (gUp M8 o 17 (w32 ((M8 o 17) + 1))) o 13 ∧ (gUp M8 o 17 (w32 ((M8 o 17) + 1))) o 13 < 4200) ∧ (g32 ((gUp M8 o 17 (w32 ((M8 o 17) + 1))) (o + 8) (Int.toNat ((gUp M8 o 17 (w32 ((M8 o 17) + 1))) o 13))) → (k (w32 ((((gUp M8 o 17 (w32 ((M8 o 17) + 1))) o 17) - 1) - ((gUp M8 o 17 (w32 ((M8 o 17) + 1))) (o + 8) (Int.toNat ((gUp M8 o 17 (w32 ((M8 o 17) + 1))) o 13))))) (gUp M8 o 17 (w32 ((M8 o 17) + 1))))))))))))))))))))))) : wp l G y_GM_ref (gRm (d + 1)) true (kkI X k) false 0 [.val (gR G o), .val (gI x1)] [] X M 0 0 := by
  refine wp_aload_n d_GM_ref_0 rfl rfl (g_nz hX.1) ?_
  refine xgetR d_GM_ref_1 gc_GM f_GM_41.1 f_GM_41.2.1 f_GM_41.2.2.1 hX.1 (gm_o2 hX) hX.2.2.1 f_GM_41.2.2.2.2.1 (gm_row hX 9 rfl).1 ?_
  refine wp_aload_n d_GM_ref_4 rfl rfl (g_nz hX.1) ?_
  refine xgetI d_GM_ref_5 gc_GM f_GM_250.1 f_GM_250.2.1 f_GM_250.2.2.1 hX.1 (gm_o2 hX) hX.2.2.1 f_GM_250.2.2.2.2.1 (fun h1 => ?_)
  have T := T h1
  refine wp_aload_n d_GM_ref_8 rfl rfl (g_nz hX.1) ?_
  refine xgetR d_GM_ref_9 gc_GM f_GM_59.1 f_GM_59.2.1 f_GM_59.2.2.1 hX.1 (gm_o2 hX) hX.2.2.1 f_GM_59.2.2.2.2.1 (gm_row hX 15 rfl).1 ?_
  refine wp_aload_n d_GM_ref_12 rfl rfl (g_nz hX.1) ?_
  refine xgetI d_GM_ref_13 gc_GM f_GM_218.1 f_GM_218.2.1 f_GM_218.2.2.1 hX.1 (gm_o2 hX) hX.2.2.1 f_GM_218.2.2.2.2.1 (fun h2 => ?_)
  have T := T h2
  refine wp_iaload d_GM_ref_16 (gm_row hX 15 rfl).2.2.1 (gm_row hX 15 rfl).2.2.2 (gm_row hX 15 rfl).2.1 (g32_n T.1 (by decide)) T.1.1 T.1.2 (fun h3 => ?_)
  have T := T.2 h3
  refine xiast d_GM_ref_17 (gm_row hX 9 rfl).2.2.1 (gm_row hX 9 rfl).2.2.2 (gm_row hX 9 rfl).2.1 (by decide) T.1 (w32_id h3) ?_
  have T := T.2
  refine wp_aload_n d_GM_ref_18 rfl rfl (g_nz hX.1) ?_
  refine xgetR d_GM_ref_19 gc_GM f_GM_44.1 f_GM_44.2.1 f_GM_44.2.2.1 hX.1 (gm_o2 hX) hX.2.2.1 f_GM_44.2.2.2.2.1 (gm_row hX 10 rfl).1 ?_
  refine wp_aload_n d_GM_ref_22 rfl rfl (g_nz hX.1) ?_
  refine xgetI d_GM_ref_23 gc_GM f_GM_250.1 f_GM_250.2.1 f_GM_250.2.2.1 hX.1 (gm_o2 hX) hX.2.2.1 f_GM_250.2.2.2.2.1 (fun h4 => ?_)
  have T := T h4
  refine wp_aload_n d_GM_ref_26 rfl rfl (g_nz hX.1) ?_
  refine xgetR d_GM_ref_27 gc_GM f_GM_62.1 f_GM_62.2.1 f_GM_62.2.2.1 hX.1 (gm_o2 hX) hX.2.2.1 f_GM_62.2.2.2.2.1 (gm_row hX 16 rfl).1 ?_
  refine wp_aload_n d_GM_ref_30 rfl rfl (g_nz hX.1) ?_
  refine xgetI d_GM_ref_31 gc_GM f_GM_218.1 f_GM_218.2.1 f_GM_218.2.2.1 hX.1 (gm_o2 hX) hX.2.2.1 f_GM_218.2.2.2.2.1 (fun h5 => ?_)
  have T := T h5
  refine wp_iaload d_GM_ref_34 (gm_row hX 16 rfl).2.2.1 (gm_row hX 16 rfl).2.2.2 (gm_row hX 16 rfl).2.1 (g32_n T.1 (by decide)) T.1.1 T.1.2 (fun h6 => ?_)
  have T := T.2 h6
  refine xiast d_GM_ref_35 (gm_row hX 10 rfl).2.2.1 (gm_row hX 10 rfl).2.2.2 (gm_row hX 10 rfl).2.1 (by decide) T.1 (w32_id h6) ?_
  have T := T.2
  refine wp_aload_n d_GM_ref_36 rfl rfl (g_nz hX.1) ?_
  refine xgetR d_GM_ref_37 gc_GM f_GM_47.1 f_GM_47.2.1 f_GM_47.2.2.1 hX.1 (gm_o2 hX) hX.2.2.1 f_GM_47.2.2.2.2.1 (gm_row hX 11 rfl).1 ?_
  refine wp_aload_n d_GM_ref_40 rfl rfl (g_nz hX.1) ?_
  refine xgetI d_GM_ref_41 gc_GM f_GM_250.1 f_GM_250.2.1 f_GM_250.2.2.1 hX.1 (gm_o2 hX) hX.2.2.1 f_GM_250.2.2.2.2.1 (fun h7 => ?_)
  have T := T h7
  refine wp_iload_n d_GM_ref_44 rfl rfl ?_
  refine xiast d_GM_ref_45 (gm_row hX 11 rfl).2.2.1 (gm_row hX 11 rfl).2.2.2 (gm_row hX 11 rfl).2.1 (by decide) T.1 (w32_id hx1) ?_
  have T := T.2
  refine wp_aload_n d_GM_ref_46 rfl rfl (g_nz hX.1) ?_
  refine xcV_V (md' := true) (As := []) (st := []) d_GM_ref_47 ca_GM_pass ml_GM_228 im_GM_pass se_GM_pass gc_GM hX.1 (gm_o2 hX) hX.2.2.1 rfl (by decide) (by decide) rfl (fun _ => rfl) (fun _ => rfl) T (fun M8 T => ?_)
  refine wp_aload_n d_GM_ref_50 rfl rfl (g_nz hX.1) ?_
  refine wp_dup d_GM_ref_51 (gR_cat _) ?_
  refine xgetI d_GM_ref_52 gc_GM f_GM_250.1 f_GM_250.2.1 f_GM_250.2.2.1 hX.1 (gm_o2 hX) hX.2.2.1 f_GM_250.2.2.2.2.1 (fun h9 => ?_)
  have T := T h9
  refine wp_iconst d_GM_ref_55 ?_
  refine wp_iadd d_GM_ref_56 ?_
  refine xputI d_GM_ref_57 gc_GM f_GM_250.1 f_GM_250.2.1 f_GM_250.2.2.1 hX.1 (gm_o2 hX) hX.2.2.1 f_GM_250.2.2.2.1 f_GM_250.2.2.2.2.1 f_GM_250.2.2.2.2.2 rfl ?_
  refine wp_aload_n d_GM_ref_60 rfl rfl (g_nz hX.1) ?_
  refine xgetI d_GM_ref_61 gc_GM f_GM_250.1 f_GM_250.2.1 f_GM_250.2.2.1 hX.1 (gm_o2 hX) hX.2.2.1 f_GM_250.2.2.2.2.1 (fun h10 => ?_)
  have T := T h10
  refine wp_iconst d_GM_ref_64 ?_
  refine wp_isub d_GM_ref_65 ?_
  refine wp_aload_n d_GM_ref_66 rfl rfl (g_nz hX.1) ?_
  refine xgetR d_GM_ref_67 gc_GM f_GM_34.1 f_GM_34.2.1 f_GM_34.2.2.1 hX.1 (gm_o2 hX) hX.2.2.1 f_GM_34.2.2.2.2.1 (gm_row hX 7 rfl).1 ?_
  refine wp_aload_n d_GM_ref_70 rfl rfl (g_nz hX.1) ?_
  refine xgetI d_GM_ref_71 gc_GM f_GM_253.1 f_GM_253.2.1 f_GM_253.2.2.1 hX.1 (gm_o2 hX) hX.2.2.1 f_GM_253.2.2.2.2.1 (fun h11 => ?_)
  have T := T h11
  refine wp_iaload d_GM_ref_74 (gm_row hX 7 rfl).2.2.1 (gm_row hX 7 rfl).2.2.2 (gm_row hX 7 rfl).2.1 (g32_n T.1 (by decide)) T.1.1 T.1.2 (fun h12 => ?_)
  have T := T.2 h12
  refine wp_isub d_GM_ref_75 ?_
  exact wp_st (st' := [gI (w32 ((((gUp M8 o 17 (w32 ((M8 o 17) + 1))) o 17) - 1) - ((gUp M8 o 17 (w32 ((M8 o 17) + 1))) (o + 8) (Int.toNat ((gUp M8 o 17 (w32 ((M8 o 17) + 1))) o 13)))))]) (by rw [gI_w]) (wp_ireturn d_GM_ref_76 rfl (fun _ => rfl) (Nat.zero_le _) (Nat.zero_le _) (kI_mk (w32_ok _) T))
theorem e_GM_ref {l : Launch} {G : gG} {d : Nat} {X : gX} {M : gM} {k : Int → gM → Prop} {o : Nat} {x1 : Int} (T : wp l G y_GM_ref (gRm (d + 1)) true (kkI X k) false 0 [.val (gR G o), .val (gI x1)] [] X M 0 0) : cI l G y_GM_ref (gRm (d + 1)) true [gR G o, gI x1] X M k := cen_I (plainFor_of_name rfl) (by simp only [lg_sl_R, lg_sl_I, lg_sl_L, lg_sl_N, List.length_cons, List.length_nil]; decide) (by unfold gEn; simp only [lg_sl_R, lg_sl_I, lg_sl_L, lg_sl_N]; exact wpt T (And.intro rfl (And.intro rfl True.intro)))
theorem d_GM_primary_0 : decode prog_15_method_20_code 0 = .ok (.aload_n 0, 1) := by decide +kernel
theorem d_GM_primary_1 : decode prog_15_method_20_code 1 = .ok (.getfield 218, 3) := by decide +kernel
theorem d_GM_primary_4 : decode prog_15_method_20_code 4 = .ok (.istore_n 1, 1) := by decide +kernel
theorem d_GM_primary_5 : decode prog_15_method_20_code 5 = .ok (.aload_n 0, 1) := by decide +kernel
theorem d_GM_primary_6 : decode prog_15_method_20_code 6 = .ok (.iconst 0, 1) := by decide +kernel
theorem d_GM_primary_7 : decode prog_15_method_20_code 7 = .ok (.invokevirtual 224, 3) := by decide +kernel
theorem d_GM_primary_10 : decode prog_15_method_20_code 10 = .ok (.tableswitch 124 1 6 #[38, 56, 79, 92, 97, 97], 38) := by decide +kernel
theorem d_GM_primary_48 : decode prog_15_method_20_code 48 = .ok (.aload_n 0, 1) := by decide +kernel
theorem d_GM_primary_49 : decode prog_15_method_20_code 49 = .ok (.invokevirtual 228, 3) := by decide +kernel
theorem d_GM_primary_52 : decode prog_15_method_20_code 52 = .ok (.aload_n 0, 1) := by decide +kernel
theorem d_GM_primary_53 : decode prog_15_method_20_code 53 = .ok (.iconst 0, 1) := by decide +kernel
theorem d_GM_primary_54 : decode prog_15_method_20_code 54 = .ok (.iconst 0, 1) := by decide +kernel
theorem d_GM_primary_55 : decode prog_15_method_20_code 55 = .ok (.iconst 0, 1) := by decide +kernel
theorem d_GM_primary_56 : decode prog_15_method_20_code 56 = .ok (.aload_n 0, 1) := by decide +kernel
theorem d_GM_primary_57 : decode prog_15_method_20_code 57 = .ok (.getfield 65, 3) := by decide +kernel
theorem d_GM_primary_60 : decode prog_15_method_20_code 60 = .ok (.iload_n 1, 1) := by decide +kernel
theorem d_GM_primary_61 : decode prog_15_method_20_code 61 = .ok (.laload, 1) := by decide +kernel
theorem d_GM_primary_62 : decode prog_15_method_20_code 62 = .ok (.invokevirtual 243, 3) := by decide +kernel
theorem d_GM_primary_65 : decode prog_15_method_20_code 65 = .ok (.ireturn, 1) := by decide +kernel
theorem d_GM_primary_66 : decode prog_15_method_20_code 66 = .ok (.aload_n 0, 1) := by decide +kernel
theorem d_GM_primary_67 : decode prog_15_method_20_code 67 = .ok (.invokevirtual 228, 3) := by decide +kernel
theorem d_GM_primary_70 : decode prog_15_method_20_code 70 = .ok (.aload_n 0, 1) := by decide +kernel
theorem d_GM_primary_71 : decode prog_15_method_20_code 71 = .ok (.iconst 1, 1) := by decide +kernel
theorem d_GM_primary_72 : decode prog_15_method_20_code 72 = .ok (.aload_n 0, 1) := by decide +kernel
theorem d_GM_primary_73 : decode prog_15_method_20_code 73 = .ok (.getfield 53, 3) := by decide +kernel
theorem d_GM_primary_76 : decode prog_15_method_20_code 76 = .ok (.iload_n 1, 1) := by decide +kernel
theorem d_GM_primary_77 : decode prog_15_method_20_code 77 = .ok (.iaload, 1) := by decide +kernel
theorem d_GM_primary_78 : decode prog_15_method_20_code 78 = .ok (.aload_n 0, 1) := by decide +kernel
theorem d_GM_primary_79 : decode prog_15_method_20_code 79 = .ok (.getfield 56, 3) := by decide +kernel
theorem d_GM_primary_82 : decode prog_15_method_20_code 82 = .ok (.iload_n 1, 1) := by decide +kernel
theorem d_GM_primary_83 : decode prog_15_method_20_code 83 = .ok (.iaload, 1) := by decide +kernel
theorem d_GM_primary_84 : decode prog_15_method_20_code 84 = .ok (.lconst 0, 1) := by decide +kernel
theorem d_GM_primary_85 : decode prog_15_method_20_code 85 = .ok (.invokevirtual 243, 3) := by decide +kernel
theorem d_GM_primary_88 : decode prog_15_method_20_code 88 = .ok (.ireturn, 1) := by decide +kernel
theorem d_GM_primary_89 : decode prog_15_method_20_code 89 = .ok (.aload_n 0, 1) := by decide +kernel
theorem d_GM_primary_90 : decode prog_15_method_20_code 90 = .ok (.iconst 2, 1) := by decide +kernel
theorem d_GM_primary_91 : decode prog_15_method_20_code 91 = .ok (.aload_n 0, 1) := by decide +kernel
theorem d_GM_primary_92 : decode prog_15_method_20_code 92 = .ok (.iconst 0, 1) := by decide +kernel
theorem d_GM_primary_93 : decode prog_15_method_20_code 93 = .ok (.invokevirtual 256, 3) := by decide +kernel
theorem d_GM_primary_96 : decode prog_15_method_20_code 96 = .ok (.iconst 0, 1) := by decide +kernel
theorem d_GM_primary_97 : decode prog_15_method_20_code 97 = .ok (.lconst 0, 1) := by decide +kernel
theorem d_GM_primary_98 : decode prog_15_method_20_code 98 = .ok (.invokevirtual 243, 3) := by decide +kernel
theorem d_GM_primary_101 : decode prog_15_method_20_code 101 = .ok (.ireturn, 1) := by decide +kernel
theorem d_GM_primary_102 : decode prog_15_method_20_code 102 = .ok (.aload_n 0, 1) := by decide +kernel
theorem d_GM_primary_103 : decode prog_15_method_20_code 103 = .ok (.invokevirtual 259, 3) := by decide +kernel
theorem d_GM_primary_106 : decode prog_15_method_20_code 106 = .ok (.ireturn, 1) := by decide +kernel
theorem d_GM_primary_107 : decode prog_15_method_20_code 107 = .ok (.aload_n 0, 1) := by decide +kernel
theorem d_GM_primary_108 : decode prog_15_method_20_code 108 = .ok (.invokevirtual 228, 3) := by decide +kernel
theorem d_GM_primary_111 : decode prog_15_method_20_code 111 = .ok (.aload_n 0, 1) := by decide +kernel
theorem d_GM_primary_112 : decode prog_15_method_20_code 112 = .ok (.iconst 4, 1) := by decide +kernel
theorem d_GM_primary_113 : decode prog_15_method_20_code 113 = .ok (.iconst 0, 1) := by decide +kernel
theorem d_GM_primary_114 : decode prog_15_method_20_code 114 = .ok (.iconst 0, 1) := by decide +kernel
theorem d_GM_primary_115 : decode prog_15_method_20_code 115 = .ok (.aload_n 0, 1) := by decide +kernel
theorem d_GM_primary_116 : decode prog_15_method_20_code 116 = .ok (.getfield 50, 3) := by decide +kernel
theorem d_GM_primary_119 : decode prog_15_method_20_code 119 = .ok (.iload_n 1, 1) := by decide +kernel
theorem d_GM_primary_120 : decode prog_15_method_20_code 120 = .ok (.iaload, 1) := by decide +kernel
theorem d_GM_primary_121 : decode prog_15_method_20_code 121 = .ok (.iconst 5, 1) := by decide +kernel
theorem d_GM_primary_122 : decode prog_15_method_20_code 122 = .ok (.if_icmp .ne 7, 3) := by decide +kernel
theorem d_GM_primary_129 : decode prog_15_method_20_code 129 = .ok (.lconst 0, 1) := by decide +kernel
theorem d_GM_primary_130 : decode prog_15_method_20_code 130 = .ok (.invokevirtual 243, 3) := by decide +kernel
theorem d_GM_primary_133 : decode prog_15_method_20_code 133 = .ok (.ireturn, 1) := by decide +kernel
theorem d_GM_primary_125 : decode prog_15_method_20_code 125 = .ok (.lconst 1, 1) := by decide +kernel
theorem d_GM_primary_126 : decode prog_15_method_20_code 126 = .ok (.goto 4, 3) := by decide +kernel
theorem d_GM_primary_134 : decode prog_15_method_20_code 134 = .ok (.aload_n 0, 1) := by decide +kernel
theorem d_GM_primary_135 : decode prog_15_method_20_code 135 = .ok (.bipush 40, 2) := by decide +kernel
theorem d_GM_primary_137 : decode prog_15_method_20_code 137 = .ok (.invokevirtual 262, 3) := by decide +kernel
theorem d_GM_primary_140 : decode prog_15_method_20_code 140 = .ok (.aload_n 0, 1) := by decide +kernel
theorem d_GM_primary_141 : decode prog_15_method_20_code 141 = .ok (.dup, 1) := by decide +kernel
theorem d_GM_primary_142 : decode prog_15_method_20_code 142 = .ok (.getfield 221, 3) := by decide +kernel
theorem d_GM_primary_145 : decode prog_15_method_20_code 145 = .ok (.iconst 1, 1) := by decide +kernel
theorem d_GM_primary_146 : decode prog_15_method_20_code 146 = .ok (.iadd, 1) := by decide +kernel
theorem d_GM_primary_147 : decode prog_15_method_20_code 147 = .ok (.putfield 221, 3) := by decide +kernel
theorem d_GM_primary_150 : decode prog_15_method_20_code 150 = .ok (.aload_n 0, 1) := by decide +kernel
theorem d_GM_primary_151 : decode prog_15_method_20_code 151 = .ok (.getfield 181, 3) := by decide +kernel
theorem d_GM_primary_154 : decode prog_15_method_20_code 154 = .ok (.ifCond .eq 7, 3) := by decide +kernel
theorem d_GM_primary_161 : decode prog_15_method_20_code 161 = .ok (.aload_n 0, 1) := by decide +kernel
theorem d_GM_primary_162 : decode prog_15_method_20_code 162 = .ok (.iconst 0, 1) := by decide +kernel
theorem d_GM_primary_163 : decode prog_15_method_20_code 163 = .ok (.invokevirtual 240, 3) := by decide +kernel
theorem d_GM_primary_166 : decode prog_15_method_20_code 166 = .ok (.istore_n 2, 1) := by decide +kernel
theorem d_GM_primary_167 : decode prog_15_method_20_code 167 = .ok (.aload_n 0, 1) := by decide +kernel
theorem d_GM_primary_168 : decode prog_15_method_20_code 168 = .ok (.dup, 1) := by decide +kernel
theorem d_GM_primary_169 : decode prog_15_method_20_code 169 = .ok (.getfield 221, 3) := by decide +kernel
theorem d_GM_primary_172 : decode prog_15_method_20_code 172 = .ok (.iconst 1, 1) := by decide +kernel
theorem d_GM_primary_173 : decode prog_15_method_20_code 173 = .ok (.isub, 1) := by decide +kernel
theorem d_GM_primary_174 : decode prog_15_method_20_code 174 = .ok (.putfield 221, 3) := by decide +kernel
theorem d_GM_primary_177 : decode prog_15_method_20_code 177 = .ok (.aload_n 0, 1) := by decide +kernel
theorem d_GM_primary_178 : decode prog_15_method_20_code 178 = .ok (.bipush 41, 2) := by decide +kernel
theorem d_GM_primary_180 : decode prog_15_method_20_code 180 = .ok (.invokevirtual 262, 3) := by decide +kernel
theorem d_GM_primary_183 : decode prog_15_method_20_code 183 = .ok (.aload_n 0, 1) := by decide +kernel
theorem d_GM_primary_184 : decode prog_15_method_20_code 184 = .ok (.bipush 9, 2) := by decide +kernel
theorem d_GM_primary_186 : decode prog_15_method_20_code 186 = .ok (.iload_n 2, 1) := by decide +kernel
theorem d_GM_primary_187 : decode prog_15_method_20_code 187 = .ok (.iconst 0, 1) := by decide +kernel
theorem d_GM_primary_188 : decode prog_15_method_20_code 188 = .ok (.lconst 0, 1) := by decide +kernel
theorem d_GM_primary_189 : decode prog_15_method_20_code 189 = .ok (.invokevirtual 243, 3) := by decide +kernel
theorem d_GM_primary_192 : decode prog_15_method_20_code 192 = .ok (.ireturn, 1) := by decide +kernel
theorem d_GM_primary_157 : decode prog_15_method_20_code 157 = .ok (.iconst 0, 1) := by decide +kernel
theorem d_GM_primary_158 : decode prog_15_method_20_code 158 = .ok (.goto 8, 3) := by decide +kernel
set_option maxHeartbeats 4000000 in
theorem w_GM_primary_0 {l : Launch} {G : gG} {d : Nat} {X : gX} {M : gM} {k : Int → gM → Prop} {o : Nat} (hX : gmX X o)  (T : g32 (M o 25) → (cI l G y_GM_look (gRm d) false [gR G o, gI 0] X M (fun v3 M2 => ((v3 = 1 → (cV l G y_GM_pass (gRm d) true [gR G o] X M2 (fun M5 => (((0 : Int) ≤ M o 25 ∧ M o 25 < 101) ∧ (g64 (M5 (o + 18) (Int.toNat (M o 25))) → (cI l G y_GM_node (gRm d) true [gR G o, gI 0, gI 0, gI 0, gL (M5 (o + 18) (Int.toNat (M o 25)))] X M5 (fun v8 M7 => (k v8 M7)))))))) ∧ (v3 = 2 → (cV l G y_GM_pass (gRm d) true [gR G o] X M2 (fun M10 => (((0 : Int) ≤ M o 25 ∧ M o 25 < 101) ∧ (g32 (M10 (o + 14) (Int.toNat (M o 25))) → (((0 : Int) ≤ M o 25 ∧ M o 25 < 101) ∧ (g32 (M10 (o + 15) (Int.toNat (M o 25))) → (cI l G y_GM_node (gRm d) true [gR G o, gI 1, gI (M10 (o + 14) (Int.toNat (M o 25))), gI (M10 (o + 15) (Int.toNat (M o 25))), gL 0] X M10 (fun v14 M13 => (k v14 M13)))))))))) ∧ (v3 = 3 → (cI l G y_GM_ref (gRm d) true [gR G o, gI 0] X M2 (fun v17 M16 => (cI l G y_GM_node (gRm d) true [gR G o, gI 2, gI v17, gI 0, gL 0] X M16 (fun v20 M19 => (k v20 M19)))))) ∧ (v3 = 4 → (cI l G y_GM_call (gRm d) true [gR G o] X M2 (fun v23 M22 => (k v23 M22)))) ∧ (v3 = 5 → (cV l G y_GM_pass (gRm d) true [gR G o] X M2 (fun M25 => (((0 : Int) ≤ M o 25 ∧ M o 25 < 101) ∧ (g32 (M25 (o + 13) (Int.toNat (M o 25))) → ((¬ M25 (o + 13) (Int.toNat (M o 25)) = 5 → (cI l G y_GM_node (gRm d) true [gR G o, gI 4, gI 0, gI 0, gL 0] X M25 (fun v28 M27 => (k v28 M27)))) ∧ (M25 (o + 13) (Int.toNat (M o 25)) = 5 → (cI l G y_GM_node (gRm d) true [gR G o, gI 4, gI 0, gI 0, gL 1] X M25 (fun v31 M30 => (k v31 M30)))))))))) ∧ (v3 = 6 → (cV l G y_GM_pass (gRm d) true [gR G o] X M2 (fun M34 => (((0 : Int) ≤ M o 25 ∧ M o 25 < 101) ∧ (g32 (M34 (o + 13) (Int.toNat (M o 25))) → ((¬ M34 (o + 13) (Int.toNat (M o 25)) = 5 → (cI l G y_GM_node (gRm d) true [gR G o, gI 4, gI 0, gI 0, gL 0] X M34 (fun v37 M36 => (k v37 M36)))) ∧ (M34 (o + 13) (Int.toNat (M o 25)) = 5 → (cI l G y_GM_node (gRm d) true [gR G o, gI 4, gI 0, gI 0, gL 1] X M34 (fun v40 M39 => (k v40 M39)))))))))) ∧ ((¬ v3 = 1 ∧ ¬ v3 = 2 ∧ ¬ v3 = 3 ∧ ¬ v3 = 4 ∧ ¬ v3 = 5 ∧ ¬ v3 = 6) → (cV l G y_GM_need (gRm d) true [gR G o, gI 40] X M2 (fun M43 => (g32 (M43 o 26) → ((0 ≤ (gUp M43 o 26 (w32 ((M43 o 26) + 1))) o 27 ∧ (gUp M43 o 26 (w32 ((M43 o 26) + 1))) o 27 ≤ 1) → (((gUp M43 o 26 (w32 ((M43 o 26) + 1))) o 27 = 0 → (cI l G y_GM_expr (gRm d) true [gR G o, gI 0] X (gUp M43 o 26 (w32 ((M43 o 26) + 1))) (fun v47 M46 => (g32 (M46 o 26) → (cV l G y_GM_need (gRm d) true [gR G o, gI 41] X (gUp M46 o 26 (w32 ((M46 o 26) - 1))) (fun M50 => (cI l G y_GM_node (gRm d) true [gR G o, gI 9, gI v47, gI 0, gL 0] X M50 (fun v52 M51 => (k v52 M51))))))))) ∧ (¬ (gUp M43 o 26 (w32 ((M43 o 26) + 1))) o 27 = 0 → (g32 ((gUp M43 o 26 (w32 ((M43 o 26) + 1))) o 26) → (cV l G y_GM_need (gRm d) true [gR G o, gI 41] X (gUp (gUp M43 o 26 (w32 ((M43 o 26) + 1))) o 26 (w32 (((gUp M43 o 26 (w32 ((M43 o 26) + 1))) o 26) - 1))) (fun M55 => (cI l G y_GM_node (gRm d) true [gR G o, gI 9, gI 0, gI 0, gL 0] X M55 (fun v57 M56 => (k v57 M56))))))))))))))))) : wp l G y_GM_primary (gRm (d + 1)) true (kkI X k) false 0 [.val (gR G o), .unset, .unset] [] X M 0 0 := by
  refine wp_aload_n d_GM_primary_0 rfl rfl (g_nz hX.1) ?_
  refine xgetI d_GM_primary_1 gc_GM f_GM_218.1 f_GM_218.2.1 f_GM_218.2.2.1 hX.1 (gm_o2 hX) hX.2.2.1 f_GM_218.2.2.2.2.1 (fun h1 => ?_)
  have T := T h1
  refine wp_istore_n (L' := [.val (gR G o), .val (gI (M o 25)), .unset]) d_GM_primary_4 rfl (by decide) (gS1_R rfl rfl) ?_
  refine wp_aload_n d_GM_primary_5 rfl rfl (g_nz hX.1) ?_
  refine wp_iconst d_GM_primary_6 ?_
  refine xcV_I (md' := false) (As := [gI 0]) (st := []) d_GM_primary_7 ca_GM_look ml_GM_224 im_GM_look se_GM_look gc_GM hX.1 (gm_o2 hX) hX.2.2.1 rfl (by decide) (by decide) rfl id id T (fun v3 M2 h4 T => ?_)
  obtain ⟨T0, T1, T2, T3, T4, T5, T6⟩ := T
  by_cases hc0 : v3 = 1
  · refine xtabIn (tgt := 48) d_GM_primary_10 (w32_id h4) 1 hc0 rfl rfl (by decide) ?_
    have T := T0 hc0
    refine wp_aload_n d_GM_primary_48 rfl rfl (g_nz hX.1) ?_
    refine xcV_V (md' := true) (As := []) (st := []) d_GM_primary_49 ca_GM_pass ml_GM_228 im_GM_pass se_GM_pass gc_GM hX.1 (gm_o2 hX) hX.2.2.1 rfl (by decide) (by decide) rfl (fun _ => rfl) (fun _ => rfl) T (fun M5 T => ?_)
    refine wp_aload_n d_GM_primary_52 rfl rfl (g_nz hX.1) ?_
    refine wp_iconst d_GM_primary_53 ?_
    refine wp_iconst d_GM_primary_54 ?_
    refine wp_iconst d_GM_primary_55 ?_
    refine wp_aload_n d_GM_primary_56 rfl rfl (g_nz hX.1) ?_
    refine xgetR d_GM_primary_57 gc_GM f_GM_65.1 f_GM_65.2.1 f_GM_65.2.2.1 hX.1 (gm_o2 hX) hX.2.2.1 f_GM_65.2.2.2.2.1 (gm_row hX 17 rfl).1 ?_
    refine wp_iload_n d_GM_primary_60 rfl rfl ?_
    refine wp_laload d_GM_primary_61 (gm_row hX 17 rfl).2.2.1 (gm_row hX 17 rfl).2.2.2 (gm_row hX 17 rfl).2.1 (g32_n T.1 (by decide)) T.1.1 T.1.2 (fun h6 => ?_)
    have T := T.2 h6
    refine xcV_I (md' := true) (As := [gI 0, gI 0, gI 0, gL (M5 (o + 18) (Int.toNat (M o 25)))]) (st := []) d_GM_primary_62 ca_GM_node ml_GM_243 im_GM_node se_GM_node gc_GM hX.1 (gm_o2 hX) hX.2.2.1 rfl (by decide) (by decide) rfl (fun _ => rfl) (fun _ => rfl) T (fun v8 M7 h9 T => ?_)
    exact wp_ireturn d_GM_primary_65 rfl (fun _ => rfl) (Nat.zero_le _) (Nat.zero_le _) (kI_mk h9 T)
  by_cases hc1 : v3 = 2
  · refine xtabIn (tgt := 66) d_GM_primary_10 (w32_id h4) 2 hc1 rfl rfl (by decide) ?_
    have T := T1 hc1
    refine wp_aload_n d_GM_primary_66 rfl rfl (g_nz hX.1) ?_
    refine xcV_V (md' := true) (As := []) (st := []) d_GM_primary_67 ca_GM_pass ml_GM_228 im_GM_pass se_GM_pass gc_GM hX.1 (gm_o2 hX) hX.2.2.1 rfl (by decide) (by decide) rfl (fun _ => rfl) (fun _ => rfl) T (fun M10 T => ?_)
    refine wp_aload_n d_GM_primary_70 rfl rfl (g_nz hX.1) ?_
    refine wp_iconst d_GM_primary_71 ?_
    refine wp_aload_n d_GM_primary_72 rfl rfl (g_nz hX.1) ?_
    refine xgetR d_GM_primary_73 gc_GM f_GM_53.1 f_GM_53.2.1 f_GM_53.2.2.1 hX.1 (gm_o2 hX) hX.2.2.1 f_GM_53.2.2.2.2.1 (gm_row hX 13 rfl).1 ?_
    refine wp_iload_n d_GM_primary_76 rfl rfl ?_
    refine wp_iaload d_GM_primary_77 (gm_row hX 13 rfl).2.2.1 (gm_row hX 13 rfl).2.2.2 (gm_row hX 13 rfl).2.1 (g32_n T.1 (by decide)) T.1.1 T.1.2 (fun h11 => ?_)
    have T := T.2 h11
    refine wp_aload_n d_GM_primary_78 rfl rfl (g_nz hX.1) ?_
    refine xgetR d_GM_primary_79 gc_GM f_GM_56.1 f_GM_56.2.1 f_GM_56.2.2.1 hX.1 (gm_o2 hX) hX.2.2.1 f_GM_56.2.2.2.2.1 (gm_row hX 14 rfl).1 ?_
    refine wp_iload_n d_GM_primary_82 rfl rfl ?_
    refine wp_iaload d_GM_primary_83 (gm_row hX 14 rfl).2.2.1 (gm_row hX 14 rfl).2.2.2 (gm_row hX 14 rfl).2.1 (g32_n T.1 (by decide)) T.1.1 T.1.2 (fun h12 => ?_)
    have T := T.2 h12
    refine wp_lconst0 d_GM_primary_84 ?_
    refine xcV_I (md' := true) (As := [gI 1, gI (M10 (o + 14) (Int.toNat (M o 25))), gI (M10 (o + 15) (Int.toNat (M o 25))), gL 0]) (st := []) d_GM_primary_85 ca_GM_node ml_GM_243 im_GM_node se_GM_node gc_GM hX.1 (gm_o2 hX) hX.2.2.1 rfl (by decide) (by decide) rfl (fun _ => rfl) (fun _ => rfl) T (fun v14 M13 h15 T => ?_)
    exact wp_ireturn d_GM_primary_88 rfl (fun _ => rfl) (Nat.zero_le _) (Nat.zero_le _) (kI_mk h15 T)
  by_cases hc2 : v3 = 3
  · refine xtabIn (tgt := 89) d_GM_primary_10 (w32_id h4) 3 hc2 rfl rfl (by decide) ?_
    have T := T2 hc2
    refine wp_aload_n d_GM_primary_89 rfl rfl (g_nz hX.1) ?_
    refine wp_iconst d_GM_primary_90 ?_
    refine wp_aload_n d_GM_primary_91 rfl rfl (g_nz hX.1) ?_
    refine wp_iconst d_GM_primary_92 ?_
    refine xcV_I (md' := true) (As := [gI 0]) (st := [gI 2, gR G o]) d_GM_primary_93 ca_GM_ref ml_GM_256 im_GM_ref se_GM_ref gc_GM hX.1 (gm_o2 hX) hX.2.2.1 rfl (by decide) (by simp only [List.map, gR_cat, gI_cat, gL_cat, List.sum_cons, List.sum_nil]; decide) rfl (fun _ => rfl) (fun _ => rfl) T (fun v17 M16 h18 T => ?_)
    refine wp_iconst d_GM_primary_96 ?_
    refine wp_lconst0 d_GM_primary_97 ?_
    refine xcV_I (md' := true) (As := [gI 2, gI v17, gI 0, gL 0]) (st := []) d_GM_primary_98 ca_GM_node ml_GM_243 im_GM_node se_GM_node gc_GM hX.1 (gm_o2 hX) hX.2.2.1 rfl (by decide) (by decide) rfl (fun _ => rfl) (fun _ => rfl) T (fun v20 M19 h21 T => ?_)
    exact wp_ireturn d_GM_primary_101 rfl (fun _ => rfl) (Nat.zero_le _) (Nat.zero_le _) (kI_mk h21 T)
  by_cases hc3 : v3 = 4
  · refine xtabIn (tgt := 102) d_GM_primary_10 (w32_id h4) 4 hc3 rfl rfl (by decide) ?_
    have T := T3 hc3
    refine wp_aload_n d_GM_primary_102 rfl rfl (g_nz hX.1) ?_
    refine xcV_I (md' := true) (As := []) (st := []) d_GM_primary_103 ca_GM_call ml_GM_259 im_GM_call se_GM_call gc_GM hX.1 (gm_o2 hX) hX.2.2.1 rfl (by decide) (by decide) rfl (fun _ => rfl) (fun _ => rfl) T (fun v23 M22 h24 T => ?_)
    exact wp_ireturn d_GM_primary_106 rfl (fun _ => rfl) (Nat.zero_le _) (Nat.zero_le _) (kI_mk h24 T)
  by_cases hc4 : v3 = 5
  · refine xtabIn (tgt := 107) d_GM_primary_10 (w32_id h4) 5 hc4 rfl rfl (by decide) ?_
    have T := T4 hc4
    refine wp_aload_n d_GM_primary_107 rfl rfl (g_nz hX.1) ?_
    refine xcV_V (md' := true) (As := []) (st := []) d_GM_primary_108 ca_GM_pass ml_GM_228 im_GM_pass se_GM_pass gc_GM hX.1 (gm_o2 hX) hX.2.2.1 rfl (by decide) (by decide) rfl (fun _ => rfl) (fun _ => rfl) T (fun M25 T => ?_)
    refine wp_aload_n d_GM_primary_111 rfl rfl (g_nz hX.1) ?_
    refine wp_iconst d_GM_primary_112 ?_
    refine wp_iconst d_GM_primary_113 ?_
    refine wp_iconst d_GM_primary_114 ?_
    refine wp_aload_n d_GM_primary_115 rfl rfl (g_nz hX.1) ?_
    refine xgetR d_GM_primary_116 gc_GM f_GM_50.1 f_GM_50.2.1 f_GM_50.2.2.1 hX.1 (gm_o2 hX) hX.2.2.1 f_GM_50.2.2.2.2.1 (gm_row hX 12 rfl).1 ?_
    refine wp_iload_n d_GM_primary_119 rfl rfl ?_
    refine wp_iaload d_GM_primary_120 (gm_row hX 12 rfl).2.2.1 (gm_row hX 12 rfl).2.2.2 (gm_row hX 12 rfl).2.1 (g32_n T.1 (by decide)) T.1.1 T.1.2 (fun h26 => ?_)
    have T := T.2 h26
    refine wp_iconst d_GM_primary_121 ?_
    refine xi_ne (tgt := 129) d_GM_primary_122 (by decide) (w32_id h26) (w32_id (g32_c (x := 5) rfl)) (fun h33 => ?_) (fun h33 => ?_)
    · have T := T.1 h33
      refine wp_lconst0 d_GM_primary_129 ?_
      refine xcV_I (md' := true) (As := [gI 4, gI 0, gI 0, gL 0]) (st := []) d_GM_primary_130 ca_GM_node ml_GM_243 im_GM_node se_GM_node gc_GM hX.1 (gm_o2 hX) hX.2.2.1 rfl (by decide) (by decide) rfl (fun _ => rfl) (fun _ => rfl) T (fun v28 M27 h29 T => ?_)
      exact wp_ireturn d_GM_primary_133 rfl (fun _ => rfl) (Nat.zero_le _) (Nat.zero_le _) (kI_mk h29 T)
    · have T := T.2 h33
      refine wp_lconst1 d_GM_primary_125 ?_
      refine wp_goto (tgt := 130) d_GM_primary_126 (by decide) ?_
      refine xcV_I (md' := true) (As := [gI 4, gI 0, gI 0, gL 1]) (st := []) d_GM_primary_130 ca_GM_node ml_GM_243 im_GM_node se_GM_node gc_GM hX.1 (gm_o2 hX) hX.2.2.1 rfl (by decide) (by decide) rfl (fun _ => rfl) (fun _ => rfl) T (fun v31 M30 h32 T => ?_)
      exact wp_ireturn d_GM_primary_133 rfl (fun _ => rfl) (Nat.zero_le _) (Nat.zero_le _) (kI_mk h32 T)
  by_cases hc5 : v3 = 6
  · refine xtabIn (tgt := 107) d_GM_primary_10 (w32_id h4) 6 hc5 rfl rfl (by decide) ?_
    have T := T5 hc5
    refine wp_aload_n d_GM_primary_107 rfl rfl (g_nz hX.1) ?_
    refine xcV_V (md' := true) (As := []) (st := []) d_GM_primary_108 ca_GM_pass ml_GM_228 im_GM_pass se_GM_pass gc_GM hX.1 (gm_o2 hX) hX.2.2.1 rfl (by decide) (by decide) rfl (fun _ => rfl) (fun _ => rfl) T (fun M34 T => ?_)
    refine wp_aload_n d_GM_primary_111 rfl rfl (g_nz hX.1) ?_
    refine wp_iconst d_GM_primary_112 ?_
    refine wp_iconst d_GM_primary_113 ?_
    refine wp_iconst d_GM_primary_114 ?_
    refine wp_aload_n d_GM_primary_115 rfl rfl (g_nz hX.1) ?_
    refine xgetR d_GM_primary_116 gc_GM f_GM_50.1 f_GM_50.2.1 f_GM_50.2.2.1 hX.1 (gm_o2 hX) hX.2.2.1 f_GM_50.2.2.2.2.1 (gm_row hX 12 rfl).1 ?_
    refine wp_iload_n d_GM_primary_119 rfl rfl ?_
    refine wp_iaload d_GM_primary_120 (gm_row hX 12 rfl).2.2.1 (gm_row hX 12 rfl).2.2.2 (gm_row hX 12 rfl).2.1 (g32_n T.1 (by decide)) T.1.1 T.1.2 (fun h35 => ?_)
    have T := T.2 h35
    refine wp_iconst d_GM_primary_121 ?_
    refine xi_ne (tgt := 129) d_GM_primary_122 (by decide) (w32_id h35) (w32_id (g32_c (x := 5) rfl)) (fun h42 => ?_) (fun h42 => ?_)
    · have T := T.1 h42
      refine wp_lconst0 d_GM_primary_129 ?_
      refine xcV_I (md' := true) (As := [gI 4, gI 0, gI 0, gL 0]) (st := []) d_GM_primary_130 ca_GM_node ml_GM_243 im_GM_node se_GM_node gc_GM hX.1 (gm_o2 hX) hX.2.2.1 rfl (by decide) (by decide) rfl (fun _ => rfl) (fun _ => rfl) T (fun v37 M36 h38 T => ?_)
      exact wp_ireturn d_GM_primary_133 rfl (fun _ => rfl) (Nat.zero_le _) (Nat.zero_le _) (kI_mk h38 T)
    · have T := T.2 h42
      refine wp_lconst1 d_GM_primary_125 ?_
      refine wp_goto (tgt := 130) d_GM_primary_126 (by decide) ?_
      refine xcV_I (md' := true) (As := [gI 4, gI 0, gI 0, gL 1]) (st := []) d_GM_primary_130 ca_GM_node ml_GM_243 im_GM_node se_GM_node gc_GM hX.1 (gm_o2 hX) hX.2.2.1 rfl (by decide) (by decide) rfl (fun _ => rfl) (fun _ => rfl) T (fun v40 M39 h41 T => ?_)
      exact wp_ireturn d_GM_primary_133 rfl (fun _ => rfl) (Nat.zero_le _) (Nat.zero_le _) (kI_mk h41 T)
  refine xtabOut (tgt := 134) d_GM_primary_10 (w32_id h4) (by omega) (by decide) ?_
  have T := T6 ⟨hc0, hc1, hc2, hc3, hc4, hc5⟩
  refine wp_aload_n d_GM_primary_134 rfl rfl (g_nz hX.1) ?_
  refine wp_bipush d_GM_primary_135 ⟨by decide, by decide⟩ ?_
  refine xcV_V (md' := true) (As := [gI 40]) (st := []) d_GM_primary_137 ca_GM_need ml_GM_262 im_GM_need se_GM_need gc_GM hX.1 (gm_o2 hX) hX.2.2.1 rfl (by decide) (by decide) rfl (fun _ => rfl) (fun _ => rfl) T (fun M43 T => ?_)
  refine wp_aload_n d_GM_primary_140 rfl rfl (g_nz hX.1) ?_
  refine wp_dup d_GM_primary_141 (gR_cat _) ?_
  refine xgetI d_GM_primary_142 gc_GM f_GM_221.1 f_GM_221.2.1 f_GM_221.2.2.1 hX.1 (gm_o2 hX) hX.2.2.1 f_GM_221.2.2.2.2.1 (fun h44 => ?_)
  have T := T h44
  refine wp_iconst d_GM_primary_145 ?_
  refine wp_iadd d_GM_primary_146 ?_
  refine xputI d_GM_primary_147 gc_GM f_GM_221.1 f_GM_221.2.1 f_GM_221.2.2.1 hX.1 (gm_o2 hX) hX.2.2.1 f_GM_221.2.2.2.1 f_GM_221.2.2.2.2.1 f_GM_221.2.2.2.2.2 rfl ?_
  refine wp_aload_n d_GM_primary_150 rfl rfl (g_nz hX.1) ?_
  refine xgetZ d_GM_primary_151 gc_GM f_GM_181.1 f_GM_181.2.1 f_GM_181.2.2.1 hX.1 (gm_o2 hX) hX.2.2.1 f_GM_181.2.2.2.2.1 (fun h45 => ?_)
  have T := T h45
  refine xz_eq (tgt := 161) d_GM_primary_154 (by decide) (w32_id (g32_z h45)) (fun h59 => ?_) (fun h59 => ?_)
  · have T := T.1 h59
    refine wp_aload_n d_GM_primary_161 rfl rfl (g_nz hX.1) ?_
    refine wp_iconst d_GM_primary_162 ?_
    refine xcV_I (md' := true) (As := [gI 0]) (st := []) d_GM_primary_163 ca_GM_expr ml_GM_240 im_GM_expr se_GM_expr gc_GM hX.1 (gm_o2 hX) hX.2.2.1 rfl (by decide) (by decide) rfl (fun _ => rfl) (fun _ => rfl) T (fun v47 M46 h48 T => ?_)
    refine wp_istore_n (L' := [.val (gR G o), .val (gI (M o 25)), .val (gI v47)]) d_GM_primary_166 rfl (by decide) rfl ?_
    refine wp_aload_n d_GM_primary_167 rfl rfl (g_nz hX.1) ?_
    refine wp_dup d_GM_primary_168 (gR_cat _) ?_
    refine xgetI d_GM_primary_169 gc_GM f_GM_221.1 f_GM_221.2.1 f_GM_221.2.2.1 hX.1 (gm_o2 hX) hX.2.2.1 f_GM_221.2.2.2.2.1 (fun h49 => ?_)
    have T := T h49
    refine wp_iconst d_GM_primary_172 ?_
    refine wp_isub d_GM_primary_173 ?_
    refine xputI d_GM_primary_174 gc_GM f_GM_221.1 f_GM_221.2.1 f_GM_221.2.2.1 hX.1 (gm_o2 hX) hX.2.2.1 f_GM_221.2.2.2.1 f_GM_221.2.2.2.2.1 f_GM_221.2.2.2.2.2 rfl ?_
    refine wp_aload_n d_GM_primary_177 rfl rfl (g_nz hX.1) ?_
    refine wp_bipush d_GM_primary_178 ⟨by decide, by decide⟩ ?_
    refine xcV_V (md' := true) (As := [gI 41]) (st := []) d_GM_primary_180 ca_GM_need ml_GM_262 im_GM_need se_GM_need gc_GM hX.1 (gm_o2 hX) hX.2.2.1 rfl (by decide) (by decide) rfl (fun _ => rfl) (fun _ => rfl) T (fun M50 T => ?_)
    refine wp_aload_n d_GM_primary_183 rfl rfl (g_nz hX.1) ?_
    refine wp_bipush d_GM_primary_184 ⟨by decide, by decide⟩ ?_
    refine wp_iload_n d_GM_primary_186 rfl rfl ?_
    refine wp_iconst d_GM_primary_187 ?_
    refine wp_lconst0 d_GM_primary_188 ?_
    refine xcV_I (md' := true) (As := [gI 9, gI v47, gI 0, gL 0]) (st := []) d_GM_primary_189 ca_GM_node ml_GM_243 im_GM_node se_GM_node gc_GM hX.1 (gm_o2 hX) hX.2.2.1 rfl (by decide) (by decide) rfl (fun _ => rfl) (fun _ => rfl) T (fun v52 M51 h53 T => ?_)
    exact wp_ireturn d_GM_primary_192 rfl (fun _ => rfl) (Nat.zero_le _) (Nat.zero_le _) (kI_mk h53 T)
  · have T := T.2 h59
    refine wp_iconst d_GM_primary_157 ?_
    refine wp_goto (tgt := 166) d_GM_primary_158 (by decide) ?_
    refine wp_istore_n (L' := [.val (gR G o), .val (gI (M o 25)), .val (gI 0)]) d_GM_primary_166 rfl (by decide) rfl ?_
    refine wp_aload_n d_GM_primary_167 rfl rfl (g_nz hX.1) ?_
    refine wp_dup d_GM_primary_168 (gR_cat _) ?_
    refine xgetI d_GM_primary_169 gc_GM f_GM_221.1 f_GM_221.2.1 f_GM_221.2.2.1 hX.1 (gm_o2 hX) hX.2.2.1 f_GM_221.2.2.2.2.1 (fun h54 => ?_)
    have T := T h54
    refine wp_iconst d_GM_primary_172 ?_
    refine wp_isub d_GM_primary_173 ?_
    refine xputI d_GM_primary_174 gc_GM f_GM_221.1 f_GM_221.2.1 f_GM_221.2.2.1 hX.1 (gm_o2 hX) hX.2.2.1 f_GM_221.2.2.2.1 f_GM_221.2.2.2.2.1 f_GM_221.2.2.2.2.2 rfl ?_
    refine wp_aload_n d_GM_primary_177 rfl rfl (g_nz hX.1) ?_
    refine wp_bipush d_GM_primary_178 ⟨by decide, by decide⟩ ?_
    refine xcV_V (md' := true) (As := [gI 41]) (st := []) d_GM_primary_180 ca_GM_need ml_GM_262 im_GM_need se_GM_need gc_GM hX.1 (gm_o2 hX) hX.2.2.1 rfl (by decide) (by decide) rfl (fun _ => rfl) (fun _ => rfl) T (fun M55 T => ?_)
    refine wp_aload_n d_GM_primary_183 rfl rfl (g_nz hX.1) ?_
    refine wp_bipush d_GM_primary_184 ⟨by decide, by decide⟩ ?_
    refine wp_iload_n d_GM_primary_186 rfl rfl ?_
    refine wp_iconst d_GM_primary_187 ?_
    refine wp_lconst0 d_GM_primary_188 ?_
    refine xcV_I (md' := true) (As := [gI 9, gI 0, gI 0, gL 0]) (st := []) d_GM_primary_189 ca_GM_node ml_GM_243 im_GM_node se_GM_node gc_GM hX.1 (gm_o2 hX) hX.2.2.1 rfl (by decide) (by decide) rfl (fun _ => rfl) (fun _ => rfl) T (fun v57 M56 h58 T => ?_)
    exact wp_ireturn d_GM_primary_192 rfl (fun _ => rfl) (Nat.zero_le _) (Nat.zero_le _) (kI_mk h58 T)
theorem e_GM_primary {l : Launch} {G : gG} {d : Nat} {X : gX} {M : gM} {k : Int → gM → Prop} {o : Nat} (T : wp l G y_GM_primary (gRm (d + 1)) true (kkI X k) false 0 [.val (gR G o), .unset, .unset] [] X M 0 0) : cI l G y_GM_primary (gRm (d + 1)) true [gR G o] X M k := cen_I (plainFor_of_name rfl) (by simp only [lg_sl_R, lg_sl_I, lg_sl_L, lg_sl_N, List.length_cons, List.length_nil]; decide) (by unfold gEn; simp only [lg_sl_R, lg_sl_I, lg_sl_L, lg_sl_N]; exact wpt T (And.intro rfl True.intro))
theorem d_GM_call_0 : decode prog_15_method_21_code 0 = .ok (.aload_n 0, 1) := by decide +kernel
theorem d_GM_call_1 : decode prog_15_method_21_code 1 = .ok (.getfield 218, 3) := by decide +kernel
theorem d_GM_call_4 : decode prog_15_method_21_code 4 = .ok (.istore_n 1, 1) := by decide +kernel
theorem d_GM_call_5 : decode prog_15_method_21_code 5 = .ok (.aload_n 0, 1) := by decide +kernel
theorem d_GM_call_6 : decode prog_15_method_21_code 6 = .ok (.invokevirtual 228, 3) := by decide +kernel
theorem d_GM_call_9 : decode prog_15_method_21_code 9 = .ok (.aload_n 0, 1) := by decide +kernel
theorem d_GM_call_10 : decode prog_15_method_21_code 10 = .ok (.bipush 40, 2) := by decide +kernel
theorem d_GM_call_12 : decode prog_15_method_21_code 12 = .ok (.invokevirtual 262, 3) := by decide +kernel
theorem d_GM_call_15 : decode prog_15_method_21_code 15 = .ok (.aload_n 0, 1) := by decide +kernel
theorem d_GM_call_16 : decode prog_15_method_21_code 16 = .ok (.bipush 8, 2) := by decide +kernel
theorem d_GM_call_18 : decode prog_15_method_21_code 18 = .ok (.iconst (-1), 1) := by decide +kernel
theorem d_GM_call_19 : decode prog_15_method_21_code 19 = .ok (.iconst 0, 1) := by decide +kernel
theorem d_GM_call_20 : decode prog_15_method_21_code 20 = .ok (.lconst 0, 1) := by decide +kernel
theorem d_GM_call_21 : decode prog_15_method_21_code 21 = .ok (.invokevirtual 243, 3) := by decide +kernel
theorem d_GM_call_24 : decode prog_15_method_21_code 24 = .ok (.istore_n 2, 1) := by decide +kernel
theorem d_GM_call_25 : decode prog_15_method_21_code 25 = .ok (.aload_n 0, 1) := by decide +kernel
theorem d_GM_call_26 : decode prog_15_method_21_code 26 = .ok (.getfield 27, 3) := by decide +kernel
theorem d_GM_call_29 : decode prog_15_method_21_code 29 = .ok (.iload_n 2, 1) := by decide +kernel
theorem d_GM_call_30 : decode prog_15_method_21_code 30 = .ok (.aload_n 0, 1) := by decide +kernel
theorem d_GM_call_31 : decode prog_15_method_21_code 31 = .ok (.getfield 53, 3) := by decide +kernel
theorem d_GM_call_34 : decode prog_15_method_21_code 34 = .ok (.iload_n 1, 1) := by decide +kernel
theorem d_GM_call_35 : decode prog_15_method_21_code 35 = .ok (.iaload, 1) := by decide +kernel
theorem d_GM_call_36 : decode prog_15_method_21_code 36 = .ok (.i2l, 1) := by decide +kernel
theorem d_GM_call_37 : decode prog_15_method_21_code 37 = .ok (.bipush 20, 2) := by decide +kernel
theorem d_GM_call_39 : decode prog_15_method_21_code 39 = .ok (.lshl, 1) := by decide +kernel
theorem d_GM_call_40 : decode prog_15_method_21_code 40 = .ok (.aload_n 0, 1) := by decide +kernel
theorem d_GM_call_41 : decode prog_15_method_21_code 41 = .ok (.getfield 56, 3) := by decide +kernel
theorem d_GM_call_44 : decode prog_15_method_21_code 44 = .ok (.iload_n 1, 1) := by decide +kernel
theorem d_GM_call_45 : decode prog_15_method_21_code 45 = .ok (.iaload, 1) := by decide +kernel
theorem d_GM_call_46 : decode prog_15_method_21_code 46 = .ok (.i2l, 1) := by decide +kernel
theorem d_GM_call_47 : decode prog_15_method_21_code 47 = .ok (.lor, 1) := by decide +kernel
theorem d_GM_call_48 : decode prog_15_method_21_code 48 = .ok (.lastore, 1) := by decide +kernel
theorem d_GM_call_49 : decode prog_15_method_21_code 49 = .ok (.aload_n 0, 1) := by decide +kernel
theorem d_GM_call_50 : decode prog_15_method_21_code 50 = .ok (.dup, 1) := by decide +kernel
theorem d_GM_call_51 : decode prog_15_method_21_code 51 = .ok (.getfield 221, 3) := by decide +kernel
theorem d_GM_call_54 : decode prog_15_method_21_code 54 = .ok (.iconst 1, 1) := by decide +kernel
theorem d_GM_call_55 : decode prog_15_method_21_code 55 = .ok (.iadd, 1) := by decide +kernel
theorem d_GM_call_56 : decode prog_15_method_21_code 56 = .ok (.putfield 221, 3) := by decide +kernel
theorem d_GM_call_59 : decode prog_15_method_21_code 59 = .ok (.aload_n 0, 1) := by decide +kernel
theorem d_GM_call_60 : decode prog_15_method_21_code 60 = .ok (.getfield 181, 3) := by decide +kernel
theorem d_GM_call_63 : decode prog_15_method_21_code 63 = .ok (.ifCond .ne 83, 3) := by decide +kernel
theorem d_GM_call_146 : decode prog_15_method_21_code 146 = .ok (.aload_n 0, 1) := by decide +kernel
theorem d_GM_call_147 : decode prog_15_method_21_code 147 = .ok (.dup, 1) := by decide +kernel
theorem d_GM_call_148 : decode prog_15_method_21_code 148 = .ok (.getfield 221, 3) := by decide +kernel
theorem d_GM_call_151 : decode prog_15_method_21_code 151 = .ok (.iconst 1, 1) := by decide +kernel
theorem d_GM_call_152 : decode prog_15_method_21_code 152 = .ok (.isub, 1) := by decide +kernel
theorem d_GM_call_153 : decode prog_15_method_21_code 153 = .ok (.putfield 221, 3) := by decide +kernel
theorem d_GM_call_156 : decode prog_15_method_21_code 156 = .ok (.aload_n 0, 1) := by decide +kernel
theorem d_GM_call_157 : decode prog_15_method_21_code 157 = .ok (.bipush 41, 2) := by decide +kernel
theorem d_GM_call_159 : decode prog_15_method_21_code 159 = .ok (.invokevirtual 262, 3) := by decide +kernel
theorem d_GM_call_162 : decode prog_15_method_21_code 162 = .ok (.iload_n 2, 1) := by decide +kernel
theorem d_GM_call_163 : decode prog_15_method_21_code 163 = .ok (.ireturn, 1) := by decide +kernel
theorem d_GM_call_66 : decode prog_15_method_21_code 66 = .ok (.aload_n 0, 1) := by decide +kernel
theorem d_GM_call_67 : decode prog_15_method_21_code 67 = .ok (.iconst 0, 1) := by decide +kernel
theorem d_GM_call_68 : decode prog_15_method_21_code 68 = .ok (.invokevirtual 224, 3) := by decide +kernel
theorem d_GM_call_71 : decode prog_15_method_21_code 71 = .ok (.bipush 41, 2) := by decide +kernel
theorem d_GM_call_73 : decode prog_15_method_21_code 73 = .ok (.if_icmp .eq 73, 3) := by decide +kernel
theorem d_GM_call_76 : decode prog_15_method_21_code 76 = .ok (.aload_n 0, 1) := by decide +kernel
theorem d_GM_call_77 : decode prog_15_method_21_code 77 = .ok (.invokevirtual 266, 3) := by decide +kernel
theorem d_GM_call_80 : decode prog_15_method_21_code 80 = .ok (.istore_n 3, 1) := by decide +kernel
theorem d_GM_call_81 : decode prog_15_method_21_code 81 = .ok (.aload_n 0, 1) := by decide +kernel
theorem d_GM_call_82 : decode prog_15_method_21_code 82 = .ok (.getfield 18, 3) := by decide +kernel
theorem d_GM_call_85 : decode prog_15_method_21_code 85 = .ok (.iload_n 2, 1) := by decide +kernel
theorem d_GM_call_86 : decode prog_15_method_21_code 86 = .ok (.iload_n 3, 1) := by decide +kernel
theorem d_GM_call_87 : decode prog_15_method_21_code 87 = .ok (.iastore, 1) := by decide +kernel
theorem d_GM_call_88 : decode prog_15_method_21_code 88 = .ok (.aload_n 0, 1) := by decide +kernel
theorem d_GM_call_89 : decode prog_15_method_21_code 89 = .ok (.getfield 21, 3) := by decide +kernel
theorem d_GM_call_92 : decode prog_15_method_21_code 92 = .ok (.iload_n 2, 1) := by decide +kernel
theorem d_GM_call_93 : decode prog_15_method_21_code 93 = .ok (.iconst 1, 1) := by decide +kernel
theorem d_GM_call_94 : decode prog_15_method_21_code 94 = .ok (.iastore, 1) := by decide +kernel
theorem d_GM_call_95 : decode prog_15_method_21_code 95 = .ok (.aload_n 0, 1) := by decide +kernel
theorem d_GM_call_96 : decode prog_15_method_21_code 96 = .ok (.getfield 181, 3) := by decide +kernel
theorem d_GM_call_99 : decode prog_15_method_21_code 99 = .ok (.ifCond .ne 47, 3) := by decide +kernel
theorem d_GM_call_102 : decode prog_15_method_21_code 102 = .ok (.aload_n 0, 1) := by decide +kernel
theorem d_GM_call_103 : decode prog_15_method_21_code 103 = .ok (.iconst 0, 1) := by decide +kernel
theorem d_GM_call_104 : decode prog_15_method_21_code 104 = .ok (.invokevirtual 224, 3) := by decide +kernel
theorem d_GM_call_107 : decode prog_15_method_21_code 107 = .ok (.bipush 44, 2) := by decide +kernel
theorem d_GM_call_109 : decode prog_15_method_21_code 109 = .ok (.if_icmp .ne 37, 3) := by decide +kernel
theorem d_GM_call_112 : decode prog_15_method_21_code 112 = .ok (.aload_n 0, 1) := by decide +kernel
theorem d_GM_call_113 : decode prog_15_method_21_code 113 = .ok (.invokevirtual 228, 3) := by decide +kernel
theorem d_GM_call_116 : decode prog_15_method_21_code 116 = .ok (.aload_n 0, 1) := by decide +kernel
theorem d_GM_call_117 : decode prog_15_method_21_code 117 = .ok (.invokevirtual 266, 3) := by decide +kernel
theorem d_GM_call_120 : decode prog_15_method_21_code 120 = .ok (.istore 4, 2) := by decide +kernel
theorem d_GM_call_122 : decode prog_15_method_21_code 122 = .ok (.aload_n 0, 1) := by decide +kernel
theorem d_GM_call_123 : decode prog_15_method_21_code 123 = .ok (.getfield 24, 3) := by decide +kernel
theorem d_GM_call_126 : decode prog_15_method_21_code 126 = .ok (.iload_n 3, 1) := by decide +kernel
theorem d_GM_call_127 : decode prog_15_method_21_code 127 = .ok (.iload 4, 2) := by decide +kernel
theorem d_GM_call_129 : decode prog_15_method_21_code 129 = .ok (.iastore, 1) := by decide +kernel
theorem d_GM_call_130 : decode prog_15_method_21_code 130 = .ok (.iload 4, 2) := by decide +kernel
theorem d_GM_call_132 : decode prog_15_method_21_code 132 = .ok (.istore_n 3, 1) := by decide +kernel
theorem d_GM_call_133 : decode prog_15_method_21_code 133 = .ok (.aload_n 0, 1) := by decide +kernel
theorem d_GM_call_134 : decode prog_15_method_21_code 134 = .ok (.getfield 21, 3) := by decide +kernel
theorem d_GM_call_137 : decode prog_15_method_21_code 137 = .ok (.iload_n 2, 1) := by decide +kernel
theorem d_GM_call_138 : decode prog_15_method_21_code 138 = .ok (.dup2, 1) := by decide +kernel
theorem d_GM_call_139 : decode prog_15_method_21_code 139 = .ok (.iaload, 1) := by decide +kernel
theorem d_GM_call_140 : decode prog_15_method_21_code 140 = .ok (.iconst 1, 1) := by decide +kernel
theorem d_GM_call_141 : decode prog_15_method_21_code 141 = .ok (.iadd, 1) := by decide +kernel
theorem d_GM_call_142 : decode prog_15_method_21_code 142 = .ok (.iastore, 1) := by decide +kernel
theorem d_GM_call_143 : decode prog_15_method_21_code 143 = .ok (.goto (-48), 3) := by decide +kernel
set_option maxHeartbeats 4000000 in
theorem w_GM_call_0 {l : Launch} {G : gG} {d : Nat} {X : gX} {M : gM} {k : Int → gM → Prop} {o : Nat} (hX : gmX X o)  (T : g32 (M o 25) → (cV l G y_GM_pass (gRm d) true [gR G o] X M (fun M2 => (cV l G y_GM_need (gRm d) true [gR G o, gI 40] X M2 (fun M3 => (cI l G y_GM_node (gRm d) true [gR G o, gI 8, gI (-1), gI 0, gL 0] X M3 (fun v5 M4 => (((0 : Int) ≤ M o 25 ∧ M o 25 < 101) ∧ (g32 (M4 (o + 14) (Int.toNat (M o 25))) → (((0 : Int) ≤ M o 25 ∧ M o 25 < 101) ∧ (g32 (M4 (o + 15) (Int.toNat (M o 25))) → (((0 : Int) ≤ v5 ∧ v5 < 90000) ∧ (g32 ((gUp M4 (o + 6) (Int.toNat v5) (gLor (gLshl (M4 (o + 14) (Int.toNat (M o 25))) 20) (M4 (o + 15) (Int.toNat (M o 25))))) o 26) → ((0 ≤ (gUp (gUp M4 (o + 6) (Int.toNat v5) (gLor (gLshl (M4 (o + 14) (Int.toNat (M o 25))) 20) (M4 (o + 15) (Int.toNat (M o 25))))) o 26 (w32 (((gUp M4 (o + 6) (Int.toNat v5) (gLor (gLshl (M4 (o + 14) (Int.toNat (M o 25))) 20) (M4 (o + 15) (Int.toNat (M o 25))))) o 26) + 1))) o 27 ∧ (gUp (gUp M4 (o + 6) (Int.toNat v5) (gLor (gLshl (M4 (o + 14) (Int.toNat (M o 25))) 20) (M4 (o + 15) (Int.toNat (M o 25))))) o 26 (w32 (((gUp M4 (o + 6) (Int.toNat v5) (gLor (gLshl (M4 (o + 14) (Int.toNat (M o 25))) 20) (M4 (o + 15) (Int.toNat (M o 25))))) o 26) + 1))) o 27 ≤ 1) → ((¬ (gUp (gUp M4 (o + 6) (Int.toNat v5) (gLor (gLshl (M4 (o + 14) (Int.toNat (M o 25))) 20) (M4 (o + 15) (Int.toNat (M o 25))))) o 26 (w32 (((gUp M4 (o + 6) (Int.toNat v5) (gLor (gLshl (M4 (o + 14) (Int.toNat (M o 25))) 20) (M4 (o + 15) (Int.toNat (M o 25))))) o 26) + 1))) o 27 = 0 → (g32 ((gUp (gUp M4 (o + 6) (Int.toNat v5) (gLor (gLshl (M4 (o + 14) (Int.toNat (M o 25))) 20) (M4 (o + 15) (Int.toNat (M o 25))))) o 26 (w32 (((gUp M4 (o + 6) (Int.toNat v5) (gLor (gLshl (M4 (o + 14) (Int.toNat (M o 25))) 20) (M4 (o + 15) (Int.toNat (M o 25))))) o 26) + 1))) o 26) → (cV l G y_GM_need (gRm d) true [gR G o, gI 41] X (gUp (gUp (gUp M4 (o + 6) (Int.toNat v5) (gLor (gLshl (M4 (o + 14) (Int.toNat (M o 25))) 20) (M4 (o + 15) (Int.toNat (M o 25))))) o 26 (w32 (((gUp M4 (o + 6) (Int.toNat v5) (gLor (gLshl (M4 (o + 14) (Int.toNat (M o 25))) 20) (M4 (o + 15) (Int.toNat (M o 25))))) o 26) + 1))) o 26 (w32 (((gUp (gUp M4 (o + 6) (Int.toNat v5) (gLor (gLshl (M4 (o + 14) (Int.toNat (M o 25))) 20) (M4 (o + 15) (Int.toNat (M o 25))))) o 26 (w32 (((gUp M4 (o + 6) (Int.toNat v5) (gLor (gLshl (M4 (o + 14) (Int.toNat (M o 25))) 20) (M4 (o + 15) (Int.toNat (M o 25))))) o 26) + 1))) o 26) - 1))) (fun M12 => (k v5 M12))))) ∧ ((gUp (gUp M4 (o + 6) (Int.toNat v5) (gLor (gLshl (M4 (o + 14) (Int.toNat (M o 25))) 20) (M4 (o + 15) (Int.toNat (M o 25))))) o 26 (w32 (((gUp M4 (o + 6) (Int.toNat v5) (gLor (gLshl (M4 (o + 14) (Int.toNat (M o 25))) 20) (M4 (o + 15) (Int.toNat (M o 25))))) o 26) + 1))) o 27 = 0 → (cI l G y_GM_look (gRm d) false [gR G o, gI 0] X (gUp (gUp M4 (o + 6) (Int.toNat v5) (gLor (gLshl (M4 (o + 14) (Int.toNat (M o 25))) 20) (M4 (o + 15) (Int.toNat (M o 25))))) o 26 (w32 (((gUp M4 (o + 6) (Int.toNat v5) (gLor (gLshl (M4 (o + 14) (Int.toNat (M o 25))) 20) (M4 (o + 15) (Int.toNat (M o 25))))) o 26) + 1))) (fun v14 M13 => ((v14 = 41 → (g32 (M13 o 26) → (cV l G y_GM_need (gRm d) true [gR G o, gI 41] X (gUp M13 o 26 (w32 ((M13 o 26) - 1))) (fun M17 => (k v5 M17))))) ∧ (¬ v14 = 41 → (cI l G y_GM_argument (gRm d) true [gR G o] X M13 (fun v19 M18 => (((0 : Int) ≤ v5 ∧ v5 < 90000) ∧ (((0 : Int) ≤ v5 ∧ v5 < 90000) ∧ (wp l G y_GM_call (gRm (d + 1)) true (kkI X k) true 95 [.val (gR G o), .unset, .val (gI v5), .val (gI v19), .unset] [] X (gUp (gUp M18 (o + 3) (Int.toNat v5) v19) (o + 4) (Int.toNat v5) 1) 0 0))))))))))))))))))))))))) : wp l G y_GM_call (gRm (d + 1)) true (kkI X k) false 0 [.val (gR G o), .unset, .unset, .unset, .unset] [] X M 0 0 := by
  refine wp_aload_n d_GM_call_0 rfl rfl (g_nz hX.1) ?_
  refine xgetI d_GM_call_1 gc_GM f_GM_218.1 f_GM_218.2.1 f_GM_218.2.2.1 hX.1 (gm_o2 hX) hX.2.2.1 f_GM_218.2.2.2.2.1 (fun h1 => ?_)
  have T := T h1
  refine wp_istore_n (L' := [.val (gR G o), .val (gI (M o 25)), .unset, .unset, .unset]) d_GM_call_4 rfl (by decide) (gS1_R rfl rfl) ?_
  refine wp_aload_n d_GM_call_5 rfl rfl (g_nz hX.1) ?_
  refine xcV_V (md' := true) (As := []) (st := []) d_GM_call_6 ca_GM_pass ml_GM_228 im_GM_pass se_GM_pass gc_GM hX.1 (gm_o2 hX) hX.2.2.1 rfl (by decide) (by decide) rfl (fun _ => rfl) (fun _ => rfl) T (fun M2 T => ?_)
  refine wp_aload_n d_GM_call_9 rfl rfl (g_nz hX.1) ?_
  refine wp_bipush d_GM_call_10 ⟨by decide, by decide⟩ ?_
  refine xcV_V (md' := true) (As := [gI 40]) (st := []) d_GM_call_12 ca_GM_need ml_GM_262 im_GM_need se_GM_need gc_GM hX.1 (gm_o2 hX) hX.2.2.1 rfl (by decide) (by decide) rfl (fun _ => rfl) (fun _ => rfl) T (fun M3 T => ?_)
  refine wp_aload_n d_GM_call_15 rfl rfl (g_nz hX.1) ?_
  refine wp_bipush d_GM_call_16 ⟨by decide, by decide⟩ ?_
  refine wp_iconst d_GM_call_18 ?_
  refine wp_iconst d_GM_call_19 ?_
  refine wp_lconst0 d_GM_call_20 ?_
  refine xcV_I (md' := true) (As := [gI 8, gI (-1), gI 0, gL 0]) (st := []) d_GM_call_21 ca_GM_node ml_GM_243 im_GM_node se_GM_node gc_GM hX.1 (gm_o2 hX) hX.2.2.1 rfl (by decide) (by decide) rfl (fun _ => rfl) (fun _ => rfl) T (fun v5 M4 h6 T => ?_)
  refine wp_istore_n (L' := [.val (gR G o), .val (gI (M o 25)), .val (gI v5), .unset, .unset]) d_GM_call_24 rfl (by decide) rfl ?_
  refine wp_aload_n d_GM_call_25 rfl rfl (g_nz hX.1) ?_
  refine xgetR d_GM_call_26 gc_GM f_GM_27.1 f_GM_27.2.1 f_GM_27.2.2.1 hX.1 (gm_o2 hX) hX.2.2.1 f_GM_27.2.2.2.2.1 (gm_row hX 5 rfl).1 ?_
  refine wp_iload_n d_GM_call_29 rfl rfl ?_
  refine wp_aload_n d_GM_call_30 rfl rfl (g_nz hX.1) ?_
  refine xgetR d_GM_call_31 gc_GM f_GM_53.1 f_GM_53.2.1 f_GM_53.2.2.1 hX.1 (gm_o2 hX) hX.2.2.1 f_GM_53.2.2.2.2.1 (gm_row hX 13 rfl).1 ?_
  refine wp_iload_n d_GM_call_34 rfl rfl ?_
  refine wp_iaload d_GM_call_35 (gm_row hX 13 rfl).2.2.1 (gm_row hX 13 rfl).2.2.2 (gm_row hX 13 rfl).2.1 (g32_n T.1 (by decide)) T.1.1 T.1.2 (fun h7 => ?_)
  have T := T.2 h7
  refine xi2l d_GM_call_36 (w32_id h7) ?_
  refine wp_bipush d_GM_call_37 ⟨by decide, by decide⟩ ?_
  refine wp_lshl d_GM_call_39 ?_
  refine wp_aload_n d_GM_call_40 rfl rfl (g_nz hX.1) ?_
  refine xgetR d_GM_call_41 gc_GM f_GM_56.1 f_GM_56.2.1 f_GM_56.2.2.1 hX.1 (gm_o2 hX) hX.2.2.1 f_GM_56.2.2.2.2.1 (gm_row hX 14 rfl).1 ?_
  refine wp_iload_n d_GM_call_44 rfl rfl ?_
  refine wp_iaload d_GM_call_45 (gm_row hX 14 rfl).2.2.1 (gm_row hX 14 rfl).2.2.2 (gm_row hX 14 rfl).2.1 (g32_n T.1 (by decide)) T.1.1 T.1.2 (fun h8 => ?_)
  have T := T.2 h8
  refine xi2l d_GM_call_46 (w32_id h8) ?_
  refine wp_lor d_GM_call_47 ?_
  refine xlast d_GM_call_48 (gm_row hX 5 rfl).2.2.1 (gm_row hX 5 rfl).2.2.2 (gm_row hX 5 rfl).2.1 (by decide) T.1 (w64_id (gLor_ok _ _)) ?_
  have T := T.2
  refine wp_aload_n d_GM_call_49 rfl rfl (g_nz hX.1) ?_
  refine wp_dup d_GM_call_50 (gR_cat _) ?_
  refine xgetI d_GM_call_51 gc_GM f_GM_221.1 f_GM_221.2.1 f_GM_221.2.2.1 hX.1 (gm_o2 hX) hX.2.2.1 f_GM_221.2.2.2.2.1 (fun h9 => ?_)
  have T := T h9
  refine wp_iconst d_GM_call_54 ?_
  refine wp_iadd d_GM_call_55 ?_
  refine xputI d_GM_call_56 gc_GM f_GM_221.1 f_GM_221.2.1 f_GM_221.2.2.1 hX.1 (gm_o2 hX) hX.2.2.1 f_GM_221.2.2.2.1 f_GM_221.2.2.2.2.1 f_GM_221.2.2.2.2.2 rfl ?_
  refine wp_aload_n d_GM_call_59 rfl rfl (g_nz hX.1) ?_
  refine xgetZ d_GM_call_60 gc_GM f_GM_181.1 f_GM_181.2.1 f_GM_181.2.2.1 hX.1 (gm_o2 hX) hX.2.2.1 f_GM_181.2.2.2.2.1 (fun h10 => ?_)
  have T := T h10
  refine xz_ne (tgt := 146) d_GM_call_63 (by decide) (w32_id (g32_z h10)) (fun h22 => ?_) (fun h22 => ?_)
  · have T := T.1 h22
    refine wp_aload_n d_GM_call_146 rfl rfl (g_nz hX.1) ?_
    refine wp_dup d_GM_call_147 (gR_cat _) ?_
    refine xgetI d_GM_call_148 gc_GM f_GM_221.1 f_GM_221.2.1 f_GM_221.2.2.1 hX.1 (gm_o2 hX) hX.2.2.1 f_GM_221.2.2.2.2.1 (fun h11 => ?_)
    have T := T h11
    refine wp_iconst d_GM_call_151 ?_
    refine wp_isub d_GM_call_152 ?_
    refine xputI d_GM_call_153 gc_GM f_GM_221.1 f_GM_221.2.1 f_GM_221.2.2.1 hX.1 (gm_o2 hX) hX.2.2.1 f_GM_221.2.2.2.1 f_GM_221.2.2.2.2.1 f_GM_221.2.2.2.2.2 rfl ?_
    refine wp_aload_n d_GM_call_156 rfl rfl (g_nz hX.1) ?_
    refine wp_bipush d_GM_call_157 ⟨by decide, by decide⟩ ?_
    refine xcV_V (md' := true) (As := [gI 41]) (st := []) d_GM_call_159 ca_GM_need ml_GM_262 im_GM_need se_GM_need gc_GM hX.1 (gm_o2 hX) hX.2.2.1 rfl (by decide) (by decide) rfl (fun _ => rfl) (fun _ => rfl) T (fun M12 T => ?_)
    refine wp_iload_n d_GM_call_162 rfl rfl ?_
    exact wp_ireturn d_GM_call_163 rfl (fun _ => rfl) (Nat.zero_le _) (Nat.zero_le _) (kI_mk h6 T)
  · have T := T.2 h22
    refine wp_aload_n d_GM_call_66 rfl rfl (g_nz hX.1) ?_
    refine wp_iconst d_GM_call_67 ?_
    refine xcV_I (md' := true) (As := [gI 0]) (st := []) d_GM_call_68 ca_GM_look ml_GM_224 im_GM_look se_GM_look gc_GM hX.1 (gm_o2 hX) hX.2.2.1 rfl (by decide) (by decide) rfl (fun _ => rfl) (fun _ => rfl) T (fun v14 M13 h15 T => ?_)
    refine wp_bipush d_GM_call_71 ⟨by decide, by decide⟩ ?_
    refine xi_eq (tgt := 146) d_GM_call_73 (by decide) (w32_id h15) (w32_id (g32_c (x := 41) rfl)) (fun h21 => ?_) (fun h21 => ?_)
    · have T := T.1 h21
      refine wp_aload_n d_GM_call_146 rfl rfl (g_nz hX.1) ?_
      refine wp_dup d_GM_call_147 (gR_cat _) ?_
      refine xgetI d_GM_call_148 gc_GM f_GM_221.1 f_GM_221.2.1 f_GM_221.2.2.1 hX.1 (gm_o2 hX) hX.2.2.1 f_GM_221.2.2.2.2.1 (fun h16 => ?_)
      have T := T h16
      refine wp_iconst d_GM_call_151 ?_
      refine wp_isub d_GM_call_152 ?_
      refine xputI d_GM_call_153 gc_GM f_GM_221.1 f_GM_221.2.1 f_GM_221.2.2.1 hX.1 (gm_o2 hX) hX.2.2.1 f_GM_221.2.2.2.1 f_GM_221.2.2.2.2.1 f_GM_221.2.2.2.2.2 rfl ?_
      refine wp_aload_n d_GM_call_156 rfl rfl (g_nz hX.1) ?_
      refine wp_bipush d_GM_call_157 ⟨by decide, by decide⟩ ?_
      refine xcV_V (md' := true) (As := [gI 41]) (st := []) d_GM_call_159 ca_GM_need ml_GM_262 im_GM_need se_GM_need gc_GM hX.1 (gm_o2 hX) hX.2.2.1 rfl (by decide) (by decide) rfl (fun _ => rfl) (fun _ => rfl) T (fun M17 T => ?_)
      refine wp_iload_n d_GM_call_162 rfl rfl ?_
      exact wp_ireturn d_GM_call_163 rfl (fun _ => rfl) (Nat.zero_le _) (Nat.zero_le _) (kI_mk h6 T)
    · have T := T.2 h21
      refine wp_aload_n d_GM_call_76 rfl rfl (g_nz hX.1) ?_
      refine xcV_I (md' := true) (As := []) (st := []) d_GM_call_77 ca_GM_argument ml_GM_266 im_GM_argument se_GM_argument gc_GM hX.1 (gm_o2 hX) hX.2.2.1 rfl (by decide) (by decide) rfl (fun _ => rfl) (fun _ => rfl) T (fun v19 M18 h20 T => ?_)
      refine wp_istore_n (L' := [.val (gR G o), .val (gI (M o 25)), .val (gI v5), .val (gI v19), .unset]) d_GM_call_80 rfl (by decide) rfl ?_
      refine wp_aload_n d_GM_call_81 rfl rfl (g_nz hX.1) ?_
      refine xgetR d_GM_call_82 gc_GM f_GM_18.1 f_GM_18.2.1 f_GM_18.2.2.1 hX.1 (gm_o2 hX) hX.2.2.1 f_GM_18.2.2.2.2.1 (gm_row hX 2 rfl).1 ?_
      refine wp_iload_n d_GM_call_85 rfl rfl ?_
      refine wp_iload_n d_GM_call_86 rfl rfl ?_
      refine xiast d_GM_call_87 (gm_row hX 2 rfl).2.2.1 (gm_row hX 2 rfl).2.2.2 (gm_row hX 2 rfl).2.1 (by decide) T.1 (w32_id h20) ?_
      have T := T.2
      refine wp_aload_n d_GM_call_88 rfl rfl (g_nz hX.1) ?_
      refine xgetR d_GM_call_89 gc_GM f_GM_21.1 f_GM_21.2.1 f_GM_21.2.2.1 hX.1 (gm_o2 hX) hX.2.2.1 f_GM_21.2.2.2.2.1 (gm_row hX 3 rfl).1 ?_
      refine wp_iload_n d_GM_call_92 rfl rfl ?_
      refine wp_iconst d_GM_call_93 ?_
      refine xiast d_GM_call_94 (gm_row hX 3 rfl).2.2.1 (gm_row hX 3 rfl).2.2.2 (gm_row hX 3 rfl).2.1 (by decide) T.1 (w32_id (g32_c (x := 1) rfl)) ?_
      have T := T.2
      exact wp_md (wpt T (And.intro rfl (And.intro rfl (And.intro rfl True.intro))))
set_option maxHeartbeats 4000000 in
theorem w_GM_call_95 {l : Launch} {G : gG} {d : Nat} {X : gX} {M : gM} {k : Int → gM → Prop} {o : Nat} (hX : gmX X o) {x2 : Int} (hx2 : g32 x2) {x3 : Int} (hx3 : g32 x3) (T : (0 ≤ M o 27 ∧ M o 27 ≤ 1) → ((¬ M o 27 = 0 → (g32 (M o 26) → (cV l G y_GM_need (gRm d) true [gR G o, gI 41] X (gUp M o 26 (w32 ((M o 26) - 1))) (fun M25 => (k x2 M25))))) ∧ (M o 27 = 0 → (cI l G y_GM_look (gRm d) false [gR G o, gI 0] X M (fun v27 M26 => ((¬ v27 = 44 → (g32 (M26 o 26) → (cV l G y_GM_need (gRm d) true [gR G o, gI 41] X (gUp M26 o 26 (w32 ((M26 o 26) - 1))) (fun M30 => (k x2 M30))))) ∧ (v27 = 44 → (cV l G y_GM_pass (gRm d) true [gR G o] X M26 (fun M31 => (cI l G y_GM_argument (gRm d) true [gR G o] X M31 (fun v33 M32 => (((0 : Int) ≤ x3 ∧ x3 < 90000) ∧ (((0 : Int) ≤ x2 ∧ x2 < 90000) ∧ (g32 ((gUp M32 (o + 5) (Int.toNat x3) v33) (o + 4) (Int.toNat x2)) → (((0 : Int) ≤ x2 ∧ x2 < 90000) ∧ (wp l G y_GM_call (gRm (d + 1)) true (kkI X k) true 95 [.val (gR G o), .unset, .val (gI x2), .val (gI v33), .unset] [] X (gUp (gUp M32 (o + 5) (Int.toNat x3) v33) (o + 4) (Int.toNat x2) (w32 (((gUp M32 (o + 5) (Int.toNat x3) v33) (o + 4) (Int.toNat x2)) + 1))) 0 0)))))))))))))))) : wp l G y_GM_call (gRm (d + 1)) true (kkI X k) true 95 [.val (gR G o), .unset, .val (gI x2), .val (gI x3), .unset] [] X M 0 0 := by
  refine wp_aload_n d_GM_call_95 rfl rfl (g_nz hX.1) ?_
  refine xgetZ d_GM_call_96 gc_GM f_GM_181.1 f_GM_181.2.1 f_GM_181.2.2.1 hX.1 (gm_o2 hX) hX.2.2.1 f_GM_181.2.2.2.2.1 (fun h23 => ?_)
  have T := T h23
  refine xz_ne (tgt := 146) d_GM_call_99 (by decide) (w32_id (g32_z h23)) (fun h37 => ?_) (fun h37 => ?_)
  · have T := T.1 h37
    refine wp_aload_n d_GM_call_146 rfl rfl (g_nz hX.1) ?_
    refine wp_dup d_GM_call_147 (gR_cat _) ?_
    refine xgetI d_GM_call_148 gc_GM f_GM_221.1 f_GM_221.2.1 f_GM_221.2.2.1 hX.1 (gm_o2 hX) hX.2.2.1 f_GM_221.2.2.2.2.1 (fun h24 => ?_)
    have T := T h24
    refine wp_iconst d_GM_call_151 ?_
    refine wp_isub d_GM_call_152 ?_
    refine xputI d_GM_call_153 gc_GM f_GM_221.1 f_GM_221.2.1 f_GM_221.2.2.1 hX.1 (gm_o2 hX) hX.2.2.1 f_GM_221.2.2.2.1 f_GM_221.2.2.2.2.1 f_GM_221.2.2.2.2.2 rfl ?_
    refine wp_aload_n d_GM_call_156 rfl rfl (g_nz hX.1) ?_
    refine wp_bipush d_GM_call_157 ⟨by decide, by decide⟩ ?_
    refine xcV_V (md' := true) (As := [gI 41]) (st := []) d_GM_call_159 ca_GM_need ml_GM_262 im_GM_need se_GM_need gc_GM hX.1 (gm_o2 hX) hX.2.2.1 rfl (by decide) (by decide) rfl (fun _ => rfl) (fun _ => rfl) T (fun M25 T => ?_)
    refine wp_iload_n d_GM_call_162 rfl rfl ?_
    exact wp_ireturn d_GM_call_163 rfl (fun _ => rfl) (Nat.zero_le _) (Nat.zero_le _) (kI_mk hx2 T)
  · have T := T.2 h37
    refine wp_aload_n d_GM_call_102 rfl rfl (g_nz hX.1) ?_
    refine wp_iconst d_GM_call_103 ?_
    refine xcV_I (md' := true) (As := [gI 0]) (st := []) d_GM_call_104 ca_GM_look ml_GM_224 im_GM_look se_GM_look gc_GM hX.1 (gm_o2 hX) hX.2.2.1 rfl (by decide) (by decide) rfl (fun _ => rfl) (fun _ => rfl) T (fun v27 M26 h28 T => ?_)
    refine wp_bipush d_GM_call_107 ⟨by decide, by decide⟩ ?_
    refine xi_ne (tgt := 146) d_GM_call_109 (by decide) (w32_id h28) (w32_id (g32_c (x := 44) rfl)) (fun h36 => ?_) (fun h36 => ?_)
    · have T := T.1 h36
      refine wp_aload_n d_GM_call_146 rfl rfl (g_nz hX.1) ?_
      refine wp_dup d_GM_call_147 (gR_cat _) ?_
      refine xgetI d_GM_call_148 gc_GM f_GM_221.1 f_GM_221.2.1 f_GM_221.2.2.1 hX.1 (gm_o2 hX) hX.2.2.1 f_GM_221.2.2.2.2.1 (fun h29 => ?_)
      have T := T h29
      refine wp_iconst d_GM_call_151 ?_
      refine wp_isub d_GM_call_152 ?_
      refine xputI d_GM_call_153 gc_GM f_GM_221.1 f_GM_221.2.1 f_GM_221.2.2.1 hX.1 (gm_o2 hX) hX.2.2.1 f_GM_221.2.2.2.1 f_GM_221.2.2.2.2.1 f_GM_221.2.2.2.2.2 rfl ?_
      refine wp_aload_n d_GM_call_156 rfl rfl (g_nz hX.1) ?_
      refine wp_bipush d_GM_call_157 ⟨by decide, by decide⟩ ?_
      refine xcV_V (md' := true) (As := [gI 41]) (st := []) d_GM_call_159 ca_GM_need ml_GM_262 im_GM_need se_GM_need gc_GM hX.1 (gm_o2 hX) hX.2.2.1 rfl (by decide) (by decide) rfl (fun _ => rfl) (fun _ => rfl) T (fun M30 T => ?_)
      refine wp_iload_n d_GM_call_162 rfl rfl ?_
      exact wp_ireturn d_GM_call_163 rfl (fun _ => rfl) (Nat.zero_le _) (Nat.zero_le _) (kI_mk hx2 T)
    · have T := T.2 h36
      refine wp_aload_n d_GM_call_112 rfl rfl (g_nz hX.1) ?_
      refine xcV_V (md' := true) (As := []) (st := []) d_GM_call_113 ca_GM_pass ml_GM_228 im_GM_pass se_GM_pass gc_GM hX.1 (gm_o2 hX) hX.2.2.1 rfl (by decide) (by decide) rfl (fun _ => rfl) (fun _ => rfl) T (fun M31 T => ?_)
      refine wp_aload_n d_GM_call_116 rfl rfl (g_nz hX.1) ?_
      refine xcV_I (md' := true) (As := []) (st := []) d_GM_call_117 ca_GM_argument ml_GM_266 im_GM_argument se_GM_argument gc_GM hX.1 (gm_o2 hX) hX.2.2.1 rfl (by decide) (by decide) rfl (fun _ => rfl) (fun _ => rfl) T (fun v33 M32 h34 T => ?_)
      refine wp_istore (L' := [.val (gR G o), .unset, .val (gI x2), .val (gI x3), .val (gI v33)]) d_GM_call_120 (by decide) rfl ?_
      refine wp_aload_n d_GM_call_122 rfl rfl (g_nz hX.1) ?_
      refine xgetR d_GM_call_123 gc_GM f_GM_24.1 f_GM_24.2.1 f_GM_24.2.2.1 hX.1 (gm_o2 hX) hX.2.2.1 f_GM_24.2.2.2.2.1 (gm_row hX 4 rfl).1 ?_
      refine wp_iload_n d_GM_call_126 rfl rfl ?_
      refine wp_iload d_GM_call_127 rfl ?_
      refine xiast d_GM_call_129 (gm_row hX 4 rfl).2.2.1 (gm_row hX 4 rfl).2.2.2 (gm_row hX 4 rfl).2.1 (by decide) T.1 (w32_id h34) ?_
      have T := T.2
      refine wp_iload d_GM_call_130 rfl ?_
      refine wp_istore_n (L' := [.val (gR G o), .unset, .val (gI x2), .val (gI v33), .val (gI v33)]) d_GM_call_132 rfl (by decide) rfl ?_
      refine wp_aload_n d_GM_call_133 rfl rfl (g_nz hX.1) ?_
      refine xgetR d_GM_call_134 gc_GM f_GM_21.1 f_GM_21.2.1 f_GM_21.2.2.1 hX.1 (gm_o2 hX) hX.2.2.1 f_GM_21.2.2.2.2.1 (gm_row hX 3 rfl).1 ?_
      refine wp_iload_n d_GM_call_137 rfl rfl ?_
      refine wp_dup2 d_GM_call_138 (gI_cat _) (gR_cat _) ?_
      refine wp_iaload d_GM_call_139 (gm_row hX 3 rfl).2.2.1 (gm_row hX 3 rfl).2.2.2 (gm_row hX 3 rfl).2.1 (g32_n T.1 (by decide)) T.1.1 T.1.2 (fun h35 => ?_)
      have T := T.2 h35
      refine wp_iconst d_GM_call_140 ?_
      refine wp_iadd d_GM_call_141 ?_
      refine xiast d_GM_call_142 (gm_row hX 3 rfl).2.2.1 (gm_row hX 3 rfl).2.2.2 (gm_row hX 3 rfl).2.1 (by decide) T.1 rfl ?_
      have T := T.2
      refine wp_goto (tgt := 95) d_GM_call_143 (by decide) ?_
      exact wp_md (wpt T (And.intro rfl (And.intro rfl (And.intro rfl True.intro))))
theorem e_GM_call {l : Launch} {G : gG} {d : Nat} {X : gX} {M : gM} {k : Int → gM → Prop} {o : Nat} (T : wp l G y_GM_call (gRm (d + 1)) true (kkI X k) false 0 [.val (gR G o), .unset, .unset, .unset, .unset] [] X M 0 0) : cI l G y_GM_call (gRm (d + 1)) true [gR G o] X M k := cen_I (plainFor_of_name rfl) (by simp only [lg_sl_R, lg_sl_I, lg_sl_L, lg_sl_N, List.length_cons, List.length_nil]; decide) (by unfold gEn; simp only [lg_sl_R, lg_sl_I, lg_sl_L, lg_sl_N]; exact wpt T (And.intro rfl True.intro))
theorem d_GM_argument_0 : decode prog_15_method_22_code 0 = .ok (.aload_n 0, 1) := by decide +kernel
theorem d_GM_argument_1 : decode prog_15_method_22_code 1 = .ok (.iconst 0, 1) := by decide +kernel
theorem d_GM_argument_2 : decode prog_15_method_22_code 2 = .ok (.invokevirtual 224, 3) := by decide +kernel
theorem d_GM_argument_5 : decode prog_15_method_22_code 5 = .ok (.iconst 3, 1) := by decide +kernel
theorem d_GM_argument_6 : decode prog_15_method_22_code 6 = .ok (.if_icmp .ne 69, 3) := by decide +kernel
theorem d_GM_argument_75 : decode prog_15_method_22_code 75 = .ok (.aload_n 0, 1) := by decide +kernel
theorem d_GM_argument_76 : decode prog_15_method_22_code 76 = .ok (.iconst 0, 1) := by decide +kernel
theorem d_GM_argument_77 : decode prog_15_method_22_code 77 = .ok (.invokevirtual 240, 3) := by decide +kernel
theorem d_GM_argument_80 : decode prog_15_method_22_code 80 = .ok (.istore_n 1, 1) := by decide +kernel
theorem d_GM_argument_81 : decode prog_15_method_22_code 81 = .ok (.aload_n 0, 1) := by decide +kernel
theorem d_GM_argument_82 : decode prog_15_method_22_code 82 = .ok (.getfield 181, 3) := by decide +kernel
theorem d_GM_argument_85 : decode prog_15_method_22_code 85 = .ok (.ifCond .eq 7, 3) := by decide +kernel
theorem d_GM_argument_92 : decode prog_15_method_22_code 92 = .ok (.iload_n 1, 1) := by decide +kernel
theorem d_GM_argument_93 : decode prog_15_method_22_code 93 = .ok (.ireturn, 1) := by decide +kernel
theorem d_GM_argument_88 : decode prog_15_method_22_code 88 = .ok (.iconst 0, 1) := by decide +kernel
theorem d_GM_argument_89 : decode prog_15_method_22_code 89 = .ok (.goto 4, 3) := by decide +kernel
theorem d_GM_argument_9 : decode prog_15_method_22_code 9 = .ok (.aload_n 0, 1) := by decide +kernel
theorem d_GM_argument_10 : decode prog_15_method_22_code 10 = .ok (.iconst 1, 1) := by decide +kernel
theorem d_GM_argument_11 : decode prog_15_method_22_code 11 = .ok (.invokevirtual 224, 3) := by decide +kernel
theorem d_GM_argument_14 : decode prog_15_method_22_code 14 = .ok (.bipush 58, 2) := by decide +kernel
theorem d_GM_argument_16 : decode prog_15_method_22_code 16 = .ok (.if_icmp .ne 59, 3) := by decide +kernel
theorem d_GM_argument_19 : decode prog_15_method_22_code 19 = .ok (.aload_n 0, 1) := by decide +kernel
theorem d_GM_argument_20 : decode prog_15_method_22_code 20 = .ok (.iconst 2, 1) := by decide +kernel
theorem d_GM_argument_21 : decode prog_15_method_22_code 21 = .ok (.invokevirtual 224, 3) := by decide +kernel
theorem d_GM_argument_24 : decode prog_15_method_22_code 24 = .ok (.iconst 3, 1) := by decide +kernel
theorem d_GM_argument_25 : decode prog_15_method_22_code 25 = .ok (.if_icmp .ne 50, 3) := by decide +kernel
theorem d_GM_argument_28 : decode prog_15_method_22_code 28 = .ok (.aload_n 0, 1) := by decide +kernel
theorem d_GM_argument_29 : decode prog_15_method_22_code 29 = .ok (.iconst 3, 1) := by decide +kernel
theorem d_GM_argument_30 : decode prog_15_method_22_code 30 = .ok (.invokevirtual 224, 3) := by decide +kernel
theorem d_GM_argument_33 : decode prog_15_method_22_code 33 = .ok (.bipush 44, 2) := by decide +kernel
theorem d_GM_argument_35 : decode prog_15_method_22_code 35 = .ok (.if_icmp .eq 13, 3) := by decide +kernel
theorem d_GM_argument_48 : decode prog_15_method_22_code 48 = .ok (.aload_n 0, 1) := by decide +kernel
theorem d_GM_argument_49 : decode prog_15_method_22_code 49 = .ok (.iconst 1, 1) := by decide +kernel
theorem d_GM_argument_50 : decode prog_15_method_22_code 50 = .ok (.invokevirtual 256, 3) := by decide +kernel
theorem d_GM_argument_53 : decode prog_15_method_22_code 53 = .ok (.istore_n 1, 1) := by decide +kernel
theorem d_GM_argument_54 : decode prog_15_method_22_code 54 = .ok (.aload_n 0, 1) := by decide +kernel
theorem d_GM_argument_55 : decode prog_15_method_22_code 55 = .ok (.bipush 58, 2) := by decide +kernel
theorem d_GM_argument_57 : decode prog_15_method_22_code 57 = .ok (.invokevirtual 262, 3) := by decide +kernel
theorem d_GM_argument_60 : decode prog_15_method_22_code 60 = .ok (.aload_n 0, 1) := by decide +kernel
theorem d_GM_argument_61 : decode prog_15_method_22_code 61 = .ok (.iconst 2, 1) := by decide +kernel
theorem d_GM_argument_62 : decode prog_15_method_22_code 62 = .ok (.invokevirtual 256, 3) := by decide +kernel
theorem d_GM_argument_65 : decode prog_15_method_22_code 65 = .ok (.pop, 1) := by decide +kernel
theorem d_GM_argument_66 : decode prog_15_method_22_code 66 = .ok (.aload_n 0, 1) := by decide +kernel
theorem d_GM_argument_67 : decode prog_15_method_22_code 67 = .ok (.iconst 3, 1) := by decide +kernel
theorem d_GM_argument_68 : decode prog_15_method_22_code 68 = .ok (.iload_n 1, 1) := by decide +kernel
theorem d_GM_argument_69 : decode prog_15_method_22_code 69 = .ok (.iconst 0, 1) := by decide +kernel
theorem d_GM_argument_70 : decode prog_15_method_22_code 70 = .ok (.lconst 0, 1) := by decide +kernel
theorem d_GM_argument_71 : decode prog_15_method_22_code 71 = .ok (.invokevirtual 243, 3) := by decide +kernel
theorem d_GM_argument_74 : decode prog_15_method_22_code 74 = .ok (.ireturn, 1) := by decide +kernel
theorem d_GM_argument_38 : decode prog_15_method_22_code 38 = .ok (.aload_n 0, 1) := by decide +kernel
theorem d_GM_argument_39 : decode prog_15_method_22_code 39 = .ok (.iconst 3, 1) := by decide +kernel
theorem d_GM_argument_40 : decode prog_15_method_22_code 40 = .ok (.invokevirtual 224, 3) := by decide +kernel
theorem d_GM_argument_43 : decode prog_15_method_22_code 43 = .ok (.bipush 41, 2) := by decide +kernel
theorem d_GM_argument_45 : decode prog_15_method_22_code 45 = .ok (.if_icmp .ne 30, 3) := by decide +kernel
set_option maxHeartbeats 4000000 in
theorem w_GM_argument_0 {l : Launch} {G : gG} {d : Nat} {X : gX} {M : gM} {k : Int → gM → Prop} {o : Nat} (hX : gmX X o)  (T : cI l G y_GM_look (gRm d) false [gR G o, gI 0] X M (fun v2 M1 => ((¬ v2 = 3 → (cI l G y_GM_expr (gRm d) true [gR G o, gI 0] X M1 (fun v5 M4 => ((0 ≤ M4 o 27 ∧ M4 o 27 ≤ 1) → ((M4 o 27 = 0 → (k v5 M4)) ∧ (¬ M4 o 27 = 0 → (k 0 M4))))))) ∧ (v2 = 3 → (cI l G y_GM_look (gRm d) false [gR G o, gI 1] X M1 (fun v10 M9 => ((¬ v10 = 58 → (cI l G y_GM_expr (gRm d) true [gR G o, gI 0] X M9 (fun v13 M12 => ((0 ≤ M12 o 27 ∧ M12 o 27 ≤ 1) → ((M12 o 27 = 0 → (k v13 M12)) ∧ (¬ M12 o 27 = 0 → (k 0 M12))))))) ∧ (v10 = 58 → (cI l G y_GM_look (gRm d) false [gR G o, gI 2] X M9 (fun v18 M17 => ((¬ v18 = 3 → (cI l G y_GM_expr (gRm d) true [gR G o, gI 0] X M17 (fun v21 M20 => ((0 ≤ M20 o 27 ∧ M20 o 27 ≤ 1) → ((M20 o 27 = 0 → (k v21 M20)) ∧ (¬ M20 o 27 = 0 → (k 0 M20))))))) ∧ (v18 = 3 → (cI l G y_GM_look (gRm d) false [gR G o, gI 3] X M17 (fun v26 M25 => ((v26 = 44 → (cI l G y_GM_ref (gRm d) true [gR G o, gI 1] X M25 (fun v29 M28 => (cV l G y_GM_need (gRm d) true [gR G o, gI 58] X M28 (fun M31 => (cI l G y_GM_ref (gRm d) true [gR G o, gI 2] X M31 (fun v33 M32 => (cI l G y_GM_node (gRm d) true [gR G o, gI 3, gI v29, gI 0, gL 0] X M32 (fun v36 M35 => (k v36 M35)))))))))) ∧ (¬ v26 = 44 → (cI l G y_GM_look (gRm d) false [gR G o, gI 3] X M25 (fun v39 M38 => ((¬ v39 = 41 → (cI l G y_GM_expr (gRm d) true [gR G o, gI 0] X M38 (fun v42 M41 => ((0 ≤ M41 o 27 ∧ M41 o 27 ≤ 1) → ((M41 o 27 = 0 → (k v42 M41)) ∧ (¬ M41 o 27 = 0 → (k 0 M41))))))) ∧ (v39 = 41 → (cI l G y_GM_ref (gRm d) true [gR G o, gI 1] X M38 (fun v47 M46 => (cV l G y_GM_need (gRm d) true [gR G o, gI 58] X M46 (fun M49 => (cI l G y_GM_ref (gRm d) true [gR G o, gI 2] X M49 (fun v51 M50 => (cI l G y_GM_node (gRm d) true [gR G o, gI 3, gI v47, gI 0, gL 0] X M50 (fun v54 M53 => (k v54 M53))))))))))))))))))))))))))))) : wp l G y_GM_argument (gRm (d + 1)) true (kkI X k) false 0 [.val (gR G o), .unset] [] X M 0 0 := by
  refine wp_aload_n d_GM_argument_0 rfl rfl (g_nz hX.1) ?_
  refine wp_iconst d_GM_argument_1 ?_
  refine xcV_I (md' := false) (As := [gI 0]) (st := []) d_GM_argument_2 ca_GM_look ml_GM_224 im_GM_look se_GM_look gc_GM hX.1 (gm_o2 hX) hX.2.2.1 rfl (by decide) (by decide) rfl id id T (fun v2 M1 h3 T => ?_)
  refine wp_iconst d_GM_argument_5 ?_
  refine xi_ne (tgt := 75) d_GM_argument_6 (by decide) (w32_id h3) (w32_id (g32_c (x := 3) rfl)) (fun h60 => ?_) (fun h60 => ?_)
  · have T := T.1 h60
    refine wp_aload_n d_GM_argument_75 rfl rfl (g_nz hX.1) ?_
    refine wp_iconst d_GM_argument_76 ?_
    refine xcV_I (md' := true) (As := [gI 0]) (st := []) d_GM_argument_77 ca_GM_expr ml_GM_240 im_GM_expr se_GM_expr gc_GM hX.1 (gm_o2 hX) hX.2.2.1 rfl (by decide) (by decide) rfl (fun _ => rfl) (fun _ => rfl) T (fun v5 M4 h6 T => ?_)
    refine wp_istore_n (L' := [.val (gR G o), .val (gI v5)]) d_GM_argument_80 rfl (by decide) (gS1_R rfl rfl) ?_
    refine wp_aload_n d_GM_argument_81 rfl rfl (g_nz hX.1) ?_
    refine xgetZ d_GM_argument_82 gc_GM f_GM_181.1 f_GM_181.2.1 f_GM_181.2.2.1 hX.1 (gm_o2 hX) hX.2.2.1 f_GM_181.2.2.2.2.1 (fun h7 => ?_)
    have T := T h7
    refine xz_eq (tgt := 92) d_GM_argument_85 (by decide) (w32_id (g32_z h7)) (fun h8 => ?_) (fun h8 => ?_)
    · have T := T.1 h8
      refine wp_iload_n d_GM_argument_92 rfl rfl ?_
      exact wp_ireturn d_GM_argument_93 rfl (fun _ => rfl) (Nat.zero_le _) (Nat.zero_le _) (kI_mk h6 T)
    · have T := T.2 h8
      refine wp_iconst d_GM_argument_88 ?_
      refine wp_goto (tgt := 93) d_GM_argument_89 (by decide) ?_
      exact wp_ireturn d_GM_argument_93 rfl (fun _ => rfl) (Nat.zero_le _) (Nat.zero_le _) (kI_mk (g32_c (x := 0) rfl) T)
  · have T := T.2 h60
    refine wp_aload_n d_GM_argument_9 rfl rfl (g_nz hX.1) ?_
    refine wp_iconst d_GM_argument_10 ?_
    refine xcV_I (md' := false) (As := [gI 1]) (st := []) d_GM_argument_11 ca_GM_look ml_GM_224 im_GM_look se_GM_look gc_GM hX.1 (gm_o2 hX) hX.2.2.1 rfl (by decide) (by decide) rfl id id T (fun v10 M9 h11 T => ?_)
    refine wp_bipush d_GM_argument_14 ⟨by decide, by decide⟩ ?_
    refine xi_ne (tgt := 75) d_GM_argument_16 (by decide) (w32_id h11) (w32_id (g32_c (x := 58) rfl)) (fun h59 => ?_) (fun h59 => ?_)
    · have T := T.1 h59
      refine wp_aload_n d_GM_argument_75 rfl rfl (g_nz hX.1) ?_
      refine wp_iconst d_GM_argument_76 ?_
      refine xcV_I (md' := true) (As := [gI 0]) (st := []) d_GM_argument_77 ca_GM_expr ml_GM_240 im_GM_expr se_GM_expr gc_GM hX.1 (gm_o2 hX) hX.2.2.1 rfl (by decide) (by decide) rfl (fun _ => rfl) (fun _ => rfl) T (fun v13 M12 h14 T => ?_)
      refine wp_istore_n (L' := [.val (gR G o), .val (gI v13)]) d_GM_argument_80 rfl (by decide) (gS1_R rfl rfl) ?_
      refine wp_aload_n d_GM_argument_81 rfl rfl (g_nz hX.1) ?_
      refine xgetZ d_GM_argument_82 gc_GM f_GM_181.1 f_GM_181.2.1 f_GM_181.2.2.1 hX.1 (gm_o2 hX) hX.2.2.1 f_GM_181.2.2.2.2.1 (fun h15 => ?_)
      have T := T h15
      refine xz_eq (tgt := 92) d_GM_argument_85 (by decide) (w32_id (g32_z h15)) (fun h16 => ?_) (fun h16 => ?_)
      · have T := T.1 h16
        refine wp_iload_n d_GM_argument_92 rfl rfl ?_
        exact wp_ireturn d_GM_argument_93 rfl (fun _ => rfl) (Nat.zero_le _) (Nat.zero_le _) (kI_mk h14 T)
      · have T := T.2 h16
        refine wp_iconst d_GM_argument_88 ?_
        refine wp_goto (tgt := 93) d_GM_argument_89 (by decide) ?_
        exact wp_ireturn d_GM_argument_93 rfl (fun _ => rfl) (Nat.zero_le _) (Nat.zero_le _) (kI_mk (g32_c (x := 0) rfl) T)
    · have T := T.2 h59
      refine wp_aload_n d_GM_argument_19 rfl rfl (g_nz hX.1) ?_
      refine wp_iconst d_GM_argument_20 ?_
      refine xcV_I (md' := false) (As := [gI 2]) (st := []) d_GM_argument_21 ca_GM_look ml_GM_224 im_GM_look se_GM_look gc_GM hX.1 (gm_o2 hX) hX.2.2.1 rfl (by decide) (by decide) rfl id id T (fun v18 M17 h19 T => ?_)
      refine wp_iconst d_GM_argument_24 ?_
      refine xi_ne (tgt := 75) d_GM_argument_25 (by decide) (w32_id h19) (w32_id (g32_c (x := 3) rfl)) (fun h58 => ?_) (fun h58 => ?_)
      · have T := T.1 h58
        refine wp_aload_n d_GM_argument_75 rfl rfl (g_nz hX.1) ?_
        refine wp_iconst d_GM_argument_76 ?_
        refine xcV_I (md' := true) (As := [gI 0]) (st := []) d_GM_argument_77 ca_GM_expr ml_GM_240 im_GM_expr se_GM_expr gc_GM hX.1 (gm_o2 hX) hX.2.2.1 rfl (by decide) (by decide) rfl (fun _ => rfl) (fun _ => rfl) T (fun v21 M20 h22 T => ?_)
        refine wp_istore_n (L' := [.val (gR G o), .val (gI v21)]) d_GM_argument_80 rfl (by decide) (gS1_R rfl rfl) ?_
        refine wp_aload_n d_GM_argument_81 rfl rfl (g_nz hX.1) ?_
        refine xgetZ d_GM_argument_82 gc_GM f_GM_181.1 f_GM_181.2.1 f_GM_181.2.2.1 hX.1 (gm_o2 hX) hX.2.2.1 f_GM_181.2.2.2.2.1 (fun h23 => ?_)
        have T := T h23
        refine xz_eq (tgt := 92) d_GM_argument_85 (by decide) (w32_id (g32_z h23)) (fun h24 => ?_) (fun h24 => ?_)
        · have T := T.1 h24
          refine wp_iload_n d_GM_argument_92 rfl rfl ?_
          exact wp_ireturn d_GM_argument_93 rfl (fun _ => rfl) (Nat.zero_le _) (Nat.zero_le _) (kI_mk h22 T)
        · have T := T.2 h24
          refine wp_iconst d_GM_argument_88 ?_
          refine wp_goto (tgt := 93) d_GM_argument_89 (by decide) ?_
          exact wp_ireturn d_GM_argument_93 rfl (fun _ => rfl) (Nat.zero_le _) (Nat.zero_le _) (kI_mk (g32_c (x := 0) rfl) T)
      · have T := T.2 h58
        refine wp_aload_n d_GM_argument_28 rfl rfl (g_nz hX.1) ?_
        refine wp_iconst d_GM_argument_29 ?_
        refine xcV_I (md' := false) (As := [gI 3]) (st := []) d_GM_argument_30 ca_GM_look ml_GM_224 im_GM_look se_GM_look gc_GM hX.1 (gm_o2 hX) hX.2.2.1 rfl (by decide) (by decide) rfl id id T (fun v26 M25 h27 T => ?_)
        refine wp_bipush d_GM_argument_33 ⟨by decide, by decide⟩ ?_
        refine xi_eq (tgt := 48) d_GM_argument_35 (by decide) (w32_id h27) (w32_id (g32_c (x := 44) rfl)) (fun h57 => ?_) (fun h57 => ?_)
        · have T := T.1 h57
          refine wp_aload_n d_GM_argument_48 rfl rfl (g_nz hX.1) ?_
          refine wp_iconst d_GM_argument_49 ?_
          refine xcV_I (md' := true) (As := [gI 1]) (st := []) d_GM_argument_50 ca_GM_ref ml_GM_256 im_GM_ref se_GM_ref gc_GM hX.1 (gm_o2 hX) hX.2.2.1 rfl (by decide) (by decide) rfl (fun _ => rfl) (fun _ => rfl) T (fun v29 M28 h30 T => ?_)
          refine wp_istore_n (L' := [.val (gR G o), .val (gI v29)]) d_GM_argument_53 rfl (by decide) (gS1_R rfl rfl) ?_
          refine wp_aload_n d_GM_argument_54 rfl rfl (g_nz hX.1) ?_
          refine wp_bipush d_GM_argument_55 ⟨by decide, by decide⟩ ?_
          refine xcV_V (md' := true) (As := [gI 58]) (st := []) d_GM_argument_57 ca_GM_need ml_GM_262 im_GM_need se_GM_need gc_GM hX.1 (gm_o2 hX) hX.2.2.1 rfl (by decide) (by decide) rfl (fun _ => rfl) (fun _ => rfl) T (fun M31 T => ?_)
          refine wp_aload_n d_GM_argument_60 rfl rfl (g_nz hX.1) ?_
          refine wp_iconst d_GM_argument_61 ?_
          refine xcV_I (md' := true) (As := [gI 2]) (st := []) d_GM_argument_62 ca_GM_ref ml_GM_256 im_GM_ref se_GM_ref gc_GM hX.1 (gm_o2 hX) hX.2.2.1 rfl (by decide) (by decide) rfl (fun _ => rfl) (fun _ => rfl) T (fun v33 M32 h34 T => ?_)
          refine wp_pop d_GM_argument_65 (gI_cat _) ?_
          refine wp_aload_n d_GM_argument_66 rfl rfl (g_nz hX.1) ?_
          refine wp_iconst d_GM_argument_67 ?_
          refine wp_iload_n d_GM_argument_68 rfl rfl ?_
          refine wp_iconst d_GM_argument_69 ?_
          refine wp_lconst0 d_GM_argument_70 ?_
          refine xcV_I (md' := true) (As := [gI 3, gI v29, gI 0, gL 0]) (st := []) d_GM_argument_71 ca_GM_node ml_GM_243 im_GM_node se_GM_node gc_GM hX.1 (gm_o2 hX) hX.2.2.1 rfl (by decide) (by decide) rfl (fun _ => rfl) (fun _ => rfl) T (fun v36 M35 h37 T => ?_)
          exact wp_ireturn d_GM_argument_74 rfl (fun _ => rfl) (Nat.zero_le _) (Nat.zero_le _) (kI_mk h37 T)
        · have T := T.2 h57
          refine wp_aload_n d_GM_argument_38 rfl rfl (g_nz hX.1) ?_
          refine wp_iconst d_GM_argument_39 ?_
          refine xcV_I (md' := false) (As := [gI 3]) (st := []) d_GM_argument_40 ca_GM_look ml_GM_224 im_GM_look se_GM_look gc_GM hX.1 (gm_o2 hX) hX.2.2.1 rfl (by decide) (by decide) rfl id id T (fun v39 M38 h40 T => ?_)
          refine wp_bipush d_GM_argument_43 ⟨by decide, by decide⟩ ?_
          refine xi_ne (tgt := 75) d_GM_argument_45 (by decide) (w32_id h40) (w32_id (g32_c (x := 41) rfl)) (fun h56 => ?_) (fun h56 => ?_)
          · have T := T.1 h56
            refine wp_aload_n d_GM_argument_75 rfl rfl (g_nz hX.1) ?_
            refine wp_iconst d_GM_argument_76 ?_
            refine xcV_I (md' := true) (As := [gI 0]) (st := []) d_GM_argument_77 ca_GM_expr ml_GM_240 im_GM_expr se_GM_expr gc_GM hX.1 (gm_o2 hX) hX.2.2.1 rfl (by decide) (by decide) rfl (fun _ => rfl) (fun _ => rfl) T (fun v42 M41 h43 T => ?_)
            refine wp_istore_n (L' := [.val (gR G o), .val (gI v42)]) d_GM_argument_80 rfl (by decide) (gS1_R rfl rfl) ?_
            refine wp_aload_n d_GM_argument_81 rfl rfl (g_nz hX.1) ?_
            refine xgetZ d_GM_argument_82 gc_GM f_GM_181.1 f_GM_181.2.1 f_GM_181.2.2.1 hX.1 (gm_o2 hX) hX.2.2.1 f_GM_181.2.2.2.2.1 (fun h44 => ?_)
            have T := T h44
            refine xz_eq (tgt := 92) d_GM_argument_85 (by decide) (w32_id (g32_z h44)) (fun h45 => ?_) (fun h45 => ?_)
            · have T := T.1 h45
              refine wp_iload_n d_GM_argument_92 rfl rfl ?_
              exact wp_ireturn d_GM_argument_93 rfl (fun _ => rfl) (Nat.zero_le _) (Nat.zero_le _) (kI_mk h43 T)
            · have T := T.2 h45
              refine wp_iconst d_GM_argument_88 ?_
              refine wp_goto (tgt := 93) d_GM_argument_89 (by decide) ?_
              exact wp_ireturn d_GM_argument_93 rfl (fun _ => rfl) (Nat.zero_le _) (Nat.zero_le _) (kI_mk (g32_c (x := 0) rfl) T)
          · have T := T.2 h56
            refine wp_aload_n d_GM_argument_48 rfl rfl (g_nz hX.1) ?_
            refine wp_iconst d_GM_argument_49 ?_
            refine xcV_I (md' := true) (As := [gI 1]) (st := []) d_GM_argument_50 ca_GM_ref ml_GM_256 im_GM_ref se_GM_ref gc_GM hX.1 (gm_o2 hX) hX.2.2.1 rfl (by decide) (by decide) rfl (fun _ => rfl) (fun _ => rfl) T (fun v47 M46 h48 T => ?_)
            refine wp_istore_n (L' := [.val (gR G o), .val (gI v47)]) d_GM_argument_53 rfl (by decide) (gS1_R rfl rfl) ?_
            refine wp_aload_n d_GM_argument_54 rfl rfl (g_nz hX.1) ?_
            refine wp_bipush d_GM_argument_55 ⟨by decide, by decide⟩ ?_
            refine xcV_V (md' := true) (As := [gI 58]) (st := []) d_GM_argument_57 ca_GM_need ml_GM_262 im_GM_need se_GM_need gc_GM hX.1 (gm_o2 hX) hX.2.2.1 rfl (by decide) (by decide) rfl (fun _ => rfl) (fun _ => rfl) T (fun M49 T => ?_)
            refine wp_aload_n d_GM_argument_60 rfl rfl (g_nz hX.1) ?_
            refine wp_iconst d_GM_argument_61 ?_
            refine xcV_I (md' := true) (As := [gI 2]) (st := []) d_GM_argument_62 ca_GM_ref ml_GM_256 im_GM_ref se_GM_ref gc_GM hX.1 (gm_o2 hX) hX.2.2.1 rfl (by decide) (by decide) rfl (fun _ => rfl) (fun _ => rfl) T (fun v51 M50 h52 T => ?_)
            refine wp_pop d_GM_argument_65 (gI_cat _) ?_
            refine wp_aload_n d_GM_argument_66 rfl rfl (g_nz hX.1) ?_
            refine wp_iconst d_GM_argument_67 ?_
            refine wp_iload_n d_GM_argument_68 rfl rfl ?_
            refine wp_iconst d_GM_argument_69 ?_
            refine wp_lconst0 d_GM_argument_70 ?_
            refine xcV_I (md' := true) (As := [gI 3, gI v47, gI 0, gL 0]) (st := []) d_GM_argument_71 ca_GM_node ml_GM_243 im_GM_node se_GM_node gc_GM hX.1 (gm_o2 hX) hX.2.2.1 rfl (by decide) (by decide) rfl (fun _ => rfl) (fun _ => rfl) T (fun v54 M53 h55 T => ?_)
            exact wp_ireturn d_GM_argument_74 rfl (fun _ => rfl) (Nat.zero_le _) (Nat.zero_le _) (kI_mk h55 T)
theorem e_GM_argument {l : Launch} {G : gG} {d : Nat} {X : gX} {M : gM} {k : Int → gM → Prop} {o : Nat} (T : wp l G y_GM_argument (gRm (d + 1)) true (kkI X k) false 0 [.val (gR G o), .unset] [] X M 0 0) : cI l G y_GM_argument (gRm (d + 1)) true [gR G o] X M k := cen_I (plainFor_of_name rfl) (by simp only [lg_sl_R, lg_sl_I, lg_sl_L, lg_sl_N, List.length_cons, List.length_nil]; decide) (by unfold gEn; simp only [lg_sl_R, lg_sl_I, lg_sl_L, lg_sl_N]; exact wpt T (And.intro rfl True.intro))
