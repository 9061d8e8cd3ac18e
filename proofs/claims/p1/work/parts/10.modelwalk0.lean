/-! Walks of the reference's methods, written by wip/whole/gen_model.py -/
theorem d_jMath_min_0 : decode prog_23_method_69_code 0 = .ok (.iload_n 0, 1) := by decide +kernel
theorem d_jMath_min_1 : decode prog_23_method_69_code 1 = .ok (.iload_n 1, 1) := by decide +kernel
theorem d_jMath_min_2 : decode prog_23_method_69_code 2 = .ok (.if_icmp .gt 7, 3) := by decide +kernel
theorem d_jMath_min_9 : decode prog_23_method_69_code 9 = .ok (.iload_n 1, 1) := by decide +kernel
theorem d_jMath_min_10 : decode prog_23_method_69_code 10 = .ok (.ireturn, 1) := by decide +kernel
theorem d_jMath_min_5 : decode prog_23_method_69_code 5 = .ok (.iload_n 0, 1) := by decide +kernel
theorem d_jMath_min_6 : decode prog_23_method_69_code 6 = .ok (.goto 4, 3) := by decide +kernel
set_option maxHeartbeats 4000000 in
theorem w_jMath_min_0 {l : Launch} {G : gG} {d : Nat} {X : gX} {M : gM} {k : Int → gM → Prop}  {x0 : Int} (hx0 : g32 x0) {x1 : Int} (hx1 : g32 x1) (T : (x1 < x0 → (k x1 M)) ∧ (¬ x1 < x0 → (k x0 M))) : wp l G y_jMath_min (gRm d) false (kkI X k) false 0 [.val (gI x0), .val (gI x1)] [] X M 0 0 := by
  refine wp_iload_n d_jMath_min_0 rfl rfl ?_
  refine wp_iload_n d_jMath_min_1 rfl rfl ?_
  refine xi_gt (tgt := 9) d_jMath_min_2 (by decide) (w32_id hx0) (w32_id hx1) (fun h1 => ?_) (fun h1 => ?_)
  · have T := T.1 h1
    refine wp_iload_n d_jMath_min_9 rfl rfl ?_
    exact wp_ireturn d_jMath_min_10 rfl id (Nat.zero_le _) (Nat.zero_le _) (kI_mk hx1 T)
  · have T := T.2 h1
    refine wp_iload_n d_jMath_min_5 rfl rfl ?_
    refine wp_goto (tgt := 10) d_jMath_min_6 (by decide) ?_
    exact wp_ireturn d_jMath_min_10 rfl id (Nat.zero_le _) (Nat.zero_le _) (kI_mk hx0 T)
theorem e_jMath_min {l : Launch} {G : gG} {d : Nat} {X : gX} {M : gM} {k : Int → gM → Prop}  {x0 : Int} {x1 : Int} (T : wp l G y_jMath_min (gRm d) false (kkI X k) false 0 [.val (gI x0), .val (gI x1)] [] X M 0 0) : cI l G y_jMath_min (gRm d) false [gI x0, gI x1] X M k := cen_I (by decide +kernel) (by simp only [lg_sl_R, lg_sl_I, lg_sl_L, lg_sl_N, List.length_cons, List.length_nil]; decide) (by unfold gEn; simp only [lg_sl_R, lg_sl_I, lg_sl_L, lg_sl_N]; exact wpt T (And.intro rfl (And.intro rfl True.intro)))
theorem d_GM_thrown_0 : decode prog_15_method_2_code 0 = .ok (.aload_n 0, 1) := by decide +kernel
theorem d_GM_thrown_1 : decode prog_15_method_2_code 1 = .ok (.getfield 157, 3) := by decide +kernel
theorem d_GM_thrown_4 : decode prog_15_method_2_code 4 = .ok (.ireturn, 1) := by decide +kernel
set_option maxHeartbeats 4000000 in
theorem w_GM_thrown_0 {l : Launch} {G : gG} {d : Nat} {X : gX} {M : gM} {k : Int → gM → Prop} {o : Nat} (hX : gmX X o)  (T : g32 (M o 0) → (k (M o 0) M)) : wp l G y_GM_thrown (gRm d) false (kkI X k) false 0 [.val (gR G o)] [] X M 0 0 := by
  refine wp_aload_n d_GM_thrown_0 rfl rfl (g_nz hX.1) ?_
  refine xgetI d_GM_thrown_1 gc_GM f_GM_157.1 f_GM_157.2.1 f_GM_157.2.2.1 hX.1 (gm_o2 hX) hX.2.2.1 f_GM_157.2.2.2.2.1 (fun h1 => ?_)
  have T := T h1
  exact wp_ireturn d_GM_thrown_4 rfl id (Nat.zero_le _) (Nat.zero_le _) (kI_mk h1 T)
theorem e_GM_thrown {l : Launch} {G : gG} {d : Nat} {X : gX} {M : gM} {k : Int → gM → Prop} {o : Nat} (T : wp l G y_GM_thrown (gRm d) false (kkI X k) false 0 [.val (gR G o)] [] X M 0 0) : cI l G y_GM_thrown (gRm d) false [gR G o] X M k := cen_I (plainFor_of_name rfl) (by simp only [lg_sl_R, lg_sl_I, lg_sl_L, lg_sl_N, List.length_cons, List.length_nil]; decide) (by unfold gEn; simp only [lg_sl_R, lg_sl_I, lg_sl_L, lg_sl_N]; exact wpt T (And.intro rfl True.intro))
theorem d_GM_no_0 : decode prog_15_method_3_code 0 = .ok (.aload_n 0, 1) := by decide +kernel
theorem d_GM_no_1 : decode prog_15_method_3_code 1 = .ok (.iload_n 1, 1) := by decide +kernel
theorem d_GM_no_2 : decode prog_15_method_3_code 2 = .ok (.putfield 157, 3) := by decide +kernel
theorem d_GM_no_5 : decode prog_15_method_3_code 5 = .ok (.iconst 0, 1) := by decide +kernel
theorem d_GM_no_6 : decode prog_15_method_3_code 6 = .ok (.ireturn, 1) := by decide +kernel
set_option maxHeartbeats 4000000 in
theorem w_GM_no_0 {l : Launch} {G : gG} {d : Nat} {X : gX} {M : gM} {k : Int → gM → Prop} {o : Nat} (hX : gmX X o) {x1 : Int} (hx1 : g32 x1) (T : k 0 (gUp M o 0 x1)) : wp l G y_GM_no (gRm d) true (kkI X k) false 0 [.val (gR G o), .val (gI x1)] [] X M 0 0 := by
  refine wp_aload_n d_GM_no_0 rfl rfl (g_nz hX.1) ?_
  refine wp_iload_n d_GM_no_1 rfl rfl ?_
  refine xputI d_GM_no_2 gc_GM f_GM_157.1 f_GM_157.2.1 f_GM_157.2.2.1 hX.1 (gm_o2 hX) hX.2.2.1 f_GM_157.2.2.2.1 f_GM_157.2.2.2.2.1 f_GM_157.2.2.2.2.2 (w32_id hx1) ?_
  refine wp_iconst d_GM_no_5 ?_
  exact wp_ireturn d_GM_no_6 rfl (fun _ => rfl) (Nat.zero_le _) (Nat.zero_le _) (kI_mk (g32_c (x := 0) rfl) T)
theorem e_GM_no {l : Launch} {G : gG} {d : Nat} {X : gX} {M : gM} {k : Int → gM → Prop} {o : Nat} {x1 : Int} (T : wp l G y_GM_no (gRm d) true (kkI X k) false 0 [.val (gR G o), .val (gI x1)] [] X M 0 0) : cI l G y_GM_no (gRm d) true [gR G o, gI x1] X M k := cen_I (plainFor_of_name rfl) (by simp only [lg_sl_R, lg_sl_I, lg_sl_L, lg_sl_N, List.length_cons, List.length_nil]; decide) (by unfold gEn; simp only [lg_sl_R, lg_sl_I, lg_sl_L, lg_sl_N]; exact wpt T (And.intro rfl (And.intro rfl True.intro)))
