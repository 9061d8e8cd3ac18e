/-! iushr; Integer.numberOfTrailingZeros, by wip/whole/gen_ntz.py -/
def gUshr (a b : Int) : Int := ((Int32.ofInt a).toUInt32 >>> ((Int32.ofInt b).toUInt32 &&& Int32.toUInt32 31)).toInt32.toInt
theorem gUshr_ok (a b : Int) : g32 (gUshr a b) := g32_of _
theorem wp_iushr {l : Launch} {G : gG} {y : gMt} {rm : Room} {fr md : Bool} {K : Outcome → gX → gM → Prop} {pc : Nat} {L : List Slot} {st : List Value} {X : gX} {M : gM} {cs ss : Nat} {a b : Int} (hd : decode y.2.1 pc = .ok (.iushr, 1)) (k : wp l G y rm fr K md (pc + 1) L (gI (gUshr a b) :: st) X M cs ss) : wp l G y rm fr K md pc L (gI b :: gI a :: st) X M cs ss := by
  intro p e s m args below meth c H locs ls hC hS hR hL
  have k' := k p e s m args below meth c H locs ls hC hS hR hL
  unfold gI gUshr at k'
  rw [Int32.ofInt_toInt] at k'
  exact lv_iushr hC.1 hC.2.1 hd rfl k'
theorem c_jInt_264 : (Cond.constant "java/lang/Integer" (264 : Nat) (65536 : Int32)) ∈ gTb := (tc_4 (List.mem_of_getElem? (i := 198) rfl) rfl)
theorem d_jInt_numberOfTrailingZeros_0 : decode prog_21_method_48_code 0 = .ok (.iload_n 0, 1) := by decide +kernel
theorem d_jInt_numberOfTrailingZeros_1 : decode prog_21_method_48_code 1 = .ok (.iconst (-1), 1) := by decide +kernel
theorem d_jInt_numberOfTrailingZeros_2 : decode prog_21_method_48_code 2 = .ok (.ixor, 1) := by decide +kernel
theorem d_jInt_numberOfTrailingZeros_3 : decode prog_21_method_48_code 3 = .ok (.iload_n 0, 1) := by decide +kernel
theorem d_jInt_numberOfTrailingZeros_4 : decode prog_21_method_48_code 4 = .ok (.iconst 1, 1) := by decide +kernel
theorem d_jInt_numberOfTrailingZeros_5 : decode prog_21_method_48_code 5 = .ok (.isub, 1) := by decide +kernel
theorem d_jInt_numberOfTrailingZeros_6 : decode prog_21_method_48_code 6 = .ok (.iand, 1) := by decide +kernel
theorem d_jInt_numberOfTrailingZeros_7 : decode prog_21_method_48_code 7 = .ok (.istore_n 0, 1) := by decide +kernel
theorem d_jInt_numberOfTrailingZeros_8 : decode prog_21_method_48_code 8 = .ok (.iload_n 0, 1) := by decide +kernel
theorem d_jInt_numberOfTrailingZeros_9 : decode prog_21_method_48_code 9 = .ok (.ifCond .gt 8, 3) := by decide +kernel
theorem d_jInt_numberOfTrailingZeros_17 : decode prog_21_method_48_code 17 = .ok (.iconst 1, 1) := by decide +kernel
theorem d_jInt_numberOfTrailingZeros_18 : decode prog_21_method_48_code 18 = .ok (.istore_n 1, 1) := by decide +kernel
theorem d_jInt_numberOfTrailingZeros_19 : decode prog_21_method_48_code 19 = .ok (.iload_n 0, 1) := by decide +kernel
theorem d_jInt_numberOfTrailingZeros_20 : decode prog_21_method_48_code 20 = .ok (.ldc_w 264, 3) := by decide +kernel
theorem d_jInt_numberOfTrailingZeros_23 : decode prog_21_method_48_code 23 = .ok (.if_icmp .le 11, 3) := by decide +kernel
theorem d_jInt_numberOfTrailingZeros_26 : decode prog_21_method_48_code 26 = .ok (.iinc 1 16, 3) := by decide +kernel
theorem d_jInt_numberOfTrailingZeros_29 : decode prog_21_method_48_code 29 = .ok (.iload_n 0, 1) := by decide +kernel
theorem d_jInt_numberOfTrailingZeros_30 : decode prog_21_method_48_code 30 = .ok (.bipush 16, 2) := by decide +kernel
theorem d_jInt_numberOfTrailingZeros_32 : decode prog_21_method_48_code 32 = .ok (.iushr, 1) := by decide +kernel
theorem d_jInt_numberOfTrailingZeros_33 : decode prog_21_method_48_code 33 = .ok (.istore_n 0, 1) := by decide +kernel
theorem d_jInt_numberOfTrailingZeros_12 : decode prog_21_method_48_code 12 = .ok (.iload_n 0, 1) := by decide +kernel
theorem d_jInt_numberOfTrailingZeros_13 : decode prog_21_method_48_code 13 = .ok (.bipush 32, 2) := by decide +kernel
theorem d_jInt_numberOfTrailingZeros_15 : decode prog_21_method_48_code 15 = .ok (.iand, 1) := by decide +kernel
theorem d_jInt_numberOfTrailingZeros_16 : decode prog_21_method_48_code 16 = .ok (.ireturn, 1) := by decide +kernel
theorem d_jInt_numberOfTrailingZeros_34 : decode prog_21_method_48_code 34 = .ok (.iload_n 0, 1) := by decide +kernel
theorem d_jInt_numberOfTrailingZeros_35 : decode prog_21_method_48_code 35 = .ok (.sipush 256, 3) := by decide +kernel
theorem d_jInt_numberOfTrailingZeros_38 : decode prog_21_method_48_code 38 = .ok (.if_icmp .le 11, 3) := by decide +kernel
theorem d_jInt_numberOfTrailingZeros_49 : decode prog_21_method_48_code 49 = .ok (.iload_n 0, 1) := by decide +kernel
theorem d_jInt_numberOfTrailingZeros_50 : decode prog_21_method_48_code 50 = .ok (.bipush 16, 2) := by decide +kernel
theorem d_jInt_numberOfTrailingZeros_52 : decode prog_21_method_48_code 52 = .ok (.if_icmp .le 10, 3) := by decide +kernel
theorem d_jInt_numberOfTrailingZeros_62 : decode prog_21_method_48_code 62 = .ok (.iload_n 0, 1) := by decide +kernel
theorem d_jInt_numberOfTrailingZeros_63 : decode prog_21_method_48_code 63 = .ok (.iconst 4, 1) := by decide +kernel
theorem d_jInt_numberOfTrailingZeros_64 : decode prog_21_method_48_code 64 = .ok (.if_icmp .le 10, 3) := by decide +kernel
theorem d_jInt_numberOfTrailingZeros_74 : decode prog_21_method_48_code 74 = .ok (.iload_n 1, 1) := by decide +kernel
theorem d_jInt_numberOfTrailingZeros_75 : decode prog_21_method_48_code 75 = .ok (.iload_n 0, 1) := by decide +kernel
theorem d_jInt_numberOfTrailingZeros_76 : decode prog_21_method_48_code 76 = .ok (.iconst 1, 1) := by decide +kernel
theorem d_jInt_numberOfTrailingZeros_77 : decode prog_21_method_48_code 77 = .ok (.iushr, 1) := by decide +kernel
theorem d_jInt_numberOfTrailingZeros_78 : decode prog_21_method_48_code 78 = .ok (.iadd, 1) := by decide +kernel
theorem d_jInt_numberOfTrailingZeros_79 : decode prog_21_method_48_code 79 = .ok (.ireturn, 1) := by decide +kernel
theorem d_jInt_numberOfTrailingZeros_67 : decode prog_21_method_48_code 67 = .ok (.iinc 1 2, 3) := by decide +kernel
theorem d_jInt_numberOfTrailingZeros_70 : decode prog_21_method_48_code 70 = .ok (.iload_n 0, 1) := by decide +kernel
theorem d_jInt_numberOfTrailingZeros_71 : decode prog_21_method_48_code 71 = .ok (.iconst 2, 1) := by decide +kernel
theorem d_jInt_numberOfTrailingZeros_72 : decode prog_21_method_48_code 72 = .ok (.iushr, 1) := by decide +kernel
theorem d_jInt_numberOfTrailingZeros_73 : decode prog_21_method_48_code 73 = .ok (.istore_n 0, 1) := by decide +kernel
theorem d_jInt_numberOfTrailingZeros_55 : decode prog_21_method_48_code 55 = .ok (.iinc 1 4, 3) := by decide +kernel
theorem d_jInt_numberOfTrailingZeros_58 : decode prog_21_method_48_code 58 = .ok (.iload_n 0, 1) := by decide +kernel
theorem d_jInt_numberOfTrailingZeros_59 : decode prog_21_method_48_code 59 = .ok (.iconst 4, 1) := by decide +kernel
theorem d_jInt_numberOfTrailingZeros_60 : decode prog_21_method_48_code 60 = .ok (.iushr, 1) := by decide +kernel
theorem d_jInt_numberOfTrailingZeros_61 : decode prog_21_method_48_code 61 = .ok (.istore_n 0, 1) := by decide +kernel
theorem d_jInt_numberOfTrailingZeros_41 : decode prog_21_method_48_code 41 = .ok (.iinc 1 8, 3) := by decide +kernel
theorem d_jInt_numberOfTrailingZeros_44 : decode prog_21_method_48_code 44 = .ok (.iload_n 0, 1) := by decide +kernel
theorem d_jInt_numberOfTrailingZeros_45 : decode prog_21_method_48_code 45 = .ok (.bipush 8, 2) := by decide +kernel
theorem d_jInt_numberOfTrailingZeros_47 : decode prog_21_method_48_code 47 = .ok (.iushr, 1) := by decide +kernel
theorem d_jInt_numberOfTrailingZeros_48 : decode prog_21_method_48_code 48 = .ok (.istore_n 0, 1) := by decide +kernel
set_option maxHeartbeats 4000000 in
theorem w_jInt_numberOfTrailingZeros_0 {l : Launch} {G : gG} {d : Nat} {X : gX} {M : gM} {k : Int → gM → Prop}  {x0 : Int} (hx0 : g32 x0) (T : (0 < gAnd (gXor x0 (-1)) (x0 - 1) → ((gAnd (gXor x0 (-1)) (x0 - 1) ≤ 65536 → (wp l G y_jInt_numberOfTrailingZeros (gRm d) false (kkI X k) false 34 [.val (gI (gAnd (gXor x0 (-1)) (x0 - 1))), .val (gI 1)] [] X M 0 0)) ∧ (¬ gAnd (gXor x0 (-1)) (x0 - 1) ≤ 65536 → (wp l G y_jInt_numberOfTrailingZeros (gRm d) false (kkI X k) false 34 [.val (gI (gUshr (gAnd (gXor x0 (-1)) (x0 - 1)) 16)), .val (gI (w32 (1 + 16)))] [] X M 0 0)))) ∧ (¬ 0 < gAnd (gXor x0 (-1)) (x0 - 1) → (k (gAnd (gAnd (gXor x0 (-1)) (x0 - 1)) 32) M))) : wp l G y_jInt_numberOfTrailingZeros (gRm d) false (kkI X k) false 0 [.val (gI x0), .unset] [] X M 0 0 := by
  refine wp_iload_n d_jInt_numberOfTrailingZeros_0 rfl rfl ?_
  refine wp_iconst d_jInt_numberOfTrailingZeros_1 ?_
  refine wp_ixor d_jInt_numberOfTrailingZeros_2 ?_
  refine wp_iload_n d_jInt_numberOfTrailingZeros_3 rfl rfl ?_
  refine wp_iconst d_jInt_numberOfTrailingZeros_4 ?_
  refine wp_isub d_jInt_numberOfTrailingZeros_5 ?_
  refine wp_iand d_jInt_numberOfTrailingZeros_6 ?_
  refine wp_istore_n (L' := [.val (gI (gAnd (gXor x0 (-1)) (x0 - 1))), .unset]) d_jInt_numberOfTrailingZeros_7 rfl (by decide) rfl ?_
  refine wp_iload_n d_jInt_numberOfTrailingZeros_8 rfl rfl ?_
  refine xz_gt (tgt := 17) d_jInt_numberOfTrailingZeros_9 (by decide) (w32_id (gAnd_ok _ _)) (fun h2 => ?_) (fun h2 => ?_)
  · have T := T.1 h2
    refine wp_iconst d_jInt_numberOfTrailingZeros_17 ?_
    refine wp_istore_n (L' := [.val (gI (gAnd (gXor x0 (-1)) (x0 - 1))), .val (gI 1)]) d_jInt_numberOfTrailingZeros_18 rfl (by decide) rfl ?_
    refine wp_iload_n d_jInt_numberOfTrailingZeros_19 rfl rfl ?_
    refine wp_ldcw (n := 65536) d_jInt_numberOfTrailingZeros_20 c_jInt_264 rfl ?_
    refine xi_le (tgt := 34) d_jInt_numberOfTrailingZeros_23 (by decide) (w32_id (gAnd_ok _ _)) (w32_id (g32_c (x := 65536) rfl)) (fun h1 => ?_) (fun h1 => ?_)
    · have T := T.1 h1
      exact (wpt T (And.intro rfl (And.intro rfl True.intro)))
    · have T := T.2 h1
      refine wp_iinc (L' := [.val (gI (gAnd (gXor x0 (-1)) (x0 - 1))), .val (gI (1 + 16))]) d_jInt_numberOfTrailingZeros_26 rfl (by decide) rfl ?_
      refine wp_iload_n d_jInt_numberOfTrailingZeros_29 rfl rfl ?_
      refine wp_bipush d_jInt_numberOfTrailingZeros_30 ⟨by decide, by decide⟩ ?_
      refine wp_iushr d_jInt_numberOfTrailingZeros_32 ?_
      refine wp_istore_n (L' := [.val (gI (gUshr (gAnd (gXor x0 (-1)) (x0 - 1)) 16)), .val (gI (1 + 16))]) d_jInt_numberOfTrailingZeros_33 rfl (by decide) rfl ?_
      exact (wpt T (And.intro rfl (And.intro (gI_w _) True.intro)))
  · have T := T.2 h2
    refine wp_iload_n d_jInt_numberOfTrailingZeros_12 rfl rfl ?_
    refine wp_bipush d_jInt_numberOfTrailingZeros_13 ⟨by decide, by decide⟩ ?_
    refine wp_iand d_jInt_numberOfTrailingZeros_15 ?_
    exact wp_ireturn d_jInt_numberOfTrailingZeros_16 rfl id (Nat.zero_le _) (Nat.zero_le _) (kI_mk (gAnd_ok _ _) T)
set_option maxHeartbeats 4000000 in
theorem w_jInt_numberOfTrailingZeros_34 {l : Launch} {G : gG} {d : Nat} {X : gX} {M : gM} {k : Int → gM → Prop}  {x0 : Int} (hx0 : g32 x0) {x1 : Int} (hx1 : g32 x1) (T : (x0 ≤ 256 → ((x0 ≤ 16 → ((x0 ≤ 4 → (k (w32 (x1 + (gUshr x0 1))) M)) ∧ (¬ x0 ≤ 4 → (k (w32 ((x1 + 2) + (gUshr (gUshr x0 2) 1))) M)))) ∧ (¬ x0 ≤ 16 → ((gUshr x0 4 ≤ 4 → (k (w32 ((x1 + 4) + (gUshr (gUshr x0 4) 1))) M)) ∧ (¬ gUshr x0 4 ≤ 4 → (k (w32 ((x1 + 4 + 2) + (gUshr (gUshr (gUshr x0 4) 2) 1))) M)))))) ∧ (¬ x0 ≤ 256 → ((gUshr x0 8 ≤ 16 → ((gUshr x0 8 ≤ 4 → (k (w32 ((x1 + 8) + (gUshr (gUshr x0 8) 1))) M)) ∧ (¬ gUshr x0 8 ≤ 4 → (k (w32 ((x1 + 8 + 2) + (gUshr (gUshr (gUshr x0 8) 2) 1))) M)))) ∧ (¬ gUshr x0 8 ≤ 16 → ((gUshr (gUshr x0 8) 4 ≤ 4 → (k (w32 ((x1 + 8 + 4) + (gUshr (gUshr (gUshr x0 8) 4) 1))) M)) ∧ (¬ gUshr (gUshr x0 8) 4 ≤ 4 → (k (w32 ((x1 + 8 + 4 + 2) + (gUshr (gUshr (gUshr (gUshr x0 8) 4) 2) 1))) M))))))) : wp l G y_jInt_numberOfTrailingZeros (gRm d) false (kkI X k) false 34 [.val (gI x0), .val (gI x1)] [] X M 0 0 := by
  refine wp_iload_n d_jInt_numberOfTrailingZeros_34 rfl rfl ?_
  refine wp_sipush d_jInt_numberOfTrailingZeros_35 ⟨by decide, by decide⟩ ?_
  refine xi_le (tgt := 49) d_jInt_numberOfTrailingZeros_38 (by decide) (w32_id hx0) (w32_id (g32_c (x := 256) rfl)) (fun h9 => ?_) (fun h9 => ?_)
  · have T := T.1 h9
    refine wp_iload_n d_jInt_numberOfTrailingZeros_49 rfl rfl ?_
    refine wp_bipush d_jInt_numberOfTrailingZeros_50 ⟨by decide, by decide⟩ ?_
    refine xi_le (tgt := 62) d_jInt_numberOfTrailingZeros_52 (by decide) (w32_id hx0) (w32_id (g32_c (x := 16) rfl)) (fun h5 => ?_) (fun h5 => ?_)
    · have T := T.1 h5
      refine wp_iload_n d_jInt_numberOfTrailingZeros_62 rfl rfl ?_
      refine wp_iconst d_jInt_numberOfTrailingZeros_63 ?_
      refine xi_le (tgt := 74) d_jInt_numberOfTrailingZeros_64 (by decide) (w32_id hx0) (w32_id (g32_c (x := 4) rfl)) (fun h3 => ?_) (fun h3 => ?_)
      · have T := T.1 h3
        refine wp_iload_n d_jInt_numberOfTrailingZeros_74 rfl rfl ?_
        refine wp_iload_n d_jInt_numberOfTrailingZeros_75 rfl rfl ?_
        refine wp_iconst d_jInt_numberOfTrailingZeros_76 ?_
        refine wp_iushr d_jInt_numberOfTrailingZeros_77 ?_
        refine wp_iadd d_jInt_numberOfTrailingZeros_78 ?_
        exact wp_st (st' := [gI (w32 (x1 + (gUshr x0 1)))]) (by rw [gI_w]) (wp_ireturn d_jInt_numberOfTrailingZeros_79 rfl id (Nat.zero_le _) (Nat.zero_le _) (kI_mk (w32_ok _) T))
      · have T := T.2 h3
        refine wp_iinc (L' := [.val (gI x0), .val (gI (x1 + 2))]) d_jInt_numberOfTrailingZeros_67 rfl (by decide) rfl ?_
        refine wp_iload_n d_jInt_numberOfTrailingZeros_70 rfl rfl ?_
        refine wp_iconst d_jInt_numberOfTrailingZeros_71 ?_
        refine wp_iushr d_jInt_numberOfTrailingZeros_72 ?_
        refine wp_istore_n (L' := [.val (gI (gUshr x0 2)), .val (gI (x1 + 2))]) d_jInt_numberOfTrailingZeros_73 rfl (by decide) rfl ?_
        refine wp_iload_n d_jInt_numberOfTrailingZeros_74 rfl rfl ?_
        refine wp_iload_n d_jInt_numberOfTrailingZeros_75 rfl rfl ?_
        refine wp_iconst d_jInt_numberOfTrailingZeros_76 ?_
        refine wp_iushr d_jInt_numberOfTrailingZeros_77 ?_
        refine wp_iadd d_jInt_numberOfTrailingZeros_78 ?_
        exact wp_st (st' := [gI (w32 ((x1 + 2) + (gUshr (gUshr x0 2) 1)))]) (by rw [gI_w]) (wp_ireturn d_jInt_numberOfTrailingZeros_79 rfl id (Nat.zero_le _) (Nat.zero_le _) (kI_mk (w32_ok _) T))
    · have T := T.2 h5
      refine wp_iinc (L' := [.val (gI x0), .val (gI (x1 + 4))]) d_jInt_numberOfTrailingZeros_55 rfl (by decide) rfl ?_
      refine wp_iload_n d_jInt_numberOfTrailingZeros_58 rfl rfl ?_
      refine wp_iconst d_jInt_numberOfTrailingZeros_59 ?_
      refine wp_iushr d_jInt_numberOfTrailingZeros_60 ?_
      refine wp_istore_n (L' := [.val (gI (gUshr x0 4)), .val (gI (x1 + 4))]) d_jInt_numberOfTrailingZeros_61 rfl (by decide) rfl ?_
      refine wp_iload_n d_jInt_numberOfTrailingZeros_62 rfl rfl ?_
      refine wp_iconst d_jInt_numberOfTrailingZeros_63 ?_
      refine xi_le (tgt := 74) d_jInt_numberOfTrailingZeros_64 (by decide) (w32_id (gUshr_ok _ _)) (w32_id (g32_c (x := 4) rfl)) (fun h4 => ?_) (fun h4 => ?_)
      · have T := T.1 h4
        refine wp_iload_n d_jInt_numberOfTrailingZeros_74 rfl rfl ?_
        refine wp_iload_n d_jInt_numberOfTrailingZeros_75 rfl rfl ?_
        refine wp_iconst d_jInt_numberOfTrailingZeros_76 ?_
        refine wp_iushr d_jInt_numberOfTrailingZeros_77 ?_
        refine wp_iadd d_jInt_numberOfTrailingZeros_78 ?_
        exact wp_st (st' := [gI (w32 ((x1 + 4) + (gUshr (gUshr x0 4) 1)))]) (by rw [gI_w]) (wp_ireturn d_jInt_numberOfTrailingZeros_79 rfl id (Nat.zero_le _) (Nat.zero_le _) (kI_mk (w32_ok _) T))
      · have T := T.2 h4
        refine wp_iinc (L' := [.val (gI (gUshr x0 4)), .val (gI (x1 + 4 + 2))]) d_jInt_numberOfTrailingZeros_67 rfl (by decide) rfl ?_
        refine wp_iload_n d_jInt_numberOfTrailingZeros_70 rfl rfl ?_
        refine wp_iconst d_jInt_numberOfTrailingZeros_71 ?_
        refine wp_iushr d_jInt_numberOfTrailingZeros_72 ?_
        refine wp_istore_n (L' := [.val (gI (gUshr (gUshr x0 4) 2)), .val (gI (x1 + 4 + 2))]) d_jInt_numberOfTrailingZeros_73 rfl (by decide) rfl ?_
        refine wp_iload_n d_jInt_numberOfTrailingZeros_74 rfl rfl ?_
        refine wp_iload_n d_jInt_numberOfTrailingZeros_75 rfl rfl ?_
        refine wp_iconst d_jInt_numberOfTrailingZeros_76 ?_
        refine wp_iushr d_jInt_numberOfTrailingZeros_77 ?_
        refine wp_iadd d_jInt_numberOfTrailingZeros_78 ?_
        exact wp_st (st' := [gI (w32 ((x1 + 4 + 2) + (gUshr (gUshr (gUshr x0 4) 2) 1)))]) (by rw [gI_w]) (wp_ireturn d_jInt_numberOfTrailingZeros_79 rfl id (Nat.zero_le _) (Nat.zero_le _) (kI_mk (w32_ok _) T))
  · have T := T.2 h9
    refine wp_iinc (L' := [.val (gI x0), .val (gI (x1 + 8))]) d_jInt_numberOfTrailingZeros_41 rfl (by decide) rfl ?_
    refine wp_iload_n d_jInt_numberOfTrailingZeros_44 rfl rfl ?_
    refine wp_bipush d_jInt_numberOfTrailingZeros_45 ⟨by decide, by decide⟩ ?_
    refine wp_iushr d_jInt_numberOfTrailingZeros_47 ?_
    refine wp_istore_n (L' := [.val (gI (gUshr x0 8)), .val (gI (x1 + 8))]) d_jInt_numberOfTrailingZeros_48 rfl (by decide) rfl ?_
    refine wp_iload_n d_jInt_numberOfTrailingZeros_49 rfl rfl ?_
    refine wp_bipush d_jInt_numberOfTrailingZeros_50 ⟨by decide, by decide⟩ ?_
    refine xi_le (tgt := 62) d_jInt_numberOfTrailingZeros_52 (by decide) (w32_id (gUshr_ok _ _)) (w32_id (g32_c (x := 16) rfl)) (fun h8 => ?_) (fun h8 => ?_)
    · have T := T.1 h8
      refine wp_iload_n d_jInt_numberOfTrailingZeros_62 rfl rfl ?_
      refine wp_iconst d_jInt_numberOfTrailingZeros_63 ?_
      refine xi_le (tgt := 74) d_jInt_numberOfTrailingZeros_64 (by decide) (w32_id (gUshr_ok _ _)) (w32_id (g32_c (x := 4) rfl)) (fun h6 => ?_) (fun h6 => ?_)
      · have T := T.1 h6
        refine wp_iload_n d_jInt_numberOfTrailingZeros_74 rfl rfl ?_
        refine wp_iload_n d_jInt_numberOfTrailingZeros_75 rfl rfl ?_
        refine wp_iconst d_jInt_numberOfTrailingZeros_76 ?_
        refine wp_iushr d_jInt_numberOfTrailingZeros_77 ?_
        refine wp_iadd d_jInt_numberOfTrailingZeros_78 ?_
        exact wp_st (st' := [gI (w32 ((x1 + 8) + (gUshr (gUshr x0 8) 1)))]) (by rw [gI_w]) (wp_ireturn d_jInt_numberOfTrailingZeros_79 rfl id (Nat.zero_le _) (Nat.zero_le _) (kI_mk (w32_ok _) T))
      · have T := T.2 h6
        refine wp_iinc (L' := [.val (gI (gUshr x0 8)), .val (gI (x1 + 8 + 2))]) d_jInt_numberOfTrailingZeros_67 rfl (by decide) rfl ?_
        refine wp_iload_n d_jInt_numberOfTrailingZeros_70 rfl rfl ?_
        refine wp_iconst d_jInt_numberOfTrailingZeros_71 ?_
        refine wp_iushr d_jInt_numberOfTrailingZeros_72 ?_
        refine wp_istore_n (L' := [.val (gI (gUshr (gUshr x0 8) 2)), .val (gI (x1 + 8 + 2))]) d_jInt_numberOfTrailingZeros_73 rfl (by decide) rfl ?_
        refine wp_iload_n d_jInt_numberOfTrailingZeros_74 rfl rfl ?_
        refine wp_iload_n d_jInt_numberOfTrailingZeros_75 rfl rfl ?_
        refine wp_iconst d_jInt_numberOfTrailingZeros_76 ?_
        refine wp_iushr d_jInt_numberOfTrailingZeros_77 ?_
        refine wp_iadd d_jInt_numberOfTrailingZeros_78 ?_
        exact wp_st (st' := [gI (w32 ((x1 + 8 + 2) + (gUshr (gUshr (gUshr x0 8) 2) 1)))]) (by rw [gI_w]) (wp_ireturn d_jInt_numberOfTrailingZeros_79 rfl id (Nat.zero_le _) (Nat.zero_le _) (kI_mk (w32_ok _) T))
    · have T := T.2 h8
      refine wp_iinc (L' := [.val (gI (gUshr x0 8)), .val (gI (x1 + 8 + 4))]) d_jInt_numberOfTrailingZeros_55 rfl (by decide) rfl ?_
      refine wp_iload_n d_jInt_numberOfTrailingZeros_58 rfl rfl ?_
      refine wp_iconst d_jInt_numberOfTrailingZeros_59 ?_
      refine wp_iushr d_jInt_numberOfTrailingZeros_60 ?_
      refine wp_istore_n (L' := [.val (gI (gUshr (gUshr x0 8) 4)), .val (gI (x1 + 8 + 4))]) d_jInt_numberOfTrailingZeros_61 rfl (by decide) rfl ?_
      refine wp_iload_n d_jInt_numberOfTrailingZeros_62 rfl rfl ?_
      refine wp_iconst d_jInt_numberOfTrailingZeros_63 ?_
      refine xi_le (tgt := 74) d_jInt_numberOfTrailingZeros_64 (by decide) (w32_id (gUshr_ok _ _)) (w32_id (g32_c (x := 4) rfl)) (fun h7 => ?_) (fun h7 => ?_)
      · have T := T.1 h7
        refine wp_iload_n d_jInt_numberOfTrailingZeros_74 rfl rfl ?_
        refine wp_iload_n d_jInt_numberOfTrailingZeros_75 rfl rfl ?_
        refine wp_iconst d_jInt_numberOfTrailingZeros_76 ?_
        refine wp_iushr d_jInt_numberOfTrailingZeros_77 ?_
        refine wp_iadd d_jInt_numberOfTrailingZeros_78 ?_
        exact wp_st (st' := [gI (w32 ((x1 + 8 + 4) + (gUshr (gUshr (gUshr x0 8) 4) 1)))]) (by rw [gI_w]) (wp_ireturn d_jInt_numberOfTrailingZeros_79 rfl id (Nat.zero_le _) (Nat.zero_le _) (kI_mk (w32_ok _) T))
      · have T := T.2 h7
        refine wp_iinc (L' := [.val (gI (gUshr (gUshr x0 8) 4)), .val (gI (x1 + 8 + 4 + 2))]) d_jInt_numberOfTrailingZeros_67 rfl (by decide) rfl ?_
        refine wp_iload_n d_jInt_numberOfTrailingZeros_70 rfl rfl ?_
        refine wp_iconst d_jInt_numberOfTrailingZeros_71 ?_
        refine wp_iushr d_jInt_numberOfTrailingZeros_72 ?_
        refine wp_istore_n (L' := [.val (gI (gUshr (gUshr (gUshr x0 8) 4) 2)), .val (gI (x1 + 8 + 4 + 2))]) d_jInt_numberOfTrailingZeros_73 rfl (by decide) rfl ?_
        refine wp_iload_n d_jInt_numberOfTrailingZeros_74 rfl rfl ?_
        refine wp_iload_n d_jInt_numberOfTrailingZeros_75 rfl rfl ?_
        refine wp_iconst d_jInt_numberOfTrailingZeros_76 ?_
        refine wp_iushr d_jInt_numberOfTrailingZeros_77 ?_
        refine wp_iadd d_jInt_numberOfTrailingZeros_78 ?_
        exact wp_st (st' := [gI (w32 ((x1 + 8 + 4 + 2) + (gUshr (gUshr (gUshr (gUshr x0 8) 4) 2) 1)))]) (by rw [gI_w]) (wp_ireturn d_jInt_numberOfTrailingZeros_79 rfl id (Nat.zero_le _) (Nat.zero_le _) (kI_mk (w32_ok _) T))
theorem e_jInt_numberOfTrailingZeros {l : Launch} {G : gG} {d : Nat} {X : gX} {M : gM} {k : Int → gM → Prop}  {x0 : Int} (T : wp l G y_jInt_numberOfTrailingZeros (gRm d) false (kkI X k) false 0 [.val (gI x0), .unset] [] X M 0 0) : cI l G y_jInt_numberOfTrailingZeros (gRm d) false [gI x0] X M k := cen_I (by decide +kernel) (by simp only [lg_sl_R, lg_sl_I, lg_sl_L, lg_sl_N, List.length_cons, List.length_nil]; decide) (by unfold gEn; simp only [lg_sl_R, lg_sl_I, lg_sl_L, lg_sl_N]; exact wpt T (And.intro rfl True.intro))
