/-! Walks of the methods that throw or put references, written by wip/whole/gen_moves.py -/
def gEn_jIoob : List String := ["java/lang/RuntimeException", "java/lang/Exception"]
def gEn_jIae : List String := ["java/lang/RuntimeException", "java/lang/Exception"]
def gEn_jIse : List String := ["java/lang/RuntimeException", "java/lang/Exception"]
def gEn_jNse : List String := ["java/lang/RuntimeException", "java/lang/Exception"]
theorem cl_GL_183 : (Cond.classLink "GridLedger" (183 : Nat) "java/lang/IllegalArgumentException") ∈ gTb := (tc_3 (List.mem_of_getElem? (i := 65) rfl) rfl)
theorem it_jIae : (Cond.instantiable "java/lang/IllegalArgumentException" (6 : Nat)) ∈ gTb := (tc_3 (List.mem_of_getElem? (i := 66) rfl) rfl)
theorem ii_jIae : (Cond.initialized "java/lang/IllegalArgumentException") ∈ gTb := (tc_1 (List.mem_of_getElem? (i := 17) rfl) rfl)
theorem ml_GL_186 : (Cond.methodLink "GridLedger" (186 : Nat) ({ cls := "java/lang/Math", name := "min", desc := "(II)I" } : MethodName)) ∈ gTb := (tc_4 (List.mem_of_getElem? (i := 152) rfl) rfl)
theorem cl_GL_118 : (Cond.classLink "GridLedger" (118 : Nat) "java/lang/IllegalStateException") ∈ gTb := (tc_4 (List.mem_of_getElem? (i := 137) rfl) rfl)
theorem it_jIse : (Cond.instantiable "java/lang/IllegalStateException" (6 : Nat)) ∈ gTb := (tc_4 (List.mem_of_getElem? (i := 138) rfl) rfl)
theorem ii_jIse : (Cond.initialized "java/lang/IllegalStateException") ∈ gTb := (tc_1 (List.mem_of_getElem? (i := 25) rfl) rfl)
theorem ml_Rs_61 : (Cond.methodLink "GridLedger$Results" (61 : Nat) ({ cls := "GridLedger$Order", name := "arrange", desc := "(LGridLedger$State;[I)V" } : MethodName)) ∈ gTb := (tc_4 (List.mem_of_getElem? (i := 159) rfl) rfl)
theorem im_Or_arrange : (Cond.instanceMethod ({ cls := "GridLedger$Order", name := "arrange", desc := "(LGridLedger$State;[I)V" } : MethodName)) ∈ gTb := (tc_4 (List.mem_of_getElem? (i := 160) rfl) rfl)
theorem ml_Rs_65 : (Cond.methodLink "GridLedger$Results" (65 : Nat) ({ cls := "GridLedger$Machine", name := "open", desc := "(LGridLedger$State;LGridLedger$Values;)V" } : MethodName)) ∈ gTb := (tc_4 (List.mem_of_getElem? (i := 207) rfl) rfl)
theorem im_Ma_open : (Cond.instanceMethod ({ cls := "GridLedger$Machine", name := "open", desc := "(LGridLedger$State;LGridLedger$Values;)V" } : MethodName)) ∈ gTb := (tc_4 (List.mem_of_getElem? (i := 208) rfl) rfl)
theorem ml_Rs_92 : (Cond.methodLink "GridLedger$Results" (92 : Nat) ({ cls := "GridLedger$Results", name := "compareWith", desc := "(LGridLedger$State;)V" } : MethodName)) ∈ gTb := (tc_5 (List.mem_of_getElem? (i := 235) rfl) rfl)
theorem im_Rs_compareWith : (Cond.instanceMethod ({ cls := "GridLedger$Results", name := "compareWith", desc := "(LGridLedger$State;)V" } : MethodName)) ∈ gTb := (tc_5 (List.mem_of_getElem? (i := 237) rfl) rfl)
theorem ml_Rs_82 : (Cond.methodLink "GridLedger$Results" (82 : Nat) ({ cls := "GridLedger$Machine", name := "run", desc := "(I)V" } : MethodName)) ∈ gTb := (tc_4 (List.mem_of_getElem? (i := 215) rfl) rfl)
theorem im_Ma_run : (Cond.instanceMethod ({ cls := "GridLedger$Machine", name := "run", desc := "(I)V" } : MethodName)) ∈ gTb := (tc_4 (List.mem_of_getElem? (i := 216) rfl) rfl)
theorem ml_Rs_88 : (Cond.methodLink "GridLedger$Results" (88 : Nat) ({ cls := "GridLedger$Values", name := "setFrom", desc := "(ILGridLedger$Values;I)V" } : MethodName)) ∈ gTb := (tc_5 (List.mem_of_getElem? (i := 234) rfl) rfl)
theorem ml_Rs_78 : (Cond.methodLink "GridLedger$Results" (78 : Nat) ({ cls := "GridLedger$Values", name := "set", desc := "(IIJ)V" } : MethodName)) ∈ gTb := (tc_4 (List.mem_of_getElem? (i := 211) rfl) rfl)
theorem cl_GL_62 : (Cond.classLink "GridLedger" (62 : Nat) "java/lang/IndexOutOfBoundsException") ∈ gTb := (tc_2 (List.mem_of_getElem? (i := 226) rfl) rfl)
theorem it_jIoob : (Cond.instantiable "java/lang/IndexOutOfBoundsException" (6 : Nat)) ∈ gTb := (tc_2 (List.mem_of_getElem? (i := 227) rfl) rfl)
theorem ii_jIoob : (Cond.initialized "java/lang/IndexOutOfBoundsException") ∈ gTb := (tc_1 (List.mem_of_getElem? (i := 16) rfl) rfl)
theorem cl_GL_144 : (Cond.classLink "GridLedger" (144 : Nat) "java/util/NoSuchElementException") ∈ gTb := (tc_6 (List.mem_of_getElem? (i := 101) rfl) rfl)
theorem it_jNse : (Cond.instantiable "java/util/NoSuchElementException" (6 : Nat)) ∈ gTb := (tc_6 (List.mem_of_getElem? (i := 102) rfl) rfl)
theorem ii_jNse : (Cond.initialized "java/util/NoSuchElementException") ∈ gTb := (tc_1 (List.mem_of_getElem? (i := 30) rfl) rfl)
theorem f_Rs_9 : 0 < 8 ∧ (gT_Rs 0).1 = "GridLedger$Results" ∧ Cond.fieldLink "GridLedger$Results" 9 "GridLedger$Results" (gT_Rs 0).2.1 (gT_Rs 0).2.2.1 ∈ gTb ∧ (gT_Rs 0).2.2.2 = true ∧ gFk 8 0 = 2 ∧ ((∃ t, gFy 8 0 = .array t) ∨ ∃ C2, gFy 8 0 = .object C2) := ⟨by decide, rfl, (tc_2 (List.mem_of_getElem? (i := 139) rfl) rfl), rfl, rfl, Or.inl ⟨_, rfl⟩⟩
theorem f_Rs_39 : 2 < 8 ∧ (gT_Rs 2).1 = "GridLedger$Results" ∧ Cond.fieldLink "GridLedger$Results" 39 "GridLedger$Results" (gT_Rs 2).2.1 (gT_Rs 2).2.2.1 ∈ gTb ∧ (gT_Rs 2).2.2.2 = true ∧ gFk 8 2 = 2 ∧ ((∃ t, gFy 8 2 = .array t) ∨ ∃ C2, gFy 8 2 = .object C2) := ⟨by decide, rfl, (tc_2 (List.mem_of_getElem? (i := 143) rfl) rfl), rfl, rfl, Or.inr ⟨_, rfl⟩⟩
theorem ca_Or_arrange : gCal y_Or_arrange 2 := ⟨(tc_4 (List.mem_of_getElem? (i := 162) rfl) rfl), (tc_1 (List.mem_of_getElem? (i := 9) rfl) rfl), by decide, by decide, by decide +kernel⟩
theorem se_Or_arrange : Cond.selects "GridLedger$Order" y_Or_arrange.1 y_Or_arrange.1 ∈ gTb := (tc_4 (List.mem_of_getElem? (i := 161) rfl) rfl)
theorem f_Rs_48 : 3 < 8 ∧ (gT_Rs 3).1 = "GridLedger$Results" ∧ Cond.fieldLink "GridLedger$Results" 48 "GridLedger$Results" (gT_Rs 3).2.1 (gT_Rs 3).2.2.1 ∈ gTb ∧ (gT_Rs 3).2.2.2 = true ∧ gFk 8 3 = 2 ∧ ((∃ t, gFy 8 3 = .array t) ∨ ∃ C2, gFy 8 3 = .object C2) := ⟨by decide, rfl, (tc_2 (List.mem_of_getElem? (i := 144) rfl) rfl), rfl, rfl, Or.inr ⟨_, rfl⟩⟩
theorem ca_Ma_open : gCal y_Ma_open 2 := ⟨(tc_4 (List.mem_of_getElem? (i := 210) rfl) rfl), (tc_1 (List.mem_of_getElem? (i := 10) rfl) rfl), by decide, by decide, by decide +kernel⟩
theorem se_Ma_open : Cond.selects "GridLedger$Machine" y_Ma_open.1 y_Ma_open.1 ∈ gTb := (tc_4 (List.mem_of_getElem? (i := 209) rfl) rfl)
theorem ca_Rs_compareWith : gCal y_Rs_compareWith 1 := ⟨(tc_5 (List.mem_of_getElem? (i := 238) rfl) rfl), (tc_1 (List.mem_of_getElem? (i := 7) rfl) rfl), by decide, by decide, by decide +kernel⟩
theorem se_Rs_compareWith : Cond.selects "GridLedger$Results" y_Rs_compareWith.1 y_Rs_compareWith.1 ∈ gTb := (tp_5 (List.mem_of_getElem? (i := 8) rfl))
theorem f_Rs_69 : 2 < 13 ∧ (gT_Or 2).1 = "GridLedger$Order" ∧ Cond.fieldLink "GridLedger$Results" 69 "GridLedger$Order" (gT_Or 2).2.1 (gT_Or 2).2.2.1 ∈ gTb ∧ (gT_Or 2).2.2.2 = true ∧ gFk 6 2 = 2 ∧ ((∃ t, gFy 6 2 = .array t) ∨ ∃ C2, gFy 6 2 = .object C2) := ⟨by decide, rfl, (tc_2 (List.mem_of_getElem? (i := 38) rfl) rfl), rfl, rfl, Or.inl ⟨_, rfl⟩⟩
theorem f_Rs_72 : 3 < 13 ∧ (gT_Or 3).1 = "GridLedger$Order" ∧ Cond.fieldLink "GridLedger$Results" 72 "GridLedger$Order" (gT_Or 3).2.1 (gT_Or 3).2.2.1 ∈ gTb ∧ (gT_Or 3).2.2.2 = true ∧ gFk 6 3 = 2 ∧ ((∃ t, gFy 6 3 = .array t) ∨ ∃ C2, gFy 6 3 = .object C2) := ⟨by decide, rfl, (tc_2 (List.mem_of_getElem? (i := 40) rfl) rfl), rfl, rfl, Or.inl ⟨_, rfl⟩⟩
theorem ca_Ma_run : gCal y_Ma_run 1 := ⟨(tc_4 (List.mem_of_getElem? (i := 218) rfl) rfl), (tc_1 (List.mem_of_getElem? (i := 10) rfl) rfl), by decide, by decide, by decide +kernel⟩
theorem se_Ma_run : Cond.selects "GridLedger$Machine" y_Ma_run.1 y_Ma_run.1 ∈ gTb := (tc_4 (List.mem_of_getElem? (i := 217) rfl) rfl)
theorem f_Rs_85 : 0 < 7 ∧ (gT_Ma 0).1 = "GridLedger$Machine" ∧ Cond.fieldLink "GridLedger$Results" 85 "GridLedger$Machine" (gT_Ma 0).2.1 (gT_Ma 0).2.2.1 ∈ gTb ∧ (gT_Ma 0).2.2.2 = true ∧ gFk 5 0 = 2 ∧ ((∃ t, gFy 5 0 = .array t) ∨ ∃ C2, gFy 5 0 = .object C2) := ⟨by decide, rfl, (tc_2 (List.mem_of_getElem? (i := 117) rfl) rfl), rfl, rfl, Or.inr ⟨_, rfl⟩⟩
theorem f_GL_147 : 2 < 3 ∧ (gT_Vl 2).1 = "GridLedger$Values" ∧ Cond.fieldLink "GridLedger" 147 "GridLedger$Values" (gT_Vl 2).2.1 (gT_Vl 2).2.2.1 ∈ gTb ∧ (gT_Vl 2).2.2.2 = true ∧ gFk 11 2 = 2 ∧ ((∃ t, gFy 11 2 = .array t) ∨ ∃ C2, gFy 11 2 = .object C2) := ⟨by decide, rfl, (tc_2 (List.mem_of_getElem? (i := 20) rfl) rfl), rfl, rfl, Or.inl ⟨_, rfl⟩⟩
theorem f_GL_161 : 4 < 5 ∧ (gT_St 4).1 = "GridLedger$State" ∧ Cond.fieldLink "GridLedger" 161 "GridLedger$State" (gT_St 4).2.1 (gT_St 4).2.2.1 ∈ gTb ∧ (gT_St 4).2.2.2 = true ∧ gFk 9 4 = 2 ∧ ((∃ t, gFy 9 4 = .array t) ∨ ∃ C2, gFy 9 4 = .object C2) := ⟨by decide, rfl, (tc_1 (List.mem_of_getElem? (i := 223) rfl) rfl), rfl, rfl, Or.inl ⟨_, rfl⟩⟩
theorem f_GL_164 : 3 < 5 ∧ (gT_St 3).1 = "GridLedger$State" ∧ Cond.fieldLink "GridLedger" 164 "GridLedger$State" (gT_St 3).2.1 (gT_St 3).2.2.1 ∈ gTb ∧ (gT_St 3).2.2.2 = true ∧ gFk 9 3 = 2 ∧ ((∃ t, gFy 9 3 = .array t) ∨ ∃ C2, gFy 9 3 = .object C2) := ⟨by decide, rfl, (tc_1 (List.mem_of_getElem? (i := 218) rfl) rfl), rfl, rfl, Or.inl ⟨_, rfl⟩⟩
theorem f_GL_170 : 1 < 8 ∧ (gT_Rs 1).1 = "GridLedger$Results" ∧ Cond.fieldLink "GridLedger" 170 "GridLedger$Results" (gT_Rs 1).2.1 (gT_Rs 1).2.2.1 ∈ gTb ∧ (gT_Rs 1).2.2.2 = true ∧ gFk 8 1 = 2 ∧ ((∃ t, gFy 8 1 = .array t) ∨ ∃ C2, gFy 8 1 = .object C2) := ⟨by decide, rfl, (tc_2 (List.mem_of_getElem? (i := 142) rfl) rfl), rfl, rfl, Or.inl ⟨_, rfl⟩⟩
theorem gAt_GL_120 {l : Launch} {G : gG} (hl : gOk l G) : ∀ U, gSP G U → ∀ args : Array Value, (∀ w ∈ gTb, w.before args U = true) → ∀ a ∈ Bundle.ownAtoms0 "GridLedger" 120 "java/lang/IllegalStateException" gEn_jIse, a.before args U = true := gAt_of hl (by decide +kernel)
theorem gAt_GL_146 {l : Launch} {G : gG} (hl : gOk l G) : ∀ U, gSP G U → ∀ args : Array Value, (∀ w ∈ gTb, w.before args U = true) → ∀ a ∈ Bundle.ownAtoms0 "GridLedger" 146 "java/util/NoSuchElementException" gEn_jNse, a.before args U = true := gAt_of hl (by decide +kernel)
theorem gAt_GL_185 {l : Launch} {G : gG} (hl : gOk l G) : ∀ U, gSP G U → ∀ args : Array Value, (∀ w ∈ gTb, w.before args U = true) → ∀ a ∈ Bundle.ownAtoms0 "GridLedger" 185 "java/lang/IllegalArgumentException" gEn_jIae, a.before args U = true := gAt_of hl (by decide +kernel)
theorem gAt_GL_64 {l : Launch} {G : gG} (hl : gOk l G) : ∀ U, gSP G U → ∀ args : Array Value, (∀ w ∈ gTb, w.before args U = true) → ∀ a ∈ Bundle.ownAtoms0 "GridLedger" 64 "java/lang/IndexOutOfBoundsException" gEn_jIoob, a.before args U = true := gAt_of hl (by decide +kernel)
theorem d_GL_need_0 : decode prog_1_method_17_code 0 = .ok (.iload_n 0, 1) := by decide +kernel
theorem d_GL_need_1 : decode prog_1_method_17_code 1 = .ok (.ifCond .ne 11, 3) := by decide +kernel
theorem d_GL_need_12 : decode prog_1_method_17_code 12 = .ok (.return_, 1) := by decide +kernel
theorem d_GL_need_4 : decode prog_1_method_17_code 4 = .ok (.new 183, 3) := by decide +kernel
theorem d_GL_need_7 : decode prog_1_method_17_code 7 = .ok (.dup, 1) := by decide +kernel
theorem d_GL_need_8 : decode prog_1_method_17_code 8 = .ok (.invokespecial 185, 3) := by decide +kernel
theorem d_GL_need_11 : decode prog_1_method_17_code 11 = .ok (.athrow, 1) := by decide +kernel
set_option maxHeartbeats 4000000 in
theorem u_GL_need_0 {l : Launch} {G : gG} {d : Nat} {X : gX} {M : gM} {Nr : Nat} {K : Outcome → gX → gM → Prop}  {x0 : Int} (hx0 : 0 ≤ x0 ∧ x0 ≤ 1)  (hl : gOk l G) (T : (¬ x0 = 0 → (K (.returned none) X M)) ∧ (x0 = 0 → (1 ≤ Nr ∧ K (.threw (G.2.2.1 + (X.1 + 1))) (gNw X (19, 0)) (gZr M (X.1 + 1))))) : wp l G y_GL_need (gRr (d + 8) Nr) false K false 0 [.val (gI x0)] [] X M 0 0 := by
  refine wp_iload_n d_GL_need_0 rfl rfl ?_
  refine xz_ne (tgt := 12) d_GL_need_1 (by decide) (w32_id (g32_z hx0)) (fun h1 => ?_) (fun h1 => ?_)
  · have T := T.1 h1
    exact wp_return d_GL_need_12 rfl id (Nat.zero_le _) (Nat.zero_le _) T
  · have T := T.2 h1
    exact wp_throw (by decide) (ci := 13) (names := gEn_jIae) hl.1 d_GL_need_4 d_GL_need_7 d_GL_need_8 d_GL_need_11 cl_GL_183 it_jIae ii_jIae (by decide +kernel) (by decide +kernel) (gAt_GL_185 hl) rfl T.1 (g_six T.1) (g_frk d) (g_lok d) T.2
theorem eu_GL_need {l : Launch} {G : gG} {d : Nat} {X : gX} {M : gM} {Nr : Nat} {K : Outcome → gX → gM → Prop}  {x0 : Int} (T : wp l G y_GL_need (gRr (d + 8) Nr) false K false 0 [.val (gI x0)] [] X M 0 0) : gCt l G y_GL_need (gRr (d + 8) Nr) false [gI x0] X M K := gCt.of (plainFor_of_name rfl) (by simp only [lg_sl_R, lg_sl_I, lg_sl_L, lg_sl_N, List.length_cons, List.length_nil]; decide) (by unfold gEn; simp only [lg_sl_R, lg_sl_I, lg_sl_L, lg_sl_N]; exact wpt T (And.intro rfl True.intro))
set_option maxHeartbeats 4000000 in
theorem u_GL_needCell_0 {l : Launch} {G : gG} {d : Nat} {X : gX} {M : gM} {Nr : Nat} {K : Outcome → gX → gM → Prop}  {x0 : Int} (hx0 : g32 x0) {x1 : Int} (hx1 : g32 x1)  (T : (x0 < 0 → (cT l G y_GL_need (gRr (d + 7) Nr) false [gI 0] X M K ∨ cV l G y_GL_need (gRm (d + 7)) false [gI 0] X M (fun M1 => (K (.returned none) X M1)))) ∧ (¬ x0 < 0 → ((26 ≤ x0 → (cT l G y_GL_need (gRr (d + 7) Nr) false [gI 0] X M K ∨ cV l G y_GL_need (gRm (d + 7)) false [gI 0] X M (fun M2 => (K (.returned none) X M2)))) ∧ (¬ 26 ≤ x0 → ((x1 < 0 → (cT l G y_GL_need (gRr (d + 7) Nr) false [gI 0] X M K ∨ cV l G y_GL_need (gRm (d + 7)) false [gI 0] X M (fun M3 => (K (.returned none) X M3)))) ∧ (¬ x1 < 0 → ((200 ≤ x1 → (cT l G y_GL_need (gRr (d + 7) Nr) false [gI 0] X M K ∨ cV l G y_GL_need (gRm (d + 7)) false [gI 0] X M (fun M4 => (K (.returned none) X M4)))) ∧ (¬ 200 ≤ x1 → (cT l G y_GL_need (gRr (d + 7) Nr) false [gI 1] X M K ∨ cV l G y_GL_need (gRm (d + 7)) false [gI 1] X M (fun M5 => (K (.returned none) X M5))))))))))) : wp l G y_GL_needCell (gRr (d + 8) Nr) false K false 0 [.val (gI x0), .val (gI x1)] [] X M 0 0 := by
  refine wp_iload_n d_GL_needCell_0 rfl rfl ?_
  refine xz_lt (tgt := 25) d_GL_needCell_1 (by decide) (w32_id hx0) (fun h9 => ?_) (fun h9 => ?_)
  · have T := T.1 h9
    refine wp_iconst d_GL_needCell_25 ?_
    rcases T with T | T
    · exact ytS (by decide) (As := [gI 0]) (st := []) d_GL_needCell_26 ca_GL_need ml_GL_69 sm_GL_need  rfl (by decide) (by decide) rfl id (fun h => by cases h) T
    refine ycS_V (md' := false) (As := [gI 0]) (st := []) d_GL_needCell_26 ca_GL_need ml_GL_69 sm_GL_need  rfl (by decide) (by decide) rfl id id T (fun M1 T => ?_)
    exact wp_return d_GL_needCell_29 rfl id (Nat.zero_le _) (Nat.zero_le _) T
  · have T := T.2 h9
    refine wp_iload_n d_GL_needCell_4 rfl rfl ?_
    refine wp_bipush d_GL_needCell_5 ⟨by decide, by decide⟩ ?_
    refine xi_ge (tgt := 25) d_GL_needCell_7 (by decide) (w32_id hx0) (w32_id (g32_c (x := 26) rfl)) (fun h8 => ?_) (fun h8 => ?_)
    · have T := T.1 h8
      refine wp_iconst d_GL_needCell_25 ?_
      rcases T with T | T
      · exact ytS (by decide) (As := [gI 0]) (st := []) d_GL_needCell_26 ca_GL_need ml_GL_69 sm_GL_need  rfl (by decide) (by decide) rfl id (fun h => by cases h) T
      refine ycS_V (md' := false) (As := [gI 0]) (st := []) d_GL_needCell_26 ca_GL_need ml_GL_69 sm_GL_need  rfl (by decide) (by decide) rfl id id T (fun M2 T => ?_)
      exact wp_return d_GL_needCell_29 rfl id (Nat.zero_le _) (Nat.zero_le _) T
    · have T := T.2 h8
      refine wp_iload_n d_GL_needCell_10 rfl rfl ?_
      refine xz_lt (tgt := 25) d_GL_needCell_11 (by decide) (w32_id hx1) (fun h7 => ?_) (fun h7 => ?_)
      · have T := T.1 h7
        refine wp_iconst d_GL_needCell_25 ?_
        rcases T with T | T
        · exact ytS (by decide) (As := [gI 0]) (st := []) d_GL_needCell_26 ca_GL_need ml_GL_69 sm_GL_need  rfl (by decide) (by decide) rfl id (fun h => by cases h) T
        refine ycS_V (md' := false) (As := [gI 0]) (st := []) d_GL_needCell_26 ca_GL_need ml_GL_69 sm_GL_need  rfl (by decide) (by decide) rfl id id T (fun M3 T => ?_)
        exact wp_return d_GL_needCell_29 rfl id (Nat.zero_le _) (Nat.zero_le _) T
      · have T := T.2 h7
        refine wp_iload_n d_GL_needCell_14 rfl rfl ?_
        refine wp_sipush d_GL_needCell_15 ⟨by decide, by decide⟩ ?_
        refine xi_ge (tgt := 25) d_GL_needCell_18 (by decide) (w32_id hx1) (w32_id (g32_c (x := 200) rfl)) (fun h6 => ?_) (fun h6 => ?_)
        · have T := T.1 h6
          refine wp_iconst d_GL_needCell_25 ?_
          rcases T with T | T
          · exact ytS (by decide) (As := [gI 0]) (st := []) d_GL_needCell_26 ca_GL_need ml_GL_69 sm_GL_need  rfl (by decide) (by decide) rfl id (fun h => by cases h) T
          refine ycS_V (md' := false) (As := [gI 0]) (st := []) d_GL_needCell_26 ca_GL_need ml_GL_69 sm_GL_need  rfl (by decide) (by decide) rfl id id T (fun M4 T => ?_)
          exact wp_return d_GL_needCell_29 rfl id (Nat.zero_le _) (Nat.zero_le _) T
        · have T := T.2 h6
          refine wp_iconst d_GL_needCell_21 ?_
          refine wp_goto (tgt := 26) d_GL_needCell_22 (by decide) ?_
          rcases T with T | T
          · exact ytS (by decide) (As := [gI 1]) (st := []) d_GL_needCell_26 ca_GL_need ml_GL_69 sm_GL_need  rfl (by decide) (by decide) rfl id (fun h => by cases h) T
          refine ycS_V (md' := false) (As := [gI 1]) (st := []) d_GL_needCell_26 ca_GL_need ml_GL_69 sm_GL_need  rfl (by decide) (by decide) rfl id id T (fun M5 T => ?_)
          exact wp_return d_GL_needCell_29 rfl id (Nat.zero_le _) (Nat.zero_le _) T
theorem eu_GL_needCell {l : Launch} {G : gG} {d : Nat} {X : gX} {M : gM} {Nr : Nat} {K : Outcome → gX → gM → Prop}  {x0 : Int} {x1 : Int} (T : wp l G y_GL_needCell (gRr (d + 8) Nr) false K false 0 [.val (gI x0), .val (gI x1)] [] X M 0 0) : gCt l G y_GL_needCell (gRr (d + 8) Nr) false [gI x0, gI x1] X M K := gCt.of (plainFor_of_name rfl) (by simp only [lg_sl_R, lg_sl_I, lg_sl_L, lg_sl_N, List.length_cons, List.length_nil]; decide) (by unfold gEn; simp only [lg_sl_R, lg_sl_I, lg_sl_L, lg_sl_N]; exact wpt T (And.intro rfl (And.intro rfl True.intro)))
theorem d_GL_land_0 : decode prog_1_method_21_code 0 = .ok (.iload_n 1, 1) := by decide +kernel
theorem d_GL_land_1 : decode prog_1_method_21_code 1 = .ok (.ifCond .ne 11, 3) := by decide +kernel
theorem d_GL_land_12 : decode prog_1_method_21_code 12 = .ok (.aload_n 0, 1) := by decide +kernel
theorem d_GL_land_13 : decode prog_1_method_21_code 13 = .ok (.aload_n 0, 1) := by decide +kernel
theorem d_GL_land_14 : decode prog_1_method_21_code 14 = .ok (.getfield 81, 3) := by decide +kernel
theorem d_GL_land_17 : decode prog_1_method_21_code 17 = .ok (.iconst 1, 1) := by decide +kernel
theorem d_GL_land_18 : decode prog_1_method_21_code 18 = .ok (.iadd, 1) := by decide +kernel
theorem d_GL_land_19 : decode prog_1_method_21_code 19 = .ok (.bipush 41, 2) := by decide +kernel
theorem d_GL_land_21 : decode prog_1_method_21_code 21 = .ok (.irem, 1) := by decide +kernel
theorem d_GL_land_22 : decode prog_1_method_21_code 22 = .ok (.putfield 81, 3) := by decide +kernel
theorem d_GL_land_25 : decode prog_1_method_21_code 25 = .ok (.aload_n 0, 1) := by decide +kernel
theorem d_GL_land_26 : decode prog_1_method_21_code 26 = .ok (.getfield 40, 3) := by decide +kernel
theorem d_GL_land_29 : decode prog_1_method_21_code 29 = .ok (.aload_n 0, 1) := by decide +kernel
theorem d_GL_land_30 : decode prog_1_method_21_code 30 = .ok (.getfield 81, 3) := by decide +kernel
theorem d_GL_land_33 : decode prog_1_method_21_code 33 = .ok (.aaload, 1) := by decide +kernel
theorem d_GL_land_34 : decode prog_1_method_21_code 34 = .ok (.astore_n 2, 1) := by decide +kernel
theorem d_GL_land_35 : decode prog_1_method_21_code 35 = .ok (.aload_n 0, 1) := by decide +kernel
theorem d_GL_land_36 : decode prog_1_method_21_code 36 = .ok (.getfield 40, 3) := by decide +kernel
theorem d_GL_land_39 : decode prog_1_method_21_code 39 = .ok (.aload_n 0, 1) := by decide +kernel
theorem d_GL_land_40 : decode prog_1_method_21_code 40 = .ok (.getfield 81, 3) := by decide +kernel
theorem d_GL_land_43 : decode prog_1_method_21_code 43 = .ok (.aload_n 0, 1) := by decide +kernel
theorem d_GL_land_44 : decode prog_1_method_21_code 44 = .ok (.getfield 45, 3) := by decide +kernel
theorem d_GL_land_47 : decode prog_1_method_21_code 47 = .ok (.aastore, 1) := by decide +kernel
theorem d_GL_land_48 : decode prog_1_method_21_code 48 = .ok (.aload_n 0, 1) := by decide +kernel
theorem d_GL_land_49 : decode prog_1_method_21_code 49 = .ok (.aload_n 2, 1) := by decide +kernel
theorem d_GL_land_50 : decode prog_1_method_21_code 50 = .ok (.putfield 45, 3) := by decide +kernel
theorem d_GL_land_53 : decode prog_1_method_21_code 53 = .ok (.aload_n 0, 1) := by decide +kernel
theorem d_GL_land_54 : decode prog_1_method_21_code 54 = .ok (.aload_n 0, 1) := by decide +kernel
theorem d_GL_land_55 : decode prog_1_method_21_code 55 = .ok (.getfield 115, 3) := by decide +kernel
theorem d_GL_land_58 : decode prog_1_method_21_code 58 = .ok (.iconst 1, 1) := by decide +kernel
theorem d_GL_land_59 : decode prog_1_method_21_code 59 = .ok (.iadd, 1) := by decide +kernel
theorem d_GL_land_60 : decode prog_1_method_21_code 60 = .ok (.bipush 40, 2) := by decide +kernel
theorem d_GL_land_62 : decode prog_1_method_21_code 62 = .ok (.invokestatic 186, 3) := by decide +kernel
theorem d_GL_land_65 : decode prog_1_method_21_code 65 = .ok (.putfield 115, 3) := by decide +kernel
theorem d_GL_land_68 : decode prog_1_method_21_code 68 = .ok (.aload_n 0, 1) := by decide +kernel
theorem d_GL_land_69 : decode prog_1_method_21_code 69 = .ok (.iconst 0, 1) := by decide +kernel
theorem d_GL_land_70 : decode prog_1_method_21_code 70 = .ok (.putfield 121, 3) := by decide +kernel
theorem d_GL_land_73 : decode prog_1_method_21_code 73 = .ok (.aload_n 0, 1) := by decide +kernel
theorem d_GL_land_74 : decode prog_1_method_21_code 74 = .ok (.dup, 1) := by decide +kernel
theorem d_GL_land_75 : decode prog_1_method_21_code 75 = .ok (.getfield 124, 3) := by decide +kernel
theorem d_GL_land_78 : decode prog_1_method_21_code 78 = .ok (.iconst 1, 1) := by decide +kernel
theorem d_GL_land_79 : decode prog_1_method_21_code 79 = .ok (.iadd, 1) := by decide +kernel
theorem d_GL_land_80 : decode prog_1_method_21_code 80 = .ok (.putfield 124, 3) := by decide +kernel
theorem d_GL_land_83 : decode prog_1_method_21_code 83 = .ok (.return_, 1) := by decide +kernel
theorem d_GL_land_4 : decode prog_1_method_21_code 4 = .ok (.new 118, 3) := by decide +kernel
theorem d_GL_land_7 : decode prog_1_method_21_code 7 = .ok (.dup, 1) := by decide +kernel
theorem d_GL_land_8 : decode prog_1_method_21_code 8 = .ok (.invokespecial 120, 3) := by decide +kernel
theorem d_GL_land_11 : decode prog_1_method_21_code 11 = .ok (.athrow, 1) := by decide +kernel
set_option maxHeartbeats 4000000 in
theorem u_GL_land_0 {l : Launch} {G : gG} {d : Nat} {X : gX} {M : gM} {Nr : Nat} {K : Outcome → gX → gM → Prop} {c : Nat} (hX : glX X c) {x1 : Int} (hx1 : 0 ≤ x1 ∧ x1 ≤ 1)  (hl : gOk l G) (T : (¬ x1 = 0 → (g32 (M c 8) → (g32 ((gUp M c 8 (w32 ((w32 ((M c 8) + 1)).tmod 41))) c 8) → (((0 : Int) ≤ (gUp M c 8 (w32 ((w32 ((M c 8) + 1)).tmod 41))) c 8 ∧ (gUp M c 8 (w32 ((w32 ((M c 8) + 1)).tmod 41))) c 8 < 41) ∧ gsX X (X.2.2 (c + 23) (Int.toNat ((gUp M c 8 (w32 ((w32 ((M c 8) + 1)).tmod 41))) c 8))) ∧ (g32 ((gUp M c 8 (w32 ((w32 ((M c 8) + 1)).tmod 41))) c 8) → (gsX X (X.2.2 c 7) ∧ (((0 : Int) ≤ (gUp M c 8 (w32 ((w32 ((M c 8) + 1)).tmod 41))) c 8 ∧ (gUp M c 8 (w32 ((w32 ((M c 8) + 1)).tmod 41))) c 8 < 41) ∧ (∀ X7 : gX, X7 = gGu X (c + 23) (Int.toNat ((gUp M c 8 (w32 ((w32 ((M c 8) + 1)).tmod 41))) c 8)) (X.2.2 c 7) → glX X7 c ∧ gsX X7 (X.2.2 (c + 23) (Int.toNat ((gUp M c 8 (w32 ((w32 ((M c 8) + 1)).tmod 41))) c 8))) ∧ (∀ X11 : gX, X11 = gGu X7 c 7 (X.2.2 (c + 23) (Int.toNat ((gUp M c 8 (w32 ((w32 ((M c 8) + 1)).tmod 41))) c 8))) → glX X11 c ∧ (g32 ((gUp M c 8 (w32 ((w32 ((M c 8) + 1)).tmod 41))) c 9) → (cI l G y_jMath_min (gRm (d + 7)) false [gI (((gUp M c 8 (w32 ((w32 ((M c 8) + 1)).tmod 41))) c 9) + 1), gI 40] X11 (gUp M c 8 (w32 ((w32 ((M c 8) + 1)).tmod 41))) (fun v16 M15 => (g32 ((gUp (gUp M15 c 9 v16) c 10 0) c 11) → (K (.returned none) X11 (gUp (gUp (gUp M15 c 9 v16) c 10 0) c 11 (w32 (((gUp (gUp M15 c 9 v16) c 10 0) c 11) + 1))))))))))))))))) ∧ (x1 = 0 → (1 ≤ Nr ∧ K (.threw (G.2.2.1 + (X.1 + 1))) (gNw X (20, 0)) (gZr M (X.1 + 1))))) : wp l G y_GL_land (gRr (d + 8) Nr) true K false 0 [.val (gR G c), .val (gI x1), .unset] [] X M 0 0 := by
  refine wp_iload_n d_GL_land_0 rfl rfl ?_
  refine xz_ne (tgt := 12) d_GL_land_1 (by decide) (w32_id (g32_z hx1)) (fun h19 => ?_) (fun h19 => ?_)
  · have T := T.1 h19
    refine wp_aload_n d_GL_land_12 rfl rfl (g_nz (gl_1 hX 0)) ?_
    refine wp_aload_n d_GL_land_13 rfl rfl (g_nz (gl_1 hX 0)) ?_
    refine xgetI d_GL_land_14 gc_GL f_GL_81.1 f_GL_81.2.1 f_GL_81.2.2.1 (gl_1 hX 0) (gl_2 hX (a := 0) (by decide)) (gl_s0 hX) f_GL_81.2.2.2.2.1 (fun h1 => ?_)
    have T := T h1
    refine wp_iconst d_GL_land_17 ?_
    refine wp_iadd d_GL_land_18 ?_
    refine wp_bipush d_GL_land_19 ⟨by decide, by decide⟩ ?_
    refine xirem d_GL_land_21 rfl (w32_id (g32_c (x := 41) rfl)) (by decide) ?_
    refine xputI d_GL_land_22 gc_GL f_GL_81.1 f_GL_81.2.1 f_GL_81.2.2.1 (gl_1 hX 0) (gl_2 hX (a := 0) (by decide)) (gl_s0 hX) f_GL_81.2.2.2.1 f_GL_81.2.2.2.2.1 f_GL_81.2.2.2.2.2 rfl ?_
    refine wp_aload_n d_GL_land_25 rfl rfl (g_nz (gl_1 hX 0)) ?_
    refine xgetR d_GL_land_26 gc_GL f_GL_40.1 f_GL_40.2.1 f_GL_40.2.2.1 (gl_1 hX 0) (gl_2 hX (a := 0) (by decide)) (gl_s0 hX) f_GL_40.2.2.2.2.1 (gl_f0 hX 26 rfl) ?_
    refine wp_aload_n d_GL_land_29 rfl rfl (g_nz (gl_1 hX 0)) ?_
    refine xgetI d_GL_land_30 gc_GL f_GL_81.1 f_GL_81.2.1 f_GL_81.2.2.1 (gl_1 hX 0) (gl_2 hX (a := 0) (by decide)) (gl_s0 hX) f_GL_81.2.2.2.2.1 (fun h2 => ?_)
    have T := T h2
    have h3 := T.1
    have q4 := T.2.1
    refine xaald d_GL_land_33 (Or.inr rfl) (gl_1 hX 23) (gl_2 hX (a := 23) (by decide)) (gl_s hX 23 rfl) (g32_n h3 (by decide)) h3.1 h3.2 rfl ?_
    have T := T.2.2
    refine wp_astore_n (L' := [.val (gR G c), .val (gI x1), .val (gR G (X.2.2 (c + 23) (Int.toNat ((gUp M c 8 (w32 ((w32 ((M c 8) + 1)).tmod 41))) c 8))))]) d_GL_land_34 rfl (g_nz q4.1) (by decide) rfl ?_
    refine wp_aload_n d_GL_land_35 rfl rfl (g_nz (gl_1 hX 0)) ?_
    refine xgetR d_GL_land_36 gc_GL f_GL_40.1 f_GL_40.2.1 f_GL_40.2.2.1 (gl_1 hX 0) (gl_2 hX (a := 0) (by decide)) (gl_s0 hX) f_GL_40.2.2.2.2.1 (gl_f0 hX 26 rfl) ?_
    refine wp_aload_n d_GL_land_39 rfl rfl (g_nz (gl_1 hX 0)) ?_
    refine xgetI d_GL_land_40 gc_GL f_GL_81.1 f_GL_81.2.1 f_GL_81.2.2.1 (gl_1 hX 0) (gl_2 hX (a := 0) (by decide)) (gl_s0 hX) f_GL_81.2.2.2.2.1 (fun h5 => ?_)
    have T := T h5
    refine wp_aload_n d_GL_land_43 rfl rfl (g_nz (gl_1 hX 0)) ?_
    have q6 := T.1
    have T := T.2
    refine xgetR d_GL_land_44 gc_GL f_GL_45.1 f_GL_45.2.1 f_GL_45.2.2.1 (gl_1 hX 0) (gl_2 hX (a := 0) (by decide)) (gl_s0 hX) f_GL_45.2.2.2.2.1 rfl ?_
    refine wp_aastore d_GL_land_47 (gl_1 hX 23) (gl_2 hX (a := 23) (by decide)) (gl_s hX 23 rfl) (g32_n T.1 (by decide)) T.1.1 T.1.2 q6.1 (gs_2 q6) q6.2.2.1 ?_
    have T := T.2
    generalize he10 : gGu X (c + 23) (Int.toNat ((gUp M c 8 (w32 ((w32 ((M c 8) + 1)).tmod 41))) c 8)) (X.2.2 c 7) = X7
    have T := T X7 he10.symm
    obtain ⟨hX8, q9, T⟩ := T
    refine wp_aload_n d_GL_land_48 rfl rfl (g_nz (gl_1 hX8 0)) ?_
    refine wp_aload_n d_GL_land_49 rfl rfl (g_nz q9.1) ?_
    refine xputR d_GL_land_50 gc_GL f_GL_45.1 f_GL_45.2.1 f_GL_45.2.2.1 (gl_1 hX8 0) (gl_2 hX8 (a := 0) (by decide)) (gl_s0 hX8) f_GL_45.2.2.2.1 f_GL_45.2.2.2.2.1 f_GL_45.2.2.2.2.2 ?_
    generalize he13 : gGu X7 c 7 (X.2.2 (c + 23) (Int.toNat ((gUp M c 8 (w32 ((w32 ((M c 8) + 1)).tmod 41))) c 8))) = X11
    have T := T X11 he13.symm
    obtain ⟨hX12, T⟩ := T
    refine wp_aload_n d_GL_land_53 rfl rfl (g_nz (gl_1 hX12 0)) ?_
    refine wp_aload_n d_GL_land_54 rfl rfl (g_nz (gl_1 hX12 0)) ?_
    refine xgetI d_GL_land_55 gc_GL f_GL_115.1 f_GL_115.2.1 f_GL_115.2.2.1 (gl_1 hX12 0) (gl_2 hX12 (a := 0) (by decide)) (gl_s0 hX12) f_GL_115.2.2.2.2.1 (fun h14 => ?_)
    have T := T h14
    refine wp_iconst d_GL_land_58 ?_
    refine wp_iadd d_GL_land_59 ?_
    refine wp_bipush d_GL_land_60 ⟨by decide, by decide⟩ ?_
    refine ycS_I (md' := true) (As := [gI (((gUp M c 8 (w32 ((w32 ((M c 8) + 1)).tmod 41))) c 9) + 1), gI 40]) (st := [gR G c]) d_GL_land_62 ca_jMath_min ml_GL_186 sm_jMath_min rfl (by decide) (by simp only [List.map, gR_cat, gI_cat, gL_cat, List.sum_cons, List.sum_nil]; decide) rfl (fun _ => rfl) (fun _ => rfl) T (fun v16 M15 h17 T => ?_)
    refine xputI d_GL_land_65 gc_GL f_GL_115.1 f_GL_115.2.1 f_GL_115.2.2.1 (gl_1 hX12 0) (gl_2 hX12 (a := 0) (by decide)) (gl_s0 hX12) f_GL_115.2.2.2.1 f_GL_115.2.2.2.2.1 f_GL_115.2.2.2.2.2 (w32_id h17) ?_
    refine wp_aload_n d_GL_land_68 rfl rfl (g_nz (gl_1 hX12 0)) ?_
    refine wp_iconst d_GL_land_69 ?_
    refine xputI d_GL_land_70 gc_GL f_GL_121.1 f_GL_121.2.1 f_GL_121.2.2.1 (gl_1 hX12 0) (gl_2 hX12 (a := 0) (by decide)) (gl_s0 hX12) f_GL_121.2.2.2.1 f_GL_121.2.2.2.2.1 f_GL_121.2.2.2.2.2 (w32_id (g32_c (x := 0) rfl)) ?_
    refine wp_aload_n d_GL_land_73 rfl rfl (g_nz (gl_1 hX12 0)) ?_
    refine wp_dup d_GL_land_74 (gR_cat _) ?_
    refine xgetI d_GL_land_75 gc_GL f_GL_124.1 f_GL_124.2.1 f_GL_124.2.2.1 (gl_1 hX12 0) (gl_2 hX12 (a := 0) (by decide)) (gl_s0 hX12) f_GL_124.2.2.2.2.1 (fun h18 => ?_)
    have T := T h18
    refine wp_iconst d_GL_land_78 ?_
    refine wp_iadd d_GL_land_79 ?_
    refine xputI d_GL_land_80 gc_GL f_GL_124.1 f_GL_124.2.1 f_GL_124.2.2.1 (gl_1 hX12 0) (gl_2 hX12 (a := 0) (by decide)) (gl_s0 hX12) f_GL_124.2.2.2.1 f_GL_124.2.2.2.2.1 f_GL_124.2.2.2.2.2 rfl ?_
    exact wp_return d_GL_land_83 rfl (fun _ => rfl) (Nat.zero_le _) (Nat.zero_le _) T
  · have T := T.2 h19
    exact wp_throw (by decide) (ci := 14) (names := gEn_jIse) hl.1 d_GL_land_4 d_GL_land_7 d_GL_land_8 d_GL_land_11 cl_GL_118 it_jIse ii_jIse (by decide +kernel) (by decide +kernel) (gAt_GL_120 hl) rfl T.1 (g_six T.1) (g_frk d) (g_lok d) T.2
theorem eu_GL_land {l : Launch} {G : gG} {d : Nat} {X : gX} {M : gM} {Nr : Nat} {K : Outcome → gX → gM → Prop} {c : Nat} {x1 : Int} (T : wp l G y_GL_land (gRr (d + 8) Nr) true K false 0 [.val (gR G c), .val (gI x1), .unset] [] X M 0 0) : gCt l G y_GL_land (gRr (d + 8) Nr) true [gR G c, gI x1] X M K := gCt.of (plainFor_of_name rfl) (by simp only [lg_sl_R, lg_sl_I, lg_sl_L, lg_sl_N, List.length_cons, List.length_nil]; decide) (by unfold gEn; simp only [lg_sl_R, lg_sl_I, lg_sl_L, lg_sl_N]; exact wpt T (And.intro rfl (And.intro rfl True.intro)))
theorem d_Ed_open_0 : decode prog_5_method_2_code 0 = .ok (.aload_n 0, 1) := by decide +kernel
theorem d_Ed_open_1 : decode prog_5_method_2_code 1 = .ok (.aload_n 1, 1) := by decide +kernel
theorem d_Ed_open_2 : decode prog_5_method_2_code 2 = .ok (.putfield 19, 3) := by decide +kernel
theorem d_Ed_open_5 : decode prog_5_method_2_code 5 = .ok (.aload_n 0, 1) := by decide +kernel
theorem d_Ed_open_6 : decode prog_5_method_2_code 6 = .ok (.aload_n 2, 1) := by decide +kernel
theorem d_Ed_open_7 : decode prog_5_method_2_code 7 = .ok (.putfield 23, 3) := by decide +kernel
theorem d_Ed_open_10 : decode prog_5_method_2_code 10 = .ok (.aload_n 0, 1) := by decide +kernel
theorem d_Ed_open_11 : decode prog_5_method_2_code 11 = .ok (.getfield 23, 3) := by decide +kernel
theorem d_Ed_open_14 : decode prog_5_method_2_code 14 = .ok (.iconst 0, 1) := by decide +kernel
theorem d_Ed_open_15 : decode prog_5_method_2_code 15 = .ok (.putfield 26, 3) := by decide +kernel
theorem d_Ed_open_18 : decode prog_5_method_2_code 18 = .ok (.return_, 1) := by decide +kernel
set_option maxHeartbeats 4000000 in
theorem u_Ed_open_0 {l : Launch} {G : gG} {d : Nat} {X : gX} {M : gM} {K : Outcome → gX → gM → Prop} {c : Nat} (hX : glX X c) {r1 : Nat} (hr1 : gsX X r1) {r2 : Nat} (hr2 : gsX X r2)  (T : ∀ X1 : gX, X1 = gGu X (c + 21) 2 r1 → glX X1 c ∧ gsX X1 r2 ∧ (∀ X5 : gX, X5 = gGu X1 (c + 21) 3 r2 → glX X5 c ∧ (gsX X5 (X5.2.2 (c + 21) 3) ∧ (K (.returned none) X5 (gUp M (X5.2.2 (c + 21) 3) 0 0))))) : wp l G y_Ed_open (gRr d 0) true K false 0 [.val (gR G (c + 21)), .val (gR G r1), .val (gR G r2)] [] X M 0 0 := by
  refine wp_aload_n d_Ed_open_0 rfl rfl (g_nz (gl_1 hX 21)) ?_
  refine wp_aload_n d_Ed_open_1 rfl rfl (g_nz hr1.1) ?_
  refine xputR d_Ed_open_2 gc_Ed f_Ed_19.1 f_Ed_19.2.1 f_Ed_19.2.2.1 (gl_1 hX 21) (gl_2 hX (a := 21) (by decide)) (gl_s hX 21 rfl) f_Ed_19.2.2.2.1 f_Ed_19.2.2.2.2.1 f_Ed_19.2.2.2.2.2 ?_
  generalize he4 : gGu X (c + 21) 2 r1 = X1
  have T := T X1 he4.symm
  obtain ⟨hX2, q3, T⟩ := T
  refine wp_aload_n d_Ed_open_5 rfl rfl (g_nz (gl_1 hX2 21)) ?_
  refine wp_aload_n d_Ed_open_6 rfl rfl (g_nz q3.1) ?_
  refine xputR d_Ed_open_7 gc_Ed f_Ed_23.1 f_Ed_23.2.1 f_Ed_23.2.2.1 (gl_1 hX2 21) (gl_2 hX2 (a := 21) (by decide)) (gl_s hX2 21 rfl) f_Ed_23.2.2.2.1 f_Ed_23.2.2.2.2.1 f_Ed_23.2.2.2.2.2 ?_
  generalize he7 : gGu X1 (c + 21) 3 r2 = X5
  have T := T X5 he7.symm
  obtain ⟨hX6, T⟩ := T
  refine wp_aload_n d_Ed_open_10 rfl rfl (g_nz (gl_1 hX6 21)) ?_
  have q8 := T.1
  have T := T.2
  refine xgetR d_Ed_open_11 gc_Ed f_Ed_23.1 f_Ed_23.2.1 f_Ed_23.2.2.1 (gl_1 hX6 21) (gl_2 hX6 (a := 21) (by decide)) (gl_s hX6 21 rfl) f_Ed_23.2.2.2.2.1 rfl ?_
  refine wp_iconst d_Ed_open_14 ?_
  refine xputI d_Ed_open_15 gc_St f_Ed_26.1 f_Ed_26.2.1 f_Ed_26.2.2.1 q8.1 (gs_2 q8) q8.2.2.1 f_Ed_26.2.2.2.1 f_Ed_26.2.2.2.2.1 f_Ed_26.2.2.2.2.2 (w32_id (g32_c (x := 0) rfl)) ?_
  exact wp_return d_Ed_open_18 rfl (fun _ => rfl) (Nat.zero_le _) (Nat.zero_le _) T
theorem eu_Ed_open {l : Launch} {G : gG} {d : Nat} {X : gX} {M : gM} {K : Outcome → gX → gM → Prop} {c : Nat} {r1 : Nat} {r2 : Nat} (T : wp l G y_Ed_open (gRr d 0) true K false 0 [.val (gR G (c + 21)), .val (gR G r1), .val (gR G r2)] [] X M 0 0) : gCt l G y_Ed_open (gRr d 0) true [gR G (c + 21), gR G r1, gR G r2] X M K := gCt.of (plainFor_of_name rfl) (by simp only [lg_sl_R, lg_sl_I, lg_sl_L, lg_sl_N, List.length_cons, List.length_nil]; decide) (by unfold gEn; simp only [lg_sl_R, lg_sl_I, lg_sl_L, lg_sl_N]; exact wpt T (And.intro rfl (And.intro rfl (And.intro rfl True.intro))))
theorem d_Ma_open_0 : decode prog_6_method_2_code 0 = .ok (.aload_n 0, 1) := by decide +kernel
theorem d_Ma_open_1 : decode prog_6_method_2_code 1 = .ok (.aload_n 1, 1) := by decide +kernel
theorem d_Ma_open_2 : decode prog_6_method_2_code 2 = .ok (.putfield 28, 3) := by decide +kernel
theorem d_Ma_open_5 : decode prog_6_method_2_code 5 = .ok (.aload_n 0, 1) := by decide +kernel
theorem d_Ma_open_6 : decode prog_6_method_2_code 6 = .ok (.getfield 37, 3) := by decide +kernel
theorem d_Ma_open_9 : decode prog_6_method_2_code 9 = .ok (.aload_n 2, 1) := by decide +kernel
theorem d_Ma_open_10 : decode prog_6_method_2_code 10 = .ok (.putfield 41, 3) := by decide +kernel
theorem d_Ma_open_13 : decode prog_6_method_2_code 13 = .ok (.return_, 1) := by decide +kernel
set_option maxHeartbeats 4000000 in
theorem u_Ma_open_0 {l : Launch} {G : gG} {d : Nat} {X : gX} {M : gM} {K : Outcome → gX → gM → Prop} {c : Nat} (hX : glX X c) {r1 : Nat} (hr1 : gsX X r1) {r2 n2 : Nat} (hr2 : gvX X r2 n2)  (T : ∀ X1 : gX, X1 = gGu X (c + 1057) 4 r1 → glX X1 c ∧ gvX X1 r2 n2 ∧ (∀ X5 : gX, X5 = gGu X1 (c + 1167) 2 r2 → glX X5 c ∧ (K (.returned none) X5 M))) : wp l G y_Ma_open (gRr d 0) true K false 0 [.val (gR G (c + 1057)), .val (gR G r1), .val (gR G r2)] [] X M 0 0 := by
  refine wp_aload_n d_Ma_open_0 rfl rfl (g_nz (gl_1 hX 1057)) ?_
  refine wp_aload_n d_Ma_open_1 rfl rfl (g_nz hr1.1) ?_
  refine xputR d_Ma_open_2 gc_Ma f_Ma_28.1 f_Ma_28.2.1 f_Ma_28.2.2.1 (gl_1 hX 1057) (gl_2 hX (a := 1057) (by decide)) (gl_s hX 37 rfl) f_Ma_28.2.2.2.1 f_Ma_28.2.2.2.2.1 f_Ma_28.2.2.2.2.2 ?_
  generalize he4 : gGu X (c + 1057) 4 r1 = X1
  have T := T X1 he4.symm
  obtain ⟨hX2, q3, T⟩ := T
  refine wp_aload_n d_Ma_open_5 rfl rfl (g_nz (gl_1 hX2 1057)) ?_
  refine xgetR d_Ma_open_6 gc_Ma f_Ma_37.1 f_Ma_37.2.1 f_Ma_37.2.2.1 (gl_1 hX2 1057) (gl_2 hX2 (a := 1057) (by decide)) (gl_s hX2 37 rfl) f_Ma_37.2.2.2.2.1 (gl_f hX2 45 rfl) ?_
  refine wp_aload_n d_Ma_open_9 rfl rfl (g_nz q3.1) ?_
  refine xputR d_Ma_open_10 gc_Bx f_Ma_41.1 f_Ma_41.2.1 f_Ma_41.2.2.1 (gl_1 hX2 1167) (gl_2 hX2 (a := 1167) (by decide)) (gl_s hX2 39 rfl) f_Ma_41.2.2.2.1 f_Ma_41.2.2.2.2.1 f_Ma_41.2.2.2.2.2 ?_
  generalize he7 : gGu X1 (c + 1167) 2 r2 = X5
  have T := T X5 he7.symm
  obtain ⟨hX6, T⟩ := T
  exact wp_return d_Ma_open_13 rfl (fun _ => rfl) (Nat.zero_le _) (Nat.zero_le _) T
theorem eu_Ma_open {l : Launch} {G : gG} {d : Nat} {X : gX} {M : gM} {K : Outcome → gX → gM → Prop} {c : Nat} {r1 : Nat} {r2 : Nat} (T : wp l G y_Ma_open (gRr d 0) true K false 0 [.val (gR G (c + 1057)), .val (gR G r1), .val (gR G r2)] [] X M 0 0) : gCt l G y_Ma_open (gRr d 0) true [gR G (c + 1057), gR G r1, gR G r2] X M K := gCt.of (plainFor_of_name rfl) (by simp only [lg_sl_R, lg_sl_I, lg_sl_L, lg_sl_N, List.length_cons, List.length_nil]; decide) (by unfold gEn; simp only [lg_sl_R, lg_sl_I, lg_sl_L, lg_sl_N]; exact wpt T (And.intro rfl (And.intro rfl (And.intro rfl True.intro))))
theorem d_Rs_follow_0 : decode prog_9_method_2_code 0 = .ok (.aload_n 0, 1) := by decide +kernel
theorem d_Rs_follow_1 : decode prog_9_method_2_code 1 = .ok (.getfield 30, 3) := by decide +kernel
theorem d_Rs_follow_4 : decode prog_9_method_2_code 4 = .ok (.astore_n 2, 1) := by decide +kernel
theorem d_Rs_follow_5 : decode prog_9_method_2_code 5 = .ok (.aload_n 0, 1) := by decide +kernel
theorem d_Rs_follow_6 : decode prog_9_method_2_code 6 = .ok (.getfield 23, 3) := by decide +kernel
theorem d_Rs_follow_9 : decode prog_9_method_2_code 9 = .ok (.astore_n 3, 1) := by decide +kernel
theorem d_Rs_follow_10 : decode prog_9_method_2_code 10 = .ok (.aload_n 0, 1) := by decide +kernel
theorem d_Rs_follow_11 : decode prog_9_method_2_code 11 = .ok (.aload_n 0, 1) := by decide +kernel
theorem d_Rs_follow_12 : decode prog_9_method_2_code 12 = .ok (.getfield 27, 3) := by decide +kernel
theorem d_Rs_follow_15 : decode prog_9_method_2_code 15 = .ok (.putfield 23, 3) := by decide +kernel
theorem d_Rs_follow_18 : decode prog_9_method_2_code 18 = .ok (.aload_n 0, 1) := by decide +kernel
theorem d_Rs_follow_19 : decode prog_9_method_2_code 19 = .ok (.aload_n 3, 1) := by decide +kernel
theorem d_Rs_follow_20 : decode prog_9_method_2_code 20 = .ok (.putfield 27, 3) := by decide +kernel
theorem d_Rs_follow_23 : decode prog_9_method_2_code 23 = .ok (.aload_n 0, 1) := by decide +kernel
theorem d_Rs_follow_24 : decode prog_9_method_2_code 24 = .ok (.aload_n 1, 1) := by decide +kernel
theorem d_Rs_follow_25 : decode prog_9_method_2_code 25 = .ok (.putfield 30, 3) := by decide +kernel
theorem d_Rs_follow_28 : decode prog_9_method_2_code 28 = .ok (.iconst 0, 1) := by decide +kernel
theorem d_Rs_follow_29 : decode prog_9_method_2_code 29 = .ok (.istore 4, 2) := by decide +kernel
theorem d_Rs_follow_31 : decode prog_9_method_2_code 31 = .ok (.iload 4, 2) := by decide +kernel
theorem d_Rs_follow_33 : decode prog_9_method_2_code 33 = .ok (.aload_n 2, 1) := by decide +kernel
theorem d_Rs_follow_34 : decode prog_9_method_2_code 34 = .ok (.getfield 52, 3) := by decide +kernel
theorem d_Rs_follow_37 : decode prog_9_method_2_code 37 = .ok (.if_icmp .ge 24, 3) := by decide +kernel
theorem d_Rs_follow_61 : decode prog_9_method_2_code 61 = .ok (.iconst 0, 1) := by decide +kernel
theorem d_Rs_follow_62 : decode prog_9_method_2_code 62 = .ok (.istore 4, 2) := by decide +kernel
theorem d_Rs_follow_40 : decode prog_9_method_2_code 40 = .ok (.aload_n 0, 1) := by decide +kernel
theorem d_Rs_follow_41 : decode prog_9_method_2_code 41 = .ok (.getfield 9, 3) := by decide +kernel
theorem d_Rs_follow_44 : decode prog_9_method_2_code 44 = .ok (.aload_n 2, 1) := by decide +kernel
theorem d_Rs_follow_45 : decode prog_9_method_2_code 45 = .ok (.getfield 58, 3) := by decide +kernel
theorem d_Rs_follow_48 : decode prog_9_method_2_code 48 = .ok (.iload 4, 2) := by decide +kernel
theorem d_Rs_follow_50 : decode prog_9_method_2_code 50 = .ok (.iaload, 1) := by decide +kernel
theorem d_Rs_follow_51 : decode prog_9_method_2_code 51 = .ok (.sipush 400, 3) := by decide +kernel
theorem d_Rs_follow_54 : decode prog_9_method_2_code 54 = .ok (.iastore, 1) := by decide +kernel
theorem d_Rs_follow_55 : decode prog_9_method_2_code 55 = .ok (.iinc 4 1, 3) := by decide +kernel
theorem d_Rs_follow_58 : decode prog_9_method_2_code 58 = .ok (.goto (-27), 3) := by decide +kernel
theorem d_Rs_follow_64 : decode prog_9_method_2_code 64 = .ok (.iload 4, 2) := by decide +kernel
theorem d_Rs_follow_66 : decode prog_9_method_2_code 66 = .ok (.aload_n 1, 1) := by decide +kernel
theorem d_Rs_follow_67 : decode prog_9_method_2_code 67 = .ok (.getfield 52, 3) := by decide +kernel
theorem d_Rs_follow_70 : decode prog_9_method_2_code 70 = .ok (.if_icmp .ge 23, 3) := by decide +kernel
theorem d_Rs_follow_93 : decode prog_9_method_2_code 93 = .ok (.aload_n 0, 1) := by decide +kernel
theorem d_Rs_follow_94 : decode prog_9_method_2_code 94 = .ok (.getfield 39, 3) := by decide +kernel
theorem d_Rs_follow_97 : decode prog_9_method_2_code 97 = .ok (.aload_n 1, 1) := by decide +kernel
theorem d_Rs_follow_98 : decode prog_9_method_2_code 98 = .ok (.aload_n 0, 1) := by decide +kernel
theorem d_Rs_follow_99 : decode prog_9_method_2_code 99 = .ok (.getfield 9, 3) := by decide +kernel
theorem d_Rs_follow_102 : decode prog_9_method_2_code 102 = .ok (.invokevirtual 61, 3) := by decide +kernel
theorem d_Rs_follow_105 : decode prog_9_method_2_code 105 = .ok (.aload_n 0, 1) := by decide +kernel
theorem d_Rs_follow_106 : decode prog_9_method_2_code 106 = .ok (.getfield 48, 3) := by decide +kernel
theorem d_Rs_follow_109 : decode prog_9_method_2_code 109 = .ok (.aload_n 1, 1) := by decide +kernel
theorem d_Rs_follow_110 : decode prog_9_method_2_code 110 = .ok (.aload_n 0, 1) := by decide +kernel
theorem d_Rs_follow_111 : decode prog_9_method_2_code 111 = .ok (.getfield 23, 3) := by decide +kernel
theorem d_Rs_follow_114 : decode prog_9_method_2_code 114 = .ok (.invokevirtual 65, 3) := by decide +kernel
theorem d_Rs_follow_117 : decode prog_9_method_2_code 117 = .ok (.iconst 0, 1) := by decide +kernel
theorem d_Rs_follow_118 : decode prog_9_method_2_code 118 = .ok (.istore 4, 2) := by decide +kernel
theorem d_Rs_follow_73 : decode prog_9_method_2_code 73 = .ok (.aload_n 0, 1) := by decide +kernel
theorem d_Rs_follow_74 : decode prog_9_method_2_code 74 = .ok (.getfield 9, 3) := by decide +kernel
theorem d_Rs_follow_77 : decode prog_9_method_2_code 77 = .ok (.aload_n 1, 1) := by decide +kernel
theorem d_Rs_follow_78 : decode prog_9_method_2_code 78 = .ok (.getfield 58, 3) := by decide +kernel
theorem d_Rs_follow_81 : decode prog_9_method_2_code 81 = .ok (.iload 4, 2) := by decide +kernel
theorem d_Rs_follow_83 : decode prog_9_method_2_code 83 = .ok (.iaload, 1) := by decide +kernel
theorem d_Rs_follow_84 : decode prog_9_method_2_code 84 = .ok (.iload 4, 2) := by decide +kernel
theorem d_Rs_follow_86 : decode prog_9_method_2_code 86 = .ok (.iastore, 1) := by decide +kernel
theorem d_Rs_follow_87 : decode prog_9_method_2_code 87 = .ok (.iinc 4 1, 3) := by decide +kernel
theorem d_Rs_follow_90 : decode prog_9_method_2_code 90 = .ok (.goto (-26), 3) := by decide +kernel
theorem d_Rs_follow_120 : decode prog_9_method_2_code 120 = .ok (.iload 4, 2) := by decide +kernel
theorem d_Rs_follow_122 : decode prog_9_method_2_code 122 = .ok (.aload_n 1, 1) := by decide +kernel
theorem d_Rs_follow_123 : decode prog_9_method_2_code 123 = .ok (.getfield 52, 3) := by decide +kernel
theorem d_Rs_follow_126 : decode prog_9_method_2_code 126 = .ok (.if_icmp .ge 76, 3) := by decide +kernel
theorem d_Rs_follow_202 : decode prog_9_method_2_code 202 = .ok (.aload_n 0, 1) := by decide +kernel
theorem d_Rs_follow_203 : decode prog_9_method_2_code 203 = .ok (.aload_n 2, 1) := by decide +kernel
theorem d_Rs_follow_204 : decode prog_9_method_2_code 204 = .ok (.invokevirtual 92, 3) := by decide +kernel
theorem d_Rs_follow_207 : decode prog_9_method_2_code 207 = .ok (.aload_n 0, 1) := by decide +kernel
theorem d_Rs_follow_208 : decode prog_9_method_2_code 208 = .ok (.getfield 96, 3) := by decide +kernel
theorem d_Rs_follow_211 : decode prog_9_method_2_code 211 = .ok (.ireturn, 1) := by decide +kernel
theorem d_Rs_follow_129 : decode prog_9_method_2_code 129 = .ok (.aload_n 0, 1) := by decide +kernel
theorem d_Rs_follow_130 : decode prog_9_method_2_code 130 = .ok (.getfield 39, 3) := by decide +kernel
theorem d_Rs_follow_133 : decode prog_9_method_2_code 133 = .ok (.getfield 69, 3) := by decide +kernel
theorem d_Rs_follow_136 : decode prog_9_method_2_code 136 = .ok (.iload 4, 2) := by decide +kernel
theorem d_Rs_follow_138 : decode prog_9_method_2_code 138 = .ok (.iaload, 1) := by decide +kernel
theorem d_Rs_follow_139 : decode prog_9_method_2_code 139 = .ok (.istore 5, 2) := by decide +kernel
theorem d_Rs_follow_141 : decode prog_9_method_2_code 141 = .ok (.aload_n 0, 1) := by decide +kernel
theorem d_Rs_follow_142 : decode prog_9_method_2_code 142 = .ok (.getfield 39, 3) := by decide +kernel
theorem d_Rs_follow_145 : decode prog_9_method_2_code 145 = .ok (.getfield 72, 3) := by decide +kernel
theorem d_Rs_follow_148 : decode prog_9_method_2_code 148 = .ok (.iload 5, 2) := by decide +kernel
theorem d_Rs_follow_150 : decode prog_9_method_2_code 150 = .ok (.baload, 1) := by decide +kernel
theorem d_Rs_follow_151 : decode prog_9_method_2_code 151 = .ok (.ifCond .eq 19, 3) := by decide +kernel
theorem d_Rs_follow_170 : decode prog_9_method_2_code 170 = .ok (.aload_n 0, 1) := by decide +kernel
theorem d_Rs_follow_171 : decode prog_9_method_2_code 171 = .ok (.getfield 48, 3) := by decide +kernel
theorem d_Rs_follow_174 : decode prog_9_method_2_code 174 = .ok (.iload 5, 2) := by decide +kernel
theorem d_Rs_follow_176 : decode prog_9_method_2_code 176 = .ok (.invokevirtual 82, 3) := by decide +kernel
theorem d_Rs_follow_179 : decode prog_9_method_2_code 179 = .ok (.aload_n 0, 1) := by decide +kernel
theorem d_Rs_follow_180 : decode prog_9_method_2_code 180 = .ok (.getfield 23, 3) := by decide +kernel
theorem d_Rs_follow_183 : decode prog_9_method_2_code 183 = .ok (.iload 5, 2) := by decide +kernel
theorem d_Rs_follow_185 : decode prog_9_method_2_code 185 = .ok (.aload_n 0, 1) := by decide +kernel
theorem d_Rs_follow_186 : decode prog_9_method_2_code 186 = .ok (.getfield 48, 3) := by decide +kernel
theorem d_Rs_follow_189 : decode prog_9_method_2_code 189 = .ok (.getfield 85, 3) := by decide +kernel
theorem d_Rs_follow_192 : decode prog_9_method_2_code 192 = .ok (.iconst 0, 1) := by decide +kernel
theorem d_Rs_follow_193 : decode prog_9_method_2_code 193 = .ok (.invokevirtual 88, 3) := by decide +kernel
theorem d_Rs_follow_196 : decode prog_9_method_2_code 196 = .ok (.iinc 4 1, 3) := by decide +kernel
theorem d_Rs_follow_199 : decode prog_9_method_2_code 199 = .ok (.goto (-79), 3) := by decide +kernel
theorem d_Rs_follow_154 : decode prog_9_method_2_code 154 = .ok (.aload_n 0, 1) := by decide +kernel
theorem d_Rs_follow_155 : decode prog_9_method_2_code 155 = .ok (.getfield 23, 3) := by decide +kernel
theorem d_Rs_follow_158 : decode prog_9_method_2_code 158 = .ok (.iload 5, 2) := by decide +kernel
theorem d_Rs_follow_160 : decode prog_9_method_2_code 160 = .ok (.iconst 4, 1) := by decide +kernel
theorem d_Rs_follow_161 : decode prog_9_method_2_code 161 = .ok (.ldc2_w 76, 3) := by decide +kernel
theorem d_Rs_follow_164 : decode prog_9_method_2_code 164 = .ok (.invokevirtual 78, 3) := by decide +kernel
theorem d_Rs_follow_167 : decode prog_9_method_2_code 167 = .ok (.goto 29, 3) := by decide +kernel
set_option maxHeartbeats 4000000 in
theorem u_Rs_follow_0 {l : Launch} {G : gG} {d : Nat} {X : gX} {M : gM} {K : Outcome → gX → gM → Prop} {c : Nat} (hX : glX X c) {r1 : Nat} (hr1 : gsX X r1)  (T : gsX X (X.2.2 (c + 234) 6) ∧ (gvX X (X.2.2 (c + 234) 4) 401 ∧ (gvX X (X.2.2 (c + 234) 5) 401 ∧ (∀ X4 : gX, X4 = gGu X (c + 234) 4 (X.2.2 (c + 234) 5) → glX X4 c ∧ gsX X4 r1 ∧ gsX X4 (X.2.2 (c + 234) 6) ∧ gvX X4 (X.2.2 (c + 234) 4) 401 ∧ (∀ X10 : gX, X10 = gGu X4 (c + 234) 5 (X.2.2 (c + 234) 4) → glX X10 c ∧ gsX X10 r1 ∧ gsX X10 (X.2.2 (c + 234) 6) ∧ (∀ X15 : gX, X15 = gGu X10 (c + 234) 6 r1 → glX X15 c ∧ gsX X15 r1 ∧ gsX X15 (X.2.2 (c + 234) 6) ∧ (wp l G y_Rs_follow (gRr (d + 1) 0) true K true 31 [.val (gR G (c + 234)), .val (gR G r1), .val (gR G (X.2.2 (c + 234) 6)), .unset, .val (gI 0), .unset] [] X15 M 0 0))))))) : wp l G y_Rs_follow (gRr (d + 1) 0) true K false 0 [.val (gR G (c + 234)), .val (gR G r1), .unset, .unset, .unset, .unset] [] X M 0 0 := by
  refine wp_aload_n d_Rs_follow_0 rfl rfl (g_nz (gl_1 hX 234)) ?_
  have q1 := T.1
  have T := T.2
  refine xgetR d_Rs_follow_1 gc_Rs f_Rs_30.1 f_Rs_30.2.1 f_Rs_30.2.2.1 (gl_1 hX 234) (gl_2 hX (a := 234) (by decide)) (gl_s hX 24 rfl) f_Rs_30.2.2.2.2.1 rfl ?_
  refine wp_astore_n (L' := [.val (gR G (c + 234)), .val (gR G r1), .val (gR G (X.2.2 (c + 234) 6)), .unset, .unset, .unset]) d_Rs_follow_4 rfl (g_nz q1.1) (by decide) (gS1_R rfl rfl) ?_
  refine wp_aload_n d_Rs_follow_5 rfl rfl (g_nz (gl_1 hX 234)) ?_
  have q2 := T.1
  have T := T.2
  refine xgetR d_Rs_follow_6 gc_Rs f_Rs_23.1 f_Rs_23.2.1 f_Rs_23.2.2.1 (gl_1 hX 234) (gl_2 hX (a := 234) (by decide)) (gl_s hX 24 rfl) f_Rs_23.2.2.2.2.1 rfl ?_
  refine wp_astore_n (L' := [.val (gR G (c + 234)), .val (gR G r1), .val (gR G (X.2.2 (c + 234) 6)), .val (gR G (X.2.2 (c + 234) 4)), .unset, .unset]) d_Rs_follow_9 rfl (g_nz q2.1) (by decide) (gS1_R rfl rfl) ?_
  refine wp_aload_n d_Rs_follow_10 rfl rfl (g_nz (gl_1 hX 234)) ?_
  refine wp_aload_n d_Rs_follow_11 rfl rfl (g_nz (gl_1 hX 234)) ?_
  have q3 := T.1
  have T := T.2
  refine xgetR d_Rs_follow_12 gc_Rs f_Rs_27.1 f_Rs_27.2.1 f_Rs_27.2.2.1 (gl_1 hX 234) (gl_2 hX (a := 234) (by decide)) (gl_s hX 24 rfl) f_Rs_27.2.2.2.2.1 rfl ?_
  refine xputR d_Rs_follow_15 gc_Rs f_Rs_23.1 f_Rs_23.2.1 f_Rs_23.2.2.1 (gl_1 hX 234) (gl_2 hX (a := 234) (by decide)) (gl_s hX 24 rfl) f_Rs_23.2.2.2.1 f_Rs_23.2.2.2.2.1 f_Rs_23.2.2.2.2.2 ?_
  generalize he9 : gGu X (c + 234) 4 (X.2.2 (c + 234) 5) = X4
  have T := T X4 he9.symm
  obtain ⟨hX5, q6, q7, q8, T⟩ := T
  refine wp_aload_n d_Rs_follow_18 rfl rfl (g_nz (gl_1 hX5 234)) ?_
  refine wp_aload_n d_Rs_follow_19 rfl rfl (g_nz q8.1) ?_
  refine xputR d_Rs_follow_20 gc_Rs f_Rs_27.1 f_Rs_27.2.1 f_Rs_27.2.2.1 (gl_1 hX5 234) (gl_2 hX5 (a := 234) (by decide)) (gl_s hX5 24 rfl) f_Rs_27.2.2.2.1 f_Rs_27.2.2.2.2.1 f_Rs_27.2.2.2.2.2 ?_
  generalize he14 : gGu X4 (c + 234) 5 (X.2.2 (c + 234) 4) = X10
  have T := T X10 he14.symm
  obtain ⟨hX11, q12, q13, T⟩ := T
  refine wp_aload_n d_Rs_follow_23 rfl rfl (g_nz (gl_1 hX11 234)) ?_
  refine wp_aload_n d_Rs_follow_24 rfl rfl (g_nz q12.1) ?_
  refine xputR d_Rs_follow_25 gc_Rs f_Rs_30.1 f_Rs_30.2.1 f_Rs_30.2.2.1 (gl_1 hX11 234) (gl_2 hX11 (a := 234) (by decide)) (gl_s hX11 24 rfl) f_Rs_30.2.2.2.1 f_Rs_30.2.2.2.2.1 f_Rs_30.2.2.2.2.2 ?_
  generalize he19 : gGu X10 (c + 234) 6 r1 = X15
  have T := T X15 he19.symm
  obtain ⟨hX16, q17, q18, T⟩ := T
  refine wp_iconst d_Rs_follow_28 ?_
  refine wp_istore (L' := [.val (gR G (c + 234)), .val (gR G r1), .val (gR G (X.2.2 (c + 234) 6)), .val (gR G (X.2.2 (c + 234) 4)), .val (gI 0), .unset]) d_Rs_follow_29 (by decide) (gS1_R rfl rfl) ?_
  exact wp_md (wpt T (And.intro rfl (And.intro rfl (And.intro rfl (And.intro rfl True.intro)))))
set_option maxHeartbeats 4000000 in
theorem u_Rs_follow_31 {l : Launch} {G : gG} {d : Nat} {X : gX} {M : gM} {K : Outcome → gX → gM → Prop} {c : Nat} (hX : glX X c) {r1 : Nat} (hr1 : gsX X r1) {r2 : Nat} (hr2 : gsX X r2) {x4 : Int} (hx4 : g32 x4)  (T : g32 (M r2 0) → ((M r2 0 ≤ x4 → (wp l G y_Rs_follow (gRr (d + 1) 0) true K true 64 [.val (gR G (c + 234)), .val (gR G r1), .val (gR G r2), .unset, .val (gI 0), .unset] [] X M 0 0)) ∧ (¬ M r2 0 ≤ x4 → (((0 : Int) ≤ x4 ∧ x4 < 400) ∧ (g32 (M (r2 + 1) (Int.toNat x4)) → (((0 : Int) ≤ M (r2 + 1) (Int.toNat x4) ∧ M (r2 + 1) (Int.toNat x4) < 5200) ∧ (wp l G y_Rs_follow (gRr (d + 1) 0) true K true 31 [.val (gR G (c + 234)), .val (gR G r1), .val (gR G r2), .unset, .val (gI (w32 (x4 + 1))), .unset] [] X (gUp M (c + 235) (Int.toNat (M (r2 + 1) (Int.toNat x4))) 400) 0 0))))))) : wp l G y_Rs_follow (gRr (d + 1) 0) true K true 31 [.val (gR G (c + 234)), .val (gR G r1), .val (gR G r2), .unset, .val (gI x4), .unset] [] X M 0 0 := by
  refine wp_iload d_Rs_follow_31 rfl ?_
  refine wp_aload_n d_Rs_follow_33 rfl rfl (g_nz hr2.1) ?_
  refine xgetI d_Rs_follow_34 gc_St f_Rs_52.1 f_Rs_52.2.1 f_Rs_52.2.2.1 hr2.1 (gs_2 hr2) hr2.2.2.1 f_Rs_52.2.2.2.2.1 (fun h20 => ?_)
  have T := T h20
  refine xi_ge (tgt := 61) d_Rs_follow_37 (by decide) (w32_id hx4) (w32_id h20) (fun h22 => ?_) (fun h22 => ?_)
  · have T := T.1 h22
    refine wp_iconst d_Rs_follow_61 ?_
    refine wp_istore (L' := [.val (gR G (c + 234)), .val (gR G r1), .val (gR G r2), .unset, .val (gI 0), .unset]) d_Rs_follow_62 (by decide) rfl ?_
    exact wp_md (wpt T (And.intro rfl (And.intro rfl (And.intro rfl (And.intro rfl True.intro)))))
  · have T := T.2 h22
    refine wp_aload_n d_Rs_follow_40 rfl rfl (g_nz (gl_1 hX 234)) ?_
    refine xgetR d_Rs_follow_41 gc_Rs f_Rs_9.1 f_Rs_9.2.1 f_Rs_9.2.2.1 (gl_1 hX 234) (gl_2 hX (a := 234) (by decide)) (gl_s hX 24 rfl) f_Rs_9.2.2.2.2.1 (gl_f hX 28 rfl) ?_
    refine wp_aload_n d_Rs_follow_44 rfl rfl (g_nz hr2.1) ?_
    refine xgetR d_Rs_follow_45 gc_St f_Rs_58.1 f_Rs_58.2.1 f_Rs_58.2.2.1 hr2.1 (gs_2 hr2) hr2.2.2.1 f_Rs_58.2.2.2.2.1 (gs_r hr2 0 rfl).1 ?_
    refine wp_iload d_Rs_follow_48 rfl ?_
    refine wp_iaload d_Rs_follow_50 (gs_r hr2 0 rfl).2.2.1 (gs_r hr2 0 rfl).2.2.2 (gs_r hr2 0 rfl).2.1 (g32_n T.1 (by decide)) T.1.1 T.1.2 (fun h21 => ?_)
    have T := T.2 h21
    refine wp_sipush d_Rs_follow_51 ⟨by decide, by decide⟩ ?_
    refine xiast d_Rs_follow_54 (gl_1 hX 235) (gl_2 hX (a := 235) (by decide)) (gl_s hX 25 rfl) (by decide) T.1 (w32_id (g32_c (x := 400) rfl)) ?_
    have T := T.2
    refine wp_iinc (L' := [.val (gR G (c + 234)), .val (gR G r1), .val (gR G r2), .unset, .val (gI (x4 + 1)), .unset]) d_Rs_follow_55 rfl (by decide) rfl ?_
    refine wp_goto (tgt := 31) d_Rs_follow_58 (by decide) ?_
    exact wp_md (wpt T (And.intro rfl (And.intro rfl (And.intro rfl (And.intro (gI_w _) True.intro)))))
set_option maxHeartbeats 4000000 in
theorem u_Rs_follow_64 {l : Launch} {G : gG} {d : Nat} {X : gX} {M : gM} {K : Outcome → gX → gM → Prop} {c : Nat} (hX : glX X c) {r1 : Nat} (hr1 : gsX X r1) {r2 : Nat} (hr2 : gsX X r2) {x4 : Int} (hx4 : g32 x4)  (T : g32 (M r1 0) → ((M r1 0 ≤ x4 → (cV l G y_Or_arrange (gRm d) true [gR G (c + 1047), gR G r1, gR G (c + 235)] X M (fun M24 => (gvX X (X.2.2 (c + 234) 4) 401 ∧ (cX l G y_Ma_open (gRm d) true [gR G (c + 1057), gR G r1, gR G (X.2.2 (c + 234) 4)] X M24 (fun X27 M26 => glX X27 c ∧ gsX X27 r1 ∧ gsX X27 r2 ∧ (wp l G y_Rs_follow (gRr (d + 1) 0) true K true 120 [.val (gR G (c + 234)), .val (gR G r1), .val (gR G r2), .unset, .val (gI 0), .unset] [] X27 M26 0 0))))))) ∧ (¬ M r1 0 ≤ x4 → (((0 : Int) ≤ x4 ∧ x4 < 400) ∧ (g32 (M (r1 + 1) (Int.toNat x4)) → (((0 : Int) ≤ M (r1 + 1) (Int.toNat x4) ∧ M (r1 + 1) (Int.toNat x4) < 5200) ∧ (wp l G y_Rs_follow (gRr (d + 1) 0) true K true 64 [.val (gR G (c + 234)), .val (gR G r1), .val (gR G r2), .unset, .val (gI (w32 (x4 + 1))), .unset] [] X (gUp M (c + 235) (Int.toNat (M (r1 + 1) (Int.toNat x4))) x4) 0 0))))))) : wp l G y_Rs_follow (gRr (d + 1) 0) true K true 64 [.val (gR G (c + 234)), .val (gR G r1), .val (gR G r2), .unset, .val (gI x4), .unset] [] X M 0 0 := by
  refine wp_iload d_Rs_follow_64 rfl ?_
  refine wp_aload_n d_Rs_follow_66 rfl rfl (g_nz hr1.1) ?_
  refine xgetI d_Rs_follow_67 gc_St f_Rs_52.1 f_Rs_52.2.1 f_Rs_52.2.2.1 hr1.1 (gs_2 hr1) hr1.2.2.1 f_Rs_52.2.2.2.2.1 (fun h23 => ?_)
  have T := T h23
  refine xi_ge (tgt := 93) d_Rs_follow_70 (by decide) (w32_id hx4) (w32_id h23) (fun h32 => ?_) (fun h32 => ?_)
  · have T := T.1 h32
    refine wp_aload_n d_Rs_follow_93 rfl rfl (g_nz (gl_1 hX 234)) ?_
    refine xgetR d_Rs_follow_94 gc_Rs f_Rs_39.1 f_Rs_39.2.1 f_Rs_39.2.2.1 (gl_1 hX 234) (gl_2 hX (a := 234) (by decide)) (gl_s hX 24 rfl) f_Rs_39.2.2.2.2.1 (gl_f hX 30 rfl) ?_
    refine wp_aload_n d_Rs_follow_97 rfl rfl (g_nz hr1.1) ?_
    refine wp_aload_n d_Rs_follow_98 rfl rfl (g_nz (gl_1 hX 234)) ?_
    refine xgetR d_Rs_follow_99 gc_Rs f_Rs_9.1 f_Rs_9.2.1 f_Rs_9.2.2.1 (gl_1 hX 234) (gl_2 hX (a := 234) (by decide)) (gl_s hX 24 rfl) f_Rs_9.2.2.2.2.1 (gl_f hX 28 rfl) ?_
    refine ycV_V (md' := true) (As := [gR G r1, gR G (c + 235)]) (st := []) d_Rs_follow_102 ca_Or_arrange ml_Rs_61 im_Or_arrange se_Or_arrange gc_Or (gl_1 hX 1047) (gl_2 hX (a := 1047) (by decide)) (gl_s hX 27 rfl) rfl (by decide) (by decide) rfl (fun _ => rfl) (fun _ => rfl) T (fun M24 T => ?_)
    refine wp_aload_n d_Rs_follow_105 rfl rfl (g_nz (gl_1 hX 234)) ?_
    refine xgetR d_Rs_follow_106 gc_Rs f_Rs_48.1 f_Rs_48.2.1 f_Rs_48.2.2.1 (gl_1 hX 234) (gl_2 hX (a := 234) (by decide)) (gl_s hX 24 rfl) f_Rs_48.2.2.2.2.1 (gl_f hX 41 rfl) ?_
    refine wp_aload_n d_Rs_follow_109 rfl rfl (g_nz hr1.1) ?_
    refine wp_aload_n d_Rs_follow_110 rfl rfl (g_nz (gl_1 hX 234)) ?_
    have q25 := T.1
    have T := T.2
    refine xgetR d_Rs_follow_111 gc_Rs f_Rs_23.1 f_Rs_23.2.1 f_Rs_23.2.2.1 (gl_1 hX 234) (gl_2 hX (a := 234) (by decide)) (gl_s hX 24 rfl) f_Rs_23.2.2.2.2.1 rfl ?_
    refine yxV_V (md' := true) (As := [gR G r1, gR G (X.2.2 (c + 234) 4)]) (st := []) d_Rs_follow_114 ca_Ma_open ml_Rs_65 im_Ma_open se_Ma_open gc_Ma (gl_1 hX 1057) (gl_2 hX (a := 1057) (by decide)) (gl_s hX 37 rfl) rfl (by decide) (by decide) rfl (fun _ => rfl) (fun _ => rfl) T (fun X27 M26 T => ?_)
    obtain ⟨hX28, q29, q30, T⟩ := T
    refine wp_iconst d_Rs_follow_117 ?_
    refine wp_istore (L' := [.val (gR G (c + 234)), .val (gR G r1), .val (gR G r2), .unset, .val (gI 0), .unset]) d_Rs_follow_118 (by decide) rfl ?_
    exact wp_md (wpt T (And.intro rfl (And.intro rfl (And.intro rfl (And.intro rfl True.intro)))))
  · have T := T.2 h32
    refine wp_aload_n d_Rs_follow_73 rfl rfl (g_nz (gl_1 hX 234)) ?_
    refine xgetR d_Rs_follow_74 gc_Rs f_Rs_9.1 f_Rs_9.2.1 f_Rs_9.2.2.1 (gl_1 hX 234) (gl_2 hX (a := 234) (by decide)) (gl_s hX 24 rfl) f_Rs_9.2.2.2.2.1 (gl_f hX 28 rfl) ?_
    refine wp_aload_n d_Rs_follow_77 rfl rfl (g_nz hr1.1) ?_
    refine xgetR d_Rs_follow_78 gc_St f_Rs_58.1 f_Rs_58.2.1 f_Rs_58.2.2.1 hr1.1 (gs_2 hr1) hr1.2.2.1 f_Rs_58.2.2.2.2.1 (gs_r hr1 0 rfl).1 ?_
    refine wp_iload d_Rs_follow_81 rfl ?_
    refine wp_iaload d_Rs_follow_83 (gs_r hr1 0 rfl).2.2.1 (gs_r hr1 0 rfl).2.2.2 (gs_r hr1 0 rfl).2.1 (g32_n T.1 (by decide)) T.1.1 T.1.2 (fun h31 => ?_)
    have T := T.2 h31
    refine wp_iload d_Rs_follow_84 rfl ?_
    refine xiast d_Rs_follow_86 (gl_1 hX 235) (gl_2 hX (a := 235) (by decide)) (gl_s hX 25 rfl) (by decide) T.1 (w32_id hx4) ?_
    have T := T.2
    refine wp_iinc (L' := [.val (gR G (c + 234)), .val (gR G r1), .val (gR G r2), .unset, .val (gI (x4 + 1)), .unset]) d_Rs_follow_87 rfl (by decide) rfl ?_
    refine wp_goto (tgt := 64) d_Rs_follow_90 (by decide) ?_
    exact wp_md (wpt T (And.intro rfl (And.intro rfl (And.intro rfl (And.intro (gI_w _) True.intro)))))
set_option maxHeartbeats 4000000 in
theorem u_Rs_follow_120 {l : Launch} {G : gG} {d : Nat} {X : gX} {M : gM} {K : Outcome → gX → gM → Prop} {c : Nat} (hX : glX X c) {r1 : Nat} (hr1 : gsX X r1) {r2 : Nat} (hr2 : gsX X r2) {x4 : Int} (hx4 : g32 x4)  (T : g32 (M r1 0) → ((M r1 0 ≤ x4 → (cV l G y_Rs_compareWith (gRm d) true [gR G (c + 234), gR G r2] X M (fun M34 => (g32 (M34 (c + 234) 7) → (K (.returned (some (gI (M34 (c + 234) 7)))) X M34))))) ∧ (¬ M r1 0 ≤ x4 → (((0 : Int) ≤ x4 ∧ x4 < 400) ∧ (g32 (M (c + 1049) (Int.toNat x4)) → (((0 : Int) ≤ M (c + 1049) (Int.toNat x4) ∧ M (c + 1049) (Int.toNat x4) < 400) ∧ ((0 ≤ M (c + 1050) (Int.toNat (M (c + 1049) (Int.toNat x4))) ∧ M (c + 1050) (Int.toNat (M (c + 1049) (Int.toNat x4))) ≤ 1) → ((M (c + 1050) (Int.toNat (M (c + 1049) (Int.toNat x4))) = 0 → (cV l G y_Ma_run (gRm d) true [gR G (c + 1057), gI (M (c + 1049) (Int.toNat x4))] X M (fun M38 => (gvX X (X.2.2 (c + 234) 4) 401 ∧ (cV l G y_Vl_setFrom (gRm d) true [gR G (X.2.2 (c + 234) 4), gI (M (c + 1049) (Int.toNat x4)), gR G (c + 1058), gI 0] X M38 (fun M40 => (wp l G y_Rs_follow (gRr (d + 1) 0) true K true 120 [.val (gR G (c + 234)), .val (gR G r1), .val (gR G r2), .unset, .val (gI (w32 (x4 + 1))), .unset] [] X M40 0 0))))))) ∧ (¬ M (c + 1050) (Int.toNat (M (c + 1049) (Int.toNat x4))) = 0 → (gvX X (X.2.2 (c + 234) 4) 401 ∧ (cV l G y_Vl_set (gRm d) true [gR G (X.2.2 (c + 234) 4), gI (M (c + 1049) (Int.toNat x4)), gI 4, gL 8] X M (fun M42 => (wp l G y_Rs_follow (gRr (d + 1) 0) true K true 120 [.val (gR G (c + 234)), .val (gR G r1), .val (gR G r2), .unset, .val (gI (w32 (x4 + 1))), .unset] [] X M42 0 0))))))))))))) : wp l G y_Rs_follow (gRr (d + 1) 0) true K true 120 [.val (gR G (c + 234)), .val (gR G r1), .val (gR G r2), .unset, .val (gI x4), .unset] [] X M 0 0 := by
  refine wp_iload d_Rs_follow_120 rfl ?_
  refine wp_aload_n d_Rs_follow_122 rfl rfl (g_nz hr1.1) ?_
  refine xgetI d_Rs_follow_123 gc_St f_Rs_52.1 f_Rs_52.2.1 f_Rs_52.2.2.1 hr1.1 (gs_2 hr1) hr1.2.2.1 f_Rs_52.2.2.2.2.1 (fun h33 => ?_)
  have T := T h33
  refine xi_ge (tgt := 202) d_Rs_follow_126 (by decide) (w32_id hx4) (w32_id h33) (fun h44 => ?_) (fun h44 => ?_)
  · have T := T.1 h44
    refine wp_aload_n d_Rs_follow_202 rfl rfl (g_nz (gl_1 hX 234)) ?_
    refine wp_aload_n d_Rs_follow_203 rfl rfl (g_nz hr2.1) ?_
    refine ycV_V (md' := true) (As := [gR G r2]) (st := []) d_Rs_follow_204 ca_Rs_compareWith ml_Rs_92 im_Rs_compareWith se_Rs_compareWith gc_Rs (gl_1 hX 234) (gl_2 hX (a := 234) (by decide)) (gl_s hX 24 rfl) rfl (by decide) (by decide) rfl (fun _ => rfl) (fun _ => rfl) T (fun M34 T => ?_)
    refine wp_aload_n d_Rs_follow_207 rfl rfl (g_nz (gl_1 hX 234)) ?_
    refine xgetI d_Rs_follow_208 gc_Rs f_Rs_96.1 f_Rs_96.2.1 f_Rs_96.2.2.1 (gl_1 hX 234) (gl_2 hX (a := 234) (by decide)) (gl_s hX 24 rfl) f_Rs_96.2.2.2.2.1 (fun h35 => ?_)
    have T := T h35
    exact wp_st (st' := [gI (M34 (c + 234) 7)]) (by rfl) (wp_ireturn d_Rs_follow_211 rfl (fun _ => rfl) (Nat.zero_le _) (Nat.zero_le _) T)
  · have T := T.2 h44
    refine wp_aload_n d_Rs_follow_129 rfl rfl (g_nz (gl_1 hX 234)) ?_
    refine xgetR d_Rs_follow_130 gc_Rs f_Rs_39.1 f_Rs_39.2.1 f_Rs_39.2.2.1 (gl_1 hX 234) (gl_2 hX (a := 234) (by decide)) (gl_s hX 24 rfl) f_Rs_39.2.2.2.2.1 (gl_f hX 30 rfl) ?_
    refine xgetR d_Rs_follow_133 gc_Or f_Rs_69.1 f_Rs_69.2.1 f_Rs_69.2.2.1 (gl_1 hX 1047) (gl_2 hX (a := 1047) (by decide)) (gl_s hX 27 rfl) f_Rs_69.2.2.2.2.1 (gl_f hX 32 rfl) ?_
    refine wp_iload d_Rs_follow_136 rfl ?_
    refine wp_iaload d_Rs_follow_138 (gl_1 hX 1049) (gl_2 hX (a := 1049) (by decide)) (gl_s hX 29 rfl) (g32_n T.1 (by decide)) T.1.1 T.1.2 (fun h36 => ?_)
    have T := T.2 h36
    refine wp_istore (L' := [.val (gR G (c + 234)), .val (gR G r1), .val (gR G r2), .unset, .val (gI x4), .val (gI (M (c + 1049) (Int.toNat x4)))]) d_Rs_follow_139 (by decide) rfl ?_
    refine wp_aload_n d_Rs_follow_141 rfl rfl (g_nz (gl_1 hX 234)) ?_
    refine xgetR d_Rs_follow_142 gc_Rs f_Rs_39.1 f_Rs_39.2.1 f_Rs_39.2.2.1 (gl_1 hX 234) (gl_2 hX (a := 234) (by decide)) (gl_s hX 24 rfl) f_Rs_39.2.2.2.2.1 (gl_f hX 30 rfl) ?_
    refine xgetR d_Rs_follow_145 gc_Or f_Rs_72.1 f_Rs_72.2.1 f_Rs_72.2.2.1 (gl_1 hX 1047) (gl_2 hX (a := 1047) (by decide)) (gl_s hX 27 rfl) f_Rs_72.2.2.2.2.1 (gl_f hX 33 rfl) ?_
    refine wp_iload d_Rs_follow_148 rfl ?_
    refine wp_zaload d_Rs_follow_150 (gl_1 hX 1050) (gl_2 hX (a := 1050) (by decide)) (gl_s hX 30 rfl) (g32_n T.1 (by decide)) T.1.1 T.1.2 (fun h37 => ?_)
    have T := T.2 h37
    refine xz_eq (tgt := 170) d_Rs_follow_151 (by decide) (w32_id (g32_z h37)) (fun h43 => ?_) (fun h43 => ?_)
    · have T := T.1 h43
      refine wp_aload_n d_Rs_follow_170 rfl rfl (g_nz (gl_1 hX 234)) ?_
      refine xgetR d_Rs_follow_171 gc_Rs f_Rs_48.1 f_Rs_48.2.1 f_Rs_48.2.2.1 (gl_1 hX 234) (gl_2 hX (a := 234) (by decide)) (gl_s hX 24 rfl) f_Rs_48.2.2.2.2.1 (gl_f hX 41 rfl) ?_
      refine wp_iload d_Rs_follow_174 rfl ?_
      refine ycV_V (md' := true) (As := [gI (M (c + 1049) (Int.toNat x4))]) (st := []) d_Rs_follow_176 ca_Ma_run ml_Rs_82 im_Ma_run se_Ma_run gc_Ma (gl_1 hX 1057) (gl_2 hX (a := 1057) (by decide)) (gl_s hX 37 rfl) rfl (by decide) (by decide) rfl (fun _ => rfl) (fun _ => rfl) T (fun M38 T => ?_)
      refine wp_aload_n d_Rs_follow_179 rfl rfl (g_nz (gl_1 hX 234)) ?_
      have q39 := T.1
      have T := T.2
      refine xgetR d_Rs_follow_180 gc_Rs f_Rs_23.1 f_Rs_23.2.1 f_Rs_23.2.2.1 (gl_1 hX 234) (gl_2 hX (a := 234) (by decide)) (gl_s hX 24 rfl) f_Rs_23.2.2.2.2.1 rfl ?_
      refine wp_iload d_Rs_follow_183 rfl ?_
      refine wp_aload_n d_Rs_follow_185 rfl rfl (g_nz (gl_1 hX 234)) ?_
      refine xgetR d_Rs_follow_186 gc_Rs f_Rs_48.1 f_Rs_48.2.1 f_Rs_48.2.2.1 (gl_1 hX 234) (gl_2 hX (a := 234) (by decide)) (gl_s hX 24 rfl) f_Rs_48.2.2.2.2.1 (gl_f hX 41 rfl) ?_
      refine xgetR d_Rs_follow_189 gc_Ma f_Rs_85.1 f_Rs_85.2.1 f_Rs_85.2.2.1 (gl_1 hX 1057) (gl_2 hX (a := 1057) (by decide)) (gl_s hX 37 rfl) f_Rs_85.2.2.2.2.1 (gl_f hX 42 rfl) ?_
      refine wp_iconst d_Rs_follow_192 ?_
      refine ycV_V (md' := true) (As := [gI (M (c + 1049) (Int.toNat x4)), gR G (c + 1058), gI 0]) (st := []) d_Rs_follow_193 ca_Vl_setFrom ml_Rs_88 im_Vl_setFrom se_Vl_setFrom gc_Vl q39.1 (gv_2 q39) q39.2.2.1 rfl (by decide) (by decide) rfl (fun _ => rfl) (fun _ => rfl) T (fun M40 T => ?_)
      refine wp_iinc (L' := [.val (gR G (c + 234)), .val (gR G r1), .val (gR G r2), .unset, .val (gI (x4 + 1)), .val (gI (M (c + 1049) (Int.toNat x4)))]) d_Rs_follow_196 rfl (by decide) rfl ?_
      refine wp_goto (tgt := 120) d_Rs_follow_199 (by decide) ?_
      exact wp_md (wpt T (And.intro rfl (And.intro rfl (And.intro rfl (And.intro (gI_w _) True.intro)))))
    · have T := T.2 h43
      refine wp_aload_n d_Rs_follow_154 rfl rfl (g_nz (gl_1 hX 234)) ?_
      have q41 := T.1
      have T := T.2
      refine xgetR d_Rs_follow_155 gc_Rs f_Rs_23.1 f_Rs_23.2.1 f_Rs_23.2.2.1 (gl_1 hX 234) (gl_2 hX (a := 234) (by decide)) (gl_s hX 24 rfl) f_Rs_23.2.2.2.2.1 rfl ?_
      refine wp_iload d_Rs_follow_158 rfl ?_
      refine wp_iconst d_Rs_follow_160 ?_
      refine wp_ldc2 (n := 8) d_Rs_follow_161 c_Rs_76 rfl ?_
      refine ycV_V (md' := true) (As := [gI (M (c + 1049) (Int.toNat x4)), gI 4, gL 8]) (st := []) d_Rs_follow_164 ca_Vl_set ml_Rs_78 im_Vl_set se_Vl_set gc_Vl q41.1 (gv_2 q41) q41.2.2.1 rfl (by decide) (by decide) rfl (fun _ => rfl) (fun _ => rfl) T (fun M42 T => ?_)
      refine wp_goto (tgt := 196) d_Rs_follow_167 (by decide) ?_
      refine wp_iinc (L' := [.val (gR G (c + 234)), .val (gR G r1), .val (gR G r2), .unset, .val (gI (x4 + 1)), .val (gI (M (c + 1049) (Int.toNat x4)))]) d_Rs_follow_196 rfl (by decide) rfl ?_
      refine wp_goto (tgt := 120) d_Rs_follow_199 (by decide) ?_
      exact wp_md (wpt T (And.intro rfl (And.intro rfl (And.intro rfl (And.intro (gI_w _) True.intro)))))
theorem eu_Rs_follow {l : Launch} {G : gG} {d : Nat} {X : gX} {M : gM} {K : Outcome → gX → gM → Prop} {c : Nat} {r1 : Nat} (T : wp l G y_Rs_follow (gRr (d + 1) 0) true K false 0 [.val (gR G (c + 234)), .val (gR G r1), .unset, .unset, .unset, .unset] [] X M 0 0) : gCt l G y_Rs_follow (gRr (d + 1) 0) true [gR G (c + 234), gR G r1] X M K := gCt.of (plainFor_of_name rfl) (by simp only [lg_sl_R, lg_sl_I, lg_sl_L, lg_sl_N, List.length_cons, List.length_nil]; decide) (by unfold gEn; simp only [lg_sl_R, lg_sl_I, lg_sl_L, lg_sl_N]; exact wpt T (And.intro rfl (And.intro rfl True.intro)))
theorem d_GL_feed_0 : decode prog_1_method_2_code 0 = .ok (.aload_n 0, 1) := by decide +kernel
theorem d_GL_feed_1 : decode prog_1_method_2_code 1 = .ok (.getfield 58, 3) := by decide +kernel
theorem d_GL_feed_4 : decode prog_1_method_2_code 4 = .ok (.bipush 20, 2) := by decide +kernel
theorem d_GL_feed_6 : decode prog_1_method_2_code 6 = .ok (.iadd, 1) := by decide +kernel
theorem d_GL_feed_7 : decode prog_1_method_2_code 7 = .ok (.sipush 240, 3) := by decide +kernel
theorem d_GL_feed_10 : decode prog_1_method_2_code 10 = .ok (.if_icmp .le 11, 3) := by decide +kernel
theorem d_GL_feed_21 : decode prog_1_method_2_code 21 = .ok (.aload_n 0, 1) := by decide +kernel
theorem d_GL_feed_22 : decode prog_1_method_2_code 22 = .ok (.iload_n 1, 1) := by decide +kernel
theorem d_GL_feed_23 : decode prog_1_method_2_code 23 = .ok (.invokevirtual 65, 3) := by decide +kernel
theorem d_GL_feed_26 : decode prog_1_method_2_code 26 = .ok (.aload_n 0, 1) := by decide +kernel
theorem d_GL_feed_27 : decode prog_1_method_2_code 27 = .ok (.iload_n 2, 1) := by decide +kernel
theorem d_GL_feed_28 : decode prog_1_method_2_code 28 = .ok (.invokevirtual 65, 3) := by decide +kernel
theorem d_GL_feed_31 : decode prog_1_method_2_code 31 = .ok (.aload_n 0, 1) := by decide +kernel
theorem d_GL_feed_32 : decode prog_1_method_2_code 32 = .ok (.iload_n 3, 1) := by decide +kernel
theorem d_GL_feed_33 : decode prog_1_method_2_code 33 = .ok (.invokevirtual 65, 3) := by decide +kernel
theorem d_GL_feed_36 : decode prog_1_method_2_code 36 = .ok (.aload_n 0, 1) := by decide +kernel
theorem d_GL_feed_37 : decode prog_1_method_2_code 37 = .ok (.iload 4, 2) := by decide +kernel
theorem d_GL_feed_39 : decode prog_1_method_2_code 39 = .ok (.invokevirtual 65, 3) := by decide +kernel
theorem d_GL_feed_42 : decode prog_1_method_2_code 42 = .ok (.aload_n 0, 1) := by decide +kernel
theorem d_GL_feed_43 : decode prog_1_method_2_code 43 = .ok (.iload 5, 2) := by decide +kernel
theorem d_GL_feed_45 : decode prog_1_method_2_code 45 = .ok (.invokevirtual 65, 3) := by decide +kernel
theorem d_GL_feed_48 : decode prog_1_method_2_code 48 = .ok (.aload_n 0, 1) := by decide +kernel
theorem d_GL_feed_49 : decode prog_1_method_2_code 49 = .ok (.getfield 58, 3) := by decide +kernel
theorem d_GL_feed_52 : decode prog_1_method_2_code 52 = .ok (.ireturn, 1) := by decide +kernel
theorem d_GL_feed_13 : decode prog_1_method_2_code 13 = .ok (.new 62, 3) := by decide +kernel
theorem d_GL_feed_16 : decode prog_1_method_2_code 16 = .ok (.dup, 1) := by decide +kernel
theorem d_GL_feed_17 : decode prog_1_method_2_code 17 = .ok (.invokespecial 64, 3) := by decide +kernel
theorem d_GL_feed_20 : decode prog_1_method_2_code 20 = .ok (.athrow, 1) := by decide +kernel
set_option maxHeartbeats 4000000 in
theorem u_GL_feed_0 {l : Launch} {G : gG} {d : Nat} {X : gX} {M : gM} {Nr : Nat} {K : Outcome → gX → gM → Prop} {c : Nat} (hX : glX X c) {x1 : Int} (hx1 : g32 x1) {x2 : Int} (hx2 : g32 x2) {x3 : Int} (hx3 : g32 x3) {x4 : Int} (hx4 : g32 x4) {x5 : Int} (hx5 : g32 x5)  (hl : gOk l G) (T : g32 (M c 1) → (((w32 ((M c 1) + 20)) ≤ 240 → (cV l G y_GL_take (gRm (d + 7)) true [gR G c, gI x1] X M (fun M2 => (cV l G y_GL_take (gRm (d + 7)) true [gR G c, gI x2] X M2 (fun M3 => (cV l G y_GL_take (gRm (d + 7)) true [gR G c, gI x3] X M3 (fun M4 => (cV l G y_GL_take (gRm (d + 7)) true [gR G c, gI x4] X M4 (fun M5 => (cV l G y_GL_take (gRm (d + 7)) true [gR G c, gI x5] X M5 (fun M6 => (g32 (M6 c 1) → (K (.returned (some (gI (M6 c 1)))) X M6))))))))))))) ∧ (¬ (w32 ((M c 1) + 20)) ≤ 240 → (1 ≤ Nr ∧ K (.threw (G.2.2.1 + (X.1 + 1))) (gNw X (18, 0)) (gZr M (X.1 + 1)))))) : wp l G y_GL_feed (gRr (d + 8) Nr) true K false 0 [.val (gR G c), .val (gI x1), .val (gI x2), .val (gI x3), .val (gI x4), .val (gI x5)] [] X M 0 0 := by
  refine wp_aload_n d_GL_feed_0 rfl rfl (g_nz (gl_1 hX 0)) ?_
  refine xgetI d_GL_feed_1 gc_GL f_GL_58.1 f_GL_58.2.1 f_GL_58.2.2.1 (gl_1 hX 0) (gl_2 hX (a := 0) (by decide)) (gl_s0 hX) f_GL_58.2.2.2.2.1 (fun h1 => ?_)
  have T := T h1
  refine wp_bipush d_GL_feed_4 ⟨by decide, by decide⟩ ?_
  refine wp_iadd d_GL_feed_6 ?_
  refine wp_sipush d_GL_feed_7 ⟨by decide, by decide⟩ ?_
  refine xi_le (tgt := 21) d_GL_feed_10 (by decide) rfl (w32_id (g32_c (x := 240) rfl)) (fun h8 => ?_) (fun h8 => ?_)
  · have T := T.1 h8
    refine wp_aload_n d_GL_feed_21 rfl rfl (g_nz (gl_1 hX 0)) ?_
    refine wp_iload_n d_GL_feed_22 rfl rfl ?_
    refine ycV_V (md' := true) (As := [gI x1]) (st := []) d_GL_feed_23 ca_GL_take ml_GL_65 im_GL_take se_GL_take gc_GL (gl_1 hX 0) (gl_2 hX (a := 0) (by decide)) (gl_s0 hX) rfl (by decide) (by decide) rfl (fun _ => rfl) (fun _ => rfl) T (fun M2 T => ?_)
    refine wp_aload_n d_GL_feed_26 rfl rfl (g_nz (gl_1 hX 0)) ?_
    refine wp_iload_n d_GL_feed_27 rfl rfl ?_
    refine ycV_V (md' := true) (As := [gI x2]) (st := []) d_GL_feed_28 ca_GL_take ml_GL_65 im_GL_take se_GL_take gc_GL (gl_1 hX 0) (gl_2 hX (a := 0) (by decide)) (gl_s0 hX) rfl (by decide) (by decide) rfl (fun _ => rfl) (fun _ => rfl) T (fun M3 T => ?_)
    refine wp_aload_n d_GL_feed_31 rfl rfl (g_nz (gl_1 hX 0)) ?_
    refine wp_iload_n d_GL_feed_32 rfl rfl ?_
    refine ycV_V (md' := true) (As := [gI x3]) (st := []) d_GL_feed_33 ca_GL_take ml_GL_65 im_GL_take se_GL_take gc_GL (gl_1 hX 0) (gl_2 hX (a := 0) (by decide)) (gl_s0 hX) rfl (by decide) (by decide) rfl (fun _ => rfl) (fun _ => rfl) T (fun M4 T => ?_)
    refine wp_aload_n d_GL_feed_36 rfl rfl (g_nz (gl_1 hX 0)) ?_
    refine wp_iload d_GL_feed_37 rfl ?_
    refine ycV_V (md' := true) (As := [gI x4]) (st := []) d_GL_feed_39 ca_GL_take ml_GL_65 im_GL_take se_GL_take gc_GL (gl_1 hX 0) (gl_2 hX (a := 0) (by decide)) (gl_s0 hX) rfl (by decide) (by decide) rfl (fun _ => rfl) (fun _ => rfl) T (fun M5 T => ?_)
    refine wp_aload_n d_GL_feed_42 rfl rfl (g_nz (gl_1 hX 0)) ?_
    refine wp_iload d_GL_feed_43 rfl ?_
    refine ycV_V (md' := true) (As := [gI x5]) (st := []) d_GL_feed_45 ca_GL_take ml_GL_65 im_GL_take se_GL_take gc_GL (gl_1 hX 0) (gl_2 hX (a := 0) (by decide)) (gl_s0 hX) rfl (by decide) (by decide) rfl (fun _ => rfl) (fun _ => rfl) T (fun M6 T => ?_)
    refine wp_aload_n d_GL_feed_48 rfl rfl (g_nz (gl_1 hX 0)) ?_
    refine xgetI d_GL_feed_49 gc_GL f_GL_58.1 f_GL_58.2.1 f_GL_58.2.2.1 (gl_1 hX 0) (gl_2 hX (a := 0) (by decide)) (gl_s0 hX) f_GL_58.2.2.2.2.1 (fun h7 => ?_)
    have T := T h7
    exact wp_st (st' := [gI (M6 c 1)]) (by rfl) (wp_ireturn d_GL_feed_52 rfl (fun _ => rfl) (Nat.zero_le _) (Nat.zero_le _) T)
  · have T := T.2 h8
    exact wp_throw (by decide) (ci := 12) (names := gEn_jIoob) hl.1 d_GL_feed_13 d_GL_feed_16 d_GL_feed_17 d_GL_feed_20 cl_GL_62 it_jIoob ii_jIoob (by decide +kernel) (by decide +kernel) (gAt_GL_64 hl) rfl T.1 (g_six T.1) (g_frk d) (g_lok d) T.2
theorem eu_GL_feed {l : Launch} {G : gG} {d : Nat} {X : gX} {M : gM} {Nr : Nat} {K : Outcome → gX → gM → Prop} {c : Nat} {x1 : Int} {x2 : Int} {x3 : Int} {x4 : Int} {x5 : Int} (T : wp l G y_GL_feed (gRr (d + 8) Nr) true K false 0 [.val (gR G c), .val (gI x1), .val (gI x2), .val (gI x3), .val (gI x4), .val (gI x5)] [] X M 0 0) : gCt l G y_GL_feed (gRr (d + 8) Nr) true [gR G c, gI x1, gI x2, gI x3, gI x4, gI x5] X M K := gCt.of (plainFor_of_name rfl) (by simp only [lg_sl_R, lg_sl_I, lg_sl_L, lg_sl_N, List.length_cons, List.length_nil]; decide) (by unfold gEn; simp only [lg_sl_R, lg_sl_I, lg_sl_L, lg_sl_N]; exact wpt T (And.intro rfl (And.intro rfl (And.intro rfl (And.intro rfl (And.intro rfl (And.intro rfl True.intro)))))))
set_option maxHeartbeats 4000000 in
theorem u_GL_end_0 {l : Launch} {G : gG} {d : Nat} {X : gX} {M : gM} {Nr : Nat} {K : Outcome → gX → gM → Prop} {c : Nat} (hX : glX X c) {x1 : Int} (hx1 : g32 x1)  (T : (x1 < 0 → (cT l G y_GL_need (gRr (d + 7) Nr) false [gI 0] X M K ∨ cV l G y_GL_need (gRm (d + 7)) false [gI 0] X M (fun M1 => (g32 (M1 c 1) → (g32 ((gUp M1 c 1 (w32 ((M1 c 1) - x1))) c 1) → (K (.returned (some (gI ((gUp M1 c 1 (w32 ((M1 c 1) - x1))) c 1)))) X (gUp M1 c 1 (w32 ((M1 c 1) - x1))))))))) ∧ (¬ x1 < 0 → (g32 (M c 1) → ((M c 1 < x1 → (cT l G y_GL_need (gRr (d + 7) Nr) false [gI 0] X M K ∨ cV l G y_GL_need (gRm (d + 7)) false [gI 0] X M (fun M5 => (g32 (M5 c 1) → (g32 ((gUp M5 c 1 (w32 ((M5 c 1) - x1))) c 1) → (K (.returned (some (gI ((gUp M5 c 1 (w32 ((M5 c 1) - x1))) c 1)))) X (gUp M5 c 1 (w32 ((M5 c 1) - x1))))))))) ∧ (¬ M c 1 < x1 → (cT l G y_GL_need (gRr (d + 7) Nr) false [gI 1] X M K ∨ cV l G y_GL_need (gRm (d + 7)) false [gI 1] X M (fun M8 => (g32 (M8 c 1) → (g32 ((gUp M8 c 1 (w32 ((M8 c 1) - x1))) c 1) → (K (.returned (some (gI ((gUp M8 c 1 (w32 ((M8 c 1) - x1))) c 1)))) X (gUp M8 c 1 (w32 ((M8 c 1) - x1))))))))))))) : wp l G y_GL_end (gRr (d + 8) Nr) true K false 0 [.val (gR G c), .val (gI x1)] [] X M 0 0 := by
  refine wp_iload_n d_GL_end_0 rfl rfl ?_
  refine xz_lt (tgt := 16) d_GL_end_1 (by decide) (w32_id hx1) (fun h12 => ?_) (fun h12 => ?_)
  · have T := T.1 h12
    refine wp_iconst d_GL_end_16 ?_
    rcases T with T | T
    · exact ytS (by decide) (As := [gI 0]) (st := []) d_GL_end_17 ca_GL_need ml_GL_69 sm_GL_need  rfl (by decide) (by decide) rfl (fun _ => rfl) (fun h => by cases h) T
    refine ycS_V (md' := false) (As := [gI 0]) (st := []) d_GL_end_17 ca_GL_need ml_GL_69 sm_GL_need  rfl (by decide) (by decide) rfl id id T (fun M1 T => ?_)
    refine wp_aload_n d_GL_end_20 rfl rfl (g_nz (gl_1 hX 0)) ?_
    refine wp_dup d_GL_end_21 (gR_cat _) ?_
    refine xgetI d_GL_end_22 gc_GL f_GL_58.1 f_GL_58.2.1 f_GL_58.2.2.1 (gl_1 hX 0) (gl_2 hX (a := 0) (by decide)) (gl_s0 hX) f_GL_58.2.2.2.2.1 (fun h2 => ?_)
    have T := T h2
    refine wp_iload_n d_GL_end_25 rfl rfl ?_
    refine wp_isub d_GL_end_26 ?_
    refine xputI d_GL_end_27 gc_GL f_GL_58.1 f_GL_58.2.1 f_GL_58.2.2.1 (gl_1 hX 0) (gl_2 hX (a := 0) (by decide)) (gl_s0 hX) f_GL_58.2.2.2.1 f_GL_58.2.2.2.2.1 f_GL_58.2.2.2.2.2 rfl ?_
    refine wp_aload_n d_GL_end_30 rfl rfl (g_nz (gl_1 hX 0)) ?_
    refine xgetI d_GL_end_31 gc_GL f_GL_58.1 f_GL_58.2.1 f_GL_58.2.2.1 (gl_1 hX 0) (gl_2 hX (a := 0) (by decide)) (gl_s0 hX) f_GL_58.2.2.2.2.1 (fun h3 => ?_)
    have T := T h3
    exact wp_st (st' := [gI ((gUp M1 c 1 (w32 ((M1 c 1) - x1))) c 1)]) (by rfl) (wp_ireturn d_GL_end_34 rfl (fun _ => rfl) (Nat.zero_le _) (Nat.zero_le _) T)
  · have T := T.2 h12
    refine wp_iload_n d_GL_end_4 rfl rfl ?_
    refine wp_aload_n d_GL_end_5 rfl rfl (g_nz (gl_1 hX 0)) ?_
    refine xgetI d_GL_end_6 gc_GL f_GL_58.1 f_GL_58.2.1 f_GL_58.2.2.1 (gl_1 hX 0) (gl_2 hX (a := 0) (by decide)) (gl_s0 hX) f_GL_58.2.2.2.2.1 (fun h4 => ?_)
    have T := T h4
    refine xi_gt (tgt := 16) d_GL_end_9 (by decide) (w32_id hx1) (w32_id h4) (fun h11 => ?_) (fun h11 => ?_)
    · have T := T.1 h11
      refine wp_iconst d_GL_end_16 ?_
      rcases T with T | T
      · exact ytS (by decide) (As := [gI 0]) (st := []) d_GL_end_17 ca_GL_need ml_GL_69 sm_GL_need  rfl (by decide) (by decide) rfl (fun _ => rfl) (fun h => by cases h) T
      refine ycS_V (md' := false) (As := [gI 0]) (st := []) d_GL_end_17 ca_GL_need ml_GL_69 sm_GL_need  rfl (by decide) (by decide) rfl id id T (fun M5 T => ?_)
      refine wp_aload_n d_GL_end_20 rfl rfl (g_nz (gl_1 hX 0)) ?_
      refine wp_dup d_GL_end_21 (gR_cat _) ?_
      refine xgetI d_GL_end_22 gc_GL f_GL_58.1 f_GL_58.2.1 f_GL_58.2.2.1 (gl_1 hX 0) (gl_2 hX (a := 0) (by decide)) (gl_s0 hX) f_GL_58.2.2.2.2.1 (fun h6 => ?_)
      have T := T h6
      refine wp_iload_n d_GL_end_25 rfl rfl ?_
      refine wp_isub d_GL_end_26 ?_
      refine xputI d_GL_end_27 gc_GL f_GL_58.1 f_GL_58.2.1 f_GL_58.2.2.1 (gl_1 hX 0) (gl_2 hX (a := 0) (by decide)) (gl_s0 hX) f_GL_58.2.2.2.1 f_GL_58.2.2.2.2.1 f_GL_58.2.2.2.2.2 rfl ?_
      refine wp_aload_n d_GL_end_30 rfl rfl (g_nz (gl_1 hX 0)) ?_
      refine xgetI d_GL_end_31 gc_GL f_GL_58.1 f_GL_58.2.1 f_GL_58.2.2.1 (gl_1 hX 0) (gl_2 hX (a := 0) (by decide)) (gl_s0 hX) f_GL_58.2.2.2.2.1 (fun h7 => ?_)
      have T := T h7
      exact wp_st (st' := [gI ((gUp M5 c 1 (w32 ((M5 c 1) - x1))) c 1)]) (by rfl) (wp_ireturn d_GL_end_34 rfl (fun _ => rfl) (Nat.zero_le _) (Nat.zero_le _) T)
    · have T := T.2 h11
      refine wp_iconst d_GL_end_12 ?_
      refine wp_goto (tgt := 17) d_GL_end_13 (by decide) ?_
      rcases T with T | T
      · exact ytS (by decide) (As := [gI 1]) (st := []) d_GL_end_17 ca_GL_need ml_GL_69 sm_GL_need  rfl (by decide) (by decide) rfl (fun _ => rfl) (fun h => by cases h) T
      refine ycS_V (md' := false) (As := [gI 1]) (st := []) d_GL_end_17 ca_GL_need ml_GL_69 sm_GL_need  rfl (by decide) (by decide) rfl id id T (fun M8 T => ?_)
      refine wp_aload_n d_GL_end_20 rfl rfl (g_nz (gl_1 hX 0)) ?_
      refine wp_dup d_GL_end_21 (gR_cat _) ?_
      refine xgetI d_GL_end_22 gc_GL f_GL_58.1 f_GL_58.2.1 f_GL_58.2.2.1 (gl_1 hX 0) (gl_2 hX (a := 0) (by decide)) (gl_s0 hX) f_GL_58.2.2.2.2.1 (fun h9 => ?_)
      have T := T h9
      refine wp_iload_n d_GL_end_25 rfl rfl ?_
      refine wp_isub d_GL_end_26 ?_
      refine xputI d_GL_end_27 gc_GL f_GL_58.1 f_GL_58.2.1 f_GL_58.2.2.1 (gl_1 hX 0) (gl_2 hX (a := 0) (by decide)) (gl_s0 hX) f_GL_58.2.2.2.1 f_GL_58.2.2.2.2.1 f_GL_58.2.2.2.2.2 rfl ?_
      refine wp_aload_n d_GL_end_30 rfl rfl (g_nz (gl_1 hX 0)) ?_
      refine xgetI d_GL_end_31 gc_GL f_GL_58.1 f_GL_58.2.1 f_GL_58.2.2.1 (gl_1 hX 0) (gl_2 hX (a := 0) (by decide)) (gl_s0 hX) f_GL_58.2.2.2.2.1 (fun h10 => ?_)
      have T := T h10
      exact wp_st (st' := [gI ((gUp M8 c 1 (w32 ((M8 c 1) - x1))) c 1)]) (by rfl) (wp_ireturn d_GL_end_34 rfl (fun _ => rfl) (Nat.zero_le _) (Nat.zero_le _) T)
theorem eu_GL_end {l : Launch} {G : gG} {d : Nat} {X : gX} {M : gM} {Nr : Nat} {K : Outcome → gX → gM → Prop} {c : Nat} {x1 : Int} (T : wp l G y_GL_end (gRr (d + 8) Nr) true K false 0 [.val (gR G c), .val (gI x1)] [] X M 0 0) : gCt l G y_GL_end (gRr (d + 8) Nr) true [gR G c, gI x1] X M K := gCt.of (plainFor_of_name rfl) (by simp only [lg_sl_R, lg_sl_I, lg_sl_L, lg_sl_N, List.length_cons, List.length_nil]; decide) (by unfold gEn; simp only [lg_sl_R, lg_sl_I, lg_sl_L, lg_sl_N]; exact wpt T (And.intro rfl (And.intro rfl True.intro)))
set_option maxHeartbeats 4000000 in
theorem u_GL_put_0 {l : Launch} {G : gG} {d : Nat} {X : gX} {M : gM} {Nr : Nat} {K : Outcome → gX → gM → Prop} {c : Nat} (hX : glX X c) {x1 : Int} (hx1 : g32 x1) {x2 : Int} (hx2 : g32 x2)  (T : g32 (M c 1) → (cT l G y_GL_needCell (gRr (d + 7) Nr) false [gI x1, gI x2] X (gUp M c 1 0) K ∨ cV l G y_GL_needCell (gRm (d + 7)) false [gI x1, gI x2] X (gUp M c 1 0) (fun M2 => (cI l G y_Rd_typed (gRm (d + 7)) true [gR G (c + 14), gI (M c 1)] X M2 (fun v4 M3 => ((v4 = (-1) → (cT l G y_GL_need (gRr (d + 7) Nr) false [gI 0] X M3 K ∨ cV l G y_GL_need (gRm (d + 7)) false [gI 0] X M3 (fun M6 => (g32 (M6 c 8) → (((0 : Int) ≤ M6 c 8 ∧ M6 c 8 < 41) ∧ gsX X (X.2.2 (c + 23) (Int.toNat (M6 c 8))) ∧ (gsX X (X.2.2 c 7) ∧ (cX l G y_Ed_open (gRm (d + 7)) true [gR G (c + 21), gR G (X.2.2 (c + 23) (Int.toNat (M6 c 8))), gR G (X.2.2 c 7)] X M6 (fun X12 M11 => glX X12 c ∧ ((v4 = (-2) → (cT l G y_GL_land (gRr (d + 7) Nr) true [gR G c, gI 0] X12 M11 K ∨ cX l G y_GL_land (gRm (d + 7)) true [gR G c, gI 0] X12 M11 (fun X15 M14 => glX X15 c ∧ (g32 (M14 c 8) → (((0 : Int) ≤ M14 c 8 ∧ M14 c 8 < 41) ∧ gsX X15 (X15.2.2 (c + 23) (Int.toNat (M14 c 8))) ∧ (cXI l G y_Rs_follow (gRm (d + 7)) true [gR G (c + 234), gR G (X15.2.2 (c + 23) (Int.toNat (M14 c 8)))] X15 M14 (fun v21 X23 M20 => glX X23 c ∧ (K (.returned (some (gI v21))) X23 M20)))))))) ∧ (¬ v4 = (-2) → (cI l G y_GL_place (gRm (d + 7)) false [gI x1, gI x2] X12 M11 (fun v26 M25 => (cZ l G y_Ed_replaced (gRm (d + 7)) true [gR G (c + 21), gI v26, gI v4] X12 M25 (fun v29 M28 => ((v29 = 0 → (cT l G y_GL_land (gRr (d + 7) Nr) true [gR G c, gI 0] X12 M28 K ∨ cX l G y_GL_land (gRm (d + 7)) true [gR G c, gI 0] X12 M28 (fun X32 M31 => glX X32 c ∧ (g32 (M31 c 8) → (((0 : Int) ≤ M31 c 8 ∧ M31 c 8 < 41) ∧ gsX X32 (X32.2.2 (c + 23) (Int.toNat (M31 c 8))) ∧ (cXI l G y_Rs_follow (gRm (d + 7)) true [gR G (c + 234), gR G (X32.2.2 (c + 23) (Int.toNat (M31 c 8)))] X32 M31 (fun v38 X40 M37 => glX X40 c ∧ (K (.returned (some (gI v38))) X40 M37)))))))) ∧ (¬ v29 = 0 → (cT l G y_GL_land (gRr (d + 7) Nr) true [gR G c, gI 1] X12 M28 K ∨ cX l G y_GL_land (gRm (d + 7)) true [gR G c, gI 1] X12 M28 (fun X43 M42 => glX X43 c ∧ (g32 (M42 c 8) → (((0 : Int) ≤ M42 c 8 ∧ M42 c 8 < 41) ∧ gsX X43 (X43.2.2 (c + 23) (Int.toNat (M42 c 8))) ∧ (cXI l G y_Rs_follow (gRm (d + 7)) true [gR G (c + 234), gR G (X43.2.2 (c + 23) (Int.toNat (M42 c 8)))] X43 M42 (fun v49 X51 M48 => glX X51 c ∧ (K (.returned (some (gI v49))) X51 M48))))))))))))))))))))))) ∧ (¬ v4 = (-1) → (cT l G y_GL_need (gRr (d + 7) Nr) false [gI 1] X M3 K ∨ cV l G y_GL_need (gRm (d + 7)) false [gI 1] X M3 (fun M55 => (g32 (M55 c 8) → (((0 : Int) ≤ M55 c 8 ∧ M55 c 8 < 41) ∧ gsX X (X.2.2 (c + 23) (Int.toNat (M55 c 8))) ∧ (gsX X (X.2.2 c 7) ∧ (cX l G y_Ed_open (gRm (d + 7)) true [gR G (c + 21), gR G (X.2.2 (c + 23) (Int.toNat (M55 c 8))), gR G (X.2.2 c 7)] X M55 (fun X61 M60 => glX X61 c ∧ ((v4 = (-2) → (cT l G y_GL_land (gRr (d + 7) Nr) true [gR G c, gI 0] X61 M60 K ∨ cX l G y_GL_land (gRm (d + 7)) true [gR G c, gI 0] X61 M60 (fun X64 M63 => glX X64 c ∧ (g32 (M63 c 8) → (((0 : Int) ≤ M63 c 8 ∧ M63 c 8 < 41) ∧ gsX X64 (X64.2.2 (c + 23) (Int.toNat (M63 c 8))) ∧ (cXI l G y_Rs_follow (gRm (d + 7)) true [gR G (c + 234), gR G (X64.2.2 (c + 23) (Int.toNat (M63 c 8)))] X64 M63 (fun v70 X72 M69 => glX X72 c ∧ (K (.returned (some (gI v70))) X72 M69)))))))) ∧ (¬ v4 = (-2) → (cI l G y_GL_place (gRm (d + 7)) false [gI x1, gI x2] X61 M60 (fun v75 M74 => (cZ l G y_Ed_replaced (gRm (d + 7)) true [gR G (c + 21), gI v75, gI v4] X61 M74 (fun v78 M77 => ((v78 = 0 → (cT l G y_GL_land (gRr (d + 7) Nr) true [gR G c, gI 0] X61 M77 K ∨ cX l G y_GL_land (gRm (d + 7)) true [gR G c, gI 0] X61 M77 (fun X81 M80 => glX X81 c ∧ (g32 (M80 c 8) → (((0 : Int) ≤ M80 c 8 ∧ M80 c 8 < 41) ∧ gsX X81 (X81.2.2 (c + 23) (Int.toNat (M80 c 8))) ∧ (cXI l G y_Rs_follow (gRm (d + 7)) true [gR G (c + 234), gR G (X81.2.2 (c + 23) (Int.toNat (M80 c 8)))] X81 M80 (fun v87 X89 M86 => glX X89 c ∧ (K (.returned (some (gI v87))) X89 M86)))))))) ∧ (¬ v78 = 0 → (cT l G y_GL_land (gRr (d + 7) Nr) true [gR G c, gI 1] X61 M77 K ∨ cX l G y_GL_land (gRm (d + 7)) true [gR G c, gI 1] X61 M77 (fun X92 M91 => glX X92 c ∧ (g32 (M91 c 8) → (((0 : Int) ≤ M91 c 8 ∧ M91 c 8 < 41) ∧ gsX X92 (X92.2.2 (c + 23) (Int.toNat (M91 c 8))) ∧ (cXI l G y_Rs_follow (gRm (d + 7)) true [gR G (c + 234), gR G (X92.2.2 (c + 23) (Int.toNat (M91 c 8)))] X92 M91 (fun v98 X100 M97 => glX X100 c ∧ (K (.returned (some (gI v98))) X100 M97))))))))))))))))))))))))))))) : wp l G y_GL_put (gRr (d + 8) Nr) true K false 0 [.val (gR G c), .val (gI x1), .val (gI x2), .unset, .unset] [] X M 0 0 := by
  refine wp_aload_n d_GL_put_0 rfl rfl (g_nz (gl_1 hX 0)) ?_
  refine xgetI d_GL_put_1 gc_GL f_GL_58.1 f_GL_58.2.1 f_GL_58.2.2.1 (gl_1 hX 0) (gl_2 hX (a := 0) (by decide)) (gl_s0 hX) f_GL_58.2.2.2.2.1 (fun h1 => ?_)
  have T := T h1
  refine wp_istore_n (L' := [.val (gR G c), .val (gI x1), .val (gI x2), .val (gI (M c 1)), .unset]) d_GL_put_4 rfl (by decide) rfl ?_
  refine wp_aload_n d_GL_put_5 rfl rfl (g_nz (gl_1 hX 0)) ?_
  refine wp_iconst d_GL_put_6 ?_
  refine xputI d_GL_put_7 gc_GL f_GL_58.1 f_GL_58.2.1 f_GL_58.2.2.1 (gl_1 hX 0) (gl_2 hX (a := 0) (by decide)) (gl_s0 hX) f_GL_58.2.2.2.1 f_GL_58.2.2.2.2.1 f_GL_58.2.2.2.2.2 (w32_id (g32_c (x := 0) rfl)) ?_
  refine wp_iload_n d_GL_put_10 rfl rfl ?_
  refine wp_iload_n d_GL_put_11 rfl rfl ?_
  rcases T with T | T
  · exact ytS (by decide) (As := [gI x1, gI x2]) (st := []) d_GL_put_12 ca_GL_needCell ml_GL_73 sm_GL_needCell  rfl (by decide) (by decide) rfl (fun _ => rfl) (fun h => by cases h) T
  refine ycS_V (md' := true) (As := [gI x1, gI x2]) (st := []) d_GL_put_12 ca_GL_needCell ml_GL_73 sm_GL_needCell  rfl (by decide) (by decide) rfl (fun _ => rfl) (fun _ => rfl) T (fun M2 T => ?_)
  refine wp_aload_n d_GL_put_15 rfl rfl (g_nz (gl_1 hX 0)) ?_
  refine xgetR d_GL_put_16 gc_GL f_GL_25.1 f_GL_25.2.1 f_GL_25.2.2.1 (gl_1 hX 0) (gl_2 hX (a := 0) (by decide)) (gl_s0 hX) f_GL_25.2.2.2.2.1 (gl_f0 hX 13 rfl) ?_
  refine wp_iload_n d_GL_put_19 rfl rfl ?_
  refine ycV_I (md' := true) (As := [gI (M c 1)]) (st := []) d_GL_put_20 ca_Rd_typed ml_GL_77 im_Rd_typed se_Rd_typed gc_Rd (gl_1 hX 14) (gl_2 hX (a := 14) (by decide)) (gl_s hX 14 rfl) rfl (by decide) (by decide) rfl (fun _ => rfl) (fun _ => rfl) T (fun v4 M3 h5 T => ?_)
  refine wp_istore (L' := [.val (gR G c), .val (gI x1), .val (gI x2), .val (gI (M c 1)), .val (gI v4)]) d_GL_put_23 (by decide) rfl ?_
  refine wp_iload d_GL_put_25 rfl ?_
  refine wp_iconst d_GL_put_27 ?_
  refine xi_eq (tgt := 35) d_GL_put_28 (by decide) (w32_id h5) (w32_id (g32_c (x := (-1)) rfl)) (fun h104 => ?_) (fun h104 => ?_)
  · have T := T.1 h104
    refine wp_iconst d_GL_put_35 ?_
    rcases T with T | T
    · exact ytS (by decide) (As := [gI 0]) (st := []) d_GL_put_36 ca_GL_need ml_GL_69 sm_GL_need  rfl (by decide) (by decide) rfl (fun _ => rfl) (fun h => by cases h) T
    refine ycS_V (md' := true) (As := [gI 0]) (st := []) d_GL_put_36 ca_GL_need ml_GL_69 sm_GL_need  rfl (by decide) (by decide) rfl (fun _ => rfl) (fun _ => rfl) T (fun M6 T => ?_)
    refine wp_aload_n d_GL_put_39 rfl rfl (g_nz (gl_1 hX 0)) ?_
    refine xgetR d_GL_put_40 gc_GL f_GL_34.1 f_GL_34.2.1 f_GL_34.2.2.1 (gl_1 hX 0) (gl_2 hX (a := 0) (by decide)) (gl_s0 hX) f_GL_34.2.2.2.2.1 (gl_f0 hX 23 rfl) ?_
    refine wp_aload_n d_GL_put_43 rfl rfl (g_nz (gl_1 hX 0)) ?_
    refine xgetR d_GL_put_44 gc_GL f_GL_40.1 f_GL_40.2.1 f_GL_40.2.2.1 (gl_1 hX 0) (gl_2 hX (a := 0) (by decide)) (gl_s0 hX) f_GL_40.2.2.2.2.1 (gl_f0 hX 26 rfl) ?_
    refine wp_aload_n d_GL_put_47 rfl rfl (g_nz (gl_1 hX 0)) ?_
    refine xgetI d_GL_put_48 gc_GL f_GL_81.1 f_GL_81.2.1 f_GL_81.2.2.1 (gl_1 hX 0) (gl_2 hX (a := 0) (by decide)) (gl_s0 hX) f_GL_81.2.2.2.2.1 (fun h7 => ?_)
    have T := T h7
    have h8 := T.1
    have q9 := T.2.1
    refine xaald d_GL_put_51 (Or.inr rfl) (gl_1 hX 23) (gl_2 hX (a := 23) (by decide)) (gl_s hX 23 rfl) (g32_n h8 (by decide)) h8.1 h8.2 rfl ?_
    have T := T.2.2
    refine wp_aload_n d_GL_put_52 rfl rfl (g_nz (gl_1 hX 0)) ?_
    have q10 := T.1
    have T := T.2
    refine xgetR d_GL_put_53 gc_GL f_GL_45.1 f_GL_45.2.1 f_GL_45.2.2.1 (gl_1 hX 0) (gl_2 hX (a := 0) (by decide)) (gl_s0 hX) f_GL_45.2.2.2.2.1 rfl ?_
    refine yxV_V (md' := true) (As := [gR G (X.2.2 (c + 23) (Int.toNat (M6 c 8))), gR G (X.2.2 c 7)]) (st := []) d_GL_put_56 ca_Ed_open ml_GL_84 im_Ed_open se_Ed_open gc_Ed (gl_1 hX 21) (gl_2 hX (a := 21) (by decide)) (gl_s hX 21 rfl) rfl (by decide) (by decide) rfl (fun _ => rfl) (fun _ => rfl) T (fun X12 M11 T => ?_)
    obtain ⟨hX13, T⟩ := T
    refine wp_aload_n d_GL_put_59 rfl rfl (g_nz (gl_1 hX13 0)) ?_
    refine wp_iload d_GL_put_60 rfl ?_
    refine wp_bipush d_GL_put_62 ⟨by decide, by decide⟩ ?_
    refine xi_eq (tgt := 88) d_GL_put_64 (by decide) (w32_id h5) (w32_id (g32_c (x := (-2)) rfl)) (fun h54 => ?_) (fun h54 => ?_)
    · have T := T.1 h54
      refine wp_iconst d_GL_put_88 ?_
      rcases T with T | T
      · exact ytV (by decide) (As := [gI 0]) (st := []) d_GL_put_89 ca_GL_land ml_GL_96 im_GL_land se_GL_land gc_GL (gl_1 hX13 0) (gl_2 hX13 (a := 0) (by decide)) (gl_s0 hX13) rfl (by decide) (by decide) rfl (fun _ => rfl) (fun _ => rfl) T
      refine yxV_V (md' := true) (As := [gI 0]) (st := []) d_GL_put_89 ca_GL_land ml_GL_96 im_GL_land se_GL_land gc_GL (gl_1 hX13 0) (gl_2 hX13 (a := 0) (by decide)) (gl_s0 hX13) rfl (by decide) (by decide) rfl (fun _ => rfl) (fun _ => rfl) T (fun X15 M14 T => ?_)
      obtain ⟨hX16, T⟩ := T
      refine wp_aload_n d_GL_put_92 rfl rfl (g_nz (gl_1 hX16 0)) ?_
      refine xgetR d_GL_put_93 gc_GL f_GL_54.1 f_GL_54.2.1 f_GL_54.2.2.1 (gl_1 hX16 0) (gl_2 hX16 (a := 0) (by decide)) (gl_s0 hX16) f_GL_54.2.2.2.2.1 (gl_f0 hX16 27 rfl) ?_
      refine wp_aload_n d_GL_put_96 rfl rfl (g_nz (gl_1 hX16 0)) ?_
      refine xgetR d_GL_put_97 gc_GL f_GL_40.1 f_GL_40.2.1 f_GL_40.2.2.1 (gl_1 hX16 0) (gl_2 hX16 (a := 0) (by decide)) (gl_s0 hX16) f_GL_40.2.2.2.2.1 (gl_f0 hX16 26 rfl) ?_
      refine wp_aload_n d_GL_put_100 rfl rfl (g_nz (gl_1 hX16 0)) ?_
      refine xgetI d_GL_put_101 gc_GL f_GL_81.1 f_GL_81.2.1 f_GL_81.2.2.1 (gl_1 hX16 0) (gl_2 hX16 (a := 0) (by decide)) (gl_s0 hX16) f_GL_81.2.2.2.2.1 (fun h17 => ?_)
      have T := T h17
      have h18 := T.1
      have q19 := T.2.1
      refine xaald d_GL_put_104 (Or.inr rfl) (gl_1 hX16 23) (gl_2 hX16 (a := 23) (by decide)) (gl_s hX16 23 rfl) (g32_n h18 (by decide)) h18.1 h18.2 rfl ?_
      have T := T.2.2
      refine yxV_I (md' := true) (As := [gR G (X15.2.2 (c + 23) (Int.toNat (M14 c 8)))]) (st := []) d_GL_put_105 ca_Rs_follow ml_GL_99 im_Rs_follow se_Rs_follow gc_Rs (gl_1 hX16 234) (gl_2 hX16 (a := 234) (by decide)) (gl_s hX16 24 rfl) rfl (by decide) (by decide) rfl (fun _ => rfl) (fun _ => rfl) T (fun v21 X23 M20 h22 T => ?_)
      obtain ⟨hX24, T⟩ := T
      exact wp_st (st' := [gI v21]) (by rfl) (wp_ireturn d_GL_put_108 rfl (fun _ => rfl) (Nat.zero_le _) (Nat.zero_le _) T)
    · have T := T.2 h54
      refine wp_aload_n d_GL_put_67 rfl rfl (g_nz (gl_1 hX13 0)) ?_
      refine xgetR d_GL_put_68 gc_GL f_GL_34.1 f_GL_34.2.1 f_GL_34.2.2.1 (gl_1 hX13 0) (gl_2 hX13 (a := 0) (by decide)) (gl_s0 hX13) f_GL_34.2.2.2.2.1 (gl_f0 hX13 23 rfl) ?_
      refine wp_iload_n d_GL_put_71 rfl rfl ?_
      refine wp_iload_n d_GL_put_72 rfl rfl ?_
      refine ycS_I (md' := true) (As := [gI x1, gI x2]) (st := [gR G (c + 21), gR G c]) d_GL_put_73 ca_GL_place ml_GL_88 sm_GL_place rfl (by decide) (by simp only [List.map, gR_cat, gI_cat, gL_cat, List.sum_cons, List.sum_nil]; decide) rfl (fun _ => rfl) (fun _ => rfl) T (fun v26 M25 h27 T => ?_)
      refine wp_iload d_GL_put_76 rfl ?_
      refine ycV_Z (md' := true) (As := [gI v26, gI v4]) (st := [gR G c]) d_GL_put_78 ca_Ed_replaced ml_GL_92 im_Ed_replaced se_Ed_replaced gc_Ed (gl_1 hX13 21) (gl_2 hX13 (a := 21) (by decide)) (gl_s hX13 21 rfl) rfl (by decide) (by simp only [List.map, gR_cat, gI_cat, gL_cat, List.sum_cons, List.sum_nil]; decide) rfl (fun _ => rfl) (fun _ => rfl) T (fun v29 M28 h30 T => ?_)
      refine xz_eq (tgt := 88) d_GL_put_81 (by decide) (w32_id (g32_z h30)) (fun h53 => ?_) (fun h53 => ?_)
      · have T := T.1 h53
        refine wp_iconst d_GL_put_88 ?_
        rcases T with T | T
        · exact ytV (by decide) (As := [gI 0]) (st := []) d_GL_put_89 ca_GL_land ml_GL_96 im_GL_land se_GL_land gc_GL (gl_1 hX13 0) (gl_2 hX13 (a := 0) (by decide)) (gl_s0 hX13) rfl (by decide) (by decide) rfl (fun _ => rfl) (fun _ => rfl) T
        refine yxV_V (md' := true) (As := [gI 0]) (st := []) d_GL_put_89 ca_GL_land ml_GL_96 im_GL_land se_GL_land gc_GL (gl_1 hX13 0) (gl_2 hX13 (a := 0) (by decide)) (gl_s0 hX13) rfl (by decide) (by decide) rfl (fun _ => rfl) (fun _ => rfl) T (fun X32 M31 T => ?_)
        obtain ⟨hX33, T⟩ := T
        refine wp_aload_n d_GL_put_92 rfl rfl (g_nz (gl_1 hX33 0)) ?_
        refine xgetR d_GL_put_93 gc_GL f_GL_54.1 f_GL_54.2.1 f_GL_54.2.2.1 (gl_1 hX33 0) (gl_2 hX33 (a := 0) (by decide)) (gl_s0 hX33) f_GL_54.2.2.2.2.1 (gl_f0 hX33 27 rfl) ?_
        refine wp_aload_n d_GL_put_96 rfl rfl (g_nz (gl_1 hX33 0)) ?_
        refine xgetR d_GL_put_97 gc_GL f_GL_40.1 f_GL_40.2.1 f_GL_40.2.2.1 (gl_1 hX33 0) (gl_2 hX33 (a := 0) (by decide)) (gl_s0 hX33) f_GL_40.2.2.2.2.1 (gl_f0 hX33 26 rfl) ?_
        refine wp_aload_n d_GL_put_100 rfl rfl (g_nz (gl_1 hX33 0)) ?_
        refine xgetI d_GL_put_101 gc_GL f_GL_81.1 f_GL_81.2.1 f_GL_81.2.2.1 (gl_1 hX33 0) (gl_2 hX33 (a := 0) (by decide)) (gl_s0 hX33) f_GL_81.2.2.2.2.1 (fun h34 => ?_)
        have T := T h34
        have h35 := T.1
        have q36 := T.2.1
        refine xaald d_GL_put_104 (Or.inr rfl) (gl_1 hX33 23) (gl_2 hX33 (a := 23) (by decide)) (gl_s hX33 23 rfl) (g32_n h35 (by decide)) h35.1 h35.2 rfl ?_
        have T := T.2.2
        refine yxV_I (md' := true) (As := [gR G (X32.2.2 (c + 23) (Int.toNat (M31 c 8)))]) (st := []) d_GL_put_105 ca_Rs_follow ml_GL_99 im_Rs_follow se_Rs_follow gc_Rs (gl_1 hX33 234) (gl_2 hX33 (a := 234) (by decide)) (gl_s hX33 24 rfl) rfl (by decide) (by decide) rfl (fun _ => rfl) (fun _ => rfl) T (fun v38 X40 M37 h39 T => ?_)
        obtain ⟨hX41, T⟩ := T
        exact wp_st (st' := [gI v38]) (by rfl) (wp_ireturn d_GL_put_108 rfl (fun _ => rfl) (Nat.zero_le _) (Nat.zero_le _) T)
      · have T := T.2 h53
        refine wp_iconst d_GL_put_84 ?_
        refine wp_goto (tgt := 89) d_GL_put_85 (by decide) ?_
        rcases T with T | T
        · exact ytV (by decide) (As := [gI 1]) (st := []) d_GL_put_89 ca_GL_land ml_GL_96 im_GL_land se_GL_land gc_GL (gl_1 hX13 0) (gl_2 hX13 (a := 0) (by decide)) (gl_s0 hX13) rfl (by decide) (by decide) rfl (fun _ => rfl) (fun _ => rfl) T
        refine yxV_V (md' := true) (As := [gI 1]) (st := []) d_GL_put_89 ca_GL_land ml_GL_96 im_GL_land se_GL_land gc_GL (gl_1 hX13 0) (gl_2 hX13 (a := 0) (by decide)) (gl_s0 hX13) rfl (by decide) (by decide) rfl (fun _ => rfl) (fun _ => rfl) T (fun X43 M42 T => ?_)
        obtain ⟨hX44, T⟩ := T
        refine wp_aload_n d_GL_put_92 rfl rfl (g_nz (gl_1 hX44 0)) ?_
        refine xgetR d_GL_put_93 gc_GL f_GL_54.1 f_GL_54.2.1 f_GL_54.2.2.1 (gl_1 hX44 0) (gl_2 hX44 (a := 0) (by decide)) (gl_s0 hX44) f_GL_54.2.2.2.2.1 (gl_f0 hX44 27 rfl) ?_
        refine wp_aload_n d_GL_put_96 rfl rfl (g_nz (gl_1 hX44 0)) ?_
        refine xgetR d_GL_put_97 gc_GL f_GL_40.1 f_GL_40.2.1 f_GL_40.2.2.1 (gl_1 hX44 0) (gl_2 hX44 (a := 0) (by decide)) (gl_s0 hX44) f_GL_40.2.2.2.2.1 (gl_f0 hX44 26 rfl) ?_
        refine wp_aload_n d_GL_put_100 rfl rfl (g_nz (gl_1 hX44 0)) ?_
        refine xgetI d_GL_put_101 gc_GL f_GL_81.1 f_GL_81.2.1 f_GL_81.2.2.1 (gl_1 hX44 0) (gl_2 hX44 (a := 0) (by decide)) (gl_s0 hX44) f_GL_81.2.2.2.2.1 (fun h45 => ?_)
        have T := T h45
        have h46 := T.1
        have q47 := T.2.1
        refine xaald d_GL_put_104 (Or.inr rfl) (gl_1 hX44 23) (gl_2 hX44 (a := 23) (by decide)) (gl_s hX44 23 rfl) (g32_n h46 (by decide)) h46.1 h46.2 rfl ?_
        have T := T.2.2
        refine yxV_I (md' := true) (As := [gR G (X43.2.2 (c + 23) (Int.toNat (M42 c 8)))]) (st := []) d_GL_put_105 ca_Rs_follow ml_GL_99 im_Rs_follow se_Rs_follow gc_Rs (gl_1 hX44 234) (gl_2 hX44 (a := 234) (by decide)) (gl_s hX44 24 rfl) rfl (by decide) (by decide) rfl (fun _ => rfl) (fun _ => rfl) T (fun v49 X51 M48 h50 T => ?_)
        obtain ⟨hX52, T⟩ := T
        exact wp_st (st' := [gI v49]) (by rfl) (wp_ireturn d_GL_put_108 rfl (fun _ => rfl) (Nat.zero_le _) (Nat.zero_le _) T)
  · have T := T.2 h104
    refine wp_iconst d_GL_put_31 ?_
    refine wp_goto (tgt := 36) d_GL_put_32 (by decide) ?_
    rcases T with T | T
    · exact ytS (by decide) (As := [gI 1]) (st := []) d_GL_put_36 ca_GL_need ml_GL_69 sm_GL_need  rfl (by decide) (by decide) rfl (fun _ => rfl) (fun h => by cases h) T
    refine ycS_V (md' := true) (As := [gI 1]) (st := []) d_GL_put_36 ca_GL_need ml_GL_69 sm_GL_need  rfl (by decide) (by decide) rfl (fun _ => rfl) (fun _ => rfl) T (fun M55 T => ?_)
    refine wp_aload_n d_GL_put_39 rfl rfl (g_nz (gl_1 hX 0)) ?_
    refine xgetR d_GL_put_40 gc_GL f_GL_34.1 f_GL_34.2.1 f_GL_34.2.2.1 (gl_1 hX 0) (gl_2 hX (a := 0) (by decide)) (gl_s0 hX) f_GL_34.2.2.2.2.1 (gl_f0 hX 23 rfl) ?_
    refine wp_aload_n d_GL_put_43 rfl rfl (g_nz (gl_1 hX 0)) ?_
    refine xgetR d_GL_put_44 gc_GL f_GL_40.1 f_GL_40.2.1 f_GL_40.2.2.1 (gl_1 hX 0) (gl_2 hX (a := 0) (by decide)) (gl_s0 hX) f_GL_40.2.2.2.2.1 (gl_f0 hX 26 rfl) ?_
    refine wp_aload_n d_GL_put_47 rfl rfl (g_nz (gl_1 hX 0)) ?_
    refine xgetI d_GL_put_48 gc_GL f_GL_81.1 f_GL_81.2.1 f_GL_81.2.2.1 (gl_1 hX 0) (gl_2 hX (a := 0) (by decide)) (gl_s0 hX) f_GL_81.2.2.2.2.1 (fun h56 => ?_)
    have T := T h56
    have h57 := T.1
    have q58 := T.2.1
    refine xaald d_GL_put_51 (Or.inr rfl) (gl_1 hX 23) (gl_2 hX (a := 23) (by decide)) (gl_s hX 23 rfl) (g32_n h57 (by decide)) h57.1 h57.2 rfl ?_
    have T := T.2.2
    refine wp_aload_n d_GL_put_52 rfl rfl (g_nz (gl_1 hX 0)) ?_
    have q59 := T.1
    have T := T.2
    refine xgetR d_GL_put_53 gc_GL f_GL_45.1 f_GL_45.2.1 f_GL_45.2.2.1 (gl_1 hX 0) (gl_2 hX (a := 0) (by decide)) (gl_s0 hX) f_GL_45.2.2.2.2.1 rfl ?_
    refine yxV_V (md' := true) (As := [gR G (X.2.2 (c + 23) (Int.toNat (M55 c 8))), gR G (X.2.2 c 7)]) (st := []) d_GL_put_56 ca_Ed_open ml_GL_84 im_Ed_open se_Ed_open gc_Ed (gl_1 hX 21) (gl_2 hX (a := 21) (by decide)) (gl_s hX 21 rfl) rfl (by decide) (by decide) rfl (fun _ => rfl) (fun _ => rfl) T (fun X61 M60 T => ?_)
    obtain ⟨hX62, T⟩ := T
    refine wp_aload_n d_GL_put_59 rfl rfl (g_nz (gl_1 hX62 0)) ?_
    refine wp_iload d_GL_put_60 rfl ?_
    refine wp_bipush d_GL_put_62 ⟨by decide, by decide⟩ ?_
    refine xi_eq (tgt := 88) d_GL_put_64 (by decide) (w32_id h5) (w32_id (g32_c (x := (-2)) rfl)) (fun h103 => ?_) (fun h103 => ?_)
    · have T := T.1 h103
      refine wp_iconst d_GL_put_88 ?_
      rcases T with T | T
      · exact ytV (by decide) (As := [gI 0]) (st := []) d_GL_put_89 ca_GL_land ml_GL_96 im_GL_land se_GL_land gc_GL (gl_1 hX62 0) (gl_2 hX62 (a := 0) (by decide)) (gl_s0 hX62) rfl (by decide) (by decide) rfl (fun _ => rfl) (fun _ => rfl) T
      refine yxV_V (md' := true) (As := [gI 0]) (st := []) d_GL_put_89 ca_GL_land ml_GL_96 im_GL_land se_GL_land gc_GL (gl_1 hX62 0) (gl_2 hX62 (a := 0) (by decide)) (gl_s0 hX62) rfl (by decide) (by decide) rfl (fun _ => rfl) (fun _ => rfl) T (fun X64 M63 T => ?_)
      obtain ⟨hX65, T⟩ := T
      refine wp_aload_n d_GL_put_92 rfl rfl (g_nz (gl_1 hX65 0)) ?_
      refine xgetR d_GL_put_93 gc_GL f_GL_54.1 f_GL_54.2.1 f_GL_54.2.2.1 (gl_1 hX65 0) (gl_2 hX65 (a := 0) (by decide)) (gl_s0 hX65) f_GL_54.2.2.2.2.1 (gl_f0 hX65 27 rfl) ?_
      refine wp_aload_n d_GL_put_96 rfl rfl (g_nz (gl_1 hX65 0)) ?_
      refine xgetR d_GL_put_97 gc_GL f_GL_40.1 f_GL_40.2.1 f_GL_40.2.2.1 (gl_1 hX65 0) (gl_2 hX65 (a := 0) (by decide)) (gl_s0 hX65) f_GL_40.2.2.2.2.1 (gl_f0 hX65 26 rfl) ?_
      refine wp_aload_n d_GL_put_100 rfl rfl (g_nz (gl_1 hX65 0)) ?_
      refine xgetI d_GL_put_101 gc_GL f_GL_81.1 f_GL_81.2.1 f_GL_81.2.2.1 (gl_1 hX65 0) (gl_2 hX65 (a := 0) (by decide)) (gl_s0 hX65) f_GL_81.2.2.2.2.1 (fun h66 => ?_)
      have T := T h66
      have h67 := T.1
      have q68 := T.2.1
      refine xaald d_GL_put_104 (Or.inr rfl) (gl_1 hX65 23) (gl_2 hX65 (a := 23) (by decide)) (gl_s hX65 23 rfl) (g32_n h67 (by decide)) h67.1 h67.2 rfl ?_
      have T := T.2.2
      refine yxV_I (md' := true) (As := [gR G (X64.2.2 (c + 23) (Int.toNat (M63 c 8)))]) (st := []) d_GL_put_105 ca_Rs_follow ml_GL_99 im_Rs_follow se_Rs_follow gc_Rs (gl_1 hX65 234) (gl_2 hX65 (a := 234) (by decide)) (gl_s hX65 24 rfl) rfl (by decide) (by decide) rfl (fun _ => rfl) (fun _ => rfl) T (fun v70 X72 M69 h71 T => ?_)
      obtain ⟨hX73, T⟩ := T
      exact wp_st (st' := [gI v70]) (by rfl) (wp_ireturn d_GL_put_108 rfl (fun _ => rfl) (Nat.zero_le _) (Nat.zero_le _) T)
    · have T := T.2 h103
      refine wp_aload_n d_GL_put_67 rfl rfl (g_nz (gl_1 hX62 0)) ?_
      refine xgetR d_GL_put_68 gc_GL f_GL_34.1 f_GL_34.2.1 f_GL_34.2.2.1 (gl_1 hX62 0) (gl_2 hX62 (a := 0) (by decide)) (gl_s0 hX62) f_GL_34.2.2.2.2.1 (gl_f0 hX62 23 rfl) ?_
      refine wp_iload_n d_GL_put_71 rfl rfl ?_
      refine wp_iload_n d_GL_put_72 rfl rfl ?_
      refine ycS_I (md' := true) (As := [gI x1, gI x2]) (st := [gR G (c + 21), gR G c]) d_GL_put_73 ca_GL_place ml_GL_88 sm_GL_place rfl (by decide) (by simp only [List.map, gR_cat, gI_cat, gL_cat, List.sum_cons, List.sum_nil]; decide) rfl (fun _ => rfl) (fun _ => rfl) T (fun v75 M74 h76 T => ?_)
      refine wp_iload d_GL_put_76 rfl ?_
      refine ycV_Z (md' := true) (As := [gI v75, gI v4]) (st := [gR G c]) d_GL_put_78 ca_Ed_replaced ml_GL_92 im_Ed_replaced se_Ed_replaced gc_Ed (gl_1 hX62 21) (gl_2 hX62 (a := 21) (by decide)) (gl_s hX62 21 rfl) rfl (by decide) (by simp only [List.map, gR_cat, gI_cat, gL_cat, List.sum_cons, List.sum_nil]; decide) rfl (fun _ => rfl) (fun _ => rfl) T (fun v78 M77 h79 T => ?_)
      refine xz_eq (tgt := 88) d_GL_put_81 (by decide) (w32_id (g32_z h79)) (fun h102 => ?_) (fun h102 => ?_)
      · have T := T.1 h102
        refine wp_iconst d_GL_put_88 ?_
        rcases T with T | T
        · exact ytV (by decide) (As := [gI 0]) (st := []) d_GL_put_89 ca_GL_land ml_GL_96 im_GL_land se_GL_land gc_GL (gl_1 hX62 0) (gl_2 hX62 (a := 0) (by decide)) (gl_s0 hX62) rfl (by decide) (by decide) rfl (fun _ => rfl) (fun _ => rfl) T
        refine yxV_V (md' := true) (As := [gI 0]) (st := []) d_GL_put_89 ca_GL_land ml_GL_96 im_GL_land se_GL_land gc_GL (gl_1 hX62 0) (gl_2 hX62 (a := 0) (by decide)) (gl_s0 hX62) rfl (by decide) (by decide) rfl (fun _ => rfl) (fun _ => rfl) T (fun X81 M80 T => ?_)
        obtain ⟨hX82, T⟩ := T
        refine wp_aload_n d_GL_put_92 rfl rfl (g_nz (gl_1 hX82 0)) ?_
        refine xgetR d_GL_put_93 gc_GL f_GL_54.1 f_GL_54.2.1 f_GL_54.2.2.1 (gl_1 hX82 0) (gl_2 hX82 (a := 0) (by decide)) (gl_s0 hX82) f_GL_54.2.2.2.2.1 (gl_f0 hX82 27 rfl) ?_
        refine wp_aload_n d_GL_put_96 rfl rfl (g_nz (gl_1 hX82 0)) ?_
        refine xgetR d_GL_put_97 gc_GL f_GL_40.1 f_GL_40.2.1 f_GL_40.2.2.1 (gl_1 hX82 0) (gl_2 hX82 (a := 0) (by decide)) (gl_s0 hX82) f_GL_40.2.2.2.2.1 (gl_f0 hX82 26 rfl) ?_
        refine wp_aload_n d_GL_put_100 rfl rfl (g_nz (gl_1 hX82 0)) ?_
        refine xgetI d_GL_put_101 gc_GL f_GL_81.1 f_GL_81.2.1 f_GL_81.2.2.1 (gl_1 hX82 0) (gl_2 hX82 (a := 0) (by decide)) (gl_s0 hX82) f_GL_81.2.2.2.2.1 (fun h83 => ?_)
        have T := T h83
        have h84 := T.1
        have q85 := T.2.1
        refine xaald d_GL_put_104 (Or.inr rfl) (gl_1 hX82 23) (gl_2 hX82 (a := 23) (by decide)) (gl_s hX82 23 rfl) (g32_n h84 (by decide)) h84.1 h84.2 rfl ?_
        have T := T.2.2
        refine yxV_I (md' := true) (As := [gR G (X81.2.2 (c + 23) (Int.toNat (M80 c 8)))]) (st := []) d_GL_put_105 ca_Rs_follow ml_GL_99 im_Rs_follow se_Rs_follow gc_Rs (gl_1 hX82 234) (gl_2 hX82 (a := 234) (by decide)) (gl_s hX82 24 rfl) rfl (by decide) (by decide) rfl (fun _ => rfl) (fun _ => rfl) T (fun v87 X89 M86 h88 T => ?_)
        obtain ⟨hX90, T⟩ := T
        exact wp_st (st' := [gI v87]) (by rfl) (wp_ireturn d_GL_put_108 rfl (fun _ => rfl) (Nat.zero_le _) (Nat.zero_le _) T)
      · have T := T.2 h102
        refine wp_iconst d_GL_put_84 ?_
        refine wp_goto (tgt := 89) d_GL_put_85 (by decide) ?_
        rcases T with T | T
        · exact ytV (by decide) (As := [gI 1]) (st := []) d_GL_put_89 ca_GL_land ml_GL_96 im_GL_land se_GL_land gc_GL (gl_1 hX62 0) (gl_2 hX62 (a := 0) (by decide)) (gl_s0 hX62) rfl (by decide) (by decide) rfl (fun _ => rfl) (fun _ => rfl) T
        refine yxV_V (md' := true) (As := [gI 1]) (st := []) d_GL_put_89 ca_GL_land ml_GL_96 im_GL_land se_GL_land gc_GL (gl_1 hX62 0) (gl_2 hX62 (a := 0) (by decide)) (gl_s0 hX62) rfl (by decide) (by decide) rfl (fun _ => rfl) (fun _ => rfl) T (fun X92 M91 T => ?_)
        obtain ⟨hX93, T⟩ := T
        refine wp_aload_n d_GL_put_92 rfl rfl (g_nz (gl_1 hX93 0)) ?_
        refine xgetR d_GL_put_93 gc_GL f_GL_54.1 f_GL_54.2.1 f_GL_54.2.2.1 (gl_1 hX93 0) (gl_2 hX93 (a := 0) (by decide)) (gl_s0 hX93) f_GL_54.2.2.2.2.1 (gl_f0 hX93 27 rfl) ?_
        refine wp_aload_n d_GL_put_96 rfl rfl (g_nz (gl_1 hX93 0)) ?_
        refine xgetR d_GL_put_97 gc_GL f_GL_40.1 f_GL_40.2.1 f_GL_40.2.2.1 (gl_1 hX93 0) (gl_2 hX93 (a := 0) (by decide)) (gl_s0 hX93) f_GL_40.2.2.2.2.1 (gl_f0 hX93 26 rfl) ?_
        refine wp_aload_n d_GL_put_100 rfl rfl (g_nz (gl_1 hX93 0)) ?_
        refine xgetI d_GL_put_101 gc_GL f_GL_81.1 f_GL_81.2.1 f_GL_81.2.2.1 (gl_1 hX93 0) (gl_2 hX93 (a := 0) (by decide)) (gl_s0 hX93) f_GL_81.2.2.2.2.1 (fun h94 => ?_)
        have T := T h94
        have h95 := T.1
        have q96 := T.2.1
        refine xaald d_GL_put_104 (Or.inr rfl) (gl_1 hX93 23) (gl_2 hX93 (a := 23) (by decide)) (gl_s hX93 23 rfl) (g32_n h95 (by decide)) h95.1 h95.2 rfl ?_
        have T := T.2.2
        refine yxV_I (md' := true) (As := [gR G (X92.2.2 (c + 23) (Int.toNat (M91 c 8)))]) (st := []) d_GL_put_105 ca_Rs_follow ml_GL_99 im_Rs_follow se_Rs_follow gc_Rs (gl_1 hX93 234) (gl_2 hX93 (a := 234) (by decide)) (gl_s hX93 24 rfl) rfl (by decide) (by decide) rfl (fun _ => rfl) (fun _ => rfl) T (fun v98 X100 M97 h99 T => ?_)
        obtain ⟨hX101, T⟩ := T
        exact wp_st (st' := [gI v98]) (by rfl) (wp_ireturn d_GL_put_108 rfl (fun _ => rfl) (Nat.zero_le _) (Nat.zero_le _) T)
theorem eu_GL_put {l : Launch} {G : gG} {d : Nat} {X : gX} {M : gM} {Nr : Nat} {K : Outcome → gX → gM → Prop} {c : Nat} {x1 : Int} {x2 : Int} (T : wp l G y_GL_put (gRr (d + 8) Nr) true K false 0 [.val (gR G c), .val (gI x1), .val (gI x2), .unset, .unset] [] X M 0 0) : gCt l G y_GL_put (gRr (d + 8) Nr) true [gR G c, gI x1, gI x2] X M K := gCt.of (plainFor_of_name rfl) (by simp only [lg_sl_R, lg_sl_I, lg_sl_L, lg_sl_N, List.length_cons, List.length_nil]; decide) (by unfold gEn; simp only [lg_sl_R, lg_sl_I, lg_sl_L, lg_sl_N]; exact wpt T (And.intro rfl (And.intro rfl (And.intro rfl True.intro))))
set_option maxHeartbeats 4000000 in
theorem u_GL_fill_0 {l : Launch} {G : gG} {d : Nat} {X : gX} {M : gM} {Nr : Nat} {K : Outcome → gX → gM → Prop} {c : Nat} (hX : glX X c) {x1 : Int} (hx1 : g32 x1) {x2 : Int} (hx2 : g32 x2) {x3 : Int} (hx3 : g32 x3) {x4 : Int} (hx4 : g32 x4) {x5 : Int} (hx5 : g32 x5) {x6 : Int} (hx6 : g32 x6)  (T : cT l G y_GL_needCell (gRr (d + 7) Nr) false [gI x1, gI x2] X M K ∨ cV l G y_GL_needCell (gRm (d + 7)) false [gI x1, gI x2] X M (fun M1 => (cT l G y_GL_needCell (gRr (d + 7) Nr) false [gI x3, gI x4] X M1 K ∨ cV l G y_GL_needCell (gRm (d + 7)) false [gI x3, gI x4] X M1 (fun M2 => (cT l G y_GL_needCell (gRr (d + 7) Nr) false [gI x5, gI x6] X M2 K ∨ cV l G y_GL_needCell (gRm (d + 7)) false [gI x5, gI x6] X M2 (fun M3 => ((x5 < x3 → (cT l G y_GL_need (gRr (d + 7) Nr) false [gI 0] X M3 K ∨ cV l G y_GL_need (gRm (d + 7)) false [gI 0] X M3 (fun M4 => (g32 (M4 c 8) → (((0 : Int) ≤ M4 c 8 ∧ M4 c 8 < 41) ∧ gsX X (X.2.2 (c + 23) (Int.toNat (M4 c 8))) ∧ (gsX X (X.2.2 c 7) ∧ (cX l G y_Ed_open (gRm (d + 7)) true [gR G (c + 21), gR G (X.2.2 (c + 23) (Int.toNat (M4 c 8))), gR G (X.2.2 c 7)] X M4 (fun X10 M9 => glX X10 c ∧ (cI l G y_GL_place (gRm (d + 7)) false [gI x1, gI x2] X10 M9 (fun v13 M12 => (cZ l G y_Ed_filled (gRm (d + 7)) true [gR G (c + 21), gI v13, gI x3, gI x4, gI x5, gI x6] X10 M12 (fun v16 M15 => (cT l G y_GL_land (gRr (d + 7) Nr) true [gR G c, gI v16] X10 M15 K ∨ cX l G y_GL_land (gRm (d + 7)) true [gR G c, gI v16] X10 M15 (fun X19 M18 => glX X19 c ∧ (g32 (M18 c 8) → (((0 : Int) ≤ M18 c 8 ∧ M18 c 8 < 41) ∧ gsX X19 (X19.2.2 (c + 23) (Int.toNat (M18 c 8))) ∧ (cXI l G y_Rs_follow (gRm (d + 7)) true [gR G (c + 234), gR G (X19.2.2 (c + 23) (Int.toNat (M18 c 8)))] X19 M18 (fun v25 X27 M24 => glX X27 c ∧ (K (.returned (some (gI v25))) X27 M24))))))))))))))))))) ∧ (¬ x5 < x3 → ((x6 < x4 → (cT l G y_GL_need (gRr (d + 7) Nr) false [gI 0] X M3 K ∨ cV l G y_GL_need (gRm (d + 7)) false [gI 0] X M3 (fun M29 => (g32 (M29 c 8) → (((0 : Int) ≤ M29 c 8 ∧ M29 c 8 < 41) ∧ gsX X (X.2.2 (c + 23) (Int.toNat (M29 c 8))) ∧ (gsX X (X.2.2 c 7) ∧ (cX l G y_Ed_open (gRm (d + 7)) true [gR G (c + 21), gR G (X.2.2 (c + 23) (Int.toNat (M29 c 8))), gR G (X.2.2 c 7)] X M29 (fun X35 M34 => glX X35 c ∧ (cI l G y_GL_place (gRm (d + 7)) false [gI x1, gI x2] X35 M34 (fun v38 M37 => (cZ l G y_Ed_filled (gRm (d + 7)) true [gR G (c + 21), gI v38, gI x3, gI x4, gI x5, gI x6] X35 M37 (fun v41 M40 => (cT l G y_GL_land (gRr (d + 7) Nr) true [gR G c, gI v41] X35 M40 K ∨ cX l G y_GL_land (gRm (d + 7)) true [gR G c, gI v41] X35 M40 (fun X44 M43 => glX X44 c ∧ (g32 (M43 c 8) → (((0 : Int) ≤ M43 c 8 ∧ M43 c 8 < 41) ∧ gsX X44 (X44.2.2 (c + 23) (Int.toNat (M43 c 8))) ∧ (cXI l G y_Rs_follow (gRm (d + 7)) true [gR G (c + 234), gR G (X44.2.2 (c + 23) (Int.toNat (M43 c 8)))] X44 M43 (fun v50 X52 M49 => glX X52 c ∧ (K (.returned (some (gI v50))) X52 M49))))))))))))))))))) ∧ (¬ x6 < x4 → (cT l G y_GL_need (gRr (d + 7) Nr) false [gI 1] X M3 K ∨ cV l G y_GL_need (gRm (d + 7)) false [gI 1] X M3 (fun M54 => (g32 (M54 c 8) → (((0 : Int) ≤ M54 c 8 ∧ M54 c 8 < 41) ∧ gsX X (X.2.2 (c + 23) (Int.toNat (M54 c 8))) ∧ (gsX X (X.2.2 c 7) ∧ (cX l G y_Ed_open (gRm (d + 7)) true [gR G (c + 21), gR G (X.2.2 (c + 23) (Int.toNat (M54 c 8))), gR G (X.2.2 c 7)] X M54 (fun X60 M59 => glX X60 c ∧ (cI l G y_GL_place (gRm (d + 7)) false [gI x1, gI x2] X60 M59 (fun v63 M62 => (cZ l G y_Ed_filled (gRm (d + 7)) true [gR G (c + 21), gI v63, gI x3, gI x4, gI x5, gI x6] X60 M62 (fun v66 M65 => (cT l G y_GL_land (gRr (d + 7) Nr) true [gR G c, gI v66] X60 M65 K ∨ cX l G y_GL_land (gRm (d + 7)) true [gR G c, gI v66] X60 M65 (fun X69 M68 => glX X69 c ∧ (g32 (M68 c 8) → (((0 : Int) ≤ M68 c 8 ∧ M68 c 8 < 41) ∧ gsX X69 (X69.2.2 (c + 23) (Int.toNat (M68 c 8))) ∧ (cXI l G y_Rs_follow (gRm (d + 7)) true [gR G (c + 234), gR G (X69.2.2 (c + 23) (Int.toNat (M68 c 8)))] X69 M68 (fun v75 X77 M74 => glX X77 c ∧ (K (.returned (some (gI v75))) X77 M74)))))))))))))))))))))))))))) : wp l G y_GL_fill (gRr (d + 8) Nr) true K false 0 [.val (gR G c), .val (gI x1), .val (gI x2), .val (gI x3), .val (gI x4), .val (gI x5), .val (gI x6)] [] X M 0 0 := by
  refine wp_iload_n d_GL_fill_0 rfl rfl ?_
  refine wp_iload_n d_GL_fill_1 rfl rfl ?_
  rcases T with T | T
  · exact ytS (by decide) (As := [gI x1, gI x2]) (st := []) d_GL_fill_2 ca_GL_needCell ml_GL_73 sm_GL_needCell  rfl (by decide) (by decide) rfl (fun _ => rfl) (fun h => by cases h) T
  refine ycS_V (md' := false) (As := [gI x1, gI x2]) (st := []) d_GL_fill_2 ca_GL_needCell ml_GL_73 sm_GL_needCell  rfl (by decide) (by decide) rfl id id T (fun M1 T => ?_)
  refine wp_iload_n d_GL_fill_5 rfl rfl ?_
  refine wp_iload d_GL_fill_6 rfl ?_
  rcases T with T | T
  · exact ytS (by decide) (As := [gI x3, gI x4]) (st := []) d_GL_fill_8 ca_GL_needCell ml_GL_73 sm_GL_needCell  rfl (by decide) (by decide) rfl (fun _ => rfl) (fun h => by cases h) T
  refine ycS_V (md' := false) (As := [gI x3, gI x4]) (st := []) d_GL_fill_8 ca_GL_needCell ml_GL_73 sm_GL_needCell  rfl (by decide) (by decide) rfl id id T (fun M2 T => ?_)
  refine wp_iload d_GL_fill_11 rfl ?_
  refine wp_iload d_GL_fill_13 rfl ?_
  rcases T with T | T
  · exact ytS (by decide) (As := [gI x5, gI x6]) (st := []) d_GL_fill_15 ca_GL_needCell ml_GL_73 sm_GL_needCell  rfl (by decide) (by decide) rfl (fun _ => rfl) (fun h => by cases h) T
  refine ycS_V (md' := false) (As := [gI x5, gI x6]) (st := []) d_GL_fill_15 ca_GL_needCell ml_GL_73 sm_GL_needCell  rfl (by decide) (by decide) rfl id id T (fun M3 T => ?_)
  refine wp_iload_n d_GL_fill_18 rfl rfl ?_
  refine wp_iload d_GL_fill_19 rfl ?_
  refine xi_gt (tgt := 35) d_GL_fill_21 (by decide) (w32_id hx3) (w32_id hx5) (fun h80 => ?_) (fun h80 => ?_)
  · have T := T.1 h80
    refine wp_iconst d_GL_fill_35 ?_
    rcases T with T | T
    · exact ytS (by decide) (As := [gI 0]) (st := []) d_GL_fill_36 ca_GL_need ml_GL_69 sm_GL_need  rfl (by decide) (by decide) rfl (fun _ => rfl) (fun h => by cases h) T
    refine ycS_V (md' := false) (As := [gI 0]) (st := []) d_GL_fill_36 ca_GL_need ml_GL_69 sm_GL_need  rfl (by decide) (by decide) rfl id id T (fun M4 T => ?_)
    refine wp_aload_n d_GL_fill_39 rfl rfl (g_nz (gl_1 hX 0)) ?_
    refine xgetR d_GL_fill_40 gc_GL f_GL_34.1 f_GL_34.2.1 f_GL_34.2.2.1 (gl_1 hX 0) (gl_2 hX (a := 0) (by decide)) (gl_s0 hX) f_GL_34.2.2.2.2.1 (gl_f0 hX 23 rfl) ?_
    refine wp_aload_n d_GL_fill_43 rfl rfl (g_nz (gl_1 hX 0)) ?_
    refine xgetR d_GL_fill_44 gc_GL f_GL_40.1 f_GL_40.2.1 f_GL_40.2.2.1 (gl_1 hX 0) (gl_2 hX (a := 0) (by decide)) (gl_s0 hX) f_GL_40.2.2.2.2.1 (gl_f0 hX 26 rfl) ?_
    refine wp_aload_n d_GL_fill_47 rfl rfl (g_nz (gl_1 hX 0)) ?_
    refine xgetI d_GL_fill_48 gc_GL f_GL_81.1 f_GL_81.2.1 f_GL_81.2.2.1 (gl_1 hX 0) (gl_2 hX (a := 0) (by decide)) (gl_s0 hX) f_GL_81.2.2.2.2.1 (fun h5 => ?_)
    have T := T h5
    have h6 := T.1
    have q7 := T.2.1
    refine xaald d_GL_fill_51 (Or.inr rfl) (gl_1 hX 23) (gl_2 hX (a := 23) (by decide)) (gl_s hX 23 rfl) (g32_n h6 (by decide)) h6.1 h6.2 rfl ?_
    have T := T.2.2
    refine wp_aload_n d_GL_fill_52 rfl rfl (g_nz (gl_1 hX 0)) ?_
    have q8 := T.1
    have T := T.2
    refine xgetR d_GL_fill_53 gc_GL f_GL_45.1 f_GL_45.2.1 f_GL_45.2.2.1 (gl_1 hX 0) (gl_2 hX (a := 0) (by decide)) (gl_s0 hX) f_GL_45.2.2.2.2.1 rfl ?_
    refine yxV_V (md' := true) (As := [gR G (X.2.2 (c + 23) (Int.toNat (M4 c 8))), gR G (X.2.2 c 7)]) (st := []) d_GL_fill_56 ca_Ed_open ml_GL_84 im_Ed_open se_Ed_open gc_Ed (gl_1 hX 21) (gl_2 hX (a := 21) (by decide)) (gl_s hX 21 rfl) rfl (by decide) (by decide) rfl (fun _ => rfl) (fun _ => rfl) T (fun X10 M9 T => ?_)
    obtain ⟨hX11, T⟩ := T
    refine wp_aload_n d_GL_fill_59 rfl rfl (g_nz (gl_1 hX11 0)) ?_
    refine wp_aload_n d_GL_fill_60 rfl rfl (g_nz (gl_1 hX11 0)) ?_
    refine xgetR d_GL_fill_61 gc_GL f_GL_34.1 f_GL_34.2.1 f_GL_34.2.2.1 (gl_1 hX11 0) (gl_2 hX11 (a := 0) (by decide)) (gl_s0 hX11) f_GL_34.2.2.2.2.1 (gl_f0 hX11 23 rfl) ?_
    refine wp_iload_n d_GL_fill_64 rfl rfl ?_
    refine wp_iload_n d_GL_fill_65 rfl rfl ?_
    refine ycS_I (md' := true) (As := [gI x1, gI x2]) (st := [gR G (c + 21), gR G c]) d_GL_fill_66 ca_GL_place ml_GL_88 sm_GL_place rfl (by decide) (by simp only [List.map, gR_cat, gI_cat, gL_cat, List.sum_cons, List.sum_nil]; decide) rfl (fun _ => rfl) (fun _ => rfl) T (fun v13 M12 h14 T => ?_)
    refine wp_iload_n d_GL_fill_69 rfl rfl ?_
    refine wp_iload d_GL_fill_70 rfl ?_
    refine wp_iload d_GL_fill_72 rfl ?_
    refine wp_iload d_GL_fill_74 rfl ?_
    refine ycV_Z (md' := true) (As := [gI v13, gI x3, gI x4, gI x5, gI x6]) (st := [gR G c]) d_GL_fill_76 ca_Ed_filled ml_GL_103 im_Ed_filled se_Ed_filled gc_Ed (gl_1 hX11 21) (gl_2 hX11 (a := 21) (by decide)) (gl_s hX11 21 rfl) rfl (by decide) (by simp only [List.map, gR_cat, gI_cat, gL_cat, List.sum_cons, List.sum_nil]; decide) rfl (fun _ => rfl) (fun _ => rfl) T (fun v16 M15 h17 T => ?_)
    rcases T with T | T
    · exact ytV (by decide) (As := [gI v16]) (st := []) d_GL_fill_79 ca_GL_land ml_GL_96 im_GL_land se_GL_land gc_GL (gl_1 hX11 0) (gl_2 hX11 (a := 0) (by decide)) (gl_s0 hX11) rfl (by decide) (by decide) rfl (fun _ => rfl) (fun _ => rfl) T
    refine yxV_V (md' := true) (As := [gI v16]) (st := []) d_GL_fill_79 ca_GL_land ml_GL_96 im_GL_land se_GL_land gc_GL (gl_1 hX11 0) (gl_2 hX11 (a := 0) (by decide)) (gl_s0 hX11) rfl (by decide) (by decide) rfl (fun _ => rfl) (fun _ => rfl) T (fun X19 M18 T => ?_)
    obtain ⟨hX20, T⟩ := T
    refine wp_aload_n d_GL_fill_82 rfl rfl (g_nz (gl_1 hX20 0)) ?_
    refine xgetR d_GL_fill_83 gc_GL f_GL_54.1 f_GL_54.2.1 f_GL_54.2.2.1 (gl_1 hX20 0) (gl_2 hX20 (a := 0) (by decide)) (gl_s0 hX20) f_GL_54.2.2.2.2.1 (gl_f0 hX20 27 rfl) ?_
    refine wp_aload_n d_GL_fill_86 rfl rfl (g_nz (gl_1 hX20 0)) ?_
    refine xgetR d_GL_fill_87 gc_GL f_GL_40.1 f_GL_40.2.1 f_GL_40.2.2.1 (gl_1 hX20 0) (gl_2 hX20 (a := 0) (by decide)) (gl_s0 hX20) f_GL_40.2.2.2.2.1 (gl_f0 hX20 26 rfl) ?_
    refine wp_aload_n d_GL_fill_90 rfl rfl (g_nz (gl_1 hX20 0)) ?_
    refine xgetI d_GL_fill_91 gc_GL f_GL_81.1 f_GL_81.2.1 f_GL_81.2.2.1 (gl_1 hX20 0) (gl_2 hX20 (a := 0) (by decide)) (gl_s0 hX20) f_GL_81.2.2.2.2.1 (fun h21 => ?_)
    have T := T h21
    have h22 := T.1
    have q23 := T.2.1
    refine xaald d_GL_fill_94 (Or.inr rfl) (gl_1 hX20 23) (gl_2 hX20 (a := 23) (by decide)) (gl_s hX20 23 rfl) (g32_n h22 (by decide)) h22.1 h22.2 rfl ?_
    have T := T.2.2
    refine yxV_I (md' := true) (As := [gR G (X19.2.2 (c + 23) (Int.toNat (M18 c 8)))]) (st := []) d_GL_fill_95 ca_Rs_follow ml_GL_99 im_Rs_follow se_Rs_follow gc_Rs (gl_1 hX20 234) (gl_2 hX20 (a := 234) (by decide)) (gl_s hX20 24 rfl) rfl (by decide) (by decide) rfl (fun _ => rfl) (fun _ => rfl) T (fun v25 X27 M24 h26 T => ?_)
    obtain ⟨hX28, T⟩ := T
    exact wp_st (st' := [gI v25]) (by rfl) (wp_ireturn d_GL_fill_98 rfl (fun _ => rfl) (Nat.zero_le _) (Nat.zero_le _) T)
  · have T := T.2 h80
    refine wp_iload d_GL_fill_24 rfl ?_
    refine wp_iload d_GL_fill_26 rfl ?_
    refine xi_gt (tgt := 35) d_GL_fill_28 (by decide) (w32_id hx4) (w32_id hx6) (fun h79 => ?_) (fun h79 => ?_)
    · have T := T.1 h79
      refine wp_iconst d_GL_fill_35 ?_
      rcases T with T | T
      · exact ytS (by decide) (As := [gI 0]) (st := []) d_GL_fill_36 ca_GL_need ml_GL_69 sm_GL_need  rfl (by decide) (by decide) rfl (fun _ => rfl) (fun h => by cases h) T
      refine ycS_V (md' := false) (As := [gI 0]) (st := []) d_GL_fill_36 ca_GL_need ml_GL_69 sm_GL_need  rfl (by decide) (by decide) rfl id id T (fun M29 T => ?_)
      refine wp_aload_n d_GL_fill_39 rfl rfl (g_nz (gl_1 hX 0)) ?_
      refine xgetR d_GL_fill_40 gc_GL f_GL_34.1 f_GL_34.2.1 f_GL_34.2.2.1 (gl_1 hX 0) (gl_2 hX (a := 0) (by decide)) (gl_s0 hX) f_GL_34.2.2.2.2.1 (gl_f0 hX 23 rfl) ?_
      refine wp_aload_n d_GL_fill_43 rfl rfl (g_nz (gl_1 hX 0)) ?_
      refine xgetR d_GL_fill_44 gc_GL f_GL_40.1 f_GL_40.2.1 f_GL_40.2.2.1 (gl_1 hX 0) (gl_2 hX (a := 0) (by decide)) (gl_s0 hX) f_GL_40.2.2.2.2.1 (gl_f0 hX 26 rfl) ?_
      refine wp_aload_n d_GL_fill_47 rfl rfl (g_nz (gl_1 hX 0)) ?_
      refine xgetI d_GL_fill_48 gc_GL f_GL_81.1 f_GL_81.2.1 f_GL_81.2.2.1 (gl_1 hX 0) (gl_2 hX (a := 0) (by decide)) (gl_s0 hX) f_GL_81.2.2.2.2.1 (fun h30 => ?_)
      have T := T h30
      have h31 := T.1
      have q32 := T.2.1
      refine xaald d_GL_fill_51 (Or.inr rfl) (gl_1 hX 23) (gl_2 hX (a := 23) (by decide)) (gl_s hX 23 rfl) (g32_n h31 (by decide)) h31.1 h31.2 rfl ?_
      have T := T.2.2
      refine wp_aload_n d_GL_fill_52 rfl rfl (g_nz (gl_1 hX 0)) ?_
      have q33 := T.1
      have T := T.2
      refine xgetR d_GL_fill_53 gc_GL f_GL_45.1 f_GL_45.2.1 f_GL_45.2.2.1 (gl_1 hX 0) (gl_2 hX (a := 0) (by decide)) (gl_s0 hX) f_GL_45.2.2.2.2.1 rfl ?_
      refine yxV_V (md' := true) (As := [gR G (X.2.2 (c + 23) (Int.toNat (M29 c 8))), gR G (X.2.2 c 7)]) (st := []) d_GL_fill_56 ca_Ed_open ml_GL_84 im_Ed_open se_Ed_open gc_Ed (gl_1 hX 21) (gl_2 hX (a := 21) (by decide)) (gl_s hX 21 rfl) rfl (by decide) (by decide) rfl (fun _ => rfl) (fun _ => rfl) T (fun X35 M34 T => ?_)
      obtain ⟨hX36, T⟩ := T
      refine wp_aload_n d_GL_fill_59 rfl rfl (g_nz (gl_1 hX36 0)) ?_
      refine wp_aload_n d_GL_fill_60 rfl rfl (g_nz (gl_1 hX36 0)) ?_
      refine xgetR d_GL_fill_61 gc_GL f_GL_34.1 f_GL_34.2.1 f_GL_34.2.2.1 (gl_1 hX36 0) (gl_2 hX36 (a := 0) (by decide)) (gl_s0 hX36) f_GL_34.2.2.2.2.1 (gl_f0 hX36 23 rfl) ?_
      refine wp_iload_n d_GL_fill_64 rfl rfl ?_
      refine wp_iload_n d_GL_fill_65 rfl rfl ?_
      refine ycS_I (md' := true) (As := [gI x1, gI x2]) (st := [gR G (c + 21), gR G c]) d_GL_fill_66 ca_GL_place ml_GL_88 sm_GL_place rfl (by decide) (by simp only [List.map, gR_cat, gI_cat, gL_cat, List.sum_cons, List.sum_nil]; decide) rfl (fun _ => rfl) (fun _ => rfl) T (fun v38 M37 h39 T => ?_)
      refine wp_iload_n d_GL_fill_69 rfl rfl ?_
      refine wp_iload d_GL_fill_70 rfl ?_
      refine wp_iload d_GL_fill_72 rfl ?_
      refine wp_iload d_GL_fill_74 rfl ?_
      refine ycV_Z (md' := true) (As := [gI v38, gI x3, gI x4, gI x5, gI x6]) (st := [gR G c]) d_GL_fill_76 ca_Ed_filled ml_GL_103 im_Ed_filled se_Ed_filled gc_Ed (gl_1 hX36 21) (gl_2 hX36 (a := 21) (by decide)) (gl_s hX36 21 rfl) rfl (by decide) (by simp only [List.map, gR_cat, gI_cat, gL_cat, List.sum_cons, List.sum_nil]; decide) rfl (fun _ => rfl) (fun _ => rfl) T (fun v41 M40 h42 T => ?_)
      rcases T with T | T
      · exact ytV (by decide) (As := [gI v41]) (st := []) d_GL_fill_79 ca_GL_land ml_GL_96 im_GL_land se_GL_land gc_GL (gl_1 hX36 0) (gl_2 hX36 (a := 0) (by decide)) (gl_s0 hX36) rfl (by decide) (by decide) rfl (fun _ => rfl) (fun _ => rfl) T
      refine yxV_V (md' := true) (As := [gI v41]) (st := []) d_GL_fill_79 ca_GL_land ml_GL_96 im_GL_land se_GL_land gc_GL (gl_1 hX36 0) (gl_2 hX36 (a := 0) (by decide)) (gl_s0 hX36) rfl (by decide) (by decide) rfl (fun _ => rfl) (fun _ => rfl) T (fun X44 M43 T => ?_)
      obtain ⟨hX45, T⟩ := T
      refine wp_aload_n d_GL_fill_82 rfl rfl (g_nz (gl_1 hX45 0)) ?_
      refine xgetR d_GL_fill_83 gc_GL f_GL_54.1 f_GL_54.2.1 f_GL_54.2.2.1 (gl_1 hX45 0) (gl_2 hX45 (a := 0) (by decide)) (gl_s0 hX45) f_GL_54.2.2.2.2.1 (gl_f0 hX45 27 rfl) ?_
      refine wp_aload_n d_GL_fill_86 rfl rfl (g_nz (gl_1 hX45 0)) ?_
      refine xgetR d_GL_fill_87 gc_GL f_GL_40.1 f_GL_40.2.1 f_GL_40.2.2.1 (gl_1 hX45 0) (gl_2 hX45 (a := 0) (by decide)) (gl_s0 hX45) f_GL_40.2.2.2.2.1 (gl_f0 hX45 26 rfl) ?_
      refine wp_aload_n d_GL_fill_90 rfl rfl (g_nz (gl_1 hX45 0)) ?_
      refine xgetI d_GL_fill_91 gc_GL f_GL_81.1 f_GL_81.2.1 f_GL_81.2.2.1 (gl_1 hX45 0) (gl_2 hX45 (a := 0) (by decide)) (gl_s0 hX45) f_GL_81.2.2.2.2.1 (fun h46 => ?_)
      have T := T h46
      have h47 := T.1
      have q48 := T.2.1
      refine xaald d_GL_fill_94 (Or.inr rfl) (gl_1 hX45 23) (gl_2 hX45 (a := 23) (by decide)) (gl_s hX45 23 rfl) (g32_n h47 (by decide)) h47.1 h47.2 rfl ?_
      have T := T.2.2
      refine yxV_I (md' := true) (As := [gR G (X44.2.2 (c + 23) (Int.toNat (M43 c 8)))]) (st := []) d_GL_fill_95 ca_Rs_follow ml_GL_99 im_Rs_follow se_Rs_follow gc_Rs (gl_1 hX45 234) (gl_2 hX45 (a := 234) (by decide)) (gl_s hX45 24 rfl) rfl (by decide) (by decide) rfl (fun _ => rfl) (fun _ => rfl) T (fun v50 X52 M49 h51 T => ?_)
      obtain ⟨hX53, T⟩ := T
      exact wp_st (st' := [gI v50]) (by rfl) (wp_ireturn d_GL_fill_98 rfl (fun _ => rfl) (Nat.zero_le _) (Nat.zero_le _) T)
    · have T := T.2 h79
      refine wp_iconst d_GL_fill_31 ?_
      refine wp_goto (tgt := 36) d_GL_fill_32 (by decide) ?_
      rcases T with T | T
      · exact ytS (by decide) (As := [gI 1]) (st := []) d_GL_fill_36 ca_GL_need ml_GL_69 sm_GL_need  rfl (by decide) (by decide) rfl (fun _ => rfl) (fun h => by cases h) T
      refine ycS_V (md' := false) (As := [gI 1]) (st := []) d_GL_fill_36 ca_GL_need ml_GL_69 sm_GL_need  rfl (by decide) (by decide) rfl id id T (fun M54 T => ?_)
      refine wp_aload_n d_GL_fill_39 rfl rfl (g_nz (gl_1 hX 0)) ?_
      refine xgetR d_GL_fill_40 gc_GL f_GL_34.1 f_GL_34.2.1 f_GL_34.2.2.1 (gl_1 hX 0) (gl_2 hX (a := 0) (by decide)) (gl_s0 hX) f_GL_34.2.2.2.2.1 (gl_f0 hX 23 rfl) ?_
      refine wp_aload_n d_GL_fill_43 rfl rfl (g_nz (gl_1 hX 0)) ?_
      refine xgetR d_GL_fill_44 gc_GL f_GL_40.1 f_GL_40.2.1 f_GL_40.2.2.1 (gl_1 hX 0) (gl_2 hX (a := 0) (by decide)) (gl_s0 hX) f_GL_40.2.2.2.2.1 (gl_f0 hX 26 rfl) ?_
      refine wp_aload_n d_GL_fill_47 rfl rfl (g_nz (gl_1 hX 0)) ?_
      refine xgetI d_GL_fill_48 gc_GL f_GL_81.1 f_GL_81.2.1 f_GL_81.2.2.1 (gl_1 hX 0) (gl_2 hX (a := 0) (by decide)) (gl_s0 hX) f_GL_81.2.2.2.2.1 (fun h55 => ?_)
      have T := T h55
      have h56 := T.1
      have q57 := T.2.1
      refine xaald d_GL_fill_51 (Or.inr rfl) (gl_1 hX 23) (gl_2 hX (a := 23) (by decide)) (gl_s hX 23 rfl) (g32_n h56 (by decide)) h56.1 h56.2 rfl ?_
      have T := T.2.2
      refine wp_aload_n d_GL_fill_52 rfl rfl (g_nz (gl_1 hX 0)) ?_
      have q58 := T.1
      have T := T.2
      refine xgetR d_GL_fill_53 gc_GL f_GL_45.1 f_GL_45.2.1 f_GL_45.2.2.1 (gl_1 hX 0) (gl_2 hX (a := 0) (by decide)) (gl_s0 hX) f_GL_45.2.2.2.2.1 rfl ?_
      refine yxV_V (md' := true) (As := [gR G (X.2.2 (c + 23) (Int.toNat (M54 c 8))), gR G (X.2.2 c 7)]) (st := []) d_GL_fill_56 ca_Ed_open ml_GL_84 im_Ed_open se_Ed_open gc_Ed (gl_1 hX 21) (gl_2 hX (a := 21) (by decide)) (gl_s hX 21 rfl) rfl (by decide) (by decide) rfl (fun _ => rfl) (fun _ => rfl) T (fun X60 M59 T => ?_)
      obtain ⟨hX61, T⟩ := T
      refine wp_aload_n d_GL_fill_59 rfl rfl (g_nz (gl_1 hX61 0)) ?_
      refine wp_aload_n d_GL_fill_60 rfl rfl (g_nz (gl_1 hX61 0)) ?_
      refine xgetR d_GL_fill_61 gc_GL f_GL_34.1 f_GL_34.2.1 f_GL_34.2.2.1 (gl_1 hX61 0) (gl_2 hX61 (a := 0) (by decide)) (gl_s0 hX61) f_GL_34.2.2.2.2.1 (gl_f0 hX61 23 rfl) ?_
      refine wp_iload_n d_GL_fill_64 rfl rfl ?_
      refine wp_iload_n d_GL_fill_65 rfl rfl ?_
      refine ycS_I (md' := true) (As := [gI x1, gI x2]) (st := [gR G (c + 21), gR G c]) d_GL_fill_66 ca_GL_place ml_GL_88 sm_GL_place rfl (by decide) (by simp only [List.map, gR_cat, gI_cat, gL_cat, List.sum_cons, List.sum_nil]; decide) rfl (fun _ => rfl) (fun _ => rfl) T (fun v63 M62 h64 T => ?_)
      refine wp_iload_n d_GL_fill_69 rfl rfl ?_
      refine wp_iload d_GL_fill_70 rfl ?_
      refine wp_iload d_GL_fill_72 rfl ?_
      refine wp_iload d_GL_fill_74 rfl ?_
      refine ycV_Z (md' := true) (As := [gI v63, gI x3, gI x4, gI x5, gI x6]) (st := [gR G c]) d_GL_fill_76 ca_Ed_filled ml_GL_103 im_Ed_filled se_Ed_filled gc_Ed (gl_1 hX61 21) (gl_2 hX61 (a := 21) (by decide)) (gl_s hX61 21 rfl) rfl (by decide) (by simp only [List.map, gR_cat, gI_cat, gL_cat, List.sum_cons, List.sum_nil]; decide) rfl (fun _ => rfl) (fun _ => rfl) T (fun v66 M65 h67 T => ?_)
      rcases T with T | T
      · exact ytV (by decide) (As := [gI v66]) (st := []) d_GL_fill_79 ca_GL_land ml_GL_96 im_GL_land se_GL_land gc_GL (gl_1 hX61 0) (gl_2 hX61 (a := 0) (by decide)) (gl_s0 hX61) rfl (by decide) (by decide) rfl (fun _ => rfl) (fun _ => rfl) T
      refine yxV_V (md' := true) (As := [gI v66]) (st := []) d_GL_fill_79 ca_GL_land ml_GL_96 im_GL_land se_GL_land gc_GL (gl_1 hX61 0) (gl_2 hX61 (a := 0) (by decide)) (gl_s0 hX61) rfl (by decide) (by decide) rfl (fun _ => rfl) (fun _ => rfl) T (fun X69 M68 T => ?_)
      obtain ⟨hX70, T⟩ := T
      refine wp_aload_n d_GL_fill_82 rfl rfl (g_nz (gl_1 hX70 0)) ?_
      refine xgetR d_GL_fill_83 gc_GL f_GL_54.1 f_GL_54.2.1 f_GL_54.2.2.1 (gl_1 hX70 0) (gl_2 hX70 (a := 0) (by decide)) (gl_s0 hX70) f_GL_54.2.2.2.2.1 (gl_f0 hX70 27 rfl) ?_
      refine wp_aload_n d_GL_fill_86 rfl rfl (g_nz (gl_1 hX70 0)) ?_
      refine xgetR d_GL_fill_87 gc_GL f_GL_40.1 f_GL_40.2.1 f_GL_40.2.2.1 (gl_1 hX70 0) (gl_2 hX70 (a := 0) (by decide)) (gl_s0 hX70) f_GL_40.2.2.2.2.1 (gl_f0 hX70 26 rfl) ?_
      refine wp_aload_n d_GL_fill_90 rfl rfl (g_nz (gl_1 hX70 0)) ?_
      refine xgetI d_GL_fill_91 gc_GL f_GL_81.1 f_GL_81.2.1 f_GL_81.2.2.1 (gl_1 hX70 0) (gl_2 hX70 (a := 0) (by decide)) (gl_s0 hX70) f_GL_81.2.2.2.2.1 (fun h71 => ?_)
      have T := T h71
      have h72 := T.1
      have q73 := T.2.1
      refine xaald d_GL_fill_94 (Or.inr rfl) (gl_1 hX70 23) (gl_2 hX70 (a := 23) (by decide)) (gl_s hX70 23 rfl) (g32_n h72 (by decide)) h72.1 h72.2 rfl ?_
      have T := T.2.2
      refine yxV_I (md' := true) (As := [gR G (X69.2.2 (c + 23) (Int.toNat (M68 c 8)))]) (st := []) d_GL_fill_95 ca_Rs_follow ml_GL_99 im_Rs_follow se_Rs_follow gc_Rs (gl_1 hX70 234) (gl_2 hX70 (a := 234) (by decide)) (gl_s hX70 24 rfl) rfl (by decide) (by decide) rfl (fun _ => rfl) (fun _ => rfl) T (fun v75 X77 M74 h76 T => ?_)
      obtain ⟨hX78, T⟩ := T
      exact wp_st (st' := [gI v75]) (by rfl) (wp_ireturn d_GL_fill_98 rfl (fun _ => rfl) (Nat.zero_le _) (Nat.zero_le _) T)
theorem eu_GL_fill {l : Launch} {G : gG} {d : Nat} {X : gX} {M : gM} {Nr : Nat} {K : Outcome → gX → gM → Prop} {c : Nat} {x1 : Int} {x2 : Int} {x3 : Int} {x4 : Int} {x5 : Int} {x6 : Int} (T : wp l G y_GL_fill (gRr (d + 8) Nr) true K false 0 [.val (gR G c), .val (gI x1), .val (gI x2), .val (gI x3), .val (gI x4), .val (gI x5), .val (gI x6)] [] X M 0 0) : gCt l G y_GL_fill (gRr (d + 8) Nr) true [gR G c, gI x1, gI x2, gI x3, gI x4, gI x5, gI x6] X M K := gCt.of (plainFor_of_name rfl) (by simp only [lg_sl_R, lg_sl_I, lg_sl_L, lg_sl_N, List.length_cons, List.length_nil]; decide) (by unfold gEn; simp only [lg_sl_R, lg_sl_I, lg_sl_L, lg_sl_N]; exact wpt T (And.intro rfl (And.intro rfl (And.intro rfl (And.intro rfl (And.intro rfl (And.intro rfl (And.intro rfl True.intro))))))))
set_option maxHeartbeats 4000000 in
theorem u_GL_insert_0 {l : Launch} {G : gG} {d : Nat} {X : gX} {M : gM} {Nr : Nat} {K : Outcome → gX → gM → Prop} {c : Nat} (hX : glX X c) {x1 : Int} (hx1 : 0 ≤ x1 ∧ x1 ≤ 1) {x2 : Int} (hx2 : g32 x2) {x3 : Int} (hx3 : g32 x3)  (T : (x2 < 0 → (cT l G y_GL_need (gRr (d + 7) Nr) false [gI 0] X M K ∨ cV l G y_GL_need (gRm (d + 7)) false [gI 0] X M (fun M1 => ((x3 < 1 → (cT l G y_GL_need (gRr (d + 7) Nr) false [gI 0] X M1 K ∨ cV l G y_GL_need (gRm (d + 7)) false [gI 0] X M1 (fun M2 => (g32 (M2 c 8) → (((0 : Int) ≤ M2 c 8 ∧ M2 c 8 < 41) ∧ gsX X (X.2.2 (c + 23) (Int.toNat (M2 c 8))) ∧ (gsX X (X.2.2 c 7) ∧ (cX l G y_Ed_open (gRm (d + 7)) true [gR G (c + 21), gR G (X.2.2 (c + 23) (Int.toNat (M2 c 8))), gR G (X.2.2 c 7)] X M2 (fun X8 M7 => glX X8 c ∧ (cZ l G y_Ed_shifted (gRm (d + 7)) true [gR G (c + 21), gI x1, gI 1, gI x2, gI x3] X8 M7 (fun v11 M10 => (cT l G y_GL_land (gRr (d + 7) Nr) true [gR G c, gI v11] X8 M10 K ∨ cX l G y_GL_land (gRm (d + 7)) true [gR G c, gI v11] X8 M10 (fun X14 M13 => glX X14 c ∧ (g32 (M13 c 8) → (((0 : Int) ≤ M13 c 8 ∧ M13 c 8 < 41) ∧ gsX X14 (X14.2.2 (c + 23) (Int.toNat (M13 c 8))) ∧ (cXI l G y_Rs_follow (gRm (d + 7)) true [gR G (c + 234), gR G (X14.2.2 (c + 23) (Int.toNat (M13 c 8)))] X14 M13 (fun v20 X22 M19 => glX X22 c ∧ (K (.returned (some (gI v20))) X22 M19))))))))))))))))) ∧ (¬ x3 < 1 → ((50 < x3 → (cT l G y_GL_need (gRr (d + 7) Nr) false [gI 0] X M1 K ∨ cV l G y_GL_need (gRm (d + 7)) false [gI 0] X M1 (fun M24 => (g32 (M24 c 8) → (((0 : Int) ≤ M24 c 8 ∧ M24 c 8 < 41) ∧ gsX X (X.2.2 (c + 23) (Int.toNat (M24 c 8))) ∧ (gsX X (X.2.2 c 7) ∧ (cX l G y_Ed_open (gRm (d + 7)) true [gR G (c + 21), gR G (X.2.2 (c + 23) (Int.toNat (M24 c 8))), gR G (X.2.2 c 7)] X M24 (fun X30 M29 => glX X30 c ∧ (cZ l G y_Ed_shifted (gRm (d + 7)) true [gR G (c + 21), gI x1, gI 1, gI x2, gI x3] X30 M29 (fun v33 M32 => (cT l G y_GL_land (gRr (d + 7) Nr) true [gR G c, gI v33] X30 M32 K ∨ cX l G y_GL_land (gRm (d + 7)) true [gR G c, gI v33] X30 M32 (fun X36 M35 => glX X36 c ∧ (g32 (M35 c 8) → (((0 : Int) ≤ M35 c 8 ∧ M35 c 8 < 41) ∧ gsX X36 (X36.2.2 (c + 23) (Int.toNat (M35 c 8))) ∧ (cXI l G y_Rs_follow (gRm (d + 7)) true [gR G (c + 234), gR G (X36.2.2 (c + 23) (Int.toNat (M35 c 8)))] X36 M35 (fun v42 X44 M41 => glX X44 c ∧ (K (.returned (some (gI v42))) X44 M41))))))))))))))))) ∧ (¬ 50 < x3 → (cT l G y_GL_need (gRr (d + 7) Nr) false [gI 1] X M1 K ∨ cV l G y_GL_need (gRm (d + 7)) false [gI 1] X M1 (fun M46 => (g32 (M46 c 8) → (((0 : Int) ≤ M46 c 8 ∧ M46 c 8 < 41) ∧ gsX X (X.2.2 (c + 23) (Int.toNat (M46 c 8))) ∧ (gsX X (X.2.2 c 7) ∧ (cX l G y_Ed_open (gRm (d + 7)) true [gR G (c + 21), gR G (X.2.2 (c + 23) (Int.toNat (M46 c 8))), gR G (X.2.2 c 7)] X M46 (fun X52 M51 => glX X52 c ∧ (cZ l G y_Ed_shifted (gRm (d + 7)) true [gR G (c + 21), gI x1, gI 1, gI x2, gI x3] X52 M51 (fun v55 M54 => (cT l G y_GL_land (gRr (d + 7) Nr) true [gR G c, gI v55] X52 M54 K ∨ cX l G y_GL_land (gRm (d + 7)) true [gR G c, gI v55] X52 M54 (fun X58 M57 => glX X58 c ∧ (g32 (M57 c 8) → (((0 : Int) ≤ M57 c 8 ∧ M57 c 8 < 41) ∧ gsX X58 (X58.2.2 (c + 23) (Int.toNat (M57 c 8))) ∧ (cXI l G y_Rs_follow (gRm (d + 7)) true [gR G (c + 234), gR G (X58.2.2 (c + 23) (Int.toNat (M57 c 8)))] X58 M57 (fun v64 X66 M63 => glX X66 c ∧ (K (.returned (some (gI v64))) X66 M63))))))))))))))))))))))) ∧ (¬ x2 < 0 → (cI l G y_GL_lines (gRm (d + 7)) false [gI x1] X M (fun v71 M70 => ((v71 ≤ x2 → (cT l G y_GL_need (gRr (d + 7) Nr) false [gI 0] X M70 K ∨ cV l G y_GL_need (gRm (d + 7)) false [gI 0] X M70 (fun M73 => ((x3 < 1 → (cT l G y_GL_need (gRr (d + 7) Nr) false [gI 0] X M73 K ∨ cV l G y_GL_need (gRm (d + 7)) false [gI 0] X M73 (fun M74 => (g32 (M74 c 8) → (((0 : Int) ≤ M74 c 8 ∧ M74 c 8 < 41) ∧ gsX X (X.2.2 (c + 23) (Int.toNat (M74 c 8))) ∧ (gsX X (X.2.2 c 7) ∧ (cX l G y_Ed_open (gRm (d + 7)) true [gR G (c + 21), gR G (X.2.2 (c + 23) (Int.toNat (M74 c 8))), gR G (X.2.2 c 7)] X M74 (fun X80 M79 => glX X80 c ∧ (cZ l G y_Ed_shifted (gRm (d + 7)) true [gR G (c + 21), gI x1, gI 1, gI x2, gI x3] X80 M79 (fun v83 M82 => (cT l G y_GL_land (gRr (d + 7) Nr) true [gR G c, gI v83] X80 M82 K ∨ cX l G y_GL_land (gRm (d + 7)) true [gR G c, gI v83] X80 M82 (fun X86 M85 => glX X86 c ∧ (g32 (M85 c 8) → (((0 : Int) ≤ M85 c 8 ∧ M85 c 8 < 41) ∧ gsX X86 (X86.2.2 (c + 23) (Int.toNat (M85 c 8))) ∧ (cXI l G y_Rs_follow (gRm (d + 7)) true [gR G (c + 234), gR G (X86.2.2 (c + 23) (Int.toNat (M85 c 8)))] X86 M85 (fun v92 X94 M91 => glX X94 c ∧ (K (.returned (some (gI v92))) X94 M91))))))))))))))))) ∧ (¬ x3 < 1 → ((50 < x3 → (cT l G y_GL_need (gRr (d + 7) Nr) false [gI 0] X M73 K ∨ cV l G y_GL_need (gRm (d + 7)) false [gI 0] X M73 (fun M96 => (g32 (M96 c 8) → (((0 : Int) ≤ M96 c 8 ∧ M96 c 8 < 41) ∧ gsX X (X.2.2 (c + 23) (Int.toNat (M96 c 8))) ∧ (gsX X (X.2.2 c 7) ∧ (cX l G y_Ed_open (gRm (d + 7)) true [gR G (c + 21), gR G (X.2.2 (c + 23) (Int.toNat (M96 c 8))), gR G (X.2.2 c 7)] X M96 (fun X102 M101 => glX X102 c ∧ (cZ l G y_Ed_shifted (gRm (d + 7)) true [gR G (c + 21), gI x1, gI 1, gI x2, gI x3] X102 M101 (fun v105 M104 => (cT l G y_GL_land (gRr (d + 7) Nr) true [gR G c, gI v105] X102 M104 K ∨ cX l G y_GL_land (gRm (d + 7)) true [gR G c, gI v105] X102 M104 (fun X108 M107 => glX X108 c ∧ (g32 (M107 c 8) → (((0 : Int) ≤ M107 c 8 ∧ M107 c 8 < 41) ∧ gsX X108 (X108.2.2 (c + 23) (Int.toNat (M107 c 8))) ∧ (cXI l G y_Rs_follow (gRm (d + 7)) true [gR G (c + 234), gR G (X108.2.2 (c + 23) (Int.toNat (M107 c 8)))] X108 M107 (fun v114 X116 M113 => glX X116 c ∧ (K (.returned (some (gI v114))) X116 M113))))))))))))))))) ∧ (¬ 50 < x3 → (cT l G y_GL_need (gRr (d + 7) Nr) false [gI 1] X M73 K ∨ cV l G y_GL_need (gRm (d + 7)) false [gI 1] X M73 (fun M118 => (g32 (M118 c 8) → (((0 : Int) ≤ M118 c 8 ∧ M118 c 8 < 41) ∧ gsX X (X.2.2 (c + 23) (Int.toNat (M118 c 8))) ∧ (gsX X (X.2.2 c 7) ∧ (cX l G y_Ed_open (gRm (d + 7)) true [gR G (c + 21), gR G (X.2.2 (c + 23) (Int.toNat (M118 c 8))), gR G (X.2.2 c 7)] X M118 (fun X124 M123 => glX X124 c ∧ (cZ l G y_Ed_shifted (gRm (d + 7)) true [gR G (c + 21), gI x1, gI 1, gI x2, gI x3] X124 M123 (fun v127 M126 => (cT l G y_GL_land (gRr (d + 7) Nr) true [gR G c, gI v127] X124 M126 K ∨ cX l G y_GL_land (gRm (d + 7)) true [gR G c, gI v127] X124 M126 (fun X130 M129 => glX X130 c ∧ (g32 (M129 c 8) → (((0 : Int) ≤ M129 c 8 ∧ M129 c 8 < 41) ∧ gsX X130 (X130.2.2 (c + 23) (Int.toNat (M129 c 8))) ∧ (cXI l G y_Rs_follow (gRm (d + 7)) true [gR G (c + 234), gR G (X130.2.2 (c + 23) (Int.toNat (M129 c 8)))] X130 M129 (fun v136 X138 M135 => glX X138 c ∧ (K (.returned (some (gI v136))) X138 M135))))))))))))))))))))))) ∧ (¬ v71 ≤ x2 → (cT l G y_GL_need (gRr (d + 7) Nr) false [gI 1] X M70 K ∨ cV l G y_GL_need (gRm (d + 7)) false [gI 1] X M70 (fun M142 => ((x3 < 1 → (cT l G y_GL_need (gRr (d + 7) Nr) false [gI 0] X M142 K ∨ cV l G y_GL_need (gRm (d + 7)) false [gI 0] X M142 (fun M143 => (g32 (M143 c 8) → (((0 : Int) ≤ M143 c 8 ∧ M143 c 8 < 41) ∧ gsX X (X.2.2 (c + 23) (Int.toNat (M143 c 8))) ∧ (gsX X (X.2.2 c 7) ∧ (cX l G y_Ed_open (gRm (d + 7)) true [gR G (c + 21), gR G (X.2.2 (c + 23) (Int.toNat (M143 c 8))), gR G (X.2.2 c 7)] X M143 (fun X149 M148 => glX X149 c ∧ (cZ l G y_Ed_shifted (gRm (d + 7)) true [gR G (c + 21), gI x1, gI 1, gI x2, gI x3] X149 M148 (fun v152 M151 => (cT l G y_GL_land (gRr (d + 7) Nr) true [gR G c, gI v152] X149 M151 K ∨ cX l G y_GL_land (gRm (d + 7)) true [gR G c, gI v152] X149 M151 (fun X155 M154 => glX X155 c ∧ (g32 (M154 c 8) → (((0 : Int) ≤ M154 c 8 ∧ M154 c 8 < 41) ∧ gsX X155 (X155.2.2 (c + 23) (Int.toNat (M154 c 8))) ∧ (cXI l G y_Rs_follow (gRm (d + 7)) true [gR G (c + 234), gR G (X155.2.2 (c + 23) (Int.toNat (M154 c 8)))] X155 M154 (fun v161 X163 M160 => glX X163 c ∧ (K (.returned (some (gI v161))) X163 M160))))))))))))))))) ∧ (¬ x3 < 1 → ((50 < x3 → (cT l G y_GL_need (gRr (d + 7) Nr) false [gI 0] X M142 K ∨ cV l G y_GL_need (gRm (d + 7)) false [gI 0] X M142 (fun M165 => (g32 (M165 c 8) → (((0 : Int) ≤ M165 c 8 ∧ M165 c 8 < 41) ∧ gsX X (X.2.2 (c + 23) (Int.toNat (M165 c 8))) ∧ (gsX X (X.2.2 c 7) ∧ (cX l G y_Ed_open (gRm (d + 7)) true [gR G (c + 21), gR G (X.2.2 (c + 23) (Int.toNat (M165 c 8))), gR G (X.2.2 c 7)] X M165 (fun X171 M170 => glX X171 c ∧ (cZ l G y_Ed_shifted (gRm (d + 7)) true [gR G (c + 21), gI x1, gI 1, gI x2, gI x3] X171 M170 (fun v174 M173 => (cT l G y_GL_land (gRr (d + 7) Nr) true [gR G c, gI v174] X171 M173 K ∨ cX l G y_GL_land (gRm (d + 7)) true [gR G c, gI v174] X171 M173 (fun X177 M176 => glX X177 c ∧ (g32 (M176 c 8) → (((0 : Int) ≤ M176 c 8 ∧ M176 c 8 < 41) ∧ gsX X177 (X177.2.2 (c + 23) (Int.toNat (M176 c 8))) ∧ (cXI l G y_Rs_follow (gRm (d + 7)) true [gR G (c + 234), gR G (X177.2.2 (c + 23) (Int.toNat (M176 c 8)))] X177 M176 (fun v183 X185 M182 => glX X185 c ∧ (K (.returned (some (gI v183))) X185 M182))))))))))))))))) ∧ (¬ 50 < x3 → (cT l G y_GL_need (gRr (d + 7) Nr) false [gI 1] X M142 K ∨ cV l G y_GL_need (gRm (d + 7)) false [gI 1] X M142 (fun M187 => (g32 (M187 c 8) → (((0 : Int) ≤ M187 c 8 ∧ M187 c 8 < 41) ∧ gsX X (X.2.2 (c + 23) (Int.toNat (M187 c 8))) ∧ (gsX X (X.2.2 c 7) ∧ (cX l G y_Ed_open (gRm (d + 7)) true [gR G (c + 21), gR G (X.2.2 (c + 23) (Int.toNat (M187 c 8))), gR G (X.2.2 c 7)] X M187 (fun X193 M192 => glX X193 c ∧ (cZ l G y_Ed_shifted (gRm (d + 7)) true [gR G (c + 21), gI x1, gI 1, gI x2, gI x3] X193 M192 (fun v196 M195 => (cT l G y_GL_land (gRr (d + 7) Nr) true [gR G c, gI v196] X193 M195 K ∨ cX l G y_GL_land (gRm (d + 7)) true [gR G c, gI v196] X193 M195 (fun X199 M198 => glX X199 c ∧ (g32 (M198 c 8) → (((0 : Int) ≤ M198 c 8 ∧ M198 c 8 < 41) ∧ gsX X199 (X199.2.2 (c + 23) (Int.toNat (M198 c 8))) ∧ (cXI l G y_Rs_follow (gRm (d + 7)) true [gR G (c + 234), gR G (X199.2.2 (c + 23) (Int.toNat (M198 c 8)))] X199 M198 (fun v205 X207 M204 => glX X207 c ∧ (K (.returned (some (gI v205))) X207 M204)))))))))))))))))))))))))))) : wp l G y_GL_insert (gRr (d + 8) Nr) true K false 0 [.val (gR G c), .val (gI x1), .val (gI x2), .val (gI x3)] [] X M 0 0 := by
  refine wp_iload_n d_GL_insert_0 rfl rfl ?_
  refine xz_lt (tgt := 16) d_GL_insert_1 (by decide) (w32_id hx2) (fun h212 => ?_) (fun h212 => ?_)
  · have T := T.1 h212
    refine wp_iconst d_GL_insert_16 ?_
    rcases T with T | T
    · exact ytS (by decide) (As := [gI 0]) (st := []) d_GL_insert_17 ca_GL_need ml_GL_69 sm_GL_need  rfl (by decide) (by decide) rfl (fun _ => rfl) (fun h => by cases h) T
    refine ycS_V (md' := false) (As := [gI 0]) (st := []) d_GL_insert_17 ca_GL_need ml_GL_69 sm_GL_need  rfl (by decide) (by decide) rfl id id T (fun M1 T => ?_)
    refine wp_iload_n d_GL_insert_20 rfl rfl ?_
    refine wp_iconst d_GL_insert_21 ?_
    refine xi_lt (tgt := 35) d_GL_insert_22 (by decide) (w32_id hx3) (w32_id (g32_c (x := 1) rfl)) (fun h69 => ?_) (fun h69 => ?_)
    · have T := T.1 h69
      refine wp_iconst d_GL_insert_35 ?_
      rcases T with T | T
      · exact ytS (by decide) (As := [gI 0]) (st := []) d_GL_insert_36 ca_GL_need ml_GL_69 sm_GL_need  rfl (by decide) (by decide) rfl (fun _ => rfl) (fun h => by cases h) T
      refine ycS_V (md' := false) (As := [gI 0]) (st := []) d_GL_insert_36 ca_GL_need ml_GL_69 sm_GL_need  rfl (by decide) (by decide) rfl id id T (fun M2 T => ?_)
      refine wp_aload_n d_GL_insert_39 rfl rfl (g_nz (gl_1 hX 0)) ?_
      refine xgetR d_GL_insert_40 gc_GL f_GL_34.1 f_GL_34.2.1 f_GL_34.2.2.1 (gl_1 hX 0) (gl_2 hX (a := 0) (by decide)) (gl_s0 hX) f_GL_34.2.2.2.2.1 (gl_f0 hX 23 rfl) ?_
      refine wp_aload_n d_GL_insert_43 rfl rfl (g_nz (gl_1 hX 0)) ?_
      refine xgetR d_GL_insert_44 gc_GL f_GL_40.1 f_GL_40.2.1 f_GL_40.2.2.1 (gl_1 hX 0) (gl_2 hX (a := 0) (by decide)) (gl_s0 hX) f_GL_40.2.2.2.2.1 (gl_f0 hX 26 rfl) ?_
      refine wp_aload_n d_GL_insert_47 rfl rfl (g_nz (gl_1 hX 0)) ?_
      refine xgetI d_GL_insert_48 gc_GL f_GL_81.1 f_GL_81.2.1 f_GL_81.2.2.1 (gl_1 hX 0) (gl_2 hX (a := 0) (by decide)) (gl_s0 hX) f_GL_81.2.2.2.2.1 (fun h3 => ?_)
      have T := T h3
      have h4 := T.1
      have q5 := T.2.1
      refine xaald d_GL_insert_51 (Or.inr rfl) (gl_1 hX 23) (gl_2 hX (a := 23) (by decide)) (gl_s hX 23 rfl) (g32_n h4 (by decide)) h4.1 h4.2 rfl ?_
      have T := T.2.2
      refine wp_aload_n d_GL_insert_52 rfl rfl (g_nz (gl_1 hX 0)) ?_
      have q6 := T.1
      have T := T.2
      refine xgetR d_GL_insert_53 gc_GL f_GL_45.1 f_GL_45.2.1 f_GL_45.2.2.1 (gl_1 hX 0) (gl_2 hX (a := 0) (by decide)) (gl_s0 hX) f_GL_45.2.2.2.2.1 rfl ?_
      refine yxV_V (md' := true) (As := [gR G (X.2.2 (c + 23) (Int.toNat (M2 c 8))), gR G (X.2.2 c 7)]) (st := []) d_GL_insert_56 ca_Ed_open ml_GL_84 im_Ed_open se_Ed_open gc_Ed (gl_1 hX 21) (gl_2 hX (a := 21) (by decide)) (gl_s hX 21 rfl) rfl (by decide) (by decide) rfl (fun _ => rfl) (fun _ => rfl) T (fun X8 M7 T => ?_)
      obtain ⟨hX9, T⟩ := T
      refine wp_aload_n d_GL_insert_59 rfl rfl (g_nz (gl_1 hX9 0)) ?_
      refine wp_aload_n d_GL_insert_60 rfl rfl (g_nz (gl_1 hX9 0)) ?_
      refine xgetR d_GL_insert_61 gc_GL f_GL_34.1 f_GL_34.2.1 f_GL_34.2.2.1 (gl_1 hX9 0) (gl_2 hX9 (a := 0) (by decide)) (gl_s0 hX9) f_GL_34.2.2.2.2.1 (gl_f0 hX9 23 rfl) ?_
      refine wp_iload_n d_GL_insert_64 rfl rfl ?_
      refine wp_iconst d_GL_insert_65 ?_
      refine wp_iload_n d_GL_insert_66 rfl rfl ?_
      refine wp_iload_n d_GL_insert_67 rfl rfl ?_
      refine ycV_Z (md' := true) (As := [gI x1, gI 1, gI x2, gI x3]) (st := [gR G c]) d_GL_insert_68 ca_Ed_shifted ml_GL_111 im_Ed_shifted se_Ed_shifted gc_Ed (gl_1 hX9 21) (gl_2 hX9 (a := 21) (by decide)) (gl_s hX9 21 rfl) rfl (by decide) (by simp only [List.map, gR_cat, gI_cat, gL_cat, List.sum_cons, List.sum_nil]; decide) rfl (fun _ => rfl) (fun _ => rfl) T (fun v11 M10 h12 T => ?_)
      rcases T with T | T
      · exact ytV (by decide) (As := [gI v11]) (st := []) d_GL_insert_71 ca_GL_land ml_GL_96 im_GL_land se_GL_land gc_GL (gl_1 hX9 0) (gl_2 hX9 (a := 0) (by decide)) (gl_s0 hX9) rfl (by decide) (by decide) rfl (fun _ => rfl) (fun _ => rfl) T
      refine yxV_V (md' := true) (As := [gI v11]) (st := []) d_GL_insert_71 ca_GL_land ml_GL_96 im_GL_land se_GL_land gc_GL (gl_1 hX9 0) (gl_2 hX9 (a := 0) (by decide)) (gl_s0 hX9) rfl (by decide) (by decide) rfl (fun _ => rfl) (fun _ => rfl) T (fun X14 M13 T => ?_)
      obtain ⟨hX15, T⟩ := T
      refine wp_aload_n d_GL_insert_74 rfl rfl (g_nz (gl_1 hX15 0)) ?_
      refine xgetR d_GL_insert_75 gc_GL f_GL_54.1 f_GL_54.2.1 f_GL_54.2.2.1 (gl_1 hX15 0) (gl_2 hX15 (a := 0) (by decide)) (gl_s0 hX15) f_GL_54.2.2.2.2.1 (gl_f0 hX15 27 rfl) ?_
      refine wp_aload_n d_GL_insert_78 rfl rfl (g_nz (gl_1 hX15 0)) ?_
      refine xgetR d_GL_insert_79 gc_GL f_GL_40.1 f_GL_40.2.1 f_GL_40.2.2.1 (gl_1 hX15 0) (gl_2 hX15 (a := 0) (by decide)) (gl_s0 hX15) f_GL_40.2.2.2.2.1 (gl_f0 hX15 26 rfl) ?_
      refine wp_aload_n d_GL_insert_82 rfl rfl (g_nz (gl_1 hX15 0)) ?_
      refine xgetI d_GL_insert_83 gc_GL f_GL_81.1 f_GL_81.2.1 f_GL_81.2.2.1 (gl_1 hX15 0) (gl_2 hX15 (a := 0) (by decide)) (gl_s0 hX15) f_GL_81.2.2.2.2.1 (fun h16 => ?_)
      have T := T h16
      have h17 := T.1
      have q18 := T.2.1
      refine xaald d_GL_insert_86 (Or.inr rfl) (gl_1 hX15 23) (gl_2 hX15 (a := 23) (by decide)) (gl_s hX15 23 rfl) (g32_n h17 (by decide)) h17.1 h17.2 rfl ?_
      have T := T.2.2
      refine yxV_I (md' := true) (As := [gR G (X14.2.2 (c + 23) (Int.toNat (M13 c 8)))]) (st := []) d_GL_insert_87 ca_Rs_follow ml_GL_99 im_Rs_follow se_Rs_follow gc_Rs (gl_1 hX15 234) (gl_2 hX15 (a := 234) (by decide)) (gl_s hX15 24 rfl) rfl (by decide) (by decide) rfl (fun _ => rfl) (fun _ => rfl) T (fun v20 X22 M19 h21 T => ?_)
      obtain ⟨hX23, T⟩ := T
      exact wp_st (st' := [gI v20]) (by rfl) (wp_ireturn d_GL_insert_90 rfl (fun _ => rfl) (Nat.zero_le _) (Nat.zero_le _) T)
    · have T := T.2 h69
      refine wp_iload_n d_GL_insert_25 rfl rfl ?_
      refine wp_bipush d_GL_insert_26 ⟨by decide, by decide⟩ ?_
      refine xi_gt (tgt := 35) d_GL_insert_28 (by decide) (w32_id hx3) (w32_id (g32_c (x := 50) rfl)) (fun h68 => ?_) (fun h68 => ?_)
      · have T := T.1 h68
        refine wp_iconst d_GL_insert_35 ?_
        rcases T with T | T
        · exact ytS (by decide) (As := [gI 0]) (st := []) d_GL_insert_36 ca_GL_need ml_GL_69 sm_GL_need  rfl (by decide) (by decide) rfl (fun _ => rfl) (fun h => by cases h) T
        refine ycS_V (md' := false) (As := [gI 0]) (st := []) d_GL_insert_36 ca_GL_need ml_GL_69 sm_GL_need  rfl (by decide) (by decide) rfl id id T (fun M24 T => ?_)
        refine wp_aload_n d_GL_insert_39 rfl rfl (g_nz (gl_1 hX 0)) ?_
        refine xgetR d_GL_insert_40 gc_GL f_GL_34.1 f_GL_34.2.1 f_GL_34.2.2.1 (gl_1 hX 0) (gl_2 hX (a := 0) (by decide)) (gl_s0 hX) f_GL_34.2.2.2.2.1 (gl_f0 hX 23 rfl) ?_
        refine wp_aload_n d_GL_insert_43 rfl rfl (g_nz (gl_1 hX 0)) ?_
        refine xgetR d_GL_insert_44 gc_GL f_GL_40.1 f_GL_40.2.1 f_GL_40.2.2.1 (gl_1 hX 0) (gl_2 hX (a := 0) (by decide)) (gl_s0 hX) f_GL_40.2.2.2.2.1 (gl_f0 hX 26 rfl) ?_
        refine wp_aload_n d_GL_insert_47 rfl rfl (g_nz (gl_1 hX 0)) ?_
        refine xgetI d_GL_insert_48 gc_GL f_GL_81.1 f_GL_81.2.1 f_GL_81.2.2.1 (gl_1 hX 0) (gl_2 hX (a := 0) (by decide)) (gl_s0 hX) f_GL_81.2.2.2.2.1 (fun h25 => ?_)
        have T := T h25
        have h26 := T.1
        have q27 := T.2.1
        refine xaald d_GL_insert_51 (Or.inr rfl) (gl_1 hX 23) (gl_2 hX (a := 23) (by decide)) (gl_s hX 23 rfl) (g32_n h26 (by decide)) h26.1 h26.2 rfl ?_
        have T := T.2.2
        refine wp_aload_n d_GL_insert_52 rfl rfl (g_nz (gl_1 hX 0)) ?_
        have q28 := T.1
        have T := T.2
        refine xgetR d_GL_insert_53 gc_GL f_GL_45.1 f_GL_45.2.1 f_GL_45.2.2.1 (gl_1 hX 0) (gl_2 hX (a := 0) (by decide)) (gl_s0 hX) f_GL_45.2.2.2.2.1 rfl ?_
        refine yxV_V (md' := true) (As := [gR G (X.2.2 (c + 23) (Int.toNat (M24 c 8))), gR G (X.2.2 c 7)]) (st := []) d_GL_insert_56 ca_Ed_open ml_GL_84 im_Ed_open se_Ed_open gc_Ed (gl_1 hX 21) (gl_2 hX (a := 21) (by decide)) (gl_s hX 21 rfl) rfl (by decide) (by decide) rfl (fun _ => rfl) (fun _ => rfl) T (fun X30 M29 T => ?_)
        obtain ⟨hX31, T⟩ := T
        refine wp_aload_n d_GL_insert_59 rfl rfl (g_nz (gl_1 hX31 0)) ?_
        refine wp_aload_n d_GL_insert_60 rfl rfl (g_nz (gl_1 hX31 0)) ?_
        refine xgetR d_GL_insert_61 gc_GL f_GL_34.1 f_GL_34.2.1 f_GL_34.2.2.1 (gl_1 hX31 0) (gl_2 hX31 (a := 0) (by decide)) (gl_s0 hX31) f_GL_34.2.2.2.2.1 (gl_f0 hX31 23 rfl) ?_
        refine wp_iload_n d_GL_insert_64 rfl rfl ?_
        refine wp_iconst d_GL_insert_65 ?_
        refine wp_iload_n d_GL_insert_66 rfl rfl ?_
        refine wp_iload_n d_GL_insert_67 rfl rfl ?_
        refine ycV_Z (md' := true) (As := [gI x1, gI 1, gI x2, gI x3]) (st := [gR G c]) d_GL_insert_68 ca_Ed_shifted ml_GL_111 im_Ed_shifted se_Ed_shifted gc_Ed (gl_1 hX31 21) (gl_2 hX31 (a := 21) (by decide)) (gl_s hX31 21 rfl) rfl (by decide) (by simp only [List.map, gR_cat, gI_cat, gL_cat, List.sum_cons, List.sum_nil]; decide) rfl (fun _ => rfl) (fun _ => rfl) T (fun v33 M32 h34 T => ?_)
        rcases T with T | T
        · exact ytV (by decide) (As := [gI v33]) (st := []) d_GL_insert_71 ca_GL_land ml_GL_96 im_GL_land se_GL_land gc_GL (gl_1 hX31 0) (gl_2 hX31 (a := 0) (by decide)) (gl_s0 hX31) rfl (by decide) (by decide) rfl (fun _ => rfl) (fun _ => rfl) T
        refine yxV_V (md' := true) (As := [gI v33]) (st := []) d_GL_insert_71 ca_GL_land ml_GL_96 im_GL_land se_GL_land gc_GL (gl_1 hX31 0) (gl_2 hX31 (a := 0) (by decide)) (gl_s0 hX31) rfl (by decide) (by decide) rfl (fun _ => rfl) (fun _ => rfl) T (fun X36 M35 T => ?_)
        obtain ⟨hX37, T⟩ := T
        refine wp_aload_n d_GL_insert_74 rfl rfl (g_nz (gl_1 hX37 0)) ?_
        refine xgetR d_GL_insert_75 gc_GL f_GL_54.1 f_GL_54.2.1 f_GL_54.2.2.1 (gl_1 hX37 0) (gl_2 hX37 (a := 0) (by decide)) (gl_s0 hX37) f_GL_54.2.2.2.2.1 (gl_f0 hX37 27 rfl) ?_
        refine wp_aload_n d_GL_insert_78 rfl rfl (g_nz (gl_1 hX37 0)) ?_
        refine xgetR d_GL_insert_79 gc_GL f_GL_40.1 f_GL_40.2.1 f_GL_40.2.2.1 (gl_1 hX37 0) (gl_2 hX37 (a := 0) (by decide)) (gl_s0 hX37) f_GL_40.2.2.2.2.1 (gl_f0 hX37 26 rfl) ?_
        refine wp_aload_n d_GL_insert_82 rfl rfl (g_nz (gl_1 hX37 0)) ?_
        refine xgetI d_GL_insert_83 gc_GL f_GL_81.1 f_GL_81.2.1 f_GL_81.2.2.1 (gl_1 hX37 0) (gl_2 hX37 (a := 0) (by decide)) (gl_s0 hX37) f_GL_81.2.2.2.2.1 (fun h38 => ?_)
        have T := T h38
        have h39 := T.1
        have q40 := T.2.1
        refine xaald d_GL_insert_86 (Or.inr rfl) (gl_1 hX37 23) (gl_2 hX37 (a := 23) (by decide)) (gl_s hX37 23 rfl) (g32_n h39 (by decide)) h39.1 h39.2 rfl ?_
        have T := T.2.2
        refine yxV_I (md' := true) (As := [gR G (X36.2.2 (c + 23) (Int.toNat (M35 c 8)))]) (st := []) d_GL_insert_87 ca_Rs_follow ml_GL_99 im_Rs_follow se_Rs_follow gc_Rs (gl_1 hX37 234) (gl_2 hX37 (a := 234) (by decide)) (gl_s hX37 24 rfl) rfl (by decide) (by decide) rfl (fun _ => rfl) (fun _ => rfl) T (fun v42 X44 M41 h43 T => ?_)
        obtain ⟨hX45, T⟩ := T
        exact wp_st (st' := [gI v42]) (by rfl) (wp_ireturn d_GL_insert_90 rfl (fun _ => rfl) (Nat.zero_le _) (Nat.zero_le _) T)
      · have T := T.2 h68
        refine wp_iconst d_GL_insert_31 ?_
        refine wp_goto (tgt := 36) d_GL_insert_32 (by decide) ?_
        rcases T with T | T
        · exact ytS (by decide) (As := [gI 1]) (st := []) d_GL_insert_36 ca_GL_need ml_GL_69 sm_GL_need  rfl (by decide) (by decide) rfl (fun _ => rfl) (fun h => by cases h) T
        refine ycS_V (md' := false) (As := [gI 1]) (st := []) d_GL_insert_36 ca_GL_need ml_GL_69 sm_GL_need  rfl (by decide) (by decide) rfl id id T (fun M46 T => ?_)
        refine wp_aload_n d_GL_insert_39 rfl rfl (g_nz (gl_1 hX 0)) ?_
        refine xgetR d_GL_insert_40 gc_GL f_GL_34.1 f_GL_34.2.1 f_GL_34.2.2.1 (gl_1 hX 0) (gl_2 hX (a := 0) (by decide)) (gl_s0 hX) f_GL_34.2.2.2.2.1 (gl_f0 hX 23 rfl) ?_
        refine wp_aload_n d_GL_insert_43 rfl rfl (g_nz (gl_1 hX 0)) ?_
        refine xgetR d_GL_insert_44 gc_GL f_GL_40.1 f_GL_40.2.1 f_GL_40.2.2.1 (gl_1 hX 0) (gl_2 hX (a := 0) (by decide)) (gl_s0 hX) f_GL_40.2.2.2.2.1 (gl_f0 hX 26 rfl) ?_
        refine wp_aload_n d_GL_insert_47 rfl rfl (g_nz (gl_1 hX 0)) ?_
        refine xgetI d_GL_insert_48 gc_GL f_GL_81.1 f_GL_81.2.1 f_GL_81.2.2.1 (gl_1 hX 0) (gl_2 hX (a := 0) (by decide)) (gl_s0 hX) f_GL_81.2.2.2.2.1 (fun h47 => ?_)
        have T := T h47
        have h48 := T.1
        have q49 := T.2.1
        refine xaald d_GL_insert_51 (Or.inr rfl) (gl_1 hX 23) (gl_2 hX (a := 23) (by decide)) (gl_s hX 23 rfl) (g32_n h48 (by decide)) h48.1 h48.2 rfl ?_
        have T := T.2.2
        refine wp_aload_n d_GL_insert_52 rfl rfl (g_nz (gl_1 hX 0)) ?_
        have q50 := T.1
        have T := T.2
        refine xgetR d_GL_insert_53 gc_GL f_GL_45.1 f_GL_45.2.1 f_GL_45.2.2.1 (gl_1 hX 0) (gl_2 hX (a := 0) (by decide)) (gl_s0 hX) f_GL_45.2.2.2.2.1 rfl ?_
        refine yxV_V (md' := true) (As := [gR G (X.2.2 (c + 23) (Int.toNat (M46 c 8))), gR G (X.2.2 c 7)]) (st := []) d_GL_insert_56 ca_Ed_open ml_GL_84 im_Ed_open se_Ed_open gc_Ed (gl_1 hX 21) (gl_2 hX (a := 21) (by decide)) (gl_s hX 21 rfl) rfl (by decide) (by decide) rfl (fun _ => rfl) (fun _ => rfl) T (fun X52 M51 T => ?_)
        obtain ⟨hX53, T⟩ := T
        refine wp_aload_n d_GL_insert_59 rfl rfl (g_nz (gl_1 hX53 0)) ?_
        refine wp_aload_n d_GL_insert_60 rfl rfl (g_nz (gl_1 hX53 0)) ?_
        refine xgetR d_GL_insert_61 gc_GL f_GL_34.1 f_GL_34.2.1 f_GL_34.2.2.1 (gl_1 hX53 0) (gl_2 hX53 (a := 0) (by decide)) (gl_s0 hX53) f_GL_34.2.2.2.2.1 (gl_f0 hX53 23 rfl) ?_
        refine wp_iload_n d_GL_insert_64 rfl rfl ?_
        refine wp_iconst d_GL_insert_65 ?_
        refine wp_iload_n d_GL_insert_66 rfl rfl ?_
        refine wp_iload_n d_GL_insert_67 rfl rfl ?_
        refine ycV_Z (md' := true) (As := [gI x1, gI 1, gI x2, gI x3]) (st := [gR G c]) d_GL_insert_68 ca_Ed_shifted ml_GL_111 im_Ed_shifted se_Ed_shifted gc_Ed (gl_1 hX53 21) (gl_2 hX53 (a := 21) (by decide)) (gl_s hX53 21 rfl) rfl (by decide) (by simp only [List.map, gR_cat, gI_cat, gL_cat, List.sum_cons, List.sum_nil]; decide) rfl (fun _ => rfl) (fun _ => rfl) T (fun v55 M54 h56 T => ?_)
        rcases T with T | T
        · exact ytV (by decide) (As := [gI v55]) (st := []) d_GL_insert_71 ca_GL_land ml_GL_96 im_GL_land se_GL_land gc_GL (gl_1 hX53 0) (gl_2 hX53 (a := 0) (by decide)) (gl_s0 hX53) rfl (by decide) (by decide) rfl (fun _ => rfl) (fun _ => rfl) T
        refine yxV_V (md' := true) (As := [gI v55]) (st := []) d_GL_insert_71 ca_GL_land ml_GL_96 im_GL_land se_GL_land gc_GL (gl_1 hX53 0) (gl_2 hX53 (a := 0) (by decide)) (gl_s0 hX53) rfl (by decide) (by decide) rfl (fun _ => rfl) (fun _ => rfl) T (fun X58 M57 T => ?_)
        obtain ⟨hX59, T⟩ := T
        refine wp_aload_n d_GL_insert_74 rfl rfl (g_nz (gl_1 hX59 0)) ?_
        refine xgetR d_GL_insert_75 gc_GL f_GL_54.1 f_GL_54.2.1 f_GL_54.2.2.1 (gl_1 hX59 0) (gl_2 hX59 (a := 0) (by decide)) (gl_s0 hX59) f_GL_54.2.2.2.2.1 (gl_f0 hX59 27 rfl) ?_
        refine wp_aload_n d_GL_insert_78 rfl rfl (g_nz (gl_1 hX59 0)) ?_
        refine xgetR d_GL_insert_79 gc_GL f_GL_40.1 f_GL_40.2.1 f_GL_40.2.2.1 (gl_1 hX59 0) (gl_2 hX59 (a := 0) (by decide)) (gl_s0 hX59) f_GL_40.2.2.2.2.1 (gl_f0 hX59 26 rfl) ?_
        refine wp_aload_n d_GL_insert_82 rfl rfl (g_nz (gl_1 hX59 0)) ?_
        refine xgetI d_GL_insert_83 gc_GL f_GL_81.1 f_GL_81.2.1 f_GL_81.2.2.1 (gl_1 hX59 0) (gl_2 hX59 (a := 0) (by decide)) (gl_s0 hX59) f_GL_81.2.2.2.2.1 (fun h60 => ?_)
        have T := T h60
        have h61 := T.1
        have q62 := T.2.1
        refine xaald d_GL_insert_86 (Or.inr rfl) (gl_1 hX59 23) (gl_2 hX59 (a := 23) (by decide)) (gl_s hX59 23 rfl) (g32_n h61 (by decide)) h61.1 h61.2 rfl ?_
        have T := T.2.2
        refine yxV_I (md' := true) (As := [gR G (X58.2.2 (c + 23) (Int.toNat (M57 c 8)))]) (st := []) d_GL_insert_87 ca_Rs_follow ml_GL_99 im_Rs_follow se_Rs_follow gc_Rs (gl_1 hX59 234) (gl_2 hX59 (a := 234) (by decide)) (gl_s hX59 24 rfl) rfl (by decide) (by decide) rfl (fun _ => rfl) (fun _ => rfl) T (fun v64 X66 M63 h65 T => ?_)
        obtain ⟨hX67, T⟩ := T
        exact wp_st (st' := [gI v64]) (by rfl) (wp_ireturn d_GL_insert_90 rfl (fun _ => rfl) (Nat.zero_le _) (Nat.zero_le _) T)
  · have T := T.2 h212
    refine wp_iload_n d_GL_insert_4 rfl rfl ?_
    refine wp_iload_n d_GL_insert_5 rfl rfl ?_
    refine ycS_I (md' := false) (As := [gI x1]) (st := [gI x2]) d_GL_insert_6 ca_GL_lines ml_GL_107 sm_GL_lines rfl (by decide) (by simp only [List.map, gR_cat, gI_cat, gL_cat, List.sum_cons, List.sum_nil]; decide) rfl id id T (fun v71 M70 h72 T => ?_)
    refine xi_ge (tgt := 16) d_GL_insert_9 (by decide) (w32_id hx2) (w32_id h72) (fun h211 => ?_) (fun h211 => ?_)
    · have T := T.1 h211
      refine wp_iconst d_GL_insert_16 ?_
      rcases T with T | T
      · exact ytS (by decide) (As := [gI 0]) (st := []) d_GL_insert_17 ca_GL_need ml_GL_69 sm_GL_need  rfl (by decide) (by decide) rfl (fun _ => rfl) (fun h => by cases h) T
      refine ycS_V (md' := false) (As := [gI 0]) (st := []) d_GL_insert_17 ca_GL_need ml_GL_69 sm_GL_need  rfl (by decide) (by decide) rfl id id T (fun M73 T => ?_)
      refine wp_iload_n d_GL_insert_20 rfl rfl ?_
      refine wp_iconst d_GL_insert_21 ?_
      refine xi_lt (tgt := 35) d_GL_insert_22 (by decide) (w32_id hx3) (w32_id (g32_c (x := 1) rfl)) (fun h141 => ?_) (fun h141 => ?_)
      · have T := T.1 h141
        refine wp_iconst d_GL_insert_35 ?_
        rcases T with T | T
        · exact ytS (by decide) (As := [gI 0]) (st := []) d_GL_insert_36 ca_GL_need ml_GL_69 sm_GL_need  rfl (by decide) (by decide) rfl (fun _ => rfl) (fun h => by cases h) T
        refine ycS_V (md' := false) (As := [gI 0]) (st := []) d_GL_insert_36 ca_GL_need ml_GL_69 sm_GL_need  rfl (by decide) (by decide) rfl id id T (fun M74 T => ?_)
        refine wp_aload_n d_GL_insert_39 rfl rfl (g_nz (gl_1 hX 0)) ?_
        refine xgetR d_GL_insert_40 gc_GL f_GL_34.1 f_GL_34.2.1 f_GL_34.2.2.1 (gl_1 hX 0) (gl_2 hX (a := 0) (by decide)) (gl_s0 hX) f_GL_34.2.2.2.2.1 (gl_f0 hX 23 rfl) ?_
        refine wp_aload_n d_GL_insert_43 rfl rfl (g_nz (gl_1 hX 0)) ?_
        refine xgetR d_GL_insert_44 gc_GL f_GL_40.1 f_GL_40.2.1 f_GL_40.2.2.1 (gl_1 hX 0) (gl_2 hX (a := 0) (by decide)) (gl_s0 hX) f_GL_40.2.2.2.2.1 (gl_f0 hX 26 rfl) ?_
        refine wp_aload_n d_GL_insert_47 rfl rfl (g_nz (gl_1 hX 0)) ?_
        refine xgetI d_GL_insert_48 gc_GL f_GL_81.1 f_GL_81.2.1 f_GL_81.2.2.1 (gl_1 hX 0) (gl_2 hX (a := 0) (by decide)) (gl_s0 hX) f_GL_81.2.2.2.2.1 (fun h75 => ?_)
        have T := T h75
        have h76 := T.1
        have q77 := T.2.1
        refine xaald d_GL_insert_51 (Or.inr rfl) (gl_1 hX 23) (gl_2 hX (a := 23) (by decide)) (gl_s hX 23 rfl) (g32_n h76 (by decide)) h76.1 h76.2 rfl ?_
        have T := T.2.2
        refine wp_aload_n d_GL_insert_52 rfl rfl (g_nz (gl_1 hX 0)) ?_
        have q78 := T.1
        have T := T.2
        refine xgetR d_GL_insert_53 gc_GL f_GL_45.1 f_GL_45.2.1 f_GL_45.2.2.1 (gl_1 hX 0) (gl_2 hX (a := 0) (by decide)) (gl_s0 hX) f_GL_45.2.2.2.2.1 rfl ?_
        refine yxV_V (md' := true) (As := [gR G (X.2.2 (c + 23) (Int.toNat (M74 c 8))), gR G (X.2.2 c 7)]) (st := []) d_GL_insert_56 ca_Ed_open ml_GL_84 im_Ed_open se_Ed_open gc_Ed (gl_1 hX 21) (gl_2 hX (a := 21) (by decide)) (gl_s hX 21 rfl) rfl (by decide) (by decide) rfl (fun _ => rfl) (fun _ => rfl) T (fun X80 M79 T => ?_)
        obtain ⟨hX81, T⟩ := T
        refine wp_aload_n d_GL_insert_59 rfl rfl (g_nz (gl_1 hX81 0)) ?_
        refine wp_aload_n d_GL_insert_60 rfl rfl (g_nz (gl_1 hX81 0)) ?_
        refine xgetR d_GL_insert_61 gc_GL f_GL_34.1 f_GL_34.2.1 f_GL_34.2.2.1 (gl_1 hX81 0) (gl_2 hX81 (a := 0) (by decide)) (gl_s0 hX81) f_GL_34.2.2.2.2.1 (gl_f0 hX81 23 rfl) ?_
        refine wp_iload_n d_GL_insert_64 rfl rfl ?_
        refine wp_iconst d_GL_insert_65 ?_
        refine wp_iload_n d_GL_insert_66 rfl rfl ?_
        refine wp_iload_n d_GL_insert_67 rfl rfl ?_
        refine ycV_Z (md' := true) (As := [gI x1, gI 1, gI x2, gI x3]) (st := [gR G c]) d_GL_insert_68 ca_Ed_shifted ml_GL_111 im_Ed_shifted se_Ed_shifted gc_Ed (gl_1 hX81 21) (gl_2 hX81 (a := 21) (by decide)) (gl_s hX81 21 rfl) rfl (by decide) (by simp only [List.map, gR_cat, gI_cat, gL_cat, List.sum_cons, List.sum_nil]; decide) rfl (fun _ => rfl) (fun _ => rfl) T (fun v83 M82 h84 T => ?_)
        rcases T with T | T
        · exact ytV (by decide) (As := [gI v83]) (st := []) d_GL_insert_71 ca_GL_land ml_GL_96 im_GL_land se_GL_land gc_GL (gl_1 hX81 0) (gl_2 hX81 (a := 0) (by decide)) (gl_s0 hX81) rfl (by decide) (by decide) rfl (fun _ => rfl) (fun _ => rfl) T
        refine yxV_V (md' := true) (As := [gI v83]) (st := []) d_GL_insert_71 ca_GL_land ml_GL_96 im_GL_land se_GL_land gc_GL (gl_1 hX81 0) (gl_2 hX81 (a := 0) (by decide)) (gl_s0 hX81) rfl (by decide) (by decide) rfl (fun _ => rfl) (fun _ => rfl) T (fun X86 M85 T => ?_)
        obtain ⟨hX87, T⟩ := T
        refine wp_aload_n d_GL_insert_74 rfl rfl (g_nz (gl_1 hX87 0)) ?_
        refine xgetR d_GL_insert_75 gc_GL f_GL_54.1 f_GL_54.2.1 f_GL_54.2.2.1 (gl_1 hX87 0) (gl_2 hX87 (a := 0) (by decide)) (gl_s0 hX87) f_GL_54.2.2.2.2.1 (gl_f0 hX87 27 rfl) ?_
        refine wp_aload_n d_GL_insert_78 rfl rfl (g_nz (gl_1 hX87 0)) ?_
        refine xgetR d_GL_insert_79 gc_GL f_GL_40.1 f_GL_40.2.1 f_GL_40.2.2.1 (gl_1 hX87 0) (gl_2 hX87 (a := 0) (by decide)) (gl_s0 hX87) f_GL_40.2.2.2.2.1 (gl_f0 hX87 26 rfl) ?_
        refine wp_aload_n d_GL_insert_82 rfl rfl (g_nz (gl_1 hX87 0)) ?_
        refine xgetI d_GL_insert_83 gc_GL f_GL_81.1 f_GL_81.2.1 f_GL_81.2.2.1 (gl_1 hX87 0) (gl_2 hX87 (a := 0) (by decide)) (gl_s0 hX87) f_GL_81.2.2.2.2.1 (fun h88 => ?_)
        have T := T h88
        have h89 := T.1
        have q90 := T.2.1
        refine xaald d_GL_insert_86 (Or.inr rfl) (gl_1 hX87 23) (gl_2 hX87 (a := 23) (by decide)) (gl_s hX87 23 rfl) (g32_n h89 (by decide)) h89.1 h89.2 rfl ?_
        have T := T.2.2
        refine yxV_I (md' := true) (As := [gR G (X86.2.2 (c + 23) (Int.toNat (M85 c 8)))]) (st := []) d_GL_insert_87 ca_Rs_follow ml_GL_99 im_Rs_follow se_Rs_follow gc_Rs (gl_1 hX87 234) (gl_2 hX87 (a := 234) (by decide)) (gl_s hX87 24 rfl) rfl (by decide) (by decide) rfl (fun _ => rfl) (fun _ => rfl) T (fun v92 X94 M91 h93 T => ?_)
        obtain ⟨hX95, T⟩ := T
        exact wp_st (st' := [gI v92]) (by rfl) (wp_ireturn d_GL_insert_90 rfl (fun _ => rfl) (Nat.zero_le _) (Nat.zero_le _) T)
      · have T := T.2 h141
        refine wp_iload_n d_GL_insert_25 rfl rfl ?_
        refine wp_bipush d_GL_insert_26 ⟨by decide, by decide⟩ ?_
        refine xi_gt (tgt := 35) d_GL_insert_28 (by decide) (w32_id hx3) (w32_id (g32_c (x := 50) rfl)) (fun h140 => ?_) (fun h140 => ?_)
        · have T := T.1 h140
          refine wp_iconst d_GL_insert_35 ?_
          rcases T with T | T
          · exact ytS (by decide) (As := [gI 0]) (st := []) d_GL_insert_36 ca_GL_need ml_GL_69 sm_GL_need  rfl (by decide) (by decide) rfl (fun _ => rfl) (fun h => by cases h) T
          refine ycS_V (md' := false) (As := [gI 0]) (st := []) d_GL_insert_36 ca_GL_need ml_GL_69 sm_GL_need  rfl (by decide) (by decide) rfl id id T (fun M96 T => ?_)
          refine wp_aload_n d_GL_insert_39 rfl rfl (g_nz (gl_1 hX 0)) ?_
          refine xgetR d_GL_insert_40 gc_GL f_GL_34.1 f_GL_34.2.1 f_GL_34.2.2.1 (gl_1 hX 0) (gl_2 hX (a := 0) (by decide)) (gl_s0 hX) f_GL_34.2.2.2.2.1 (gl_f0 hX 23 rfl) ?_
          refine wp_aload_n d_GL_insert_43 rfl rfl (g_nz (gl_1 hX 0)) ?_
          refine xgetR d_GL_insert_44 gc_GL f_GL_40.1 f_GL_40.2.1 f_GL_40.2.2.1 (gl_1 hX 0) (gl_2 hX (a := 0) (by decide)) (gl_s0 hX) f_GL_40.2.2.2.2.1 (gl_f0 hX 26 rfl) ?_
          refine wp_aload_n d_GL_insert_47 rfl rfl (g_nz (gl_1 hX 0)) ?_
          refine xgetI d_GL_insert_48 gc_GL f_GL_81.1 f_GL_81.2.1 f_GL_81.2.2.1 (gl_1 hX 0) (gl_2 hX (a := 0) (by decide)) (gl_s0 hX) f_GL_81.2.2.2.2.1 (fun h97 => ?_)
          have T := T h97
          have h98 := T.1
          have q99 := T.2.1
          refine xaald d_GL_insert_51 (Or.inr rfl) (gl_1 hX 23) (gl_2 hX (a := 23) (by decide)) (gl_s hX 23 rfl) (g32_n h98 (by decide)) h98.1 h98.2 rfl ?_
          have T := T.2.2
          refine wp_aload_n d_GL_insert_52 rfl rfl (g_nz (gl_1 hX 0)) ?_
          have q100 := T.1
          have T := T.2
          refine xgetR d_GL_insert_53 gc_GL f_GL_45.1 f_GL_45.2.1 f_GL_45.2.2.1 (gl_1 hX 0) (gl_2 hX (a := 0) (by decide)) (gl_s0 hX) f_GL_45.2.2.2.2.1 rfl ?_
          refine yxV_V (md' := true) (As := [gR G (X.2.2 (c + 23) (Int.toNat (M96 c 8))), gR G (X.2.2 c 7)]) (st := []) d_GL_insert_56 ca_Ed_open ml_GL_84 im_Ed_open se_Ed_open gc_Ed (gl_1 hX 21) (gl_2 hX (a := 21) (by decide)) (gl_s hX 21 rfl) rfl (by decide) (by decide) rfl (fun _ => rfl) (fun _ => rfl) T (fun X102 M101 T => ?_)
          obtain ⟨hX103, T⟩ := T
          refine wp_aload_n d_GL_insert_59 rfl rfl (g_nz (gl_1 hX103 0)) ?_
          refine wp_aload_n d_GL_insert_60 rfl rfl (g_nz (gl_1 hX103 0)) ?_
          refine xgetR d_GL_insert_61 gc_GL f_GL_34.1 f_GL_34.2.1 f_GL_34.2.2.1 (gl_1 hX103 0) (gl_2 hX103 (a := 0) (by decide)) (gl_s0 hX103) f_GL_34.2.2.2.2.1 (gl_f0 hX103 23 rfl) ?_
          refine wp_iload_n d_GL_insert_64 rfl rfl ?_
          refine wp_iconst d_GL_insert_65 ?_
          refine wp_iload_n d_GL_insert_66 rfl rfl ?_
          refine wp_iload_n d_GL_insert_67 rfl rfl ?_
          refine ycV_Z (md' := true) (As := [gI x1, gI 1, gI x2, gI x3]) (st := [gR G c]) d_GL_insert_68 ca_Ed_shifted ml_GL_111 im_Ed_shifted se_Ed_shifted gc_Ed (gl_1 hX103 21) (gl_2 hX103 (a := 21) (by decide)) (gl_s hX103 21 rfl) rfl (by decide) (by simp only [List.map, gR_cat, gI_cat, gL_cat, List.sum_cons, List.sum_nil]; decide) rfl (fun _ => rfl) (fun _ => rfl) T (fun v105 M104 h106 T => ?_)
          rcases T with T | T
          · exact ytV (by decide) (As := [gI v105]) (st := []) d_GL_insert_71 ca_GL_land ml_GL_96 im_GL_land se_GL_land gc_GL (gl_1 hX103 0) (gl_2 hX103 (a := 0) (by decide)) (gl_s0 hX103) rfl (by decide) (by decide) rfl (fun _ => rfl) (fun _ => rfl) T
          refine yxV_V (md' := true) (As := [gI v105]) (st := []) d_GL_insert_71 ca_GL_land ml_GL_96 im_GL_land se_GL_land gc_GL (gl_1 hX103 0) (gl_2 hX103 (a := 0) (by decide)) (gl_s0 hX103) rfl (by decide) (by decide) rfl (fun _ => rfl) (fun _ => rfl) T (fun X108 M107 T => ?_)
          obtain ⟨hX109, T⟩ := T
          refine wp_aload_n d_GL_insert_74 rfl rfl (g_nz (gl_1 hX109 0)) ?_
          refine xgetR d_GL_insert_75 gc_GL f_GL_54.1 f_GL_54.2.1 f_GL_54.2.2.1 (gl_1 hX109 0) (gl_2 hX109 (a := 0) (by decide)) (gl_s0 hX109) f_GL_54.2.2.2.2.1 (gl_f0 hX109 27 rfl) ?_
          refine wp_aload_n d_GL_insert_78 rfl rfl (g_nz (gl_1 hX109 0)) ?_
          refine xgetR d_GL_insert_79 gc_GL f_GL_40.1 f_GL_40.2.1 f_GL_40.2.2.1 (gl_1 hX109 0) (gl_2 hX109 (a := 0) (by decide)) (gl_s0 hX109) f_GL_40.2.2.2.2.1 (gl_f0 hX109 26 rfl) ?_
          refine wp_aload_n d_GL_insert_82 rfl rfl (g_nz (gl_1 hX109 0)) ?_
          refine xgetI d_GL_insert_83 gc_GL f_GL_81.1 f_GL_81.2.1 f_GL_81.2.2.1 (gl_1 hX109 0) (gl_2 hX109 (a := 0) (by decide)) (gl_s0 hX109) f_GL_81.2.2.2.2.1 (fun h110 => ?_)
          have T := T h110
          have h111 := T.1
          have q112 := T.2.1
          refine xaald d_GL_insert_86 (Or.inr rfl) (gl_1 hX109 23) (gl_2 hX109 (a := 23) (by decide)) (gl_s hX109 23 rfl) (g32_n h111 (by decide)) h111.1 h111.2 rfl ?_
          have T := T.2.2
          refine yxV_I (md' := true) (As := [gR G (X108.2.2 (c + 23) (Int.toNat (M107 c 8)))]) (st := []) d_GL_insert_87 ca_Rs_follow ml_GL_99 im_Rs_follow se_Rs_follow gc_Rs (gl_1 hX109 234) (gl_2 hX109 (a := 234) (by decide)) (gl_s hX109 24 rfl) rfl (by decide) (by decide) rfl (fun _ => rfl) (fun _ => rfl) T (fun v114 X116 M113 h115 T => ?_)
          obtain ⟨hX117, T⟩ := T
          exact wp_st (st' := [gI v114]) (by rfl) (wp_ireturn d_GL_insert_90 rfl (fun _ => rfl) (Nat.zero_le _) (Nat.zero_le _) T)
        · have T := T.2 h140
          refine wp_iconst d_GL_insert_31 ?_
          refine wp_goto (tgt := 36) d_GL_insert_32 (by decide) ?_
          rcases T with T | T
          · exact ytS (by decide) (As := [gI 1]) (st := []) d_GL_insert_36 ca_GL_need ml_GL_69 sm_GL_need  rfl (by decide) (by decide) rfl (fun _ => rfl) (fun h => by cases h) T
          refine ycS_V (md' := false) (As := [gI 1]) (st := []) d_GL_insert_36 ca_GL_need ml_GL_69 sm_GL_need  rfl (by decide) (by decide) rfl id id T (fun M118 T => ?_)
          refine wp_aload_n d_GL_insert_39 rfl rfl (g_nz (gl_1 hX 0)) ?_
          refine xgetR d_GL_insert_40 gc_GL f_GL_34.1 f_GL_34.2.1 f_GL_34.2.2.1 (gl_1 hX 0) (gl_2 hX (a := 0) (by decide)) (gl_s0 hX) f_GL_34.2.2.2.2.1 (gl_f0 hX 23 rfl) ?_
          refine wp_aload_n d_GL_insert_43 rfl rfl (g_nz (gl_1 hX 0)) ?_
          refine xgetR d_GL_insert_44 gc_GL f_GL_40.1 f_GL_40.2.1 f_GL_40.2.2.1 (gl_1 hX 0) (gl_2 hX (a := 0) (by decide)) (gl_s0 hX) f_GL_40.2.2.2.2.1 (gl_f0 hX 26 rfl) ?_
          refine wp_aload_n d_GL_insert_47 rfl rfl (g_nz (gl_1 hX 0)) ?_
          refine xgetI d_GL_insert_48 gc_GL f_GL_81.1 f_GL_81.2.1 f_GL_81.2.2.1 (gl_1 hX 0) (gl_2 hX (a := 0) (by decide)) (gl_s0 hX) f_GL_81.2.2.2.2.1 (fun h119 => ?_)
          have T := T h119
          have h120 := T.1
          have q121 := T.2.1
          refine xaald d_GL_insert_51 (Or.inr rfl) (gl_1 hX 23) (gl_2 hX (a := 23) (by decide)) (gl_s hX 23 rfl) (g32_n h120 (by decide)) h120.1 h120.2 rfl ?_
          have T := T.2.2
          refine wp_aload_n d_GL_insert_52 rfl rfl (g_nz (gl_1 hX 0)) ?_
          have q122 := T.1
          have T := T.2
          refine xgetR d_GL_insert_53 gc_GL f_GL_45.1 f_GL_45.2.1 f_GL_45.2.2.1 (gl_1 hX 0) (gl_2 hX (a := 0) (by decide)) (gl_s0 hX) f_GL_45.2.2.2.2.1 rfl ?_
          refine yxV_V (md' := true) (As := [gR G (X.2.2 (c + 23) (Int.toNat (M118 c 8))), gR G (X.2.2 c 7)]) (st := []) d_GL_insert_56 ca_Ed_open ml_GL_84 im_Ed_open se_Ed_open gc_Ed (gl_1 hX 21) (gl_2 hX (a := 21) (by decide)) (gl_s hX 21 rfl) rfl (by decide) (by decide) rfl (fun _ => rfl) (fun _ => rfl) T (fun X124 M123 T => ?_)
          obtain ⟨hX125, T⟩ := T
          refine wp_aload_n d_GL_insert_59 rfl rfl (g_nz (gl_1 hX125 0)) ?_
          refine wp_aload_n d_GL_insert_60 rfl rfl (g_nz (gl_1 hX125 0)) ?_
          refine xgetR d_GL_insert_61 gc_GL f_GL_34.1 f_GL_34.2.1 f_GL_34.2.2.1 (gl_1 hX125 0) (gl_2 hX125 (a := 0) (by decide)) (gl_s0 hX125) f_GL_34.2.2.2.2.1 (gl_f0 hX125 23 rfl) ?_
          refine wp_iload_n d_GL_insert_64 rfl rfl ?_
          refine wp_iconst d_GL_insert_65 ?_
          refine wp_iload_n d_GL_insert_66 rfl rfl ?_
          refine wp_iload_n d_GL_insert_67 rfl rfl ?_
          refine ycV_Z (md' := true) (As := [gI x1, gI 1, gI x2, gI x3]) (st := [gR G c]) d_GL_insert_68 ca_Ed_shifted ml_GL_111 im_Ed_shifted se_Ed_shifted gc_Ed (gl_1 hX125 21) (gl_2 hX125 (a := 21) (by decide)) (gl_s hX125 21 rfl) rfl (by decide) (by simp only [List.map, gR_cat, gI_cat, gL_cat, List.sum_cons, List.sum_nil]; decide) rfl (fun _ => rfl) (fun _ => rfl) T (fun v127 M126 h128 T => ?_)
          rcases T with T | T
          · exact ytV (by decide) (As := [gI v127]) (st := []) d_GL_insert_71 ca_GL_land ml_GL_96 im_GL_land se_GL_land gc_GL (gl_1 hX125 0) (gl_2 hX125 (a := 0) (by decide)) (gl_s0 hX125) rfl (by decide) (by decide) rfl (fun _ => rfl) (fun _ => rfl) T
          refine yxV_V (md' := true) (As := [gI v127]) (st := []) d_GL_insert_71 ca_GL_land ml_GL_96 im_GL_land se_GL_land gc_GL (gl_1 hX125 0) (gl_2 hX125 (a := 0) (by decide)) (gl_s0 hX125) rfl (by decide) (by decide) rfl (fun _ => rfl) (fun _ => rfl) T (fun X130 M129 T => ?_)
          obtain ⟨hX131, T⟩ := T
          refine wp_aload_n d_GL_insert_74 rfl rfl (g_nz (gl_1 hX131 0)) ?_
          refine xgetR d_GL_insert_75 gc_GL f_GL_54.1 f_GL_54.2.1 f_GL_54.2.2.1 (gl_1 hX131 0) (gl_2 hX131 (a := 0) (by decide)) (gl_s0 hX131) f_GL_54.2.2.2.2.1 (gl_f0 hX131 27 rfl) ?_
          refine wp_aload_n d_GL_insert_78 rfl rfl (g_nz (gl_1 hX131 0)) ?_
          refine xgetR d_GL_insert_79 gc_GL f_GL_40.1 f_GL_40.2.1 f_GL_40.2.2.1 (gl_1 hX131 0) (gl_2 hX131 (a := 0) (by decide)) (gl_s0 hX131) f_GL_40.2.2.2.2.1 (gl_f0 hX131 26 rfl) ?_
          refine wp_aload_n d_GL_insert_82 rfl rfl (g_nz (gl_1 hX131 0)) ?_
          refine xgetI d_GL_insert_83 gc_GL f_GL_81.1 f_GL_81.2.1 f_GL_81.2.2.1 (gl_1 hX131 0) (gl_2 hX131 (a := 0) (by decide)) (gl_s0 hX131) f_GL_81.2.2.2.2.1 (fun h132 => ?_)
          have T := T h132
          have h133 := T.1
          have q134 := T.2.1
          refine xaald d_GL_insert_86 (Or.inr rfl) (gl_1 hX131 23) (gl_2 hX131 (a := 23) (by decide)) (gl_s hX131 23 rfl) (g32_n h133 (by decide)) h133.1 h133.2 rfl ?_
          have T := T.2.2
          refine yxV_I (md' := true) (As := [gR G (X130.2.2 (c + 23) (Int.toNat (M129 c 8)))]) (st := []) d_GL_insert_87 ca_Rs_follow ml_GL_99 im_Rs_follow se_Rs_follow gc_Rs (gl_1 hX131 234) (gl_2 hX131 (a := 234) (by decide)) (gl_s hX131 24 rfl) rfl (by decide) (by decide) rfl (fun _ => rfl) (fun _ => rfl) T (fun v136 X138 M135 h137 T => ?_)
          obtain ⟨hX139, T⟩ := T
          exact wp_st (st' := [gI v136]) (by rfl) (wp_ireturn d_GL_insert_90 rfl (fun _ => rfl) (Nat.zero_le _) (Nat.zero_le _) T)
    · have T := T.2 h211
      refine wp_iconst d_GL_insert_12 ?_
      refine wp_goto (tgt := 17) d_GL_insert_13 (by decide) ?_
      rcases T with T | T
      · exact ytS (by decide) (As := [gI 1]) (st := []) d_GL_insert_17 ca_GL_need ml_GL_69 sm_GL_need  rfl (by decide) (by decide) rfl (fun _ => rfl) (fun h => by cases h) T
      refine ycS_V (md' := false) (As := [gI 1]) (st := []) d_GL_insert_17 ca_GL_need ml_GL_69 sm_GL_need  rfl (by decide) (by decide) rfl id id T (fun M142 T => ?_)
      refine wp_iload_n d_GL_insert_20 rfl rfl ?_
      refine wp_iconst d_GL_insert_21 ?_
      refine xi_lt (tgt := 35) d_GL_insert_22 (by decide) (w32_id hx3) (w32_id (g32_c (x := 1) rfl)) (fun h210 => ?_) (fun h210 => ?_)
      · have T := T.1 h210
        refine wp_iconst d_GL_insert_35 ?_
        rcases T with T | T
        · exact ytS (by decide) (As := [gI 0]) (st := []) d_GL_insert_36 ca_GL_need ml_GL_69 sm_GL_need  rfl (by decide) (by decide) rfl (fun _ => rfl) (fun h => by cases h) T
        refine ycS_V (md' := false) (As := [gI 0]) (st := []) d_GL_insert_36 ca_GL_need ml_GL_69 sm_GL_need  rfl (by decide) (by decide) rfl id id T (fun M143 T => ?_)
        refine wp_aload_n d_GL_insert_39 rfl rfl (g_nz (gl_1 hX 0)) ?_
        refine xgetR d_GL_insert_40 gc_GL f_GL_34.1 f_GL_34.2.1 f_GL_34.2.2.1 (gl_1 hX 0) (gl_2 hX (a := 0) (by decide)) (gl_s0 hX) f_GL_34.2.2.2.2.1 (gl_f0 hX 23 rfl) ?_
        refine wp_aload_n d_GL_insert_43 rfl rfl (g_nz (gl_1 hX 0)) ?_
        refine xgetR d_GL_insert_44 gc_GL f_GL_40.1 f_GL_40.2.1 f_GL_40.2.2.1 (gl_1 hX 0) (gl_2 hX (a := 0) (by decide)) (gl_s0 hX) f_GL_40.2.2.2.2.1 (gl_f0 hX 26 rfl) ?_
        refine wp_aload_n d_GL_insert_47 rfl rfl (g_nz (gl_1 hX 0)) ?_
        refine xgetI d_GL_insert_48 gc_GL f_GL_81.1 f_GL_81.2.1 f_GL_81.2.2.1 (gl_1 hX 0) (gl_2 hX (a := 0) (by decide)) (gl_s0 hX) f_GL_81.2.2.2.2.1 (fun h144 => ?_)
        have T := T h144
        have h145 := T.1
        have q146 := T.2.1
        refine xaald d_GL_insert_51 (Or.inr rfl) (gl_1 hX 23) (gl_2 hX (a := 23) (by decide)) (gl_s hX 23 rfl) (g32_n h145 (by decide)) h145.1 h145.2 rfl ?_
        have T := T.2.2
        refine wp_aload_n d_GL_insert_52 rfl rfl (g_nz (gl_1 hX 0)) ?_
        have q147 := T.1
        have T := T.2
        refine xgetR d_GL_insert_53 gc_GL f_GL_45.1 f_GL_45.2.1 f_GL_45.2.2.1 (gl_1 hX 0) (gl_2 hX (a := 0) (by decide)) (gl_s0 hX) f_GL_45.2.2.2.2.1 rfl ?_
        refine yxV_V (md' := true) (As := [gR G (X.2.2 (c + 23) (Int.toNat (M143 c 8))), gR G (X.2.2 c 7)]) (st := []) d_GL_insert_56 ca_Ed_open ml_GL_84 im_Ed_open se_Ed_open gc_Ed (gl_1 hX 21) (gl_2 hX (a := 21) (by decide)) (gl_s hX 21 rfl) rfl (by decide) (by decide) rfl (fun _ => rfl) (fun _ => rfl) T (fun X149 M148 T => ?_)
        obtain ⟨hX150, T⟩ := T
        refine wp_aload_n d_GL_insert_59 rfl rfl (g_nz (gl_1 hX150 0)) ?_
        refine wp_aload_n d_GL_insert_60 rfl rfl (g_nz (gl_1 hX150 0)) ?_
        refine xgetR d_GL_insert_61 gc_GL f_GL_34.1 f_GL_34.2.1 f_GL_34.2.2.1 (gl_1 hX150 0) (gl_2 hX150 (a := 0) (by decide)) (gl_s0 hX150) f_GL_34.2.2.2.2.1 (gl_f0 hX150 23 rfl) ?_
        refine wp_iload_n d_GL_insert_64 rfl rfl ?_
        refine wp_iconst d_GL_insert_65 ?_
        refine wp_iload_n d_GL_insert_66 rfl rfl ?_
        refine wp_iload_n d_GL_insert_67 rfl rfl ?_
        refine ycV_Z (md' := true) (As := [gI x1, gI 1, gI x2, gI x3]) (st := [gR G c]) d_GL_insert_68 ca_Ed_shifted ml_GL_111 im_Ed_shifted se_Ed_shifted gc_Ed (gl_1 hX150 21) (gl_2 hX150 (a := 21) (by decide)) (gl_s hX150 21 rfl) rfl (by decide) (by simp only [List.map, gR_cat, gI_cat, gL_cat, List.sum_cons, List.sum_nil]; decide) rfl (fun _ => rfl) (fun _ => rfl) T (fun v152 M151 h153 T => ?_)
        rcases T with T | T
        · exact ytV (by decide) (As := [gI v152]) (st := []) d_GL_insert_71 ca_GL_land ml_GL_96 im_GL_land se_GL_land gc_GL (gl_1 hX150 0) (gl_2 hX150 (a := 0) (by decide)) (gl_s0 hX150) rfl (by decide) (by decide) rfl (fun _ => rfl) (fun _ => rfl) T
        refine yxV_V (md' := true) (As := [gI v152]) (st := []) d_GL_insert_71 ca_GL_land ml_GL_96 im_GL_land se_GL_land gc_GL (gl_1 hX150 0) (gl_2 hX150 (a := 0) (by decide)) (gl_s0 hX150) rfl (by decide) (by decide) rfl (fun _ => rfl) (fun _ => rfl) T (fun X155 M154 T => ?_)
        obtain ⟨hX156, T⟩ := T
        refine wp_aload_n d_GL_insert_74 rfl rfl (g_nz (gl_1 hX156 0)) ?_
        refine xgetR d_GL_insert_75 gc_GL f_GL_54.1 f_GL_54.2.1 f_GL_54.2.2.1 (gl_1 hX156 0) (gl_2 hX156 (a := 0) (by decide)) (gl_s0 hX156) f_GL_54.2.2.2.2.1 (gl_f0 hX156 27 rfl) ?_
        refine wp_aload_n d_GL_insert_78 rfl rfl (g_nz (gl_1 hX156 0)) ?_
        refine xgetR d_GL_insert_79 gc_GL f_GL_40.1 f_GL_40.2.1 f_GL_40.2.2.1 (gl_1 hX156 0) (gl_2 hX156 (a := 0) (by decide)) (gl_s0 hX156) f_GL_40.2.2.2.2.1 (gl_f0 hX156 26 rfl) ?_
        refine wp_aload_n d_GL_insert_82 rfl rfl (g_nz (gl_1 hX156 0)) ?_
        refine xgetI d_GL_insert_83 gc_GL f_GL_81.1 f_GL_81.2.1 f_GL_81.2.2.1 (gl_1 hX156 0) (gl_2 hX156 (a := 0) (by decide)) (gl_s0 hX156) f_GL_81.2.2.2.2.1 (fun h157 => ?_)
        have T := T h157
        have h158 := T.1
        have q159 := T.2.1
        refine xaald d_GL_insert_86 (Or.inr rfl) (gl_1 hX156 23) (gl_2 hX156 (a := 23) (by decide)) (gl_s hX156 23 rfl) (g32_n h158 (by decide)) h158.1 h158.2 rfl ?_
        have T := T.2.2
        refine yxV_I (md' := true) (As := [gR G (X155.2.2 (c + 23) (Int.toNat (M154 c 8)))]) (st := []) d_GL_insert_87 ca_Rs_follow ml_GL_99 im_Rs_follow se_Rs_follow gc_Rs (gl_1 hX156 234) (gl_2 hX156 (a := 234) (by decide)) (gl_s hX156 24 rfl) rfl (by decide) (by decide) rfl (fun _ => rfl) (fun _ => rfl) T (fun v161 X163 M160 h162 T => ?_)
        obtain ⟨hX164, T⟩ := T
        exact wp_st (st' := [gI v161]) (by rfl) (wp_ireturn d_GL_insert_90 rfl (fun _ => rfl) (Nat.zero_le _) (Nat.zero_le _) T)
      · have T := T.2 h210
        refine wp_iload_n d_GL_insert_25 rfl rfl ?_
        refine wp_bipush d_GL_insert_26 ⟨by decide, by decide⟩ ?_
        refine xi_gt (tgt := 35) d_GL_insert_28 (by decide) (w32_id hx3) (w32_id (g32_c (x := 50) rfl)) (fun h209 => ?_) (fun h209 => ?_)
        · have T := T.1 h209
          refine wp_iconst d_GL_insert_35 ?_
          rcases T with T | T
          · exact ytS (by decide) (As := [gI 0]) (st := []) d_GL_insert_36 ca_GL_need ml_GL_69 sm_GL_need  rfl (by decide) (by decide) rfl (fun _ => rfl) (fun h => by cases h) T
          refine ycS_V (md' := false) (As := [gI 0]) (st := []) d_GL_insert_36 ca_GL_need ml_GL_69 sm_GL_need  rfl (by decide) (by decide) rfl id id T (fun M165 T => ?_)
          refine wp_aload_n d_GL_insert_39 rfl rfl (g_nz (gl_1 hX 0)) ?_
          refine xgetR d_GL_insert_40 gc_GL f_GL_34.1 f_GL_34.2.1 f_GL_34.2.2.1 (gl_1 hX 0) (gl_2 hX (a := 0) (by decide)) (gl_s0 hX) f_GL_34.2.2.2.2.1 (gl_f0 hX 23 rfl) ?_
          refine wp_aload_n d_GL_insert_43 rfl rfl (g_nz (gl_1 hX 0)) ?_
          refine xgetR d_GL_insert_44 gc_GL f_GL_40.1 f_GL_40.2.1 f_GL_40.2.2.1 (gl_1 hX 0) (gl_2 hX (a := 0) (by decide)) (gl_s0 hX) f_GL_40.2.2.2.2.1 (gl_f0 hX 26 rfl) ?_
          refine wp_aload_n d_GL_insert_47 rfl rfl (g_nz (gl_1 hX 0)) ?_
          refine xgetI d_GL_insert_48 gc_GL f_GL_81.1 f_GL_81.2.1 f_GL_81.2.2.1 (gl_1 hX 0) (gl_2 hX (a := 0) (by decide)) (gl_s0 hX) f_GL_81.2.2.2.2.1 (fun h166 => ?_)
          have T := T h166
          have h167 := T.1
          have q168 := T.2.1
          refine xaald d_GL_insert_51 (Or.inr rfl) (gl_1 hX 23) (gl_2 hX (a := 23) (by decide)) (gl_s hX 23 rfl) (g32_n h167 (by decide)) h167.1 h167.2 rfl ?_
          have T := T.2.2
          refine wp_aload_n d_GL_insert_52 rfl rfl (g_nz (gl_1 hX 0)) ?_
          have q169 := T.1
          have T := T.2
          refine xgetR d_GL_insert_53 gc_GL f_GL_45.1 f_GL_45.2.1 f_GL_45.2.2.1 (gl_1 hX 0) (gl_2 hX (a := 0) (by decide)) (gl_s0 hX) f_GL_45.2.2.2.2.1 rfl ?_
          refine yxV_V (md' := true) (As := [gR G (X.2.2 (c + 23) (Int.toNat (M165 c 8))), gR G (X.2.2 c 7)]) (st := []) d_GL_insert_56 ca_Ed_open ml_GL_84 im_Ed_open se_Ed_open gc_Ed (gl_1 hX 21) (gl_2 hX (a := 21) (by decide)) (gl_s hX 21 rfl) rfl (by decide) (by decide) rfl (fun _ => rfl) (fun _ => rfl) T (fun X171 M170 T => ?_)
          obtain ⟨hX172, T⟩ := T
          refine wp_aload_n d_GL_insert_59 rfl rfl (g_nz (gl_1 hX172 0)) ?_
          refine wp_aload_n d_GL_insert_60 rfl rfl (g_nz (gl_1 hX172 0)) ?_
          refine xgetR d_GL_insert_61 gc_GL f_GL_34.1 f_GL_34.2.1 f_GL_34.2.2.1 (gl_1 hX172 0) (gl_2 hX172 (a := 0) (by decide)) (gl_s0 hX172) f_GL_34.2.2.2.2.1 (gl_f0 hX172 23 rfl) ?_
          refine wp_iload_n d_GL_insert_64 rfl rfl ?_
          refine wp_iconst d_GL_insert_65 ?_
          refine wp_iload_n d_GL_insert_66 rfl rfl ?_
          refine wp_iload_n d_GL_insert_67 rfl rfl ?_
          refine ycV_Z (md' := true) (As := [gI x1, gI 1, gI x2, gI x3]) (st := [gR G c]) d_GL_insert_68 ca_Ed_shifted ml_GL_111 im_Ed_shifted se_Ed_shifted gc_Ed (gl_1 hX172 21) (gl_2 hX172 (a := 21) (by decide)) (gl_s hX172 21 rfl) rfl (by decide) (by simp only [List.map, gR_cat, gI_cat, gL_cat, List.sum_cons, List.sum_nil]; decide) rfl (fun _ => rfl) (fun _ => rfl) T (fun v174 M173 h175 T => ?_)
          rcases T with T | T
          · exact ytV (by decide) (As := [gI v174]) (st := []) d_GL_insert_71 ca_GL_land ml_GL_96 im_GL_land se_GL_land gc_GL (gl_1 hX172 0) (gl_2 hX172 (a := 0) (by decide)) (gl_s0 hX172) rfl (by decide) (by decide) rfl (fun _ => rfl) (fun _ => rfl) T
          refine yxV_V (md' := true) (As := [gI v174]) (st := []) d_GL_insert_71 ca_GL_land ml_GL_96 im_GL_land se_GL_land gc_GL (gl_1 hX172 0) (gl_2 hX172 (a := 0) (by decide)) (gl_s0 hX172) rfl (by decide) (by decide) rfl (fun _ => rfl) (fun _ => rfl) T (fun X177 M176 T => ?_)
          obtain ⟨hX178, T⟩ := T
          refine wp_aload_n d_GL_insert_74 rfl rfl (g_nz (gl_1 hX178 0)) ?_
          refine xgetR d_GL_insert_75 gc_GL f_GL_54.1 f_GL_54.2.1 f_GL_54.2.2.1 (gl_1 hX178 0) (gl_2 hX178 (a := 0) (by decide)) (gl_s0 hX178) f_GL_54.2.2.2.2.1 (gl_f0 hX178 27 rfl) ?_
          refine wp_aload_n d_GL_insert_78 rfl rfl (g_nz (gl_1 hX178 0)) ?_
          refine xgetR d_GL_insert_79 gc_GL f_GL_40.1 f_GL_40.2.1 f_GL_40.2.2.1 (gl_1 hX178 0) (gl_2 hX178 (a := 0) (by decide)) (gl_s0 hX178) f_GL_40.2.2.2.2.1 (gl_f0 hX178 26 rfl) ?_
          refine wp_aload_n d_GL_insert_82 rfl rfl (g_nz (gl_1 hX178 0)) ?_
          refine xgetI d_GL_insert_83 gc_GL f_GL_81.1 f_GL_81.2.1 f_GL_81.2.2.1 (gl_1 hX178 0) (gl_2 hX178 (a := 0) (by decide)) (gl_s0 hX178) f_GL_81.2.2.2.2.1 (fun h179 => ?_)
          have T := T h179
          have h180 := T.1
          have q181 := T.2.1
          refine xaald d_GL_insert_86 (Or.inr rfl) (gl_1 hX178 23) (gl_2 hX178 (a := 23) (by decide)) (gl_s hX178 23 rfl) (g32_n h180 (by decide)) h180.1 h180.2 rfl ?_
          have T := T.2.2
          refine yxV_I (md' := true) (As := [gR G (X177.2.2 (c + 23) (Int.toNat (M176 c 8)))]) (st := []) d_GL_insert_87 ca_Rs_follow ml_GL_99 im_Rs_follow se_Rs_follow gc_Rs (gl_1 hX178 234) (gl_2 hX178 (a := 234) (by decide)) (gl_s hX178 24 rfl) rfl (by decide) (by decide) rfl (fun _ => rfl) (fun _ => rfl) T (fun v183 X185 M182 h184 T => ?_)
          obtain ⟨hX186, T⟩ := T
          exact wp_st (st' := [gI v183]) (by rfl) (wp_ireturn d_GL_insert_90 rfl (fun _ => rfl) (Nat.zero_le _) (Nat.zero_le _) T)
        · have T := T.2 h209
          refine wp_iconst d_GL_insert_31 ?_
          refine wp_goto (tgt := 36) d_GL_insert_32 (by decide) ?_
          rcases T with T | T
          · exact ytS (by decide) (As := [gI 1]) (st := []) d_GL_insert_36 ca_GL_need ml_GL_69 sm_GL_need  rfl (by decide) (by decide) rfl (fun _ => rfl) (fun h => by cases h) T
          refine ycS_V (md' := false) (As := [gI 1]) (st := []) d_GL_insert_36 ca_GL_need ml_GL_69 sm_GL_need  rfl (by decide) (by decide) rfl id id T (fun M187 T => ?_)
          refine wp_aload_n d_GL_insert_39 rfl rfl (g_nz (gl_1 hX 0)) ?_
          refine xgetR d_GL_insert_40 gc_GL f_GL_34.1 f_GL_34.2.1 f_GL_34.2.2.1 (gl_1 hX 0) (gl_2 hX (a := 0) (by decide)) (gl_s0 hX) f_GL_34.2.2.2.2.1 (gl_f0 hX 23 rfl) ?_
          refine wp_aload_n d_GL_insert_43 rfl rfl (g_nz (gl_1 hX 0)) ?_
          refine xgetR d_GL_insert_44 gc_GL f_GL_40.1 f_GL_40.2.1 f_GL_40.2.2.1 (gl_1 hX 0) (gl_2 hX (a := 0) (by decide)) (gl_s0 hX) f_GL_40.2.2.2.2.1 (gl_f0 hX 26 rfl) ?_
          refine wp_aload_n d_GL_insert_47 rfl rfl (g_nz (gl_1 hX 0)) ?_
          refine xgetI d_GL_insert_48 gc_GL f_GL_81.1 f_GL_81.2.1 f_GL_81.2.2.1 (gl_1 hX 0) (gl_2 hX (a := 0) (by decide)) (gl_s0 hX) f_GL_81.2.2.2.2.1 (fun h188 => ?_)
          have T := T h188
          have h189 := T.1
          have q190 := T.2.1
          refine xaald d_GL_insert_51 (Or.inr rfl) (gl_1 hX 23) (gl_2 hX (a := 23) (by decide)) (gl_s hX 23 rfl) (g32_n h189 (by decide)) h189.1 h189.2 rfl ?_
          have T := T.2.2
          refine wp_aload_n d_GL_insert_52 rfl rfl (g_nz (gl_1 hX 0)) ?_
          have q191 := T.1
          have T := T.2
          refine xgetR d_GL_insert_53 gc_GL f_GL_45.1 f_GL_45.2.1 f_GL_45.2.2.1 (gl_1 hX 0) (gl_2 hX (a := 0) (by decide)) (gl_s0 hX) f_GL_45.2.2.2.2.1 rfl ?_
          refine yxV_V (md' := true) (As := [gR G (X.2.2 (c + 23) (Int.toNat (M187 c 8))), gR G (X.2.2 c 7)]) (st := []) d_GL_insert_56 ca_Ed_open ml_GL_84 im_Ed_open se_Ed_open gc_Ed (gl_1 hX 21) (gl_2 hX (a := 21) (by decide)) (gl_s hX 21 rfl) rfl (by decide) (by decide) rfl (fun _ => rfl) (fun _ => rfl) T (fun X193 M192 T => ?_)
          obtain ⟨hX194, T⟩ := T
          refine wp_aload_n d_GL_insert_59 rfl rfl (g_nz (gl_1 hX194 0)) ?_
          refine wp_aload_n d_GL_insert_60 rfl rfl (g_nz (gl_1 hX194 0)) ?_
          refine xgetR d_GL_insert_61 gc_GL f_GL_34.1 f_GL_34.2.1 f_GL_34.2.2.1 (gl_1 hX194 0) (gl_2 hX194 (a := 0) (by decide)) (gl_s0 hX194) f_GL_34.2.2.2.2.1 (gl_f0 hX194 23 rfl) ?_
          refine wp_iload_n d_GL_insert_64 rfl rfl ?_
          refine wp_iconst d_GL_insert_65 ?_
          refine wp_iload_n d_GL_insert_66 rfl rfl ?_
          refine wp_iload_n d_GL_insert_67 rfl rfl ?_
          refine ycV_Z (md' := true) (As := [gI x1, gI 1, gI x2, gI x3]) (st := [gR G c]) d_GL_insert_68 ca_Ed_shifted ml_GL_111 im_Ed_shifted se_Ed_shifted gc_Ed (gl_1 hX194 21) (gl_2 hX194 (a := 21) (by decide)) (gl_s hX194 21 rfl) rfl (by decide) (by simp only [List.map, gR_cat, gI_cat, gL_cat, List.sum_cons, List.sum_nil]; decide) rfl (fun _ => rfl) (fun _ => rfl) T (fun v196 M195 h197 T => ?_)
          rcases T with T | T
          · exact ytV (by decide) (As := [gI v196]) (st := []) d_GL_insert_71 ca_GL_land ml_GL_96 im_GL_land se_GL_land gc_GL (gl_1 hX194 0) (gl_2 hX194 (a := 0) (by decide)) (gl_s0 hX194) rfl (by decide) (by decide) rfl (fun _ => rfl) (fun _ => rfl) T
          refine yxV_V (md' := true) (As := [gI v196]) (st := []) d_GL_insert_71 ca_GL_land ml_GL_96 im_GL_land se_GL_land gc_GL (gl_1 hX194 0) (gl_2 hX194 (a := 0) (by decide)) (gl_s0 hX194) rfl (by decide) (by decide) rfl (fun _ => rfl) (fun _ => rfl) T (fun X199 M198 T => ?_)
          obtain ⟨hX200, T⟩ := T
          refine wp_aload_n d_GL_insert_74 rfl rfl (g_nz (gl_1 hX200 0)) ?_
          refine xgetR d_GL_insert_75 gc_GL f_GL_54.1 f_GL_54.2.1 f_GL_54.2.2.1 (gl_1 hX200 0) (gl_2 hX200 (a := 0) (by decide)) (gl_s0 hX200) f_GL_54.2.2.2.2.1 (gl_f0 hX200 27 rfl) ?_
          refine wp_aload_n d_GL_insert_78 rfl rfl (g_nz (gl_1 hX200 0)) ?_
          refine xgetR d_GL_insert_79 gc_GL f_GL_40.1 f_GL_40.2.1 f_GL_40.2.2.1 (gl_1 hX200 0) (gl_2 hX200 (a := 0) (by decide)) (gl_s0 hX200) f_GL_40.2.2.2.2.1 (gl_f0 hX200 26 rfl) ?_
          refine wp_aload_n d_GL_insert_82 rfl rfl (g_nz (gl_1 hX200 0)) ?_
          refine xgetI d_GL_insert_83 gc_GL f_GL_81.1 f_GL_81.2.1 f_GL_81.2.2.1 (gl_1 hX200 0) (gl_2 hX200 (a := 0) (by decide)) (gl_s0 hX200) f_GL_81.2.2.2.2.1 (fun h201 => ?_)
          have T := T h201
          have h202 := T.1
          have q203 := T.2.1
          refine xaald d_GL_insert_86 (Or.inr rfl) (gl_1 hX200 23) (gl_2 hX200 (a := 23) (by decide)) (gl_s hX200 23 rfl) (g32_n h202 (by decide)) h202.1 h202.2 rfl ?_
          have T := T.2.2
          refine yxV_I (md' := true) (As := [gR G (X199.2.2 (c + 23) (Int.toNat (M198 c 8)))]) (st := []) d_GL_insert_87 ca_Rs_follow ml_GL_99 im_Rs_follow se_Rs_follow gc_Rs (gl_1 hX200 234) (gl_2 hX200 (a := 234) (by decide)) (gl_s hX200 24 rfl) rfl (by decide) (by decide) rfl (fun _ => rfl) (fun _ => rfl) T (fun v205 X207 M204 h206 T => ?_)
          obtain ⟨hX208, T⟩ := T
          exact wp_st (st' := [gI v205]) (by rfl) (wp_ireturn d_GL_insert_90 rfl (fun _ => rfl) (Nat.zero_le _) (Nat.zero_le _) T)
theorem eu_GL_insert {l : Launch} {G : gG} {d : Nat} {X : gX} {M : gM} {Nr : Nat} {K : Outcome → gX → gM → Prop} {c : Nat} {x1 : Int} {x2 : Int} {x3 : Int} (T : wp l G y_GL_insert (gRr (d + 8) Nr) true K false 0 [.val (gR G c), .val (gI x1), .val (gI x2), .val (gI x3)] [] X M 0 0) : gCt l G y_GL_insert (gRr (d + 8) Nr) true [gR G c, gI x1, gI x2, gI x3] X M K := gCt.of (plainFor_of_name rfl) (by simp only [lg_sl_R, lg_sl_I, lg_sl_L, lg_sl_N, List.length_cons, List.length_nil]; decide) (by unfold gEn; simp only [lg_sl_R, lg_sl_I, lg_sl_L, lg_sl_N]; exact wpt T (And.intro rfl (And.intro rfl (And.intro rfl (And.intro rfl True.intro)))))
set_option maxHeartbeats 4000000 in
theorem u_GL_erase_0 {l : Launch} {G : gG} {d : Nat} {X : gX} {M : gM} {Nr : Nat} {K : Outcome → gX → gM → Prop} {c : Nat} (hX : glX X c) {x1 : Int} (hx1 : 0 ≤ x1 ∧ x1 ≤ 1) {x2 : Int} (hx2 : g32 x2) {x3 : Int} (hx3 : g32 x3)  (T : (x2 < 0 → (cT l G y_GL_need (gRr (d + 7) Nr) false [gI 0] X M K ∨ cV l G y_GL_need (gRm (d + 7)) false [gI 0] X M (fun M1 => ((x3 < 1 → (cT l G y_GL_need (gRr (d + 7) Nr) false [gI 0] X M1 K ∨ cV l G y_GL_need (gRm (d + 7)) false [gI 0] X M1 (fun M2 => (g32 (M2 c 8) → (((0 : Int) ≤ M2 c 8 ∧ M2 c 8 < 41) ∧ gsX X (X.2.2 (c + 23) (Int.toNat (M2 c 8))) ∧ (gsX X (X.2.2 c 7) ∧ (cX l G y_Ed_open (gRm (d + 7)) true [gR G (c + 21), gR G (X.2.2 (c + 23) (Int.toNat (M2 c 8))), gR G (X.2.2 c 7)] X M2 (fun X8 M7 => glX X8 c ∧ (cZ l G y_Ed_shifted (gRm (d + 7)) true [gR G (c + 21), gI x1, gI 0, gI x2, gI x3] X8 M7 (fun v11 M10 => (cT l G y_GL_land (gRr (d + 7) Nr) true [gR G c, gI v11] X8 M10 K ∨ cX l G y_GL_land (gRm (d + 7)) true [gR G c, gI v11] X8 M10 (fun X14 M13 => glX X14 c ∧ (g32 (M13 c 8) → (((0 : Int) ≤ M13 c 8 ∧ M13 c 8 < 41) ∧ gsX X14 (X14.2.2 (c + 23) (Int.toNat (M13 c 8))) ∧ (cXI l G y_Rs_follow (gRm (d + 7)) true [gR G (c + 234), gR G (X14.2.2 (c + 23) (Int.toNat (M13 c 8)))] X14 M13 (fun v20 X22 M19 => glX X22 c ∧ (K (.returned (some (gI v20))) X22 M19))))))))))))))))) ∧ (¬ x3 < 1 → ((50 < x3 → (cT l G y_GL_need (gRr (d + 7) Nr) false [gI 0] X M1 K ∨ cV l G y_GL_need (gRm (d + 7)) false [gI 0] X M1 (fun M24 => (g32 (M24 c 8) → (((0 : Int) ≤ M24 c 8 ∧ M24 c 8 < 41) ∧ gsX X (X.2.2 (c + 23) (Int.toNat (M24 c 8))) ∧ (gsX X (X.2.2 c 7) ∧ (cX l G y_Ed_open (gRm (d + 7)) true [gR G (c + 21), gR G (X.2.2 (c + 23) (Int.toNat (M24 c 8))), gR G (X.2.2 c 7)] X M24 (fun X30 M29 => glX X30 c ∧ (cZ l G y_Ed_shifted (gRm (d + 7)) true [gR G (c + 21), gI x1, gI 0, gI x2, gI x3] X30 M29 (fun v33 M32 => (cT l G y_GL_land (gRr (d + 7) Nr) true [gR G c, gI v33] X30 M32 K ∨ cX l G y_GL_land (gRm (d + 7)) true [gR G c, gI v33] X30 M32 (fun X36 M35 => glX X36 c ∧ (g32 (M35 c 8) → (((0 : Int) ≤ M35 c 8 ∧ M35 c 8 < 41) ∧ gsX X36 (X36.2.2 (c + 23) (Int.toNat (M35 c 8))) ∧ (cXI l G y_Rs_follow (gRm (d + 7)) true [gR G (c + 234), gR G (X36.2.2 (c + 23) (Int.toNat (M35 c 8)))] X36 M35 (fun v42 X44 M41 => glX X44 c ∧ (K (.returned (some (gI v42))) X44 M41))))))))))))))))) ∧ (¬ 50 < x3 → (cI l G y_GL_lines (gRm (d + 7)) false [gI x1] X M1 (fun v47 M46 => (((w32 (v47 - x2)) < x3 → (cT l G y_GL_need (gRr (d + 7) Nr) false [gI 0] X M46 K ∨ cV l G y_GL_need (gRm (d + 7)) false [gI 0] X M46 (fun M49 => (g32 (M49 c 8) → (((0 : Int) ≤ M49 c 8 ∧ M49 c 8 < 41) ∧ gsX X (X.2.2 (c + 23) (Int.toNat (M49 c 8))) ∧ (gsX X (X.2.2 c 7) ∧ (cX l G y_Ed_open (gRm (d + 7)) true [gR G (c + 21), gR G (X.2.2 (c + 23) (Int.toNat (M49 c 8))), gR G (X.2.2 c 7)] X M49 (fun X55 M54 => glX X55 c ∧ (cZ l G y_Ed_shifted (gRm (d + 7)) true [gR G (c + 21), gI x1, gI 0, gI x2, gI x3] X55 M54 (fun v58 M57 => (cT l G y_GL_land (gRr (d + 7) Nr) true [gR G c, gI v58] X55 M57 K ∨ cX l G y_GL_land (gRm (d + 7)) true [gR G c, gI v58] X55 M57 (fun X61 M60 => glX X61 c ∧ (g32 (M60 c 8) → (((0 : Int) ≤ M60 c 8 ∧ M60 c 8 < 41) ∧ gsX X61 (X61.2.2 (c + 23) (Int.toNat (M60 c 8))) ∧ (cXI l G y_Rs_follow (gRm (d + 7)) true [gR G (c + 234), gR G (X61.2.2 (c + 23) (Int.toNat (M60 c 8)))] X61 M60 (fun v67 X69 M66 => glX X69 c ∧ (K (.returned (some (gI v67))) X69 M66))))))))))))))))) ∧ (¬ (w32 (v47 - x2)) < x3 → (cT l G y_GL_need (gRr (d + 7) Nr) false [gI 1] X M46 K ∨ cV l G y_GL_need (gRm (d + 7)) false [gI 1] X M46 (fun M71 => (g32 (M71 c 8) → (((0 : Int) ≤ M71 c 8 ∧ M71 c 8 < 41) ∧ gsX X (X.2.2 (c + 23) (Int.toNat (M71 c 8))) ∧ (gsX X (X.2.2 c 7) ∧ (cX l G y_Ed_open (gRm (d + 7)) true [gR G (c + 21), gR G (X.2.2 (c + 23) (Int.toNat (M71 c 8))), gR G (X.2.2 c 7)] X M71 (fun X77 M76 => glX X77 c ∧ (cZ l G y_Ed_shifted (gRm (d + 7)) true [gR G (c + 21), gI x1, gI 0, gI x2, gI x3] X77 M76 (fun v80 M79 => (cT l G y_GL_land (gRr (d + 7) Nr) true [gR G c, gI v80] X77 M79 K ∨ cX l G y_GL_land (gRm (d + 7)) true [gR G c, gI v80] X77 M79 (fun X83 M82 => glX X83 c ∧ (g32 (M82 c 8) → (((0 : Int) ≤ M82 c 8 ∧ M82 c 8 < 41) ∧ gsX X83 (X83.2.2 (c + 23) (Int.toNat (M82 c 8))) ∧ (cXI l G y_Rs_follow (gRm (d + 7)) true [gR G (c + 234), gR G (X83.2.2 (c + 23) (Int.toNat (M82 c 8)))] X83 M82 (fun v89 X91 M88 => glX X91 c ∧ (K (.returned (some (gI v89))) X91 M88))))))))))))))))))))))))))) ∧ (¬ x2 < 0 → (cI l G y_GL_lines (gRm (d + 7)) false [gI x1] X M (fun v97 M96 => ((v97 ≤ x2 → (cT l G y_GL_need (gRr (d + 7) Nr) false [gI 0] X M96 K ∨ cV l G y_GL_need (gRm (d + 7)) false [gI 0] X M96 (fun M99 => ((x3 < 1 → (cT l G y_GL_need (gRr (d + 7) Nr) false [gI 0] X M99 K ∨ cV l G y_GL_need (gRm (d + 7)) false [gI 0] X M99 (fun M100 => (g32 (M100 c 8) → (((0 : Int) ≤ M100 c 8 ∧ M100 c 8 < 41) ∧ gsX X (X.2.2 (c + 23) (Int.toNat (M100 c 8))) ∧ (gsX X (X.2.2 c 7) ∧ (cX l G y_Ed_open (gRm (d + 7)) true [gR G (c + 21), gR G (X.2.2 (c + 23) (Int.toNat (M100 c 8))), gR G (X.2.2 c 7)] X M100 (fun X106 M105 => glX X106 c ∧ (cZ l G y_Ed_shifted (gRm (d + 7)) true [gR G (c + 21), gI x1, gI 0, gI x2, gI x3] X106 M105 (fun v109 M108 => (cT l G y_GL_land (gRr (d + 7) Nr) true [gR G c, gI v109] X106 M108 K ∨ cX l G y_GL_land (gRm (d + 7)) true [gR G c, gI v109] X106 M108 (fun X112 M111 => glX X112 c ∧ (g32 (M111 c 8) → (((0 : Int) ≤ M111 c 8 ∧ M111 c 8 < 41) ∧ gsX X112 (X112.2.2 (c + 23) (Int.toNat (M111 c 8))) ∧ (cXI l G y_Rs_follow (gRm (d + 7)) true [gR G (c + 234), gR G (X112.2.2 (c + 23) (Int.toNat (M111 c 8)))] X112 M111 (fun v118 X120 M117 => glX X120 c ∧ (K (.returned (some (gI v118))) X120 M117))))))))))))))))) ∧ (¬ x3 < 1 → ((50 < x3 → (cT l G y_GL_need (gRr (d + 7) Nr) false [gI 0] X M99 K ∨ cV l G y_GL_need (gRm (d + 7)) false [gI 0] X M99 (fun M122 => (g32 (M122 c 8) → (((0 : Int) ≤ M122 c 8 ∧ M122 c 8 < 41) ∧ gsX X (X.2.2 (c + 23) (Int.toNat (M122 c 8))) ∧ (gsX X (X.2.2 c 7) ∧ (cX l G y_Ed_open (gRm (d + 7)) true [gR G (c + 21), gR G (X.2.2 (c + 23) (Int.toNat (M122 c 8))), gR G (X.2.2 c 7)] X M122 (fun X128 M127 => glX X128 c ∧ (cZ l G y_Ed_shifted (gRm (d + 7)) true [gR G (c + 21), gI x1, gI 0, gI x2, gI x3] X128 M127 (fun v131 M130 => (cT l G y_GL_land (gRr (d + 7) Nr) true [gR G c, gI v131] X128 M130 K ∨ cX l G y_GL_land (gRm (d + 7)) true [gR G c, gI v131] X128 M130 (fun X134 M133 => glX X134 c ∧ (g32 (M133 c 8) → (((0 : Int) ≤ M133 c 8 ∧ M133 c 8 < 41) ∧ gsX X134 (X134.2.2 (c + 23) (Int.toNat (M133 c 8))) ∧ (cXI l G y_Rs_follow (gRm (d + 7)) true [gR G (c + 234), gR G (X134.2.2 (c + 23) (Int.toNat (M133 c 8)))] X134 M133 (fun v140 X142 M139 => glX X142 c ∧ (K (.returned (some (gI v140))) X142 M139))))))))))))))))) ∧ (¬ 50 < x3 → (cI l G y_GL_lines (gRm (d + 7)) false [gI x1] X M99 (fun v145 M144 => (((w32 (v145 - x2)) < x3 → (cT l G y_GL_need (gRr (d + 7) Nr) false [gI 0] X M144 K ∨ cV l G y_GL_need (gRm (d + 7)) false [gI 0] X M144 (fun M147 => (g32 (M147 c 8) → (((0 : Int) ≤ M147 c 8 ∧ M147 c 8 < 41) ∧ gsX X (X.2.2 (c + 23) (Int.toNat (M147 c 8))) ∧ (gsX X (X.2.2 c 7) ∧ (cX l G y_Ed_open (gRm (d + 7)) true [gR G (c + 21), gR G (X.2.2 (c + 23) (Int.toNat (M147 c 8))), gR G (X.2.2 c 7)] X M147 (fun X153 M152 => glX X153 c ∧ (cZ l G y_Ed_shifted (gRm (d + 7)) true [gR G (c + 21), gI x1, gI 0, gI x2, gI x3] X153 M152 (fun v156 M155 => (cT l G y_GL_land (gRr (d + 7) Nr) true [gR G c, gI v156] X153 M155 K ∨ cX l G y_GL_land (gRm (d + 7)) true [gR G c, gI v156] X153 M155 (fun X159 M158 => glX X159 c ∧ (g32 (M158 c 8) → (((0 : Int) ≤ M158 c 8 ∧ M158 c 8 < 41) ∧ gsX X159 (X159.2.2 (c + 23) (Int.toNat (M158 c 8))) ∧ (cXI l G y_Rs_follow (gRm (d + 7)) true [gR G (c + 234), gR G (X159.2.2 (c + 23) (Int.toNat (M158 c 8)))] X159 M158 (fun v165 X167 M164 => glX X167 c ∧ (K (.returned (some (gI v165))) X167 M164))))))))))))))))) ∧ (¬ (w32 (v145 - x2)) < x3 → (cT l G y_GL_need (gRr (d + 7) Nr) false [gI 1] X M144 K ∨ cV l G y_GL_need (gRm (d + 7)) false [gI 1] X M144 (fun M169 => (g32 (M169 c 8) → (((0 : Int) ≤ M169 c 8 ∧ M169 c 8 < 41) ∧ gsX X (X.2.2 (c + 23) (Int.toNat (M169 c 8))) ∧ (gsX X (X.2.2 c 7) ∧ (cX l G y_Ed_open (gRm (d + 7)) true [gR G (c + 21), gR G (X.2.2 (c + 23) (Int.toNat (M169 c 8))), gR G (X.2.2 c 7)] X M169 (fun X175 M174 => glX X175 c ∧ (cZ l G y_Ed_shifted (gRm (d + 7)) true [gR G (c + 21), gI x1, gI 0, gI x2, gI x3] X175 M174 (fun v178 M177 => (cT l G y_GL_land (gRr (d + 7) Nr) true [gR G c, gI v178] X175 M177 K ∨ cX l G y_GL_land (gRm (d + 7)) true [gR G c, gI v178] X175 M177 (fun X181 M180 => glX X181 c ∧ (g32 (M180 c 8) → (((0 : Int) ≤ M180 c 8 ∧ M180 c 8 < 41) ∧ gsX X181 (X181.2.2 (c + 23) (Int.toNat (M180 c 8))) ∧ (cXI l G y_Rs_follow (gRm (d + 7)) true [gR G (c + 234), gR G (X181.2.2 (c + 23) (Int.toNat (M180 c 8)))] X181 M180 (fun v187 X189 M186 => glX X189 c ∧ (K (.returned (some (gI v187))) X189 M186))))))))))))))))))))))))))) ∧ (¬ v97 ≤ x2 → (cT l G y_GL_need (gRr (d + 7) Nr) false [gI 1] X M96 K ∨ cV l G y_GL_need (gRm (d + 7)) false [gI 1] X M96 (fun M194 => ((x3 < 1 → (cT l G y_GL_need (gRr (d + 7) Nr) false [gI 0] X M194 K ∨ cV l G y_GL_need (gRm (d + 7)) false [gI 0] X M194 (fun M195 => (g32 (M195 c 8) → (((0 : Int) ≤ M195 c 8 ∧ M195 c 8 < 41) ∧ gsX X (X.2.2 (c + 23) (Int.toNat (M195 c 8))) ∧ (gsX X (X.2.2 c 7) ∧ (cX l G y_Ed_open (gRm (d + 7)) true [gR G (c + 21), gR G (X.2.2 (c + 23) (Int.toNat (M195 c 8))), gR G (X.2.2 c 7)] X M195 (fun X201 M200 => glX X201 c ∧ (cZ l G y_Ed_shifted (gRm (d + 7)) true [gR G (c + 21), gI x1, gI 0, gI x2, gI x3] X201 M200 (fun v204 M203 => (cT l G y_GL_land (gRr (d + 7) Nr) true [gR G c, gI v204] X201 M203 K ∨ cX l G y_GL_land (gRm (d + 7)) true [gR G c, gI v204] X201 M203 (fun X207 M206 => glX X207 c ∧ (g32 (M206 c 8) → (((0 : Int) ≤ M206 c 8 ∧ M206 c 8 < 41) ∧ gsX X207 (X207.2.2 (c + 23) (Int.toNat (M206 c 8))) ∧ (cXI l G y_Rs_follow (gRm (d + 7)) true [gR G (c + 234), gR G (X207.2.2 (c + 23) (Int.toNat (M206 c 8)))] X207 M206 (fun v213 X215 M212 => glX X215 c ∧ (K (.returned (some (gI v213))) X215 M212))))))))))))))))) ∧ (¬ x3 < 1 → ((50 < x3 → (cT l G y_GL_need (gRr (d + 7) Nr) false [gI 0] X M194 K ∨ cV l G y_GL_need (gRm (d + 7)) false [gI 0] X M194 (fun M217 => (g32 (M217 c 8) → (((0 : Int) ≤ M217 c 8 ∧ M217 c 8 < 41) ∧ gsX X (X.2.2 (c + 23) (Int.toNat (M217 c 8))) ∧ (gsX X (X.2.2 c 7) ∧ (cX l G y_Ed_open (gRm (d + 7)) true [gR G (c + 21), gR G (X.2.2 (c + 23) (Int.toNat (M217 c 8))), gR G (X.2.2 c 7)] X M217 (fun X223 M222 => glX X223 c ∧ (cZ l G y_Ed_shifted (gRm (d + 7)) true [gR G (c + 21), gI x1, gI 0, gI x2, gI x3] X223 M222 (fun v226 M225 => (cT l G y_GL_land (gRr (d + 7) Nr) true [gR G c, gI v226] X223 M225 K ∨ cX l G y_GL_land (gRm (d + 7)) true [gR G c, gI v226] X223 M225 (fun X229 M228 => glX X229 c ∧ (g32 (M228 c 8) → (((0 : Int) ≤ M228 c 8 ∧ M228 c 8 < 41) ∧ gsX X229 (X229.2.2 (c + 23) (Int.toNat (M228 c 8))) ∧ (cXI l G y_Rs_follow (gRm (d + 7)) true [gR G (c + 234), gR G (X229.2.2 (c + 23) (Int.toNat (M228 c 8)))] X229 M228 (fun v235 X237 M234 => glX X237 c ∧ (K (.returned (some (gI v235))) X237 M234))))))))))))))))) ∧ (¬ 50 < x3 → (cI l G y_GL_lines (gRm (d + 7)) false [gI x1] X M194 (fun v240 M239 => (((w32 (v240 - x2)) < x3 → (cT l G y_GL_need (gRr (d + 7) Nr) false [gI 0] X M239 K ∨ cV l G y_GL_need (gRm (d + 7)) false [gI 0] X M239 (fun M242 => (g32 (M242 c 8) → (((0 : Int) ≤ M242 c 8 ∧ M242 c 8 < 41) ∧ gsX X (X.2.2 (c + 23) (Int.toNat (M242 c 8))) ∧ (gsX X (X.2.2 c 7) ∧ (cX l G y_Ed_open (gRm (d + 7)) true [gR G (c + 21), gR G (X.2.2 (c + 23) (Int.toNat (M242 c 8))), gR G (X.2.2 c 7)] X M242 (fun X248 M247 => glX X248 c ∧ (cZ l G y_Ed_shifted (gRm (d + 7)) true [gR G (c + 21), gI x1, gI 0, gI x2, gI x3] X248 M247 (fun v251 M250 => (cT l G y_GL_land (gRr (d + 7) Nr) true [gR G c, gI v251] X248 M250 K ∨ cX l G y_GL_land (gRm (d + 7)) true [gR G c, gI v251] X248 M250 (fun X254 M253 => glX X254 c ∧ (g32 (M253 c 8) → (((0 : Int) ≤ M253 c 8 ∧ M253 c 8 < 41) ∧ gsX X254 (X254.2.2 (c + 23) (Int.toNat (M253 c 8))) ∧ (cXI l G y_Rs_follow (gRm (d + 7)) true [gR G (c + 234), gR G (X254.2.2 (c + 23) (Int.toNat (M253 c 8)))] X254 M253 (fun v260 X262 M259 => glX X262 c ∧ (K (.returned (some (gI v260))) X262 M259))))))))))))))))) ∧ (¬ (w32 (v240 - x2)) < x3 → (cT l G y_GL_need (gRr (d + 7) Nr) false [gI 1] X M239 K ∨ cV l G y_GL_need (gRm (d + 7)) false [gI 1] X M239 (fun M264 => (g32 (M264 c 8) → (((0 : Int) ≤ M264 c 8 ∧ M264 c 8 < 41) ∧ gsX X (X.2.2 (c + 23) (Int.toNat (M264 c 8))) ∧ (gsX X (X.2.2 c 7) ∧ (cX l G y_Ed_open (gRm (d + 7)) true [gR G (c + 21), gR G (X.2.2 (c + 23) (Int.toNat (M264 c 8))), gR G (X.2.2 c 7)] X M264 (fun X270 M269 => glX X270 c ∧ (cZ l G y_Ed_shifted (gRm (d + 7)) true [gR G (c + 21), gI x1, gI 0, gI x2, gI x3] X270 M269 (fun v273 M272 => (cT l G y_GL_land (gRr (d + 7) Nr) true [gR G c, gI v273] X270 M272 K ∨ cX l G y_GL_land (gRm (d + 7)) true [gR G c, gI v273] X270 M272 (fun X276 M275 => glX X276 c ∧ (g32 (M275 c 8) → (((0 : Int) ≤ M275 c 8 ∧ M275 c 8 < 41) ∧ gsX X276 (X276.2.2 (c + 23) (Int.toNat (M275 c 8))) ∧ (cXI l G y_Rs_follow (gRm (d + 7)) true [gR G (c + 234), gR G (X276.2.2 (c + 23) (Int.toNat (M275 c 8)))] X276 M275 (fun v282 X284 M281 => glX X284 c ∧ (K (.returned (some (gI v282))) X284 M281)))))))))))))))))))))))))))))))) : wp l G y_GL_erase (gRr (d + 8) Nr) true K false 0 [.val (gR G c), .val (gI x1), .val (gI x2), .val (gI x3)] [] X M 0 0 := by
  refine wp_iload_n d_GL_erase_0 rfl rfl ?_
  refine xz_lt (tgt := 16) d_GL_erase_1 (by decide) (w32_id hx2) (fun h290 => ?_) (fun h290 => ?_)
  · have T := T.1 h290
    refine wp_iconst d_GL_erase_16 ?_
    rcases T with T | T
    · exact ytS (by decide) (As := [gI 0]) (st := []) d_GL_erase_17 ca_GL_need ml_GL_69 sm_GL_need  rfl (by decide) (by decide) rfl (fun _ => rfl) (fun h => by cases h) T
    refine ycS_V (md' := false) (As := [gI 0]) (st := []) d_GL_erase_17 ca_GL_need ml_GL_69 sm_GL_need  rfl (by decide) (by decide) rfl id id T (fun M1 T => ?_)
    refine wp_iload_n d_GL_erase_20 rfl rfl ?_
    refine wp_iconst d_GL_erase_21 ?_
    refine xi_lt (tgt := 45) d_GL_erase_22 (by decide) (w32_id hx3) (w32_id (g32_c (x := 1) rfl)) (fun h95 => ?_) (fun h95 => ?_)
    · have T := T.1 h95
      refine wp_iconst d_GL_erase_45 ?_
      rcases T with T | T
      · exact ytS (by decide) (As := [gI 0]) (st := []) d_GL_erase_46 ca_GL_need ml_GL_69 sm_GL_need  rfl (by decide) (by decide) rfl (fun _ => rfl) (fun h => by cases h) T
      refine ycS_V (md' := false) (As := [gI 0]) (st := []) d_GL_erase_46 ca_GL_need ml_GL_69 sm_GL_need  rfl (by decide) (by decide) rfl id id T (fun M2 T => ?_)
      refine wp_aload_n d_GL_erase_49 rfl rfl (g_nz (gl_1 hX 0)) ?_
      refine xgetR d_GL_erase_50 gc_GL f_GL_34.1 f_GL_34.2.1 f_GL_34.2.2.1 (gl_1 hX 0) (gl_2 hX (a := 0) (by decide)) (gl_s0 hX) f_GL_34.2.2.2.2.1 (gl_f0 hX 23 rfl) ?_
      refine wp_aload_n d_GL_erase_53 rfl rfl (g_nz (gl_1 hX 0)) ?_
      refine xgetR d_GL_erase_54 gc_GL f_GL_40.1 f_GL_40.2.1 f_GL_40.2.2.1 (gl_1 hX 0) (gl_2 hX (a := 0) (by decide)) (gl_s0 hX) f_GL_40.2.2.2.2.1 (gl_f0 hX 26 rfl) ?_
      refine wp_aload_n d_GL_erase_57 rfl rfl (g_nz (gl_1 hX 0)) ?_
      refine xgetI d_GL_erase_58 gc_GL f_GL_81.1 f_GL_81.2.1 f_GL_81.2.2.1 (gl_1 hX 0) (gl_2 hX (a := 0) (by decide)) (gl_s0 hX) f_GL_81.2.2.2.2.1 (fun h3 => ?_)
      have T := T h3
      have h4 := T.1
      have q5 := T.2.1
      refine xaald d_GL_erase_61 (Or.inr rfl) (gl_1 hX 23) (gl_2 hX (a := 23) (by decide)) (gl_s hX 23 rfl) (g32_n h4 (by decide)) h4.1 h4.2 rfl ?_
      have T := T.2.2
      refine wp_aload_n d_GL_erase_62 rfl rfl (g_nz (gl_1 hX 0)) ?_
      have q6 := T.1
      have T := T.2
      refine xgetR d_GL_erase_63 gc_GL f_GL_45.1 f_GL_45.2.1 f_GL_45.2.2.1 (gl_1 hX 0) (gl_2 hX (a := 0) (by decide)) (gl_s0 hX) f_GL_45.2.2.2.2.1 rfl ?_
      refine yxV_V (md' := true) (As := [gR G (X.2.2 (c + 23) (Int.toNat (M2 c 8))), gR G (X.2.2 c 7)]) (st := []) d_GL_erase_66 ca_Ed_open ml_GL_84 im_Ed_open se_Ed_open gc_Ed (gl_1 hX 21) (gl_2 hX (a := 21) (by decide)) (gl_s hX 21 rfl) rfl (by decide) (by decide) rfl (fun _ => rfl) (fun _ => rfl) T (fun X8 M7 T => ?_)
      obtain ⟨hX9, T⟩ := T
      refine wp_aload_n d_GL_erase_69 rfl rfl (g_nz (gl_1 hX9 0)) ?_
      refine wp_aload_n d_GL_erase_70 rfl rfl (g_nz (gl_1 hX9 0)) ?_
      refine xgetR d_GL_erase_71 gc_GL f_GL_34.1 f_GL_34.2.1 f_GL_34.2.2.1 (gl_1 hX9 0) (gl_2 hX9 (a := 0) (by decide)) (gl_s0 hX9) f_GL_34.2.2.2.2.1 (gl_f0 hX9 23 rfl) ?_
      refine wp_iload_n d_GL_erase_74 rfl rfl ?_
      refine wp_iconst d_GL_erase_75 ?_
      refine wp_iload_n d_GL_erase_76 rfl rfl ?_
      refine wp_iload_n d_GL_erase_77 rfl rfl ?_
      refine ycV_Z (md' := true) (As := [gI x1, gI 0, gI x2, gI x3]) (st := [gR G c]) d_GL_erase_78 ca_Ed_shifted ml_GL_111 im_Ed_shifted se_Ed_shifted gc_Ed (gl_1 hX9 21) (gl_2 hX9 (a := 21) (by decide)) (gl_s hX9 21 rfl) rfl (by decide) (by simp only [List.map, gR_cat, gI_cat, gL_cat, List.sum_cons, List.sum_nil]; decide) rfl (fun _ => rfl) (fun _ => rfl) T (fun v11 M10 h12 T => ?_)
      rcases T with T | T
      · exact ytV (by decide) (As := [gI v11]) (st := []) d_GL_erase_81 ca_GL_land ml_GL_96 im_GL_land se_GL_land gc_GL (gl_1 hX9 0) (gl_2 hX9 (a := 0) (by decide)) (gl_s0 hX9) rfl (by decide) (by decide) rfl (fun _ => rfl) (fun _ => rfl) T
      refine yxV_V (md' := true) (As := [gI v11]) (st := []) d_GL_erase_81 ca_GL_land ml_GL_96 im_GL_land se_GL_land gc_GL (gl_1 hX9 0) (gl_2 hX9 (a := 0) (by decide)) (gl_s0 hX9) rfl (by decide) (by decide) rfl (fun _ => rfl) (fun _ => rfl) T (fun X14 M13 T => ?_)
      obtain ⟨hX15, T⟩ := T
      refine wp_aload_n d_GL_erase_84 rfl rfl (g_nz (gl_1 hX15 0)) ?_
      refine xgetR d_GL_erase_85 gc_GL f_GL_54.1 f_GL_54.2.1 f_GL_54.2.2.1 (gl_1 hX15 0) (gl_2 hX15 (a := 0) (by decide)) (gl_s0 hX15) f_GL_54.2.2.2.2.1 (gl_f0 hX15 27 rfl) ?_
      refine wp_aload_n d_GL_erase_88 rfl rfl (g_nz (gl_1 hX15 0)) ?_
      refine xgetR d_GL_erase_89 gc_GL f_GL_40.1 f_GL_40.2.1 f_GL_40.2.2.1 (gl_1 hX15 0) (gl_2 hX15 (a := 0) (by decide)) (gl_s0 hX15) f_GL_40.2.2.2.2.1 (gl_f0 hX15 26 rfl) ?_
      refine wp_aload_n d_GL_erase_92 rfl rfl (g_nz (gl_1 hX15 0)) ?_
      refine xgetI d_GL_erase_93 gc_GL f_GL_81.1 f_GL_81.2.1 f_GL_81.2.2.1 (gl_1 hX15 0) (gl_2 hX15 (a := 0) (by decide)) (gl_s0 hX15) f_GL_81.2.2.2.2.1 (fun h16 => ?_)
      have T := T h16
      have h17 := T.1
      have q18 := T.2.1
      refine xaald d_GL_erase_96 (Or.inr rfl) (gl_1 hX15 23) (gl_2 hX15 (a := 23) (by decide)) (gl_s hX15 23 rfl) (g32_n h17 (by decide)) h17.1 h17.2 rfl ?_
      have T := T.2.2
      refine yxV_I (md' := true) (As := [gR G (X14.2.2 (c + 23) (Int.toNat (M13 c 8)))]) (st := []) d_GL_erase_97 ca_Rs_follow ml_GL_99 im_Rs_follow se_Rs_follow gc_Rs (gl_1 hX15 234) (gl_2 hX15 (a := 234) (by decide)) (gl_s hX15 24 rfl) rfl (by decide) (by decide) rfl (fun _ => rfl) (fun _ => rfl) T (fun v20 X22 M19 h21 T => ?_)
      obtain ⟨hX23, T⟩ := T
      exact wp_st (st' := [gI v20]) (by rfl) (wp_ireturn d_GL_erase_100 rfl (fun _ => rfl) (Nat.zero_le _) (Nat.zero_le _) T)
    · have T := T.2 h95
      refine wp_iload_n d_GL_erase_25 rfl rfl ?_
      refine wp_bipush d_GL_erase_26 ⟨by decide, by decide⟩ ?_
      refine xi_gt (tgt := 45) d_GL_erase_28 (by decide) (w32_id hx3) (w32_id (g32_c (x := 50) rfl)) (fun h94 => ?_) (fun h94 => ?_)
      · have T := T.1 h94
        refine wp_iconst d_GL_erase_45 ?_
        rcases T with T | T
        · exact ytS (by decide) (As := [gI 0]) (st := []) d_GL_erase_46 ca_GL_need ml_GL_69 sm_GL_need  rfl (by decide) (by decide) rfl (fun _ => rfl) (fun h => by cases h) T
        refine ycS_V (md' := false) (As := [gI 0]) (st := []) d_GL_erase_46 ca_GL_need ml_GL_69 sm_GL_need  rfl (by decide) (by decide) rfl id id T (fun M24 T => ?_)
        refine wp_aload_n d_GL_erase_49 rfl rfl (g_nz (gl_1 hX 0)) ?_
        refine xgetR d_GL_erase_50 gc_GL f_GL_34.1 f_GL_34.2.1 f_GL_34.2.2.1 (gl_1 hX 0) (gl_2 hX (a := 0) (by decide)) (gl_s0 hX) f_GL_34.2.2.2.2.1 (gl_f0 hX 23 rfl) ?_
        refine wp_aload_n d_GL_erase_53 rfl rfl (g_nz (gl_1 hX 0)) ?_
        refine xgetR d_GL_erase_54 gc_GL f_GL_40.1 f_GL_40.2.1 f_GL_40.2.2.1 (gl_1 hX 0) (gl_2 hX (a := 0) (by decide)) (gl_s0 hX) f_GL_40.2.2.2.2.1 (gl_f0 hX 26 rfl) ?_
        refine wp_aload_n d_GL_erase_57 rfl rfl (g_nz (gl_1 hX 0)) ?_
        refine xgetI d_GL_erase_58 gc_GL f_GL_81.1 f_GL_81.2.1 f_GL_81.2.2.1 (gl_1 hX 0) (gl_2 hX (a := 0) (by decide)) (gl_s0 hX) f_GL_81.2.2.2.2.1 (fun h25 => ?_)
        have T := T h25
        have h26 := T.1
        have q27 := T.2.1
        refine xaald d_GL_erase_61 (Or.inr rfl) (gl_1 hX 23) (gl_2 hX (a := 23) (by decide)) (gl_s hX 23 rfl) (g32_n h26 (by decide)) h26.1 h26.2 rfl ?_
        have T := T.2.2
        refine wp_aload_n d_GL_erase_62 rfl rfl (g_nz (gl_1 hX 0)) ?_
        have q28 := T.1
        have T := T.2
        refine xgetR d_GL_erase_63 gc_GL f_GL_45.1 f_GL_45.2.1 f_GL_45.2.2.1 (gl_1 hX 0) (gl_2 hX (a := 0) (by decide)) (gl_s0 hX) f_GL_45.2.2.2.2.1 rfl ?_
        refine yxV_V (md' := true) (As := [gR G (X.2.2 (c + 23) (Int.toNat (M24 c 8))), gR G (X.2.2 c 7)]) (st := []) d_GL_erase_66 ca_Ed_open ml_GL_84 im_Ed_open se_Ed_open gc_Ed (gl_1 hX 21) (gl_2 hX (a := 21) (by decide)) (gl_s hX 21 rfl) rfl (by decide) (by decide) rfl (fun _ => rfl) (fun _ => rfl) T (fun X30 M29 T => ?_)
        obtain ⟨hX31, T⟩ := T
        refine wp_aload_n d_GL_erase_69 rfl rfl (g_nz (gl_1 hX31 0)) ?_
        refine wp_aload_n d_GL_erase_70 rfl rfl (g_nz (gl_1 hX31 0)) ?_
        refine xgetR d_GL_erase_71 gc_GL f_GL_34.1 f_GL_34.2.1 f_GL_34.2.2.1 (gl_1 hX31 0) (gl_2 hX31 (a := 0) (by decide)) (gl_s0 hX31) f_GL_34.2.2.2.2.1 (gl_f0 hX31 23 rfl) ?_
        refine wp_iload_n d_GL_erase_74 rfl rfl ?_
        refine wp_iconst d_GL_erase_75 ?_
        refine wp_iload_n d_GL_erase_76 rfl rfl ?_
        refine wp_iload_n d_GL_erase_77 rfl rfl ?_
        refine ycV_Z (md' := true) (As := [gI x1, gI 0, gI x2, gI x3]) (st := [gR G c]) d_GL_erase_78 ca_Ed_shifted ml_GL_111 im_Ed_shifted se_Ed_shifted gc_Ed (gl_1 hX31 21) (gl_2 hX31 (a := 21) (by decide)) (gl_s hX31 21 rfl) rfl (by decide) (by simp only [List.map, gR_cat, gI_cat, gL_cat, List.sum_cons, List.sum_nil]; decide) rfl (fun _ => rfl) (fun _ => rfl) T (fun v33 M32 h34 T => ?_)
        rcases T with T | T
        · exact ytV (by decide) (As := [gI v33]) (st := []) d_GL_erase_81 ca_GL_land ml_GL_96 im_GL_land se_GL_land gc_GL (gl_1 hX31 0) (gl_2 hX31 (a := 0) (by decide)) (gl_s0 hX31) rfl (by decide) (by decide) rfl (fun _ => rfl) (fun _ => rfl) T
        refine yxV_V (md' := true) (As := [gI v33]) (st := []) d_GL_erase_81 ca_GL_land ml_GL_96 im_GL_land se_GL_land gc_GL (gl_1 hX31 0) (gl_2 hX31 (a := 0) (by decide)) (gl_s0 hX31) rfl (by decide) (by decide) rfl (fun _ => rfl) (fun _ => rfl) T (fun X36 M35 T => ?_)
        obtain ⟨hX37, T⟩ := T
        refine wp_aload_n d_GL_erase_84 rfl rfl (g_nz (gl_1 hX37 0)) ?_
        refine xgetR d_GL_erase_85 gc_GL f_GL_54.1 f_GL_54.2.1 f_GL_54.2.2.1 (gl_1 hX37 0) (gl_2 hX37 (a := 0) (by decide)) (gl_s0 hX37) f_GL_54.2.2.2.2.1 (gl_f0 hX37 27 rfl) ?_
        refine wp_aload_n d_GL_erase_88 rfl rfl (g_nz (gl_1 hX37 0)) ?_
        refine xgetR d_GL_erase_89 gc_GL f_GL_40.1 f_GL_40.2.1 f_GL_40.2.2.1 (gl_1 hX37 0) (gl_2 hX37 (a := 0) (by decide)) (gl_s0 hX37) f_GL_40.2.2.2.2.1 (gl_f0 hX37 26 rfl) ?_
        refine wp_aload_n d_GL_erase_92 rfl rfl (g_nz (gl_1 hX37 0)) ?_
        refine xgetI d_GL_erase_93 gc_GL f_GL_81.1 f_GL_81.2.1 f_GL_81.2.2.1 (gl_1 hX37 0) (gl_2 hX37 (a := 0) (by decide)) (gl_s0 hX37) f_GL_81.2.2.2.2.1 (fun h38 => ?_)
        have T := T h38
        have h39 := T.1
        have q40 := T.2.1
        refine xaald d_GL_erase_96 (Or.inr rfl) (gl_1 hX37 23) (gl_2 hX37 (a := 23) (by decide)) (gl_s hX37 23 rfl) (g32_n h39 (by decide)) h39.1 h39.2 rfl ?_
        have T := T.2.2
        refine yxV_I (md' := true) (As := [gR G (X36.2.2 (c + 23) (Int.toNat (M35 c 8)))]) (st := []) d_GL_erase_97 ca_Rs_follow ml_GL_99 im_Rs_follow se_Rs_follow gc_Rs (gl_1 hX37 234) (gl_2 hX37 (a := 234) (by decide)) (gl_s hX37 24 rfl) rfl (by decide) (by decide) rfl (fun _ => rfl) (fun _ => rfl) T (fun v42 X44 M41 h43 T => ?_)
        obtain ⟨hX45, T⟩ := T
        exact wp_st (st' := [gI v42]) (by rfl) (wp_ireturn d_GL_erase_100 rfl (fun _ => rfl) (Nat.zero_le _) (Nat.zero_le _) T)
      · have T := T.2 h94
        refine wp_iload_n d_GL_erase_31 rfl rfl ?_
        refine wp_iload_n d_GL_erase_32 rfl rfl ?_
        refine ycS_I (md' := false) (As := [gI x1]) (st := [gI x3]) d_GL_erase_33 ca_GL_lines ml_GL_107 sm_GL_lines rfl (by decide) (by simp only [List.map, gR_cat, gI_cat, gL_cat, List.sum_cons, List.sum_nil]; decide) rfl id id T (fun v47 M46 h48 T => ?_)
        refine wp_iload_n d_GL_erase_36 rfl rfl ?_
        refine wp_isub d_GL_erase_37 ?_
        refine xi_gt (tgt := 45) d_GL_erase_38 (by decide) (w32_id hx3) rfl (fun h93 => ?_) (fun h93 => ?_)
        · have T := T.1 h93
          refine wp_iconst d_GL_erase_45 ?_
          rcases T with T | T
          · exact ytS (by decide) (As := [gI 0]) (st := []) d_GL_erase_46 ca_GL_need ml_GL_69 sm_GL_need  rfl (by decide) (by decide) rfl (fun _ => rfl) (fun h => by cases h) T
          refine ycS_V (md' := false) (As := [gI 0]) (st := []) d_GL_erase_46 ca_GL_need ml_GL_69 sm_GL_need  rfl (by decide) (by decide) rfl id id T (fun M49 T => ?_)
          refine wp_aload_n d_GL_erase_49 rfl rfl (g_nz (gl_1 hX 0)) ?_
          refine xgetR d_GL_erase_50 gc_GL f_GL_34.1 f_GL_34.2.1 f_GL_34.2.2.1 (gl_1 hX 0) (gl_2 hX (a := 0) (by decide)) (gl_s0 hX) f_GL_34.2.2.2.2.1 (gl_f0 hX 23 rfl) ?_
          refine wp_aload_n d_GL_erase_53 rfl rfl (g_nz (gl_1 hX 0)) ?_
          refine xgetR d_GL_erase_54 gc_GL f_GL_40.1 f_GL_40.2.1 f_GL_40.2.2.1 (gl_1 hX 0) (gl_2 hX (a := 0) (by decide)) (gl_s0 hX) f_GL_40.2.2.2.2.1 (gl_f0 hX 26 rfl) ?_
          refine wp_aload_n d_GL_erase_57 rfl rfl (g_nz (gl_1 hX 0)) ?_
          refine xgetI d_GL_erase_58 gc_GL f_GL_81.1 f_GL_81.2.1 f_GL_81.2.2.1 (gl_1 hX 0) (gl_2 hX (a := 0) (by decide)) (gl_s0 hX) f_GL_81.2.2.2.2.1 (fun h50 => ?_)
          have T := T h50
          have h51 := T.1
          have q52 := T.2.1
          refine xaald d_GL_erase_61 (Or.inr rfl) (gl_1 hX 23) (gl_2 hX (a := 23) (by decide)) (gl_s hX 23 rfl) (g32_n h51 (by decide)) h51.1 h51.2 rfl ?_
          have T := T.2.2
          refine wp_aload_n d_GL_erase_62 rfl rfl (g_nz (gl_1 hX 0)) ?_
          have q53 := T.1
          have T := T.2
          refine xgetR d_GL_erase_63 gc_GL f_GL_45.1 f_GL_45.2.1 f_GL_45.2.2.1 (gl_1 hX 0) (gl_2 hX (a := 0) (by decide)) (gl_s0 hX) f_GL_45.2.2.2.2.1 rfl ?_
          refine yxV_V (md' := true) (As := [gR G (X.2.2 (c + 23) (Int.toNat (M49 c 8))), gR G (X.2.2 c 7)]) (st := []) d_GL_erase_66 ca_Ed_open ml_GL_84 im_Ed_open se_Ed_open gc_Ed (gl_1 hX 21) (gl_2 hX (a := 21) (by decide)) (gl_s hX 21 rfl) rfl (by decide) (by decide) rfl (fun _ => rfl) (fun _ => rfl) T (fun X55 M54 T => ?_)
          obtain ⟨hX56, T⟩ := T
          refine wp_aload_n d_GL_erase_69 rfl rfl (g_nz (gl_1 hX56 0)) ?_
          refine wp_aload_n d_GL_erase_70 rfl rfl (g_nz (gl_1 hX56 0)) ?_
          refine xgetR d_GL_erase_71 gc_GL f_GL_34.1 f_GL_34.2.1 f_GL_34.2.2.1 (gl_1 hX56 0) (gl_2 hX56 (a := 0) (by decide)) (gl_s0 hX56) f_GL_34.2.2.2.2.1 (gl_f0 hX56 23 rfl) ?_
          refine wp_iload_n d_GL_erase_74 rfl rfl ?_
          refine wp_iconst d_GL_erase_75 ?_
          refine wp_iload_n d_GL_erase_76 rfl rfl ?_
          refine wp_iload_n d_GL_erase_77 rfl rfl ?_
          refine ycV_Z (md' := true) (As := [gI x1, gI 0, gI x2, gI x3]) (st := [gR G c]) d_GL_erase_78 ca_Ed_shifted ml_GL_111 im_Ed_shifted se_Ed_shifted gc_Ed (gl_1 hX56 21) (gl_2 hX56 (a := 21) (by decide)) (gl_s hX56 21 rfl) rfl (by decide) (by simp only [List.map, gR_cat, gI_cat, gL_cat, List.sum_cons, List.sum_nil]; decide) rfl (fun _ => rfl) (fun _ => rfl) T (fun v58 M57 h59 T => ?_)
          rcases T with T | T
          · exact ytV (by decide) (As := [gI v58]) (st := []) d_GL_erase_81 ca_GL_land ml_GL_96 im_GL_land se_GL_land gc_GL (gl_1 hX56 0) (gl_2 hX56 (a := 0) (by decide)) (gl_s0 hX56) rfl (by decide) (by decide) rfl (fun _ => rfl) (fun _ => rfl) T
          refine yxV_V (md' := true) (As := [gI v58]) (st := []) d_GL_erase_81 ca_GL_land ml_GL_96 im_GL_land se_GL_land gc_GL (gl_1 hX56 0) (gl_2 hX56 (a := 0) (by decide)) (gl_s0 hX56) rfl (by decide) (by decide) rfl (fun _ => rfl) (fun _ => rfl) T (fun X61 M60 T => ?_)
          obtain ⟨hX62, T⟩ := T
          refine wp_aload_n d_GL_erase_84 rfl rfl (g_nz (gl_1 hX62 0)) ?_
          refine xgetR d_GL_erase_85 gc_GL f_GL_54.1 f_GL_54.2.1 f_GL_54.2.2.1 (gl_1 hX62 0) (gl_2 hX62 (a := 0) (by decide)) (gl_s0 hX62) f_GL_54.2.2.2.2.1 (gl_f0 hX62 27 rfl) ?_
          refine wp_aload_n d_GL_erase_88 rfl rfl (g_nz (gl_1 hX62 0)) ?_
          refine xgetR d_GL_erase_89 gc_GL f_GL_40.1 f_GL_40.2.1 f_GL_40.2.2.1 (gl_1 hX62 0) (gl_2 hX62 (a := 0) (by decide)) (gl_s0 hX62) f_GL_40.2.2.2.2.1 (gl_f0 hX62 26 rfl) ?_
          refine wp_aload_n d_GL_erase_92 rfl rfl (g_nz (gl_1 hX62 0)) ?_
          refine xgetI d_GL_erase_93 gc_GL f_GL_81.1 f_GL_81.2.1 f_GL_81.2.2.1 (gl_1 hX62 0) (gl_2 hX62 (a := 0) (by decide)) (gl_s0 hX62) f_GL_81.2.2.2.2.1 (fun h63 => ?_)
          have T := T h63
          have h64 := T.1
          have q65 := T.2.1
          refine xaald d_GL_erase_96 (Or.inr rfl) (gl_1 hX62 23) (gl_2 hX62 (a := 23) (by decide)) (gl_s hX62 23 rfl) (g32_n h64 (by decide)) h64.1 h64.2 rfl ?_
          have T := T.2.2
          refine yxV_I (md' := true) (As := [gR G (X61.2.2 (c + 23) (Int.toNat (M60 c 8)))]) (st := []) d_GL_erase_97 ca_Rs_follow ml_GL_99 im_Rs_follow se_Rs_follow gc_Rs (gl_1 hX62 234) (gl_2 hX62 (a := 234) (by decide)) (gl_s hX62 24 rfl) rfl (by decide) (by decide) rfl (fun _ => rfl) (fun _ => rfl) T (fun v67 X69 M66 h68 T => ?_)
          obtain ⟨hX70, T⟩ := T
          exact wp_st (st' := [gI v67]) (by rfl) (wp_ireturn d_GL_erase_100 rfl (fun _ => rfl) (Nat.zero_le _) (Nat.zero_le _) T)
        · have T := T.2 h93
          refine wp_iconst d_GL_erase_41 ?_
          refine wp_goto (tgt := 46) d_GL_erase_42 (by decide) ?_
          rcases T with T | T
          · exact ytS (by decide) (As := [gI 1]) (st := []) d_GL_erase_46 ca_GL_need ml_GL_69 sm_GL_need  rfl (by decide) (by decide) rfl (fun _ => rfl) (fun h => by cases h) T
          refine ycS_V (md' := false) (As := [gI 1]) (st := []) d_GL_erase_46 ca_GL_need ml_GL_69 sm_GL_need  rfl (by decide) (by decide) rfl id id T (fun M71 T => ?_)
          refine wp_aload_n d_GL_erase_49 rfl rfl (g_nz (gl_1 hX 0)) ?_
          refine xgetR d_GL_erase_50 gc_GL f_GL_34.1 f_GL_34.2.1 f_GL_34.2.2.1 (gl_1 hX 0) (gl_2 hX (a := 0) (by decide)) (gl_s0 hX) f_GL_34.2.2.2.2.1 (gl_f0 hX 23 rfl) ?_
          refine wp_aload_n d_GL_erase_53 rfl rfl (g_nz (gl_1 hX 0)) ?_
          refine xgetR d_GL_erase_54 gc_GL f_GL_40.1 f_GL_40.2.1 f_GL_40.2.2.1 (gl_1 hX 0) (gl_2 hX (a := 0) (by decide)) (gl_s0 hX) f_GL_40.2.2.2.2.1 (gl_f0 hX 26 rfl) ?_
          refine wp_aload_n d_GL_erase_57 rfl rfl (g_nz (gl_1 hX 0)) ?_
          refine xgetI d_GL_erase_58 gc_GL f_GL_81.1 f_GL_81.2.1 f_GL_81.2.2.1 (gl_1 hX 0) (gl_2 hX (a := 0) (by decide)) (gl_s0 hX) f_GL_81.2.2.2.2.1 (fun h72 => ?_)
          have T := T h72
          have h73 := T.1
          have q74 := T.2.1
          refine xaald d_GL_erase_61 (Or.inr rfl) (gl_1 hX 23) (gl_2 hX (a := 23) (by decide)) (gl_s hX 23 rfl) (g32_n h73 (by decide)) h73.1 h73.2 rfl ?_
          have T := T.2.2
          refine wp_aload_n d_GL_erase_62 rfl rfl (g_nz (gl_1 hX 0)) ?_
          have q75 := T.1
          have T := T.2
          refine xgetR d_GL_erase_63 gc_GL f_GL_45.1 f_GL_45.2.1 f_GL_45.2.2.1 (gl_1 hX 0) (gl_2 hX (a := 0) (by decide)) (gl_s0 hX) f_GL_45.2.2.2.2.1 rfl ?_
          refine yxV_V (md' := true) (As := [gR G (X.2.2 (c + 23) (Int.toNat (M71 c 8))), gR G (X.2.2 c 7)]) (st := []) d_GL_erase_66 ca_Ed_open ml_GL_84 im_Ed_open se_Ed_open gc_Ed (gl_1 hX 21) (gl_2 hX (a := 21) (by decide)) (gl_s hX 21 rfl) rfl (by decide) (by decide) rfl (fun _ => rfl) (fun _ => rfl) T (fun X77 M76 T => ?_)
          obtain ⟨hX78, T⟩ := T
          refine wp_aload_n d_GL_erase_69 rfl rfl (g_nz (gl_1 hX78 0)) ?_
          refine wp_aload_n d_GL_erase_70 rfl rfl (g_nz (gl_1 hX78 0)) ?_
          refine xgetR d_GL_erase_71 gc_GL f_GL_34.1 f_GL_34.2.1 f_GL_34.2.2.1 (gl_1 hX78 0) (gl_2 hX78 (a := 0) (by decide)) (gl_s0 hX78) f_GL_34.2.2.2.2.1 (gl_f0 hX78 23 rfl) ?_
          refine wp_iload_n d_GL_erase_74 rfl rfl ?_
          refine wp_iconst d_GL_erase_75 ?_
          refine wp_iload_n d_GL_erase_76 rfl rfl ?_
          refine wp_iload_n d_GL_erase_77 rfl rfl ?_
          refine ycV_Z (md' := true) (As := [gI x1, gI 0, gI x2, gI x3]) (st := [gR G c]) d_GL_erase_78 ca_Ed_shifted ml_GL_111 im_Ed_shifted se_Ed_shifted gc_Ed (gl_1 hX78 21) (gl_2 hX78 (a := 21) (by decide)) (gl_s hX78 21 rfl) rfl (by decide) (by simp only [List.map, gR_cat, gI_cat, gL_cat, List.sum_cons, List.sum_nil]; decide) rfl (fun _ => rfl) (fun _ => rfl) T (fun v80 M79 h81 T => ?_)
          rcases T with T | T
          · exact ytV (by decide) (As := [gI v80]) (st := []) d_GL_erase_81 ca_GL_land ml_GL_96 im_GL_land se_GL_land gc_GL (gl_1 hX78 0) (gl_2 hX78 (a := 0) (by decide)) (gl_s0 hX78) rfl (by decide) (by decide) rfl (fun _ => rfl) (fun _ => rfl) T
          refine yxV_V (md' := true) (As := [gI v80]) (st := []) d_GL_erase_81 ca_GL_land ml_GL_96 im_GL_land se_GL_land gc_GL (gl_1 hX78 0) (gl_2 hX78 (a := 0) (by decide)) (gl_s0 hX78) rfl (by decide) (by decide) rfl (fun _ => rfl) (fun _ => rfl) T (fun X83 M82 T => ?_)
          obtain ⟨hX84, T⟩ := T
          refine wp_aload_n d_GL_erase_84 rfl rfl (g_nz (gl_1 hX84 0)) ?_
          refine xgetR d_GL_erase_85 gc_GL f_GL_54.1 f_GL_54.2.1 f_GL_54.2.2.1 (gl_1 hX84 0) (gl_2 hX84 (a := 0) (by decide)) (gl_s0 hX84) f_GL_54.2.2.2.2.1 (gl_f0 hX84 27 rfl) ?_
          refine wp_aload_n d_GL_erase_88 rfl rfl (g_nz (gl_1 hX84 0)) ?_
          refine xgetR d_GL_erase_89 gc_GL f_GL_40.1 f_GL_40.2.1 f_GL_40.2.2.1 (gl_1 hX84 0) (gl_2 hX84 (a := 0) (by decide)) (gl_s0 hX84) f_GL_40.2.2.2.2.1 (gl_f0 hX84 26 rfl) ?_
          refine wp_aload_n d_GL_erase_92 rfl rfl (g_nz (gl_1 hX84 0)) ?_
          refine xgetI d_GL_erase_93 gc_GL f_GL_81.1 f_GL_81.2.1 f_GL_81.2.2.1 (gl_1 hX84 0) (gl_2 hX84 (a := 0) (by decide)) (gl_s0 hX84) f_GL_81.2.2.2.2.1 (fun h85 => ?_)
          have T := T h85
          have h86 := T.1
          have q87 := T.2.1
          refine xaald d_GL_erase_96 (Or.inr rfl) (gl_1 hX84 23) (gl_2 hX84 (a := 23) (by decide)) (gl_s hX84 23 rfl) (g32_n h86 (by decide)) h86.1 h86.2 rfl ?_
          have T := T.2.2
          refine yxV_I (md' := true) (As := [gR G (X83.2.2 (c + 23) (Int.toNat (M82 c 8)))]) (st := []) d_GL_erase_97 ca_Rs_follow ml_GL_99 im_Rs_follow se_Rs_follow gc_Rs (gl_1 hX84 234) (gl_2 hX84 (a := 234) (by decide)) (gl_s hX84 24 rfl) rfl (by decide) (by decide) rfl (fun _ => rfl) (fun _ => rfl) T (fun v89 X91 M88 h90 T => ?_)
          obtain ⟨hX92, T⟩ := T
          exact wp_st (st' := [gI v89]) (by rfl) (wp_ireturn d_GL_erase_100 rfl (fun _ => rfl) (Nat.zero_le _) (Nat.zero_le _) T)
  · have T := T.2 h290
    refine wp_iload_n d_GL_erase_4 rfl rfl ?_
    refine wp_iload_n d_GL_erase_5 rfl rfl ?_
    refine ycS_I (md' := false) (As := [gI x1]) (st := [gI x2]) d_GL_erase_6 ca_GL_lines ml_GL_107 sm_GL_lines rfl (by decide) (by simp only [List.map, gR_cat, gI_cat, gL_cat, List.sum_cons, List.sum_nil]; decide) rfl id id T (fun v97 M96 h98 T => ?_)
    refine xi_ge (tgt := 16) d_GL_erase_9 (by decide) (w32_id hx2) (w32_id h98) (fun h289 => ?_) (fun h289 => ?_)
    · have T := T.1 h289
      refine wp_iconst d_GL_erase_16 ?_
      rcases T with T | T
      · exact ytS (by decide) (As := [gI 0]) (st := []) d_GL_erase_17 ca_GL_need ml_GL_69 sm_GL_need  rfl (by decide) (by decide) rfl (fun _ => rfl) (fun h => by cases h) T
      refine ycS_V (md' := false) (As := [gI 0]) (st := []) d_GL_erase_17 ca_GL_need ml_GL_69 sm_GL_need  rfl (by decide) (by decide) rfl id id T (fun M99 T => ?_)
      refine wp_iload_n d_GL_erase_20 rfl rfl ?_
      refine wp_iconst d_GL_erase_21 ?_
      refine xi_lt (tgt := 45) d_GL_erase_22 (by decide) (w32_id hx3) (w32_id (g32_c (x := 1) rfl)) (fun h193 => ?_) (fun h193 => ?_)
      · have T := T.1 h193
        refine wp_iconst d_GL_erase_45 ?_
        rcases T with T | T
        · exact ytS (by decide) (As := [gI 0]) (st := []) d_GL_erase_46 ca_GL_need ml_GL_69 sm_GL_need  rfl (by decide) (by decide) rfl (fun _ => rfl) (fun h => by cases h) T
        refine ycS_V (md' := false) (As := [gI 0]) (st := []) d_GL_erase_46 ca_GL_need ml_GL_69 sm_GL_need  rfl (by decide) (by decide) rfl id id T (fun M100 T => ?_)
        refine wp_aload_n d_GL_erase_49 rfl rfl (g_nz (gl_1 hX 0)) ?_
        refine xgetR d_GL_erase_50 gc_GL f_GL_34.1 f_GL_34.2.1 f_GL_34.2.2.1 (gl_1 hX 0) (gl_2 hX (a := 0) (by decide)) (gl_s0 hX) f_GL_34.2.2.2.2.1 (gl_f0 hX 23 rfl) ?_
        refine wp_aload_n d_GL_erase_53 rfl rfl (g_nz (gl_1 hX 0)) ?_
        refine xgetR d_GL_erase_54 gc_GL f_GL_40.1 f_GL_40.2.1 f_GL_40.2.2.1 (gl_1 hX 0) (gl_2 hX (a := 0) (by decide)) (gl_s0 hX) f_GL_40.2.2.2.2.1 (gl_f0 hX 26 rfl) ?_
        refine wp_aload_n d_GL_erase_57 rfl rfl (g_nz (gl_1 hX 0)) ?_
        refine xgetI d_GL_erase_58 gc_GL f_GL_81.1 f_GL_81.2.1 f_GL_81.2.2.1 (gl_1 hX 0) (gl_2 hX (a := 0) (by decide)) (gl_s0 hX) f_GL_81.2.2.2.2.1 (fun h101 => ?_)
        have T := T h101
        have h102 := T.1
        have q103 := T.2.1
        refine xaald d_GL_erase_61 (Or.inr rfl) (gl_1 hX 23) (gl_2 hX (a := 23) (by decide)) (gl_s hX 23 rfl) (g32_n h102 (by decide)) h102.1 h102.2 rfl ?_
        have T := T.2.2
        refine wp_aload_n d_GL_erase_62 rfl rfl (g_nz (gl_1 hX 0)) ?_
        have q104 := T.1
        have T := T.2
        refine xgetR d_GL_erase_63 gc_GL f_GL_45.1 f_GL_45.2.1 f_GL_45.2.2.1 (gl_1 hX 0) (gl_2 hX (a := 0) (by decide)) (gl_s0 hX) f_GL_45.2.2.2.2.1 rfl ?_
        refine yxV_V (md' := true) (As := [gR G (X.2.2 (c + 23) (Int.toNat (M100 c 8))), gR G (X.2.2 c 7)]) (st := []) d_GL_erase_66 ca_Ed_open ml_GL_84 im_Ed_open se_Ed_open gc_Ed (gl_1 hX 21) (gl_2 hX (a := 21) (by decide)) (gl_s hX 21 rfl) rfl (by decide) (by decide) rfl (fun _ => rfl) (fun _ => rfl) T (fun X106 M105 T => ?_)
        obtain ⟨hX107, T⟩ := T
        refine wp_aload_n d_GL_erase_69 rfl rfl (g_nz (gl_1 hX107 0)) ?_
        refine wp_aload_n d_GL_erase_70 rfl rfl (g_nz (gl_1 hX107 0)) ?_
        refine xgetR d_GL_erase_71 gc_GL f_GL_34.1 f_GL_34.2.1 f_GL_34.2.2.1 (gl_1 hX107 0) (gl_2 hX107 (a := 0) (by decide)) (gl_s0 hX107) f_GL_34.2.2.2.2.1 (gl_f0 hX107 23 rfl) ?_
        refine wp_iload_n d_GL_erase_74 rfl rfl ?_
        refine wp_iconst d_GL_erase_75 ?_
        refine wp_iload_n d_GL_erase_76 rfl rfl ?_
        refine wp_iload_n d_GL_erase_77 rfl rfl ?_
        refine ycV_Z (md' := true) (As := [gI x1, gI 0, gI x2, gI x3]) (st := [gR G c]) d_GL_erase_78 ca_Ed_shifted ml_GL_111 im_Ed_shifted se_Ed_shifted gc_Ed (gl_1 hX107 21) (gl_2 hX107 (a := 21) (by decide)) (gl_s hX107 21 rfl) rfl (by decide) (by simp only [List.map, gR_cat, gI_cat, gL_cat, List.sum_cons, List.sum_nil]; decide) rfl (fun _ => rfl) (fun _ => rfl) T (fun v109 M108 h110 T => ?_)
        rcases T with T | T
        · exact ytV (by decide) (As := [gI v109]) (st := []) d_GL_erase_81 ca_GL_land ml_GL_96 im_GL_land se_GL_land gc_GL (gl_1 hX107 0) (gl_2 hX107 (a := 0) (by decide)) (gl_s0 hX107) rfl (by decide) (by decide) rfl (fun _ => rfl) (fun _ => rfl) T
        refine yxV_V (md' := true) (As := [gI v109]) (st := []) d_GL_erase_81 ca_GL_land ml_GL_96 im_GL_land se_GL_land gc_GL (gl_1 hX107 0) (gl_2 hX107 (a := 0) (by decide)) (gl_s0 hX107) rfl (by decide) (by decide) rfl (fun _ => rfl) (fun _ => rfl) T (fun X112 M111 T => ?_)
        obtain ⟨hX113, T⟩ := T
        refine wp_aload_n d_GL_erase_84 rfl rfl (g_nz (gl_1 hX113 0)) ?_
        refine xgetR d_GL_erase_85 gc_GL f_GL_54.1 f_GL_54.2.1 f_GL_54.2.2.1 (gl_1 hX113 0) (gl_2 hX113 (a := 0) (by decide)) (gl_s0 hX113) f_GL_54.2.2.2.2.1 (gl_f0 hX113 27 rfl) ?_
        refine wp_aload_n d_GL_erase_88 rfl rfl (g_nz (gl_1 hX113 0)) ?_
        refine xgetR d_GL_erase_89 gc_GL f_GL_40.1 f_GL_40.2.1 f_GL_40.2.2.1 (gl_1 hX113 0) (gl_2 hX113 (a := 0) (by decide)) (gl_s0 hX113) f_GL_40.2.2.2.2.1 (gl_f0 hX113 26 rfl) ?_
        refine wp_aload_n d_GL_erase_92 rfl rfl (g_nz (gl_1 hX113 0)) ?_
        refine xgetI d_GL_erase_93 gc_GL f_GL_81.1 f_GL_81.2.1 f_GL_81.2.2.1 (gl_1 hX113 0) (gl_2 hX113 (a := 0) (by decide)) (gl_s0 hX113) f_GL_81.2.2.2.2.1 (fun h114 => ?_)
        have T := T h114
        have h115 := T.1
        have q116 := T.2.1
        refine xaald d_GL_erase_96 (Or.inr rfl) (gl_1 hX113 23) (gl_2 hX113 (a := 23) (by decide)) (gl_s hX113 23 rfl) (g32_n h115 (by decide)) h115.1 h115.2 rfl ?_
        have T := T.2.2
        refine yxV_I (md' := true) (As := [gR G (X112.2.2 (c + 23) (Int.toNat (M111 c 8)))]) (st := []) d_GL_erase_97 ca_Rs_follow ml_GL_99 im_Rs_follow se_Rs_follow gc_Rs (gl_1 hX113 234) (gl_2 hX113 (a := 234) (by decide)) (gl_s hX113 24 rfl) rfl (by decide) (by decide) rfl (fun _ => rfl) (fun _ => rfl) T (fun v118 X120 M117 h119 T => ?_)
        obtain ⟨hX121, T⟩ := T
        exact wp_st (st' := [gI v118]) (by rfl) (wp_ireturn d_GL_erase_100 rfl (fun _ => rfl) (Nat.zero_le _) (Nat.zero_le _) T)
      · have T := T.2 h193
        refine wp_iload_n d_GL_erase_25 rfl rfl ?_
        refine wp_bipush d_GL_erase_26 ⟨by decide, by decide⟩ ?_
        refine xi_gt (tgt := 45) d_GL_erase_28 (by decide) (w32_id hx3) (w32_id (g32_c (x := 50) rfl)) (fun h192 => ?_) (fun h192 => ?_)
        · have T := T.1 h192
          refine wp_iconst d_GL_erase_45 ?_
          rcases T with T | T
          · exact ytS (by decide) (As := [gI 0]) (st := []) d_GL_erase_46 ca_GL_need ml_GL_69 sm_GL_need  rfl (by decide) (by decide) rfl (fun _ => rfl) (fun h => by cases h) T
          refine ycS_V (md' := false) (As := [gI 0]) (st := []) d_GL_erase_46 ca_GL_need ml_GL_69 sm_GL_need  rfl (by decide) (by decide) rfl id id T (fun M122 T => ?_)
          refine wp_aload_n d_GL_erase_49 rfl rfl (g_nz (gl_1 hX 0)) ?_
          refine xgetR d_GL_erase_50 gc_GL f_GL_34.1 f_GL_34.2.1 f_GL_34.2.2.1 (gl_1 hX 0) (gl_2 hX (a := 0) (by decide)) (gl_s0 hX) f_GL_34.2.2.2.2.1 (gl_f0 hX 23 rfl) ?_
          refine wp_aload_n d_GL_erase_53 rfl rfl (g_nz (gl_1 hX 0)) ?_
          refine xgetR d_GL_erase_54 gc_GL f_GL_40.1 f_GL_40.2.1 f_GL_40.2.2.1 (gl_1 hX 0) (gl_2 hX (a := 0) (by decide)) (gl_s0 hX) f_GL_40.2.2.2.2.1 (gl_f0 hX 26 rfl) ?_
          refine wp_aload_n d_GL_erase_57 rfl rfl (g_nz (gl_1 hX 0)) ?_
          refine xgetI d_GL_erase_58 gc_GL f_GL_81.1 f_GL_81.2.1 f_GL_81.2.2.1 (gl_1 hX 0) (gl_2 hX (a := 0) (by decide)) (gl_s0 hX) f_GL_81.2.2.2.2.1 (fun h123 => ?_)
          have T := T h123
          have h124 := T.1
          have q125 := T.2.1
          refine xaald d_GL_erase_61 (Or.inr rfl) (gl_1 hX 23) (gl_2 hX (a := 23) (by decide)) (gl_s hX 23 rfl) (g32_n h124 (by decide)) h124.1 h124.2 rfl ?_
          have T := T.2.2
          refine wp_aload_n d_GL_erase_62 rfl rfl (g_nz (gl_1 hX 0)) ?_
          have q126 := T.1
          have T := T.2
          refine xgetR d_GL_erase_63 gc_GL f_GL_45.1 f_GL_45.2.1 f_GL_45.2.2.1 (gl_1 hX 0) (gl_2 hX (a := 0) (by decide)) (gl_s0 hX) f_GL_45.2.2.2.2.1 rfl ?_
          refine yxV_V (md' := true) (As := [gR G (X.2.2 (c + 23) (Int.toNat (M122 c 8))), gR G (X.2.2 c 7)]) (st := []) d_GL_erase_66 ca_Ed_open ml_GL_84 im_Ed_open se_Ed_open gc_Ed (gl_1 hX 21) (gl_2 hX (a := 21) (by decide)) (gl_s hX 21 rfl) rfl (by decide) (by decide) rfl (fun _ => rfl) (fun _ => rfl) T (fun X128 M127 T => ?_)
          obtain ⟨hX129, T⟩ := T
          refine wp_aload_n d_GL_erase_69 rfl rfl (g_nz (gl_1 hX129 0)) ?_
          refine wp_aload_n d_GL_erase_70 rfl rfl (g_nz (gl_1 hX129 0)) ?_
          refine xgetR d_GL_erase_71 gc_GL f_GL_34.1 f_GL_34.2.1 f_GL_34.2.2.1 (gl_1 hX129 0) (gl_2 hX129 (a := 0) (by decide)) (gl_s0 hX129) f_GL_34.2.2.2.2.1 (gl_f0 hX129 23 rfl) ?_
          refine wp_iload_n d_GL_erase_74 rfl rfl ?_
          refine wp_iconst d_GL_erase_75 ?_
          refine wp_iload_n d_GL_erase_76 rfl rfl ?_
          refine wp_iload_n d_GL_erase_77 rfl rfl ?_
          refine ycV_Z (md' := true) (As := [gI x1, gI 0, gI x2, gI x3]) (st := [gR G c]) d_GL_erase_78 ca_Ed_shifted ml_GL_111 im_Ed_shifted se_Ed_shifted gc_Ed (gl_1 hX129 21) (gl_2 hX129 (a := 21) (by decide)) (gl_s hX129 21 rfl) rfl (by decide) (by simp only [List.map, gR_cat, gI_cat, gL_cat, List.sum_cons, List.sum_nil]; decide) rfl (fun _ => rfl) (fun _ => rfl) T (fun v131 M130 h132 T => ?_)
          rcases T with T | T
          · exact ytV (by decide) (As := [gI v131]) (st := []) d_GL_erase_81 ca_GL_land ml_GL_96 im_GL_land se_GL_land gc_GL (gl_1 hX129 0) (gl_2 hX129 (a := 0) (by decide)) (gl_s0 hX129) rfl (by decide) (by decide) rfl (fun _ => rfl) (fun _ => rfl) T
          refine yxV_V (md' := true) (As := [gI v131]) (st := []) d_GL_erase_81 ca_GL_land ml_GL_96 im_GL_land se_GL_land gc_GL (gl_1 hX129 0) (gl_2 hX129 (a := 0) (by decide)) (gl_s0 hX129) rfl (by decide) (by decide) rfl (fun _ => rfl) (fun _ => rfl) T (fun X134 M133 T => ?_)
          obtain ⟨hX135, T⟩ := T
          refine wp_aload_n d_GL_erase_84 rfl rfl (g_nz (gl_1 hX135 0)) ?_
          refine xgetR d_GL_erase_85 gc_GL f_GL_54.1 f_GL_54.2.1 f_GL_54.2.2.1 (gl_1 hX135 0) (gl_2 hX135 (a := 0) (by decide)) (gl_s0 hX135) f_GL_54.2.2.2.2.1 (gl_f0 hX135 27 rfl) ?_
          refine wp_aload_n d_GL_erase_88 rfl rfl (g_nz (gl_1 hX135 0)) ?_
          refine xgetR d_GL_erase_89 gc_GL f_GL_40.1 f_GL_40.2.1 f_GL_40.2.2.1 (gl_1 hX135 0) (gl_2 hX135 (a := 0) (by decide)) (gl_s0 hX135) f_GL_40.2.2.2.2.1 (gl_f0 hX135 26 rfl) ?_
          refine wp_aload_n d_GL_erase_92 rfl rfl (g_nz (gl_1 hX135 0)) ?_
          refine xgetI d_GL_erase_93 gc_GL f_GL_81.1 f_GL_81.2.1 f_GL_81.2.2.1 (gl_1 hX135 0) (gl_2 hX135 (a := 0) (by decide)) (gl_s0 hX135) f_GL_81.2.2.2.2.1 (fun h136 => ?_)
          have T := T h136
          have h137 := T.1
          have q138 := T.2.1
          refine xaald d_GL_erase_96 (Or.inr rfl) (gl_1 hX135 23) (gl_2 hX135 (a := 23) (by decide)) (gl_s hX135 23 rfl) (g32_n h137 (by decide)) h137.1 h137.2 rfl ?_
          have T := T.2.2
          refine yxV_I (md' := true) (As := [gR G (X134.2.2 (c + 23) (Int.toNat (M133 c 8)))]) (st := []) d_GL_erase_97 ca_Rs_follow ml_GL_99 im_Rs_follow se_Rs_follow gc_Rs (gl_1 hX135 234) (gl_2 hX135 (a := 234) (by decide)) (gl_s hX135 24 rfl) rfl (by decide) (by decide) rfl (fun _ => rfl) (fun _ => rfl) T (fun v140 X142 M139 h141 T => ?_)
          obtain ⟨hX143, T⟩ := T
          exact wp_st (st' := [gI v140]) (by rfl) (wp_ireturn d_GL_erase_100 rfl (fun _ => rfl) (Nat.zero_le _) (Nat.zero_le _) T)
        · have T := T.2 h192
          refine wp_iload_n d_GL_erase_31 rfl rfl ?_
          refine wp_iload_n d_GL_erase_32 rfl rfl ?_
          refine ycS_I (md' := false) (As := [gI x1]) (st := [gI x3]) d_GL_erase_33 ca_GL_lines ml_GL_107 sm_GL_lines rfl (by decide) (by simp only [List.map, gR_cat, gI_cat, gL_cat, List.sum_cons, List.sum_nil]; decide) rfl id id T (fun v145 M144 h146 T => ?_)
          refine wp_iload_n d_GL_erase_36 rfl rfl ?_
          refine wp_isub d_GL_erase_37 ?_
          refine xi_gt (tgt := 45) d_GL_erase_38 (by decide) (w32_id hx3) rfl (fun h191 => ?_) (fun h191 => ?_)
          · have T := T.1 h191
            refine wp_iconst d_GL_erase_45 ?_
            rcases T with T | T
            · exact ytS (by decide) (As := [gI 0]) (st := []) d_GL_erase_46 ca_GL_need ml_GL_69 sm_GL_need  rfl (by decide) (by decide) rfl (fun _ => rfl) (fun h => by cases h) T
            refine ycS_V (md' := false) (As := [gI 0]) (st := []) d_GL_erase_46 ca_GL_need ml_GL_69 sm_GL_need  rfl (by decide) (by decide) rfl id id T (fun M147 T => ?_)
            refine wp_aload_n d_GL_erase_49 rfl rfl (g_nz (gl_1 hX 0)) ?_
            refine xgetR d_GL_erase_50 gc_GL f_GL_34.1 f_GL_34.2.1 f_GL_34.2.2.1 (gl_1 hX 0) (gl_2 hX (a := 0) (by decide)) (gl_s0 hX) f_GL_34.2.2.2.2.1 (gl_f0 hX 23 rfl) ?_
            refine wp_aload_n d_GL_erase_53 rfl rfl (g_nz (gl_1 hX 0)) ?_
            refine xgetR d_GL_erase_54 gc_GL f_GL_40.1 f_GL_40.2.1 f_GL_40.2.2.1 (gl_1 hX 0) (gl_2 hX (a := 0) (by decide)) (gl_s0 hX) f_GL_40.2.2.2.2.1 (gl_f0 hX 26 rfl) ?_
            refine wp_aload_n d_GL_erase_57 rfl rfl (g_nz (gl_1 hX 0)) ?_
            refine xgetI d_GL_erase_58 gc_GL f_GL_81.1 f_GL_81.2.1 f_GL_81.2.2.1 (gl_1 hX 0) (gl_2 hX (a := 0) (by decide)) (gl_s0 hX) f_GL_81.2.2.2.2.1 (fun h148 => ?_)
            have T := T h148
            have h149 := T.1
            have q150 := T.2.1
            refine xaald d_GL_erase_61 (Or.inr rfl) (gl_1 hX 23) (gl_2 hX (a := 23) (by decide)) (gl_s hX 23 rfl) (g32_n h149 (by decide)) h149.1 h149.2 rfl ?_
            have T := T.2.2
            refine wp_aload_n d_GL_erase_62 rfl rfl (g_nz (gl_1 hX 0)) ?_
            have q151 := T.1
            have T := T.2
            refine xgetR d_GL_erase_63 gc_GL f_GL_45.1 f_GL_45.2.1 f_GL_45.2.2.1 (gl_1 hX 0) (gl_2 hX (a := 0) (by decide)) (gl_s0 hX) f_GL_45.2.2.2.2.1 rfl ?_
            refine yxV_V (md' := true) (As := [gR G (X.2.2 (c + 23) (Int.toNat (M147 c 8))), gR G (X.2.2 c 7)]) (st := []) d_GL_erase_66 ca_Ed_open ml_GL_84 im_Ed_open se_Ed_open gc_Ed (gl_1 hX 21) (gl_2 hX (a := 21) (by decide)) (gl_s hX 21 rfl) rfl (by decide) (by decide) rfl (fun _ => rfl) (fun _ => rfl) T (fun X153 M152 T => ?_)
            obtain ⟨hX154, T⟩ := T
            refine wp_aload_n d_GL_erase_69 rfl rfl (g_nz (gl_1 hX154 0)) ?_
            refine wp_aload_n d_GL_erase_70 rfl rfl (g_nz (gl_1 hX154 0)) ?_
            refine xgetR d_GL_erase_71 gc_GL f_GL_34.1 f_GL_34.2.1 f_GL_34.2.2.1 (gl_1 hX154 0) (gl_2 hX154 (a := 0) (by decide)) (gl_s0 hX154) f_GL_34.2.2.2.2.1 (gl_f0 hX154 23 rfl) ?_
            refine wp_iload_n d_GL_erase_74 rfl rfl ?_
            refine wp_iconst d_GL_erase_75 ?_
            refine wp_iload_n d_GL_erase_76 rfl rfl ?_
            refine wp_iload_n d_GL_erase_77 rfl rfl ?_
            refine ycV_Z (md' := true) (As := [gI x1, gI 0, gI x2, gI x3]) (st := [gR G c]) d_GL_erase_78 ca_Ed_shifted ml_GL_111 im_Ed_shifted se_Ed_shifted gc_Ed (gl_1 hX154 21) (gl_2 hX154 (a := 21) (by decide)) (gl_s hX154 21 rfl) rfl (by decide) (by simp only [List.map, gR_cat, gI_cat, gL_cat, List.sum_cons, List.sum_nil]; decide) rfl (fun _ => rfl) (fun _ => rfl) T (fun v156 M155 h157 T => ?_)
            rcases T with T | T
            · exact ytV (by decide) (As := [gI v156]) (st := []) d_GL_erase_81 ca_GL_land ml_GL_96 im_GL_land se_GL_land gc_GL (gl_1 hX154 0) (gl_2 hX154 (a := 0) (by decide)) (gl_s0 hX154) rfl (by decide) (by decide) rfl (fun _ => rfl) (fun _ => rfl) T
            refine yxV_V (md' := true) (As := [gI v156]) (st := []) d_GL_erase_81 ca_GL_land ml_GL_96 im_GL_land se_GL_land gc_GL (gl_1 hX154 0) (gl_2 hX154 (a := 0) (by decide)) (gl_s0 hX154) rfl (by decide) (by decide) rfl (fun _ => rfl) (fun _ => rfl) T (fun X159 M158 T => ?_)
            obtain ⟨hX160, T⟩ := T
            refine wp_aload_n d_GL_erase_84 rfl rfl (g_nz (gl_1 hX160 0)) ?_
            refine xgetR d_GL_erase_85 gc_GL f_GL_54.1 f_GL_54.2.1 f_GL_54.2.2.1 (gl_1 hX160 0) (gl_2 hX160 (a := 0) (by decide)) (gl_s0 hX160) f_GL_54.2.2.2.2.1 (gl_f0 hX160 27 rfl) ?_
            refine wp_aload_n d_GL_erase_88 rfl rfl (g_nz (gl_1 hX160 0)) ?_
            refine xgetR d_GL_erase_89 gc_GL f_GL_40.1 f_GL_40.2.1 f_GL_40.2.2.1 (gl_1 hX160 0) (gl_2 hX160 (a := 0) (by decide)) (gl_s0 hX160) f_GL_40.2.2.2.2.1 (gl_f0 hX160 26 rfl) ?_
            refine wp_aload_n d_GL_erase_92 rfl rfl (g_nz (gl_1 hX160 0)) ?_
            refine xgetI d_GL_erase_93 gc_GL f_GL_81.1 f_GL_81.2.1 f_GL_81.2.2.1 (gl_1 hX160 0) (gl_2 hX160 (a := 0) (by decide)) (gl_s0 hX160) f_GL_81.2.2.2.2.1 (fun h161 => ?_)
            have T := T h161
            have h162 := T.1
            have q163 := T.2.1
            refine xaald d_GL_erase_96 (Or.inr rfl) (gl_1 hX160 23) (gl_2 hX160 (a := 23) (by decide)) (gl_s hX160 23 rfl) (g32_n h162 (by decide)) h162.1 h162.2 rfl ?_
            have T := T.2.2
            refine yxV_I (md' := true) (As := [gR G (X159.2.2 (c + 23) (Int.toNat (M158 c 8)))]) (st := []) d_GL_erase_97 ca_Rs_follow ml_GL_99 im_Rs_follow se_Rs_follow gc_Rs (gl_1 hX160 234) (gl_2 hX160 (a := 234) (by decide)) (gl_s hX160 24 rfl) rfl (by decide) (by decide) rfl (fun _ => rfl) (fun _ => rfl) T (fun v165 X167 M164 h166 T => ?_)
            obtain ⟨hX168, T⟩ := T
            exact wp_st (st' := [gI v165]) (by rfl) (wp_ireturn d_GL_erase_100 rfl (fun _ => rfl) (Nat.zero_le _) (Nat.zero_le _) T)
          · have T := T.2 h191
            refine wp_iconst d_GL_erase_41 ?_
            refine wp_goto (tgt := 46) d_GL_erase_42 (by decide) ?_
            rcases T with T | T
            · exact ytS (by decide) (As := [gI 1]) (st := []) d_GL_erase_46 ca_GL_need ml_GL_69 sm_GL_need  rfl (by decide) (by decide) rfl (fun _ => rfl) (fun h => by cases h) T
            refine ycS_V (md' := false) (As := [gI 1]) (st := []) d_GL_erase_46 ca_GL_need ml_GL_69 sm_GL_need  rfl (by decide) (by decide) rfl id id T (fun M169 T => ?_)
            refine wp_aload_n d_GL_erase_49 rfl rfl (g_nz (gl_1 hX 0)) ?_
            refine xgetR d_GL_erase_50 gc_GL f_GL_34.1 f_GL_34.2.1 f_GL_34.2.2.1 (gl_1 hX 0) (gl_2 hX (a := 0) (by decide)) (gl_s0 hX) f_GL_34.2.2.2.2.1 (gl_f0 hX 23 rfl) ?_
            refine wp_aload_n d_GL_erase_53 rfl rfl (g_nz (gl_1 hX 0)) ?_
            refine xgetR d_GL_erase_54 gc_GL f_GL_40.1 f_GL_40.2.1 f_GL_40.2.2.1 (gl_1 hX 0) (gl_2 hX (a := 0) (by decide)) (gl_s0 hX) f_GL_40.2.2.2.2.1 (gl_f0 hX 26 rfl) ?_
            refine wp_aload_n d_GL_erase_57 rfl rfl (g_nz (gl_1 hX 0)) ?_
            refine xgetI d_GL_erase_58 gc_GL f_GL_81.1 f_GL_81.2.1 f_GL_81.2.2.1 (gl_1 hX 0) (gl_2 hX (a := 0) (by decide)) (gl_s0 hX) f_GL_81.2.2.2.2.1 (fun h170 => ?_)
            have T := T h170
            have h171 := T.1
            have q172 := T.2.1
            refine xaald d_GL_erase_61 (Or.inr rfl) (gl_1 hX 23) (gl_2 hX (a := 23) (by decide)) (gl_s hX 23 rfl) (g32_n h171 (by decide)) h171.1 h171.2 rfl ?_
            have T := T.2.2
            refine wp_aload_n d_GL_erase_62 rfl rfl (g_nz (gl_1 hX 0)) ?_
            have q173 := T.1
            have T := T.2
            refine xgetR d_GL_erase_63 gc_GL f_GL_45.1 f_GL_45.2.1 f_GL_45.2.2.1 (gl_1 hX 0) (gl_2 hX (a := 0) (by decide)) (gl_s0 hX) f_GL_45.2.2.2.2.1 rfl ?_
            refine yxV_V (md' := true) (As := [gR G (X.2.2 (c + 23) (Int.toNat (M169 c 8))), gR G (X.2.2 c 7)]) (st := []) d_GL_erase_66 ca_Ed_open ml_GL_84 im_Ed_open se_Ed_open gc_Ed (gl_1 hX 21) (gl_2 hX (a := 21) (by decide)) (gl_s hX 21 rfl) rfl (by decide) (by decide) rfl (fun _ => rfl) (fun _ => rfl) T (fun X175 M174 T => ?_)
            obtain ⟨hX176, T⟩ := T
            refine wp_aload_n d_GL_erase_69 rfl rfl (g_nz (gl_1 hX176 0)) ?_
            refine wp_aload_n d_GL_erase_70 rfl rfl (g_nz (gl_1 hX176 0)) ?_
            refine xgetR d_GL_erase_71 gc_GL f_GL_34.1 f_GL_34.2.1 f_GL_34.2.2.1 (gl_1 hX176 0) (gl_2 hX176 (a := 0) (by decide)) (gl_s0 hX176) f_GL_34.2.2.2.2.1 (gl_f0 hX176 23 rfl) ?_
            refine wp_iload_n d_GL_erase_74 rfl rfl ?_
            refine wp_iconst d_GL_erase_75 ?_
            refine wp_iload_n d_GL_erase_76 rfl rfl ?_
            refine wp_iload_n d_GL_erase_77 rfl rfl ?_
            refine ycV_Z (md' := true) (As := [gI x1, gI 0, gI x2, gI x3]) (st := [gR G c]) d_GL_erase_78 ca_Ed_shifted ml_GL_111 im_Ed_shifted se_Ed_shifted gc_Ed (gl_1 hX176 21) (gl_2 hX176 (a := 21) (by decide)) (gl_s hX176 21 rfl) rfl (by decide) (by simp only [List.map, gR_cat, gI_cat, gL_cat, List.sum_cons, List.sum_nil]; decide) rfl (fun _ => rfl) (fun _ => rfl) T (fun v178 M177 h179 T => ?_)
            rcases T with T | T
            · exact ytV (by decide) (As := [gI v178]) (st := []) d_GL_erase_81 ca_GL_land ml_GL_96 im_GL_land se_GL_land gc_GL (gl_1 hX176 0) (gl_2 hX176 (a := 0) (by decide)) (gl_s0 hX176) rfl (by decide) (by decide) rfl (fun _ => rfl) (fun _ => rfl) T
            refine yxV_V (md' := true) (As := [gI v178]) (st := []) d_GL_erase_81 ca_GL_land ml_GL_96 im_GL_land se_GL_land gc_GL (gl_1 hX176 0) (gl_2 hX176 (a := 0) (by decide)) (gl_s0 hX176) rfl (by decide) (by decide) rfl (fun _ => rfl) (fun _ => rfl) T (fun X181 M180 T => ?_)
            obtain ⟨hX182, T⟩ := T
            refine wp_aload_n d_GL_erase_84 rfl rfl (g_nz (gl_1 hX182 0)) ?_
            refine xgetR d_GL_erase_85 gc_GL f_GL_54.1 f_GL_54.2.1 f_GL_54.2.2.1 (gl_1 hX182 0) (gl_2 hX182 (a := 0) (by decide)) (gl_s0 hX182) f_GL_54.2.2.2.2.1 (gl_f0 hX182 27 rfl) ?_
            refine wp_aload_n d_GL_erase_88 rfl rfl (g_nz (gl_1 hX182 0)) ?_
            refine xgetR d_GL_erase_89 gc_GL f_GL_40.1 f_GL_40.2.1 f_GL_40.2.2.1 (gl_1 hX182 0) (gl_2 hX182 (a := 0) (by decide)) (gl_s0 hX182) f_GL_40.2.2.2.2.1 (gl_f0 hX182 26 rfl) ?_
            refine wp_aload_n d_GL_erase_92 rfl rfl (g_nz (gl_1 hX182 0)) ?_
            refine xgetI d_GL_erase_93 gc_GL f_GL_81.1 f_GL_81.2.1 f_GL_81.2.2.1 (gl_1 hX182 0) (gl_2 hX182 (a := 0) (by decide)) (gl_s0 hX182) f_GL_81.2.2.2.2.1 (fun h183 => ?_)
            have T := T h183
            have h184 := T.1
            have q185 := T.2.1
            refine xaald d_GL_erase_96 (Or.inr rfl) (gl_1 hX182 23) (gl_2 hX182 (a := 23) (by decide)) (gl_s hX182 23 rfl) (g32_n h184 (by decide)) h184.1 h184.2 rfl ?_
            have T := T.2.2
            refine yxV_I (md' := true) (As := [gR G (X181.2.2 (c + 23) (Int.toNat (M180 c 8)))]) (st := []) d_GL_erase_97 ca_Rs_follow ml_GL_99 im_Rs_follow se_Rs_follow gc_Rs (gl_1 hX182 234) (gl_2 hX182 (a := 234) (by decide)) (gl_s hX182 24 rfl) rfl (by decide) (by decide) rfl (fun _ => rfl) (fun _ => rfl) T (fun v187 X189 M186 h188 T => ?_)
            obtain ⟨hX190, T⟩ := T
            exact wp_st (st' := [gI v187]) (by rfl) (wp_ireturn d_GL_erase_100 rfl (fun _ => rfl) (Nat.zero_le _) (Nat.zero_le _) T)
    · have T := T.2 h289
      refine wp_iconst d_GL_erase_12 ?_
      refine wp_goto (tgt := 17) d_GL_erase_13 (by decide) ?_
      rcases T with T | T
      · exact ytS (by decide) (As := [gI 1]) (st := []) d_GL_erase_17 ca_GL_need ml_GL_69 sm_GL_need  rfl (by decide) (by decide) rfl (fun _ => rfl) (fun h => by cases h) T
      refine ycS_V (md' := false) (As := [gI 1]) (st := []) d_GL_erase_17 ca_GL_need ml_GL_69 sm_GL_need  rfl (by decide) (by decide) rfl id id T (fun M194 T => ?_)
      refine wp_iload_n d_GL_erase_20 rfl rfl ?_
      refine wp_iconst d_GL_erase_21 ?_
      refine xi_lt (tgt := 45) d_GL_erase_22 (by decide) (w32_id hx3) (w32_id (g32_c (x := 1) rfl)) (fun h288 => ?_) (fun h288 => ?_)
      · have T := T.1 h288
        refine wp_iconst d_GL_erase_45 ?_
        rcases T with T | T
        · exact ytS (by decide) (As := [gI 0]) (st := []) d_GL_erase_46 ca_GL_need ml_GL_69 sm_GL_need  rfl (by decide) (by decide) rfl (fun _ => rfl) (fun h => by cases h) T
        refine ycS_V (md' := false) (As := [gI 0]) (st := []) d_GL_erase_46 ca_GL_need ml_GL_69 sm_GL_need  rfl (by decide) (by decide) rfl id id T (fun M195 T => ?_)
        refine wp_aload_n d_GL_erase_49 rfl rfl (g_nz (gl_1 hX 0)) ?_
        refine xgetR d_GL_erase_50 gc_GL f_GL_34.1 f_GL_34.2.1 f_GL_34.2.2.1 (gl_1 hX 0) (gl_2 hX (a := 0) (by decide)) (gl_s0 hX) f_GL_34.2.2.2.2.1 (gl_f0 hX 23 rfl) ?_
        refine wp_aload_n d_GL_erase_53 rfl rfl (g_nz (gl_1 hX 0)) ?_
        refine xgetR d_GL_erase_54 gc_GL f_GL_40.1 f_GL_40.2.1 f_GL_40.2.2.1 (gl_1 hX 0) (gl_2 hX (a := 0) (by decide)) (gl_s0 hX) f_GL_40.2.2.2.2.1 (gl_f0 hX 26 rfl) ?_
        refine wp_aload_n d_GL_erase_57 rfl rfl (g_nz (gl_1 hX 0)) ?_
        refine xgetI d_GL_erase_58 gc_GL f_GL_81.1 f_GL_81.2.1 f_GL_81.2.2.1 (gl_1 hX 0) (gl_2 hX (a := 0) (by decide)) (gl_s0 hX) f_GL_81.2.2.2.2.1 (fun h196 => ?_)
        have T := T h196
        have h197 := T.1
        have q198 := T.2.1
        refine xaald d_GL_erase_61 (Or.inr rfl) (gl_1 hX 23) (gl_2 hX (a := 23) (by decide)) (gl_s hX 23 rfl) (g32_n h197 (by decide)) h197.1 h197.2 rfl ?_
        have T := T.2.2
        refine wp_aload_n d_GL_erase_62 rfl rfl (g_nz (gl_1 hX 0)) ?_
        have q199 := T.1
        have T := T.2
        refine xgetR d_GL_erase_63 gc_GL f_GL_45.1 f_GL_45.2.1 f_GL_45.2.2.1 (gl_1 hX 0) (gl_2 hX (a := 0) (by decide)) (gl_s0 hX) f_GL_45.2.2.2.2.1 rfl ?_
        refine yxV_V (md' := true) (As := [gR G (X.2.2 (c + 23) (Int.toNat (M195 c 8))), gR G (X.2.2 c 7)]) (st := []) d_GL_erase_66 ca_Ed_open ml_GL_84 im_Ed_open se_Ed_open gc_Ed (gl_1 hX 21) (gl_2 hX (a := 21) (by decide)) (gl_s hX 21 rfl) rfl (by decide) (by decide) rfl (fun _ => rfl) (fun _ => rfl) T (fun X201 M200 T => ?_)
        obtain ⟨hX202, T⟩ := T
        refine wp_aload_n d_GL_erase_69 rfl rfl (g_nz (gl_1 hX202 0)) ?_
        refine wp_aload_n d_GL_erase_70 rfl rfl (g_nz (gl_1 hX202 0)) ?_
        refine xgetR d_GL_erase_71 gc_GL f_GL_34.1 f_GL_34.2.1 f_GL_34.2.2.1 (gl_1 hX202 0) (gl_2 hX202 (a := 0) (by decide)) (gl_s0 hX202) f_GL_34.2.2.2.2.1 (gl_f0 hX202 23 rfl) ?_
        refine wp_iload_n d_GL_erase_74 rfl rfl ?_
        refine wp_iconst d_GL_erase_75 ?_
        refine wp_iload_n d_GL_erase_76 rfl rfl ?_
        refine wp_iload_n d_GL_erase_77 rfl rfl ?_
        refine ycV_Z (md' := true) (As := [gI x1, gI 0, gI x2, gI x3]) (st := [gR G c]) d_GL_erase_78 ca_Ed_shifted ml_GL_111 im_Ed_shifted se_Ed_shifted gc_Ed (gl_1 hX202 21) (gl_2 hX202 (a := 21) (by decide)) (gl_s hX202 21 rfl) rfl (by decide) (by simp only [List.map, gR_cat, gI_cat, gL_cat, List.sum_cons, List.sum_nil]; decide) rfl (fun _ => rfl) (fun _ => rfl) T (fun v204 M203 h205 T => ?_)
        rcases T with T | T
        · exact ytV (by decide) (As := [gI v204]) (st := []) d_GL_erase_81 ca_GL_land ml_GL_96 im_GL_land se_GL_land gc_GL (gl_1 hX202 0) (gl_2 hX202 (a := 0) (by decide)) (gl_s0 hX202) rfl (by decide) (by decide) rfl (fun _ => rfl) (fun _ => rfl) T
        refine yxV_V (md' := true) (As := [gI v204]) (st := []) d_GL_erase_81 ca_GL_land ml_GL_96 im_GL_land se_GL_land gc_GL (gl_1 hX202 0) (gl_2 hX202 (a := 0) (by decide)) (gl_s0 hX202) rfl (by decide) (by decide) rfl (fun _ => rfl) (fun _ => rfl) T (fun X207 M206 T => ?_)
        obtain ⟨hX208, T⟩ := T
        refine wp_aload_n d_GL_erase_84 rfl rfl (g_nz (gl_1 hX208 0)) ?_
        refine xgetR d_GL_erase_85 gc_GL f_GL_54.1 f_GL_54.2.1 f_GL_54.2.2.1 (gl_1 hX208 0) (gl_2 hX208 (a := 0) (by decide)) (gl_s0 hX208) f_GL_54.2.2.2.2.1 (gl_f0 hX208 27 rfl) ?_
        refine wp_aload_n d_GL_erase_88 rfl rfl (g_nz (gl_1 hX208 0)) ?_
        refine xgetR d_GL_erase_89 gc_GL f_GL_40.1 f_GL_40.2.1 f_GL_40.2.2.1 (gl_1 hX208 0) (gl_2 hX208 (a := 0) (by decide)) (gl_s0 hX208) f_GL_40.2.2.2.2.1 (gl_f0 hX208 26 rfl) ?_
        refine wp_aload_n d_GL_erase_92 rfl rfl (g_nz (gl_1 hX208 0)) ?_
        refine xgetI d_GL_erase_93 gc_GL f_GL_81.1 f_GL_81.2.1 f_GL_81.2.2.1 (gl_1 hX208 0) (gl_2 hX208 (a := 0) (by decide)) (gl_s0 hX208) f_GL_81.2.2.2.2.1 (fun h209 => ?_)
        have T := T h209
        have h210 := T.1
        have q211 := T.2.1
        refine xaald d_GL_erase_96 (Or.inr rfl) (gl_1 hX208 23) (gl_2 hX208 (a := 23) (by decide)) (gl_s hX208 23 rfl) (g32_n h210 (by decide)) h210.1 h210.2 rfl ?_
        have T := T.2.2
        refine yxV_I (md' := true) (As := [gR G (X207.2.2 (c + 23) (Int.toNat (M206 c 8)))]) (st := []) d_GL_erase_97 ca_Rs_follow ml_GL_99 im_Rs_follow se_Rs_follow gc_Rs (gl_1 hX208 234) (gl_2 hX208 (a := 234) (by decide)) (gl_s hX208 24 rfl) rfl (by decide) (by decide) rfl (fun _ => rfl) (fun _ => rfl) T (fun v213 X215 M212 h214 T => ?_)
        obtain ⟨hX216, T⟩ := T
        exact wp_st (st' := [gI v213]) (by rfl) (wp_ireturn d_GL_erase_100 rfl (fun _ => rfl) (Nat.zero_le _) (Nat.zero_le _) T)
      · have T := T.2 h288
        refine wp_iload_n d_GL_erase_25 rfl rfl ?_
        refine wp_bipush d_GL_erase_26 ⟨by decide, by decide⟩ ?_
        refine xi_gt (tgt := 45) d_GL_erase_28 (by decide) (w32_id hx3) (w32_id (g32_c (x := 50) rfl)) (fun h287 => ?_) (fun h287 => ?_)
        · have T := T.1 h287
          refine wp_iconst d_GL_erase_45 ?_
          rcases T with T | T
          · exact ytS (by decide) (As := [gI 0]) (st := []) d_GL_erase_46 ca_GL_need ml_GL_69 sm_GL_need  rfl (by decide) (by decide) rfl (fun _ => rfl) (fun h => by cases h) T
          refine ycS_V (md' := false) (As := [gI 0]) (st := []) d_GL_erase_46 ca_GL_need ml_GL_69 sm_GL_need  rfl (by decide) (by decide) rfl id id T (fun M217 T => ?_)
          refine wp_aload_n d_GL_erase_49 rfl rfl (g_nz (gl_1 hX 0)) ?_
          refine xgetR d_GL_erase_50 gc_GL f_GL_34.1 f_GL_34.2.1 f_GL_34.2.2.1 (gl_1 hX 0) (gl_2 hX (a := 0) (by decide)) (gl_s0 hX) f_GL_34.2.2.2.2.1 (gl_f0 hX 23 rfl) ?_
          refine wp_aload_n d_GL_erase_53 rfl rfl (g_nz (gl_1 hX 0)) ?_
          refine xgetR d_GL_erase_54 gc_GL f_GL_40.1 f_GL_40.2.1 f_GL_40.2.2.1 (gl_1 hX 0) (gl_2 hX (a := 0) (by decide)) (gl_s0 hX) f_GL_40.2.2.2.2.1 (gl_f0 hX 26 rfl) ?_
          refine wp_aload_n d_GL_erase_57 rfl rfl (g_nz (gl_1 hX 0)) ?_
          refine xgetI d_GL_erase_58 gc_GL f_GL_81.1 f_GL_81.2.1 f_GL_81.2.2.1 (gl_1 hX 0) (gl_2 hX (a := 0) (by decide)) (gl_s0 hX) f_GL_81.2.2.2.2.1 (fun h218 => ?_)
          have T := T h218
          have h219 := T.1
          have q220 := T.2.1
          refine xaald d_GL_erase_61 (Or.inr rfl) (gl_1 hX 23) (gl_2 hX (a := 23) (by decide)) (gl_s hX 23 rfl) (g32_n h219 (by decide)) h219.1 h219.2 rfl ?_
          have T := T.2.2
          refine wp_aload_n d_GL_erase_62 rfl rfl (g_nz (gl_1 hX 0)) ?_
          have q221 := T.1
          have T := T.2
          refine xgetR d_GL_erase_63 gc_GL f_GL_45.1 f_GL_45.2.1 f_GL_45.2.2.1 (gl_1 hX 0) (gl_2 hX (a := 0) (by decide)) (gl_s0 hX) f_GL_45.2.2.2.2.1 rfl ?_
          refine yxV_V (md' := true) (As := [gR G (X.2.2 (c + 23) (Int.toNat (M217 c 8))), gR G (X.2.2 c 7)]) (st := []) d_GL_erase_66 ca_Ed_open ml_GL_84 im_Ed_open se_Ed_open gc_Ed (gl_1 hX 21) (gl_2 hX (a := 21) (by decide)) (gl_s hX 21 rfl) rfl (by decide) (by decide) rfl (fun _ => rfl) (fun _ => rfl) T (fun X223 M222 T => ?_)
          obtain ⟨hX224, T⟩ := T
          refine wp_aload_n d_GL_erase_69 rfl rfl (g_nz (gl_1 hX224 0)) ?_
          refine wp_aload_n d_GL_erase_70 rfl rfl (g_nz (gl_1 hX224 0)) ?_
          refine xgetR d_GL_erase_71 gc_GL f_GL_34.1 f_GL_34.2.1 f_GL_34.2.2.1 (gl_1 hX224 0) (gl_2 hX224 (a := 0) (by decide)) (gl_s0 hX224) f_GL_34.2.2.2.2.1 (gl_f0 hX224 23 rfl) ?_
          refine wp_iload_n d_GL_erase_74 rfl rfl ?_
          refine wp_iconst d_GL_erase_75 ?_
          refine wp_iload_n d_GL_erase_76 rfl rfl ?_
          refine wp_iload_n d_GL_erase_77 rfl rfl ?_
          refine ycV_Z (md' := true) (As := [gI x1, gI 0, gI x2, gI x3]) (st := [gR G c]) d_GL_erase_78 ca_Ed_shifted ml_GL_111 im_Ed_shifted se_Ed_shifted gc_Ed (gl_1 hX224 21) (gl_2 hX224 (a := 21) (by decide)) (gl_s hX224 21 rfl) rfl (by decide) (by simp only [List.map, gR_cat, gI_cat, gL_cat, List.sum_cons, List.sum_nil]; decide) rfl (fun _ => rfl) (fun _ => rfl) T (fun v226 M225 h227 T => ?_)
          rcases T with T | T
          · exact ytV (by decide) (As := [gI v226]) (st := []) d_GL_erase_81 ca_GL_land ml_GL_96 im_GL_land se_GL_land gc_GL (gl_1 hX224 0) (gl_2 hX224 (a := 0) (by decide)) (gl_s0 hX224) rfl (by decide) (by decide) rfl (fun _ => rfl) (fun _ => rfl) T
          refine yxV_V (md' := true) (As := [gI v226]) (st := []) d_GL_erase_81 ca_GL_land ml_GL_96 im_GL_land se_GL_land gc_GL (gl_1 hX224 0) (gl_2 hX224 (a := 0) (by decide)) (gl_s0 hX224) rfl (by decide) (by decide) rfl (fun _ => rfl) (fun _ => rfl) T (fun X229 M228 T => ?_)
          obtain ⟨hX230, T⟩ := T
          refine wp_aload_n d_GL_erase_84 rfl rfl (g_nz (gl_1 hX230 0)) ?_
          refine xgetR d_GL_erase_85 gc_GL f_GL_54.1 f_GL_54.2.1 f_GL_54.2.2.1 (gl_1 hX230 0) (gl_2 hX230 (a := 0) (by decide)) (gl_s0 hX230) f_GL_54.2.2.2.2.1 (gl_f0 hX230 27 rfl) ?_
          refine wp_aload_n d_GL_erase_88 rfl rfl (g_nz (gl_1 hX230 0)) ?_
          refine xgetR d_GL_erase_89 gc_GL f_GL_40.1 f_GL_40.2.1 f_GL_40.2.2.1 (gl_1 hX230 0) (gl_2 hX230 (a := 0) (by decide)) (gl_s0 hX230) f_GL_40.2.2.2.2.1 (gl_f0 hX230 26 rfl) ?_
          refine wp_aload_n d_GL_erase_92 rfl rfl (g_nz (gl_1 hX230 0)) ?_
          refine xgetI d_GL_erase_93 gc_GL f_GL_81.1 f_GL_81.2.1 f_GL_81.2.2.1 (gl_1 hX230 0) (gl_2 hX230 (a := 0) (by decide)) (gl_s0 hX230) f_GL_81.2.2.2.2.1 (fun h231 => ?_)
          have T := T h231
          have h232 := T.1
          have q233 := T.2.1
          refine xaald d_GL_erase_96 (Or.inr rfl) (gl_1 hX230 23) (gl_2 hX230 (a := 23) (by decide)) (gl_s hX230 23 rfl) (g32_n h232 (by decide)) h232.1 h232.2 rfl ?_
          have T := T.2.2
          refine yxV_I (md' := true) (As := [gR G (X229.2.2 (c + 23) (Int.toNat (M228 c 8)))]) (st := []) d_GL_erase_97 ca_Rs_follow ml_GL_99 im_Rs_follow se_Rs_follow gc_Rs (gl_1 hX230 234) (gl_2 hX230 (a := 234) (by decide)) (gl_s hX230 24 rfl) rfl (by decide) (by decide) rfl (fun _ => rfl) (fun _ => rfl) T (fun v235 X237 M234 h236 T => ?_)
          obtain ⟨hX238, T⟩ := T
          exact wp_st (st' := [gI v235]) (by rfl) (wp_ireturn d_GL_erase_100 rfl (fun _ => rfl) (Nat.zero_le _) (Nat.zero_le _) T)
        · have T := T.2 h287
          refine wp_iload_n d_GL_erase_31 rfl rfl ?_
          refine wp_iload_n d_GL_erase_32 rfl rfl ?_
          refine ycS_I (md' := false) (As := [gI x1]) (st := [gI x3]) d_GL_erase_33 ca_GL_lines ml_GL_107 sm_GL_lines rfl (by decide) (by simp only [List.map, gR_cat, gI_cat, gL_cat, List.sum_cons, List.sum_nil]; decide) rfl id id T (fun v240 M239 h241 T => ?_)
          refine wp_iload_n d_GL_erase_36 rfl rfl ?_
          refine wp_isub d_GL_erase_37 ?_
          refine xi_gt (tgt := 45) d_GL_erase_38 (by decide) (w32_id hx3) rfl (fun h286 => ?_) (fun h286 => ?_)
          · have T := T.1 h286
            refine wp_iconst d_GL_erase_45 ?_
            rcases T with T | T
            · exact ytS (by decide) (As := [gI 0]) (st := []) d_GL_erase_46 ca_GL_need ml_GL_69 sm_GL_need  rfl (by decide) (by decide) rfl (fun _ => rfl) (fun h => by cases h) T
            refine ycS_V (md' := false) (As := [gI 0]) (st := []) d_GL_erase_46 ca_GL_need ml_GL_69 sm_GL_need  rfl (by decide) (by decide) rfl id id T (fun M242 T => ?_)
            refine wp_aload_n d_GL_erase_49 rfl rfl (g_nz (gl_1 hX 0)) ?_
            refine xgetR d_GL_erase_50 gc_GL f_GL_34.1 f_GL_34.2.1 f_GL_34.2.2.1 (gl_1 hX 0) (gl_2 hX (a := 0) (by decide)) (gl_s0 hX) f_GL_34.2.2.2.2.1 (gl_f0 hX 23 rfl) ?_
            refine wp_aload_n d_GL_erase_53 rfl rfl (g_nz (gl_1 hX 0)) ?_
            refine xgetR d_GL_erase_54 gc_GL f_GL_40.1 f_GL_40.2.1 f_GL_40.2.2.1 (gl_1 hX 0) (gl_2 hX (a := 0) (by decide)) (gl_s0 hX) f_GL_40.2.2.2.2.1 (gl_f0 hX 26 rfl) ?_
            refine wp_aload_n d_GL_erase_57 rfl rfl (g_nz (gl_1 hX 0)) ?_
            refine xgetI d_GL_erase_58 gc_GL f_GL_81.1 f_GL_81.2.1 f_GL_81.2.2.1 (gl_1 hX 0) (gl_2 hX (a := 0) (by decide)) (gl_s0 hX) f_GL_81.2.2.2.2.1 (fun h243 => ?_)
            have T := T h243
            have h244 := T.1
            have q245 := T.2.1
            refine xaald d_GL_erase_61 (Or.inr rfl) (gl_1 hX 23) (gl_2 hX (a := 23) (by decide)) (gl_s hX 23 rfl) (g32_n h244 (by decide)) h244.1 h244.2 rfl ?_
            have T := T.2.2
            refine wp_aload_n d_GL_erase_62 rfl rfl (g_nz (gl_1 hX 0)) ?_
            have q246 := T.1
            have T := T.2
            refine xgetR d_GL_erase_63 gc_GL f_GL_45.1 f_GL_45.2.1 f_GL_45.2.2.1 (gl_1 hX 0) (gl_2 hX (a := 0) (by decide)) (gl_s0 hX) f_GL_45.2.2.2.2.1 rfl ?_
            refine yxV_V (md' := true) (As := [gR G (X.2.2 (c + 23) (Int.toNat (M242 c 8))), gR G (X.2.2 c 7)]) (st := []) d_GL_erase_66 ca_Ed_open ml_GL_84 im_Ed_open se_Ed_open gc_Ed (gl_1 hX 21) (gl_2 hX (a := 21) (by decide)) (gl_s hX 21 rfl) rfl (by decide) (by decide) rfl (fun _ => rfl) (fun _ => rfl) T (fun X248 M247 T => ?_)
            obtain ⟨hX249, T⟩ := T
            refine wp_aload_n d_GL_erase_69 rfl rfl (g_nz (gl_1 hX249 0)) ?_
            refine wp_aload_n d_GL_erase_70 rfl rfl (g_nz (gl_1 hX249 0)) ?_
            refine xgetR d_GL_erase_71 gc_GL f_GL_34.1 f_GL_34.2.1 f_GL_34.2.2.1 (gl_1 hX249 0) (gl_2 hX249 (a := 0) (by decide)) (gl_s0 hX249) f_GL_34.2.2.2.2.1 (gl_f0 hX249 23 rfl) ?_
            refine wp_iload_n d_GL_erase_74 rfl rfl ?_
            refine wp_iconst d_GL_erase_75 ?_
            refine wp_iload_n d_GL_erase_76 rfl rfl ?_
            refine wp_iload_n d_GL_erase_77 rfl rfl ?_
            refine ycV_Z (md' := true) (As := [gI x1, gI 0, gI x2, gI x3]) (st := [gR G c]) d_GL_erase_78 ca_Ed_shifted ml_GL_111 im_Ed_shifted se_Ed_shifted gc_Ed (gl_1 hX249 21) (gl_2 hX249 (a := 21) (by decide)) (gl_s hX249 21 rfl) rfl (by decide) (by simp only [List.map, gR_cat, gI_cat, gL_cat, List.sum_cons, List.sum_nil]; decide) rfl (fun _ => rfl) (fun _ => rfl) T (fun v251 M250 h252 T => ?_)
            rcases T with T | T
            · exact ytV (by decide) (As := [gI v251]) (st := []) d_GL_erase_81 ca_GL_land ml_GL_96 im_GL_land se_GL_land gc_GL (gl_1 hX249 0) (gl_2 hX249 (a := 0) (by decide)) (gl_s0 hX249) rfl (by decide) (by decide) rfl (fun _ => rfl) (fun _ => rfl) T
            refine yxV_V (md' := true) (As := [gI v251]) (st := []) d_GL_erase_81 ca_GL_land ml_GL_96 im_GL_land se_GL_land gc_GL (gl_1 hX249 0) (gl_2 hX249 (a := 0) (by decide)) (gl_s0 hX249) rfl (by decide) (by decide) rfl (fun _ => rfl) (fun _ => rfl) T (fun X254 M253 T => ?_)
            obtain ⟨hX255, T⟩ := T
            refine wp_aload_n d_GL_erase_84 rfl rfl (g_nz (gl_1 hX255 0)) ?_
            refine xgetR d_GL_erase_85 gc_GL f_GL_54.1 f_GL_54.2.1 f_GL_54.2.2.1 (gl_1 hX255 0) (gl_2 hX255 (a := 0) (by decide)) (gl_s0 hX255) f_GL_54.2.2.2.2.1 (gl_f0 hX255 27 rfl) ?_
            refine wp_aload_n d_GL_erase_88 rfl rfl (g_nz (gl_1 hX255 0)) ?_
            refine xgetR d_GL_erase_89 gc_GL f_GL_40.1 f_GL_40.2.1 f_GL_40.2.2.1 (gl_1 hX255 0) (gl_2 hX255 (a := 0) (by decide)) (gl_s0 hX255) f_GL_40.2.2.2.2.1 (gl_f0 hX255 26 rfl) ?_
            refine wp_aload_n d_GL_erase_92 rfl rfl (g_nz (gl_1 hX255 0)) ?_
            refine xgetI d_GL_erase_93 gc_GL f_GL_81.1 f_GL_81.2.1 f_GL_81.2.2.1 (gl_1 hX255 0) (gl_2 hX255 (a := 0) (by decide)) (gl_s0 hX255) f_GL_81.2.2.2.2.1 (fun h256 => ?_)
            have T := T h256
            have h257 := T.1
            have q258 := T.2.1
            refine xaald d_GL_erase_96 (Or.inr rfl) (gl_1 hX255 23) (gl_2 hX255 (a := 23) (by decide)) (gl_s hX255 23 rfl) (g32_n h257 (by decide)) h257.1 h257.2 rfl ?_
            have T := T.2.2
            refine yxV_I (md' := true) (As := [gR G (X254.2.2 (c + 23) (Int.toNat (M253 c 8)))]) (st := []) d_GL_erase_97 ca_Rs_follow ml_GL_99 im_Rs_follow se_Rs_follow gc_Rs (gl_1 hX255 234) (gl_2 hX255 (a := 234) (by decide)) (gl_s hX255 24 rfl) rfl (by decide) (by decide) rfl (fun _ => rfl) (fun _ => rfl) T (fun v260 X262 M259 h261 T => ?_)
            obtain ⟨hX263, T⟩ := T
            exact wp_st (st' := [gI v260]) (by rfl) (wp_ireturn d_GL_erase_100 rfl (fun _ => rfl) (Nat.zero_le _) (Nat.zero_le _) T)
          · have T := T.2 h286
            refine wp_iconst d_GL_erase_41 ?_
            refine wp_goto (tgt := 46) d_GL_erase_42 (by decide) ?_
            rcases T with T | T
            · exact ytS (by decide) (As := [gI 1]) (st := []) d_GL_erase_46 ca_GL_need ml_GL_69 sm_GL_need  rfl (by decide) (by decide) rfl (fun _ => rfl) (fun h => by cases h) T
            refine ycS_V (md' := false) (As := [gI 1]) (st := []) d_GL_erase_46 ca_GL_need ml_GL_69 sm_GL_need  rfl (by decide) (by decide) rfl id id T (fun M264 T => ?_)
            refine wp_aload_n d_GL_erase_49 rfl rfl (g_nz (gl_1 hX 0)) ?_
            refine xgetR d_GL_erase_50 gc_GL f_GL_34.1 f_GL_34.2.1 f_GL_34.2.2.1 (gl_1 hX 0) (gl_2 hX (a := 0) (by decide)) (gl_s0 hX) f_GL_34.2.2.2.2.1 (gl_f0 hX 23 rfl) ?_
            refine wp_aload_n d_GL_erase_53 rfl rfl (g_nz (gl_1 hX 0)) ?_
            refine xgetR d_GL_erase_54 gc_GL f_GL_40.1 f_GL_40.2.1 f_GL_40.2.2.1 (gl_1 hX 0) (gl_2 hX (a := 0) (by decide)) (gl_s0 hX) f_GL_40.2.2.2.2.1 (gl_f0 hX 26 rfl) ?_
            refine wp_aload_n d_GL_erase_57 rfl rfl (g_nz (gl_1 hX 0)) ?_
            refine xgetI d_GL_erase_58 gc_GL f_GL_81.1 f_GL_81.2.1 f_GL_81.2.2.1 (gl_1 hX 0) (gl_2 hX (a := 0) (by decide)) (gl_s0 hX) f_GL_81.2.2.2.2.1 (fun h265 => ?_)
            have T := T h265
            have h266 := T.1
            have q267 := T.2.1
            refine xaald d_GL_erase_61 (Or.inr rfl) (gl_1 hX 23) (gl_2 hX (a := 23) (by decide)) (gl_s hX 23 rfl) (g32_n h266 (by decide)) h266.1 h266.2 rfl ?_
            have T := T.2.2
            refine wp_aload_n d_GL_erase_62 rfl rfl (g_nz (gl_1 hX 0)) ?_
            have q268 := T.1
            have T := T.2
            refine xgetR d_GL_erase_63 gc_GL f_GL_45.1 f_GL_45.2.1 f_GL_45.2.2.1 (gl_1 hX 0) (gl_2 hX (a := 0) (by decide)) (gl_s0 hX) f_GL_45.2.2.2.2.1 rfl ?_
            refine yxV_V (md' := true) (As := [gR G (X.2.2 (c + 23) (Int.toNat (M264 c 8))), gR G (X.2.2 c 7)]) (st := []) d_GL_erase_66 ca_Ed_open ml_GL_84 im_Ed_open se_Ed_open gc_Ed (gl_1 hX 21) (gl_2 hX (a := 21) (by decide)) (gl_s hX 21 rfl) rfl (by decide) (by decide) rfl (fun _ => rfl) (fun _ => rfl) T (fun X270 M269 T => ?_)
            obtain ⟨hX271, T⟩ := T
            refine wp_aload_n d_GL_erase_69 rfl rfl (g_nz (gl_1 hX271 0)) ?_
            refine wp_aload_n d_GL_erase_70 rfl rfl (g_nz (gl_1 hX271 0)) ?_
            refine xgetR d_GL_erase_71 gc_GL f_GL_34.1 f_GL_34.2.1 f_GL_34.2.2.1 (gl_1 hX271 0) (gl_2 hX271 (a := 0) (by decide)) (gl_s0 hX271) f_GL_34.2.2.2.2.1 (gl_f0 hX271 23 rfl) ?_
            refine wp_iload_n d_GL_erase_74 rfl rfl ?_
            refine wp_iconst d_GL_erase_75 ?_
            refine wp_iload_n d_GL_erase_76 rfl rfl ?_
            refine wp_iload_n d_GL_erase_77 rfl rfl ?_
            refine ycV_Z (md' := true) (As := [gI x1, gI 0, gI x2, gI x3]) (st := [gR G c]) d_GL_erase_78 ca_Ed_shifted ml_GL_111 im_Ed_shifted se_Ed_shifted gc_Ed (gl_1 hX271 21) (gl_2 hX271 (a := 21) (by decide)) (gl_s hX271 21 rfl) rfl (by decide) (by simp only [List.map, gR_cat, gI_cat, gL_cat, List.sum_cons, List.sum_nil]; decide) rfl (fun _ => rfl) (fun _ => rfl) T (fun v273 M272 h274 T => ?_)
            rcases T with T | T
            · exact ytV (by decide) (As := [gI v273]) (st := []) d_GL_erase_81 ca_GL_land ml_GL_96 im_GL_land se_GL_land gc_GL (gl_1 hX271 0) (gl_2 hX271 (a := 0) (by decide)) (gl_s0 hX271) rfl (by decide) (by decide) rfl (fun _ => rfl) (fun _ => rfl) T
            refine yxV_V (md' := true) (As := [gI v273]) (st := []) d_GL_erase_81 ca_GL_land ml_GL_96 im_GL_land se_GL_land gc_GL (gl_1 hX271 0) (gl_2 hX271 (a := 0) (by decide)) (gl_s0 hX271) rfl (by decide) (by decide) rfl (fun _ => rfl) (fun _ => rfl) T (fun X276 M275 T => ?_)
            obtain ⟨hX277, T⟩ := T
            refine wp_aload_n d_GL_erase_84 rfl rfl (g_nz (gl_1 hX277 0)) ?_
            refine xgetR d_GL_erase_85 gc_GL f_GL_54.1 f_GL_54.2.1 f_GL_54.2.2.1 (gl_1 hX277 0) (gl_2 hX277 (a := 0) (by decide)) (gl_s0 hX277) f_GL_54.2.2.2.2.1 (gl_f0 hX277 27 rfl) ?_
            refine wp_aload_n d_GL_erase_88 rfl rfl (g_nz (gl_1 hX277 0)) ?_
            refine xgetR d_GL_erase_89 gc_GL f_GL_40.1 f_GL_40.2.1 f_GL_40.2.2.1 (gl_1 hX277 0) (gl_2 hX277 (a := 0) (by decide)) (gl_s0 hX277) f_GL_40.2.2.2.2.1 (gl_f0 hX277 26 rfl) ?_
            refine wp_aload_n d_GL_erase_92 rfl rfl (g_nz (gl_1 hX277 0)) ?_
            refine xgetI d_GL_erase_93 gc_GL f_GL_81.1 f_GL_81.2.1 f_GL_81.2.2.1 (gl_1 hX277 0) (gl_2 hX277 (a := 0) (by decide)) (gl_s0 hX277) f_GL_81.2.2.2.2.1 (fun h278 => ?_)
            have T := T h278
            have h279 := T.1
            have q280 := T.2.1
            refine xaald d_GL_erase_96 (Or.inr rfl) (gl_1 hX277 23) (gl_2 hX277 (a := 23) (by decide)) (gl_s hX277 23 rfl) (g32_n h279 (by decide)) h279.1 h279.2 rfl ?_
            have T := T.2.2
            refine yxV_I (md' := true) (As := [gR G (X276.2.2 (c + 23) (Int.toNat (M275 c 8)))]) (st := []) d_GL_erase_97 ca_Rs_follow ml_GL_99 im_Rs_follow se_Rs_follow gc_Rs (gl_1 hX277 234) (gl_2 hX277 (a := 234) (by decide)) (gl_s hX277 24 rfl) rfl (by decide) (by decide) rfl (fun _ => rfl) (fun _ => rfl) T (fun v282 X284 M281 h283 T => ?_)
            obtain ⟨hX285, T⟩ := T
            exact wp_st (st' := [gI v282]) (by rfl) (wp_ireturn d_GL_erase_100 rfl (fun _ => rfl) (Nat.zero_le _) (Nat.zero_le _) T)
theorem eu_GL_erase {l : Launch} {G : gG} {d : Nat} {X : gX} {M : gM} {Nr : Nat} {K : Outcome → gX → gM → Prop} {c : Nat} {x1 : Int} {x2 : Int} {x3 : Int} (T : wp l G y_GL_erase (gRr (d + 8) Nr) true K false 0 [.val (gR G c), .val (gI x1), .val (gI x2), .val (gI x3)] [] X M 0 0) : gCt l G y_GL_erase (gRr (d + 8) Nr) true [gR G c, gI x1, gI x2, gI x3] X M K := gCt.of (plainFor_of_name rfl) (by simp only [lg_sl_R, lg_sl_I, lg_sl_L, lg_sl_N, List.length_cons, List.length_nil]; decide) (by unfold gEn; simp only [lg_sl_R, lg_sl_I, lg_sl_L, lg_sl_N]; exact wpt T (And.intro rfl (And.intro rfl (And.intro rfl (And.intro rfl True.intro)))))
theorem d_GL_undo_0 : decode prog_1_method_8_code 0 = .ok (.aload_n 0, 1) := by decide +kernel
theorem d_GL_undo_1 : decode prog_1_method_8_code 1 = .ok (.getfield 115, 3) := by decide +kernel
theorem d_GL_undo_4 : decode prog_1_method_8_code 4 = .ok (.ifCond .ne 11, 3) := by decide +kernel
theorem d_GL_undo_15 : decode prog_1_method_8_code 15 = .ok (.aload_n 0, 1) := by decide +kernel
theorem d_GL_undo_16 : decode prog_1_method_8_code 16 = .ok (.aload_n 0, 1) := by decide +kernel
theorem d_GL_undo_17 : decode prog_1_method_8_code 17 = .ok (.getfield 81, 3) := by decide +kernel
theorem d_GL_undo_20 : decode prog_1_method_8_code 20 = .ok (.bipush 41, 2) := by decide +kernel
theorem d_GL_undo_22 : decode prog_1_method_8_code 22 = .ok (.iadd, 1) := by decide +kernel
theorem d_GL_undo_23 : decode prog_1_method_8_code 23 = .ok (.iconst 1, 1) := by decide +kernel
theorem d_GL_undo_24 : decode prog_1_method_8_code 24 = .ok (.isub, 1) := by decide +kernel
theorem d_GL_undo_25 : decode prog_1_method_8_code 25 = .ok (.bipush 41, 2) := by decide +kernel
theorem d_GL_undo_27 : decode prog_1_method_8_code 27 = .ok (.irem, 1) := by decide +kernel
theorem d_GL_undo_28 : decode prog_1_method_8_code 28 = .ok (.putfield 81, 3) := by decide +kernel
theorem d_GL_undo_31 : decode prog_1_method_8_code 31 = .ok (.aload_n 0, 1) := by decide +kernel
theorem d_GL_undo_32 : decode prog_1_method_8_code 32 = .ok (.dup, 1) := by decide +kernel
theorem d_GL_undo_33 : decode prog_1_method_8_code 33 = .ok (.getfield 115, 3) := by decide +kernel
theorem d_GL_undo_36 : decode prog_1_method_8_code 36 = .ok (.iconst 1, 1) := by decide +kernel
theorem d_GL_undo_37 : decode prog_1_method_8_code 37 = .ok (.isub, 1) := by decide +kernel
theorem d_GL_undo_38 : decode prog_1_method_8_code 38 = .ok (.putfield 115, 3) := by decide +kernel
theorem d_GL_undo_41 : decode prog_1_method_8_code 41 = .ok (.aload_n 0, 1) := by decide +kernel
theorem d_GL_undo_42 : decode prog_1_method_8_code 42 = .ok (.dup, 1) := by decide +kernel
theorem d_GL_undo_43 : decode prog_1_method_8_code 43 = .ok (.getfield 121, 3) := by decide +kernel
theorem d_GL_undo_46 : decode prog_1_method_8_code 46 = .ok (.iconst 1, 1) := by decide +kernel
theorem d_GL_undo_47 : decode prog_1_method_8_code 47 = .ok (.iadd, 1) := by decide +kernel
theorem d_GL_undo_48 : decode prog_1_method_8_code 48 = .ok (.putfield 121, 3) := by decide +kernel
theorem d_GL_undo_51 : decode prog_1_method_8_code 51 = .ok (.aload_n 0, 1) := by decide +kernel
theorem d_GL_undo_52 : decode prog_1_method_8_code 52 = .ok (.dup, 1) := by decide +kernel
theorem d_GL_undo_53 : decode prog_1_method_8_code 53 = .ok (.getfield 124, 3) := by decide +kernel
theorem d_GL_undo_56 : decode prog_1_method_8_code 56 = .ok (.iconst 1, 1) := by decide +kernel
theorem d_GL_undo_57 : decode prog_1_method_8_code 57 = .ok (.iadd, 1) := by decide +kernel
theorem d_GL_undo_58 : decode prog_1_method_8_code 58 = .ok (.putfield 124, 3) := by decide +kernel
theorem d_GL_undo_61 : decode prog_1_method_8_code 61 = .ok (.aload_n 0, 1) := by decide +kernel
theorem d_GL_undo_62 : decode prog_1_method_8_code 62 = .ok (.getfield 54, 3) := by decide +kernel
theorem d_GL_undo_65 : decode prog_1_method_8_code 65 = .ok (.aload_n 0, 1) := by decide +kernel
theorem d_GL_undo_66 : decode prog_1_method_8_code 66 = .ok (.getfield 40, 3) := by decide +kernel
theorem d_GL_undo_69 : decode prog_1_method_8_code 69 = .ok (.aload_n 0, 1) := by decide +kernel
theorem d_GL_undo_70 : decode prog_1_method_8_code 70 = .ok (.getfield 81, 3) := by decide +kernel
theorem d_GL_undo_73 : decode prog_1_method_8_code 73 = .ok (.aaload, 1) := by decide +kernel
theorem d_GL_undo_74 : decode prog_1_method_8_code 74 = .ok (.invokevirtual 99, 3) := by decide +kernel
theorem d_GL_undo_77 : decode prog_1_method_8_code 77 = .ok (.ireturn, 1) := by decide +kernel
theorem d_GL_undo_7 : decode prog_1_method_8_code 7 = .ok (.new 118, 3) := by decide +kernel
theorem d_GL_undo_10 : decode prog_1_method_8_code 10 = .ok (.dup, 1) := by decide +kernel
theorem d_GL_undo_11 : decode prog_1_method_8_code 11 = .ok (.invokespecial 120, 3) := by decide +kernel
theorem d_GL_undo_14 : decode prog_1_method_8_code 14 = .ok (.athrow, 1) := by decide +kernel
set_option maxHeartbeats 4000000 in
theorem u_GL_undo_0 {l : Launch} {G : gG} {d : Nat} {X : gX} {M : gM} {Nr : Nat} {K : Outcome → gX → gM → Prop} {c : Nat} (hX : glX X c)   (hl : gOk l G) (T : g32 (M c 9) → ((¬ M c 9 = 0 → (g32 (M c 8) → (g32 ((gUp M c 8 (w32 ((w32 (((M c 8) + 41) - 1)).tmod 41))) c 9) → (g32 ((gUp (gUp M c 8 (w32 ((w32 (((M c 8) + 41) - 1)).tmod 41))) c 9 (w32 (((gUp M c 8 (w32 ((w32 (((M c 8) + 41) - 1)).tmod 41))) c 9) - 1))) c 10) → (g32 ((gUp (gUp (gUp M c 8 (w32 ((w32 (((M c 8) + 41) - 1)).tmod 41))) c 9 (w32 (((gUp M c 8 (w32 ((w32 (((M c 8) + 41) - 1)).tmod 41))) c 9) - 1))) c 10 (w32 (((gUp (gUp M c 8 (w32 ((w32 (((M c 8) + 41) - 1)).tmod 41))) c 9 (w32 (((gUp M c 8 (w32 ((w32 (((M c 8) + 41) - 1)).tmod 41))) c 9) - 1))) c 10) + 1))) c 11) → (g32 ((gUp (gUp (gUp (gUp M c 8 (w32 ((w32 (((M c 8) + 41) - 1)).tmod 41))) c 9 (w32 (((gUp M c 8 (w32 ((w32 (((M c 8) + 41) - 1)).tmod 41))) c 9) - 1))) c 10 (w32 (((gUp (gUp M c 8 (w32 ((w32 (((M c 8) + 41) - 1)).tmod 41))) c 9 (w32 (((gUp M c 8 (w32 ((w32 (((M c 8) + 41) - 1)).tmod 41))) c 9) - 1))) c 10) + 1))) c 11 (w32 (((gUp (gUp (gUp M c 8 (w32 ((w32 (((M c 8) + 41) - 1)).tmod 41))) c 9 (w32 (((gUp M c 8 (w32 ((w32 (((M c 8) + 41) - 1)).tmod 41))) c 9) - 1))) c 10 (w32 (((gUp (gUp M c 8 (w32 ((w32 (((M c 8) + 41) - 1)).tmod 41))) c 9 (w32 (((gUp M c 8 (w32 ((w32 (((M c 8) + 41) - 1)).tmod 41))) c 9) - 1))) c 10) + 1))) c 11) + 1))) c 8) → (((0 : Int) ≤ (gUp (gUp (gUp (gUp M c 8 (w32 ((w32 (((M c 8) + 41) - 1)).tmod 41))) c 9 (w32 (((gUp M c 8 (w32 ((w32 (((M c 8) + 41) - 1)).tmod 41))) c 9) - 1))) c 10 (w32 (((gUp (gUp M c 8 (w32 ((w32 (((M c 8) + 41) - 1)).tmod 41))) c 9 (w32 (((gUp M c 8 (w32 ((w32 (((M c 8) + 41) - 1)).tmod 41))) c 9) - 1))) c 10) + 1))) c 11 (w32 (((gUp (gUp (gUp M c 8 (w32 ((w32 (((M c 8) + 41) - 1)).tmod 41))) c 9 (w32 (((gUp M c 8 (w32 ((w32 (((M c 8) + 41) - 1)).tmod 41))) c 9) - 1))) c 10 (w32 (((gUp (gUp M c 8 (w32 ((w32 (((M c 8) + 41) - 1)).tmod 41))) c 9 (w32 (((gUp M c 8 (w32 ((w32 (((M c 8) + 41) - 1)).tmod 41))) c 9) - 1))) c 10) + 1))) c 11) + 1))) c 8 ∧ (gUp (gUp (gUp (gUp M c 8 (w32 ((w32 (((M c 8) + 41) - 1)).tmod 41))) c 9 (w32 (((gUp M c 8 (w32 ((w32 (((M c 8) + 41) - 1)).tmod 41))) c 9) - 1))) c 10 (w32 (((gUp (gUp M c 8 (w32 ((w32 (((M c 8) + 41) - 1)).tmod 41))) c 9 (w32 (((gUp M c 8 (w32 ((w32 (((M c 8) + 41) - 1)).tmod 41))) c 9) - 1))) c 10) + 1))) c 11 (w32 (((gUp (gUp (gUp M c 8 (w32 ((w32 (((M c 8) + 41) - 1)).tmod 41))) c 9 (w32 (((gUp M c 8 (w32 ((w32 (((M c 8) + 41) - 1)).tmod 41))) c 9) - 1))) c 10 (w32 (((gUp (gUp M c 8 (w32 ((w32 (((M c 8) + 41) - 1)).tmod 41))) c 9 (w32 (((gUp M c 8 (w32 ((w32 (((M c 8) + 41) - 1)).tmod 41))) c 9) - 1))) c 10) + 1))) c 11) + 1))) c 8 < 41) ∧ gsX X (X.2.2 (c + 23) (Int.toNat ((gUp (gUp (gUp (gUp M c 8 (w32 ((w32 (((M c 8) + 41) - 1)).tmod 41))) c 9 (w32 (((gUp M c 8 (w32 ((w32 (((M c 8) + 41) - 1)).tmod 41))) c 9) - 1))) c 10 (w32 (((gUp (gUp M c 8 (w32 ((w32 (((M c 8) + 41) - 1)).tmod 41))) c 9 (w32 (((gUp M c 8 (w32 ((w32 (((M c 8) + 41) - 1)).tmod 41))) c 9) - 1))) c 10) + 1))) c 11 (w32 (((gUp (gUp (gUp M c 8 (w32 ((w32 (((M c 8) + 41) - 1)).tmod 41))) c 9 (w32 (((gUp M c 8 (w32 ((w32 (((M c 8) + 41) - 1)).tmod 41))) c 9) - 1))) c 10 (w32 (((gUp (gUp M c 8 (w32 ((w32 (((M c 8) + 41) - 1)).tmod 41))) c 9 (w32 (((gUp M c 8 (w32 ((w32 (((M c 8) + 41) - 1)).tmod 41))) c 9) - 1))) c 10) + 1))) c 11) + 1))) c 8))) ∧ (cXI l G y_Rs_follow (gRm (d + 7)) true [gR G (c + 234), gR G (X.2.2 (c + 23) (Int.toNat ((gUp (gUp (gUp (gUp M c 8 (w32 ((w32 (((M c 8) + 41) - 1)).tmod 41))) c 9 (w32 (((gUp M c 8 (w32 ((w32 (((M c 8) + 41) - 1)).tmod 41))) c 9) - 1))) c 10 (w32 (((gUp (gUp M c 8 (w32 ((w32 (((M c 8) + 41) - 1)).tmod 41))) c 9 (w32 (((gUp M c 8 (w32 ((w32 (((M c 8) + 41) - 1)).tmod 41))) c 9) - 1))) c 10) + 1))) c 11 (w32 (((gUp (gUp (gUp M c 8 (w32 ((w32 (((M c 8) + 41) - 1)).tmod 41))) c 9 (w32 (((gUp M c 8 (w32 ((w32 (((M c 8) + 41) - 1)).tmod 41))) c 9) - 1))) c 10 (w32 (((gUp (gUp M c 8 (w32 ((w32 (((M c 8) + 41) - 1)).tmod 41))) c 9 (w32 (((gUp M c 8 (w32 ((w32 (((M c 8) + 41) - 1)).tmod 41))) c 9) - 1))) c 10) + 1))) c 11) + 1))) c 8)))] X (gUp (gUp (gUp (gUp M c 8 (w32 ((w32 (((M c 8) + 41) - 1)).tmod 41))) c 9 (w32 (((gUp M c 8 (w32 ((w32 (((M c 8) + 41) - 1)).tmod 41))) c 9) - 1))) c 10 (w32 (((gUp (gUp M c 8 (w32 ((w32 (((M c 8) + 41) - 1)).tmod 41))) c 9 (w32 (((gUp M c 8 (w32 ((w32 (((M c 8) + 41) - 1)).tmod 41))) c 9) - 1))) c 10) + 1))) c 11 (w32 (((gUp (gUp (gUp M c 8 (w32 ((w32 (((M c 8) + 41) - 1)).tmod 41))) c 9 (w32 (((gUp M c 8 (w32 ((w32 (((M c 8) + 41) - 1)).tmod 41))) c 9) - 1))) c 10 (w32 (((gUp (gUp M c 8 (w32 ((w32 (((M c 8) + 41) - 1)).tmod 41))) c 9 (w32 (((gUp M c 8 (w32 ((w32 (((M c 8) + 41) - 1)).tmod 41))) c 9) - 1))) c 10) + 1))) c 11) + 1))) (fun v10 X12 M9 => glX X12 c ∧ (K (.returned (some (gI v10))) X12 M9)))))))))) ∧ (M c 9 = 0 → (1 ≤ Nr ∧ K (.threw (G.2.2.1 + (X.1 + 1))) (gNw X (20, 0)) (gZr M (X.1 + 1)))))) : wp l G y_GL_undo (gRr (d + 8) Nr) true K false 0 [.val (gR G c)] [] X M 0 0 := by
  refine wp_aload_n d_GL_undo_0 rfl rfl (g_nz (gl_1 hX 0)) ?_
  refine xgetI d_GL_undo_1 gc_GL f_GL_115.1 f_GL_115.2.1 f_GL_115.2.2.1 (gl_1 hX 0) (gl_2 hX (a := 0) (by decide)) (gl_s0 hX) f_GL_115.2.2.2.2.1 (fun h1 => ?_)
  have T := T h1
  refine xz_ne (tgt := 15) d_GL_undo_4 (by decide) (w32_id h1) (fun h14 => ?_) (fun h14 => ?_)
  · have T := T.1 h14
    refine wp_aload_n d_GL_undo_15 rfl rfl (g_nz (gl_1 hX 0)) ?_
    refine wp_aload_n d_GL_undo_16 rfl rfl (g_nz (gl_1 hX 0)) ?_
    refine xgetI d_GL_undo_17 gc_GL f_GL_81.1 f_GL_81.2.1 f_GL_81.2.2.1 (gl_1 hX 0) (gl_2 hX (a := 0) (by decide)) (gl_s0 hX) f_GL_81.2.2.2.2.1 (fun h2 => ?_)
    have T := T h2
    refine wp_bipush d_GL_undo_20 ⟨by decide, by decide⟩ ?_
    refine wp_iadd d_GL_undo_22 ?_
    refine wp_iconst d_GL_undo_23 ?_
    refine wp_isub d_GL_undo_24 ?_
    refine wp_bipush d_GL_undo_25 ⟨by decide, by decide⟩ ?_
    refine xirem d_GL_undo_27 rfl (w32_id (g32_c (x := 41) rfl)) (by decide) ?_
    refine xputI d_GL_undo_28 gc_GL f_GL_81.1 f_GL_81.2.1 f_GL_81.2.2.1 (gl_1 hX 0) (gl_2 hX (a := 0) (by decide)) (gl_s0 hX) f_GL_81.2.2.2.1 f_GL_81.2.2.2.2.1 f_GL_81.2.2.2.2.2 rfl ?_
    refine wp_aload_n d_GL_undo_31 rfl rfl (g_nz (gl_1 hX 0)) ?_
    refine wp_dup d_GL_undo_32 (gR_cat _) ?_
    refine xgetI d_GL_undo_33 gc_GL f_GL_115.1 f_GL_115.2.1 f_GL_115.2.2.1 (gl_1 hX 0) (gl_2 hX (a := 0) (by decide)) (gl_s0 hX) f_GL_115.2.2.2.2.1 (fun h3 => ?_)
    have T := T h3
    refine wp_iconst d_GL_undo_36 ?_
    refine wp_isub d_GL_undo_37 ?_
    refine xputI d_GL_undo_38 gc_GL f_GL_115.1 f_GL_115.2.1 f_GL_115.2.2.1 (gl_1 hX 0) (gl_2 hX (a := 0) (by decide)) (gl_s0 hX) f_GL_115.2.2.2.1 f_GL_115.2.2.2.2.1 f_GL_115.2.2.2.2.2 rfl ?_
    refine wp_aload_n d_GL_undo_41 rfl rfl (g_nz (gl_1 hX 0)) ?_
    refine wp_dup d_GL_undo_42 (gR_cat _) ?_
    refine xgetI d_GL_undo_43 gc_GL f_GL_121.1 f_GL_121.2.1 f_GL_121.2.2.1 (gl_1 hX 0) (gl_2 hX (a := 0) (by decide)) (gl_s0 hX) f_GL_121.2.2.2.2.1 (fun h4 => ?_)
    have T := T h4
    refine wp_iconst d_GL_undo_46 ?_
    refine wp_iadd d_GL_undo_47 ?_
    refine xputI d_GL_undo_48 gc_GL f_GL_121.1 f_GL_121.2.1 f_GL_121.2.2.1 (gl_1 hX 0) (gl_2 hX (a := 0) (by decide)) (gl_s0 hX) f_GL_121.2.2.2.1 f_GL_121.2.2.2.2.1 f_GL_121.2.2.2.2.2 rfl ?_
    refine wp_aload_n d_GL_undo_51 rfl rfl (g_nz (gl_1 hX 0)) ?_
    refine wp_dup d_GL_undo_52 (gR_cat _) ?_
    refine xgetI d_GL_undo_53 gc_GL f_GL_124.1 f_GL_124.2.1 f_GL_124.2.2.1 (gl_1 hX 0) (gl_2 hX (a := 0) (by decide)) (gl_s0 hX) f_GL_124.2.2.2.2.1 (fun h5 => ?_)
    have T := T h5
    refine wp_iconst d_GL_undo_56 ?_
    refine wp_iadd d_GL_undo_57 ?_
    refine xputI d_GL_undo_58 gc_GL f_GL_124.1 f_GL_124.2.1 f_GL_124.2.2.1 (gl_1 hX 0) (gl_2 hX (a := 0) (by decide)) (gl_s0 hX) f_GL_124.2.2.2.1 f_GL_124.2.2.2.2.1 f_GL_124.2.2.2.2.2 rfl ?_
    refine wp_aload_n d_GL_undo_61 rfl rfl (g_nz (gl_1 hX 0)) ?_
    refine xgetR d_GL_undo_62 gc_GL f_GL_54.1 f_GL_54.2.1 f_GL_54.2.2.1 (gl_1 hX 0) (gl_2 hX (a := 0) (by decide)) (gl_s0 hX) f_GL_54.2.2.2.2.1 (gl_f0 hX 27 rfl) ?_
    refine wp_aload_n d_GL_undo_65 rfl rfl (g_nz (gl_1 hX 0)) ?_
    refine xgetR d_GL_undo_66 gc_GL f_GL_40.1 f_GL_40.2.1 f_GL_40.2.2.1 (gl_1 hX 0) (gl_2 hX (a := 0) (by decide)) (gl_s0 hX) f_GL_40.2.2.2.2.1 (gl_f0 hX 26 rfl) ?_
    refine wp_aload_n d_GL_undo_69 rfl rfl (g_nz (gl_1 hX 0)) ?_
    refine xgetI d_GL_undo_70 gc_GL f_GL_81.1 f_GL_81.2.1 f_GL_81.2.2.1 (gl_1 hX 0) (gl_2 hX (a := 0) (by decide)) (gl_s0 hX) f_GL_81.2.2.2.2.1 (fun h6 => ?_)
    have T := T h6
    have h7 := T.1
    have q8 := T.2.1
    refine xaald d_GL_undo_73 (Or.inr rfl) (gl_1 hX 23) (gl_2 hX (a := 23) (by decide)) (gl_s hX 23 rfl) (g32_n h7 (by decide)) h7.1 h7.2 rfl ?_
    have T := T.2.2
    refine yxV_I (md' := true) (As := [gR G (X.2.2 (c + 23) (Int.toNat ((gUp (gUp (gUp (gUp M c 8 (w32 ((w32 (((M c 8) + 41) - 1)).tmod 41))) c 9 (w32 (((gUp M c 8 (w32 ((w32 (((M c 8) + 41) - 1)).tmod 41))) c 9) - 1))) c 10 (w32 (((gUp (gUp M c 8 (w32 ((w32 (((M c 8) + 41) - 1)).tmod 41))) c 9 (w32 (((gUp M c 8 (w32 ((w32 (((M c 8) + 41) - 1)).tmod 41))) c 9) - 1))) c 10) + 1))) c 11 (w32 (((gUp (gUp (gUp M c 8 (w32 ((w32 (((M c 8) + 41) - 1)).tmod 41))) c 9 (w32 (((gUp M c 8 (w32 ((w32 (((M c 8) + 41) - 1)).tmod 41))) c 9) - 1))) c 10 (w32 (((gUp (gUp M c 8 (w32 ((w32 (((M c 8) + 41) - 1)).tmod 41))) c 9 (w32 (((gUp M c 8 (w32 ((w32 (((M c 8) + 41) - 1)).tmod 41))) c 9) - 1))) c 10) + 1))) c 11) + 1))) c 8)))]) (st := []) d_GL_undo_74 ca_Rs_follow ml_GL_99 im_Rs_follow se_Rs_follow gc_Rs (gl_1 hX 234) (gl_2 hX (a := 234) (by decide)) (gl_s hX 24 rfl) rfl (by decide) (by decide) rfl (fun _ => rfl) (fun _ => rfl) T (fun v10 X12 M9 h11 T => ?_)
    obtain ⟨hX13, T⟩ := T
    exact wp_st (st' := [gI v10]) (by rfl) (wp_ireturn d_GL_undo_77 rfl (fun _ => rfl) (Nat.zero_le _) (Nat.zero_le _) T)
  · have T := T.2 h14
    exact wp_throw (by decide) (ci := 14) (names := gEn_jIse) hl.1 d_GL_undo_7 d_GL_undo_10 d_GL_undo_11 d_GL_undo_14 cl_GL_118 it_jIse ii_jIse (by decide +kernel) (by decide +kernel) (gAt_GL_120 hl) rfl T.1 (g_six T.1) (g_frk d) (g_lok d) T.2
theorem eu_GL_undo {l : Launch} {G : gG} {d : Nat} {X : gX} {M : gM} {Nr : Nat} {K : Outcome → gX → gM → Prop} {c : Nat} (T : wp l G y_GL_undo (gRr (d + 8) Nr) true K false 0 [.val (gR G c)] [] X M 0 0) : gCt l G y_GL_undo (gRr (d + 8) Nr) true [gR G c] X M K := gCt.of (plainFor_of_name rfl) (by simp only [lg_sl_R, lg_sl_I, lg_sl_L, lg_sl_N, List.length_cons, List.length_nil]; decide) (by unfold gEn; simp only [lg_sl_R, lg_sl_I, lg_sl_L, lg_sl_N]; exact wpt T (And.intro rfl True.intro))
theorem d_GL_redo_0 : decode prog_1_method_9_code 0 = .ok (.aload_n 0, 1) := by decide +kernel
theorem d_GL_redo_1 : decode prog_1_method_9_code 1 = .ok (.getfield 121, 3) := by decide +kernel
theorem d_GL_redo_4 : decode prog_1_method_9_code 4 = .ok (.ifCond .ne 11, 3) := by decide +kernel
theorem d_GL_redo_15 : decode prog_1_method_9_code 15 = .ok (.aload_n 0, 1) := by decide +kernel
theorem d_GL_redo_16 : decode prog_1_method_9_code 16 = .ok (.aload_n 0, 1) := by decide +kernel
theorem d_GL_redo_17 : decode prog_1_method_9_code 17 = .ok (.getfield 81, 3) := by decide +kernel
theorem d_GL_redo_20 : decode prog_1_method_9_code 20 = .ok (.iconst 1, 1) := by decide +kernel
theorem d_GL_redo_21 : decode prog_1_method_9_code 21 = .ok (.iadd, 1) := by decide +kernel
theorem d_GL_redo_22 : decode prog_1_method_9_code 22 = .ok (.bipush 41, 2) := by decide +kernel
theorem d_GL_redo_24 : decode prog_1_method_9_code 24 = .ok (.irem, 1) := by decide +kernel
theorem d_GL_redo_25 : decode prog_1_method_9_code 25 = .ok (.putfield 81, 3) := by decide +kernel
theorem d_GL_redo_28 : decode prog_1_method_9_code 28 = .ok (.aload_n 0, 1) := by decide +kernel
theorem d_GL_redo_29 : decode prog_1_method_9_code 29 = .ok (.dup, 1) := by decide +kernel
theorem d_GL_redo_30 : decode prog_1_method_9_code 30 = .ok (.getfield 115, 3) := by decide +kernel
theorem d_GL_redo_33 : decode prog_1_method_9_code 33 = .ok (.iconst 1, 1) := by decide +kernel
theorem d_GL_redo_34 : decode prog_1_method_9_code 34 = .ok (.iadd, 1) := by decide +kernel
theorem d_GL_redo_35 : decode prog_1_method_9_code 35 = .ok (.putfield 115, 3) := by decide +kernel
theorem d_GL_redo_38 : decode prog_1_method_9_code 38 = .ok (.aload_n 0, 1) := by decide +kernel
theorem d_GL_redo_39 : decode prog_1_method_9_code 39 = .ok (.dup, 1) := by decide +kernel
theorem d_GL_redo_40 : decode prog_1_method_9_code 40 = .ok (.getfield 121, 3) := by decide +kernel
theorem d_GL_redo_43 : decode prog_1_method_9_code 43 = .ok (.iconst 1, 1) := by decide +kernel
theorem d_GL_redo_44 : decode prog_1_method_9_code 44 = .ok (.isub, 1) := by decide +kernel
theorem d_GL_redo_45 : decode prog_1_method_9_code 45 = .ok (.putfield 121, 3) := by decide +kernel
theorem d_GL_redo_48 : decode prog_1_method_9_code 48 = .ok (.aload_n 0, 1) := by decide +kernel
theorem d_GL_redo_49 : decode prog_1_method_9_code 49 = .ok (.dup, 1) := by decide +kernel
theorem d_GL_redo_50 : decode prog_1_method_9_code 50 = .ok (.getfield 124, 3) := by decide +kernel
theorem d_GL_redo_53 : decode prog_1_method_9_code 53 = .ok (.iconst 1, 1) := by decide +kernel
theorem d_GL_redo_54 : decode prog_1_method_9_code 54 = .ok (.iadd, 1) := by decide +kernel
theorem d_GL_redo_55 : decode prog_1_method_9_code 55 = .ok (.putfield 124, 3) := by decide +kernel
theorem d_GL_redo_58 : decode prog_1_method_9_code 58 = .ok (.aload_n 0, 1) := by decide +kernel
theorem d_GL_redo_59 : decode prog_1_method_9_code 59 = .ok (.getfield 54, 3) := by decide +kernel
theorem d_GL_redo_62 : decode prog_1_method_9_code 62 = .ok (.aload_n 0, 1) := by decide +kernel
theorem d_GL_redo_63 : decode prog_1_method_9_code 63 = .ok (.getfield 40, 3) := by decide +kernel
theorem d_GL_redo_66 : decode prog_1_method_9_code 66 = .ok (.aload_n 0, 1) := by decide +kernel
theorem d_GL_redo_67 : decode prog_1_method_9_code 67 = .ok (.getfield 81, 3) := by decide +kernel
theorem d_GL_redo_70 : decode prog_1_method_9_code 70 = .ok (.aaload, 1) := by decide +kernel
theorem d_GL_redo_71 : decode prog_1_method_9_code 71 = .ok (.invokevirtual 99, 3) := by decide +kernel
theorem d_GL_redo_74 : decode prog_1_method_9_code 74 = .ok (.ireturn, 1) := by decide +kernel
theorem d_GL_redo_7 : decode prog_1_method_9_code 7 = .ok (.new 118, 3) := by decide +kernel
theorem d_GL_redo_10 : decode prog_1_method_9_code 10 = .ok (.dup, 1) := by decide +kernel
theorem d_GL_redo_11 : decode prog_1_method_9_code 11 = .ok (.invokespecial 120, 3) := by decide +kernel
theorem d_GL_redo_14 : decode prog_1_method_9_code 14 = .ok (.athrow, 1) := by decide +kernel
set_option maxHeartbeats 4000000 in
theorem u_GL_redo_0 {l : Launch} {G : gG} {d : Nat} {X : gX} {M : gM} {Nr : Nat} {K : Outcome → gX → gM → Prop} {c : Nat} (hX : glX X c)   (hl : gOk l G) (T : g32 (M c 10) → ((¬ M c 10 = 0 → (g32 (M c 8) → (g32 ((gUp M c 8 (w32 ((w32 ((M c 8) + 1)).tmod 41))) c 9) → (g32 ((gUp (gUp M c 8 (w32 ((w32 ((M c 8) + 1)).tmod 41))) c 9 (w32 (((gUp M c 8 (w32 ((w32 ((M c 8) + 1)).tmod 41))) c 9) + 1))) c 10) → (g32 ((gUp (gUp (gUp M c 8 (w32 ((w32 ((M c 8) + 1)).tmod 41))) c 9 (w32 (((gUp M c 8 (w32 ((w32 ((M c 8) + 1)).tmod 41))) c 9) + 1))) c 10 (w32 (((gUp (gUp M c 8 (w32 ((w32 ((M c 8) + 1)).tmod 41))) c 9 (w32 (((gUp M c 8 (w32 ((w32 ((M c 8) + 1)).tmod 41))) c 9) + 1))) c 10) - 1))) c 11) → (g32 ((gUp (gUp (gUp (gUp M c 8 (w32 ((w32 ((M c 8) + 1)).tmod 41))) c 9 (w32 (((gUp M c 8 (w32 ((w32 ((M c 8) + 1)).tmod 41))) c 9) + 1))) c 10 (w32 (((gUp (gUp M c 8 (w32 ((w32 ((M c 8) + 1)).tmod 41))) c 9 (w32 (((gUp M c 8 (w32 ((w32 ((M c 8) + 1)).tmod 41))) c 9) + 1))) c 10) - 1))) c 11 (w32 (((gUp (gUp (gUp M c 8 (w32 ((w32 ((M c 8) + 1)).tmod 41))) c 9 (w32 (((gUp M c 8 (w32 ((w32 ((M c 8) + 1)).tmod 41))) c 9) + 1))) c 10 (w32 (((gUp (gUp M c 8 (w32 ((w32 ((M c 8) + 1)).tmod 41))) c 9 (w32 (((gUp M c 8 (w32 ((w32 ((M c 8) + 1)).tmod 41))) c 9) + 1))) c 10) - 1))) c 11) + 1))) c 8) → (((0 : Int) ≤ (gUp (gUp (gUp (gUp M c 8 (w32 ((w32 ((M c 8) + 1)).tmod 41))) c 9 (w32 (((gUp M c 8 (w32 ((w32 ((M c 8) + 1)).tmod 41))) c 9) + 1))) c 10 (w32 (((gUp (gUp M c 8 (w32 ((w32 ((M c 8) + 1)).tmod 41))) c 9 (w32 (((gUp M c 8 (w32 ((w32 ((M c 8) + 1)).tmod 41))) c 9) + 1))) c 10) - 1))) c 11 (w32 (((gUp (gUp (gUp M c 8 (w32 ((w32 ((M c 8) + 1)).tmod 41))) c 9 (w32 (((gUp M c 8 (w32 ((w32 ((M c 8) + 1)).tmod 41))) c 9) + 1))) c 10 (w32 (((gUp (gUp M c 8 (w32 ((w32 ((M c 8) + 1)).tmod 41))) c 9 (w32 (((gUp M c 8 (w32 ((w32 ((M c 8) + 1)).tmod 41))) c 9) + 1))) c 10) - 1))) c 11) + 1))) c 8 ∧ (gUp (gUp (gUp (gUp M c 8 (w32 ((w32 ((M c 8) + 1)).tmod 41))) c 9 (w32 (((gUp M c 8 (w32 ((w32 ((M c 8) + 1)).tmod 41))) c 9) + 1))) c 10 (w32 (((gUp (gUp M c 8 (w32 ((w32 ((M c 8) + 1)).tmod 41))) c 9 (w32 (((gUp M c 8 (w32 ((w32 ((M c 8) + 1)).tmod 41))) c 9) + 1))) c 10) - 1))) c 11 (w32 (((gUp (gUp (gUp M c 8 (w32 ((w32 ((M c 8) + 1)).tmod 41))) c 9 (w32 (((gUp M c 8 (w32 ((w32 ((M c 8) + 1)).tmod 41))) c 9) + 1))) c 10 (w32 (((gUp (gUp M c 8 (w32 ((w32 ((M c 8) + 1)).tmod 41))) c 9 (w32 (((gUp M c 8 (w32 ((w32 ((M c 8) + 1)).tmod 41))) c 9) + 1))) c 10) - 1))) c 11) + 1))) c 8 < 41) ∧ gsX X (X.2.2 (c + 23) (Int.toNat ((gUp (gUp (gUp (gUp M c 8 (w32 ((w32 ((M c 8) + 1)).tmod 41))) c 9 (w32 (((gUp M c 8 (w32 ((w32 ((M c 8) + 1)).tmod 41))) c 9) + 1))) c 10 (w32 (((gUp (gUp M c 8 (w32 ((w32 ((M c 8) + 1)).tmod 41))) c 9 (w32 (((gUp M c 8 (w32 ((w32 ((M c 8) + 1)).tmod 41))) c 9) + 1))) c 10) - 1))) c 11 (w32 (((gUp (gUp (gUp M c 8 (w32 ((w32 ((M c 8) + 1)).tmod 41))) c 9 (w32 (((gUp M c 8 (w32 ((w32 ((M c 8) + 1)).tmod 41))) c 9) + 1))) c 10 (w32 (((gUp (gUp M c 8 (w32 ((w32 ((M c 8) + 1)).tmod 41))) c 9 (w32 (((gUp M c 8 (w32 ((w32 ((M c 8) + 1)).tmod 41))) c 9) + 1))) c 10) - 1))) c 11) + 1))) c 8))) ∧ (cXI l G y_Rs_follow (gRm (d + 7)) true [gR G (c + 234), gR G (X.2.2 (c + 23) (Int.toNat ((gUp (gUp (gUp (gUp M c 8 (w32 ((w32 ((M c 8) + 1)).tmod 41))) c 9 (w32 (((gUp M c 8 (w32 ((w32 ((M c 8) + 1)).tmod 41))) c 9) + 1))) c 10 (w32 (((gUp (gUp M c 8 (w32 ((w32 ((M c 8) + 1)).tmod 41))) c 9 (w32 (((gUp M c 8 (w32 ((w32 ((M c 8) + 1)).tmod 41))) c 9) + 1))) c 10) - 1))) c 11 (w32 (((gUp (gUp (gUp M c 8 (w32 ((w32 ((M c 8) + 1)).tmod 41))) c 9 (w32 (((gUp M c 8 (w32 ((w32 ((M c 8) + 1)).tmod 41))) c 9) + 1))) c 10 (w32 (((gUp (gUp M c 8 (w32 ((w32 ((M c 8) + 1)).tmod 41))) c 9 (w32 (((gUp M c 8 (w32 ((w32 ((M c 8) + 1)).tmod 41))) c 9) + 1))) c 10) - 1))) c 11) + 1))) c 8)))] X (gUp (gUp (gUp (gUp M c 8 (w32 ((w32 ((M c 8) + 1)).tmod 41))) c 9 (w32 (((gUp M c 8 (w32 ((w32 ((M c 8) + 1)).tmod 41))) c 9) + 1))) c 10 (w32 (((gUp (gUp M c 8 (w32 ((w32 ((M c 8) + 1)).tmod 41))) c 9 (w32 (((gUp M c 8 (w32 ((w32 ((M c 8) + 1)).tmod 41))) c 9) + 1))) c 10) - 1))) c 11 (w32 (((gUp (gUp (gUp M c 8 (w32 ((w32 ((M c 8) + 1)).tmod 41))) c 9 (w32 (((gUp M c 8 (w32 ((w32 ((M c 8) + 1)).tmod 41))) c 9) + 1))) c 10 (w32 (((gUp (gUp M c 8 (w32 ((w32 ((M c 8) + 1)).tmod 41))) c 9 (w32 (((gUp M c 8 (w32 ((w32 ((M c 8) + 1)).tmod 41))) c 9) + 1))) c 10) - 1))) c 11) + 1))) (fun v10 X12 M9 => glX X12 c ∧ (K (.returned (some (gI v10))) X12 M9)))))))))) ∧ (M c 10 = 0 → (1 ≤ Nr ∧ K (.threw (G.2.2.1 + (X.1 + 1))) (gNw X (20, 0)) (gZr M (X.1 + 1)))))) : wp l G y_GL_redo (gRr (d + 8) Nr) true K false 0 [.val (gR G c)] [] X M 0 0 := by
  refine wp_aload_n d_GL_redo_0 rfl rfl (g_nz (gl_1 hX 0)) ?_
  refine xgetI d_GL_redo_1 gc_GL f_GL_121.1 f_GL_121.2.1 f_GL_121.2.2.1 (gl_1 hX 0) (gl_2 hX (a := 0) (by decide)) (gl_s0 hX) f_GL_121.2.2.2.2.1 (fun h1 => ?_)
  have T := T h1
  refine xz_ne (tgt := 15) d_GL_redo_4 (by decide) (w32_id h1) (fun h14 => ?_) (fun h14 => ?_)
  · have T := T.1 h14
    refine wp_aload_n d_GL_redo_15 rfl rfl (g_nz (gl_1 hX 0)) ?_
    refine wp_aload_n d_GL_redo_16 rfl rfl (g_nz (gl_1 hX 0)) ?_
    refine xgetI d_GL_redo_17 gc_GL f_GL_81.1 f_GL_81.2.1 f_GL_81.2.2.1 (gl_1 hX 0) (gl_2 hX (a := 0) (by decide)) (gl_s0 hX) f_GL_81.2.2.2.2.1 (fun h2 => ?_)
    have T := T h2
    refine wp_iconst d_GL_redo_20 ?_
    refine wp_iadd d_GL_redo_21 ?_
    refine wp_bipush d_GL_redo_22 ⟨by decide, by decide⟩ ?_
    refine xirem d_GL_redo_24 rfl (w32_id (g32_c (x := 41) rfl)) (by decide) ?_
    refine xputI d_GL_redo_25 gc_GL f_GL_81.1 f_GL_81.2.1 f_GL_81.2.2.1 (gl_1 hX 0) (gl_2 hX (a := 0) (by decide)) (gl_s0 hX) f_GL_81.2.2.2.1 f_GL_81.2.2.2.2.1 f_GL_81.2.2.2.2.2 rfl ?_
    refine wp_aload_n d_GL_redo_28 rfl rfl (g_nz (gl_1 hX 0)) ?_
    refine wp_dup d_GL_redo_29 (gR_cat _) ?_
    refine xgetI d_GL_redo_30 gc_GL f_GL_115.1 f_GL_115.2.1 f_GL_115.2.2.1 (gl_1 hX 0) (gl_2 hX (a := 0) (by decide)) (gl_s0 hX) f_GL_115.2.2.2.2.1 (fun h3 => ?_)
    have T := T h3
    refine wp_iconst d_GL_redo_33 ?_
    refine wp_iadd d_GL_redo_34 ?_
    refine xputI d_GL_redo_35 gc_GL f_GL_115.1 f_GL_115.2.1 f_GL_115.2.2.1 (gl_1 hX 0) (gl_2 hX (a := 0) (by decide)) (gl_s0 hX) f_GL_115.2.2.2.1 f_GL_115.2.2.2.2.1 f_GL_115.2.2.2.2.2 rfl ?_
    refine wp_aload_n d_GL_redo_38 rfl rfl (g_nz (gl_1 hX 0)) ?_
    refine wp_dup d_GL_redo_39 (gR_cat _) ?_
    refine xgetI d_GL_redo_40 gc_GL f_GL_121.1 f_GL_121.2.1 f_GL_121.2.2.1 (gl_1 hX 0) (gl_2 hX (a := 0) (by decide)) (gl_s0 hX) f_GL_121.2.2.2.2.1 (fun h4 => ?_)
    have T := T h4
    refine wp_iconst d_GL_redo_43 ?_
    refine wp_isub d_GL_redo_44 ?_
    refine xputI d_GL_redo_45 gc_GL f_GL_121.1 f_GL_121.2.1 f_GL_121.2.2.1 (gl_1 hX 0) (gl_2 hX (a := 0) (by decide)) (gl_s0 hX) f_GL_121.2.2.2.1 f_GL_121.2.2.2.2.1 f_GL_121.2.2.2.2.2 rfl ?_
    refine wp_aload_n d_GL_redo_48 rfl rfl (g_nz (gl_1 hX 0)) ?_
    refine wp_dup d_GL_redo_49 (gR_cat _) ?_
    refine xgetI d_GL_redo_50 gc_GL f_GL_124.1 f_GL_124.2.1 f_GL_124.2.2.1 (gl_1 hX 0) (gl_2 hX (a := 0) (by decide)) (gl_s0 hX) f_GL_124.2.2.2.2.1 (fun h5 => ?_)
    have T := T h5
    refine wp_iconst d_GL_redo_53 ?_
    refine wp_iadd d_GL_redo_54 ?_
    refine xputI d_GL_redo_55 gc_GL f_GL_124.1 f_GL_124.2.1 f_GL_124.2.2.1 (gl_1 hX 0) (gl_2 hX (a := 0) (by decide)) (gl_s0 hX) f_GL_124.2.2.2.1 f_GL_124.2.2.2.2.1 f_GL_124.2.2.2.2.2 rfl ?_
    refine wp_aload_n d_GL_redo_58 rfl rfl (g_nz (gl_1 hX 0)) ?_
    refine xgetR d_GL_redo_59 gc_GL f_GL_54.1 f_GL_54.2.1 f_GL_54.2.2.1 (gl_1 hX 0) (gl_2 hX (a := 0) (by decide)) (gl_s0 hX) f_GL_54.2.2.2.2.1 (gl_f0 hX 27 rfl) ?_
    refine wp_aload_n d_GL_redo_62 rfl rfl (g_nz (gl_1 hX 0)) ?_
    refine xgetR d_GL_redo_63 gc_GL f_GL_40.1 f_GL_40.2.1 f_GL_40.2.2.1 (gl_1 hX 0) (gl_2 hX (a := 0) (by decide)) (gl_s0 hX) f_GL_40.2.2.2.2.1 (gl_f0 hX 26 rfl) ?_
    refine wp_aload_n d_GL_redo_66 rfl rfl (g_nz (gl_1 hX 0)) ?_
    refine xgetI d_GL_redo_67 gc_GL f_GL_81.1 f_GL_81.2.1 f_GL_81.2.2.1 (gl_1 hX 0) (gl_2 hX (a := 0) (by decide)) (gl_s0 hX) f_GL_81.2.2.2.2.1 (fun h6 => ?_)
    have T := T h6
    have h7 := T.1
    have q8 := T.2.1
    refine xaald d_GL_redo_70 (Or.inr rfl) (gl_1 hX 23) (gl_2 hX (a := 23) (by decide)) (gl_s hX 23 rfl) (g32_n h7 (by decide)) h7.1 h7.2 rfl ?_
    have T := T.2.2
    refine yxV_I (md' := true) (As := [gR G (X.2.2 (c + 23) (Int.toNat ((gUp (gUp (gUp (gUp M c 8 (w32 ((w32 ((M c 8) + 1)).tmod 41))) c 9 (w32 (((gUp M c 8 (w32 ((w32 ((M c 8) + 1)).tmod 41))) c 9) + 1))) c 10 (w32 (((gUp (gUp M c 8 (w32 ((w32 ((M c 8) + 1)).tmod 41))) c 9 (w32 (((gUp M c 8 (w32 ((w32 ((M c 8) + 1)).tmod 41))) c 9) + 1))) c 10) - 1))) c 11 (w32 (((gUp (gUp (gUp M c 8 (w32 ((w32 ((M c 8) + 1)).tmod 41))) c 9 (w32 (((gUp M c 8 (w32 ((w32 ((M c 8) + 1)).tmod 41))) c 9) + 1))) c 10 (w32 (((gUp (gUp M c 8 (w32 ((w32 ((M c 8) + 1)).tmod 41))) c 9 (w32 (((gUp M c 8 (w32 ((w32 ((M c 8) + 1)).tmod 41))) c 9) + 1))) c 10) - 1))) c 11) + 1))) c 8)))]) (st := []) d_GL_redo_71 ca_Rs_follow ml_GL_99 im_Rs_follow se_Rs_follow gc_Rs (gl_1 hX 234) (gl_2 hX (a := 234) (by decide)) (gl_s hX 24 rfl) rfl (by decide) (by decide) rfl (fun _ => rfl) (fun _ => rfl) T (fun v10 X12 M9 h11 T => ?_)
    obtain ⟨hX13, T⟩ := T
    exact wp_st (st' := [gI v10]) (by rfl) (wp_ireturn d_GL_redo_74 rfl (fun _ => rfl) (Nat.zero_le _) (Nat.zero_le _) T)
  · have T := T.2 h14
    exact wp_throw (by decide) (ci := 14) (names := gEn_jIse) hl.1 d_GL_redo_7 d_GL_redo_10 d_GL_redo_11 d_GL_redo_14 cl_GL_118 it_jIse ii_jIse (by decide +kernel) (by decide +kernel) (gAt_GL_120 hl) rfl T.1 (g_six T.1) (g_frk d) (g_lok d) T.2
theorem eu_GL_redo {l : Launch} {G : gG} {d : Nat} {X : gX} {M : gM} {Nr : Nat} {K : Outcome → gX → gM → Prop} {c : Nat} (T : wp l G y_GL_redo (gRr (d + 8) Nr) true K false 0 [.val (gR G c)] [] X M 0 0) : gCt l G y_GL_redo (gRr (d + 8) Nr) true [gR G c] X M K := gCt.of (plainFor_of_name rfl) (by simp only [lg_sl_R, lg_sl_I, lg_sl_L, lg_sl_N, List.length_cons, List.length_nil]; decide) (by unfold gEn; simp only [lg_sl_R, lg_sl_I, lg_sl_L, lg_sl_N]; exact wpt T (And.intro rfl True.intro))
set_option maxHeartbeats 4000000 in
theorem u_GL_value_0 {l : Launch} {G : gG} {d : Nat} {X : gX} {M : gM} {Nr : Nat} {K : Outcome → gX → gM → Prop} {c : Nat} (hX : glX X c) {x1 : Int} (hx1 : g32 x1) {x2 : Int} (hx2 : g32 x2) {x3 : Int} (hx3 : g32 x3)  (T : cT l G y_GL_needCell (gRr (d + 7) Nr) false [gI x1, gI x2] X M K ∨ cV l G y_GL_needCell (gRm (d + 7)) false [gI x1, gI x2] X M (fun M1 => ((x3 = 0 → (cT l G y_GL_need (gRr (d + 7) Nr) false [gI 1] X M1 K ∨ cV l G y_GL_need (gRm (d + 7)) false [gI 1] X M1 (fun M2 => (cI l G y_GL_place (gRm (d + 7)) false [gI x1, gI x2] X M2 (fun v4 M3 => (((0 : Int) ≤ v4 ∧ v4 < 5200) ∧ (g32 (M3 (c + 235) (Int.toNat v4)) → ((¬ x3 = 0 → (gvX X (X.2.2 (c + 234) 4) 401 ∧ (((0 : Int) ≤ M3 (c + 235) (Int.toNat v4) ∧ M3 (c + 235) (Int.toNat v4) < 401) ∧ (g64 (M3 ((X.2.2 (c + 234) 4) + 2) (Int.toNat (M3 (c + 235) (Int.toNat v4)))) → (K (.returned (some (gL (M3 ((X.2.2 (c + 234) 4) + 2) (Int.toNat (M3 (c + 235) (Int.toNat v4))))))) X M3))))) ∧ (x3 = 0 → (gvX X (X.2.2 (c + 234) 4) 401 ∧ (((0 : Int) ≤ M3 (c + 235) (Int.toNat v4) ∧ M3 (c + 235) (Int.toNat v4) < 401) ∧ (g32 (M3 ((X.2.2 (c + 234) 4) + 1) (Int.toNat (M3 (c + 235) (Int.toNat v4)))) → (K (.returned (some (gL (M3 ((X.2.2 (c + 234) 4) + 1) (Int.toNat (M3 (c + 235) (Int.toNat v4))))))) X M3))))))))))))) ∧ (¬ x3 = 0 → ((¬ x3 = 1 → (cT l G y_GL_need (gRr (d + 7) Nr) false [gI 0] X M1 K ∨ cV l G y_GL_need (gRm (d + 7)) false [gI 0] X M1 (fun M12 => (cI l G y_GL_place (gRm (d + 7)) false [gI x1, gI x2] X M12 (fun v14 M13 => (((0 : Int) ≤ v14 ∧ v14 < 5200) ∧ (g32 (M13 (c + 235) (Int.toNat v14)) → ((¬ x3 = 0 → (gvX X (X.2.2 (c + 234) 4) 401 ∧ (((0 : Int) ≤ M13 (c + 235) (Int.toNat v14) ∧ M13 (c + 235) (Int.toNat v14) < 401) ∧ (g64 (M13 ((X.2.2 (c + 234) 4) + 2) (Int.toNat (M13 (c + 235) (Int.toNat v14)))) → (K (.returned (some (gL (M13 ((X.2.2 (c + 234) 4) + 2) (Int.toNat (M13 (c + 235) (Int.toNat v14))))))) X M13))))) ∧ (x3 = 0 → (gvX X (X.2.2 (c + 234) 4) 401 ∧ (((0 : Int) ≤ M13 (c + 235) (Int.toNat v14) ∧ M13 (c + 235) (Int.toNat v14) < 401) ∧ (g32 (M13 ((X.2.2 (c + 234) 4) + 1) (Int.toNat (M13 (c + 235) (Int.toNat v14)))) → (K (.returned (some (gL (M13 ((X.2.2 (c + 234) 4) + 1) (Int.toNat (M13 (c + 235) (Int.toNat v14))))))) X M13))))))))))))) ∧ (x3 = 1 → (cT l G y_GL_need (gRr (d + 7) Nr) false [gI 1] X M1 K ∨ cV l G y_GL_need (gRm (d + 7)) false [gI 1] X M1 (fun M22 => (cI l G y_GL_place (gRm (d + 7)) false [gI x1, gI x2] X M22 (fun v24 M23 => (((0 : Int) ≤ v24 ∧ v24 < 5200) ∧ (g32 (M23 (c + 235) (Int.toNat v24)) → ((¬ x3 = 0 → (gvX X (X.2.2 (c + 234) 4) 401 ∧ (((0 : Int) ≤ M23 (c + 235) (Int.toNat v24) ∧ M23 (c + 235) (Int.toNat v24) < 401) ∧ (g64 (M23 ((X.2.2 (c + 234) 4) + 2) (Int.toNat (M23 (c + 235) (Int.toNat v24)))) → (K (.returned (some (gL (M23 ((X.2.2 (c + 234) 4) + 2) (Int.toNat (M23 (c + 235) (Int.toNat v24))))))) X M23))))) ∧ (x3 = 0 → (gvX X (X.2.2 (c + 234) 4) 401 ∧ (((0 : Int) ≤ M23 (c + 235) (Int.toNat v24) ∧ M23 (c + 235) (Int.toNat v24) < 401) ∧ (g32 (M23 ((X.2.2 (c + 234) 4) + 1) (Int.toNat (M23 (c + 235) (Int.toNat v24)))) → (K (.returned (some (gL (M23 ((X.2.2 (c + 234) 4) + 1) (Int.toNat (M23 (c + 235) (Int.toNat v24))))))) X M23)))))))))))))))))) : wp l G y_GL_value (gRr (d + 8) Nr) false K false 0 [.val (gR G c), .val (gI x1), .val (gI x2), .val (gI x3), .unset] [] X M 0 0 := by
  refine wp_iload_n d_GL_value_0 rfl rfl ?_
  refine wp_iload_n d_GL_value_1 rfl rfl ?_
  rcases T with T | T
  · exact ytS (by decide) (As := [gI x1, gI x2]) (st := []) d_GL_value_2 ca_GL_needCell ml_GL_73 sm_GL_needCell  rfl (by decide) (by decide) rfl id (fun h => by cases h) T
  refine ycS_V (md' := false) (As := [gI x1, gI x2]) (st := []) d_GL_value_2 ca_GL_needCell ml_GL_73 sm_GL_needCell  rfl (by decide) (by decide) rfl id id T (fun M1 T => ?_)
  refine wp_iload_n d_GL_value_5 rfl rfl ?_
  refine xz_eq (tgt := 14) d_GL_value_6 (by decide) (w32_id hx3) (fun h33 => ?_) (fun h33 => ?_)
  · have T := T.1 h33
    refine wp_iconst d_GL_value_14 ?_
    refine wp_goto (tgt := 19) d_GL_value_15 (by decide) ?_
    rcases T with T | T
    · exact ytS (by decide) (As := [gI 1]) (st := []) d_GL_value_19 ca_GL_need ml_GL_69 sm_GL_need  rfl (by decide) (by decide) rfl id (fun h => by cases h) T
    refine ycS_V (md' := false) (As := [gI 1]) (st := []) d_GL_value_19 ca_GL_need ml_GL_69 sm_GL_need  rfl (by decide) (by decide) rfl id id T (fun M2 T => ?_)
    refine wp_aload_n d_GL_value_22 rfl rfl (g_nz (gl_1 hX 0)) ?_
    refine xgetR d_GL_value_23 gc_GL f_GL_54.1 f_GL_54.2.1 f_GL_54.2.2.1 (gl_1 hX 0) (gl_2 hX (a := 0) (by decide)) (gl_s0 hX) f_GL_54.2.2.2.2.1 (gl_f0 hX 27 rfl) ?_
    refine xgetR d_GL_value_26 gc_Rs f_GL_127.1 f_GL_127.2.1 f_GL_127.2.2.1 (gl_1 hX 234) (gl_2 hX (a := 234) (by decide)) (gl_s hX 24 rfl) f_GL_127.2.2.2.2.1 (gl_f hX 28 rfl) ?_
    refine wp_iload_n d_GL_value_29 rfl rfl ?_
    refine wp_iload_n d_GL_value_30 rfl rfl ?_
    refine ycS_I (md' := false) (As := [gI x1, gI x2]) (st := [gR G (c + 235)]) d_GL_value_31 ca_GL_place ml_GL_88 sm_GL_place rfl (by decide) (by simp only [List.map, gR_cat, gI_cat, gL_cat, List.sum_cons, List.sum_nil]; decide) rfl id id T (fun v4 M3 h5 T => ?_)
    refine wp_iaload d_GL_value_34 (gl_1 hX 235) (gl_2 hX (a := 235) (by decide)) (gl_s hX 25 rfl) (g32_n T.1 (by decide)) T.1.1 T.1.2 (fun h6 => ?_)
    have T := T.2 h6
    refine wp_istore (L' := [.val (gR G c), .val (gI x1), .val (gI x2), .val (gI x3), .val (gI (M3 (c + 235) (Int.toNat v4)))]) d_GL_value_35 (by decide) rfl ?_
    refine wp_iload_n d_GL_value_37 rfl rfl ?_
    refine xz_ne (tgt := 58) d_GL_value_38 (by decide) (w32_id hx3) (fun h11 => ?_) (fun h11 => ?_)
    · have T := T.1 h11
      refine wp_aload_n d_GL_value_58 rfl rfl (g_nz (gl_1 hX 0)) ?_
      refine xgetR d_GL_value_59 gc_GL f_GL_54.1 f_GL_54.2.1 f_GL_54.2.2.1 (gl_1 hX 0) (gl_2 hX (a := 0) (by decide)) (gl_s0 hX) f_GL_54.2.2.2.2.1 (gl_f0 hX 27 rfl) ?_
      have q7 := T.1
      have T := T.2
      refine xgetR d_GL_value_62 gc_Rs f_GL_131.1 f_GL_131.2.1 f_GL_131.2.2.1 (gl_1 hX 234) (gl_2 hX (a := 234) (by decide)) (gl_s hX 24 rfl) f_GL_131.2.2.2.2.1 rfl ?_
      refine xgetR d_GL_value_65 gc_Vl f_GL_140.1 f_GL_140.2.1 f_GL_140.2.2.1 q7.1 (gv_2 q7) q7.2.2.1 f_GL_140.2.2.2.2.1 (gv_r2 q7).1 ?_
      refine wp_iload d_GL_value_68 rfl ?_
      refine wp_laload d_GL_value_70 (gv_r2 q7).2.2.1 (gv_r2 q7).2.2.2 (gv_r2 q7).2.1 (g32_n T.1 (gv_n q7)) T.1.1 T.1.2 (fun h8 => ?_)
      have T := T.2 h8
      exact wp_st (st' := [gL (M3 ((X.2.2 (c + 234) 4) + 2) (Int.toNat (M3 (c + 235) (Int.toNat v4))))]) (by rfl) (wp_lreturn d_GL_value_71 rfl id (Nat.zero_le _) (Nat.zero_le _) T)
    · have T := T.2 h11
      refine wp_aload_n d_GL_value_41 rfl rfl (g_nz (gl_1 hX 0)) ?_
      refine xgetR d_GL_value_42 gc_GL f_GL_54.1 f_GL_54.2.1 f_GL_54.2.2.1 (gl_1 hX 0) (gl_2 hX (a := 0) (by decide)) (gl_s0 hX) f_GL_54.2.2.2.2.1 (gl_f0 hX 27 rfl) ?_
      have q9 := T.1
      have T := T.2
      refine xgetR d_GL_value_45 gc_Rs f_GL_131.1 f_GL_131.2.1 f_GL_131.2.2.1 (gl_1 hX 234) (gl_2 hX (a := 234) (by decide)) (gl_s hX 24 rfl) f_GL_131.2.2.2.2.1 rfl ?_
      refine xgetR d_GL_value_48 gc_Vl f_GL_135.1 f_GL_135.2.1 f_GL_135.2.2.1 q9.1 (gv_2 q9) q9.2.2.1 f_GL_135.2.2.2.2.1 (gv_r1 q9).1 ?_
      refine wp_iload d_GL_value_51 rfl ?_
      refine wp_iaload d_GL_value_53 (gv_r1 q9).2.2.1 (gv_r1 q9).2.2.2 (gv_r1 q9).2.1 (g32_n T.1 (gv_n q9)) T.1.1 T.1.2 (fun h10 => ?_)
      have T := T.2 h10
      refine xi2l d_GL_value_54 (w32_id h10) ?_
      refine wp_goto (tgt := 71) d_GL_value_55 (by decide) ?_
      exact wp_st (st' := [gL (M3 ((X.2.2 (c + 234) 4) + 1) (Int.toNat (M3 (c + 235) (Int.toNat v4))))]) (by rfl) (wp_lreturn d_GL_value_71 rfl id (Nat.zero_le _) (Nat.zero_le _) T)
  · have T := T.2 h33
    refine wp_iload_n d_GL_value_9 rfl rfl ?_
    refine wp_iconst d_GL_value_10 ?_
    refine xi_ne (tgt := 18) d_GL_value_11 (by decide) (w32_id hx3) (w32_id (g32_c (x := 1) rfl)) (fun h32 => ?_) (fun h32 => ?_)
    · have T := T.1 h32
      refine wp_iconst d_GL_value_18 ?_
      rcases T with T | T
      · exact ytS (by decide) (As := [gI 0]) (st := []) d_GL_value_19 ca_GL_need ml_GL_69 sm_GL_need  rfl (by decide) (by decide) rfl id (fun h => by cases h) T
      refine ycS_V (md' := false) (As := [gI 0]) (st := []) d_GL_value_19 ca_GL_need ml_GL_69 sm_GL_need  rfl (by decide) (by decide) rfl id id T (fun M12 T => ?_)
      refine wp_aload_n d_GL_value_22 rfl rfl (g_nz (gl_1 hX 0)) ?_
      refine xgetR d_GL_value_23 gc_GL f_GL_54.1 f_GL_54.2.1 f_GL_54.2.2.1 (gl_1 hX 0) (gl_2 hX (a := 0) (by decide)) (gl_s0 hX) f_GL_54.2.2.2.2.1 (gl_f0 hX 27 rfl) ?_
      refine xgetR d_GL_value_26 gc_Rs f_GL_127.1 f_GL_127.2.1 f_GL_127.2.2.1 (gl_1 hX 234) (gl_2 hX (a := 234) (by decide)) (gl_s hX 24 rfl) f_GL_127.2.2.2.2.1 (gl_f hX 28 rfl) ?_
      refine wp_iload_n d_GL_value_29 rfl rfl ?_
      refine wp_iload_n d_GL_value_30 rfl rfl ?_
      refine ycS_I (md' := false) (As := [gI x1, gI x2]) (st := [gR G (c + 235)]) d_GL_value_31 ca_GL_place ml_GL_88 sm_GL_place rfl (by decide) (by simp only [List.map, gR_cat, gI_cat, gL_cat, List.sum_cons, List.sum_nil]; decide) rfl id id T (fun v14 M13 h15 T => ?_)
      refine wp_iaload d_GL_value_34 (gl_1 hX 235) (gl_2 hX (a := 235) (by decide)) (gl_s hX 25 rfl) (g32_n T.1 (by decide)) T.1.1 T.1.2 (fun h16 => ?_)
      have T := T.2 h16
      refine wp_istore (L' := [.val (gR G c), .val (gI x1), .val (gI x2), .val (gI x3), .val (gI (M13 (c + 235) (Int.toNat v14)))]) d_GL_value_35 (by decide) rfl ?_
      refine wp_iload_n d_GL_value_37 rfl rfl ?_
      refine xz_ne (tgt := 58) d_GL_value_38 (by decide) (w32_id hx3) (fun h21 => ?_) (fun h21 => ?_)
      · have T := T.1 h21
        refine wp_aload_n d_GL_value_58 rfl rfl (g_nz (gl_1 hX 0)) ?_
        refine xgetR d_GL_value_59 gc_GL f_GL_54.1 f_GL_54.2.1 f_GL_54.2.2.1 (gl_1 hX 0) (gl_2 hX (a := 0) (by decide)) (gl_s0 hX) f_GL_54.2.2.2.2.1 (gl_f0 hX 27 rfl) ?_
        have q17 := T.1
        have T := T.2
        refine xgetR d_GL_value_62 gc_Rs f_GL_131.1 f_GL_131.2.1 f_GL_131.2.2.1 (gl_1 hX 234) (gl_2 hX (a := 234) (by decide)) (gl_s hX 24 rfl) f_GL_131.2.2.2.2.1 rfl ?_
        refine xgetR d_GL_value_65 gc_Vl f_GL_140.1 f_GL_140.2.1 f_GL_140.2.2.1 q17.1 (gv_2 q17) q17.2.2.1 f_GL_140.2.2.2.2.1 (gv_r2 q17).1 ?_
        refine wp_iload d_GL_value_68 rfl ?_
        refine wp_laload d_GL_value_70 (gv_r2 q17).2.2.1 (gv_r2 q17).2.2.2 (gv_r2 q17).2.1 (g32_n T.1 (gv_n q17)) T.1.1 T.1.2 (fun h18 => ?_)
        have T := T.2 h18
        exact wp_st (st' := [gL (M13 ((X.2.2 (c + 234) 4) + 2) (Int.toNat (M13 (c + 235) (Int.toNat v14))))]) (by rfl) (wp_lreturn d_GL_value_71 rfl id (Nat.zero_le _) (Nat.zero_le _) T)
      · have T := T.2 h21
        refine wp_aload_n d_GL_value_41 rfl rfl (g_nz (gl_1 hX 0)) ?_
        refine xgetR d_GL_value_42 gc_GL f_GL_54.1 f_GL_54.2.1 f_GL_54.2.2.1 (gl_1 hX 0) (gl_2 hX (a := 0) (by decide)) (gl_s0 hX) f_GL_54.2.2.2.2.1 (gl_f0 hX 27 rfl) ?_
        have q19 := T.1
        have T := T.2
        refine xgetR d_GL_value_45 gc_Rs f_GL_131.1 f_GL_131.2.1 f_GL_131.2.2.1 (gl_1 hX 234) (gl_2 hX (a := 234) (by decide)) (gl_s hX 24 rfl) f_GL_131.2.2.2.2.1 rfl ?_
        refine xgetR d_GL_value_48 gc_Vl f_GL_135.1 f_GL_135.2.1 f_GL_135.2.2.1 q19.1 (gv_2 q19) q19.2.2.1 f_GL_135.2.2.2.2.1 (gv_r1 q19).1 ?_
        refine wp_iload d_GL_value_51 rfl ?_
        refine wp_iaload d_GL_value_53 (gv_r1 q19).2.2.1 (gv_r1 q19).2.2.2 (gv_r1 q19).2.1 (g32_n T.1 (gv_n q19)) T.1.1 T.1.2 (fun h20 => ?_)
        have T := T.2 h20
        refine xi2l d_GL_value_54 (w32_id h20) ?_
        refine wp_goto (tgt := 71) d_GL_value_55 (by decide) ?_
        exact wp_st (st' := [gL (M13 ((X.2.2 (c + 234) 4) + 1) (Int.toNat (M13 (c + 235) (Int.toNat v14))))]) (by rfl) (wp_lreturn d_GL_value_71 rfl id (Nat.zero_le _) (Nat.zero_le _) T)
    · have T := T.2 h32
      refine wp_iconst d_GL_value_14 ?_
      refine wp_goto (tgt := 19) d_GL_value_15 (by decide) ?_
      rcases T with T | T
      · exact ytS (by decide) (As := [gI 1]) (st := []) d_GL_value_19 ca_GL_need ml_GL_69 sm_GL_need  rfl (by decide) (by decide) rfl id (fun h => by cases h) T
      refine ycS_V (md' := false) (As := [gI 1]) (st := []) d_GL_value_19 ca_GL_need ml_GL_69 sm_GL_need  rfl (by decide) (by decide) rfl id id T (fun M22 T => ?_)
      refine wp_aload_n d_GL_value_22 rfl rfl (g_nz (gl_1 hX 0)) ?_
      refine xgetR d_GL_value_23 gc_GL f_GL_54.1 f_GL_54.2.1 f_GL_54.2.2.1 (gl_1 hX 0) (gl_2 hX (a := 0) (by decide)) (gl_s0 hX) f_GL_54.2.2.2.2.1 (gl_f0 hX 27 rfl) ?_
      refine xgetR d_GL_value_26 gc_Rs f_GL_127.1 f_GL_127.2.1 f_GL_127.2.2.1 (gl_1 hX 234) (gl_2 hX (a := 234) (by decide)) (gl_s hX 24 rfl) f_GL_127.2.2.2.2.1 (gl_f hX 28 rfl) ?_
      refine wp_iload_n d_GL_value_29 rfl rfl ?_
      refine wp_iload_n d_GL_value_30 rfl rfl ?_
      refine ycS_I (md' := false) (As := [gI x1, gI x2]) (st := [gR G (c + 235)]) d_GL_value_31 ca_GL_place ml_GL_88 sm_GL_place rfl (by decide) (by simp only [List.map, gR_cat, gI_cat, gL_cat, List.sum_cons, List.sum_nil]; decide) rfl id id T (fun v24 M23 h25 T => ?_)
      refine wp_iaload d_GL_value_34 (gl_1 hX 235) (gl_2 hX (a := 235) (by decide)) (gl_s hX 25 rfl) (g32_n T.1 (by decide)) T.1.1 T.1.2 (fun h26 => ?_)
      have T := T.2 h26
      refine wp_istore (L' := [.val (gR G c), .val (gI x1), .val (gI x2), .val (gI x3), .val (gI (M23 (c + 235) (Int.toNat v24)))]) d_GL_value_35 (by decide) rfl ?_
      refine wp_iload_n d_GL_value_37 rfl rfl ?_
      refine xz_ne (tgt := 58) d_GL_value_38 (by decide) (w32_id hx3) (fun h31 => ?_) (fun h31 => ?_)
      · have T := T.1 h31
        refine wp_aload_n d_GL_value_58 rfl rfl (g_nz (gl_1 hX 0)) ?_
        refine xgetR d_GL_value_59 gc_GL f_GL_54.1 f_GL_54.2.1 f_GL_54.2.2.1 (gl_1 hX 0) (gl_2 hX (a := 0) (by decide)) (gl_s0 hX) f_GL_54.2.2.2.2.1 (gl_f0 hX 27 rfl) ?_
        have q27 := T.1
        have T := T.2
        refine xgetR d_GL_value_62 gc_Rs f_GL_131.1 f_GL_131.2.1 f_GL_131.2.2.1 (gl_1 hX 234) (gl_2 hX (a := 234) (by decide)) (gl_s hX 24 rfl) f_GL_131.2.2.2.2.1 rfl ?_
        refine xgetR d_GL_value_65 gc_Vl f_GL_140.1 f_GL_140.2.1 f_GL_140.2.2.1 q27.1 (gv_2 q27) q27.2.2.1 f_GL_140.2.2.2.2.1 (gv_r2 q27).1 ?_
        refine wp_iload d_GL_value_68 rfl ?_
        refine wp_laload d_GL_value_70 (gv_r2 q27).2.2.1 (gv_r2 q27).2.2.2 (gv_r2 q27).2.1 (g32_n T.1 (gv_n q27)) T.1.1 T.1.2 (fun h28 => ?_)
        have T := T.2 h28
        exact wp_st (st' := [gL (M23 ((X.2.2 (c + 234) 4) + 2) (Int.toNat (M23 (c + 235) (Int.toNat v24))))]) (by rfl) (wp_lreturn d_GL_value_71 rfl id (Nat.zero_le _) (Nat.zero_le _) T)
      · have T := T.2 h31
        refine wp_aload_n d_GL_value_41 rfl rfl (g_nz (gl_1 hX 0)) ?_
        refine xgetR d_GL_value_42 gc_GL f_GL_54.1 f_GL_54.2.1 f_GL_54.2.2.1 (gl_1 hX 0) (gl_2 hX (a := 0) (by decide)) (gl_s0 hX) f_GL_54.2.2.2.2.1 (gl_f0 hX 27 rfl) ?_
        have q29 := T.1
        have T := T.2
        refine xgetR d_GL_value_45 gc_Rs f_GL_131.1 f_GL_131.2.1 f_GL_131.2.2.1 (gl_1 hX 234) (gl_2 hX (a := 234) (by decide)) (gl_s hX 24 rfl) f_GL_131.2.2.2.2.1 rfl ?_
        refine xgetR d_GL_value_48 gc_Vl f_GL_135.1 f_GL_135.2.1 f_GL_135.2.2.1 q29.1 (gv_2 q29) q29.2.2.1 f_GL_135.2.2.2.2.1 (gv_r1 q29).1 ?_
        refine wp_iload d_GL_value_51 rfl ?_
        refine wp_iaload d_GL_value_53 (gv_r1 q29).2.2.1 (gv_r1 q29).2.2.2 (gv_r1 q29).2.1 (g32_n T.1 (gv_n q29)) T.1.1 T.1.2 (fun h30 => ?_)
        have T := T.2 h30
        refine xi2l d_GL_value_54 (w32_id h30) ?_
        refine wp_goto (tgt := 71) d_GL_value_55 (by decide) ?_
        exact wp_st (st' := [gL (M23 ((X.2.2 (c + 234) 4) + 1) (Int.toNat (M23 (c + 235) (Int.toNat v24))))]) (by rfl) (wp_lreturn d_GL_value_71 rfl id (Nat.zero_le _) (Nat.zero_le _) T)
theorem eu_GL_value {l : Launch} {G : gG} {d : Nat} {X : gX} {M : gM} {Nr : Nat} {K : Outcome → gX → gM → Prop} {c : Nat} {x1 : Int} {x2 : Int} {x3 : Int} (T : wp l G y_GL_value (gRr (d + 8) Nr) false K false 0 [.val (gR G c), .val (gI x1), .val (gI x2), .val (gI x3), .unset] [] X M 0 0) : gCt l G y_GL_value (gRr (d + 8) Nr) false [gR G c, gI x1, gI x2, gI x3] X M K := gCt.of (plainFor_of_name rfl) (by simp only [lg_sl_R, lg_sl_I, lg_sl_L, lg_sl_N, List.length_cons, List.length_nil]; decide) (by unfold gEn; simp only [lg_sl_R, lg_sl_I, lg_sl_L, lg_sl_N]; exact wpt T (And.intro rfl (And.intro rfl (And.intro rfl (And.intro rfl True.intro)))))
theorem d_GL_letter_0 : decode prog_1_method_11_code 0 = .ok (.iload_n 1, 1) := by decide +kernel
theorem d_GL_letter_1 : decode prog_1_method_11_code 1 = .ok (.iload_n 2, 1) := by decide +kernel
theorem d_GL_letter_2 : decode prog_1_method_11_code 2 = .ok (.invokestatic 73, 3) := by decide +kernel
theorem d_GL_letter_5 : decode prog_1_method_11_code 5 = .ok (.aload_n 0, 1) := by decide +kernel
theorem d_GL_letter_6 : decode prog_1_method_11_code 6 = .ok (.getfield 54, 3) := by decide +kernel
theorem d_GL_letter_9 : decode prog_1_method_11_code 9 = .ok (.getfield 131, 3) := by decide +kernel
theorem d_GL_letter_12 : decode prog_1_method_11_code 12 = .ok (.astore 4, 2) := by decide +kernel
theorem d_GL_letter_14 : decode prog_1_method_11_code 14 = .ok (.aload_n 0, 1) := by decide +kernel
theorem d_GL_letter_15 : decode prog_1_method_11_code 15 = .ok (.getfield 54, 3) := by decide +kernel
theorem d_GL_letter_18 : decode prog_1_method_11_code 18 = .ok (.getfield 127, 3) := by decide +kernel
theorem d_GL_letter_21 : decode prog_1_method_11_code 21 = .ok (.iload_n 1, 1) := by decide +kernel
theorem d_GL_letter_22 : decode prog_1_method_11_code 22 = .ok (.iload_n 2, 1) := by decide +kernel
theorem d_GL_letter_23 : decode prog_1_method_11_code 23 = .ok (.invokestatic 88, 3) := by decide +kernel
theorem d_GL_letter_26 : decode prog_1_method_11_code 26 = .ok (.iaload, 1) := by decide +kernel
theorem d_GL_letter_27 : decode prog_1_method_11_code 27 = .ok (.istore 5, 2) := by decide +kernel
theorem d_GL_letter_29 : decode prog_1_method_11_code 29 = .ok (.aload 4, 2) := by decide +kernel
theorem d_GL_letter_31 : decode prog_1_method_11_code 31 = .ok (.getfield 135, 3) := by decide +kernel
theorem d_GL_letter_34 : decode prog_1_method_11_code 34 = .ok (.iload 5, 2) := by decide +kernel
theorem d_GL_letter_36 : decode prog_1_method_11_code 36 = .ok (.iaload, 1) := by decide +kernel
theorem d_GL_letter_37 : decode prog_1_method_11_code 37 = .ok (.iconst 2, 1) := by decide +kernel
theorem d_GL_letter_38 : decode prog_1_method_11_code 38 = .ok (.if_icmp .ne 21, 3) := by decide +kernel
theorem d_GL_letter_59 : decode prog_1_method_11_code 59 = .ok (.new 144, 3) := by decide +kernel
theorem d_GL_letter_62 : decode prog_1_method_11_code 62 = .ok (.dup, 1) := by decide +kernel
theorem d_GL_letter_63 : decode prog_1_method_11_code 63 = .ok (.invokespecial 146, 3) := by decide +kernel
theorem d_GL_letter_66 : decode prog_1_method_11_code 66 = .ok (.athrow, 1) := by decide +kernel
theorem d_GL_letter_41 : decode prog_1_method_11_code 41 = .ok (.iload_n 3, 1) := by decide +kernel
theorem d_GL_letter_42 : decode prog_1_method_11_code 42 = .ok (.ifCond .lt 17, 3) := by decide +kernel
theorem d_GL_letter_45 : decode prog_1_method_11_code 45 = .ok (.iload_n 3, 1) := by decide +kernel
theorem d_GL_letter_46 : decode prog_1_method_11_code 46 = .ok (.i2l, 1) := by decide +kernel
theorem d_GL_letter_47 : decode prog_1_method_11_code 47 = .ok (.aload 4, 2) := by decide +kernel
theorem d_GL_letter_49 : decode prog_1_method_11_code 49 = .ok (.getfield 140, 3) := by decide +kernel
theorem d_GL_letter_52 : decode prog_1_method_11_code 52 = .ok (.iload 5, 2) := by decide +kernel
theorem d_GL_letter_54 : decode prog_1_method_11_code 54 = .ok (.laload, 1) := by decide +kernel
theorem d_GL_letter_55 : decode prog_1_method_11_code 55 = .ok (.lcmp, 1) := by decide +kernel
theorem d_GL_letter_56 : decode prog_1_method_11_code 56 = .ok (.ifCond .lt 11, 3) := by decide +kernel
theorem d_GL_letter_67 : decode prog_1_method_11_code 67 = .ok (.aload 4, 2) := by decide +kernel
theorem d_GL_letter_69 : decode prog_1_method_11_code 69 = .ok (.getfield 147, 3) := by decide +kernel
theorem d_GL_letter_72 : decode prog_1_method_11_code 72 = .ok (.iload 5, 2) := by decide +kernel
theorem d_GL_letter_74 : decode prog_1_method_11_code 74 = .ok (.aaload, 1) := by decide +kernel
theorem d_GL_letter_75 : decode prog_1_method_11_code 75 = .ok (.iload_n 3, 1) := by decide +kernel
theorem d_GL_letter_76 : decode prog_1_method_11_code 76 = .ok (.baload, 1) := by decide +kernel
theorem d_GL_letter_77 : decode prog_1_method_11_code 77 = .ok (.ireturn, 1) := by decide +kernel
set_option maxHeartbeats 4000000 in
theorem u_GL_letter_0 {l : Launch} {G : gG} {d : Nat} {X : gX} {M : gM} {Nr : Nat} {K : Outcome → gX → gM → Prop} {c : Nat} (hX : glX X c) {x1 : Int} (hx1 : g32 x1) {x2 : Int} (hx2 : g32 x2) {x3 : Int} (hx3 : g32 x3)  (hl : gOk l G) (T : cT l G y_GL_needCell (gRr (d + 7) Nr) false [gI x1, gI x2] X M K ∨ cV l G y_GL_needCell (gRm (d + 7)) false [gI x1, gI x2] X M (fun M1 => (gvX X (X.2.2 (c + 234) 4) 401 ∧ (cI l G y_GL_place (gRm (d + 7)) false [gI x1, gI x2] X M1 (fun v4 M3 => (((0 : Int) ≤ v4 ∧ v4 < 5200) ∧ (g32 (M3 (c + 235) (Int.toNat v4)) → (((0 : Int) ≤ M3 (c + 235) (Int.toNat v4) ∧ M3 (c + 235) (Int.toNat v4) < 401) ∧ (g32 (M3 ((X.2.2 (c + 234) 4) + 1) (Int.toNat (M3 (c + 235) (Int.toNat v4)))) → ((¬ M3 ((X.2.2 (c + 234) 4) + 1) (Int.toNat (M3 (c + 235) (Int.toNat v4))) = 2 → (1 ≤ Nr ∧ K (.threw (G.2.2.1 + (X.1 + 1))) (gNw X (21, 0)) (gZr M3 (X.1 + 1)))) ∧ (M3 ((X.2.2 (c + 234) 4) + 1) (Int.toNat (M3 (c + 235) (Int.toNat v4))) = 2 → ((x3 < 0 → (1 ≤ Nr ∧ K (.threw (G.2.2.1 + (X.1 + 1))) (gNw X (21, 0)) (gZr M3 (X.1 + 1)))) ∧ (¬ x3 < 0 → (((0 : Int) ≤ M3 (c + 235) (Int.toNat v4) ∧ M3 (c + 235) (Int.toNat v4) < 401) ∧ (g64 (M3 ((X.2.2 (c + 234) 4) + 2) (Int.toNat (M3 (c + 235) (Int.toNat v4)))) → ((x3 < M3 ((X.2.2 (c + 234) 4) + 2) (Int.toNat (M3 (c + 235) (Int.toNat v4))) → (((0 : Int) ≤ M3 (c + 235) (Int.toNat v4) ∧ M3 (c + 235) (Int.toNat v4) < 401) ∧ (((0 : Int) ≤ x3 ∧ x3 < 64) ∧ ((-128 ≤ M3 ((X.2.2 (c + 234) 4) + 4 + Int.toNat (M3 (c + 235) (Int.toNat v4))) (Int.toNat x3) ∧ M3 ((X.2.2 (c + 234) 4) + 4 + Int.toNat (M3 (c + 235) (Int.toNat v4))) (Int.toNat x3) < 128) → (K (.returned (some (gI (M3 ((X.2.2 (c + 234) 4) + 4 + Int.toNat (M3 (c + 235) (Int.toNat v4))) (Int.toNat x3))))) X M3))))) ∧ (¬ x3 < M3 ((X.2.2 (c + 234) 4) + 2) (Int.toNat (M3 (c + 235) (Int.toNat v4))) → (1 ≤ Nr ∧ K (.threw (G.2.2.1 + (X.1 + 1))) (gNw X (21, 0)) (gZr M3 (X.1 + 1)))))))))))))))))))) : wp l G y_GL_letter (gRr (d + 8) Nr) false K false 0 [.val (gR G c), .val (gI x1), .val (gI x2), .val (gI x3), .unset, .unset] [] X M 0 0 := by
  refine wp_iload_n d_GL_letter_0 rfl rfl ?_
  refine wp_iload_n d_GL_letter_1 rfl rfl ?_
  rcases T with T | T
  · exact ytS (by decide) (As := [gI x1, gI x2]) (st := []) d_GL_letter_2 ca_GL_needCell ml_GL_73 sm_GL_needCell  rfl (by decide) (by decide) rfl id (fun h => by cases h) T
  refine ycS_V (md' := false) (As := [gI x1, gI x2]) (st := []) d_GL_letter_2 ca_GL_needCell ml_GL_73 sm_GL_needCell  rfl (by decide) (by decide) rfl id id T (fun M1 T => ?_)
  refine wp_aload_n d_GL_letter_5 rfl rfl (g_nz (gl_1 hX 0)) ?_
  refine xgetR d_GL_letter_6 gc_GL f_GL_54.1 f_GL_54.2.1 f_GL_54.2.2.1 (gl_1 hX 0) (gl_2 hX (a := 0) (by decide)) (gl_s0 hX) f_GL_54.2.2.2.2.1 (gl_f0 hX 27 rfl) ?_
  have q2 := T.1
  have T := T.2
  refine xgetR d_GL_letter_9 gc_Rs f_GL_131.1 f_GL_131.2.1 f_GL_131.2.2.1 (gl_1 hX 234) (gl_2 hX (a := 234) (by decide)) (gl_s hX 24 rfl) f_GL_131.2.2.2.2.1 rfl ?_
  refine wp_astore (L' := [.val (gR G c), .val (gI x1), .val (gI x2), .val (gI x3), .val (gR G (X.2.2 (c + 234) 4)), .unset]) d_GL_letter_12 (g_nz q2.1) (by decide) rfl ?_
  refine wp_aload_n d_GL_letter_14 rfl rfl (g_nz (gl_1 hX 0)) ?_
  refine xgetR d_GL_letter_15 gc_GL f_GL_54.1 f_GL_54.2.1 f_GL_54.2.2.1 (gl_1 hX 0) (gl_2 hX (a := 0) (by decide)) (gl_s0 hX) f_GL_54.2.2.2.2.1 (gl_f0 hX 27 rfl) ?_
  refine xgetR d_GL_letter_18 gc_Rs f_GL_127.1 f_GL_127.2.1 f_GL_127.2.2.1 (gl_1 hX 234) (gl_2 hX (a := 234) (by decide)) (gl_s hX 24 rfl) f_GL_127.2.2.2.2.1 (gl_f hX 28 rfl) ?_
  refine wp_iload_n d_GL_letter_21 rfl rfl ?_
  refine wp_iload_n d_GL_letter_22 rfl rfl ?_
  refine ycS_I (md' := false) (As := [gI x1, gI x2]) (st := [gR G (c + 235)]) d_GL_letter_23 ca_GL_place ml_GL_88 sm_GL_place rfl (by decide) (by simp only [List.map, gR_cat, gI_cat, gL_cat, List.sum_cons, List.sum_nil]; decide) rfl id id T (fun v4 M3 h5 T => ?_)
  refine wp_iaload d_GL_letter_26 (gl_1 hX 235) (gl_2 hX (a := 235) (by decide)) (gl_s hX 25 rfl) (g32_n T.1 (by decide)) T.1.1 T.1.2 (fun h6 => ?_)
  have T := T.2 h6
  refine wp_istore (L' := [.val (gR G c), .val (gI x1), .val (gI x2), .val (gI x3), .val (gR G (X.2.2 (c + 234) 4)), .val (gI (M3 (c + 235) (Int.toNat v4)))]) d_GL_letter_27 (by decide) (gS1_R rfl rfl) ?_
  refine wp_aload d_GL_letter_29 rfl (g_nz q2.1) ?_
  refine xgetR d_GL_letter_31 gc_Vl f_GL_135.1 f_GL_135.2.1 f_GL_135.2.2.1 q2.1 (gv_2 q2) q2.2.2.1 f_GL_135.2.2.2.2.1 (gv_r1 q2).1 ?_
  refine wp_iload d_GL_letter_34 rfl ?_
  refine wp_iaload d_GL_letter_36 (gv_r1 q2).2.2.1 (gv_r1 q2).2.2.2 (gv_r1 q2).2.1 (g32_n T.1 (gv_n q2)) T.1.1 T.1.2 (fun h7 => ?_)
  have T := T.2 h7
  refine wp_iconst d_GL_letter_37 ?_
  refine xi_ne (tgt := 59) d_GL_letter_38 (by decide) (w32_id h7) (w32_id (g32_c (x := 2) rfl)) (fun h13 => ?_) (fun h13 => ?_)
  · have T := T.1 h13
    exact wp_throw (by decide) (ci := 15) (names := gEn_jNse) hl.1 d_GL_letter_59 d_GL_letter_62 d_GL_letter_63 d_GL_letter_66 cl_GL_144 it_jNse ii_jNse (by decide +kernel) (by decide +kernel) (gAt_GL_146 hl) rfl T.1 (g_six T.1) (g_frk d) (g_lok d) T.2
  · have T := T.2 h13
    refine wp_iload_n d_GL_letter_41 rfl rfl ?_
    refine xz_lt (tgt := 59) d_GL_letter_42 (by decide) (w32_id hx3) (fun h12 => ?_) (fun h12 => ?_)
    · have T := T.1 h12
      exact wp_throw (by decide) (ci := 15) (names := gEn_jNse) hl.1 d_GL_letter_59 d_GL_letter_62 d_GL_letter_63 d_GL_letter_66 cl_GL_144 it_jNse ii_jNse (by decide +kernel) (by decide +kernel) (gAt_GL_146 hl) rfl T.1 (g_six T.1) (g_frk d) (g_lok d) T.2
    · have T := T.2 h12
      refine wp_iload_n d_GL_letter_45 rfl rfl ?_
      refine xi2l d_GL_letter_46 (w32_id hx3) ?_
      refine wp_aload d_GL_letter_47 rfl (g_nz q2.1) ?_
      refine xgetR d_GL_letter_49 gc_Vl f_GL_140.1 f_GL_140.2.1 f_GL_140.2.2.1 q2.1 (gv_2 q2) q2.2.2.1 f_GL_140.2.2.2.2.1 (gv_r2 q2).1 ?_
      refine wp_iload d_GL_letter_52 rfl ?_
      refine wp_laload d_GL_letter_54 (gv_r2 q2).2.2.1 (gv_r2 q2).2.2.2 (gv_r2 q2).2.1 (g32_n T.1 (gv_n q2)) T.1.1 T.1.2 (fun h8 => ?_)
      have T := T.2 h8
      refine xl_lt (tgt := 67) d_GL_letter_55 d_GL_letter_56 (by decide) (w64_id (g64_32 hx3)) (w64_id h8) (fun h11 => ?_) (fun h11 => ?_)
      · have T := T.1 h11
        refine wp_aload d_GL_letter_67 rfl (g_nz q2.1) ?_
        refine xgetR d_GL_letter_69 gc_Vl f_GL_147.1 f_GL_147.2.1 f_GL_147.2.2.1 q2.1 (gv_2 q2) q2.2.2.1 f_GL_147.2.2.2.2.1 (gv_r3 q2).1 ?_
        refine wp_iload d_GL_letter_72 rfl ?_
        have h9 := T.1
        refine xaald d_GL_letter_74 (Or.inl rfl) (gv_r3 q2).2.2.1 (gv_r3 q2).2.2.2 (gv_r3 q2).2.1 (g32_n h9 (gv_n q2)) h9.1 h9.2 (gv_row q2 h9).1 ?_
        have T := T.2
        refine wp_iload_n d_GL_letter_75 rfl rfl ?_
        refine wp_baload d_GL_letter_76 (gv_row q2 h9).2.2.1 (gv_row q2 h9).2.2.2 (gv_row q2 h9).2.1 (g32_n T.1 (by decide)) T.1.1 T.1.2 (fun h10 => ?_)
        have T := T.2 h10
        exact wp_st (st' := [gI (M3 ((X.2.2 (c + 234) 4) + 4 + Int.toNat (M3 (c + 235) (Int.toNat v4))) (Int.toNat x3))]) (by rfl) (wp_ireturn d_GL_letter_77 rfl id (Nat.zero_le _) (Nat.zero_le _) T)
      · have T := T.2 h11
        exact wp_throw (by decide) (ci := 15) (names := gEn_jNse) hl.1 d_GL_letter_59 d_GL_letter_62 d_GL_letter_63 d_GL_letter_66 cl_GL_144 it_jNse ii_jNse (by decide +kernel) (by decide +kernel) (gAt_GL_146 hl) rfl T.1 (g_six T.1) (g_frk d) (g_lok d) T.2
theorem eu_GL_letter {l : Launch} {G : gG} {d : Nat} {X : gX} {M : gM} {Nr : Nat} {K : Outcome → gX → gM → Prop} {c : Nat} {x1 : Int} {x2 : Int} {x3 : Int} (T : wp l G y_GL_letter (gRr (d + 8) Nr) false K false 0 [.val (gR G c), .val (gI x1), .val (gI x2), .val (gI x3), .unset, .unset] [] X M 0 0) : gCt l G y_GL_letter (gRr (d + 8) Nr) false [gR G c, gI x1, gI x2, gI x3] X M K := gCt.of (plainFor_of_name rfl) (by simp only [lg_sl_R, lg_sl_I, lg_sl_L, lg_sl_N, List.length_cons, List.length_nil]; decide) (by unfold gEn; simp only [lg_sl_R, lg_sl_I, lg_sl_L, lg_sl_N]; exact wpt T (And.intro rfl (And.intro rfl (And.intro rfl (And.intro rfl True.intro)))))
set_option maxHeartbeats 4000000 in
theorem u_GL_content_0 {l : Launch} {G : gG} {d : Nat} {X : gX} {M : gM} {Nr : Nat} {K : Outcome → gX → gM → Prop} {c : Nat} (hX : glX X c) {x1 : Int} (hx1 : g32 x1) {x2 : Int} (hx2 : g32 x2) {x3 : Int} (hx3 : g32 x3)  (T : cT l G y_GL_needCell (gRr (d + 7) Nr) false [gI x1, gI x2] X M K ∨ cV l G y_GL_needCell (gRm (d + 7)) false [gI x1, gI x2] X M (fun M1 => ((x3 < 0 → (cT l G y_GL_need (gRr (d + 7) Nr) false [gI 0] X M1 K ∨ cV l G y_GL_need (gRm (d + 7)) false [gI 0] X M1 (fun M2 => (cI l G y_GL_place (gRm (d + 7)) false [gI x1, gI x2] X M2 (fun v4 M3 => (((0 : Int) ≤ v4 ∧ v4 < 5200) ∧ (g32 (M3 (c + 235) (Int.toNat v4)) → ((¬ M3 (c + 235) (Int.toNat v4) = 400 → ((x3 = 0 → (g32 (M3 c 8) → (((0 : Int) ≤ M3 c 8 ∧ M3 c 8 < 41) ∧ gsX X (X.2.2 (c + 23) (Int.toNat (M3 c 8))) ∧ (((0 : Int) ≤ M3 (c + 235) (Int.toNat v4) ∧ M3 (c + 235) (Int.toNat v4) < 400) ∧ (g32 (M3 ((X.2.2 (c + 23) (Int.toNat (M3 c 8))) + 2) (Int.toNat (M3 (c + 235) (Int.toNat v4)))) → (((0 : Int) ≤ M3 ((X.2.2 (c + 23) (Int.toNat (M3 c 8))) + 2) (Int.toNat (M3 (c + 235) (Int.toNat v4))) ∧ M3 ((X.2.2 (c + 23) (Int.toNat (M3 c 8))) + 2) (Int.toNat (M3 (c + 235) (Int.toNat v4))) < 513) ∧ (g32 (M3 (c + 3) (Int.toNat (M3 ((X.2.2 (c + 23) (Int.toNat (M3 c 8))) + 2) (Int.toNat (M3 (c + 235) (Int.toNat v4)))))) → (K (.returned (some (gI (M3 (c + 3) (Int.toNat (M3 ((X.2.2 (c + 23) (Int.toNat (M3 c 8))) + 2) (Int.toNat (M3 (c + 235) (Int.toNat v4))))))))) X M3)))))))) ∧ (x3 = 1 → (g32 (M3 c 8) → (((0 : Int) ≤ M3 c 8 ∧ M3 c 8 < 41) ∧ gsX X (X.2.2 (c + 23) (Int.toNat (M3 c 8))) ∧ (cI l G y_St_refs (gRm (d + 7)) false [gR G (X.2.2 (c + 23) (Int.toNat (M3 c 8))), gI (M3 (c + 235) (Int.toNat v4))] X M3 (fun v16 M15 => (K (.returned (some (gI v16))) X M15)))))) ∧ ((¬ x3 = 0 ∧ ¬ x3 = 1) → (g32 (M3 c 8) → (((0 : Int) ≤ M3 c 8 ∧ M3 c 8 < 41) ∧ gsX X (X.2.2 (c + 23) (Int.toNat (M3 c 8))) ∧ (cI l G y_St_gone (gRm (d + 7)) false [gR G (X.2.2 (c + 23) (Int.toNat (M3 c 8))), gI (M3 (c + 235) (Int.toNat v4))] X M3 (fun v22 M21 => (K (.returned (some (gI v22))) X M21)))))))) ∧ (M3 (c + 235) (Int.toNat v4) = 400 → (K (.returned (some (gI 0))) X M3)))))))))) ∧ (¬ x3 < 0 → ((2 < x3 → (cT l G y_GL_need (gRr (d + 7) Nr) false [gI 0] X M1 K ∨ cV l G y_GL_need (gRm (d + 7)) false [gI 0] X M1 (fun M25 => (cI l G y_GL_place (gRm (d + 7)) false [gI x1, gI x2] X M25 (fun v27 M26 => (((0 : Int) ≤ v27 ∧ v27 < 5200) ∧ (g32 (M26 (c + 235) (Int.toNat v27)) → ((¬ M26 (c + 235) (Int.toNat v27) = 400 → ((x3 = 0 → (g32 (M26 c 8) → (((0 : Int) ≤ M26 c 8 ∧ M26 c 8 < 41) ∧ gsX X (X.2.2 (c + 23) (Int.toNat (M26 c 8))) ∧ (((0 : Int) ≤ M26 (c + 235) (Int.toNat v27) ∧ M26 (c + 235) (Int.toNat v27) < 400) ∧ (g32 (M26 ((X.2.2 (c + 23) (Int.toNat (M26 c 8))) + 2) (Int.toNat (M26 (c + 235) (Int.toNat v27)))) → (((0 : Int) ≤ M26 ((X.2.2 (c + 23) (Int.toNat (M26 c 8))) + 2) (Int.toNat (M26 (c + 235) (Int.toNat v27))) ∧ M26 ((X.2.2 (c + 23) (Int.toNat (M26 c 8))) + 2) (Int.toNat (M26 (c + 235) (Int.toNat v27))) < 513) ∧ (g32 (M26 (c + 3) (Int.toNat (M26 ((X.2.2 (c + 23) (Int.toNat (M26 c 8))) + 2) (Int.toNat (M26 (c + 235) (Int.toNat v27)))))) → (K (.returned (some (gI (M26 (c + 3) (Int.toNat (M26 ((X.2.2 (c + 23) (Int.toNat (M26 c 8))) + 2) (Int.toNat (M26 (c + 235) (Int.toNat v27))))))))) X M26)))))))) ∧ (x3 = 1 → (g32 (M26 c 8) → (((0 : Int) ≤ M26 c 8 ∧ M26 c 8 < 41) ∧ gsX X (X.2.2 (c + 23) (Int.toNat (M26 c 8))) ∧ (cI l G y_St_refs (gRm (d + 7)) false [gR G (X.2.2 (c + 23) (Int.toNat (M26 c 8))), gI (M26 (c + 235) (Int.toNat v27))] X M26 (fun v39 M38 => (K (.returned (some (gI v39))) X M38)))))) ∧ ((¬ x3 = 0 ∧ ¬ x3 = 1) → (g32 (M26 c 8) → (((0 : Int) ≤ M26 c 8 ∧ M26 c 8 < 41) ∧ gsX X (X.2.2 (c + 23) (Int.toNat (M26 c 8))) ∧ (cI l G y_St_gone (gRm (d + 7)) false [gR G (X.2.2 (c + 23) (Int.toNat (M26 c 8))), gI (M26 (c + 235) (Int.toNat v27))] X M26 (fun v45 M44 => (K (.returned (some (gI v45))) X M44)))))))) ∧ (M26 (c + 235) (Int.toNat v27) = 400 → (K (.returned (some (gI 0))) X M26)))))))))) ∧ (¬ 2 < x3 → (cT l G y_GL_need (gRr (d + 7) Nr) false [gI 1] X M1 K ∨ cV l G y_GL_need (gRm (d + 7)) false [gI 1] X M1 (fun M48 => (cI l G y_GL_place (gRm (d + 7)) false [gI x1, gI x2] X M48 (fun v50 M49 => (((0 : Int) ≤ v50 ∧ v50 < 5200) ∧ (g32 (M49 (c + 235) (Int.toNat v50)) → ((¬ M49 (c + 235) (Int.toNat v50) = 400 → ((x3 = 0 → (g32 (M49 c 8) → (((0 : Int) ≤ M49 c 8 ∧ M49 c 8 < 41) ∧ gsX X (X.2.2 (c + 23) (Int.toNat (M49 c 8))) ∧ (((0 : Int) ≤ M49 (c + 235) (Int.toNat v50) ∧ M49 (c + 235) (Int.toNat v50) < 400) ∧ (g32 (M49 ((X.2.2 (c + 23) (Int.toNat (M49 c 8))) + 2) (Int.toNat (M49 (c + 235) (Int.toNat v50)))) → (((0 : Int) ≤ M49 ((X.2.2 (c + 23) (Int.toNat (M49 c 8))) + 2) (Int.toNat (M49 (c + 235) (Int.toNat v50))) ∧ M49 ((X.2.2 (c + 23) (Int.toNat (M49 c 8))) + 2) (Int.toNat (M49 (c + 235) (Int.toNat v50))) < 513) ∧ (g32 (M49 (c + 3) (Int.toNat (M49 ((X.2.2 (c + 23) (Int.toNat (M49 c 8))) + 2) (Int.toNat (M49 (c + 235) (Int.toNat v50)))))) → (K (.returned (some (gI (M49 (c + 3) (Int.toNat (M49 ((X.2.2 (c + 23) (Int.toNat (M49 c 8))) + 2) (Int.toNat (M49 (c + 235) (Int.toNat v50))))))))) X M49)))))))) ∧ (x3 = 1 → (g32 (M49 c 8) → (((0 : Int) ≤ M49 c 8 ∧ M49 c 8 < 41) ∧ gsX X (X.2.2 (c + 23) (Int.toNat (M49 c 8))) ∧ (cI l G y_St_refs (gRm (d + 7)) false [gR G (X.2.2 (c + 23) (Int.toNat (M49 c 8))), gI (M49 (c + 235) (Int.toNat v50))] X M49 (fun v62 M61 => (K (.returned (some (gI v62))) X M61)))))) ∧ ((¬ x3 = 0 ∧ ¬ x3 = 1) → (g32 (M49 c 8) → (((0 : Int) ≤ M49 c 8 ∧ M49 c 8 < 41) ∧ gsX X (X.2.2 (c + 23) (Int.toNat (M49 c 8))) ∧ (cI l G y_St_gone (gRm (d + 7)) false [gR G (X.2.2 (c + 23) (Int.toNat (M49 c 8))), gI (M49 (c + 235) (Int.toNat v50))] X M49 (fun v68 M67 => (K (.returned (some (gI v68))) X M67)))))))) ∧ (M49 (c + 235) (Int.toNat v50) = 400 → (K (.returned (some (gI 0))) X M49))))))))))))))) : wp l G y_GL_content (gRr (d + 8) Nr) false K false 0 [.val (gR G c), .val (gI x1), .val (gI x2), .val (gI x3), .unset] [] X M 0 0 := by
  refine wp_iload_n d_GL_content_0 rfl rfl ?_
  refine wp_iload_n d_GL_content_1 rfl rfl ?_
  rcases T with T | T
  · exact ytS (by decide) (As := [gI x1, gI x2]) (st := []) d_GL_content_2 ca_GL_needCell ml_GL_73 sm_GL_needCell  rfl (by decide) (by decide) rfl id (fun h => by cases h) T
  refine ycS_V (md' := false) (As := [gI x1, gI x2]) (st := []) d_GL_content_2 ca_GL_needCell ml_GL_73 sm_GL_needCell  rfl (by decide) (by decide) rfl id id T (fun M1 T => ?_)
  refine wp_iload_n d_GL_content_5 rfl rfl ?_
  refine xz_lt (tgt := 18) d_GL_content_6 (by decide) (w32_id hx3) (fun h72 => ?_) (fun h72 => ?_)
  · have T := T.1 h72
    refine wp_iconst d_GL_content_18 ?_
    rcases T with T | T
    · exact ytS (by decide) (As := [gI 0]) (st := []) d_GL_content_19 ca_GL_need ml_GL_69 sm_GL_need  rfl (by decide) (by decide) rfl id (fun h => by cases h) T
    refine ycS_V (md' := false) (As := [gI 0]) (st := []) d_GL_content_19 ca_GL_need ml_GL_69 sm_GL_need  rfl (by decide) (by decide) rfl id id T (fun M2 T => ?_)
    refine wp_aload_n d_GL_content_22 rfl rfl (g_nz (gl_1 hX 0)) ?_
    refine xgetR d_GL_content_23 gc_GL f_GL_54.1 f_GL_54.2.1 f_GL_54.2.2.1 (gl_1 hX 0) (gl_2 hX (a := 0) (by decide)) (gl_s0 hX) f_GL_54.2.2.2.2.1 (gl_f0 hX 27 rfl) ?_
    refine xgetR d_GL_content_26 gc_Rs f_GL_127.1 f_GL_127.2.1 f_GL_127.2.2.1 (gl_1 hX 234) (gl_2 hX (a := 234) (by decide)) (gl_s hX 24 rfl) f_GL_127.2.2.2.2.1 (gl_f hX 28 rfl) ?_
    refine wp_iload_n d_GL_content_29 rfl rfl ?_
    refine wp_iload_n d_GL_content_30 rfl rfl ?_
    refine ycS_I (md' := false) (As := [gI x1, gI x2]) (st := [gR G (c + 235)]) d_GL_content_31 ca_GL_place ml_GL_88 sm_GL_place rfl (by decide) (by simp only [List.map, gR_cat, gI_cat, gL_cat, List.sum_cons, List.sum_nil]; decide) rfl id id T (fun v4 M3 h5 T => ?_)
    refine wp_iaload d_GL_content_34 (gl_1 hX 235) (gl_2 hX (a := 235) (by decide)) (gl_s hX 25 rfl) (g32_n T.1 (by decide)) T.1.1 T.1.2 (fun h6 => ?_)
    have T := T.2 h6
    refine wp_istore (L' := [.val (gR G c), .val (gI x1), .val (gI x2), .val (gI x3), .val (gI (M3 (c + 235) (Int.toNat v4)))]) d_GL_content_35 (by decide) rfl ?_
    refine wp_iload d_GL_content_37 rfl ?_
    refine wp_sipush d_GL_content_39 ⟨by decide, by decide⟩ ?_
    refine xi_ne (tgt := 47) d_GL_content_42 (by decide) (w32_id h6) (w32_id (g32_c (x := 400) rfl)) (fun h24 => ?_) (fun h24 => ?_)
    · have T := T.1 h24
      refine wp_iload_n d_GL_content_47 rfl rfl ?_
      obtain ⟨T0, T1, T2⟩ := T
      by_cases hc0 : x3 = 0
      · refine xlook (off := 28) (tgt := 76) d_GL_content_48 (w32_id hx3) rfl (by rw [hc0]; rfl) (by decide) ?_
        have T := T0 hc0
        refine wp_aload_n d_GL_content_76 rfl rfl (g_nz (gl_1 hX 0)) ?_
        refine xgetR d_GL_content_77 gc_GL f_GL_16.1 f_GL_16.2.1 f_GL_16.2.2.1 (gl_1 hX 0) (gl_2 hX (a := 0) (by decide)) (gl_s0 hX) f_GL_16.2.2.2.2.1 (gl_f0 hX 1 rfl) ?_
        refine xgetR d_GL_content_80 gc_Cn f_GL_151.1 f_GL_151.2.1 f_GL_151.2.2.1 (gl_1 hX 2) (gl_2 hX (a := 2) (by decide)) (gl_s hX 2 rfl) f_GL_151.2.2.2.2.1 (gl_f hX 2 rfl) ?_
        refine wp_aload_n d_GL_content_83 rfl rfl (g_nz (gl_1 hX 0)) ?_
        refine xgetR d_GL_content_84 gc_GL f_GL_40.1 f_GL_40.2.1 f_GL_40.2.2.1 (gl_1 hX 0) (gl_2 hX (a := 0) (by decide)) (gl_s0 hX) f_GL_40.2.2.2.2.1 (gl_f0 hX 26 rfl) ?_
        refine wp_aload_n d_GL_content_87 rfl rfl (g_nz (gl_1 hX 0)) ?_
        refine xgetI d_GL_content_88 gc_GL f_GL_81.1 f_GL_81.2.1 f_GL_81.2.2.1 (gl_1 hX 0) (gl_2 hX (a := 0) (by decide)) (gl_s0 hX) f_GL_81.2.2.2.2.1 (fun h7 => ?_)
        have T := T h7
        have h8 := T.1
        have q9 := T.2.1
        refine xaald d_GL_content_91 (Or.inr rfl) (gl_1 hX 23) (gl_2 hX (a := 23) (by decide)) (gl_s hX 23 rfl) (g32_n h8 (by decide)) h8.1 h8.2 rfl ?_
        have T := T.2.2
        refine xgetR d_GL_content_92 gc_St f_GL_152.1 f_GL_152.2.1 f_GL_152.2.2.1 q9.1 (gs_2 q9) q9.2.2.1 f_GL_152.2.2.2.2.1 (gs_r q9 1 rfl).1 ?_
        refine wp_iload d_GL_content_95 rfl ?_
        refine wp_iaload d_GL_content_97 (gs_r q9 1 rfl).2.2.1 (gs_r q9 1 rfl).2.2.2 (gs_r q9 1 rfl).2.1 (g32_n T.1 (by decide)) T.1.1 T.1.2 (fun h10 => ?_)
        have T := T.2 h10
        refine wp_iaload d_GL_content_98 (gl_1 hX 3) (gl_2 hX (a := 3) (by decide)) (gl_s hX 3 rfl) (g32_n T.1 (by decide)) T.1.1 T.1.2 (fun h11 => ?_)
        have T := T.2 h11
        exact wp_st (st' := [gI (M3 (c + 3) (Int.toNat (M3 ((X.2.2 (c + 23) (Int.toNat (M3 c 8))) + 2) (Int.toNat (M3 (c + 235) (Int.toNat v4))))))]) (by rfl) (wp_ireturn d_GL_content_99 rfl id (Nat.zero_le _) (Nat.zero_le _) T)
      by_cases hc1 : x3 = 1
      · refine xlook (off := 52) (tgt := 100) d_GL_content_48 (w32_id hx3) rfl (by rw [hc1]; rfl) (by decide) ?_
        have T := T1 hc1
        refine wp_aload_n d_GL_content_100 rfl rfl (g_nz (gl_1 hX 0)) ?_
        refine xgetR d_GL_content_101 gc_GL f_GL_40.1 f_GL_40.2.1 f_GL_40.2.2.1 (gl_1 hX 0) (gl_2 hX (a := 0) (by decide)) (gl_s0 hX) f_GL_40.2.2.2.2.1 (gl_f0 hX 26 rfl) ?_
        refine wp_aload_n d_GL_content_104 rfl rfl (g_nz (gl_1 hX 0)) ?_
        refine xgetI d_GL_content_105 gc_GL f_GL_81.1 f_GL_81.2.1 f_GL_81.2.2.1 (gl_1 hX 0) (gl_2 hX (a := 0) (by decide)) (gl_s0 hX) f_GL_81.2.2.2.2.1 (fun h12 => ?_)
        have T := T h12
        have h13 := T.1
        have q14 := T.2.1
        refine xaald d_GL_content_108 (Or.inr rfl) (gl_1 hX 23) (gl_2 hX (a := 23) (by decide)) (gl_s hX 23 rfl) (g32_n h13 (by decide)) h13.1 h13.2 rfl ?_
        have T := T.2.2
        refine wp_iload d_GL_content_109 rfl ?_
        refine ycV_I (md' := false) (As := [gI (M3 (c + 235) (Int.toNat v4))]) (st := []) d_GL_content_111 ca_St_refs ml_GL_155 im_St_refs se_St_refs gc_St q14.1 (gs_2 q14) q14.2.2.1 rfl (by decide) (by decide) rfl id id T (fun v16 M15 h17 T => ?_)
        exact wp_st (st' := [gI v16]) (by rfl) (wp_ireturn d_GL_content_114 rfl id (Nat.zero_le _) (Nat.zero_le _) T)
      refine xlook (off := 67) (tgt := 115) d_GL_content_48 (w32_id hx3) rfl (show Op.lookupswitch.offset [(0, 28), (1, 52)] 67 x3 = 67 by simp only [Op.lookupswitch.offset, if_neg (Ne.symm hc0), if_neg (Ne.symm hc1)]) (by decide) ?_
      have T := T2 ⟨hc0, hc1⟩
      refine wp_aload_n d_GL_content_115 rfl rfl (g_nz (gl_1 hX 0)) ?_
      refine xgetR d_GL_content_116 gc_GL f_GL_40.1 f_GL_40.2.1 f_GL_40.2.2.1 (gl_1 hX 0) (gl_2 hX (a := 0) (by decide)) (gl_s0 hX) f_GL_40.2.2.2.2.1 (gl_f0 hX 26 rfl) ?_
      refine wp_aload_n d_GL_content_119 rfl rfl (g_nz (gl_1 hX 0)) ?_
      refine xgetI d_GL_content_120 gc_GL f_GL_81.1 f_GL_81.2.1 f_GL_81.2.2.1 (gl_1 hX 0) (gl_2 hX (a := 0) (by decide)) (gl_s0 hX) f_GL_81.2.2.2.2.1 (fun h18 => ?_)
      have T := T h18
      have h19 := T.1
      have q20 := T.2.1
      refine xaald d_GL_content_123 (Or.inr rfl) (gl_1 hX 23) (gl_2 hX (a := 23) (by decide)) (gl_s hX 23 rfl) (g32_n h19 (by decide)) h19.1 h19.2 rfl ?_
      have T := T.2.2
      refine wp_iload d_GL_content_124 rfl ?_
      refine ycV_I (md' := false) (As := [gI (M3 (c + 235) (Int.toNat v4))]) (st := []) d_GL_content_126 ca_St_gone ml_GL_158 im_St_gone se_St_gone gc_St q20.1 (gs_2 q20) q20.2.2.1 rfl (by decide) (by decide) rfl id id T (fun v22 M21 h23 T => ?_)
      exact wp_st (st' := [gI v22]) (by rfl) (wp_ireturn d_GL_content_129 rfl id (Nat.zero_le _) (Nat.zero_le _) T)
    · have T := T.2 h24
      refine wp_iconst d_GL_content_45 ?_
      exact wp_st (st' := [gI 0]) (by rfl) (wp_ireturn d_GL_content_46 rfl id (Nat.zero_le _) (Nat.zero_le _) T)
  · have T := T.2 h72
    refine wp_iload_n d_GL_content_9 rfl rfl ?_
    refine wp_iconst d_GL_content_10 ?_
    refine xi_gt (tgt := 18) d_GL_content_11 (by decide) (w32_id hx3) (w32_id (g32_c (x := 2) rfl)) (fun h71 => ?_) (fun h71 => ?_)
    · have T := T.1 h71
      refine wp_iconst d_GL_content_18 ?_
      rcases T with T | T
      · exact ytS (by decide) (As := [gI 0]) (st := []) d_GL_content_19 ca_GL_need ml_GL_69 sm_GL_need  rfl (by decide) (by decide) rfl id (fun h => by cases h) T
      refine ycS_V (md' := false) (As := [gI 0]) (st := []) d_GL_content_19 ca_GL_need ml_GL_69 sm_GL_need  rfl (by decide) (by decide) rfl id id T (fun M25 T => ?_)
      refine wp_aload_n d_GL_content_22 rfl rfl (g_nz (gl_1 hX 0)) ?_
      refine xgetR d_GL_content_23 gc_GL f_GL_54.1 f_GL_54.2.1 f_GL_54.2.2.1 (gl_1 hX 0) (gl_2 hX (a := 0) (by decide)) (gl_s0 hX) f_GL_54.2.2.2.2.1 (gl_f0 hX 27 rfl) ?_
      refine xgetR d_GL_content_26 gc_Rs f_GL_127.1 f_GL_127.2.1 f_GL_127.2.2.1 (gl_1 hX 234) (gl_2 hX (a := 234) (by decide)) (gl_s hX 24 rfl) f_GL_127.2.2.2.2.1 (gl_f hX 28 rfl) ?_
      refine wp_iload_n d_GL_content_29 rfl rfl ?_
      refine wp_iload_n d_GL_content_30 rfl rfl ?_
      refine ycS_I (md' := false) (As := [gI x1, gI x2]) (st := [gR G (c + 235)]) d_GL_content_31 ca_GL_place ml_GL_88 sm_GL_place rfl (by decide) (by simp only [List.map, gR_cat, gI_cat, gL_cat, List.sum_cons, List.sum_nil]; decide) rfl id id T (fun v27 M26 h28 T => ?_)
      refine wp_iaload d_GL_content_34 (gl_1 hX 235) (gl_2 hX (a := 235) (by decide)) (gl_s hX 25 rfl) (g32_n T.1 (by decide)) T.1.1 T.1.2 (fun h29 => ?_)
      have T := T.2 h29
      refine wp_istore (L' := [.val (gR G c), .val (gI x1), .val (gI x2), .val (gI x3), .val (gI (M26 (c + 235) (Int.toNat v27)))]) d_GL_content_35 (by decide) rfl ?_
      refine wp_iload d_GL_content_37 rfl ?_
      refine wp_sipush d_GL_content_39 ⟨by decide, by decide⟩ ?_
      refine xi_ne (tgt := 47) d_GL_content_42 (by decide) (w32_id h29) (w32_id (g32_c (x := 400) rfl)) (fun h47 => ?_) (fun h47 => ?_)
      · have T := T.1 h47
        refine wp_iload_n d_GL_content_47 rfl rfl ?_
        obtain ⟨T0, T1, T2⟩ := T
        by_cases hc0 : x3 = 0
        · refine xlook (off := 28) (tgt := 76) d_GL_content_48 (w32_id hx3) rfl (by rw [hc0]; rfl) (by decide) ?_
          have T := T0 hc0
          refine wp_aload_n d_GL_content_76 rfl rfl (g_nz (gl_1 hX 0)) ?_
          refine xgetR d_GL_content_77 gc_GL f_GL_16.1 f_GL_16.2.1 f_GL_16.2.2.1 (gl_1 hX 0) (gl_2 hX (a := 0) (by decide)) (gl_s0 hX) f_GL_16.2.2.2.2.1 (gl_f0 hX 1 rfl) ?_
          refine xgetR d_GL_content_80 gc_Cn f_GL_151.1 f_GL_151.2.1 f_GL_151.2.2.1 (gl_1 hX 2) (gl_2 hX (a := 2) (by decide)) (gl_s hX 2 rfl) f_GL_151.2.2.2.2.1 (gl_f hX 2 rfl) ?_
          refine wp_aload_n d_GL_content_83 rfl rfl (g_nz (gl_1 hX 0)) ?_
          refine xgetR d_GL_content_84 gc_GL f_GL_40.1 f_GL_40.2.1 f_GL_40.2.2.1 (gl_1 hX 0) (gl_2 hX (a := 0) (by decide)) (gl_s0 hX) f_GL_40.2.2.2.2.1 (gl_f0 hX 26 rfl) ?_
          refine wp_aload_n d_GL_content_87 rfl rfl (g_nz (gl_1 hX 0)) ?_
          refine xgetI d_GL_content_88 gc_GL f_GL_81.1 f_GL_81.2.1 f_GL_81.2.2.1 (gl_1 hX 0) (gl_2 hX (a := 0) (by decide)) (gl_s0 hX) f_GL_81.2.2.2.2.1 (fun h30 => ?_)
          have T := T h30
          have h31 := T.1
          have q32 := T.2.1
          refine xaald d_GL_content_91 (Or.inr rfl) (gl_1 hX 23) (gl_2 hX (a := 23) (by decide)) (gl_s hX 23 rfl) (g32_n h31 (by decide)) h31.1 h31.2 rfl ?_
          have T := T.2.2
          refine xgetR d_GL_content_92 gc_St f_GL_152.1 f_GL_152.2.1 f_GL_152.2.2.1 q32.1 (gs_2 q32) q32.2.2.1 f_GL_152.2.2.2.2.1 (gs_r q32 1 rfl).1 ?_
          refine wp_iload d_GL_content_95 rfl ?_
          refine wp_iaload d_GL_content_97 (gs_r q32 1 rfl).2.2.1 (gs_r q32 1 rfl).2.2.2 (gs_r q32 1 rfl).2.1 (g32_n T.1 (by decide)) T.1.1 T.1.2 (fun h33 => ?_)
          have T := T.2 h33
          refine wp_iaload d_GL_content_98 (gl_1 hX 3) (gl_2 hX (a := 3) (by decide)) (gl_s hX 3 rfl) (g32_n T.1 (by decide)) T.1.1 T.1.2 (fun h34 => ?_)
          have T := T.2 h34
          exact wp_st (st' := [gI (M26 (c + 3) (Int.toNat (M26 ((X.2.2 (c + 23) (Int.toNat (M26 c 8))) + 2) (Int.toNat (M26 (c + 235) (Int.toNat v27))))))]) (by rfl) (wp_ireturn d_GL_content_99 rfl id (Nat.zero_le _) (Nat.zero_le _) T)
        by_cases hc1 : x3 = 1
        · refine xlook (off := 52) (tgt := 100) d_GL_content_48 (w32_id hx3) rfl (by rw [hc1]; rfl) (by decide) ?_
          have T := T1 hc1
          refine wp_aload_n d_GL_content_100 rfl rfl (g_nz (gl_1 hX 0)) ?_
          refine xgetR d_GL_content_101 gc_GL f_GL_40.1 f_GL_40.2.1 f_GL_40.2.2.1 (gl_1 hX 0) (gl_2 hX (a := 0) (by decide)) (gl_s0 hX) f_GL_40.2.2.2.2.1 (gl_f0 hX 26 rfl) ?_
          refine wp_aload_n d_GL_content_104 rfl rfl (g_nz (gl_1 hX 0)) ?_
          refine xgetI d_GL_content_105 gc_GL f_GL_81.1 f_GL_81.2.1 f_GL_81.2.2.1 (gl_1 hX 0) (gl_2 hX (a := 0) (by decide)) (gl_s0 hX) f_GL_81.2.2.2.2.1 (fun h35 => ?_)
          have T := T h35
          have h36 := T.1
          have q37 := T.2.1
          refine xaald d_GL_content_108 (Or.inr rfl) (gl_1 hX 23) (gl_2 hX (a := 23) (by decide)) (gl_s hX 23 rfl) (g32_n h36 (by decide)) h36.1 h36.2 rfl ?_
          have T := T.2.2
          refine wp_iload d_GL_content_109 rfl ?_
          refine ycV_I (md' := false) (As := [gI (M26 (c + 235) (Int.toNat v27))]) (st := []) d_GL_content_111 ca_St_refs ml_GL_155 im_St_refs se_St_refs gc_St q37.1 (gs_2 q37) q37.2.2.1 rfl (by decide) (by decide) rfl id id T (fun v39 M38 h40 T => ?_)
          exact wp_st (st' := [gI v39]) (by rfl) (wp_ireturn d_GL_content_114 rfl id (Nat.zero_le _) (Nat.zero_le _) T)
        refine xlook (off := 67) (tgt := 115) d_GL_content_48 (w32_id hx3) rfl (show Op.lookupswitch.offset [(0, 28), (1, 52)] 67 x3 = 67 by simp only [Op.lookupswitch.offset, if_neg (Ne.symm hc0), if_neg (Ne.symm hc1)]) (by decide) ?_
        have T := T2 ⟨hc0, hc1⟩
        refine wp_aload_n d_GL_content_115 rfl rfl (g_nz (gl_1 hX 0)) ?_
        refine xgetR d_GL_content_116 gc_GL f_GL_40.1 f_GL_40.2.1 f_GL_40.2.2.1 (gl_1 hX 0) (gl_2 hX (a := 0) (by decide)) (gl_s0 hX) f_GL_40.2.2.2.2.1 (gl_f0 hX 26 rfl) ?_
        refine wp_aload_n d_GL_content_119 rfl rfl (g_nz (gl_1 hX 0)) ?_
        refine xgetI d_GL_content_120 gc_GL f_GL_81.1 f_GL_81.2.1 f_GL_81.2.2.1 (gl_1 hX 0) (gl_2 hX (a := 0) (by decide)) (gl_s0 hX) f_GL_81.2.2.2.2.1 (fun h41 => ?_)
        have T := T h41
        have h42 := T.1
        have q43 := T.2.1
        refine xaald d_GL_content_123 (Or.inr rfl) (gl_1 hX 23) (gl_2 hX (a := 23) (by decide)) (gl_s hX 23 rfl) (g32_n h42 (by decide)) h42.1 h42.2 rfl ?_
        have T := T.2.2
        refine wp_iload d_GL_content_124 rfl ?_
        refine ycV_I (md' := false) (As := [gI (M26 (c + 235) (Int.toNat v27))]) (st := []) d_GL_content_126 ca_St_gone ml_GL_158 im_St_gone se_St_gone gc_St q43.1 (gs_2 q43) q43.2.2.1 rfl (by decide) (by decide) rfl id id T (fun v45 M44 h46 T => ?_)
        exact wp_st (st' := [gI v45]) (by rfl) (wp_ireturn d_GL_content_129 rfl id (Nat.zero_le _) (Nat.zero_le _) T)
      · have T := T.2 h47
        refine wp_iconst d_GL_content_45 ?_
        exact wp_st (st' := [gI 0]) (by rfl) (wp_ireturn d_GL_content_46 rfl id (Nat.zero_le _) (Nat.zero_le _) T)
    · have T := T.2 h71
      refine wp_iconst d_GL_content_14 ?_
      refine wp_goto (tgt := 19) d_GL_content_15 (by decide) ?_
      rcases T with T | T
      · exact ytS (by decide) (As := [gI 1]) (st := []) d_GL_content_19 ca_GL_need ml_GL_69 sm_GL_need  rfl (by decide) (by decide) rfl id (fun h => by cases h) T
      refine ycS_V (md' := false) (As := [gI 1]) (st := []) d_GL_content_19 ca_GL_need ml_GL_69 sm_GL_need  rfl (by decide) (by decide) rfl id id T (fun M48 T => ?_)
      refine wp_aload_n d_GL_content_22 rfl rfl (g_nz (gl_1 hX 0)) ?_
      refine xgetR d_GL_content_23 gc_GL f_GL_54.1 f_GL_54.2.1 f_GL_54.2.2.1 (gl_1 hX 0) (gl_2 hX (a := 0) (by decide)) (gl_s0 hX) f_GL_54.2.2.2.2.1 (gl_f0 hX 27 rfl) ?_
      refine xgetR d_GL_content_26 gc_Rs f_GL_127.1 f_GL_127.2.1 f_GL_127.2.2.1 (gl_1 hX 234) (gl_2 hX (a := 234) (by decide)) (gl_s hX 24 rfl) f_GL_127.2.2.2.2.1 (gl_f hX 28 rfl) ?_
      refine wp_iload_n d_GL_content_29 rfl rfl ?_
      refine wp_iload_n d_GL_content_30 rfl rfl ?_
      refine ycS_I (md' := false) (As := [gI x1, gI x2]) (st := [gR G (c + 235)]) d_GL_content_31 ca_GL_place ml_GL_88 sm_GL_place rfl (by decide) (by simp only [List.map, gR_cat, gI_cat, gL_cat, List.sum_cons, List.sum_nil]; decide) rfl id id T (fun v50 M49 h51 T => ?_)
      refine wp_iaload d_GL_content_34 (gl_1 hX 235) (gl_2 hX (a := 235) (by decide)) (gl_s hX 25 rfl) (g32_n T.1 (by decide)) T.1.1 T.1.2 (fun h52 => ?_)
      have T := T.2 h52
      refine wp_istore (L' := [.val (gR G c), .val (gI x1), .val (gI x2), .val (gI x3), .val (gI (M49 (c + 235) (Int.toNat v50)))]) d_GL_content_35 (by decide) rfl ?_
      refine wp_iload d_GL_content_37 rfl ?_
      refine wp_sipush d_GL_content_39 ⟨by decide, by decide⟩ ?_
      refine xi_ne (tgt := 47) d_GL_content_42 (by decide) (w32_id h52) (w32_id (g32_c (x := 400) rfl)) (fun h70 => ?_) (fun h70 => ?_)
      · have T := T.1 h70
        refine wp_iload_n d_GL_content_47 rfl rfl ?_
        obtain ⟨T0, T1, T2⟩ := T
        by_cases hc0 : x3 = 0
        · refine xlook (off := 28) (tgt := 76) d_GL_content_48 (w32_id hx3) rfl (by rw [hc0]; rfl) (by decide) ?_
          have T := T0 hc0
          refine wp_aload_n d_GL_content_76 rfl rfl (g_nz (gl_1 hX 0)) ?_
          refine xgetR d_GL_content_77 gc_GL f_GL_16.1 f_GL_16.2.1 f_GL_16.2.2.1 (gl_1 hX 0) (gl_2 hX (a := 0) (by decide)) (gl_s0 hX) f_GL_16.2.2.2.2.1 (gl_f0 hX 1 rfl) ?_
          refine xgetR d_GL_content_80 gc_Cn f_GL_151.1 f_GL_151.2.1 f_GL_151.2.2.1 (gl_1 hX 2) (gl_2 hX (a := 2) (by decide)) (gl_s hX 2 rfl) f_GL_151.2.2.2.2.1 (gl_f hX 2 rfl) ?_
          refine wp_aload_n d_GL_content_83 rfl rfl (g_nz (gl_1 hX 0)) ?_
          refine xgetR d_GL_content_84 gc_GL f_GL_40.1 f_GL_40.2.1 f_GL_40.2.2.1 (gl_1 hX 0) (gl_2 hX (a := 0) (by decide)) (gl_s0 hX) f_GL_40.2.2.2.2.1 (gl_f0 hX 26 rfl) ?_
          refine wp_aload_n d_GL_content_87 rfl rfl (g_nz (gl_1 hX 0)) ?_
          refine xgetI d_GL_content_88 gc_GL f_GL_81.1 f_GL_81.2.1 f_GL_81.2.2.1 (gl_1 hX 0) (gl_2 hX (a := 0) (by decide)) (gl_s0 hX) f_GL_81.2.2.2.2.1 (fun h53 => ?_)
          have T := T h53
          have h54 := T.1
          have q55 := T.2.1
          refine xaald d_GL_content_91 (Or.inr rfl) (gl_1 hX 23) (gl_2 hX (a := 23) (by decide)) (gl_s hX 23 rfl) (g32_n h54 (by decide)) h54.1 h54.2 rfl ?_
          have T := T.2.2
          refine xgetR d_GL_content_92 gc_St f_GL_152.1 f_GL_152.2.1 f_GL_152.2.2.1 q55.1 (gs_2 q55) q55.2.2.1 f_GL_152.2.2.2.2.1 (gs_r q55 1 rfl).1 ?_
          refine wp_iload d_GL_content_95 rfl ?_
          refine wp_iaload d_GL_content_97 (gs_r q55 1 rfl).2.2.1 (gs_r q55 1 rfl).2.2.2 (gs_r q55 1 rfl).2.1 (g32_n T.1 (by decide)) T.1.1 T.1.2 (fun h56 => ?_)
          have T := T.2 h56
          refine wp_iaload d_GL_content_98 (gl_1 hX 3) (gl_2 hX (a := 3) (by decide)) (gl_s hX 3 rfl) (g32_n T.1 (by decide)) T.1.1 T.1.2 (fun h57 => ?_)
          have T := T.2 h57
          exact wp_st (st' := [gI (M49 (c + 3) (Int.toNat (M49 ((X.2.2 (c + 23) (Int.toNat (M49 c 8))) + 2) (Int.toNat (M49 (c + 235) (Int.toNat v50))))))]) (by rfl) (wp_ireturn d_GL_content_99 rfl id (Nat.zero_le _) (Nat.zero_le _) T)
        by_cases hc1 : x3 = 1
        · refine xlook (off := 52) (tgt := 100) d_GL_content_48 (w32_id hx3) rfl (by rw [hc1]; rfl) (by decide) ?_
          have T := T1 hc1
          refine wp_aload_n d_GL_content_100 rfl rfl (g_nz (gl_1 hX 0)) ?_
          refine xgetR d_GL_content_101 gc_GL f_GL_40.1 f_GL_40.2.1 f_GL_40.2.2.1 (gl_1 hX 0) (gl_2 hX (a := 0) (by decide)) (gl_s0 hX) f_GL_40.2.2.2.2.1 (gl_f0 hX 26 rfl) ?_
          refine wp_aload_n d_GL_content_104 rfl rfl (g_nz (gl_1 hX 0)) ?_
          refine xgetI d_GL_content_105 gc_GL f_GL_81.1 f_GL_81.2.1 f_GL_81.2.2.1 (gl_1 hX 0) (gl_2 hX (a := 0) (by decide)) (gl_s0 hX) f_GL_81.2.2.2.2.1 (fun h58 => ?_)
          have T := T h58
          have h59 := T.1
          have q60 := T.2.1
          refine xaald d_GL_content_108 (Or.inr rfl) (gl_1 hX 23) (gl_2 hX (a := 23) (by decide)) (gl_s hX 23 rfl) (g32_n h59 (by decide)) h59.1 h59.2 rfl ?_
          have T := T.2.2
          refine wp_iload d_GL_content_109 rfl ?_
          refine ycV_I (md' := false) (As := [gI (M49 (c + 235) (Int.toNat v50))]) (st := []) d_GL_content_111 ca_St_refs ml_GL_155 im_St_refs se_St_refs gc_St q60.1 (gs_2 q60) q60.2.2.1 rfl (by decide) (by decide) rfl id id T (fun v62 M61 h63 T => ?_)
          exact wp_st (st' := [gI v62]) (by rfl) (wp_ireturn d_GL_content_114 rfl id (Nat.zero_le _) (Nat.zero_le _) T)
        refine xlook (off := 67) (tgt := 115) d_GL_content_48 (w32_id hx3) rfl (show Op.lookupswitch.offset [(0, 28), (1, 52)] 67 x3 = 67 by simp only [Op.lookupswitch.offset, if_neg (Ne.symm hc0), if_neg (Ne.symm hc1)]) (by decide) ?_
        have T := T2 ⟨hc0, hc1⟩
        refine wp_aload_n d_GL_content_115 rfl rfl (g_nz (gl_1 hX 0)) ?_
        refine xgetR d_GL_content_116 gc_GL f_GL_40.1 f_GL_40.2.1 f_GL_40.2.2.1 (gl_1 hX 0) (gl_2 hX (a := 0) (by decide)) (gl_s0 hX) f_GL_40.2.2.2.2.1 (gl_f0 hX 26 rfl) ?_
        refine wp_aload_n d_GL_content_119 rfl rfl (g_nz (gl_1 hX 0)) ?_
        refine xgetI d_GL_content_120 gc_GL f_GL_81.1 f_GL_81.2.1 f_GL_81.2.2.1 (gl_1 hX 0) (gl_2 hX (a := 0) (by decide)) (gl_s0 hX) f_GL_81.2.2.2.2.1 (fun h64 => ?_)
        have T := T h64
        have h65 := T.1
        have q66 := T.2.1
        refine xaald d_GL_content_123 (Or.inr rfl) (gl_1 hX 23) (gl_2 hX (a := 23) (by decide)) (gl_s hX 23 rfl) (g32_n h65 (by decide)) h65.1 h65.2 rfl ?_
        have T := T.2.2
        refine wp_iload d_GL_content_124 rfl ?_
        refine ycV_I (md' := false) (As := [gI (M49 (c + 235) (Int.toNat v50))]) (st := []) d_GL_content_126 ca_St_gone ml_GL_158 im_St_gone se_St_gone gc_St q66.1 (gs_2 q66) q66.2.2.1 rfl (by decide) (by decide) rfl id id T (fun v68 M67 h69 T => ?_)
        exact wp_st (st' := [gI v68]) (by rfl) (wp_ireturn d_GL_content_129 rfl id (Nat.zero_le _) (Nat.zero_le _) T)
      · have T := T.2 h70
        refine wp_iconst d_GL_content_45 ?_
        exact wp_st (st' := [gI 0]) (by rfl) (wp_ireturn d_GL_content_46 rfl id (Nat.zero_le _) (Nat.zero_le _) T)
theorem eu_GL_content {l : Launch} {G : gG} {d : Nat} {X : gX} {M : gM} {Nr : Nat} {K : Outcome → gX → gM → Prop} {c : Nat} {x1 : Int} {x2 : Int} {x3 : Int} (T : wp l G y_GL_content (gRr (d + 8) Nr) false K false 0 [.val (gR G c), .val (gI x1), .val (gI x2), .val (gI x3), .unset] [] X M 0 0) : gCt l G y_GL_content (gRr (d + 8) Nr) false [gR G c, gI x1, gI x2, gI x3] X M K := gCt.of (plainFor_of_name rfl) (by simp only [lg_sl_R, lg_sl_I, lg_sl_L, lg_sl_N, List.length_cons, List.length_nil]; decide) (by unfold gEn; simp only [lg_sl_R, lg_sl_I, lg_sl_L, lg_sl_N]; exact wpt T (And.intro rfl (And.intro rfl (And.intro rfl (And.intro rfl True.intro)))))
theorem d_GL_reference_0 : decode prog_1_method_13_code 0 = .ok (.iload_n 1, 1) := by decide +kernel
theorem d_GL_reference_1 : decode prog_1_method_13_code 1 = .ok (.iload_n 2, 1) := by decide +kernel
theorem d_GL_reference_2 : decode prog_1_method_13_code 2 = .ok (.invokestatic 73, 3) := by decide +kernel
theorem d_GL_reference_5 : decode prog_1_method_13_code 5 = .ok (.aload_n 0, 1) := by decide +kernel
theorem d_GL_reference_6 : decode prog_1_method_13_code 6 = .ok (.getfield 54, 3) := by decide +kernel
theorem d_GL_reference_9 : decode prog_1_method_13_code 9 = .ok (.getfield 127, 3) := by decide +kernel
theorem d_GL_reference_12 : decode prog_1_method_13_code 12 = .ok (.iload_n 1, 1) := by decide +kernel
theorem d_GL_reference_13 : decode prog_1_method_13_code 13 = .ok (.iload_n 2, 1) := by decide +kernel
theorem d_GL_reference_14 : decode prog_1_method_13_code 14 = .ok (.invokestatic 88, 3) := by decide +kernel
theorem d_GL_reference_17 : decode prog_1_method_13_code 17 = .ok (.iaload, 1) := by decide +kernel
theorem d_GL_reference_18 : decode prog_1_method_13_code 18 = .ok (.istore 4, 2) := by decide +kernel
theorem d_GL_reference_20 : decode prog_1_method_13_code 20 = .ok (.iload 4, 2) := by decide +kernel
theorem d_GL_reference_22 : decode prog_1_method_13_code 22 = .ok (.sipush 400, 3) := by decide +kernel
theorem d_GL_reference_25 : decode prog_1_method_13_code 25 = .ok (.if_icmp .eq 25, 3) := by decide +kernel
theorem d_GL_reference_50 : decode prog_1_method_13_code 50 = .ok (.new 144, 3) := by decide +kernel
theorem d_GL_reference_53 : decode prog_1_method_13_code 53 = .ok (.dup, 1) := by decide +kernel
theorem d_GL_reference_54 : decode prog_1_method_13_code 54 = .ok (.invokespecial 146, 3) := by decide +kernel
theorem d_GL_reference_57 : decode prog_1_method_13_code 57 = .ok (.athrow, 1) := by decide +kernel
theorem d_GL_reference_28 : decode prog_1_method_13_code 28 = .ok (.iload_n 3, 1) := by decide +kernel
theorem d_GL_reference_29 : decode prog_1_method_13_code 29 = .ok (.ifCond .lt 21, 3) := by decide +kernel
theorem d_GL_reference_32 : decode prog_1_method_13_code 32 = .ok (.iload_n 3, 1) := by decide +kernel
theorem d_GL_reference_33 : decode prog_1_method_13_code 33 = .ok (.aload_n 0, 1) := by decide +kernel
theorem d_GL_reference_34 : decode prog_1_method_13_code 34 = .ok (.getfield 40, 3) := by decide +kernel
theorem d_GL_reference_37 : decode prog_1_method_13_code 37 = .ok (.aload_n 0, 1) := by decide +kernel
theorem d_GL_reference_38 : decode prog_1_method_13_code 38 = .ok (.getfield 81, 3) := by decide +kernel
theorem d_GL_reference_41 : decode prog_1_method_13_code 41 = .ok (.aaload, 1) := by decide +kernel
theorem d_GL_reference_42 : decode prog_1_method_13_code 42 = .ok (.iload 4, 2) := by decide +kernel
theorem d_GL_reference_44 : decode prog_1_method_13_code 44 = .ok (.invokevirtual 155, 3) := by decide +kernel
theorem d_GL_reference_47 : decode prog_1_method_13_code 47 = .ok (.if_icmp .lt 11, 3) := by decide +kernel
theorem d_GL_reference_58 : decode prog_1_method_13_code 58 = .ok (.aload_n 0, 1) := by decide +kernel
theorem d_GL_reference_59 : decode prog_1_method_13_code 59 = .ok (.getfield 40, 3) := by decide +kernel
theorem d_GL_reference_62 : decode prog_1_method_13_code 62 = .ok (.aload_n 0, 1) := by decide +kernel
theorem d_GL_reference_63 : decode prog_1_method_13_code 63 = .ok (.getfield 81, 3) := by decide +kernel
theorem d_GL_reference_66 : decode prog_1_method_13_code 66 = .ok (.aaload, 1) := by decide +kernel
theorem d_GL_reference_67 : decode prog_1_method_13_code 67 = .ok (.getfield 161, 3) := by decide +kernel
theorem d_GL_reference_70 : decode prog_1_method_13_code 70 = .ok (.aload_n 0, 1) := by decide +kernel
theorem d_GL_reference_71 : decode prog_1_method_13_code 71 = .ok (.getfield 40, 3) := by decide +kernel
theorem d_GL_reference_74 : decode prog_1_method_13_code 74 = .ok (.aload_n 0, 1) := by decide +kernel
theorem d_GL_reference_75 : decode prog_1_method_13_code 75 = .ok (.getfield 81, 3) := by decide +kernel
theorem d_GL_reference_78 : decode prog_1_method_13_code 78 = .ok (.aaload, 1) := by decide +kernel
theorem d_GL_reference_79 : decode prog_1_method_13_code 79 = .ok (.getfield 164, 3) := by decide +kernel
theorem d_GL_reference_82 : decode prog_1_method_13_code 82 = .ok (.iload 4, 2) := by decide +kernel
theorem d_GL_reference_84 : decode prog_1_method_13_code 84 = .ok (.iaload, 1) := by decide +kernel
theorem d_GL_reference_85 : decode prog_1_method_13_code 85 = .ok (.iload_n 3, 1) := by decide +kernel
theorem d_GL_reference_86 : decode prog_1_method_13_code 86 = .ok (.iadd, 1) := by decide +kernel
theorem d_GL_reference_87 : decode prog_1_method_13_code 87 = .ok (.iaload, 1) := by decide +kernel
theorem d_GL_reference_88 : decode prog_1_method_13_code 88 = .ok (.ireturn, 1) := by decide +kernel
set_option maxHeartbeats 4000000 in
theorem u_GL_reference_0 {l : Launch} {G : gG} {d : Nat} {X : gX} {M : gM} {Nr : Nat} {K : Outcome → gX → gM → Prop} {c : Nat} (hX : glX X c) {x1 : Int} (hx1 : g32 x1) {x2 : Int} (hx2 : g32 x2) {x3 : Int} (hx3 : g32 x3)  (hl : gOk l G) (T : cT l G y_GL_needCell (gRr (d + 7) Nr) false [gI x1, gI x2] X M K ∨ cV l G y_GL_needCell (gRm (d + 7)) false [gI x1, gI x2] X M (fun M1 => (cI l G y_GL_place (gRm (d + 7)) false [gI x1, gI x2] X M1 (fun v3 M2 => (((0 : Int) ≤ v3 ∧ v3 < 5200) ∧ (g32 (M2 (c + 235) (Int.toNat v3)) → ((M2 (c + 235) (Int.toNat v3) = 400 → (1 ≤ Nr ∧ K (.threw (G.2.2.1 + (X.1 + 1))) (gNw X (21, 0)) (gZr M2 (X.1 + 1)))) ∧ (¬ M2 (c + 235) (Int.toNat v3) = 400 → ((x3 < 0 → (1 ≤ Nr ∧ K (.threw (G.2.2.1 + (X.1 + 1))) (gNw X (21, 0)) (gZr M2 (X.1 + 1)))) ∧ (¬ x3 < 0 → (g32 (M2 c 8) → (((0 : Int) ≤ M2 c 8 ∧ M2 c 8 < 41) ∧ gsX X (X.2.2 (c + 23) (Int.toNat (M2 c 8))) ∧ (cI l G y_St_refs (gRm (d + 7)) false [gR G (X.2.2 (c + 23) (Int.toNat (M2 c 8))), gI (M2 (c + 235) (Int.toNat v3))] X M2 (fun v10 M9 => ((x3 < v10 → (g32 (M9 c 8) → (((0 : Int) ≤ M9 c 8 ∧ M9 c 8 < 41) ∧ gsX X (X.2.2 (c + 23) (Int.toNat (M9 c 8))) ∧ (g32 (M9 c 8) → (((0 : Int) ≤ M9 c 8 ∧ M9 c 8 < 41) ∧ gsX X (X.2.2 (c + 23) (Int.toNat (M9 c 8))) ∧ (((0 : Int) ≤ M2 (c + 235) (Int.toNat v3) ∧ M2 (c + 235) (Int.toNat v3) < 401) ∧ (g32 (M9 ((X.2.2 (c + 23) (Int.toNat (M9 c 8))) + 3) (Int.toNat (M2 (c + 235) (Int.toNat v3)))) → (((0 : Int) ≤ (M9 ((X.2.2 (c + 23) (Int.toNat (M9 c 8))) + 3) (Int.toNat (M2 (c + 235) (Int.toNat v3)))) + x3 ∧ (M9 ((X.2.2 (c + 23) (Int.toNat (M9 c 8))) + 3) (Int.toNat (M2 (c + 235) (Int.toNat v3)))) + x3 < 20000) ∧ (g32 (M9 ((X.2.2 (c + 23) (Int.toNat (M9 c 8))) + 4) (Int.toNat ((M9 ((X.2.2 (c + 23) (Int.toNat (M9 c 8))) + 3) (Int.toNat (M2 (c + 235) (Int.toNat v3)))) + x3))) → (K (.returned (some (gI (M9 ((X.2.2 (c + 23) (Int.toNat (M9 c 8))) + 4) (Int.toNat ((M9 ((X.2.2 (c + 23) (Int.toNat (M9 c 8))) + 3) (Int.toNat (M2 (c + 235) (Int.toNat v3)))) + x3)))))) X M9)))))))))) ∧ (¬ x3 < v10 → (1 ≤ Nr ∧ K (.threw (G.2.2.1 + (X.1 + 1))) (gNw X (21, 0)) (gZr M9 (X.1 + 1))))))))))))))))))) : wp l G y_GL_reference (gRr (d + 8) Nr) false K false 0 [.val (gR G c), .val (gI x1), .val (gI x2), .val (gI x3), .unset] [] X M 0 0 := by
  refine wp_iload_n d_GL_reference_0 rfl rfl ?_
  refine wp_iload_n d_GL_reference_1 rfl rfl ?_
  rcases T with T | T
  · exact ytS (by decide) (As := [gI x1, gI x2]) (st := []) d_GL_reference_2 ca_GL_needCell ml_GL_73 sm_GL_needCell  rfl (by decide) (by decide) rfl id (fun h => by cases h) T
  refine ycS_V (md' := false) (As := [gI x1, gI x2]) (st := []) d_GL_reference_2 ca_GL_needCell ml_GL_73 sm_GL_needCell  rfl (by decide) (by decide) rfl id id T (fun M1 T => ?_)
  refine wp_aload_n d_GL_reference_5 rfl rfl (g_nz (gl_1 hX 0)) ?_
  refine xgetR d_GL_reference_6 gc_GL f_GL_54.1 f_GL_54.2.1 f_GL_54.2.2.1 (gl_1 hX 0) (gl_2 hX (a := 0) (by decide)) (gl_s0 hX) f_GL_54.2.2.2.2.1 (gl_f0 hX 27 rfl) ?_
  refine xgetR d_GL_reference_9 gc_Rs f_GL_127.1 f_GL_127.2.1 f_GL_127.2.2.1 (gl_1 hX 234) (gl_2 hX (a := 234) (by decide)) (gl_s hX 24 rfl) f_GL_127.2.2.2.2.1 (gl_f hX 28 rfl) ?_
  refine wp_iload_n d_GL_reference_12 rfl rfl ?_
  refine wp_iload_n d_GL_reference_13 rfl rfl ?_
  refine ycS_I (md' := false) (As := [gI x1, gI x2]) (st := [gR G (c + 235)]) d_GL_reference_14 ca_GL_place ml_GL_88 sm_GL_place rfl (by decide) (by simp only [List.map, gR_cat, gI_cat, gL_cat, List.sum_cons, List.sum_nil]; decide) rfl id id T (fun v3 M2 h4 T => ?_)
  refine wp_iaload d_GL_reference_17 (gl_1 hX 235) (gl_2 hX (a := 235) (by decide)) (gl_s hX 25 rfl) (g32_n T.1 (by decide)) T.1.1 T.1.2 (fun h5 => ?_)
  have T := T.2 h5
  refine wp_istore (L' := [.val (gR G c), .val (gI x1), .val (gI x2), .val (gI x3), .val (gI (M2 (c + 235) (Int.toNat v3)))]) d_GL_reference_18 (by decide) rfl ?_
  refine wp_iload d_GL_reference_20 rfl ?_
  refine wp_sipush d_GL_reference_22 ⟨by decide, by decide⟩ ?_
  refine xi_eq (tgt := 50) d_GL_reference_25 (by decide) (w32_id h5) (w32_id (g32_c (x := 400) rfl)) (fun h22 => ?_) (fun h22 => ?_)
  · have T := T.1 h22
    exact wp_throw (by decide) (ci := 15) (names := gEn_jNse) hl.1 d_GL_reference_50 d_GL_reference_53 d_GL_reference_54 d_GL_reference_57 cl_GL_144 it_jNse ii_jNse (by decide +kernel) (by decide +kernel) (gAt_GL_146 hl) rfl T.1 (g_six T.1) (g_frk d) (g_lok d) T.2
  · have T := T.2 h22
    refine wp_iload_n d_GL_reference_28 rfl rfl ?_
    refine xz_lt (tgt := 50) d_GL_reference_29 (by decide) (w32_id hx3) (fun h21 => ?_) (fun h21 => ?_)
    · have T := T.1 h21
      exact wp_throw (by decide) (ci := 15) (names := gEn_jNse) hl.1 d_GL_reference_50 d_GL_reference_53 d_GL_reference_54 d_GL_reference_57 cl_GL_144 it_jNse ii_jNse (by decide +kernel) (by decide +kernel) (gAt_GL_146 hl) rfl T.1 (g_six T.1) (g_frk d) (g_lok d) T.2
    · have T := T.2 h21
      refine wp_iload_n d_GL_reference_32 rfl rfl ?_
      refine wp_aload_n d_GL_reference_33 rfl rfl (g_nz (gl_1 hX 0)) ?_
      refine xgetR d_GL_reference_34 gc_GL f_GL_40.1 f_GL_40.2.1 f_GL_40.2.2.1 (gl_1 hX 0) (gl_2 hX (a := 0) (by decide)) (gl_s0 hX) f_GL_40.2.2.2.2.1 (gl_f0 hX 26 rfl) ?_
      refine wp_aload_n d_GL_reference_37 rfl rfl (g_nz (gl_1 hX 0)) ?_
      refine xgetI d_GL_reference_38 gc_GL f_GL_81.1 f_GL_81.2.1 f_GL_81.2.2.1 (gl_1 hX 0) (gl_2 hX (a := 0) (by decide)) (gl_s0 hX) f_GL_81.2.2.2.2.1 (fun h6 => ?_)
      have T := T h6
      have h7 := T.1
      have q8 := T.2.1
      refine xaald d_GL_reference_41 (Or.inr rfl) (gl_1 hX 23) (gl_2 hX (a := 23) (by decide)) (gl_s hX 23 rfl) (g32_n h7 (by decide)) h7.1 h7.2 rfl ?_
      have T := T.2.2
      refine wp_iload d_GL_reference_42 rfl ?_
      refine ycV_I (md' := false) (As := [gI (M2 (c + 235) (Int.toNat v3))]) (st := [gI x3]) d_GL_reference_44 ca_St_refs ml_GL_155 im_St_refs se_St_refs gc_St q8.1 (gs_2 q8) q8.2.2.1 rfl (by decide) (by simp only [List.map, gR_cat, gI_cat, gL_cat, List.sum_cons, List.sum_nil]; decide) rfl id id T (fun v10 M9 h11 T => ?_)
      refine xi_lt (tgt := 58) d_GL_reference_47 (by decide) (w32_id hx3) (w32_id h11) (fun h20 => ?_) (fun h20 => ?_)
      · have T := T.1 h20
        refine wp_aload_n d_GL_reference_58 rfl rfl (g_nz (gl_1 hX 0)) ?_
        refine xgetR d_GL_reference_59 gc_GL f_GL_40.1 f_GL_40.2.1 f_GL_40.2.2.1 (gl_1 hX 0) (gl_2 hX (a := 0) (by decide)) (gl_s0 hX) f_GL_40.2.2.2.2.1 (gl_f0 hX 26 rfl) ?_
        refine wp_aload_n d_GL_reference_62 rfl rfl (g_nz (gl_1 hX 0)) ?_
        refine xgetI d_GL_reference_63 gc_GL f_GL_81.1 f_GL_81.2.1 f_GL_81.2.2.1 (gl_1 hX 0) (gl_2 hX (a := 0) (by decide)) (gl_s0 hX) f_GL_81.2.2.2.2.1 (fun h12 => ?_)
        have T := T h12
        have h13 := T.1
        have q14 := T.2.1
        refine xaald d_GL_reference_66 (Or.inr rfl) (gl_1 hX 23) (gl_2 hX (a := 23) (by decide)) (gl_s hX 23 rfl) (g32_n h13 (by decide)) h13.1 h13.2 rfl ?_
        have T := T.2.2
        refine xgetR d_GL_reference_67 gc_St f_GL_161.1 f_GL_161.2.1 f_GL_161.2.2.1 q14.1 (gs_2 q14) q14.2.2.1 f_GL_161.2.2.2.2.1 (gs_r q14 3 rfl).1 ?_
        refine wp_aload_n d_GL_reference_70 rfl rfl (g_nz (gl_1 hX 0)) ?_
        refine xgetR d_GL_reference_71 gc_GL f_GL_40.1 f_GL_40.2.1 f_GL_40.2.2.1 (gl_1 hX 0) (gl_2 hX (a := 0) (by decide)) (gl_s0 hX) f_GL_40.2.2.2.2.1 (gl_f0 hX 26 rfl) ?_
        refine wp_aload_n d_GL_reference_74 rfl rfl (g_nz (gl_1 hX 0)) ?_
        refine xgetI d_GL_reference_75 gc_GL f_GL_81.1 f_GL_81.2.1 f_GL_81.2.2.1 (gl_1 hX 0) (gl_2 hX (a := 0) (by decide)) (gl_s0 hX) f_GL_81.2.2.2.2.1 (fun h15 => ?_)
        have T := T h15
        have h16 := T.1
        have q17 := T.2.1
        refine xaald d_GL_reference_78 (Or.inr rfl) (gl_1 hX 23) (gl_2 hX (a := 23) (by decide)) (gl_s hX 23 rfl) (g32_n h16 (by decide)) h16.1 h16.2 rfl ?_
        have T := T.2.2
        refine xgetR d_GL_reference_79 gc_St f_GL_164.1 f_GL_164.2.1 f_GL_164.2.2.1 q17.1 (gs_2 q17) q17.2.2.1 f_GL_164.2.2.2.2.1 (gs_r q17 2 rfl).1 ?_
        refine wp_iload d_GL_reference_82 rfl ?_
        refine wp_iaload d_GL_reference_84 (gs_r q17 2 rfl).2.2.1 (gs_r q17 2 rfl).2.2.2 (gs_r q17 2 rfl).2.1 (g32_n T.1 (by decide)) T.1.1 T.1.2 (fun h18 => ?_)
        have T := T.2 h18
        refine wp_iload_n d_GL_reference_85 rfl rfl ?_
        refine wp_iadd d_GL_reference_86 ?_
        refine wp_iaload d_GL_reference_87 (gs_r q14 3 rfl).2.2.1 (gs_r q14 3 rfl).2.2.2 (gs_r q14 3 rfl).2.1 (g32_n T.1 (by decide)) T.1.1 T.1.2 (fun h19 => ?_)
        have T := T.2 h19
        exact wp_st (st' := [gI (M9 ((X.2.2 (c + 23) (Int.toNat (M9 c 8))) + 4) (Int.toNat ((M9 ((X.2.2 (c + 23) (Int.toNat (M9 c 8))) + 3) (Int.toNat (M2 (c + 235) (Int.toNat v3)))) + x3)))]) (by rfl) (wp_ireturn d_GL_reference_88 rfl id (Nat.zero_le _) (Nat.zero_le _) T)
      · have T := T.2 h20
        exact wp_throw (by decide) (ci := 15) (names := gEn_jNse) hl.1 d_GL_reference_50 d_GL_reference_53 d_GL_reference_54 d_GL_reference_57 cl_GL_144 it_jNse ii_jNse (by decide +kernel) (by decide +kernel) (gAt_GL_146 hl) rfl T.1 (g_six T.1) (g_frk d) (g_lok d) T.2
theorem eu_GL_reference {l : Launch} {G : gG} {d : Nat} {X : gX} {M : gM} {Nr : Nat} {K : Outcome → gX → gM → Prop} {c : Nat} {x1 : Int} {x2 : Int} {x3 : Int} (T : wp l G y_GL_reference (gRr (d + 8) Nr) false K false 0 [.val (gR G c), .val (gI x1), .val (gI x2), .val (gI x3), .unset] [] X M 0 0) : gCt l G y_GL_reference (gRr (d + 8) Nr) false [gR G c, gI x1, gI x2, gI x3] X M K := gCt.of (plainFor_of_name rfl) (by simp only [lg_sl_R, lg_sl_I, lg_sl_L, lg_sl_N, List.length_cons, List.length_nil]; decide) (by unfold gEn; simp only [lg_sl_R, lg_sl_I, lg_sl_L, lg_sl_N]; exact wpt T (And.intro rfl (And.intro rfl (And.intro rfl (And.intro rfl True.intro)))))
theorem d_GL_changed_0 : decode prog_1_method_14_code 0 = .ok (.iload_n 1, 1) := by decide +kernel
theorem d_GL_changed_1 : decode prog_1_method_14_code 1 = .ok (.ifCond .lt 14, 3) := by decide +kernel
theorem d_GL_changed_15 : decode prog_1_method_14_code 15 = .ok (.new 144, 3) := by decide +kernel
theorem d_GL_changed_18 : decode prog_1_method_14_code 18 = .ok (.dup, 1) := by decide +kernel
theorem d_GL_changed_19 : decode prog_1_method_14_code 19 = .ok (.invokespecial 146, 3) := by decide +kernel
theorem d_GL_changed_22 : decode prog_1_method_14_code 22 = .ok (.athrow, 1) := by decide +kernel
theorem d_GL_changed_4 : decode prog_1_method_14_code 4 = .ok (.iload_n 1, 1) := by decide +kernel
theorem d_GL_changed_5 : decode prog_1_method_14_code 5 = .ok (.aload_n 0, 1) := by decide +kernel
theorem d_GL_changed_6 : decode prog_1_method_14_code 6 = .ok (.getfield 54, 3) := by decide +kernel
theorem d_GL_changed_9 : decode prog_1_method_14_code 9 = .ok (.getfield 167, 3) := by decide +kernel
theorem d_GL_changed_12 : decode prog_1_method_14_code 12 = .ok (.if_icmp .lt 11, 3) := by decide +kernel
theorem d_GL_changed_23 : decode prog_1_method_14_code 23 = .ok (.aload_n 0, 1) := by decide +kernel
theorem d_GL_changed_24 : decode prog_1_method_14_code 24 = .ok (.getfield 54, 3) := by decide +kernel
theorem d_GL_changed_27 : decode prog_1_method_14_code 27 = .ok (.getfield 170, 3) := by decide +kernel
theorem d_GL_changed_30 : decode prog_1_method_14_code 30 = .ok (.iload_n 1, 1) := by decide +kernel
theorem d_GL_changed_31 : decode prog_1_method_14_code 31 = .ok (.iaload, 1) := by decide +kernel
theorem d_GL_changed_32 : decode prog_1_method_14_code 32 = .ok (.ireturn, 1) := by decide +kernel
set_option maxHeartbeats 4000000 in
theorem u_GL_changed_0 {l : Launch} {G : gG} {d : Nat} {X : gX} {M : gM} {Nr : Nat} {K : Outcome → gX → gM → Prop} {c : Nat} (hX : glX X c) {x1 : Int} (hx1 : g32 x1)  (hl : gOk l G) (T : (x1 < 0 → (1 ≤ Nr ∧ K (.threw (G.2.2.1 + (X.1 + 1))) (gNw X (21, 0)) (gZr M (X.1 + 1)))) ∧ (¬ x1 < 0 → (g32 (M (c + 234) 7) → ((x1 < M (c + 234) 7 → (((0 : Int) ≤ x1 ∧ x1 < 800) ∧ (g32 (M (c + 236) (Int.toNat x1)) → (K (.returned (some (gI (M (c + 236) (Int.toNat x1))))) X M)))) ∧ (¬ x1 < M (c + 234) 7 → (1 ≤ Nr ∧ K (.threw (G.2.2.1 + (X.1 + 1))) (gNw X (21, 0)) (gZr M (X.1 + 1)))))))) : wp l G y_GL_changed (gRr (d + 8) Nr) false K false 0 [.val (gR G c), .val (gI x1)] [] X M 0 0 := by
  refine wp_iload_n d_GL_changed_0 rfl rfl ?_
  refine xz_lt (tgt := 15) d_GL_changed_1 (by decide) (w32_id hx1) (fun h4 => ?_) (fun h4 => ?_)
  · have T := T.1 h4
    exact wp_throw (by decide) (ci := 15) (names := gEn_jNse) hl.1 d_GL_changed_15 d_GL_changed_18 d_GL_changed_19 d_GL_changed_22 cl_GL_144 it_jNse ii_jNse (by decide +kernel) (by decide +kernel) (gAt_GL_146 hl) rfl T.1 (g_six T.1) (g_frk d) (g_lok d) T.2
  · have T := T.2 h4
    refine wp_iload_n d_GL_changed_4 rfl rfl ?_
    refine wp_aload_n d_GL_changed_5 rfl rfl (g_nz (gl_1 hX 0)) ?_
    refine xgetR d_GL_changed_6 gc_GL f_GL_54.1 f_GL_54.2.1 f_GL_54.2.2.1 (gl_1 hX 0) (gl_2 hX (a := 0) (by decide)) (gl_s0 hX) f_GL_54.2.2.2.2.1 (gl_f0 hX 27 rfl) ?_
    refine xgetI d_GL_changed_9 gc_Rs f_GL_167.1 f_GL_167.2.1 f_GL_167.2.2.1 (gl_1 hX 234) (gl_2 hX (a := 234) (by decide)) (gl_s hX 24 rfl) f_GL_167.2.2.2.2.1 (fun h1 => ?_)
    have T := T h1
    refine xi_lt (tgt := 23) d_GL_changed_12 (by decide) (w32_id hx1) (w32_id h1) (fun h3 => ?_) (fun h3 => ?_)
    · have T := T.1 h3
      refine wp_aload_n d_GL_changed_23 rfl rfl (g_nz (gl_1 hX 0)) ?_
      refine xgetR d_GL_changed_24 gc_GL f_GL_54.1 f_GL_54.2.1 f_GL_54.2.2.1 (gl_1 hX 0) (gl_2 hX (a := 0) (by decide)) (gl_s0 hX) f_GL_54.2.2.2.2.1 (gl_f0 hX 27 rfl) ?_
      refine xgetR d_GL_changed_27 gc_Rs f_GL_170.1 f_GL_170.2.1 f_GL_170.2.2.1 (gl_1 hX 234) (gl_2 hX (a := 234) (by decide)) (gl_s hX 24 rfl) f_GL_170.2.2.2.2.1 (gl_f hX 29 rfl) ?_
      refine wp_iload_n d_GL_changed_30 rfl rfl ?_
      refine wp_iaload d_GL_changed_31 (gl_1 hX 236) (gl_2 hX (a := 236) (by decide)) (gl_s hX 26 rfl) (g32_n T.1 (by decide)) T.1.1 T.1.2 (fun h2 => ?_)
      have T := T.2 h2
      exact wp_st (st' := [gI (M (c + 236) (Int.toNat x1))]) (by rfl) (wp_ireturn d_GL_changed_32 rfl id (Nat.zero_le _) (Nat.zero_le _) T)
    · have T := T.2 h3
      exact wp_throw (by decide) (ci := 15) (names := gEn_jNse) hl.1 d_GL_changed_15 d_GL_changed_18 d_GL_changed_19 d_GL_changed_22 cl_GL_144 it_jNse ii_jNse (by decide +kernel) (by decide +kernel) (gAt_GL_146 hl) rfl T.1 (g_six T.1) (g_frk d) (g_lok d) T.2
theorem eu_GL_changed {l : Launch} {G : gG} {d : Nat} {X : gX} {M : gM} {Nr : Nat} {K : Outcome → gX → gM → Prop} {c : Nat} {x1 : Int} (T : wp l G y_GL_changed (gRr (d + 8) Nr) false K false 0 [.val (gR G c), .val (gI x1)] [] X M 0 0) : gCt l G y_GL_changed (gRr (d + 8) Nr) false [gR G c, gI x1] X M K := gCt.of (plainFor_of_name rfl) (by simp only [lg_sl_R, lg_sl_I, lg_sl_L, lg_sl_N, List.length_cons, List.length_nil]; decide) (by unfold gEn; simp only [lg_sl_R, lg_sl_I, lg_sl_L, lg_sl_N]; exact wpt T (And.intro rfl (And.intro rfl True.intro)))
