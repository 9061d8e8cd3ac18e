/-! The law's helpers: each calls the class, writes its answer down, or tells which exception came. -/
/-- what a helper wants of the call that it makes: an answer, or an exception of its table -/
def gHr (G : gG) (K : Outcome → gX → gM → Prop) (w : Nat) (tab : List (Nat × Int)) : Outcome → gX → gM → Prop := fun o X M =>
  (∃ v, o = .returned (some (gI v)) ∧ g32 v ∧ w ≤ X.1 ∧ X.2.1 w = (1, 1) ∧ K (.returned (some (gI 0))) X (gUp M w 0 v)) ∨ ∃ (b : Nat) (q : Nat × Int), q ∈ tab ∧ o = .threw (G.2.2.1 + b) ∧ 1 ≤ b ∧ b ≤ X.1 ∧ X.2.1 b = (q.1, 0) ∧ K (.returned (some (gI q.2))) X M
def gHl (G : gG) (K : Outcome → gX → gM → Prop) (w : Nat) (tab : List (Nat × Int)) : Outcome → gX → gM → Prop := fun o X M =>
  (∃ v, o = .returned (some (gL v)) ∧ g64 v ∧ w ≤ X.1 ∧ X.2.1 w = (1, 1) ∧ K (.returned (some (gI 0))) X (gUp M w 0 v)) ∨ ∃ (b : Nat) (q : Nat × Int), q ∈ tab ∧ o = .threw (G.2.2.1 + b) ∧ 1 ≤ b ∧ b ≤ X.1 ∧ X.2.1 b = (q.1, 0) ∧ K (.returned (some (gI q.2))) X M
theorem cs_jIoob : Cond.castable "java/lang/IndexOutOfBoundsException" "java/lang/IndexOutOfBoundsException" ∈ gXw := List.mem_append_right _ (List.mem_filter.mpr ⟨(List.mem_append_right _ (List.mem_append_left _ (List.mem_of_getElem? (i := 228) rfl))), rfl⟩)
theorem cs_jIae : Cond.castable "java/lang/IllegalArgumentException" "java/lang/IllegalArgumentException" ∈ gXw := List.mem_append_right _ (List.mem_filter.mpr ⟨(List.mem_append_right _ (List.mem_append_right _ (List.mem_append_left _ (List.mem_of_getElem? (i := 67) rfl)))), rfl⟩)
theorem cs_jIse : Cond.castable "java/lang/IllegalStateException" "java/lang/IllegalStateException" ∈ gXw := List.mem_append_right _ (List.mem_filter.mpr ⟨(List.mem_append_right _ (List.mem_append_right _ (List.mem_append_right _ (List.mem_append_left _ (List.mem_of_getElem? (i := 139) rfl))))), rfl⟩)
theorem cs_jNse : Cond.castable "java/util/NoSuchElementException" "java/util/NoSuchElementException" ∈ gXw := List.mem_append_right _ (List.mem_filter.mpr ⟨(List.mem_append_right _ (List.mem_append_right _ (List.mem_append_right _ (List.mem_append_right _ (List.mem_append_right _ (List.mem_append_left _ (List.mem_of_getElem? (i := 103) rfl))))))), rfl⟩)
theorem ml_Lw_7 : (Cond.methodLink "GridLedgerLaw" (7 : Nat) ({ cls := "GridLedger", name := "feed", desc := "(IIIII)I" } : MethodName)) ∈ gTb := (tc_2 (List.mem_of_getElem? (i := 222) rfl) rfl)
theorem im_GL_feed : (Cond.instanceMethod ({ cls := "GridLedger", name := "feed", desc := "(IIIII)I" } : MethodName)) ∈ gTb := (tc_2 (List.mem_of_getElem? (i := 223) rfl) rfl)
theorem cl_Lw_13 : (Cond.classLink "GridLedgerLaw" (13 : Nat) "java/lang/IndexOutOfBoundsException") ∈ gTb := (tc_2 (List.mem_of_getElem? (i := 221) rfl) rfl)
theorem ml_Lw_15 : (Cond.methodLink "GridLedgerLaw" (15 : Nat) ({ cls := "GridLedger", name := "end", desc := "(I)I" } : MethodName)) ∈ gTb := (tc_3 (List.mem_of_getElem? (i := 58) rfl) rfl)
theorem im_GL_end : (Cond.instanceMethod ({ cls := "GridLedger", name := "end", desc := "(I)I" } : MethodName)) ∈ gTb := (tc_3 (List.mem_of_getElem? (i := 59) rfl) rfl)
theorem cl_Lw_19 : (Cond.classLink "GridLedgerLaw" (19 : Nat) "java/lang/IllegalArgumentException") ∈ gTb := (tc_3 (List.mem_of_getElem? (i := 57) rfl) rfl)
theorem ml_Lw_21 : (Cond.methodLink "GridLedgerLaw" (21 : Nat) ({ cls := "GridLedger", name := "put", desc := "(II)I" } : MethodName)) ∈ gTb := (tc_3 (List.mem_of_getElem? (i := 84) rfl) rfl)
theorem im_GL_put : (Cond.instanceMethod ({ cls := "GridLedger", name := "put", desc := "(II)I" } : MethodName)) ∈ gTb := (tc_3 (List.mem_of_getElem? (i := 85) rfl) rfl)
theorem cl_Lw_25 : (Cond.classLink "GridLedgerLaw" (25 : Nat) "java/lang/IllegalStateException") ∈ gTb := (tc_3 (List.mem_of_getElem? (i := 83) rfl) rfl)
theorem ml_Lw_27 : (Cond.methodLink "GridLedgerLaw" (27 : Nat) ({ cls := "GridLedger", name := "fill", desc := "(IIIIII)I" } : MethodName)) ∈ gTb := (tc_6 (List.mem_of_getElem? (i := 8) rfl) rfl)
theorem im_GL_fill : (Cond.instanceMethod ({ cls := "GridLedger", name := "fill", desc := "(IIIIII)I" } : MethodName)) ∈ gTb := (tc_6 (List.mem_of_getElem? (i := 9) rfl) rfl)
theorem ml_Lw_31 : (Cond.methodLink "GridLedgerLaw" (31 : Nat) ({ cls := "GridLedger", name := "insert", desc := "(ZII)I" } : MethodName)) ∈ gTb := (tc_6 (List.mem_of_getElem? (i := 23) rfl) rfl)
theorem im_GL_insert : (Cond.instanceMethod ({ cls := "GridLedger", name := "insert", desc := "(ZII)I" } : MethodName)) ∈ gTb := (tc_6 (List.mem_of_getElem? (i := 24) rfl) rfl)
theorem ml_Lw_35 : (Cond.methodLink "GridLedgerLaw" (35 : Nat) ({ cls := "GridLedger", name := "erase", desc := "(ZII)I" } : MethodName)) ∈ gTb := (tc_6 (List.mem_of_getElem? (i := 68) rfl) rfl)
theorem im_GL_erase : (Cond.instanceMethod ({ cls := "GridLedger", name := "erase", desc := "(ZII)I" } : MethodName)) ∈ gTb := (tc_6 (List.mem_of_getElem? (i := 69) rfl) rfl)
theorem ml_Lw_38 : (Cond.methodLink "GridLedgerLaw" (38 : Nat) ({ cls := "GridLedger", name := "undo", desc := "()I" } : MethodName)) ∈ gTb := (tc_6 (List.mem_of_getElem? (i := 75) rfl) rfl)
theorem im_GL_undo : (Cond.instanceMethod ({ cls := "GridLedger", name := "undo", desc := "()I" } : MethodName)) ∈ gTb := (tc_6 (List.mem_of_getElem? (i := 76) rfl) rfl)
theorem ml_Lw_42 : (Cond.methodLink "GridLedgerLaw" (42 : Nat) ({ cls := "GridLedger", name := "redo", desc := "()I" } : MethodName)) ∈ gTb := (tc_6 (List.mem_of_getElem? (i := 82) rfl) rfl)
theorem im_GL_redo : (Cond.instanceMethod ({ cls := "GridLedger", name := "redo", desc := "()I" } : MethodName)) ∈ gTb := (tc_6 (List.mem_of_getElem? (i := 83) rfl) rfl)
theorem ml_Lw_45 : (Cond.methodLink "GridLedgerLaw" (45 : Nat) ({ cls := "GridLedger", name := "value", desc := "(III)J" } : MethodName)) ∈ gTb := (tc_6 (List.mem_of_getElem? (i := 89) rfl) rfl)
theorem im_GL_value : (Cond.instanceMethod ({ cls := "GridLedger", name := "value", desc := "(III)J" } : MethodName)) ∈ gTb := (tc_6 (List.mem_of_getElem? (i := 90) rfl) rfl)
theorem ml_Lw_49 : (Cond.methodLink "GridLedgerLaw" (49 : Nat) ({ cls := "GridLedger", name := "letter", desc := "(III)I" } : MethodName)) ∈ gTb := (tc_6 (List.mem_of_getElem? (i := 97) rfl) rfl)
theorem im_GL_letter : (Cond.instanceMethod ({ cls := "GridLedger", name := "letter", desc := "(III)I" } : MethodName)) ∈ gTb := (tc_6 (List.mem_of_getElem? (i := 98) rfl) rfl)
theorem cl_Lw_53 : (Cond.classLink "GridLedgerLaw" (53 : Nat) "java/util/NoSuchElementException") ∈ gTb := (tc_6 (List.mem_of_getElem? (i := 96) rfl) rfl)
theorem ml_Lw_55 : (Cond.methodLink "GridLedgerLaw" (55 : Nat) ({ cls := "GridLedger", name := "content", desc := "(III)I" } : MethodName)) ∈ gTb := (tc_6 (List.mem_of_getElem? (i := 119) rfl) rfl)
theorem im_GL_content : (Cond.instanceMethod ({ cls := "GridLedger", name := "content", desc := "(III)I" } : MethodName)) ∈ gTb := (tc_6 (List.mem_of_getElem? (i := 120) rfl) rfl)
theorem ml_Lw_58 : (Cond.methodLink "GridLedgerLaw" (58 : Nat) ({ cls := "GridLedger", name := "reference", desc := "(III)I" } : MethodName)) ∈ gTb := (tc_6 (List.mem_of_getElem? (i := 131) rfl) rfl)
theorem im_GL_reference : (Cond.instanceMethod ({ cls := "GridLedger", name := "reference", desc := "(III)I" } : MethodName)) ∈ gTb := (tc_6 (List.mem_of_getElem? (i := 132) rfl) rfl)
theorem ml_Lw_61 : (Cond.methodLink "GridLedgerLaw" (61 : Nat) ({ cls := "GridLedger", name := "changed", desc := "(I)I" } : MethodName)) ∈ gTb := (tc_6 (List.mem_of_getElem? (i := 138) rfl) rfl)
theorem im_GL_changed : (Cond.instanceMethod ({ cls := "GridLedger", name := "changed", desc := "(I)I" } : MethodName)) ∈ gTb := (tc_6 (List.mem_of_getElem? (i := 139) rfl) rfl)
theorem ca_GL_feed : gCal y_GL_feed 5 := ⟨(tc_2 (List.mem_of_getElem? (i := 225) rfl) rfl), (tc_1 (List.mem_of_getElem? (i := 1) rfl) rfl), by decide, by decide, by decide +kernel⟩
theorem se_GL_feed : Cond.selects "GridLedger" y_GL_feed.1 y_GL_feed.1 ∈ gTb := (tc_2 (List.mem_of_getElem? (i := 224) rfl) rfl)
theorem ca_GL_end : gCal y_GL_end 1 := ⟨(tc_3 (List.mem_of_getElem? (i := 61) rfl) rfl), (tc_1 (List.mem_of_getElem? (i := 1) rfl) rfl), by decide, by decide, by decide +kernel⟩
theorem se_GL_end : Cond.selects "GridLedger" y_GL_end.1 y_GL_end.1 ∈ gTb := (tc_3 (List.mem_of_getElem? (i := 60) rfl) rfl)
theorem ca_GL_put : gCal y_GL_put 2 := ⟨(tc_3 (List.mem_of_getElem? (i := 87) rfl) rfl), (tc_1 (List.mem_of_getElem? (i := 1) rfl) rfl), by decide, by decide, by decide +kernel⟩
theorem se_GL_put : Cond.selects "GridLedger" y_GL_put.1 y_GL_put.1 ∈ gTb := (tc_3 (List.mem_of_getElem? (i := 86) rfl) rfl)
theorem ca_GL_fill : gCal y_GL_fill 6 := ⟨(tc_6 (List.mem_of_getElem? (i := 11) rfl) rfl), (tc_1 (List.mem_of_getElem? (i := 1) rfl) rfl), by decide, by decide, by decide +kernel⟩
theorem se_GL_fill : Cond.selects "GridLedger" y_GL_fill.1 y_GL_fill.1 ∈ gTb := (tc_6 (List.mem_of_getElem? (i := 10) rfl) rfl)
theorem ca_GL_insert : gCal y_GL_insert 3 := ⟨(tc_6 (List.mem_of_getElem? (i := 26) rfl) rfl), (tc_1 (List.mem_of_getElem? (i := 1) rfl) rfl), by decide, by decide, by decide +kernel⟩
theorem se_GL_insert : Cond.selects "GridLedger" y_GL_insert.1 y_GL_insert.1 ∈ gTb := (tc_6 (List.mem_of_getElem? (i := 25) rfl) rfl)
theorem ca_GL_erase : gCal y_GL_erase 3 := ⟨(tc_6 (List.mem_of_getElem? (i := 71) rfl) rfl), (tc_1 (List.mem_of_getElem? (i := 1) rfl) rfl), by decide, by decide, by decide +kernel⟩
theorem se_GL_erase : Cond.selects "GridLedger" y_GL_erase.1 y_GL_erase.1 ∈ gTb := (tc_6 (List.mem_of_getElem? (i := 70) rfl) rfl)
theorem ca_GL_undo : gCal y_GL_undo 0 := ⟨(tc_6 (List.mem_of_getElem? (i := 78) rfl) rfl), (tc_1 (List.mem_of_getElem? (i := 1) rfl) rfl), by decide, by decide, by decide +kernel⟩
theorem se_GL_undo : Cond.selects "GridLedger" y_GL_undo.1 y_GL_undo.1 ∈ gTb := (tc_6 (List.mem_of_getElem? (i := 77) rfl) rfl)
theorem ca_GL_redo : gCal y_GL_redo 0 := ⟨(tc_6 (List.mem_of_getElem? (i := 85) rfl) rfl), (tc_1 (List.mem_of_getElem? (i := 1) rfl) rfl), by decide, by decide, by decide +kernel⟩
theorem se_GL_redo : Cond.selects "GridLedger" y_GL_redo.1 y_GL_redo.1 ∈ gTb := (tc_6 (List.mem_of_getElem? (i := 84) rfl) rfl)
theorem ca_GL_value : gCal y_GL_value 3 := ⟨(tc_6 (List.mem_of_getElem? (i := 92) rfl) rfl), (tc_1 (List.mem_of_getElem? (i := 1) rfl) rfl), by decide, by decide, by decide +kernel⟩
theorem se_GL_value : Cond.selects "GridLedger" y_GL_value.1 y_GL_value.1 ∈ gTb := (tc_6 (List.mem_of_getElem? (i := 91) rfl) rfl)
theorem ca_GL_letter : gCal y_GL_letter 3 := ⟨(tc_6 (List.mem_of_getElem? (i := 100) rfl) rfl), (tc_1 (List.mem_of_getElem? (i := 1) rfl) rfl), by decide, by decide, by decide +kernel⟩
theorem se_GL_letter : Cond.selects "GridLedger" y_GL_letter.1 y_GL_letter.1 ∈ gTb := (tc_6 (List.mem_of_getElem? (i := 99) rfl) rfl)
theorem ca_GL_content : gCal y_GL_content 3 := ⟨(tc_6 (List.mem_of_getElem? (i := 122) rfl) rfl), (tc_1 (List.mem_of_getElem? (i := 1) rfl) rfl), by decide, by decide, by decide +kernel⟩
theorem se_GL_content : Cond.selects "GridLedger" y_GL_content.1 y_GL_content.1 ∈ gTb := (tc_6 (List.mem_of_getElem? (i := 121) rfl) rfl)
theorem ca_GL_reference : gCal y_GL_reference 3 := ⟨(tc_6 (List.mem_of_getElem? (i := 134) rfl) rfl), (tc_1 (List.mem_of_getElem? (i := 1) rfl) rfl), by decide, by decide, by decide +kernel⟩
theorem se_GL_reference : Cond.selects "GridLedger" y_GL_reference.1 y_GL_reference.1 ∈ gTb := (tc_6 (List.mem_of_getElem? (i := 133) rfl) rfl)
theorem ca_GL_changed : gCal y_GL_changed 1 := ⟨(tc_6 (List.mem_of_getElem? (i := 141) rfl) rfl), (tc_1 (List.mem_of_getElem? (i := 1) rfl) rfl), by decide, by decide, by decide +kernel⟩
theorem se_GL_changed : Cond.selects "GridLedger" y_GL_changed.1 y_GL_changed.1 ∈ gTb := (tc_6 (List.mem_of_getElem? (i := 140) rfl) rfl)
theorem cw_Lw_feed : Cond.codeWith y_Lw_feed.1 y_Lw_feed.2.1 y_Lw_feed.2.2.1 y_Lw_feed.2.2.2 tb_Lw_feed ∈ gTb := (tc_2 (List.mem_of_getElem? (i := 220) rfl) rfl)
theorem d_Lw_feed_0 : decode method_3_code 0 = .ok (.aload 6, 2) := by decide +kernel
theorem d_Lw_feed_2 : decode method_3_code 2 = .ok (.iconst 0, 1) := by decide +kernel
theorem d_Lw_feed_3 : decode method_3_code 3 = .ok (.aload_n 0, 1) := by decide +kernel
theorem d_Lw_feed_4 : decode method_3_code 4 = .ok (.iload_n 1, 1) := by decide +kernel
theorem d_Lw_feed_5 : decode method_3_code 5 = .ok (.iload_n 2, 1) := by decide +kernel
theorem d_Lw_feed_6 : decode method_3_code 6 = .ok (.iload_n 3, 1) := by decide +kernel
theorem d_Lw_feed_7 : decode method_3_code 7 = .ok (.iload 4, 2) := by decide +kernel
theorem d_Lw_feed_9 : decode method_3_code 9 = .ok (.iload 5, 2) := by decide +kernel
theorem d_Lw_feed_11 : decode method_3_code 11 = .ok (.invokevirtual 7, 3) := by decide +kernel
theorem d_Lw_feed_14 : decode method_3_code 14 = .ok (.i2l, 1) := by decide +kernel
theorem d_Lw_feed_15 : decode method_3_code 15 = .ok (.lastore, 1) := by decide +kernel
theorem d_Lw_feed_16 : decode method_3_code 16 = .ok (.goto 7, 3) := by decide +kernel
theorem d_Lw_feed_19 : decode method_3_code 19 = .ok (.astore 7, 2) := by decide +kernel
theorem d_Lw_feed_21 : decode method_3_code 21 = .ok (.iconst 1, 1) := by decide +kernel
theorem d_Lw_feed_22 : decode method_3_code 22 = .ok (.ireturn, 1) := by decide +kernel
theorem d_Lw_feed_23 : decode method_3_code 23 = .ok (.iconst 0, 1) := by decide +kernel
theorem d_Lw_feed_24 : decode method_3_code 24 = .ok (.ireturn, 1) := by decide +kernel
set_option maxHeartbeats 4000000 in
theorem h_Lw_feed {l : Launch} {G : gG} {d : Nat} {X : gX} {M : gM} {K : Outcome → gX → gM → Prop} (hok : gOk l G) {c w : Nat} {x1 : Int} {x2 : Int} {x3 : Int} {x4 : Int} {x5 : Int} (hc1 : 1 ≤ c) (hc2 : c ≤ X.1) (hcs : X.2.1 c = (6, 12)) (hw1 : 1 ≤ w) (T : gCt l G y_GL_feed (gRr d 1) true [gR G c, gI x1, gI x2, gI x3, gI x4, gI x5] X M (gHr G K w [(18, 1)])) : gCh l G y_Lw_feed tb_Lw_feed (gRr (d + 1) 1) true [gR G c, gI x1, gI x2, gI x3, gI x4, gI x5, gR G w] X M K := by
  refine gCh.of rfl (plainFor_of_name rfl) (by simp only [lg_sl_R, lg_sl_I, lg_sl_L, lg_sl_N, List.length_cons, List.length_nil]; decide) ?_
  unfold gEn
  simp only [lg_sl_R, lg_sl_I, lg_sl_L, lg_sl_N]
  refine wpt (L' := [.val (gR G c), .val (gI x1), .val (gI x2), .val (gI x3), .val (gI x4), .val (gI x5), .val (gR G w), .unset]) ?_ (And.intro rfl (And.intro rfl (And.intro rfl (And.intro rfl (And.intro rfl (And.intro rfl (And.intro rfl True.intro)))))))
  refine wp_aload d_Lw_feed_0 rfl (g_nz hw1) ?_
  refine wp_iconst d_Lw_feed_2 ?_
  refine wp_aload_n d_Lw_feed_3 rfl rfl (g_nz hc1) ?_
  refine wp_iload_n d_Lw_feed_4 rfl rfl ?_
  refine wp_iload_n d_Lw_feed_5 rfl rfl ?_
  refine wp_iload_n d_Lw_feed_6 rfl rfl ?_
  refine wp_iload d_Lw_feed_7 rfl ?_
  refine wp_iload d_Lw_feed_9 rfl ?_
  refine wp_callVC (tb := tb_Lw_feed) (rm' := gRr d 1) hok cw_Lw_feed (As := [gI x1, gI x2, gI x3, gI x4, gI x5]) (st := [gI 0, gR G w]) (md' := true) d_Lw_feed_11 ca_GL_feed ml_Lw_7 im_GL_feed se_GL_feed gc_GL hc1 hc2 hcs T (fun _ => rfl) (fun _ => rfl) rfl (gRr_call d _ 1 1 (by decide)) (by simp only [List.map, gR_cat, gI_cat, gL_cat, List.sum_cons, List.sum_nil]; decide) (g_zz d 1) rfl (fun v X1 M1 h => ?_) (fun a X1 M1 h => ?_)
  · rcases h with ⟨v1, e1, g1, w2, ws, kk⟩ | ⟨b, q, -, e1, -⟩
    · cases e1
      refine wp_st (st' := [gI v1, gI 0, gR G w]) rfl ?_
      refine xi2l d_Lw_feed_14 (w32_id g1) ?_
      refine xlast d_Lw_feed_15 hw1 w2 ws (by decide) ⟨by decide, by decide⟩ (w64_id (g64_32 g1)) ?_
      refine wp_goto (tgt := 23) d_Lw_feed_16 (by decide) ?_
      refine wp_iconst d_Lw_feed_23 ?_
      exact wp_ireturn d_Lw_feed_24 rfl (fun _ => rfl) (g_zz d 1).1 (g_zz d 1).2 kk
    · cases e1
  · rcases h with ⟨v1, e1, -⟩ | ⟨b, q, hq, e1, b1, b2, bs, kk⟩
    · cases e1
    · obtain rfl := Outcome.threw.inj e1
      simp only [List.mem_cons, List.not_mem_nil, or_false] at hq
      rcases hq with rfl
      · refine ⟨b, 12, "java/lang/IndexOutOfBoundsException", gT_E, 0, [], (0, 16, 19, 13), [], rfl, b1, b2, bs, rfl, rfl, (fun q hq => by cases hq), ⟨by decide, by decide⟩, by decide, cl_Lw_13, cs_jIoob, ?_⟩
        refine wp_astore (L' := [.val (gR G c), .val (gI x1), .val (gI x2), .val (gI x3), .val (gI x4), .val (gI x5), .val (gR G w), .val (gR G b)]) d_Lw_feed_19 (g_nz b1) (by decide) (gS1_R rfl rfl) ?_
        refine wp_iconst d_Lw_feed_21 ?_
        exact wp_ireturn d_Lw_feed_22 rfl (fun _ => rfl) (g_zz d 1).1 (g_zz d 1).2 kk
theorem cw_Lw_end : Cond.codeWith y_Lw_end.1 y_Lw_end.2.1 y_Lw_end.2.2.1 y_Lw_end.2.2.2 tb_Lw_end ∈ gTb := (tc_3 (List.mem_of_getElem? (i := 56) rfl) rfl)
theorem d_Lw_end_0 : decode method_4_code 0 = .ok (.aload_n 2, 1) := by decide +kernel
theorem d_Lw_end_1 : decode method_4_code 1 = .ok (.iconst 0, 1) := by decide +kernel
theorem d_Lw_end_2 : decode method_4_code 2 = .ok (.aload_n 0, 1) := by decide +kernel
theorem d_Lw_end_3 : decode method_4_code 3 = .ok (.iload_n 1, 1) := by decide +kernel
theorem d_Lw_end_4 : decode method_4_code 4 = .ok (.invokevirtual 15, 3) := by decide +kernel
theorem d_Lw_end_7 : decode method_4_code 7 = .ok (.i2l, 1) := by decide +kernel
theorem d_Lw_end_8 : decode method_4_code 8 = .ok (.lastore, 1) := by decide +kernel
theorem d_Lw_end_9 : decode method_4_code 9 = .ok (.goto 6, 3) := by decide +kernel
theorem d_Lw_end_12 : decode method_4_code 12 = .ok (.astore_n 3, 1) := by decide +kernel
theorem d_Lw_end_13 : decode method_4_code 13 = .ok (.iconst 1, 1) := by decide +kernel
theorem d_Lw_end_14 : decode method_4_code 14 = .ok (.ireturn, 1) := by decide +kernel
theorem d_Lw_end_15 : decode method_4_code 15 = .ok (.iconst 0, 1) := by decide +kernel
theorem d_Lw_end_16 : decode method_4_code 16 = .ok (.ireturn, 1) := by decide +kernel
set_option maxHeartbeats 4000000 in
theorem h_Lw_end {l : Launch} {G : gG} {d : Nat} {X : gX} {M : gM} {K : Outcome → gX → gM → Prop} (hok : gOk l G) {c w : Nat} {x1 : Int} (hc1 : 1 ≤ c) (hc2 : c ≤ X.1) (hcs : X.2.1 c = (6, 12)) (hw1 : 1 ≤ w) (T : gCt l G y_GL_end (gRr d 1) true [gR G c, gI x1] X M (gHr G K w [(19, 1)])) : gCh l G y_Lw_end tb_Lw_end (gRr (d + 1) 1) true [gR G c, gI x1, gR G w] X M K := by
  refine gCh.of rfl (plainFor_of_name rfl) (by simp only [lg_sl_R, lg_sl_I, lg_sl_L, lg_sl_N, List.length_cons, List.length_nil]; decide) ?_
  unfold gEn
  simp only [lg_sl_R, lg_sl_I, lg_sl_L, lg_sl_N]
  refine wpt (L' := [.val (gR G c), .val (gI x1), .val (gR G w), .unset]) ?_ (And.intro rfl (And.intro rfl (And.intro rfl True.intro)))
  refine wp_aload_n d_Lw_end_0 rfl rfl (g_nz hw1) ?_
  refine wp_iconst d_Lw_end_1 ?_
  refine wp_aload_n d_Lw_end_2 rfl rfl (g_nz hc1) ?_
  refine wp_iload_n d_Lw_end_3 rfl rfl ?_
  refine wp_callVC (tb := tb_Lw_end) (rm' := gRr d 1) hok cw_Lw_end (As := [gI x1]) (st := [gI 0, gR G w]) (md' := true) d_Lw_end_4 ca_GL_end ml_Lw_15 im_GL_end se_GL_end gc_GL hc1 hc2 hcs T (fun _ => rfl) (fun _ => rfl) rfl (gRr_call d _ 1 1 (by decide)) (by simp only [List.map, gR_cat, gI_cat, gL_cat, List.sum_cons, List.sum_nil]; decide) (g_zz d 1) rfl (fun v X1 M1 h => ?_) (fun a X1 M1 h => ?_)
  · rcases h with ⟨v1, e1, g1, w2, ws, kk⟩ | ⟨b, q, -, e1, -⟩
    · cases e1
      refine wp_st (st' := [gI v1, gI 0, gR G w]) rfl ?_
      refine xi2l d_Lw_end_7 (w32_id g1) ?_
      refine xlast d_Lw_end_8 hw1 w2 ws (by decide) ⟨by decide, by decide⟩ (w64_id (g64_32 g1)) ?_
      refine wp_goto (tgt := 15) d_Lw_end_9 (by decide) ?_
      refine wp_iconst d_Lw_end_15 ?_
      exact wp_ireturn d_Lw_end_16 rfl (fun _ => rfl) (g_zz d 1).1 (g_zz d 1).2 kk
    · cases e1
  · rcases h with ⟨v1, e1, -⟩ | ⟨b, q, hq, e1, b1, b2, bs, kk⟩
    · cases e1
    · obtain rfl := Outcome.threw.inj e1
      simp only [List.mem_cons, List.not_mem_nil, or_false] at hq
      rcases hq with rfl
      · refine ⟨b, 13, "java/lang/IllegalArgumentException", gT_E, 0, [], (0, 9, 12, 19), [], rfl, b1, b2, bs, rfl, rfl, (fun q hq => by cases hq), ⟨by decide, by decide⟩, by decide, cl_Lw_19, cs_jIae, ?_⟩
        refine wp_astore_n (L' := [.val (gR G c), .val (gI x1), .val (gR G w), .val (gR G b)]) d_Lw_end_12 rfl (g_nz b1) (by decide) (gS1_R rfl rfl) ?_
        refine wp_iconst d_Lw_end_13 ?_
        exact wp_ireturn d_Lw_end_14 rfl (fun _ => rfl) (g_zz d 1).1 (g_zz d 1).2 kk
theorem cw_Lw_put : Cond.codeWith y_Lw_put.1 y_Lw_put.2.1 y_Lw_put.2.2.1 y_Lw_put.2.2.2 tb_Lw_put ∈ gTb := (tc_3 (List.mem_of_getElem? (i := 82) rfl) rfl)
theorem d_Lw_put_0 : decode method_5_code 0 = .ok (.aload_n 3, 1) := by decide +kernel
theorem d_Lw_put_1 : decode method_5_code 1 = .ok (.iconst 0, 1) := by decide +kernel
theorem d_Lw_put_2 : decode method_5_code 2 = .ok (.aload_n 0, 1) := by decide +kernel
theorem d_Lw_put_3 : decode method_5_code 3 = .ok (.iload_n 1, 1) := by decide +kernel
theorem d_Lw_put_4 : decode method_5_code 4 = .ok (.iload_n 2, 1) := by decide +kernel
theorem d_Lw_put_5 : decode method_5_code 5 = .ok (.invokevirtual 21, 3) := by decide +kernel
theorem d_Lw_put_8 : decode method_5_code 8 = .ok (.i2l, 1) := by decide +kernel
theorem d_Lw_put_9 : decode method_5_code 9 = .ok (.lastore, 1) := by decide +kernel
theorem d_Lw_put_10 : decode method_5_code 10 = .ok (.goto 11, 3) := by decide +kernel
theorem d_Lw_put_13 : decode method_5_code 13 = .ok (.astore 4, 2) := by decide +kernel
theorem d_Lw_put_15 : decode method_5_code 15 = .ok (.iconst 1, 1) := by decide +kernel
theorem d_Lw_put_16 : decode method_5_code 16 = .ok (.ireturn, 1) := by decide +kernel
theorem d_Lw_put_17 : decode method_5_code 17 = .ok (.astore 4, 2) := by decide +kernel
theorem d_Lw_put_19 : decode method_5_code 19 = .ok (.iconst 2, 1) := by decide +kernel
theorem d_Lw_put_20 : decode method_5_code 20 = .ok (.ireturn, 1) := by decide +kernel
theorem d_Lw_put_21 : decode method_5_code 21 = .ok (.iconst 0, 1) := by decide +kernel
theorem d_Lw_put_22 : decode method_5_code 22 = .ok (.ireturn, 1) := by decide +kernel
set_option maxHeartbeats 4000000 in
theorem h_Lw_put {l : Launch} {G : gG} {d : Nat} {X : gX} {M : gM} {K : Outcome → gX → gM → Prop} (hok : gOk l G) {c w : Nat} {x1 : Int} {x2 : Int} (hc1 : 1 ≤ c) (hc2 : c ≤ X.1) (hcs : X.2.1 c = (6, 12)) (hw1 : 1 ≤ w) (T : gCt l G y_GL_put (gRr d 1) true [gR G c, gI x1, gI x2] X M (gHr G K w [(19, 1), (20, 2)])) : gCh l G y_Lw_put tb_Lw_put (gRr (d + 1) 1) true [gR G c, gI x1, gI x2, gR G w] X M K := by
  refine gCh.of rfl (plainFor_of_name rfl) (by simp only [lg_sl_R, lg_sl_I, lg_sl_L, lg_sl_N, List.length_cons, List.length_nil]; decide) ?_
  unfold gEn
  simp only [lg_sl_R, lg_sl_I, lg_sl_L, lg_sl_N]
  refine wpt (L' := [.val (gR G c), .val (gI x1), .val (gI x2), .val (gR G w), .unset]) ?_ (And.intro rfl (And.intro rfl (And.intro rfl (And.intro rfl True.intro))))
  refine wp_aload_n d_Lw_put_0 rfl rfl (g_nz hw1) ?_
  refine wp_iconst d_Lw_put_1 ?_
  refine wp_aload_n d_Lw_put_2 rfl rfl (g_nz hc1) ?_
  refine wp_iload_n d_Lw_put_3 rfl rfl ?_
  refine wp_iload_n d_Lw_put_4 rfl rfl ?_
  refine wp_callVC (tb := tb_Lw_put) (rm' := gRr d 1) hok cw_Lw_put (As := [gI x1, gI x2]) (st := [gI 0, gR G w]) (md' := true) d_Lw_put_5 ca_GL_put ml_Lw_21 im_GL_put se_GL_put gc_GL hc1 hc2 hcs T (fun _ => rfl) (fun _ => rfl) rfl (gRr_call d _ 1 1 (by decide)) (by simp only [List.map, gR_cat, gI_cat, gL_cat, List.sum_cons, List.sum_nil]; decide) (g_zz d 1) rfl (fun v X1 M1 h => ?_) (fun a X1 M1 h => ?_)
  · rcases h with ⟨v1, e1, g1, w2, ws, kk⟩ | ⟨b, q, -, e1, -⟩
    · cases e1
      refine wp_st (st' := [gI v1, gI 0, gR G w]) rfl ?_
      refine xi2l d_Lw_put_8 (w32_id g1) ?_
      refine xlast d_Lw_put_9 hw1 w2 ws (by decide) ⟨by decide, by decide⟩ (w64_id (g64_32 g1)) ?_
      refine wp_goto (tgt := 21) d_Lw_put_10 (by decide) ?_
      refine wp_iconst d_Lw_put_21 ?_
      exact wp_ireturn d_Lw_put_22 rfl (fun _ => rfl) (g_zz d 1).1 (g_zz d 1).2 kk
    · cases e1
  · rcases h with ⟨v1, e1, -⟩ | ⟨b, q, hq, e1, b1, b2, bs, kk⟩
    · cases e1
    · obtain rfl := Outcome.threw.inj e1
      simp only [List.mem_cons, List.not_mem_nil, or_false] at hq
      rcases hq with rfl | rfl
      · refine ⟨b, 13, "java/lang/IllegalArgumentException", gT_E, 0, [], (0, 10, 13, 19), [(0, 10, 17, 25)], rfl, b1, b2, bs, rfl, rfl, (fun q hq => by cases hq), ⟨by decide, by decide⟩, by decide, cl_Lw_19, cs_jIae, ?_⟩
        refine wp_astore (L' := [.val (gR G c), .val (gI x1), .val (gI x2), .val (gR G w), .val (gR G b)]) d_Lw_put_13 (g_nz b1) (by decide) (gS1_R rfl rfl) ?_
        refine wp_iconst d_Lw_put_15 ?_
        exact wp_ireturn d_Lw_put_16 rfl (fun _ => rfl) (g_zz d 1).1 (g_zz d 1).2 kk
      · refine ⟨b, 14, "java/lang/IllegalStateException", gT_E, 0, [(0, 10, 13, 19)], (0, 10, 17, 25), [], rfl, b1, b2, bs, rfl, rfl, (fun q hq => by obtain rfl := List.mem_singleton.mp hq; exact ⟨by decide, _, cl_Lw_19, List.mem_append_left _ (List.mem_of_getElem? (i := 2) rfl)⟩), ⟨by decide, by decide⟩, by decide, cl_Lw_25, cs_jIse, ?_⟩
        refine wp_astore (L' := [.val (gR G c), .val (gI x1), .val (gI x2), .val (gR G w), .val (gR G b)]) d_Lw_put_17 (g_nz b1) (by decide) (gS1_R rfl rfl) ?_
        refine wp_iconst d_Lw_put_19 ?_
        exact wp_ireturn d_Lw_put_20 rfl (fun _ => rfl) (g_zz d 1).1 (g_zz d 1).2 kk
theorem cw_Lw_fill : Cond.codeWith y_Lw_fill.1 y_Lw_fill.2.1 y_Lw_fill.2.2.1 y_Lw_fill.2.2.2 tb_Lw_fill ∈ gTb := (tc_6 (List.mem_of_getElem? (i := 7) rfl) rfl)
theorem d_Lw_fill_0 : decode method_6_code 0 = .ok (.aload 7, 2) := by decide +kernel
theorem d_Lw_fill_2 : decode method_6_code 2 = .ok (.iconst 0, 1) := by decide +kernel
theorem d_Lw_fill_3 : decode method_6_code 3 = .ok (.aload_n 0, 1) := by decide +kernel
theorem d_Lw_fill_4 : decode method_6_code 4 = .ok (.iload_n 1, 1) := by decide +kernel
theorem d_Lw_fill_5 : decode method_6_code 5 = .ok (.iload_n 2, 1) := by decide +kernel
theorem d_Lw_fill_6 : decode method_6_code 6 = .ok (.iload_n 3, 1) := by decide +kernel
theorem d_Lw_fill_7 : decode method_6_code 7 = .ok (.iload 4, 2) := by decide +kernel
theorem d_Lw_fill_9 : decode method_6_code 9 = .ok (.iload 5, 2) := by decide +kernel
theorem d_Lw_fill_11 : decode method_6_code 11 = .ok (.iload 6, 2) := by decide +kernel
theorem d_Lw_fill_13 : decode method_6_code 13 = .ok (.invokevirtual 27, 3) := by decide +kernel
theorem d_Lw_fill_16 : decode method_6_code 16 = .ok (.i2l, 1) := by decide +kernel
theorem d_Lw_fill_17 : decode method_6_code 17 = .ok (.lastore, 1) := by decide +kernel
theorem d_Lw_fill_18 : decode method_6_code 18 = .ok (.goto 11, 3) := by decide +kernel
theorem d_Lw_fill_21 : decode method_6_code 21 = .ok (.astore 8, 2) := by decide +kernel
theorem d_Lw_fill_23 : decode method_6_code 23 = .ok (.iconst 1, 1) := by decide +kernel
theorem d_Lw_fill_24 : decode method_6_code 24 = .ok (.ireturn, 1) := by decide +kernel
theorem d_Lw_fill_25 : decode method_6_code 25 = .ok (.astore 8, 2) := by decide +kernel
theorem d_Lw_fill_27 : decode method_6_code 27 = .ok (.iconst 2, 1) := by decide +kernel
theorem d_Lw_fill_28 : decode method_6_code 28 = .ok (.ireturn, 1) := by decide +kernel
theorem d_Lw_fill_29 : decode method_6_code 29 = .ok (.iconst 0, 1) := by decide +kernel
theorem d_Lw_fill_30 : decode method_6_code 30 = .ok (.ireturn, 1) := by decide +kernel
set_option maxHeartbeats 4000000 in
theorem h_Lw_fill {l : Launch} {G : gG} {d : Nat} {X : gX} {M : gM} {K : Outcome → gX → gM → Prop} (hok : gOk l G) {c w : Nat} {x1 : Int} {x2 : Int} {x3 : Int} {x4 : Int} {x5 : Int} {x6 : Int} (hc1 : 1 ≤ c) (hc2 : c ≤ X.1) (hcs : X.2.1 c = (6, 12)) (hw1 : 1 ≤ w) (T : gCt l G y_GL_fill (gRr d 1) true [gR G c, gI x1, gI x2, gI x3, gI x4, gI x5, gI x6] X M (gHr G K w [(19, 1), (20, 2)])) : gCh l G y_Lw_fill tb_Lw_fill (gRr (d + 1) 1) true [gR G c, gI x1, gI x2, gI x3, gI x4, gI x5, gI x6, gR G w] X M K := by
  refine gCh.of rfl (plainFor_of_name rfl) (by simp only [lg_sl_R, lg_sl_I, lg_sl_L, lg_sl_N, List.length_cons, List.length_nil]; decide) ?_
  unfold gEn
  simp only [lg_sl_R, lg_sl_I, lg_sl_L, lg_sl_N]
  refine wpt (L' := [.val (gR G c), .val (gI x1), .val (gI x2), .val (gI x3), .val (gI x4), .val (gI x5), .val (gI x6), .val (gR G w), .unset]) ?_ (And.intro rfl (And.intro rfl (And.intro rfl (And.intro rfl (And.intro rfl (And.intro rfl (And.intro rfl (And.intro rfl True.intro))))))))
  refine wp_aload d_Lw_fill_0 rfl (g_nz hw1) ?_
  refine wp_iconst d_Lw_fill_2 ?_
  refine wp_aload_n d_Lw_fill_3 rfl rfl (g_nz hc1) ?_
  refine wp_iload_n d_Lw_fill_4 rfl rfl ?_
  refine wp_iload_n d_Lw_fill_5 rfl rfl ?_
  refine wp_iload_n d_Lw_fill_6 rfl rfl ?_
  refine wp_iload d_Lw_fill_7 rfl ?_
  refine wp_iload d_Lw_fill_9 rfl ?_
  refine wp_iload d_Lw_fill_11 rfl ?_
  refine wp_callVC (tb := tb_Lw_fill) (rm' := gRr d 1) hok cw_Lw_fill (As := [gI x1, gI x2, gI x3, gI x4, gI x5, gI x6]) (st := [gI 0, gR G w]) (md' := true) d_Lw_fill_13 ca_GL_fill ml_Lw_27 im_GL_fill se_GL_fill gc_GL hc1 hc2 hcs T (fun _ => rfl) (fun _ => rfl) rfl (gRr_call d _ 1 1 (by decide)) (by simp only [List.map, gR_cat, gI_cat, gL_cat, List.sum_cons, List.sum_nil]; decide) (g_zz d 1) rfl (fun v X1 M1 h => ?_) (fun a X1 M1 h => ?_)
  · rcases h with ⟨v1, e1, g1, w2, ws, kk⟩ | ⟨b, q, -, e1, -⟩
    · cases e1
      refine wp_st (st' := [gI v1, gI 0, gR G w]) rfl ?_
      refine xi2l d_Lw_fill_16 (w32_id g1) ?_
      refine xlast d_Lw_fill_17 hw1 w2 ws (by decide) ⟨by decide, by decide⟩ (w64_id (g64_32 g1)) ?_
      refine wp_goto (tgt := 29) d_Lw_fill_18 (by decide) ?_
      refine wp_iconst d_Lw_fill_29 ?_
      exact wp_ireturn d_Lw_fill_30 rfl (fun _ => rfl) (g_zz d 1).1 (g_zz d 1).2 kk
    · cases e1
  · rcases h with ⟨v1, e1, -⟩ | ⟨b, q, hq, e1, b1, b2, bs, kk⟩
    · cases e1
    · obtain rfl := Outcome.threw.inj e1
      simp only [List.mem_cons, List.not_mem_nil, or_false] at hq
      rcases hq with rfl | rfl
      · refine ⟨b, 13, "java/lang/IllegalArgumentException", gT_E, 0, [], (0, 18, 21, 19), [(0, 18, 25, 25)], rfl, b1, b2, bs, rfl, rfl, (fun q hq => by cases hq), ⟨by decide, by decide⟩, by decide, cl_Lw_19, cs_jIae, ?_⟩
        refine wp_astore (L' := [.val (gR G c), .val (gI x1), .val (gI x2), .val (gI x3), .val (gI x4), .val (gI x5), .val (gI x6), .val (gR G w), .val (gR G b)]) d_Lw_fill_21 (g_nz b1) (by decide) (gS1_R rfl rfl) ?_
        refine wp_iconst d_Lw_fill_23 ?_
        exact wp_ireturn d_Lw_fill_24 rfl (fun _ => rfl) (g_zz d 1).1 (g_zz d 1).2 kk
      · refine ⟨b, 14, "java/lang/IllegalStateException", gT_E, 0, [(0, 18, 21, 19)], (0, 18, 25, 25), [], rfl, b1, b2, bs, rfl, rfl, (fun q hq => by obtain rfl := List.mem_singleton.mp hq; exact ⟨by decide, _, cl_Lw_19, List.mem_append_left _ (List.mem_of_getElem? (i := 2) rfl)⟩), ⟨by decide, by decide⟩, by decide, cl_Lw_25, cs_jIse, ?_⟩
        refine wp_astore (L' := [.val (gR G c), .val (gI x1), .val (gI x2), .val (gI x3), .val (gI x4), .val (gI x5), .val (gI x6), .val (gR G w), .val (gR G b)]) d_Lw_fill_25 (g_nz b1) (by decide) (gS1_R rfl rfl) ?_
        refine wp_iconst d_Lw_fill_27 ?_
        exact wp_ireturn d_Lw_fill_28 rfl (fun _ => rfl) (g_zz d 1).1 (g_zz d 1).2 kk
theorem cw_Lw_insert : Cond.codeWith y_Lw_insert.1 y_Lw_insert.2.1 y_Lw_insert.2.2.1 y_Lw_insert.2.2.2 tb_Lw_insert ∈ gTb := (tc_6 (List.mem_of_getElem? (i := 22) rfl) rfl)
theorem d_Lw_insert_0 : decode method_7_code 0 = .ok (.aload 4, 2) := by decide +kernel
theorem d_Lw_insert_2 : decode method_7_code 2 = .ok (.iconst 0, 1) := by decide +kernel
theorem d_Lw_insert_3 : decode method_7_code 3 = .ok (.aload_n 0, 1) := by decide +kernel
theorem d_Lw_insert_4 : decode method_7_code 4 = .ok (.iload_n 1, 1) := by decide +kernel
theorem d_Lw_insert_5 : decode method_7_code 5 = .ok (.iload_n 2, 1) := by decide +kernel
theorem d_Lw_insert_6 : decode method_7_code 6 = .ok (.iload_n 3, 1) := by decide +kernel
theorem d_Lw_insert_7 : decode method_7_code 7 = .ok (.invokevirtual 31, 3) := by decide +kernel
theorem d_Lw_insert_10 : decode method_7_code 10 = .ok (.i2l, 1) := by decide +kernel
theorem d_Lw_insert_11 : decode method_7_code 11 = .ok (.lastore, 1) := by decide +kernel
theorem d_Lw_insert_12 : decode method_7_code 12 = .ok (.goto 11, 3) := by decide +kernel
theorem d_Lw_insert_15 : decode method_7_code 15 = .ok (.astore 5, 2) := by decide +kernel
theorem d_Lw_insert_17 : decode method_7_code 17 = .ok (.iconst 1, 1) := by decide +kernel
theorem d_Lw_insert_18 : decode method_7_code 18 = .ok (.ireturn, 1) := by decide +kernel
theorem d_Lw_insert_19 : decode method_7_code 19 = .ok (.astore 5, 2) := by decide +kernel
theorem d_Lw_insert_21 : decode method_7_code 21 = .ok (.iconst 2, 1) := by decide +kernel
theorem d_Lw_insert_22 : decode method_7_code 22 = .ok (.ireturn, 1) := by decide +kernel
theorem d_Lw_insert_23 : decode method_7_code 23 = .ok (.iconst 0, 1) := by decide +kernel
theorem d_Lw_insert_24 : decode method_7_code 24 = .ok (.ireturn, 1) := by decide +kernel
set_option maxHeartbeats 4000000 in
theorem h_Lw_insert {l : Launch} {G : gG} {d : Nat} {X : gX} {M : gM} {K : Outcome → gX → gM → Prop} (hok : gOk l G) {c w : Nat} {x1 : Int} {x2 : Int} {x3 : Int} (hc1 : 1 ≤ c) (hc2 : c ≤ X.1) (hcs : X.2.1 c = (6, 12)) (hw1 : 1 ≤ w) (T : gCt l G y_GL_insert (gRr d 1) true [gR G c, gI x1, gI x2, gI x3] X M (gHr G K w [(19, 1), (20, 2)])) : gCh l G y_Lw_insert tb_Lw_insert (gRr (d + 1) 1) true [gR G c, gI x1, gI x2, gI x3, gR G w] X M K := by
  refine gCh.of rfl (plainFor_of_name rfl) (by simp only [lg_sl_R, lg_sl_I, lg_sl_L, lg_sl_N, List.length_cons, List.length_nil]; decide) ?_
  unfold gEn
  simp only [lg_sl_R, lg_sl_I, lg_sl_L, lg_sl_N]
  refine wpt (L' := [.val (gR G c), .val (gI x1), .val (gI x2), .val (gI x3), .val (gR G w), .unset]) ?_ (And.intro rfl (And.intro rfl (And.intro rfl (And.intro rfl (And.intro rfl True.intro)))))
  refine wp_aload d_Lw_insert_0 rfl (g_nz hw1) ?_
  refine wp_iconst d_Lw_insert_2 ?_
  refine wp_aload_n d_Lw_insert_3 rfl rfl (g_nz hc1) ?_
  refine wp_iload_n d_Lw_insert_4 rfl rfl ?_
  refine wp_iload_n d_Lw_insert_5 rfl rfl ?_
  refine wp_iload_n d_Lw_insert_6 rfl rfl ?_
  refine wp_callVC (tb := tb_Lw_insert) (rm' := gRr d 1) hok cw_Lw_insert (As := [gI x1, gI x2, gI x3]) (st := [gI 0, gR G w]) (md' := true) d_Lw_insert_7 ca_GL_insert ml_Lw_31 im_GL_insert se_GL_insert gc_GL hc1 hc2 hcs T (fun _ => rfl) (fun _ => rfl) rfl (gRr_call d _ 1 1 (by decide)) (by simp only [List.map, gR_cat, gI_cat, gL_cat, List.sum_cons, List.sum_nil]; decide) (g_zz d 1) rfl (fun v X1 M1 h => ?_) (fun a X1 M1 h => ?_)
  · rcases h with ⟨v1, e1, g1, w2, ws, kk⟩ | ⟨b, q, -, e1, -⟩
    · cases e1
      refine wp_st (st' := [gI v1, gI 0, gR G w]) rfl ?_
      refine xi2l d_Lw_insert_10 (w32_id g1) ?_
      refine xlast d_Lw_insert_11 hw1 w2 ws (by decide) ⟨by decide, by decide⟩ (w64_id (g64_32 g1)) ?_
      refine wp_goto (tgt := 23) d_Lw_insert_12 (by decide) ?_
      refine wp_iconst d_Lw_insert_23 ?_
      exact wp_ireturn d_Lw_insert_24 rfl (fun _ => rfl) (g_zz d 1).1 (g_zz d 1).2 kk
    · cases e1
  · rcases h with ⟨v1, e1, -⟩ | ⟨b, q, hq, e1, b1, b2, bs, kk⟩
    · cases e1
    · obtain rfl := Outcome.threw.inj e1
      simp only [List.mem_cons, List.not_mem_nil, or_false] at hq
      rcases hq with rfl | rfl
      · refine ⟨b, 13, "java/lang/IllegalArgumentException", gT_E, 0, [], (0, 12, 15, 19), [(0, 12, 19, 25)], rfl, b1, b2, bs, rfl, rfl, (fun q hq => by cases hq), ⟨by decide, by decide⟩, by decide, cl_Lw_19, cs_jIae, ?_⟩
        refine wp_astore (L' := [.val (gR G c), .val (gI x1), .val (gI x2), .val (gI x3), .val (gR G w), .val (gR G b)]) d_Lw_insert_15 (g_nz b1) (by decide) (gS1_R rfl rfl) ?_
        refine wp_iconst d_Lw_insert_17 ?_
        exact wp_ireturn d_Lw_insert_18 rfl (fun _ => rfl) (g_zz d 1).1 (g_zz d 1).2 kk
      · refine ⟨b, 14, "java/lang/IllegalStateException", gT_E, 0, [(0, 12, 15, 19)], (0, 12, 19, 25), [], rfl, b1, b2, bs, rfl, rfl, (fun q hq => by obtain rfl := List.mem_singleton.mp hq; exact ⟨by decide, _, cl_Lw_19, List.mem_append_left _ (List.mem_of_getElem? (i := 2) rfl)⟩), ⟨by decide, by decide⟩, by decide, cl_Lw_25, cs_jIse, ?_⟩
        refine wp_astore (L' := [.val (gR G c), .val (gI x1), .val (gI x2), .val (gI x3), .val (gR G w), .val (gR G b)]) d_Lw_insert_19 (g_nz b1) (by decide) (gS1_R rfl rfl) ?_
        refine wp_iconst d_Lw_insert_21 ?_
        exact wp_ireturn d_Lw_insert_22 rfl (fun _ => rfl) (g_zz d 1).1 (g_zz d 1).2 kk
theorem cw_Lw_erase : Cond.codeWith y_Lw_erase.1 y_Lw_erase.2.1 y_Lw_erase.2.2.1 y_Lw_erase.2.2.2 tb_Lw_erase ∈ gTb := (tc_6 (List.mem_of_getElem? (i := 67) rfl) rfl)
theorem d_Lw_erase_0 : decode method_8_code 0 = .ok (.aload 4, 2) := by decide +kernel
theorem d_Lw_erase_2 : decode method_8_code 2 = .ok (.iconst 0, 1) := by decide +kernel
theorem d_Lw_erase_3 : decode method_8_code 3 = .ok (.aload_n 0, 1) := by decide +kernel
theorem d_Lw_erase_4 : decode method_8_code 4 = .ok (.iload_n 1, 1) := by decide +kernel
theorem d_Lw_erase_5 : decode method_8_code 5 = .ok (.iload_n 2, 1) := by decide +kernel
theorem d_Lw_erase_6 : decode method_8_code 6 = .ok (.iload_n 3, 1) := by decide +kernel
theorem d_Lw_erase_7 : decode method_8_code 7 = .ok (.invokevirtual 35, 3) := by decide +kernel
theorem d_Lw_erase_10 : decode method_8_code 10 = .ok (.i2l, 1) := by decide +kernel
theorem d_Lw_erase_11 : decode method_8_code 11 = .ok (.lastore, 1) := by decide +kernel
theorem d_Lw_erase_12 : decode method_8_code 12 = .ok (.goto 11, 3) := by decide +kernel
theorem d_Lw_erase_15 : decode method_8_code 15 = .ok (.astore 5, 2) := by decide +kernel
theorem d_Lw_erase_17 : decode method_8_code 17 = .ok (.iconst 1, 1) := by decide +kernel
theorem d_Lw_erase_18 : decode method_8_code 18 = .ok (.ireturn, 1) := by decide +kernel
theorem d_Lw_erase_19 : decode method_8_code 19 = .ok (.astore 5, 2) := by decide +kernel
theorem d_Lw_erase_21 : decode method_8_code 21 = .ok (.iconst 2, 1) := by decide +kernel
theorem d_Lw_erase_22 : decode method_8_code 22 = .ok (.ireturn, 1) := by decide +kernel
theorem d_Lw_erase_23 : decode method_8_code 23 = .ok (.iconst 0, 1) := by decide +kernel
theorem d_Lw_erase_24 : decode method_8_code 24 = .ok (.ireturn, 1) := by decide +kernel
set_option maxHeartbeats 4000000 in
theorem h_Lw_erase {l : Launch} {G : gG} {d : Nat} {X : gX} {M : gM} {K : Outcome → gX → gM → Prop} (hok : gOk l G) {c w : Nat} {x1 : Int} {x2 : Int} {x3 : Int} (hc1 : 1 ≤ c) (hc2 : c ≤ X.1) (hcs : X.2.1 c = (6, 12)) (hw1 : 1 ≤ w) (T : gCt l G y_GL_erase (gRr d 1) true [gR G c, gI x1, gI x2, gI x3] X M (gHr G K w [(19, 1), (20, 2)])) : gCh l G y_Lw_erase tb_Lw_erase (gRr (d + 1) 1) true [gR G c, gI x1, gI x2, gI x3, gR G w] X M K := by
  refine gCh.of rfl (plainFor_of_name rfl) (by simp only [lg_sl_R, lg_sl_I, lg_sl_L, lg_sl_N, List.length_cons, List.length_nil]; decide) ?_
  unfold gEn
  simp only [lg_sl_R, lg_sl_I, lg_sl_L, lg_sl_N]
  refine wpt (L' := [.val (gR G c), .val (gI x1), .val (gI x2), .val (gI x3), .val (gR G w), .unset]) ?_ (And.intro rfl (And.intro rfl (And.intro rfl (And.intro rfl (And.intro rfl True.intro)))))
  refine wp_aload d_Lw_erase_0 rfl (g_nz hw1) ?_
  refine wp_iconst d_Lw_erase_2 ?_
  refine wp_aload_n d_Lw_erase_3 rfl rfl (g_nz hc1) ?_
  refine wp_iload_n d_Lw_erase_4 rfl rfl ?_
  refine wp_iload_n d_Lw_erase_5 rfl rfl ?_
  refine wp_iload_n d_Lw_erase_6 rfl rfl ?_
  refine wp_callVC (tb := tb_Lw_erase) (rm' := gRr d 1) hok cw_Lw_erase (As := [gI x1, gI x2, gI x3]) (st := [gI 0, gR G w]) (md' := true) d_Lw_erase_7 ca_GL_erase ml_Lw_35 im_GL_erase se_GL_erase gc_GL hc1 hc2 hcs T (fun _ => rfl) (fun _ => rfl) rfl (gRr_call d _ 1 1 (by decide)) (by simp only [List.map, gR_cat, gI_cat, gL_cat, List.sum_cons, List.sum_nil]; decide) (g_zz d 1) rfl (fun v X1 M1 h => ?_) (fun a X1 M1 h => ?_)
  · rcases h with ⟨v1, e1, g1, w2, ws, kk⟩ | ⟨b, q, -, e1, -⟩
    · cases e1
      refine wp_st (st' := [gI v1, gI 0, gR G w]) rfl ?_
      refine xi2l d_Lw_erase_10 (w32_id g1) ?_
      refine xlast d_Lw_erase_11 hw1 w2 ws (by decide) ⟨by decide, by decide⟩ (w64_id (g64_32 g1)) ?_
      refine wp_goto (tgt := 23) d_Lw_erase_12 (by decide) ?_
      refine wp_iconst d_Lw_erase_23 ?_
      exact wp_ireturn d_Lw_erase_24 rfl (fun _ => rfl) (g_zz d 1).1 (g_zz d 1).2 kk
    · cases e1
  · rcases h with ⟨v1, e1, -⟩ | ⟨b, q, hq, e1, b1, b2, bs, kk⟩
    · cases e1
    · obtain rfl := Outcome.threw.inj e1
      simp only [List.mem_cons, List.not_mem_nil, or_false] at hq
      rcases hq with rfl | rfl
      · refine ⟨b, 13, "java/lang/IllegalArgumentException", gT_E, 0, [], (0, 12, 15, 19), [(0, 12, 19, 25)], rfl, b1, b2, bs, rfl, rfl, (fun q hq => by cases hq), ⟨by decide, by decide⟩, by decide, cl_Lw_19, cs_jIae, ?_⟩
        refine wp_astore (L' := [.val (gR G c), .val (gI x1), .val (gI x2), .val (gI x3), .val (gR G w), .val (gR G b)]) d_Lw_erase_15 (g_nz b1) (by decide) (gS1_R rfl rfl) ?_
        refine wp_iconst d_Lw_erase_17 ?_
        exact wp_ireturn d_Lw_erase_18 rfl (fun _ => rfl) (g_zz d 1).1 (g_zz d 1).2 kk
      · refine ⟨b, 14, "java/lang/IllegalStateException", gT_E, 0, [(0, 12, 15, 19)], (0, 12, 19, 25), [], rfl, b1, b2, bs, rfl, rfl, (fun q hq => by obtain rfl := List.mem_singleton.mp hq; exact ⟨by decide, _, cl_Lw_19, List.mem_append_left _ (List.mem_of_getElem? (i := 2) rfl)⟩), ⟨by decide, by decide⟩, by decide, cl_Lw_25, cs_jIse, ?_⟩
        refine wp_astore (L' := [.val (gR G c), .val (gI x1), .val (gI x2), .val (gI x3), .val (gR G w), .val (gR G b)]) d_Lw_erase_19 (g_nz b1) (by decide) (gS1_R rfl rfl) ?_
        refine wp_iconst d_Lw_erase_21 ?_
        exact wp_ireturn d_Lw_erase_22 rfl (fun _ => rfl) (g_zz d 1).1 (g_zz d 1).2 kk
theorem cw_Lw_undo : Cond.codeWith y_Lw_undo.1 y_Lw_undo.2.1 y_Lw_undo.2.2.1 y_Lw_undo.2.2.2 tb_Lw_undo ∈ gTb := (tc_6 (List.mem_of_getElem? (i := 74) rfl) rfl)
theorem d_Lw_undo_0 : decode method_9_code 0 = .ok (.aload_n 1, 1) := by decide +kernel
theorem d_Lw_undo_1 : decode method_9_code 1 = .ok (.iconst 0, 1) := by decide +kernel
theorem d_Lw_undo_2 : decode method_9_code 2 = .ok (.aload_n 0, 1) := by decide +kernel
theorem d_Lw_undo_3 : decode method_9_code 3 = .ok (.invokevirtual 38, 3) := by decide +kernel
theorem d_Lw_undo_6 : decode method_9_code 6 = .ok (.i2l, 1) := by decide +kernel
theorem d_Lw_undo_7 : decode method_9_code 7 = .ok (.lastore, 1) := by decide +kernel
theorem d_Lw_undo_8 : decode method_9_code 8 = .ok (.goto 6, 3) := by decide +kernel
theorem d_Lw_undo_11 : decode method_9_code 11 = .ok (.astore_n 2, 1) := by decide +kernel
theorem d_Lw_undo_12 : decode method_9_code 12 = .ok (.iconst 1, 1) := by decide +kernel
theorem d_Lw_undo_13 : decode method_9_code 13 = .ok (.ireturn, 1) := by decide +kernel
theorem d_Lw_undo_14 : decode method_9_code 14 = .ok (.iconst 0, 1) := by decide +kernel
theorem d_Lw_undo_15 : decode method_9_code 15 = .ok (.ireturn, 1) := by decide +kernel
set_option maxHeartbeats 4000000 in
theorem h_Lw_undo {l : Launch} {G : gG} {d : Nat} {X : gX} {M : gM} {K : Outcome → gX → gM → Prop} (hok : gOk l G) {c w : Nat} (hc1 : 1 ≤ c) (hc2 : c ≤ X.1) (hcs : X.2.1 c = (6, 12)) (hw1 : 1 ≤ w) (T : gCt l G y_GL_undo (gRr d 1) true [gR G c] X M (gHr G K w [(20, 1)])) : gCh l G y_Lw_undo tb_Lw_undo (gRr (d + 1) 1) true [gR G c, gR G w] X M K := by
  refine gCh.of rfl (plainFor_of_name rfl) (by simp only [lg_sl_R, lg_sl_I, lg_sl_L, lg_sl_N, List.length_cons, List.length_nil]; decide) ?_
  unfold gEn
  simp only [lg_sl_R, lg_sl_I, lg_sl_L, lg_sl_N]
  refine wpt (L' := [.val (gR G c), .val (gR G w), .unset]) ?_ (And.intro rfl (And.intro rfl True.intro))
  refine wp_aload_n d_Lw_undo_0 rfl rfl (g_nz hw1) ?_
  refine wp_iconst d_Lw_undo_1 ?_
  refine wp_aload_n d_Lw_undo_2 rfl rfl (g_nz hc1) ?_
  refine wp_callVC (tb := tb_Lw_undo) (rm' := gRr d 1) hok cw_Lw_undo (As := []) (st := [gI 0, gR G w]) (md' := true) d_Lw_undo_3 ca_GL_undo ml_Lw_38 im_GL_undo se_GL_undo gc_GL hc1 hc2 hcs T (fun _ => rfl) (fun _ => rfl) rfl (gRr_call d _ 1 1 (by decide)) (by simp only [List.map, gR_cat, gI_cat, gL_cat, List.sum_cons, List.sum_nil]; decide) (g_zz d 1) rfl (fun v X1 M1 h => ?_) (fun a X1 M1 h => ?_)
  · rcases h with ⟨v1, e1, g1, w2, ws, kk⟩ | ⟨b, q, -, e1, -⟩
    · cases e1
      refine wp_st (st' := [gI v1, gI 0, gR G w]) rfl ?_
      refine xi2l d_Lw_undo_6 (w32_id g1) ?_
      refine xlast d_Lw_undo_7 hw1 w2 ws (by decide) ⟨by decide, by decide⟩ (w64_id (g64_32 g1)) ?_
      refine wp_goto (tgt := 14) d_Lw_undo_8 (by decide) ?_
      refine wp_iconst d_Lw_undo_14 ?_
      exact wp_ireturn d_Lw_undo_15 rfl (fun _ => rfl) (g_zz d 1).1 (g_zz d 1).2 kk
    · cases e1
  · rcases h with ⟨v1, e1, -⟩ | ⟨b, q, hq, e1, b1, b2, bs, kk⟩
    · cases e1
    · obtain rfl := Outcome.threw.inj e1
      simp only [List.mem_cons, List.not_mem_nil, or_false] at hq
      rcases hq with rfl
      · refine ⟨b, 14, "java/lang/IllegalStateException", gT_E, 0, [], (0, 8, 11, 25), [], rfl, b1, b2, bs, rfl, rfl, (fun q hq => by cases hq), ⟨by decide, by decide⟩, by decide, cl_Lw_25, cs_jIse, ?_⟩
        refine wp_astore_n (L' := [.val (gR G c), .val (gR G w), .val (gR G b)]) d_Lw_undo_11 rfl (g_nz b1) (by decide) (gS1_R rfl rfl) ?_
        refine wp_iconst d_Lw_undo_12 ?_
        exact wp_ireturn d_Lw_undo_13 rfl (fun _ => rfl) (g_zz d 1).1 (g_zz d 1).2 kk
theorem cw_Lw_redo : Cond.codeWith y_Lw_redo.1 y_Lw_redo.2.1 y_Lw_redo.2.2.1 y_Lw_redo.2.2.2 tb_Lw_redo ∈ gTb := (tc_6 (List.mem_of_getElem? (i := 81) rfl) rfl)
theorem d_Lw_redo_0 : decode method_10_code 0 = .ok (.aload_n 1, 1) := by decide +kernel
theorem d_Lw_redo_1 : decode method_10_code 1 = .ok (.iconst 0, 1) := by decide +kernel
theorem d_Lw_redo_2 : decode method_10_code 2 = .ok (.aload_n 0, 1) := by decide +kernel
theorem d_Lw_redo_3 : decode method_10_code 3 = .ok (.invokevirtual 42, 3) := by decide +kernel
theorem d_Lw_redo_6 : decode method_10_code 6 = .ok (.i2l, 1) := by decide +kernel
theorem d_Lw_redo_7 : decode method_10_code 7 = .ok (.lastore, 1) := by decide +kernel
theorem d_Lw_redo_8 : decode method_10_code 8 = .ok (.goto 6, 3) := by decide +kernel
theorem d_Lw_redo_11 : decode method_10_code 11 = .ok (.astore_n 2, 1) := by decide +kernel
theorem d_Lw_redo_12 : decode method_10_code 12 = .ok (.iconst 1, 1) := by decide +kernel
theorem d_Lw_redo_13 : decode method_10_code 13 = .ok (.ireturn, 1) := by decide +kernel
theorem d_Lw_redo_14 : decode method_10_code 14 = .ok (.iconst 0, 1) := by decide +kernel
theorem d_Lw_redo_15 : decode method_10_code 15 = .ok (.ireturn, 1) := by decide +kernel
set_option maxHeartbeats 4000000 in
theorem h_Lw_redo {l : Launch} {G : gG} {d : Nat} {X : gX} {M : gM} {K : Outcome → gX → gM → Prop} (hok : gOk l G) {c w : Nat} (hc1 : 1 ≤ c) (hc2 : c ≤ X.1) (hcs : X.2.1 c = (6, 12)) (hw1 : 1 ≤ w) (T : gCt l G y_GL_redo (gRr d 1) true [gR G c] X M (gHr G K w [(20, 1)])) : gCh l G y_Lw_redo tb_Lw_redo (gRr (d + 1) 1) true [gR G c, gR G w] X M K := by
  refine gCh.of rfl (plainFor_of_name rfl) (by simp only [lg_sl_R, lg_sl_I, lg_sl_L, lg_sl_N, List.length_cons, List.length_nil]; decide) ?_
  unfold gEn
  simp only [lg_sl_R, lg_sl_I, lg_sl_L, lg_sl_N]
  refine wpt (L' := [.val (gR G c), .val (gR G w), .unset]) ?_ (And.intro rfl (And.intro rfl True.intro))
  refine wp_aload_n d_Lw_redo_0 rfl rfl (g_nz hw1) ?_
  refine wp_iconst d_Lw_redo_1 ?_
  refine wp_aload_n d_Lw_redo_2 rfl rfl (g_nz hc1) ?_
  refine wp_callVC (tb := tb_Lw_redo) (rm' := gRr d 1) hok cw_Lw_redo (As := []) (st := [gI 0, gR G w]) (md' := true) d_Lw_redo_3 ca_GL_redo ml_Lw_42 im_GL_redo se_GL_redo gc_GL hc1 hc2 hcs T (fun _ => rfl) (fun _ => rfl) rfl (gRr_call d _ 1 1 (by decide)) (by simp only [List.map, gR_cat, gI_cat, gL_cat, List.sum_cons, List.sum_nil]; decide) (g_zz d 1) rfl (fun v X1 M1 h => ?_) (fun a X1 M1 h => ?_)
  · rcases h with ⟨v1, e1, g1, w2, ws, kk⟩ | ⟨b, q, -, e1, -⟩
    · cases e1
      refine wp_st (st' := [gI v1, gI 0, gR G w]) rfl ?_
      refine xi2l d_Lw_redo_6 (w32_id g1) ?_
      refine xlast d_Lw_redo_7 hw1 w2 ws (by decide) ⟨by decide, by decide⟩ (w64_id (g64_32 g1)) ?_
      refine wp_goto (tgt := 14) d_Lw_redo_8 (by decide) ?_
      refine wp_iconst d_Lw_redo_14 ?_
      exact wp_ireturn d_Lw_redo_15 rfl (fun _ => rfl) (g_zz d 1).1 (g_zz d 1).2 kk
    · cases e1
  · rcases h with ⟨v1, e1, -⟩ | ⟨b, q, hq, e1, b1, b2, bs, kk⟩
    · cases e1
    · obtain rfl := Outcome.threw.inj e1
      simp only [List.mem_cons, List.not_mem_nil, or_false] at hq
      rcases hq with rfl
      · refine ⟨b, 14, "java/lang/IllegalStateException", gT_E, 0, [], (0, 8, 11, 25), [], rfl, b1, b2, bs, rfl, rfl, (fun q hq => by cases hq), ⟨by decide, by decide⟩, by decide, cl_Lw_25, cs_jIse, ?_⟩
        refine wp_astore_n (L' := [.val (gR G c), .val (gR G w), .val (gR G b)]) d_Lw_redo_11 rfl (g_nz b1) (by decide) (gS1_R rfl rfl) ?_
        refine wp_iconst d_Lw_redo_12 ?_
        exact wp_ireturn d_Lw_redo_13 rfl (fun _ => rfl) (g_zz d 1).1 (g_zz d 1).2 kk
theorem cw_Lw_value : Cond.codeWith y_Lw_value.1 y_Lw_value.2.1 y_Lw_value.2.2.1 y_Lw_value.2.2.2 tb_Lw_value ∈ gTb := (tc_6 (List.mem_of_getElem? (i := 88) rfl) rfl)
theorem d_Lw_value_0 : decode method_11_code 0 = .ok (.aload 4, 2) := by decide +kernel
theorem d_Lw_value_2 : decode method_11_code 2 = .ok (.iconst 0, 1) := by decide +kernel
theorem d_Lw_value_3 : decode method_11_code 3 = .ok (.aload_n 0, 1) := by decide +kernel
theorem d_Lw_value_4 : decode method_11_code 4 = .ok (.iload_n 1, 1) := by decide +kernel
theorem d_Lw_value_5 : decode method_11_code 5 = .ok (.iload_n 2, 1) := by decide +kernel
theorem d_Lw_value_6 : decode method_11_code 6 = .ok (.iload_n 3, 1) := by decide +kernel
theorem d_Lw_value_7 : decode method_11_code 7 = .ok (.invokevirtual 45, 3) := by decide +kernel
theorem d_Lw_value_10 : decode method_11_code 10 = .ok (.lastore, 1) := by decide +kernel
theorem d_Lw_value_11 : decode method_11_code 11 = .ok (.goto 7, 3) := by decide +kernel
theorem d_Lw_value_14 : decode method_11_code 14 = .ok (.astore 5, 2) := by decide +kernel
theorem d_Lw_value_16 : decode method_11_code 16 = .ok (.iconst 1, 1) := by decide +kernel
theorem d_Lw_value_17 : decode method_11_code 17 = .ok (.ireturn, 1) := by decide +kernel
theorem d_Lw_value_18 : decode method_11_code 18 = .ok (.iconst 0, 1) := by decide +kernel
theorem d_Lw_value_19 : decode method_11_code 19 = .ok (.ireturn, 1) := by decide +kernel
set_option maxHeartbeats 4000000 in
theorem h_Lw_value {l : Launch} {G : gG} {d : Nat} {X : gX} {M : gM} {K : Outcome → gX → gM → Prop} (hok : gOk l G) {c w : Nat} {x1 : Int} {x2 : Int} {x3 : Int} (hc1 : 1 ≤ c) (hc2 : c ≤ X.1) (hcs : X.2.1 c = (6, 12)) (hw1 : 1 ≤ w) (T : gCt l G y_GL_value (gRr d 1) false [gR G c, gI x1, gI x2, gI x3] X M (gHl G K w [(19, 1)])) : gCh l G y_Lw_value tb_Lw_value (gRr (d + 1) 1) true [gR G c, gI x1, gI x2, gI x3, gR G w] X M K := by
  refine gCh.of rfl (plainFor_of_name rfl) (by simp only [lg_sl_R, lg_sl_I, lg_sl_L, lg_sl_N, List.length_cons, List.length_nil]; decide) ?_
  unfold gEn
  simp only [lg_sl_R, lg_sl_I, lg_sl_L, lg_sl_N]
  refine wpt (L' := [.val (gR G c), .val (gI x1), .val (gI x2), .val (gI x3), .val (gR G w), .unset]) ?_ (And.intro rfl (And.intro rfl (And.intro rfl (And.intro rfl (And.intro rfl True.intro)))))
  refine wp_aload d_Lw_value_0 rfl (g_nz hw1) ?_
  refine wp_iconst d_Lw_value_2 ?_
  refine wp_aload_n d_Lw_value_3 rfl rfl (g_nz hc1) ?_
  refine wp_iload_n d_Lw_value_4 rfl rfl ?_
  refine wp_iload_n d_Lw_value_5 rfl rfl ?_
  refine wp_iload_n d_Lw_value_6 rfl rfl ?_
  refine wp_callVC (tb := tb_Lw_value) (rm' := gRr d 1) hok cw_Lw_value (As := [gI x1, gI x2, gI x3]) (st := [gI 0, gR G w]) (md' := true) d_Lw_value_7 ca_GL_value ml_Lw_45 im_GL_value se_GL_value gc_GL hc1 hc2 hcs T (fun _ => rfl) (fun _ => rfl) rfl (gRr_call d _ 1 1 (by decide)) (by simp only [List.map, gR_cat, gI_cat, gL_cat, List.sum_cons, List.sum_nil]; decide) (g_zz d 1) rfl (fun v X1 M1 h => ?_) (fun a X1 M1 h => ?_)
  · rcases h with ⟨v1, e1, g1, w2, ws, kk⟩ | ⟨b, q, -, e1, -⟩
    · cases e1
      refine wp_st (st' := [gL v1, gI 0, gR G w]) rfl ?_
      refine xlast d_Lw_value_10 hw1 w2 ws (by decide) ⟨by decide, by decide⟩ (w64_id g1) ?_
      refine wp_goto (tgt := 18) d_Lw_value_11 (by decide) ?_
      refine wp_iconst d_Lw_value_18 ?_
      exact wp_ireturn d_Lw_value_19 rfl (fun _ => rfl) (g_zz d 1).1 (g_zz d 1).2 kk
    · cases e1
  · rcases h with ⟨v1, e1, -⟩ | ⟨b, q, hq, e1, b1, b2, bs, kk⟩
    · cases e1
    · obtain rfl := Outcome.threw.inj e1
      simp only [List.mem_cons, List.not_mem_nil, or_false] at hq
      rcases hq with rfl
      · refine ⟨b, 13, "java/lang/IllegalArgumentException", gT_E, 0, [], (0, 11, 14, 19), [], rfl, b1, b2, bs, rfl, rfl, (fun q hq => by cases hq), ⟨by decide, by decide⟩, by decide, cl_Lw_19, cs_jIae, ?_⟩
        refine wp_astore (L' := [.val (gR G c), .val (gI x1), .val (gI x2), .val (gI x3), .val (gR G w), .val (gR G b)]) d_Lw_value_14 (g_nz b1) (by decide) (gS1_R rfl rfl) ?_
        refine wp_iconst d_Lw_value_16 ?_
        exact wp_ireturn d_Lw_value_17 rfl (fun _ => rfl) (g_zz d 1).1 (g_zz d 1).2 kk
theorem cw_Lw_letter : Cond.codeWith y_Lw_letter.1 y_Lw_letter.2.1 y_Lw_letter.2.2.1 y_Lw_letter.2.2.2 tb_Lw_letter ∈ gTb := (tc_6 (List.mem_of_getElem? (i := 95) rfl) rfl)
theorem d_Lw_letter_0 : decode method_12_code 0 = .ok (.aload 4, 2) := by decide +kernel
theorem d_Lw_letter_2 : decode method_12_code 2 = .ok (.iconst 0, 1) := by decide +kernel
theorem d_Lw_letter_3 : decode method_12_code 3 = .ok (.aload_n 0, 1) := by decide +kernel
theorem d_Lw_letter_4 : decode method_12_code 4 = .ok (.iload_n 1, 1) := by decide +kernel
theorem d_Lw_letter_5 : decode method_12_code 5 = .ok (.iload_n 2, 1) := by decide +kernel
theorem d_Lw_letter_6 : decode method_12_code 6 = .ok (.iload_n 3, 1) := by decide +kernel
theorem d_Lw_letter_7 : decode method_12_code 7 = .ok (.invokevirtual 49, 3) := by decide +kernel
theorem d_Lw_letter_10 : decode method_12_code 10 = .ok (.i2l, 1) := by decide +kernel
theorem d_Lw_letter_11 : decode method_12_code 11 = .ok (.lastore, 1) := by decide +kernel
theorem d_Lw_letter_12 : decode method_12_code 12 = .ok (.goto 11, 3) := by decide +kernel
theorem d_Lw_letter_15 : decode method_12_code 15 = .ok (.astore 5, 2) := by decide +kernel
theorem d_Lw_letter_17 : decode method_12_code 17 = .ok (.iconst 1, 1) := by decide +kernel
theorem d_Lw_letter_18 : decode method_12_code 18 = .ok (.ireturn, 1) := by decide +kernel
theorem d_Lw_letter_19 : decode method_12_code 19 = .ok (.astore 5, 2) := by decide +kernel
theorem d_Lw_letter_21 : decode method_12_code 21 = .ok (.iconst 2, 1) := by decide +kernel
theorem d_Lw_letter_22 : decode method_12_code 22 = .ok (.ireturn, 1) := by decide +kernel
theorem d_Lw_letter_23 : decode method_12_code 23 = .ok (.iconst 0, 1) := by decide +kernel
theorem d_Lw_letter_24 : decode method_12_code 24 = .ok (.ireturn, 1) := by decide +kernel
set_option maxHeartbeats 4000000 in
theorem h_Lw_letter {l : Launch} {G : gG} {d : Nat} {X : gX} {M : gM} {K : Outcome → gX → gM → Prop} (hok : gOk l G) {c w : Nat} {x1 : Int} {x2 : Int} {x3 : Int} (hc1 : 1 ≤ c) (hc2 : c ≤ X.1) (hcs : X.2.1 c = (6, 12)) (hw1 : 1 ≤ w) (T : gCt l G y_GL_letter (gRr d 1) false [gR G c, gI x1, gI x2, gI x3] X M (gHr G K w [(19, 1), (21, 2)])) : gCh l G y_Lw_letter tb_Lw_letter (gRr (d + 1) 1) true [gR G c, gI x1, gI x2, gI x3, gR G w] X M K := by
  refine gCh.of rfl (plainFor_of_name rfl) (by simp only [lg_sl_R, lg_sl_I, lg_sl_L, lg_sl_N, List.length_cons, List.length_nil]; decide) ?_
  unfold gEn
  simp only [lg_sl_R, lg_sl_I, lg_sl_L, lg_sl_N]
  refine wpt (L' := [.val (gR G c), .val (gI x1), .val (gI x2), .val (gI x3), .val (gR G w), .unset]) ?_ (And.intro rfl (And.intro rfl (And.intro rfl (And.intro rfl (And.intro rfl True.intro)))))
  refine wp_aload d_Lw_letter_0 rfl (g_nz hw1) ?_
  refine wp_iconst d_Lw_letter_2 ?_
  refine wp_aload_n d_Lw_letter_3 rfl rfl (g_nz hc1) ?_
  refine wp_iload_n d_Lw_letter_4 rfl rfl ?_
  refine wp_iload_n d_Lw_letter_5 rfl rfl ?_
  refine wp_iload_n d_Lw_letter_6 rfl rfl ?_
  refine wp_callVC (tb := tb_Lw_letter) (rm' := gRr d 1) hok cw_Lw_letter (As := [gI x1, gI x2, gI x3]) (st := [gI 0, gR G w]) (md' := true) d_Lw_letter_7 ca_GL_letter ml_Lw_49 im_GL_letter se_GL_letter gc_GL hc1 hc2 hcs T (fun _ => rfl) (fun _ => rfl) rfl (gRr_call d _ 1 1 (by decide)) (by simp only [List.map, gR_cat, gI_cat, gL_cat, List.sum_cons, List.sum_nil]; decide) (g_zz d 1) rfl (fun v X1 M1 h => ?_) (fun a X1 M1 h => ?_)
  · rcases h with ⟨v1, e1, g1, w2, ws, kk⟩ | ⟨b, q, -, e1, -⟩
    · cases e1
      refine wp_st (st' := [gI v1, gI 0, gR G w]) rfl ?_
      refine xi2l d_Lw_letter_10 (w32_id g1) ?_
      refine xlast d_Lw_letter_11 hw1 w2 ws (by decide) ⟨by decide, by decide⟩ (w64_id (g64_32 g1)) ?_
      refine wp_goto (tgt := 23) d_Lw_letter_12 (by decide) ?_
      refine wp_iconst d_Lw_letter_23 ?_
      exact wp_ireturn d_Lw_letter_24 rfl (fun _ => rfl) (g_zz d 1).1 (g_zz d 1).2 kk
    · cases e1
  · rcases h with ⟨v1, e1, -⟩ | ⟨b, q, hq, e1, b1, b2, bs, kk⟩
    · cases e1
    · obtain rfl := Outcome.threw.inj e1
      simp only [List.mem_cons, List.not_mem_nil, or_false] at hq
      rcases hq with rfl | rfl
      · refine ⟨b, 13, "java/lang/IllegalArgumentException", gT_E, 0, [], (0, 12, 15, 19), [(0, 12, 19, 53)], rfl, b1, b2, bs, rfl, rfl, (fun q hq => by cases hq), ⟨by decide, by decide⟩, by decide, cl_Lw_19, cs_jIae, ?_⟩
        refine wp_astore (L' := [.val (gR G c), .val (gI x1), .val (gI x2), .val (gI x3), .val (gR G w), .val (gR G b)]) d_Lw_letter_15 (g_nz b1) (by decide) (gS1_R rfl rfl) ?_
        refine wp_iconst d_Lw_letter_17 ?_
        exact wp_ireturn d_Lw_letter_18 rfl (fun _ => rfl) (g_zz d 1).1 (g_zz d 1).2 kk
      · refine ⟨b, 15, "java/util/NoSuchElementException", gT_E, 0, [(0, 12, 15, 19)], (0, 12, 19, 53), [], rfl, b1, b2, bs, rfl, rfl, (fun q hq => by obtain rfl := List.mem_singleton.mp hq; exact ⟨by decide, _, cl_Lw_19, List.mem_append_left _ (List.mem_of_getElem? (i := 3) rfl)⟩), ⟨by decide, by decide⟩, by decide, cl_Lw_53, cs_jNse, ?_⟩
        refine wp_astore (L' := [.val (gR G c), .val (gI x1), .val (gI x2), .val (gI x3), .val (gR G w), .val (gR G b)]) d_Lw_letter_19 (g_nz b1) (by decide) (gS1_R rfl rfl) ?_
        refine wp_iconst d_Lw_letter_21 ?_
        exact wp_ireturn d_Lw_letter_22 rfl (fun _ => rfl) (g_zz d 1).1 (g_zz d 1).2 kk
theorem cw_Lw_content : Cond.codeWith y_Lw_content.1 y_Lw_content.2.1 y_Lw_content.2.2.1 y_Lw_content.2.2.2 tb_Lw_content ∈ gTb := (tc_6 (List.mem_of_getElem? (i := 118) rfl) rfl)
theorem d_Lw_content_0 : decode method_13_code 0 = .ok (.aload 4, 2) := by decide +kernel
theorem d_Lw_content_2 : decode method_13_code 2 = .ok (.iconst 0, 1) := by decide +kernel
theorem d_Lw_content_3 : decode method_13_code 3 = .ok (.aload_n 0, 1) := by decide +kernel
theorem d_Lw_content_4 : decode method_13_code 4 = .ok (.iload_n 1, 1) := by decide +kernel
theorem d_Lw_content_5 : decode method_13_code 5 = .ok (.iload_n 2, 1) := by decide +kernel
theorem d_Lw_content_6 : decode method_13_code 6 = .ok (.iload_n 3, 1) := by decide +kernel
theorem d_Lw_content_7 : decode method_13_code 7 = .ok (.invokevirtual 55, 3) := by decide +kernel
theorem d_Lw_content_10 : decode method_13_code 10 = .ok (.i2l, 1) := by decide +kernel
theorem d_Lw_content_11 : decode method_13_code 11 = .ok (.lastore, 1) := by decide +kernel
theorem d_Lw_content_12 : decode method_13_code 12 = .ok (.goto 7, 3) := by decide +kernel
theorem d_Lw_content_15 : decode method_13_code 15 = .ok (.astore 5, 2) := by decide +kernel
theorem d_Lw_content_17 : decode method_13_code 17 = .ok (.iconst 1, 1) := by decide +kernel
theorem d_Lw_content_18 : decode method_13_code 18 = .ok (.ireturn, 1) := by decide +kernel
theorem d_Lw_content_19 : decode method_13_code 19 = .ok (.iconst 0, 1) := by decide +kernel
theorem d_Lw_content_20 : decode method_13_code 20 = .ok (.ireturn, 1) := by decide +kernel
set_option maxHeartbeats 4000000 in
theorem h_Lw_content {l : Launch} {G : gG} {d : Nat} {X : gX} {M : gM} {K : Outcome → gX → gM → Prop} (hok : gOk l G) {c w : Nat} {x1 : Int} {x2 : Int} {x3 : Int} (hc1 : 1 ≤ c) (hc2 : c ≤ X.1) (hcs : X.2.1 c = (6, 12)) (hw1 : 1 ≤ w) (T : gCt l G y_GL_content (gRr d 1) false [gR G c, gI x1, gI x2, gI x3] X M (gHr G K w [(19, 1)])) : gCh l G y_Lw_content tb_Lw_content (gRr (d + 1) 1) true [gR G c, gI x1, gI x2, gI x3, gR G w] X M K := by
  refine gCh.of rfl (plainFor_of_name rfl) (by simp only [lg_sl_R, lg_sl_I, lg_sl_L, lg_sl_N, List.length_cons, List.length_nil]; decide) ?_
  unfold gEn
  simp only [lg_sl_R, lg_sl_I, lg_sl_L, lg_sl_N]
  refine wpt (L' := [.val (gR G c), .val (gI x1), .val (gI x2), .val (gI x3), .val (gR G w), .unset]) ?_ (And.intro rfl (And.intro rfl (And.intro rfl (And.intro rfl (And.intro rfl True.intro)))))
  refine wp_aload d_Lw_content_0 rfl (g_nz hw1) ?_
  refine wp_iconst d_Lw_content_2 ?_
  refine wp_aload_n d_Lw_content_3 rfl rfl (g_nz hc1) ?_
  refine wp_iload_n d_Lw_content_4 rfl rfl ?_
  refine wp_iload_n d_Lw_content_5 rfl rfl ?_
  refine wp_iload_n d_Lw_content_6 rfl rfl ?_
  refine wp_callVC (tb := tb_Lw_content) (rm' := gRr d 1) hok cw_Lw_content (As := [gI x1, gI x2, gI x3]) (st := [gI 0, gR G w]) (md' := true) d_Lw_content_7 ca_GL_content ml_Lw_55 im_GL_content se_GL_content gc_GL hc1 hc2 hcs T (fun _ => rfl) (fun _ => rfl) rfl (gRr_call d _ 1 1 (by decide)) (by simp only [List.map, gR_cat, gI_cat, gL_cat, List.sum_cons, List.sum_nil]; decide) (g_zz d 1) rfl (fun v X1 M1 h => ?_) (fun a X1 M1 h => ?_)
  · rcases h with ⟨v1, e1, g1, w2, ws, kk⟩ | ⟨b, q, -, e1, -⟩
    · cases e1
      refine wp_st (st' := [gI v1, gI 0, gR G w]) rfl ?_
      refine xi2l d_Lw_content_10 (w32_id g1) ?_
      refine xlast d_Lw_content_11 hw1 w2 ws (by decide) ⟨by decide, by decide⟩ (w64_id (g64_32 g1)) ?_
      refine wp_goto (tgt := 19) d_Lw_content_12 (by decide) ?_
      refine wp_iconst d_Lw_content_19 ?_
      exact wp_ireturn d_Lw_content_20 rfl (fun _ => rfl) (g_zz d 1).1 (g_zz d 1).2 kk
    · cases e1
  · rcases h with ⟨v1, e1, -⟩ | ⟨b, q, hq, e1, b1, b2, bs, kk⟩
    · cases e1
    · obtain rfl := Outcome.threw.inj e1
      simp only [List.mem_cons, List.not_mem_nil, or_false] at hq
      rcases hq with rfl
      · refine ⟨b, 13, "java/lang/IllegalArgumentException", gT_E, 0, [], (0, 12, 15, 19), [], rfl, b1, b2, bs, rfl, rfl, (fun q hq => by cases hq), ⟨by decide, by decide⟩, by decide, cl_Lw_19, cs_jIae, ?_⟩
        refine wp_astore (L' := [.val (gR G c), .val (gI x1), .val (gI x2), .val (gI x3), .val (gR G w), .val (gR G b)]) d_Lw_content_15 (g_nz b1) (by decide) (gS1_R rfl rfl) ?_
        refine wp_iconst d_Lw_content_17 ?_
        exact wp_ireturn d_Lw_content_18 rfl (fun _ => rfl) (g_zz d 1).1 (g_zz d 1).2 kk
theorem cw_Lw_reference : Cond.codeWith y_Lw_reference.1 y_Lw_reference.2.1 y_Lw_reference.2.2.1 y_Lw_reference.2.2.2 tb_Lw_reference ∈ gTb := (tc_6 (List.mem_of_getElem? (i := 130) rfl) rfl)
theorem d_Lw_reference_0 : decode method_14_code 0 = .ok (.aload 4, 2) := by decide +kernel
theorem d_Lw_reference_2 : decode method_14_code 2 = .ok (.iconst 0, 1) := by decide +kernel
theorem d_Lw_reference_3 : decode method_14_code 3 = .ok (.aload_n 0, 1) := by decide +kernel
theorem d_Lw_reference_4 : decode method_14_code 4 = .ok (.iload_n 1, 1) := by decide +kernel
theorem d_Lw_reference_5 : decode method_14_code 5 = .ok (.iload_n 2, 1) := by decide +kernel
theorem d_Lw_reference_6 : decode method_14_code 6 = .ok (.iload_n 3, 1) := by decide +kernel
theorem d_Lw_reference_7 : decode method_14_code 7 = .ok (.invokevirtual 58, 3) := by decide +kernel
theorem d_Lw_reference_10 : decode method_14_code 10 = .ok (.i2l, 1) := by decide +kernel
theorem d_Lw_reference_11 : decode method_14_code 11 = .ok (.lastore, 1) := by decide +kernel
theorem d_Lw_reference_12 : decode method_14_code 12 = .ok (.goto 11, 3) := by decide +kernel
theorem d_Lw_reference_15 : decode method_14_code 15 = .ok (.astore 5, 2) := by decide +kernel
theorem d_Lw_reference_17 : decode method_14_code 17 = .ok (.iconst 1, 1) := by decide +kernel
theorem d_Lw_reference_18 : decode method_14_code 18 = .ok (.ireturn, 1) := by decide +kernel
theorem d_Lw_reference_19 : decode method_14_code 19 = .ok (.astore 5, 2) := by decide +kernel
theorem d_Lw_reference_21 : decode method_14_code 21 = .ok (.iconst 2, 1) := by decide +kernel
theorem d_Lw_reference_22 : decode method_14_code 22 = .ok (.ireturn, 1) := by decide +kernel
theorem d_Lw_reference_23 : decode method_14_code 23 = .ok (.iconst 0, 1) := by decide +kernel
theorem d_Lw_reference_24 : decode method_14_code 24 = .ok (.ireturn, 1) := by decide +kernel
set_option maxHeartbeats 4000000 in
theorem h_Lw_reference {l : Launch} {G : gG} {d : Nat} {X : gX} {M : gM} {K : Outcome → gX → gM → Prop} (hok : gOk l G) {c w : Nat} {x1 : Int} {x2 : Int} {x3 : Int} (hc1 : 1 ≤ c) (hc2 : c ≤ X.1) (hcs : X.2.1 c = (6, 12)) (hw1 : 1 ≤ w) (T : gCt l G y_GL_reference (gRr d 1) false [gR G c, gI x1, gI x2, gI x3] X M (gHr G K w [(19, 1), (21, 2)])) : gCh l G y_Lw_reference tb_Lw_reference (gRr (d + 1) 1) true [gR G c, gI x1, gI x2, gI x3, gR G w] X M K := by
  refine gCh.of rfl (plainFor_of_name rfl) (by simp only [lg_sl_R, lg_sl_I, lg_sl_L, lg_sl_N, List.length_cons, List.length_nil]; decide) ?_
  unfold gEn
  simp only [lg_sl_R, lg_sl_I, lg_sl_L, lg_sl_N]
  refine wpt (L' := [.val (gR G c), .val (gI x1), .val (gI x2), .val (gI x3), .val (gR G w), .unset]) ?_ (And.intro rfl (And.intro rfl (And.intro rfl (And.intro rfl (And.intro rfl True.intro)))))
  refine wp_aload d_Lw_reference_0 rfl (g_nz hw1) ?_
  refine wp_iconst d_Lw_reference_2 ?_
  refine wp_aload_n d_Lw_reference_3 rfl rfl (g_nz hc1) ?_
  refine wp_iload_n d_Lw_reference_4 rfl rfl ?_
  refine wp_iload_n d_Lw_reference_5 rfl rfl ?_
  refine wp_iload_n d_Lw_reference_6 rfl rfl ?_
  refine wp_callVC (tb := tb_Lw_reference) (rm' := gRr d 1) hok cw_Lw_reference (As := [gI x1, gI x2, gI x3]) (st := [gI 0, gR G w]) (md' := true) d_Lw_reference_7 ca_GL_reference ml_Lw_58 im_GL_reference se_GL_reference gc_GL hc1 hc2 hcs T (fun _ => rfl) (fun _ => rfl) rfl (gRr_call d _ 1 1 (by decide)) (by simp only [List.map, gR_cat, gI_cat, gL_cat, List.sum_cons, List.sum_nil]; decide) (g_zz d 1) rfl (fun v X1 M1 h => ?_) (fun a X1 M1 h => ?_)
  · rcases h with ⟨v1, e1, g1, w2, ws, kk⟩ | ⟨b, q, -, e1, -⟩
    · cases e1
      refine wp_st (st' := [gI v1, gI 0, gR G w]) rfl ?_
      refine xi2l d_Lw_reference_10 (w32_id g1) ?_
      refine xlast d_Lw_reference_11 hw1 w2 ws (by decide) ⟨by decide, by decide⟩ (w64_id (g64_32 g1)) ?_
      refine wp_goto (tgt := 23) d_Lw_reference_12 (by decide) ?_
      refine wp_iconst d_Lw_reference_23 ?_
      exact wp_ireturn d_Lw_reference_24 rfl (fun _ => rfl) (g_zz d 1).1 (g_zz d 1).2 kk
    · cases e1
  · rcases h with ⟨v1, e1, -⟩ | ⟨b, q, hq, e1, b1, b2, bs, kk⟩
    · cases e1
    · obtain rfl := Outcome.threw.inj e1
      simp only [List.mem_cons, List.not_mem_nil, or_false] at hq
      rcases hq with rfl | rfl
      · refine ⟨b, 13, "java/lang/IllegalArgumentException", gT_E, 0, [], (0, 12, 15, 19), [(0, 12, 19, 53)], rfl, b1, b2, bs, rfl, rfl, (fun q hq => by cases hq), ⟨by decide, by decide⟩, by decide, cl_Lw_19, cs_jIae, ?_⟩
        refine wp_astore (L' := [.val (gR G c), .val (gI x1), .val (gI x2), .val (gI x3), .val (gR G w), .val (gR G b)]) d_Lw_reference_15 (g_nz b1) (by decide) (gS1_R rfl rfl) ?_
        refine wp_iconst d_Lw_reference_17 ?_
        exact wp_ireturn d_Lw_reference_18 rfl (fun _ => rfl) (g_zz d 1).1 (g_zz d 1).2 kk
      · refine ⟨b, 15, "java/util/NoSuchElementException", gT_E, 0, [(0, 12, 15, 19)], (0, 12, 19, 53), [], rfl, b1, b2, bs, rfl, rfl, (fun q hq => by obtain rfl := List.mem_singleton.mp hq; exact ⟨by decide, _, cl_Lw_19, List.mem_append_left _ (List.mem_of_getElem? (i := 3) rfl)⟩), ⟨by decide, by decide⟩, by decide, cl_Lw_53, cs_jNse, ?_⟩
        refine wp_astore (L' := [.val (gR G c), .val (gI x1), .val (gI x2), .val (gI x3), .val (gR G w), .val (gR G b)]) d_Lw_reference_19 (g_nz b1) (by decide) (gS1_R rfl rfl) ?_
        refine wp_iconst d_Lw_reference_21 ?_
        exact wp_ireturn d_Lw_reference_22 rfl (fun _ => rfl) (g_zz d 1).1 (g_zz d 1).2 kk
theorem cw_Lw_changed : Cond.codeWith y_Lw_changed.1 y_Lw_changed.2.1 y_Lw_changed.2.2.1 y_Lw_changed.2.2.2 tb_Lw_changed ∈ gTb := (tc_6 (List.mem_of_getElem? (i := 137) rfl) rfl)
theorem d_Lw_changed_0 : decode method_15_code 0 = .ok (.aload_n 2, 1) := by decide +kernel
theorem d_Lw_changed_1 : decode method_15_code 1 = .ok (.iconst 0, 1) := by decide +kernel
theorem d_Lw_changed_2 : decode method_15_code 2 = .ok (.aload_n 0, 1) := by decide +kernel
theorem d_Lw_changed_3 : decode method_15_code 3 = .ok (.iload_n 1, 1) := by decide +kernel
theorem d_Lw_changed_4 : decode method_15_code 4 = .ok (.invokevirtual 61, 3) := by decide +kernel
theorem d_Lw_changed_7 : decode method_15_code 7 = .ok (.i2l, 1) := by decide +kernel
theorem d_Lw_changed_8 : decode method_15_code 8 = .ok (.lastore, 1) := by decide +kernel
theorem d_Lw_changed_9 : decode method_15_code 9 = .ok (.goto 6, 3) := by decide +kernel
theorem d_Lw_changed_12 : decode method_15_code 12 = .ok (.astore_n 3, 1) := by decide +kernel
theorem d_Lw_changed_13 : decode method_15_code 13 = .ok (.iconst 1, 1) := by decide +kernel
theorem d_Lw_changed_14 : decode method_15_code 14 = .ok (.ireturn, 1) := by decide +kernel
theorem d_Lw_changed_15 : decode method_15_code 15 = .ok (.iconst 0, 1) := by decide +kernel
theorem d_Lw_changed_16 : decode method_15_code 16 = .ok (.ireturn, 1) := by decide +kernel
set_option maxHeartbeats 4000000 in
theorem h_Lw_changed {l : Launch} {G : gG} {d : Nat} {X : gX} {M : gM} {K : Outcome → gX → gM → Prop} (hok : gOk l G) {c w : Nat} {x1 : Int} (hc1 : 1 ≤ c) (hc2 : c ≤ X.1) (hcs : X.2.1 c = (6, 12)) (hw1 : 1 ≤ w) (T : gCt l G y_GL_changed (gRr d 1) false [gR G c, gI x1] X M (gHr G K w [(21, 1)])) : gCh l G y_Lw_changed tb_Lw_changed (gRr (d + 1) 1) true [gR G c, gI x1, gR G w] X M K := by
  refine gCh.of rfl (plainFor_of_name rfl) (by simp only [lg_sl_R, lg_sl_I, lg_sl_L, lg_sl_N, List.length_cons, List.length_nil]; decide) ?_
  unfold gEn
  simp only [lg_sl_R, lg_sl_I, lg_sl_L, lg_sl_N]
  refine wpt (L' := [.val (gR G c), .val (gI x1), .val (gR G w), .unset]) ?_ (And.intro rfl (And.intro rfl (And.intro rfl True.intro)))
  refine wp_aload_n d_Lw_changed_0 rfl rfl (g_nz hw1) ?_
  refine wp_iconst d_Lw_changed_1 ?_
  refine wp_aload_n d_Lw_changed_2 rfl rfl (g_nz hc1) ?_
  refine wp_iload_n d_Lw_changed_3 rfl rfl ?_
  refine wp_callVC (tb := tb_Lw_changed) (rm' := gRr d 1) hok cw_Lw_changed (As := [gI x1]) (st := [gI 0, gR G w]) (md' := true) d_Lw_changed_4 ca_GL_changed ml_Lw_61 im_GL_changed se_GL_changed gc_GL hc1 hc2 hcs T (fun _ => rfl) (fun _ => rfl) rfl (gRr_call d _ 1 1 (by decide)) (by simp only [List.map, gR_cat, gI_cat, gL_cat, List.sum_cons, List.sum_nil]; decide) (g_zz d 1) rfl (fun v X1 M1 h => ?_) (fun a X1 M1 h => ?_)
  · rcases h with ⟨v1, e1, g1, w2, ws, kk⟩ | ⟨b, q, -, e1, -⟩
    · cases e1
      refine wp_st (st' := [gI v1, gI 0, gR G w]) rfl ?_
      refine xi2l d_Lw_changed_7 (w32_id g1) ?_
      refine xlast d_Lw_changed_8 hw1 w2 ws (by decide) ⟨by decide, by decide⟩ (w64_id (g64_32 g1)) ?_
      refine wp_goto (tgt := 15) d_Lw_changed_9 (by decide) ?_
      refine wp_iconst d_Lw_changed_15 ?_
      exact wp_ireturn d_Lw_changed_16 rfl (fun _ => rfl) (g_zz d 1).1 (g_zz d 1).2 kk
    · cases e1
  · rcases h with ⟨v1, e1, -⟩ | ⟨b, q, hq, e1, b1, b2, bs, kk⟩
    · cases e1
    · obtain rfl := Outcome.threw.inj e1
      simp only [List.mem_cons, List.not_mem_nil, or_false] at hq
      rcases hq with rfl
      · refine ⟨b, 15, "java/util/NoSuchElementException", gT_E, 0, [], (0, 9, 12, 53), [], rfl, b1, b2, bs, rfl, rfl, (fun q hq => by cases hq), ⟨by decide, by decide⟩, by decide, cl_Lw_53, cs_jNse, ?_⟩
        refine wp_astore_n (L' := [.val (gR G c), .val (gI x1), .val (gR G w), .val (gR G b)]) d_Lw_changed_12 rfl (g_nz b1) (by decide) (gS1_R rfl rfl) ?_
        refine wp_iconst d_Lw_changed_13 ?_
        exact wp_ireturn d_Lw_changed_14 rfl (fun _ => rfl) (g_zz d 1).1 (g_zz d 1).2 kk
