/-! The law from its entry, on scripts of at most one call. Written by wip/whole/gen_entry.py. -/
theorem cl_Lw_8 : (Cond.classLink "GridLedgerLaw" (8 : Nat) "GridLedger") ∈ gTb := (tc_1 (List.mem_of_getElem? (i := 31) rfl) rfl)
theorem it_GL : (Cond.instantiable "GridLedger" (12 : Nat)) ∈ gTb := (tc_1 (List.mem_of_getElem? (i := 32) rfl) rfl)
theorem ii_GL : (Cond.initialized "GridLedger") ∈ gTb := (tc_1 (List.mem_of_getElem? (i := 1) rfl) rfl)
theorem ml_Lw_64 : (Cond.methodLink "GridLedgerLaw" (64 : Nat) ({ cls := "GridLedger", name := "<init>", desc := "()V" } : MethodName)) ∈ gTb := (tc_1 (List.mem_of_getElem? (i := 33) rfl) rfl)
theorem im_GL_init : (Cond.instanceMethod ({ cls := "GridLedger", name := "<init>", desc := "()V" } : MethodName)) ∈ gTb := (tc_1 (List.mem_of_getElem? (i := 34) rfl) rfl)
theorem cl_Lw_65 : (Cond.classLink "GridLedgerLaw" (65 : Nat) "GridLedgerModel") ∈ gTb := (tc_6 (List.mem_of_getElem? (i := 142) rfl) rfl)
theorem it_GM : (Cond.instantiable "GridLedgerModel" (73 : Nat)) ∈ gTb := (tc_6 (List.mem_of_getElem? (i := 143) rfl) rfl)
theorem ii_GM : (Cond.initialized "GridLedgerModel") ∈ gTb := (tc_1 (List.mem_of_getElem? (i := 12) rfl) rfl)
theorem ml_Lw_67 : (Cond.methodLink "GridLedgerLaw" (67 : Nat) ({ cls := "GridLedgerModel", name := "<init>", desc := "()V" } : MethodName)) ∈ gTb := (tc_6 (List.mem_of_getElem? (i := 144) rfl) rfl)
theorem im_GM_init : (Cond.instanceMethod ({ cls := "GridLedgerModel", name := "<init>", desc := "()V" } : MethodName)) ∈ gTb := (tc_6 (List.mem_of_getElem? (i := 145) rfl) rfl)
theorem ca_GL_init : gCal y_GL_init 0 := ⟨(tc_1 (List.mem_of_getElem? (i := 35) rfl) rfl), (tc_1 (List.mem_of_getElem? (i := 1) rfl) rfl), by decide, by decide, by decide +kernel⟩
theorem ca_GM_init : gCal y_GM_init 0 := ⟨(tc_6 (List.mem_of_getElem? (i := 146) rfl) rfl), (tc_1 (List.mem_of_getElem? (i := 12) rfl) rfl), by decide, by decide, by decide +kernel⟩
theorem d_Lw_law_0 : decode code 0 = .ok (.new 8, 3) := by decide +kernel
theorem d_Lw_law_3 : decode code 3 = .ok (.dup, 1) := by decide +kernel
theorem d_Lw_law_4 : decode code 4 = .ok (.invokespecial 64, 3) := by decide +kernel
theorem d_Lw_law_7 : decode code 7 = .ok (.astore_n 1, 1) := by decide +kernel
theorem d_Lw_law_8 : decode code 8 = .ok (.new 65, 3) := by decide +kernel
theorem d_Lw_law_11 : decode code 11 = .ok (.dup, 1) := by decide +kernel
theorem d_Lw_law_12 : decode code 12 = .ok (.invokespecial 67, 3) := by decide +kernel
theorem d_Lw_law_15 : decode code 15 = .ok (.astore_n 2, 1) := by decide +kernel
theorem d_Lw_law_16 : decode code 16 = .ok (.iconst 1, 1) := by decide +kernel
theorem d_Lw_law_17 : decode code 17 = .ok (.newarray .long, 2) := by decide +kernel
theorem d_Lw_law_19 : decode code 19 = .ok (.astore_n 3, 1) := by decide +kernel
theorem d_Lw_law_20 : decode code 20 = .ok (.iconst 0, 1) := by decide +kernel
theorem d_Lw_law_21 : decode code 21 = .ok (.istore 4, 2) := by decide +kernel
theorem glTab_b : ∀ q ∈ glTab, q.1 ≤ 1167 := by decide +kernel
theorem glSh_b : ∀ q ∈ glSh, q.1 ≤ 1167 := by decide +kernel
theorem gNew.grow {X X' : gX} {c a : Nat} (h : gNew X c) (g : gGw X X' a) (ha : c + 1167 < a) : gNew X' c := by
  have lx : ∀ i, i ≤ 1167 → c + i ≤ X.1 := fun i hi => gl_2 h.1 hi
  refine ⟨⟨h.1.1, Nat.le_trans h.1.2.1 g.1, fun q hq => (g.2.2 _ _ (lx _ (glTab_b q hq)) (by have := glTab_b q hq; omega)).trans (h.1.2.2.1 q hq), fun q hq => (g.2.1 _ (lx _ (glSh_b q hq))).trans (h.1.2.2.2.1 q hq), h.1.2.2.2.2.grow g (by omega) (by omega)⟩, fun j hj => ⟨(g.2.2 _ _ (lx 23 (by decide)) (by omega)).trans (h.2.1 j hj).1, (h.2.1 j hj).2.grow g (by omega)⟩, ⟨(g.2.2 _ _ (lx 0 (by decide)) (by omega)).trans h.2.2.1.1, h.2.2.1.2.grow g (by omega)⟩, ⟨(g.2.2 _ _ (lx 234 (by decide)) (by omega)).trans h.2.2.2.1.1, h.2.2.2.1.2.grow g (by omega) (by omega)⟩, ⟨(g.2.2 _ _ (lx 234 (by decide)) (by omega)).trans h.2.2.2.2.1.1, h.2.2.2.2.1.2.grow g (by omega) (by omega)⟩, (g.2.2 _ _ (lx 234 (by decide)) (by omega)).trans h.2.2.2.2.2.1, (g.2.2 _ _ (lx 1057 (by decide)) (by omega)).trans h.2.2.2.2.2.2.1, (g.2.2 _ _ (lx 1167 (by decide)) (by omega)).trans h.2.2.2.2.2.2.2⟩
/-- the numbers behind the class's constructor -/
def gM1 : gM := gFl (gUp (fun _ _ => 0) (1 + 2) 11 1) (1 + 235) 0 (fun _ => 400) 5200
theorem gM1_o {a : Nat} (h : 1168 < a) (j : Nat) : gM1 a j = 0 := by
  unfold gM1
  rw [gFl_a (by omega), gUp_a (by omega)]
theorem gM1_0 : gZ0 gM1 1 := by
  refine ⟨fun a k h1 h2 h3 => ?_, fun k hk => ?_⟩
  · unfold gM1
    by_cases e : a = 235
    · subst e
      rw [gFl_out (by omega), gUp_a (by omega)]
    · rw [gFl_a (by omega)]
      unfold gUp
      rw [if_neg (by omega)]
  · unfold gM1
    rw [gFl_in (by omega) (by omega)]
def gX0 : gX := (0, fun _ => (0, 0), fun _ _ => 0)
def gK1 : Outcome → gX → gM → Prop := fun o _ _ => o = .returned (some (gI 1))
section gEntry
variable {l : Launch} {G : gG} {b Ls : Nat} {xs : Nat → Int}
theorem p1_head (hok : gOk l G) {X : gX} {M : gM} {c o w cs ss : Nat} (hF : gLf X M c o w) (hscr : ∀ U, gSP G U → va_T .int b Ls (fun j => gI (xs j)) (gA G true) U U.heap) (hL7 : Ls ≤ 7) (hxs : ∀ j, g32 (xs j)) (hk : cs + 2 ≤ room_1.cells ∧ ss + 12 ≤ room_1.slots) : wp l G y_Lw_law room_1 true gK1 true 23 [.val (.ref b), .val (gR G c), .val (gR G o), .val (gR G w), .val (gI 0), .unset, .unset, .unset] [] X M cs ss := by
  have hL := hF.lw
  have gl : g32 (Ls : Int) := by unfold g32; omega
  have e7 : w32 (0 + 7) = 7 := by rw [Int.zero_add]; exact w32_id (g32_c rfl)
  have rest : ∀ cs' ss', cs' + 1 ≤ room_1.cells ∧ ss' + 6 ≤ room_1.slots → gRst l G gK1 b c o w cs' ss' := fun cs' ss' h' X' M' hL' => by
    refine w_Lw_law_1138 hscr gl (by omega) hxs hL' h' g32_0 ?_
    rw [e7]
    refine w_Lw_law_23 hscr gl (by omega) hxs hL' h' (g32_c rfl) ⟨fun _ => rfl, fun h => absurd ?_ h⟩
    rw [w32_id (by unfold g32; omega)]
    omega
  by_cases h : Ls = 7
  · have P : gPk l G X M gK1 b Ls xs c o w cs ss := ⟨hok, hF, hscr, h, hxs, ⟨by omega, by omega⟩, rest _ _ ⟨by omega, by omega⟩, rest _ _ ⟨by omega, by omega⟩⟩
    refine w_Lw_law_23 hscr gl (by omega) hxs hL ⟨by omega, by omega⟩ g32_0 ⟨fun _ => rfl, fun _ => ⟨⟨by omega, by omega⟩, fun _ => q_112 P, fun _ => q_216 P, fun _ => q_272 P, fun _ => q_340 P, fun _ => q_458 P, fun _ => q_554 P, fun _ => q_650 P, fun _ => q_694 P, fun _ => q_738 P, fun _ => q_817 P, fun _ => q_897 P, fun _ => q_977 P, fun _ => q_1057 P, fun _ => q_1113 P, fun _ => rest _ _ ⟨by omega, by omega⟩ _ _ hL⟩⟩
  · refine w_Lw_law_23 hscr gl (by omega) hxs hL ⟨by omega, by omega⟩ g32_0 ⟨fun _ => rfl, fun h2 => absurd ?_ h2⟩
    rw [w32_id (by unfold g32; omega)]
    omega
set_option maxRecDepth 100000 in
set_option maxHeartbeats 4000000 in
theorem p1_entry (hok : gOk l G) (hscr : ∀ U, gSP G U → va_T .int b Ls (fun j => gI (xs j)) (gA G true) U U.heap) (hL7 : Ls ≤ 7) (hxs : ∀ j, g32 (xs j)) : wp l G y_Lw_law room_1 true gK1 false 0 [.val (.ref b), .unset, .unset, .unset, .unset, .unset, .unset, .unset] [] gX0 (fun _ _ => 0) 0 0 := by
  have z0 : gFr gX0 (fun _ _ => 0) := fun _ _ _ => rfl
  refine wp_mkO (md := false) d_Lw_law_0 d_Lw_law_3 gc_GL cl_Lw_8 it_GL ii_GL (by decide) (by decide) z0 ?_
  change wp l G y_Lw_law room_1 true gK1 true 4 [.val (.ref b), .unset, .unset, .unset, .unset, .unset, .unset, .unset] [gR G 1, gR G 1] (gNw gX0 (6, 12)) (fun _ _ => 0) 1 12
  refine wp_callI (z := y_GL_init) (b := 1) (As := []) (st := [gR G 1]) (md' := true) (rm' := gRk 4 1167 1019806) d_Lw_law_4 ca_GL_init rfl ml_Lw_64 im_GL_init rfl (by decide) (c_GL_init (d := 0) (c := 1) (K := fun o X' M' => o = .returned none ∧ X'.1 = 1168 ∧ gNew X' 1 ∧ M' = gM1) hok (by decide) rfl rfl (z0.nw _) (fun X' f1 hN _ => ⟨rfl, f1, hN, rfl⟩)) (fun o X' M' h => ⟨none, h.1⟩) (fun _ => rfl) (fun _ => rfl) rfl ⟨by decide, by decide⟩ (by simp only [List.map, gR_cat, List.sum_cons, List.sum_nil]; decide) ⟨by decide, by decide⟩ rfl (fun v X1 M1 h => ?_)
  obtain ⟨e0, f1, hN, rfl⟩ := h
  cases e0
  change wp l G y_Lw_law room_1 true gK1 true 7 [.val (.ref b), .unset, .unset, .unset, .unset, .unset, .unset, .unset] [gR G 1] X1 gM1 1168 1019818
  refine wp_astore_n (L' := [.val (.ref b), .val (gR G 1), .unset, .unset, .unset, .unset, .unset, .unset]) d_Lw_law_7 rfl (by decide) (by decide) rfl ?_
  have z1 : gFr X1 gM1 := fun a j h => gM1_o (by omega) j
  refine wp_mkO d_Lw_law_8 d_Lw_law_11 gc_GM cl_Lw_65 it_GM ii_GM (by decide) (by decide) z1 ?_
  rw [f1]
  change wp l G y_Lw_law room_1 true gK1 true 12 [.val (.ref b), .val (gR G 1), .unset, .unset, .unset, .unset, .unset, .unset] [gR G 1169, gR G 1169] (gNw X1 (7, 73)) gM1 1169 1019891
  refine wp_callI (z := y_GM_init) (b := 1169) (As := []) (st := [gR G 1169]) (md' := true) (rm' := gRk 1 46 3452352) d_Lw_law_12 ca_GM_init rfl ml_Lw_67 im_GM_init rfl (by decide) (c_GM_init (d := 0) (o := 1169) (K := fun o X' M' => o = .returned none ∧ X'.1 = 1215 ∧ gmX X' 1169 ∧ gNew X' 1 ∧ M' = gM1) (by decide) (by show X1.1 + 1 = 1169; omega) (by rw [show 1169 = X1.1 + 1 by omega]; exact gNw_n X1 _) (z1.nw _) (fun X' f2 hm hg _ => ⟨rfl, f2, hm, hN.grow (a := 1169) ((gGw.nw X1 1169 (7, 73)).tr hg) (by decide), rfl⟩)) (fun o X' M' h => ⟨none, h.1⟩) (fun _ => rfl) (fun _ => rfl) rfl ⟨by decide, by decide⟩ (by simp only [List.map, gR_cat, List.sum_cons, List.sum_nil]; decide) ⟨by decide, by decide⟩ rfl (fun v X2 M2 h => ?_)
  obtain ⟨e0, f2, hm, hN2, rfl⟩ := h
  cases e0
  change wp l G y_Lw_law room_1 true gK1 true 15 [.val (.ref b), .val (gR G 1), .unset, .unset, .unset, .unset, .unset, .unset] [gR G 1169] X2 gM1 1215 4472243
  refine wp_astore_n (L' := [.val (.ref b), .val (gR G 1), .val (gR G 1169), .unset, .unset, .unset, .unset, .unset]) d_Lw_law_15 rfl (by decide) (by decide) (gS1_R rfl rfl) ?_
  refine wp_iconst d_Lw_law_16 ?_
  have z2 : gFr X2 gM1 := fun a j h => gM1_o (by omega) j
  refine wp_newarray (N := 1) (t := 1) d_Lw_law_17 (by decide) rfl ac_1 rfl (by decide) (by decide) (by decide) ?_
  rw [gZr_id z2, f2]
  change wp l G y_Lw_law room_1 true gK1 true 19 [.val (.ref b), .val (gR G 1), .val (gR G 1169), .unset, .unset, .unset, .unset, .unset] [gR G 1216] (gNw X2 (1, 1)) gM1 1216 4472244
  refine wp_astore_n (L' := [.val (.ref b), .val (gR G 1), .val (gR G 1169), .val (gR G 1216), .unset, .unset, .unset, .unset]) d_Lw_law_19 rfl (by decide) (by decide) (gS1_R rfl rfl) ?_
  refine wp_iconst d_Lw_law_20 ?_
  refine wp_istore (L' := [.val (.ref b), .val (gR G 1), .val (gR G 1169), .val (gR G 1216), .val (gI 0), .unset, .unset, .unset]) d_Lw_law_21 (by decide) (gS1_R rfl rfl) ?_
  refine p1_head (c := 1) (o := 1169) (w := 1216) hok ⟨hN2.grow (a := 1216) (gGw.nw X2 1216 (1, 1)) (by decide), hm.grow (gGw.nw X2 0 (1, 1)) (by decide), ⟨by decide, by show 1216 ≤ X2.1 + 1; omega, by rw [show 1216 = X2.1 + 1 by omega]; exact gNw_n X2 _⟩, ⟨by decide, by decide⟩, gM1_0, ⟨fun a j h1 _ _ => gM1_o (by omega) j, fun j => gM1_o (by decide) j⟩, z2.nw _⟩ hscr hL7 hxs ⟨by decide, by decide⟩
end gEntry
