/-! The law's loop, from the fresh objects on. -/
theorem gInv.mono {X : gX} {M : gM} {c o w n n2 : Nat} (h : gInv X M c o w n) (hn : n ≤ n2) : gInv X M c o w n2 := by
  obtain ⟨Rg, v, b, u, u1, T, er, nw, lt, ed, S, ch, cl, hC, hM, hy, hz⟩ := h
  exact ⟨Rg, v, b, u, u1, T, er, nw, lt, ed, S, ch, cl, hC.mono hn, hM.mono hn, hy, hz⟩
theorem gvP_0 : gvP ((0, 0, []) : gVl) := ⟨⟨by decide, by decide, g64_c rfl, fun y => absurd y (by decide), fun _ => rfl, fun _ => rfl, fun y => absurd y (by decide), fun y => absurd y (by decide), fun b hb => absurd hb (List.not_mem_nil)⟩, by decide⟩
theorem gM1_11 : gM1 (1 + 2) 11 = 1 := by
  unfold gM1
  rw [gFl_a (by decide), gUp_eq]
def gRg0 (c i : Nat) : Nat := c + 24 + 5 * i
/-- fresh objects -/
theorem gInv_0 {X : gX} {M : gM} {c o w : Nat} (h : gLf X M c o w) (h11 : M (c + 2) 11 = 1) : gInv X M c o w 0 := by
  obtain ⟨⟨hX, hr, h7, h4, h5, h6, _, _⟩, hm, hw, hl, z0, zo, hz⟩ := h
  have c1 := hX.1
  have en : ∀ p, ¬ gnE (fun _ => none) p := fun p y => y rfl
  have cn : ∀ m, gCn (gnE (fun _ => none)) m = 0 := gCn_0 en
  have fo : ∀ p, ¬ gFo (fun _ => none) p := fun p ⟨S, tg, e, _⟩ => nomatch e
  have sp : ∀ m, gSp (fun _ => none) m = 0 := by
    intro m
    induction m with
    | zero => rfl
    | succ m ih => rw [gSp_x, ih]; rfl
  have zz : ∀ a k, a ≤ 1167 ∧ a ≠ 2 ∧ a ≠ 235 → M (c + a) k = 0 := fun a k ha => z0.z a k ha
  have ok : gSok (fun _ => none) := fun p S tg e => nomatch e
  have at4 : ∀ p, gAt (fun _ => none) p = 400 := fun p => if_neg (en p)
  have ew : ∀ q : Int, gEw (fun _ => none) (fun _ => ((0, 0, []) : gVl)) q = (0, 0, []) := fun q => rfl
  have vt : ∀ a : Nat, (237 ≤ a ∧ a + 404 ≤ 1046) → gvT M (c + a) (fun _ => ((0, 0, []) : gVl)) := fun a ha k hk => ⟨⟨by rw [show c + a + 1 = c + (a + 1) by omega]; exact zz _ _ (by omega), by rw [show c + a + 2 = c + (a + 2) by omega]; exact zz _ _ (by omega), rfl⟩, gvP_0⟩
  have rg : ∀ i, gRg0 c i = c + 24 + 5 * i := fun _ => rfl
  refine ⟨gRg0 c, c + 237, c + 642, fun _ => (0, 0, []), fun _ => (0, 0, []), fun _ _ => none, 0, 0, 0, 0, [], 0, fun _ => 0, ?_, ?_, ⟨hw, hl.1, hl.2⟩, hz⟩
  · refine ⟨hX, ⟨fun i hi => (hr i hi).1, h7.1.trans (by have := rg 41; omega), fun i hi => ⟨?_, by have := rg i; omega, by have := rg i; omega⟩, fun i j hi hj hij => by have := rg i; have := rg j; omega⟩, ⟨zz 0 8 (by decide), zz 0 9 (by decide), zz 0 10 (by decide), zz 0 11 (by decide)⟩, fun t _ _ => ?_, fun i hi => ?_, ?_, ⟨1, 0, 0, 0, h11, z0.1 2 12 (by decide) (by decide) (by decide), z0.1 2 13 (by decide) (by decide) (by decide), z0.1 2 14 (by decide) (by decide) (by decide), by decide, by decide, zz 3 0 (by decide), zz 6 0 (by decide), zz 7 0 (by decide)⟩, ⟨zz 0 1 (by decide), fun j hj => absurd hj (Nat.not_lt_zero _), by decide⟩, ⟨zz 234 7 (by decide), by decide, fun i hi => absurd hi (Nat.not_lt_zero _)⟩, ⟨Nat.le_refl _, Nat.le_refl _, by decide, Nat.le_refl _, fun t _ _ => ok⟩, Nat.le_refl _⟩
    · rw [rg]
      by_cases e : i < 41
      · exact (hr i e).2
      · rw [show c + 24 + 5 * i = c + 229 by omega]
        exact h7.2
    · have et : t % 41 < 41 := by omega
      rw [rg]
      refine ⟨?_, by rw [cn]; decide, by rw [sp]; decide, fun p _ => ?_, fun p _ S tg e => nomatch e⟩
      · rw [cn, show c + 24 + 5 * (t % 41) = c + (24 + 5 * (t % 41)) by omega]; exact zz _ _ (by omega)
      · rw [cn, sp, show c + 24 + 5 * (t % 41) + 3 = c + (27 + 5 * (t % 41)) by omega]; exact zz _ _ (by omega)
    · rw [rg, show c + 24 + 5 * i + 3 = c + (27 + 5 * i) by omega]; exact zz _ _ (by omega)
    · rw [show gRg0 c (0 % 41) = c + 24 from rfl]
      refine ⟨h4, h5, ⟨h6, (hr 0 (by decide)).2⟩, by omega, by omega, by omega, by omega, fun p hp => by rw [at4]; exact z0.2 p hp, vt 237 (by decide), vt 642 (by decide), rfl, rfl, fun p _ => ⟨fun _ => rfl, fun S tg e => nomatch e⟩, ⟨fun a ha k _ => by rw [zz a k (by omega)]; decide, fun k _ => Or.inl (zz 1054 k (by decide))⟩, zz 1047 11 (by decide), fun e _ => zz 1054 e (by decide)⟩
  · have ze : ∀ a j, 1 ≤ a → a ≤ 46 → a ≠ 41 → M (o + a) j = 0 := zo.1
    refine ⟨hm, ⟨zo.2 35, zo.2 36, zo.2 37, zo.2 70⟩, fun t _ _ => ⟨by omega, fun p _ => ⟨fun _ => ze 19 _ (by decide) (by decide) (by decide), fun S tg e => nomatch e⟩, by rw [ze 25 _ (by decide) (by decide) (by decide)]; decide, by rw [ze 25 _ (by decide) (by decide) (by decide)]; decide⟩, ⟨fun p _ => ⟨gvP_0, ze 26 _ (by decide) (by decide) (by decide), ze 27 _ (by decide) (by decide) (by decide), by rw [ze 30 _ (by decide) (by decide) (by decide)]; rfl, rfl⟩, by rw [zo.2 66, gCn_0 fo]; rfl, by rw [zo.2 65, gCn_0 (fun p y => fo p y.1)]; rfl, zo.2 69, fun i hi => absurd hi (Nat.not_lt_zero _)⟩, ⟨0, 0, 0, 0, zo.2 2, zo.2 9, zo.2 13, zo.2 17, by decide, by decide, by decide, by decide⟩, ⟨zo.2 72, fun j hj => absurd hj (Nat.not_lt_zero _), by decide⟩⟩
section ghB
variable {l : Launch} {G : gG} {Q : gQ} {b Ls : Nat} {xs : Nat → Int}
theorem v_loop {c o w : Nat} (hok : gOk l G) (hO : gOld G Q) (hscr : ∀ U, gSP G U → va_T .int b Ls (fun j => gI (xs j)) (gA G true) U U.heap) (hLs : Ls ≤ 3584) (hxs : ∀ j, g32 (xs j)) : ∀ (u n : Nat) (X : gX) (M : gM) (cs ss : Nat), n + u = Ls / 7 → gInv X M c o w n → (cs + (u + 1) ≤ room_1.cells ∧ ss + 6 * (u + 1) ≤ room_1.slots) → wp l G y_Lw_law room_1 true gK1 true 23 [.val (.ref b), .val (gR G c), .val (gR G o), .val (gR G w), .val (gI ((7 * n : Nat) : Int)), .unset, .unset, .unset] [] X M cs ss := by
  have gl : g32 (Ls : Int) := by unfold g32; omega
  intro u
  induction u with
  | zero =>
    intro n X M cs ss hu hI hk
    obtain ⟨Rg, v, b2, u, u1, T, er, nw, lt, ed, S, ch, cl, hC, hM, hy, hz⟩ := hI
    refine w_Lw_law_23 hscr gl (by omega) hxs (hy.lw hC.1 hM.1) ⟨by omega, by omega⟩ (by unfold g32; omega) ⟨fun _ => rfl, fun h => absurd ?_ h⟩
    rw [w32_id (by unfold g32; omega)]
    omega
  | succ u ih =>
    intro n X M cs ss hu hI hk
    have hL : gLw X c o w := by
      obtain ⟨Rg, v, b2, u, u1, T, er, nw, lt, ed, S, ch, cl, hC, hM, hy, hz⟩ := hI
      exact hy.lw hC.1 hM.1
    have rest : ∀ cs' ss', cs' + (u + 1) ≤ room_1.cells ∧ ss' + 6 * (u + 1) ≤ room_1.slots → gRv l G gK1 b c o w cs' ss' n (7 * n) := by
      intro cs' ss' hk' X' M' I'
      have hL' : gLw X' c o w := by
        obtain ⟨Rg, v, b2, u, u1, T, er, nw, lt, ed, S, ch, cl, hC, hM, hy, hz⟩ := I'
        exact hy.lw hC.1 hM.1
      refine w_Lw_law_1138 hscr gl (by omega) hxs hL' ⟨by omega, by omega⟩ (by unfold g32; omega) ?_
      rw [w32_id (x := ((7 * n : Nat) : Int) + 7) (by unfold g32; omega), show ((7 * n : Nat) : Int) + 7 = ((7 * (n + 1) : Nat) : Int) by omega]
      exact ih (n + 1) X' M' cs' ss' (by omega) I' hk'
    have P : gPv l G Q X M gK1 b Ls xs c o w cs ss n (7 * n) := ⟨hok, hO, hI, hscr, ⟨by omega, hLs, by omega⟩, hxs, ⟨by omega, by omega⟩, rest _ _ ⟨by omega, by omega⟩, rest _ _ ⟨by omega, by omega⟩⟩
    exact w_Lw_law_23 hscr gl (by omega) hxs hL ⟨by omega, by omega⟩ (by unfold g32; omega) ⟨fun _ => rfl, fun _ => ⟨⟨by omega, by omega⟩, fun _ => v_112 P, fun _ => v_216 P, fun _ => v_272 P, fun _ => v_340 P, fun _ => v_458 P, fun _ => v_554 P, fun _ => v_650 P, fun _ => v_694 P, fun _ => v_738 P, fun _ => v_817 P, fun _ => v_897 P, fun _ => v_977 P, fun _ => v_1057 P, fun _ => v_1113 P, fun _ => rest _ _ ⟨by omega, by omega⟩ _ _ (hI.mono (Nat.le_succ n))⟩⟩
set_option maxRecDepth 100000 in
set_option maxHeartbeats 4000000 in
theorem v_entry (hok : gOk l G) (hO : gOld G Q) (hscr : ∀ U, gSP G U → va_T .int b Ls (fun j => gI (xs j)) (gA G true) U U.heap) (hLs : Ls ≤ 3584) (hxs : ∀ j, g32 (xs j)) : wp l G y_Lw_law room_1 true gK1 false 0 [.val (.ref b), .unset, .unset, .unset, .unset, .unset, .unset, .unset] [] gX0 (fun _ _ => 0) 0 0 := by
  have z0 : gFr gX0 (fun _ _ => 0) := fun _ _ _ => rfl
  refine wp_mkO (md := false) d_Lw_law_0 d_Lw_law_3 gc_GL cl_Lw_8 it_GL ii_GL (by decide) (by decide) z0 ?_
  change wp l G y_Lw_law room_1 true gK1 true 4 [.val (.ref b), .unset, .unset, .unset, .unset, .unset, .unset, .unset] [gR G 1, gR G 1] (gNw gX0 (6, 12)) (fun _ _ => 0) 1 12
  refine wp_callI (z := y_GL_init) (b := 1) (As := []) (st := [gR G 1]) (md' := true) (rm' := gRk 4 1167 1019806) d_Lw_law_4 ca_GL_init rfl ml_Lw_64 im_GL_init rfl (by decide) (c_GL_init (d := 0) (c := 1) (K := fun o X' M' => o = .returned none ∧ X'.1 = 1168 ∧ gNew X' 1 ∧ M' = gM1) hok (by decide) rfl rfl (z0.nw _) (fun X' f1 hN _ => ⟨rfl, f1, hN, rfl⟩)) (fun o X' M' h => ⟨none, h.1⟩) (fun _ => rfl) (fun _ => rfl) rfl ⟨by decide, by decide⟩ (by simp only [List.map, gR_cat, List.sum_cons, List.sum_nil]; decide) ⟨by decide, by decide⟩ rfl (fun v X1 M1 h => ?_)
  obtain ⟨e0, f1, hN, rfl⟩ := h
  cases e0
  change wp l G y_Lw_law room_1 true gK1 true 7 [.val (.ref b), .unset, .unset, .unset, .unset, .unset, .unset, .unset] [gR G 1] X1 gM1 1168 1019818
  refine wp_astore_n (L' := [.val (.ref b), .val (gR G 1), .unset, .unset, .unset, .unset, .unset, .unset]) d_Lw_law_7 rfl (by decide) (by decide) rfl ?_
  have z1 : gFr X1 gM1 := fun a j h => gM1_o (by omega) j
  refine wp_mkO d_Lw_law_8 d_Lw_law_11 gc_GM cl_Lw_65 it_GM ii_GM (by decide) (by decide) z1 ?_
  rw [f1]
  change wp l G y_Lw_law room_1 true gK1 true 12 [.val (.ref b), .val (gR G 1), .unset, .unset, .unset, .unset, .unset, .unset] [gR G 1169, gR G 1169] (gNw X1 (7, 73)) gM1 1169 1019891
  refine wp_callI (z := y_GM_init) (b := 1169) (As := []) (st := [gR G 1169]) (md' := true) (rm' := gRk 1 46 3452352) d_Lw_law_12 ca_GM_init rfl ml_Lw_67 im_GM_init rfl (by decide) (c_GM_init (d := 0) (o := 1169) (K := fun o X' M' => o = .returned none ∧ X'.1 = 1215 ∧ gmX X' 1169 ∧ gNew X' 1 ∧ M' = gM1) (by decide) (by show X1.1 + 1 = 1169; omega) (by rw [show 1169 = X1.1 + 1 by omega]; exact gNw_n X1 _) (z1.nw _) (fun X' f2 hm hg _ => ⟨rfl, f2, hm, hN.grow (a := 1169) ((gGw.nw X1 1169 (7, 73)).tr hg) (by decide), rfl⟩)) (fun o X' M' h => ⟨none, h.1⟩) (fun _ => rfl) (fun _ => rfl) rfl ⟨by decide, by decide⟩ (by simp only [List.map, gR_cat, List.sum_cons, List.sum_nil]; decide) ⟨by decide, by decide⟩ rfl (fun v X2 M2 h => ?_)
  obtain ⟨e0, f2, hm, hN2, rfl⟩ := h
  cases e0
  change wp l G y_Lw_law room_1 true gK1 true 15 [.val (.ref b), .val (gR G 1), .unset, .unset, .unset, .unset, .unset, .unset] [gR G 1169] X2 gM1 1215 4472243
  refine wp_astore_n (L' := [.val (.ref b), .val (gR G 1), .val (gR G 1169), .unset, .unset, .unset, .unset, .unset]) d_Lw_law_15 rfl (by decide) (by decide) (gS1_R rfl rfl) ?_
  refine wp_iconst d_Lw_law_16 ?_
  have z2 : gFr X2 gM1 := fun a j h => gM1_o (by omega) j
  refine wp_newarray (N := 1) (t := 1) d_Lw_law_17 (by decide) rfl ac_1 rfl (by decide) (by decide) (by decide) ?_
  rw [gZr_id z2, f2]
  change wp l G y_Lw_law room_1 true gK1 true 19 [.val (.ref b), .val (gR G 1), .val (gR G 1169), .unset, .unset, .unset, .unset, .unset] [gR G 1216] (gNw X2 (1, 1)) gM1 1216 4472244
  refine wp_astore_n (L' := [.val (.ref b), .val (gR G 1), .val (gR G 1169), .val (gR G 1216), .unset, .unset, .unset, .unset]) d_Lw_law_19 rfl (by decide) (by decide) (gS1_R rfl rfl) ?_
  refine wp_iconst d_Lw_law_20 ?_
  refine wp_istore (L' := [.val (.ref b), .val (gR G 1), .val (gR G 1169), .val (gR G 1216), .val (gI 0), .unset, .unset, .unset]) d_Lw_law_21 (by decide) (gS1_R rfl rfl) ?_
  have lf : gLf (gNw X2 (1, 1)) gM1 1 1169 1216 := ⟨hN2.grow (a := 1216) (gGw.nw X2 1216 (1, 1)) (by decide), hm.grow (gGw.nw X2 0 (1, 1)) (by decide), ⟨by decide, by show 1216 ≤ X2.1 + 1; omega, by rw [show 1216 = X2.1 + 1 by omega]; exact gNw_n X2 _⟩, ⟨by decide, by decide⟩, gM1_0, ⟨fun a j h1 _ _ => gM1_o (by omega) j, fun j => gM1_o (by decide) j⟩, z2.nw _⟩
  have l5 : Ls / 7 ≤ 512 := by omega
  have r1 : 1216 + (Ls / 7 + 1) ≤ room_1.cells := by
    show 1216 + (Ls / 7 + 1) ≤ 132966
    omega
  have r2 : 4472244 + 6 * (Ls / 7 + 1) ≤ room_1.slots := by
    show 4472244 + 6 * (Ls / 7 + 1) ≤ 8697208
    omega
  exact v_loop hok hO hscr hLs hxs (Ls / 7) 0 _ _ 1216 4472244 (Nat.zero_add _) (gInv_0 lf gM1_11) ⟨r1, r2⟩
end ghB
