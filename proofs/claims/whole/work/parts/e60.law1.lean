/-! The law's calls feed, end, put, fill. -/
section ggX
variable {l : Launch} {G : gG} {Q : gQ} {X : gX} {M : gM} {K : Outcome → gX → gM → Prop} {cs ss p Ls c o w n i : Nat} {xs : Nat → Int}
set_option maxRecDepth 100000 in
set_option maxHeartbeats 4000000 in
theorem v_112 (P : gPv l G Q X M K p Ls xs c o w cs ss n i) : wp l G y_Lw_law room_1 true K true 112 [.val (.ref p), .val (gR G c), .val (gR G o), .val (gR G w), .val (gI (i : Int)), .unset, .unset, .unset] [] X M cs ss := by
  obtain ⟨hok, hO, ⟨Rg, v, b, u, u1, T, er, nw, lt, ed, S, ch, cl, hC, hM, hy, hz⟩, hscr, hi, hxs, hk, R1, R0⟩ := P
  have hL := hy.lw hC.1 hM.1
  have bd : ∀ {j : Int}, 0 ≤ j ∧ j < 7 → (0 : Int) ≤ w32 ((i : Int) + j) ∧ w32 ((i : Int) + j) < (Ls : Int) := fun hj => g_bdi ⟨hi.1, hi.2.1⟩ hj
  have b1 := bd (j := 1) (by decide)
  have b2 := bd (j := 2) (by decide)
  have b3 := bd (j := 3) (by decide)
  have b4 := bd (j := 4) (by decide)
  have b5 := bd (j := 5) (by decide)
  refine w_Lw_law_112 hscr (by unfold g32; omega) (by omega) hxs hL hk (by unfold g32; omega) ?_
  refine ⟨b1, b2, b3, b4, b5, h_Lw_feed (d := 699) hok hL.1.1 hL.1.2.1 hL.1.2.2 hL.2.2.1 (c_GLfeed hok (Nat.le_refl 1) hC hz (hxs _) (hxs _) (hxs _) (hxs _) (hxs _) (fun e => ?_) (fun e M1 oC C1 => ?_))⟩
  · obtain ⟨C2, M2', y2, z2, L2⟩ := gMidT (t := 18) (hC.mono (Nat.le_succ n)) hM hy hz (gSm.rf c X) (gOff.rf _ M)
    refine gHr_t (List.mem_of_getElem? (i := 0) rfl) ⟨1, rfl, g32_c rfl, L2, b1, b2, b3, b4, b5, r_GMfeed (d := 699) M2' (hxs _) (hxs _) (hxs _) (hxs _) (hxs _) (fun _ => ?_) (fun e2 => absurd e (by omega))⟩
    obtain ⟨I, _⟩ := gFin C2 y2 z2 (gOff.m0 (gOff.rf _ _)) (M2'.up0.mono (Nat.le_succ n))
    exact law_tl L2 (gUp_eq _ _ _ _) (fun h => absurd h (by decide)) (R1 _ _ I)
  · obtain ⟨C2, M2', y2, z2, L2⟩ := gMidR (x := ((S.length + 20 : Nat) : Int)) C1 hM hy hz (gSm.rf c X) oC
    refine gHr_r ⟨by omega, by omega⟩ L2 ⟨0, rfl, g32_0, L2, b1, b2, b3, b4, b5, r_GMfeed (d := 699) M2' (hxs _) (hxs _) (hxs _) (hxs _) (hxs _) (fun e2 => absurd e (by omega)) (fun _ M3 o3 e3 L3 => ?_)⟩
    obtain ⟨I, ew⟩ := gFin C2 y2 z2 o3 L3
    exact law_tl L2 e3 (fun _ => ew.trans (gUp_eq _ _ _ _)) (R1 _ _ I)
set_option maxRecDepth 100000 in
set_option maxHeartbeats 4000000 in
theorem v_216 (P : gPv l G Q X M K p Ls xs c o w cs ss n i) : wp l G y_Lw_law room_1 true K true 216 [.val (.ref p), .val (gR G c), .val (gR G o), .val (gR G w), .val (gI (i : Int)), .unset, .unset, .unset] [] X M cs ss := by
  obtain ⟨hok, hO, ⟨Rg, v, b, u, u1, T, er, nw, lt, ed, S, ch, cl, hC, hM, hy, hz⟩, hscr, hi, hxs, hk, R1, R0⟩ := P
  have hL := hy.lw hC.1 hM.1
  have l2 := hC.2.2.2.2.2.2.2.1.2.2
  have bd : ∀ {j : Int}, 0 ≤ j ∧ j < 7 → (0 : Int) ≤ w32 ((i : Int) + j) ∧ w32 ((i : Int) + j) < (Ls : Int) := fun hj => g_bdi ⟨hi.1, hi.2.1⟩ hj
  have b1 := bd (j := 1) (by decide)
  refine w_Lw_law_216 hscr (by unfold g32; omega) (by omega) hxs hL hk (by unfold g32; omega) ?_
  refine ⟨b1, h_Lw_end (d := 699) hok hL.1.1 hL.1.2.1 hL.1.2.2 hL.2.2.1 (c_GLend hok (Nat.le_refl 1) hC hz (hxs _) (fun e => ?_) (fun e M1 oC C1 => ?_))⟩
  · obtain ⟨C2, M2', y2, z2, L2⟩ := gMidT (t := 19) (hC.mono (Nat.le_succ n)) hM hy hz (gSm.rf c X) (gOff.rf _ M)
    refine gHr_t (List.mem_of_getElem? (i := 0) rfl) ⟨1, rfl, g32_c rfl, L2, b1, r_GMend (d := 699) M2' (hxs _) (fun _ => ?_) (fun e2 => absurd e2 e)⟩
    obtain ⟨I, _⟩ := gFin C2 y2 z2 (gOff.m0 (gOff.rf _ _)) (M2'.up0.mono (Nat.le_succ n))
    exact law_tl L2 (gUp_eq _ _ _ _) (fun h => absurd h (by decide)) (R1 _ _ I)
  · obtain ⟨C2, M2', y2, z2, L2⟩ := gMidR (x := (S.length : Int) - xs (Int.toNat (w32 ((i : Int) + 1)))) C1 hM hy hz (gSm.rf c X) oC
    refine gHr_r ⟨by omega, by omega⟩ L2 ⟨0, rfl, g32_0, L2, b1, r_GMend (d := 699) M2' (hxs _) (fun e2 => absurd e e2) (fun _ M3 o3 e3 L3 => ?_)⟩
    obtain ⟨I, ew⟩ := gFin C2 y2 z2 o3 L3
    exact law_tl L2 e3 (fun _ => ew.trans (gUp_eq _ _ _ _)) (R1 _ _ I)
set_option maxRecDepth 100000 in
set_option maxHeartbeats 4000000 in
theorem v_272 (P : gPv l G Q X M K p Ls xs c o w cs ss n i) : wp l G y_Lw_law room_1 true K true 272 [.val (.ref p), .val (gR G c), .val (gR G o), .val (gR G w), .val (gI (i : Int)), .unset, .unset, .unset] [] X M cs ss := by
  obtain ⟨hok, hO, ⟨Rg, v, b, u, u1, T, er, nw, lt, ed, S, ch, cl, hC, hM, hy, hz⟩, hscr, hi, hxs, hk, R1, R0⟩ := P
  have hL := hy.lw hC.1 hM.1
  have htl := hC.2.2.2.2.2.2.2.2.2.1
  have hed := hC.2.2.2.2.2.2.2.2.2.2
  have h4 := (hC.2.2.2.1 nw htl.1 htl.2.1).2.1
  have bd : ∀ {j : Int}, 0 ≤ j ∧ j < 7 → (0 : Int) ≤ w32 ((i : Int) + j) ∧ w32 ((i : Int) + j) < (Ls : Int) := fun hj => g_bdi ⟨hi.1, hi.2.1⟩ hj
  have b1 := bd (j := 1) (by decide)
  have b2 := bd (j := 2) (by decide)
  refine w_Lw_law_272 hscr (by unfold g32; omega) (by omega) hxs hL hk (by unfold g32; omega) ?_
  have gx := hxs (Int.toNat (w32 ((i : Int) + 1)))
  have gy := hxs (Int.toNat (w32 ((i : Int) + 2)))
  generalize xs (Int.toNat (w32 ((i : Int) + 1))) = x at gx ⊢
  generalize xs (Int.toNat (w32 ((i : Int) + 2))) = y at gy ⊢
  refine ⟨b1, b2, h_Lw_put (d := 699) hok hL.1.1 hL.1.2.1 hL.1.2.2 hL.2.2.1 (c_GLput hok hO (Nat.le_refl 1) hC hz hi.2.2 gx gy ?_ ?_ ?_)⟩
  · intro bad M1 oC C1
    obtain ⟨C2, M2', y2, z2, L2⟩ := gMidT (t := 19) C1 hM hy hz (gSm.rf c X) oC
    refine gHr_t (List.mem_of_getElem? (i := 0) rfl) ⟨1, rfl, g32_c rfl, L2, b1, b2, ?_⟩
    by_cases hIs : gIs x y
    · obtain ⟨a, d, ea, ed2, ha, hd, _⟩ := gMv_nat hIs
      subst ea
      subst ed2
      have bd2 := bad.resolve_left (fun z => z hIs)
      refine r_GMput (V' := gEw (T nw) u) (ch' := 0) (cl' := cl) hO M2' htl hi.2.2 hed h4 ha hd (fun _ M3 o3 e3 L3 => ?_) (fun nb => absurd bd2 nb) (fun nb => absurd bd2 nb)
      obtain ⟨I, _⟩ := gFin C2 y2 z2 o3 L3
      exact law_tl L2 e3 (fun h => absurd h (by decide)) (R1 _ _ I)
    · refine r_GMputI M2' gx gy hIs (fun M3 o3 e3 L3 => ?_)
      obtain ⟨I, _⟩ := gFin C2 y2 z2 o3 L3
      exact law_tl L2 e3 (fun h => absurd h (by decide)) (R1 _ _ I)
  · intro hIs nb over X1 M1 s1 oC C1
    obtain ⟨a, d, ea, ed2, ha, hd, ep⟩ := gMv_nat hIs
    rw [ep] at over
    subst ea
    subst ed2
    obtain ⟨C2, M2', y2, z2, L2⟩ := gMidT (t := 20) C1 hM hy hz s1 oC
    refine gHr_t (List.mem_of_getElem? (i := 1) rfl) ⟨2, rfl, g32_c rfl, L2, b1, b2, r_GMput (V' := gEw (T nw) u) (ch' := 0) (cl' := cl) hO M2' htl hi.2.2 hed h4 ha hd (fun bd2 => absurd bd2 nb) (fun _ _ M3 o3 e3 L3 => ?_) (fun _ a1 a2 => absurd over (by omega))⟩
    obtain ⟨I, _⟩ := gFin C2 y2 z2 o3 L3
    exact law_tl L2 e3 (fun h => absurd h (by decide)) (R1 _ _ I)
  · intro hIs nb l4 l2 _ X1 M1 Rg' w' ch' cl' s1 oC C1 sh
    obtain ⟨a, d, ea, ed2, ha, hd, ep⟩ := gMv_nat hIs
    rw [ep] at l4 l2 C1 sh
    subst ea
    subst ed2
    have c8 := C1.2.2.2.2.2.2.2.2.1.2.1
    obtain ⟨C2, M2', y2, z2, L2⟩ := gMidR (x := (ch' : Int)) C1 hM hy hz s1 oC
    refine gHr_r ⟨by omega, by omega⟩ L2 ⟨0, rfl, g32_0, L2, b1, b2, r_GMput (V' := gEw (gPut (T nw) (gTyp S) (a + 26 * d)) w') (ch' := ch') (cl' := cl') hO M2' htl hi.2.2 hed h4 ha hd (fun bd2 => absurd bd2 nb) (fun _ over => absurd over (by omega)) (fun _ _ _ => ⟨sh, fun M3 o3 e3 L3 => ?_⟩)⟩
    have tn : gTn T nw (gPut (T nw) (gTyp S) (a + 26 * d)) (nw + 1) = gPut (T nw) (gTyp S) (a + 26 * d) := if_pos rfl
    obtain ⟨I, ew⟩ := gFin C2 y2 z2 o3 (by rw [tn]; exact L3)
    exact law_tl L2 e3 (fun _ => ew.trans (gUp_eq _ _ _ _)) (R1 _ _ I)
set_option maxRecDepth 100000 in
set_option maxHeartbeats 4000000 in
theorem v_340 (P : gPv l G Q X M K p Ls xs c o w cs ss n i) : wp l G y_Lw_law room_1 true K true 340 [.val (.ref p), .val (gR G c), .val (gR G o), .val (gR G w), .val (gI (i : Int)), .unset, .unset, .unset] [] X M cs ss := by
  obtain ⟨hok, hO, ⟨Rg, v, b, u, u1, T, er, nw, lt, ed, S, ch, cl, hC, hM, hy, hz⟩, hscr, hi, hxs, hk, R1, R0⟩ := P
  have hL := hy.lw hC.1 hM.1
  have htl := hC.2.2.2.2.2.2.2.2.2.1
  have hed := hC.2.2.2.2.2.2.2.2.2.2
  have bd : ∀ {j : Int}, 0 ≤ j ∧ j < 7 → (0 : Int) ≤ w32 ((i : Int) + j) ∧ w32 ((i : Int) + j) < (Ls : Int) := fun hj => g_bdi ⟨hi.1, hi.2.1⟩ hj
  have b1 := bd (j := 1) (by decide)
  have b2 := bd (j := 2) (by decide)
  have b3 := bd (j := 3) (by decide)
  have b4 := bd (j := 4) (by decide)
  have b5 := bd (j := 5) (by decide)
  have b6 := bd (j := 6) (by decide)
  refine w_Lw_law_340 hscr (by unfold g32; omega) (by omega) hxs hL hk (by unfold g32; omega) ?_
  have g1 := hxs (Int.toNat (w32 ((i : Int) + 1)))
  have g2 := hxs (Int.toNat (w32 ((i : Int) + 2)))
  have g3 := hxs (Int.toNat (w32 ((i : Int) + 3)))
  have g4 := hxs (Int.toNat (w32 ((i : Int) + 4)))
  have g5 := hxs (Int.toNat (w32 ((i : Int) + 5)))
  have g6 := hxs (Int.toNat (w32 ((i : Int) + 6)))
  generalize xs (Int.toNat (w32 ((i : Int) + 1))) = x1 at g1 ⊢
  generalize xs (Int.toNat (w32 ((i : Int) + 2))) = x2 at g2 ⊢
  generalize xs (Int.toNat (w32 ((i : Int) + 3))) = x3 at g3 ⊢
  generalize xs (Int.toNat (w32 ((i : Int) + 4))) = x4 at g4 ⊢
  generalize xs (Int.toNat (w32 ((i : Int) + 5))) = x5 at g5 ⊢
  generalize xs (Int.toNat (w32 ((i : Int) + 6))) = x6 at g6 ⊢
  refine ⟨b1, b2, b3, b4, b5, b6, h_Lw_fill (d := 699) hok hL.1.1 hL.1.2.1 hL.1.2.2 hL.2.2.1 ?_⟩
  by_cases good : gIs x1 x2 ∧ gIs x3 x4 ∧ gIs x5 x6 ∧ x3 ≤ x5 ∧ x4 ≤ x6
  · obtain ⟨h1, h2, h3, h5, h6⟩ := good
    obtain ⟨x, y, e1, e2, hx, hy2, _⟩ := gMv_nat h1
    obtain ⟨ca, ra, e3, e4, hca, hra, _⟩ := gMv_nat h2
    obtain ⟨da, sa, e5, e6, hda, hsa, _⟩ := gMv_nat h3
    subst e1
    subst e2
    subst e3
    subst e4
    subst e5
    subst e6
    refine c_GLfill hok hO (Nat.le_refl 1) hC hz hi.2.2 hx hy2 ⟨by omega, hda⟩ ⟨by omega, hsa⟩ ?_ ?_
    · intro over X1 M1 s1 oC C1
      obtain ⟨C2, M2', y2, z2, L2⟩ := gMidT (t := 20) C1 hM hy hz s1 oC
      refine gHr_t (List.mem_of_getElem? (i := 1) rfl) ⟨2, rfl, g32_c rfl, L2, b1, b2, b3, b4, b5, b6, r_GMfill (V' := gEw (T nw) u) (ch' := 0) (cl' := cl) hO M2' htl hi.2.2 hed hx hy2 ⟨by omega, hda⟩ ⟨by omega, hsa⟩ (fun _ M3 o3 e3 L3 => ?_) (fun a1 a2 => absurd over (by omega))⟩
      obtain ⟨I, _⟩ := gFin C2 y2 z2 o3 L3
      exact law_tl L2 e3 (fun h => absurd h (by decide)) (R1 _ _ I)
    · intro l4 l2 _ X1 M1 Rg' w' ch' cl' s1 oC C1 sh
      have c8 := C1.2.2.2.2.2.2.2.2.1.2.1
      obtain ⟨C2, M2', y2, z2, L2⟩ := gMidR (x := (ch' : Int)) C1 hM hy hz s1 oC
      refine gHr_r ⟨by omega, by omega⟩ L2 ⟨0, rfl, g32_0, L2, b1, b2, b3, b4, b5, b6, r_GMfill (V' := gEw (gWrt (T nw) (T nw (x + 26 * y)) (x + 26 * y) ca ra da sa) w') (ch' := ch') (cl' := cl') hO M2' htl hi.2.2 hed hx hy2 ⟨by omega, hda⟩ ⟨by omega, hsa⟩ (fun over => absurd over (by omega)) (fun _ _ => ⟨sh, fun M3 o3 e3 L3 => ?_⟩)⟩
      have tn : gTn T nw (gWrt (T nw) (T nw (x + 26 * y)) (x + 26 * y) ca ra da sa) (nw + 1) = gWrt (T nw) (T nw (x + 26 * y)) (x + 26 * y) ca ra da sa := if_pos rfl
      obtain ⟨I, ew⟩ := gFin C2 y2 z2 o3 (by rw [tn]; exact L3)
      exact law_tl L2 e3 (fun _ => ew.trans (gUp_eq _ _ _ _)) (R1 _ _ I)
  · refine c_GLfillB hok (Nat.le_refl 1) hC hz g1 g2 g3 g4 g5 g6 good ?_
    obtain ⟨C2, M2', y2, z2, L2⟩ := gMidT (t := 19) (hC.mono (Nat.le_succ n)) hM hy hz (gSm.rf c X) (gOff.rf _ M)
    refine gHr_t (List.mem_of_getElem? (i := 0) rfl) ⟨1, rfl, g32_c rfl, L2, b1, b2, b3, b4, b5, b6, r_GMfillB M2' g1 g2 g3 g4 g5 g6 good (fun M3 o3 e3 L3 => ?_)⟩
    obtain ⟨I, _⟩ := gFin C2 y2 z2 o3 L3
    exact law_tl L2 e3 (fun h => absurd h (by decide)) (R1 _ _ I)
end ggX
