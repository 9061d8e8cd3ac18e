/-! The law's calls value, letter, content, reference, changed, count. -/
section ggZ
variable {l : Launch} {G : gG} {Q : gQ} {X : gX} {M : gM} {K : Outcome → gX → gM → Prop} {cs ss p Ls c o w n i : Nat} {xs : Nat → Int}
theorem gvP_g {v : gVl} (h : gvP v) : g64 v.kd ∧ g64 v.nm := ⟨⟨by have := h.1.1; omega, by have := h.2; omega⟩, h.1.2.2.1⟩
theorem c_GLchanged {d Nr : Nat} (hl : gOk l G) (hN : 1 ≤ Nr) (hX : glX X c) (hz : gFr X M) {m : Int} (hm : g32 m) (hc : M (c + 234) 7 ≤ 800) (k1 : 0 ≤ m ∧ m < M (c + 234) 7 → g32 (M (c + 236) m.toNat) → K (.returned (some (gI (M (c + 236) m.toNat)))) X M) (k0 : ¬ (0 ≤ m ∧ m < M (c + 234) 7) → K (.threw (G.2.2.1 + (X.1 + 1))) (gNw X (21, 0)) M) : gCt l G y_GL_changed (gRr (d + 8) Nr) false [gR G c, gI m] X M K :=
  eu_GL_changed (u_GL_changed_0 hX hm hl ⟨fun h => ⟨hN, by rw [gZr_id hz]; exact k0 (by omega)⟩, fun h _ => ⟨fun h2 => ⟨by omega, fun g => k1 (by omega) g⟩, fun h2 => ⟨hN, by rw [gZr_id hz]; exact k0 (by omega)⟩⟩⟩)
theorem gSrt_g (S : List Int) : g32 (gSrt S) := by
  rcases gSrt_c S with e | e | e <;> rw [e] <;> exact g32_c rfl
theorem gQcon_g {F : gSht} (hF : gSok F) {q : Nat} {s : Int} : g32 (gQcon F q s) := by
  cases e : F q with
  | none => rw [gQcon_n e]; exact g32_0
  | some y =>
    obtain ⟨S, tg⟩ := y
    have l50 := (gRefs_ok (hF q S tg e).2.1).2
    have hl := (hF q S tg e).2.2.2.2.1
    have cb := gCn_bd (Q := fun i => gTt tg i = -1) tg.length
    rw [gQcon_s e]
    split
    · exact gSrt_g S
    · split
      · exact ⟨by omega, by omega⟩
      · exact ⟨by omega, by omega⟩
set_option maxRecDepth 100000 in
set_option maxHeartbeats 4000000 in
theorem v_738 (P : gPv l G Q X M K p Ls xs c o w cs ss n i) : wp l G y_Lw_law room_1 true K true 738 [.val (.ref p), .val (gR G c), .val (gR G o), .val (gR G w), .val (gI (i : Int)), .unset, .unset, .unset] [] X M cs ss := by
  obtain ⟨hok, hO, ⟨Rg, v, b, u, u1, T, er, nw, lt, ed, S, ch, cl, hC, hM, hy, hz⟩, hscr, hi, hxs, hk, R1, R0⟩ := P
  have hL := hy.lw hC.1 hM.1
  have htl := hC.2.2.2.2.2.2.2.2.2.1
  have hed := hC.2.2.2.2.2.2.2.2.2.2
  have st := hC.2.2.2.1 nw htl.1 htl.2.1
  have bd : ∀ {j : Int}, 0 ≤ j ∧ j < 7 → (0 : Int) ≤ w32 ((i : Int) + j) ∧ w32 ((i : Int) + j) < (Ls : Int) := fun hj => g_bdi ⟨hi.1, hi.2.1⟩ hj
  have b1 := bd (j := 1) (by decide)
  have b2 := bd (j := 2) (by decide)
  have b3 := bd (j := 3) (by decide)
  refine w_Lw_law_738 hscr (by unfold g32; omega) (by omega) hxs hL hk (by unfold g32; omega) ?_
  have g1 := hxs (Int.toNat (w32 ((i : Int) + 1)))
  have g2 := hxs (Int.toNat (w32 ((i : Int) + 2)))
  have g3 := hxs (Int.toNat (w32 ((i : Int) + 3)))
  generalize xs (Int.toNat (w32 ((i : Int) + 1))) = x at g1 ⊢
  generalize xs (Int.toNat (w32 ((i : Int) + 2))) = y at g2 ⊢
  generalize xs (Int.toNat (w32 ((i : Int) + 3))) = s at g3 ⊢
  refine ⟨b1, b2, b3, h_Lw_value (d := 699) hok hL.1.1 hL.1.2.1 hL.1.2.2 hL.2.2.1 (c_GLvalue hok (Nat.le_refl 1) hC hz g1 g2 g3 (fun e => ?_) (fun e => ?_))⟩
  · skip
    obtain ⟨C2, M2', y2, z2, L2⟩ := gMidT (t := 19) (hC.mono (Nat.le_succ n)) hM hy hz (gSm.rf c X) (gOff.rf _ M)
    obtain ⟨I, _⟩ := gFin (M' := gUp M o 0 1) C2 y2 z2 (gOff.m0 (gOff.rf _ _)) (M2'.up0.mono (Nat.le_succ n))
    exact gHl_t (List.mem_of_getElem? (i := 0) rfl) ⟨1, rfl, g32_c rfl, L2, b1, b2, b3, r_GMvalue (d := 699) M2' g1 g2 g3 (fun _ => law_tl L2 (gUp_eq _ _ _ _) (fun h => absurd h (by decide)) (R1 _ _ I)) (fun e2 => absurd e2 e)⟩
  · have hp : (x + 26 * y).toNat < 5200 := by have := e.1; unfold gIs at this; omega
    have vp := gvP_g (hM.2.2.2.1.1 _ hp).1
    have gv : g64 (if s = 0 then (gEw (T nw) u ((x + 26 * y).toNat : Int)).kd else (gEw (T nw) u ((x + 26 * y).toNat : Int)).nm) := by
      split
      · exact vp.1
      · exact vp.2
    generalize ev : (if s = 0 then (gEw (T nw) u ((x + 26 * y).toNat : Int)).kd else (gEw (T nw) u ((x + 26 * y).toNat : Int)).nm) = q at gv ⊢
    obtain ⟨C2, M2', y2, z2, L2⟩ := gMidR (x := q) (hC.mono (Nat.le_succ n)) hM hy hz (gSm.rf c X) (gOff.rf _ M)
    obtain ⟨I, ew⟩ := gFin (M' := gUp (gUp M w 0 (q)) o 0 0) C2 y2 z2 (gOff.m0 (gOff.rf _ _)) (M2'.up0.mono (Nat.le_succ n))
    refine gHl_r gv L2 ⟨0, rfl, g32_0, L2, b1, b2, b3, r_GMvalue (d := 699) M2' g1 g2 g3 (fun e2 => absurd e e2) (fun _ => ?_)⟩
    rw [ev]
    exact law_tl L2 (gUp_eq _ _ _ _) (fun _ => ew.trans (gUp_eq _ _ _ _)) (R1 _ _ I)
set_option maxRecDepth 100000 in
set_option maxHeartbeats 4000000 in
theorem v_817 (P : gPv l G Q X M K p Ls xs c o w cs ss n i) : wp l G y_Lw_law room_1 true K true 817 [.val (.ref p), .val (gR G c), .val (gR G o), .val (gR G w), .val (gI (i : Int)), .unset, .unset, .unset] [] X M cs ss := by
  obtain ⟨hok, hO, ⟨Rg, v, b, u, u1, T, er, nw, lt, ed, S, ch, cl, hC, hM, hy, hz⟩, hscr, hi, hxs, hk, R1, R0⟩ := P
  have hL := hy.lw hC.1 hM.1
  have htl := hC.2.2.2.2.2.2.2.2.2.1
  have hed := hC.2.2.2.2.2.2.2.2.2.2
  have st := hC.2.2.2.1 nw htl.1 htl.2.1
  have bd : ∀ {j : Int}, 0 ≤ j ∧ j < 7 → (0 : Int) ≤ w32 ((i : Int) + j) ∧ w32 ((i : Int) + j) < (Ls : Int) := fun hj => g_bdi ⟨hi.1, hi.2.1⟩ hj
  have b1 := bd (j := 1) (by decide)
  have b2 := bd (j := 2) (by decide)
  have b3 := bd (j := 3) (by decide)
  refine w_Lw_law_817 hscr (by unfold g32; omega) (by omega) hxs hL hk (by unfold g32; omega) ?_
  have g1 := hxs (Int.toNat (w32 ((i : Int) + 1)))
  have g2 := hxs (Int.toNat (w32 ((i : Int) + 2)))
  have g3 := hxs (Int.toNat (w32 ((i : Int) + 3)))
  generalize xs (Int.toNat (w32 ((i : Int) + 1))) = x at g1 ⊢
  generalize xs (Int.toNat (w32 ((i : Int) + 2))) = y at g2 ⊢
  generalize xs (Int.toNat (w32 ((i : Int) + 3))) = s at g3 ⊢
  refine ⟨b1, b2, b3, h_Lw_letter (d := 699) hok hL.1.1 hL.1.2.1 hL.1.2.2 hL.2.2.1 (c_GLletter hok (Nat.le_refl 1) hC hz g1 g2 g3 (fun e => ?_) (fun e e1 => ?_) (fun e e1 => ?_))⟩
  · skip
    obtain ⟨C2, M2', y2, z2, L2⟩ := gMidT (t := 19) (hC.mono (Nat.le_succ n)) hM hy hz (gSm.rf c X) (gOff.rf _ M)
    obtain ⟨I, _⟩ := gFin (M' := gUp M o 0 1) C2 y2 z2 (gOff.m0 (gOff.rf _ _)) (M2'.up0.mono (Nat.le_succ n))
    exact gHr_t (List.mem_of_getElem? (i := 0) rfl) ⟨1, rfl, g32_c rfl, L2, b1, b2, b3, r_GMletter (d := 699) M2' g1 g2 g3 (fun _ => law_tl L2 (gUp_eq _ _ _ _) (fun h => absurd h (by decide)) (R1 _ _ I)) (fun e2 => absurd e2 e) (fun e2 => absurd e2 e)⟩
  · skip
    obtain ⟨C2, M2', y2, z2, L2⟩ := gMidT (t := 21) (hC.mono (Nat.le_succ n)) hM hy hz (gSm.rf c X) (gOff.rf _ M)
    obtain ⟨I, _⟩ := gFin (M' := gUp M o 0 2) C2 y2 z2 (gOff.m0 (gOff.rf _ _)) (M2'.up0.mono (Nat.le_succ n))
    exact gHr_t (List.mem_of_getElem? (i := 1) rfl) ⟨2, rfl, g32_c rfl, L2, b1, b2, b3, r_GMletter (d := 699) M2' g1 g2 g3 (fun e2 => absurd e e2) (fun _ _ => law_tl L2 (gUp_eq _ _ _ _) (fun h => absurd h (by decide)) (R1 _ _ I)) (fun _ e2 => absurd e2 e1)⟩
  · have hp : (x + 26 * y).toNat < 5200 := by have := e; unfold gIs at this; omega
    have vp := (hM.2.2.2.1.1 _ hp).1
    have gv : g32 ((gEw (T nw) u ((x + 26 * y).toNat : Int)).tx.getD s.toNat 0) := by
      have hb := vp.1.2.2.2.2.2.2.2.2
      have hj : s.toNat < (gEw (T nw) u ((x + 26 * y).toNat : Int)).tx.length := by omega
      have := hb ((gEw (T nw) u ((x + 26 * y).toNat : Int)).tx.getD s.toNat 0) (by
        rw [List.getD_eq_getElem?_getD, List.getElem?_eq_getElem hj]
        exact List.getElem_mem _)
      exact ⟨by omega, by omega⟩
    generalize ev : ((gEw (T nw) u ((x + 26 * y).toNat : Int)).tx.getD s.toNat 0) = q at gv ⊢
    obtain ⟨C2, M2', y2, z2, L2⟩ := gMidR (x := q) (hC.mono (Nat.le_succ n)) hM hy hz (gSm.rf c X) (gOff.rf _ M)
    obtain ⟨I, ew⟩ := gFin (M' := gUp (gUp M w 0 (q)) o 0 0) C2 y2 z2 (gOff.m0 (gOff.rf _ _)) (M2'.up0.mono (Nat.le_succ n))
    refine gHr_r gv L2 ⟨0, rfl, g32_0, L2, b1, b2, b3, r_GMletter (d := 699) M2' g1 g2 g3 (fun e2 => absurd e e2) (fun _ e2 => absurd e1 e2) (fun _ _ => ?_)⟩
    rw [ev]
    exact law_tl L2 (gUp_eq _ _ _ _) (fun _ => ew.trans (gUp_eq _ _ _ _)) (R1 _ _ I)
set_option maxRecDepth 100000 in
set_option maxHeartbeats 4000000 in
theorem v_897 (P : gPv l G Q X M K p Ls xs c o w cs ss n i) : wp l G y_Lw_law room_1 true K true 897 [.val (.ref p), .val (gR G c), .val (gR G o), .val (gR G w), .val (gI (i : Int)), .unset, .unset, .unset] [] X M cs ss := by
  obtain ⟨hok, hO, ⟨Rg, v, b, u, u1, T, er, nw, lt, ed, S, ch, cl, hC, hM, hy, hz⟩, hscr, hi, hxs, hk, R1, R0⟩ := P
  have hL := hy.lw hC.1 hM.1
  have htl := hC.2.2.2.2.2.2.2.2.2.1
  have hed := hC.2.2.2.2.2.2.2.2.2.2
  have st := hC.2.2.2.1 nw htl.1 htl.2.1
  have bd : ∀ {j : Int}, 0 ≤ j ∧ j < 7 → (0 : Int) ≤ w32 ((i : Int) + j) ∧ w32 ((i : Int) + j) < (Ls : Int) := fun hj => g_bdi ⟨hi.1, hi.2.1⟩ hj
  have b1 := bd (j := 1) (by decide)
  have b2 := bd (j := 2) (by decide)
  have b3 := bd (j := 3) (by decide)
  refine w_Lw_law_897 hscr (by unfold g32; omega) (by omega) hxs hL hk (by unfold g32; omega) ?_
  have g1 := hxs (Int.toNat (w32 ((i : Int) + 1)))
  have g2 := hxs (Int.toNat (w32 ((i : Int) + 2)))
  have g3 := hxs (Int.toNat (w32 ((i : Int) + 3)))
  generalize xs (Int.toNat (w32 ((i : Int) + 1))) = x at g1 ⊢
  generalize xs (Int.toNat (w32 ((i : Int) + 2))) = y at g2 ⊢
  generalize xs (Int.toNat (w32 ((i : Int) + 3))) = s at g3 ⊢
  refine ⟨b1, b2, b3, h_Lw_content (d := 699) hok hL.1.1 hL.1.2.1 hL.1.2.2 hL.2.2.1 (c_GLcontent hok (Nat.le_refl 1) hC hz g1 g2 g3 (fun e => ?_) (fun e e1 e2 => ?_))⟩
  · skip
    obtain ⟨C2, M2', y2, z2, L2⟩ := gMidT (t := 19) (hC.mono (Nat.le_succ n)) hM hy hz (gSm.rf c X) (gOff.rf _ M)
    obtain ⟨I, _⟩ := gFin (M' := gUp M o 0 1) C2 y2 z2 (gOff.m0 (gOff.rf _ _)) (M2'.up0.mono (Nat.le_succ n))
    exact gHr_t (List.mem_of_getElem? (i := 0) rfl) ⟨1, rfl, g32_c rfl, L2, b1, b2, b3, r_GMcontent (d := 699) M2' htl (by omega) g1 g2 g3 (fun _ => law_tl L2 (gUp_eq _ _ _ _) (fun h => absurd h (by decide)) (R1 _ _ I)) (fun a1 a2 a3 => absurd ⟨a1, a2, a3⟩ e)⟩
  · have gv := gQcon_g (htl.2.2.2.2 nw htl.1 htl.2.1) (q := (x + 26 * y).toNat) (s := s)
    generalize ev : gQcon (T nw) (x + 26 * y).toNat s = q at gv ⊢
    obtain ⟨C2, M2', y2, z2, L2⟩ := gMidR (x := q) (hC.mono (Nat.le_succ n)) hM hy hz (gSm.rf c X) (gOff.rf _ M)
    obtain ⟨I, ew⟩ := gFin (M' := gUp (gUp M w 0 (q)) o 0 0) C2 y2 z2 (gOff.m0 (gOff.rf _ _)) (M2'.up0.mono (Nat.le_succ n))
    refine gHr_r gv L2 ⟨0, rfl, g32_0, L2, b1, b2, b3, r_GMcontent (d := 699) M2' htl (by omega) g1 g2 g3 (fun a => absurd ⟨e, e1, e2⟩ a) (fun _ _ _ => ?_)⟩
    rw [ev]
    exact law_tl L2 (gUp_eq _ _ _ _) (fun _ => ew.trans (gUp_eq _ _ _ _)) (R1 _ _ I)
set_option maxRecDepth 100000 in
set_option maxHeartbeats 4000000 in
theorem v_977 (P : gPv l G Q X M K p Ls xs c o w cs ss n i) : wp l G y_Lw_law room_1 true K true 977 [.val (.ref p), .val (gR G c), .val (gR G o), .val (gR G w), .val (gI (i : Int)), .unset, .unset, .unset] [] X M cs ss := by
  obtain ⟨hok, hO, ⟨Rg, v, b, u, u1, T, er, nw, lt, ed, S, ch, cl, hC, hM, hy, hz⟩, hscr, hi, hxs, hk, R1, R0⟩ := P
  have hL := hy.lw hC.1 hM.1
  have htl := hC.2.2.2.2.2.2.2.2.2.1
  have hed := hC.2.2.2.2.2.2.2.2.2.2
  have st := hC.2.2.2.1 nw htl.1 htl.2.1
  have bd : ∀ {j : Int}, 0 ≤ j ∧ j < 7 → (0 : Int) ≤ w32 ((i : Int) + j) ∧ w32 ((i : Int) + j) < (Ls : Int) := fun hj => g_bdi ⟨hi.1, hi.2.1⟩ hj
  have b1 := bd (j := 1) (by decide)
  have b2 := bd (j := 2) (by decide)
  have b3 := bd (j := 3) (by decide)
  refine w_Lw_law_977 hscr (by unfold g32; omega) (by omega) hxs hL hk (by unfold g32; omega) ?_
  have g1 := hxs (Int.toNat (w32 ((i : Int) + 1)))
  have g2 := hxs (Int.toNat (w32 ((i : Int) + 2)))
  have g3 := hxs (Int.toNat (w32 ((i : Int) + 3)))
  generalize xs (Int.toNat (w32 ((i : Int) + 1))) = x at g1 ⊢
  generalize xs (Int.toNat (w32 ((i : Int) + 2))) = y at g2 ⊢
  generalize xs (Int.toNat (w32 ((i : Int) + 3))) = s at g3 ⊢
  refine ⟨b1, b2, b3, h_Lw_reference (d := 699) hok hL.1.1 hL.1.2.1 hL.1.2.2 hL.2.2.1 (c_GLreference hok (Nat.le_refl 1) hC hz g1 g2 g3 (fun e => ?_) (fun e e1 => ?_) (fun e S' tg e1 e2 e3 => ?_))⟩
  · skip
    obtain ⟨C2, M2', y2, z2, L2⟩ := gMidT (t := 19) (hC.mono (Nat.le_succ n)) hM hy hz (gSm.rf c X) (gOff.rf _ M)
    obtain ⟨I, _⟩ := gFin (M' := gUp M o 0 1) C2 y2 z2 (gOff.m0 (gOff.rf _ _)) (M2'.up0.mono (Nat.le_succ n))
    exact gHr_t (List.mem_of_getElem? (i := 0) rfl) ⟨1, rfl, g32_c rfl, L2, b1, b2, b3, r_GMreference (d := 699) M2' htl (by omega) g1 g2 g3 (fun _ => law_tl L2 (gUp_eq _ _ _ _) (fun h => absurd h (by decide)) (R1 _ _ I)) (fun a => absurd a e) (fun a => absurd a e)⟩
  · skip
    obtain ⟨C2, M2', y2, z2, L2⟩ := gMidT (t := 21) (hC.mono (Nat.le_succ n)) hM hy hz (gSm.rf c X) (gOff.rf _ M)
    obtain ⟨I, _⟩ := gFin (M' := gUp M o 0 2) C2 y2 z2 (gOff.m0 (gOff.rf _ _)) (M2'.up0.mono (Nat.le_succ n))
    exact gHr_t (List.mem_of_getElem? (i := 1) rfl) ⟨2, rfl, g32_c rfl, L2, b1, b2, b3, r_GMreference (d := 699) M2' htl (by omega) g1 g2 g3 (fun a => absurd e a) (fun _ _ => law_tl L2 (gUp_eq _ _ _ _) (fun h => absurd h (by decide)) (R1 _ _ I)) (fun _ S2 t2 a1 a2 a3 => absurd ⟨a2, a3⟩ (e1 S2 t2 a1))⟩
  · have ok := (htl.2.2.2.2 nw htl.1 htl.2.1 _ S' tg e1).2
    have gv : g32 (gTt tg s.toNat) := by
      have := ok.2.2.2.2.1 s.toNat (by omega)
      exact ⟨by omega, by omega⟩
    obtain ⟨C2, M2', y2, z2, L2⟩ := gMidR (x := gTt tg s.toNat) (hC.mono (Nat.le_succ n)) hM hy hz (gSm.rf c X) (gOff.rf _ M)
    obtain ⟨I, ew⟩ := gFin (M' := gUp (gUp M w 0 (gTt tg s.toNat)) o 0 0) C2 y2 z2 (gOff.m0 (gOff.rf _ _)) (M2'.up0.mono (Nat.le_succ n))
    refine gHr_r gv L2 ⟨0, rfl, g32_0, L2, b1, b2, b3, r_GMreference (d := 699) M2' htl (by omega) g1 g2 g3 (fun a => absurd e a) (fun _ a => absurd ⟨e2, e3⟩ (a S' tg e1)) (fun _ S2 t2 a1 _ _ => ?_)⟩
    rw [e1] at a1
    cases a1
    exact law_tl L2 (gUp_eq _ _ _ _) (fun _ => ew.trans (gUp_eq _ _ _ _)) (R1 _ _ I)
set_option maxRecDepth 100000 in
set_option maxHeartbeats 4000000 in
theorem v_1057 (P : gPv l G Q X M K p Ls xs c o w cs ss n i) : wp l G y_Lw_law room_1 true K true 1057 [.val (.ref p), .val (gR G c), .val (gR G o), .val (gR G w), .val (gI (i : Int)), .unset, .unset, .unset] [] X M cs ss := by
  obtain ⟨hok, hO, ⟨Rg, v, b, u, u1, T, er, nw, lt, ed, S, ch, cl, hC, hM, hy, hz⟩, hscr, hi, hxs, hk, R1, R0⟩ := P
  have hL := hy.lw hC.1 hM.1
  have htl := hC.2.2.2.2.2.2.2.2.2.1
  have hed := hC.2.2.2.2.2.2.2.2.2.2
  have st := hC.2.2.2.1 nw htl.1 htl.2.1
  have bd : ∀ {j : Int}, 0 ≤ j ∧ j < 7 → (0 : Int) ≤ w32 ((i : Int) + j) ∧ w32 ((i : Int) + j) < (Ls : Int) := fun hj => g_bdi ⟨hi.1, hi.2.1⟩ hj
  have b1 := bd (j := 1) (by decide)
  have b2 := bd (j := 2) (by decide)
  have b3 := bd (j := 3) (by decide)
  refine w_Lw_law_1057 hscr (by unfold g32; omega) (by omega) hxs hL hk (by unfold g32; omega) ?_
  have g1 := hxs (Int.toNat (w32 ((i : Int) + 1)))
  generalize xs (Int.toNat (w32 ((i : Int) + 1))) = x at g1 ⊢
  have hch := hC.2.2.2.2.2.2.2.2.1
  refine ⟨b1, h_Lw_changed (d := 699) hok hL.1.1 hL.1.2.1 hL.1.2.2 hL.2.2.1 (c_GLchanged (d := 691) hok (Nat.le_refl 1) hC.1 hz g1 (by rw [hch.1]; have := hch.2.1; omega) (fun e gv => ?_) (fun e => ?_))⟩
  · rw [hch.1] at e
    rw [hch.2.2 x.toNat (by omega)] at gv ⊢
    obtain ⟨C2, M2', y2, z2, L2⟩ := gMidR (x := cl x.toNat) (hC.mono (Nat.le_succ n)) hM hy hz (gSm.rf c X) (gOff.rf _ M)
    obtain ⟨I, ew⟩ := gFin (M' := gUp (gUp M w 0 (cl x.toNat)) o 0 0) C2 y2 z2 (gOff.m0 (gOff.rf _ _)) (M2'.up0.mono (Nat.le_succ n))
    exact gHr_r gv L2 ⟨0, rfl, g32_0, L2, b1, r_GMchanged (d := 699) M2' hch.2.1 g1 (fun a => absurd e a) (fun _ => law_tl L2 (gUp_eq _ _ _ _) (fun _ => ew.trans (gUp_eq _ _ _ _)) (R1 _ _ I))⟩
  · rw [hch.1] at e
    obtain ⟨C2, M2', y2, z2, L2⟩ := gMidT (t := 21) (hC.mono (Nat.le_succ n)) hM hy hz (gSm.rf c X) (gOff.rf _ M)
    obtain ⟨I, _⟩ := gFin (M' := gUp M o 0 1) C2 y2 z2 (gOff.m0 (gOff.rf _ _)) (M2'.up0.mono (Nat.le_succ n))
    exact gHr_t (List.mem_of_getElem? (i := 0) rfl) ⟨1, rfl, g32_c rfl, L2, b1, r_GMchanged (d := 699) M2' hch.2.1 g1 (fun _ => law_tl L2 (gUp_eq _ _ _ _) (fun h => absurd h (by decide)) (R1 _ _ I)) (fun a => absurd a e)⟩
set_option maxRecDepth 100000 in
set_option maxHeartbeats 4000000 in
theorem v_1113 (P : gPv l G Q X M K p Ls xs c o w cs ss n i) : wp l G y_Lw_law room_1 true K true 1113 [.val (.ref p), .val (gR G c), .val (gR G o), .val (gR G w), .val (gI (i : Int)), .unset, .unset, .unset] [] X M cs ss := by
  obtain ⟨hok, hO, ⟨Rg, v, b, u, u1, T, er, nw, lt, ed, S, ch, cl, hC, hM, hy, hz⟩, hscr, hi, hxs, hk, R1, R0⟩ := P
  have hL := hy.lw hC.1 hM.1
  have htl := hC.2.2.2.2.2.2.2.2.2.1
  have hed := hC.2.2.2.2.2.2.2.2.2.2
  have st := hC.2.2.2.1 nw htl.1 htl.2.1
  have bd : ∀ {j : Int}, 0 ≤ j ∧ j < 7 → (0 : Int) ≤ w32 ((i : Int) + j) ∧ w32 ((i : Int) + j) < (Ls : Int) := fun hj => g_bdi ⟨hi.1, hi.2.1⟩ hj
  have b1 := bd (j := 1) (by decide)
  have b2 := bd (j := 2) (by decide)
  have b3 := bd (j := 3) (by decide)
  refine w_Lw_law_1113 hscr (by unfold g32; omega) (by omega) hxs hL hk (by unfold g32; omega) ?_
  have g1 := hxs (Int.toNat (w32 ((i : Int) + 1)))
  generalize xs (Int.toNat (w32 ((i : Int) + 1))) = x at g1 ⊢
  refine ⟨b1, c_GLcount (d := 699) hC g1 ⟨b1, r_GMcount (d := 699) hM htl (by omega) g1 ⟨fun _ => R0 _ _ ?_, fun ne => absurd rfl ne⟩⟩⟩
  exact (gFin (hC.mono (Nat.le_succ n)) hy hz (gOff.m0 (gOff.rf _ _)) (hM.up0.mono (Nat.le_succ n))).1
end ggZ
