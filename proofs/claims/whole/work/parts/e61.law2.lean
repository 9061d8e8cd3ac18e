/-! The law's calls insert, erase, undo, redo. -/
def gTlP (l : Launch) (G : gG) (K : Outcome → gX → gM → Prop) (p c o w cs ss i : Nat) (v4 : Int) (X : gX) (v9 : Int) (M' : gM) : Prop := cI l G y_GM_thrown (gRm 700) false [gR G o] X M' (fun v12 M11 => ((v12 = v4 → ((¬ v4 = 0 → (wp l G y_Lw_law room_1 true K true 1138 [.val (.ref p), .val (gR G c), .val (gR G o), .val (gR G w), .val (gI (i : Int)), .unset, .unset, .unset] [] X M11 cs ss)) ∧ (v4 = 0 → (((0 : Int) ≤ (0 : Int) ∧ (0 : Int) < 1) ∧ (g64 (M11 w (Int.toNat 0)) → ((M11 w (Int.toNat 0) = v9 → (wp l G y_Lw_law room_1 true K true 1138 [.val (.ref p), .val (gR G c), .val (gR G o), .val (gR G w), .val (gI (i : Int)), .unset, .unset, .unset] [] X M11 cs ss)) ∧ (¬ M11 w (Int.toNat 0) = v9 → (K (.returned (some (gI 0))) X M11)))))))) ∧ (¬ v12 = v4 → (K (.returned (some (gI 0))) X M11))))
section ggY
variable {l : Launch} {G : gG} {Q : gQ} {X : gX} {M : gM} {K K2 : Outcome → gX → gM → Prop} {cs ss p Ls c o w n i : Nat} {xs : Nat → Int} {T : Nat → gSht} {er nw lt ed : Nat} {S : List Int} {ch ch' : Nat} {cl cl' : Nat → Int} {V V' : Int → gVl} {k : Int → gM → Prop} {Rg : Nat → Nat} {v b : Nat} {u u1 : Nat → gVl}
theorem r_GMinsert (h : gLM X M o n T er nw lt ed S V ch cl) {s x y : Int} (hs : 0 ≤ s ∧ s ≤ 1) (gx : g32 x) (gy : g32 y)
    (k0 : ¬ (0 ≤ x ∧ x < (if s = 0 then 200 else 26) ∧ 1 ≤ y ∧ y ≤ 50) → ∀ M', gOff (gMR o) M M' → M' o 0 = 1 → gLM X M' o (n + 1) T er nw lt ed S V ch cl → k 0 M')
    (hk : 0 ≤ x ∧ x < (if s = 0 then 200 else 26) ∧ 1 ≤ y ∧ y ≤ 50 → gLin s x y → cI l G y_GM_shift (gRm 699) true [gR G o, gI s, gI x, gI y] X M k) : cI l G y_GM_insert (gRm 700) true [gR G o, gI s, gI x, gI y] X M k := by
  have a1 := h.1
  have no : ¬ (0 ≤ x ∧ x < (if s = 0 then 200 else 26) ∧ 1 ≤ y ∧ y ≤ 50) → cI l G y_GM_no (gRm 699) true [gR G o, gI 1] X M (fun v w => k v w) := fun a => c_GM_no a1 (g32_c rfl) (k0 a _ (gOff.m0 (gOff.rf _ _)) (gUp_eq _ _ _ _) (h.up0.mono (Nat.le_succ n)))
  have go : 0 ≤ x ∧ x < (if s = 0 then 200 else 26) ∧ 1 ≤ y ∧ y ≤ 50 → cI l G y_GM_shift (gRm 699) true [gR G o, gI s, gI x, gI y] X M (fun v w => k v w) := fun a => hk a ⟨by omega, a.1, by unfold gFm; exact a.2.1, Or.inl ⟨by omega, by omega⟩⟩
  refine e_GM_insert (w_GM_insert_0 (d := 699) a1 hs gx gy ⟨fun e => no (by omega), fun e => ⟨fun e0 => ?_, fun e0 => ?_⟩⟩)
  · rw [if_pos e0] at no go
    exact ⟨fun e1 => no (by omega), fun e1 => ⟨fun e2 => no (by omega), fun e2 => ⟨fun e3 => go (by omega), fun e3 => no (by omega)⟩⟩⟩
  · rw [if_neg e0] at no go
    exact ⟨fun e1 => no (by omega), fun e1 => ⟨fun e2 => no (by omega), fun e2 => ⟨fun e3 => go (by omega), fun e3 => no (by omega)⟩⟩⟩
theorem r_GMerase (h : gLM X M o n T er nw lt ed S V ch cl) {s x y : Int} (hs : 0 ≤ s ∧ s ≤ 1) (gx : g32 x) (gy : g32 y)
    (k0 : ¬ (0 ≤ x ∧ x < (if s = 0 then 200 else 26) ∧ 1 ≤ y ∧ y ≤ 50 ∧ x + y ≤ (if s = 0 then 200 else 26)) → ∀ M', gOff (gMR o) M M' → M' o 0 = 1 → gLM X M' o (n + 1) T er nw lt ed S V ch cl → k 0 M')
    (hk : 0 ≤ x ∧ x < (if s = 0 then 200 else 26) ∧ 1 ≤ y ∧ y ≤ 50 ∧ x + y ≤ (if s = 0 then 200 else 26) → gLin s x (-y) → cI l G y_GM_shift (gRm 699) true [gR G o, gI s, gI x, gI (-y)] X M k) : cI l G y_GM_erase (gRm 700) true [gR G o, gI s, gI x, gI y] X M k := by
  have a1 := h.1
  have no : ¬ (0 ≤ x ∧ x < (if s = 0 then 200 else 26) ∧ 1 ≤ y ∧ y ≤ 50 ∧ x + y ≤ (if s = 0 then 200 else 26)) → wp l G y_GM_erase (gRm (699 + 1)) true (kkI X k) true 49 [.val (gR G o), .unset, .unset, .unset] [] X M 0 0 := fun a => w_GM_erase_49 (d := 699) a1 (c_GM_no a1 (g32_c rfl) (k0 a _ (gOff.m0 (gOff.rf _ _)) (gUp_eq _ _ _ _) (h.up0.mono (Nat.le_succ n))))
  have go : 0 ≤ x ∧ x < (if s = 0 then 200 else 26) ∧ 1 ≤ y ∧ y ≤ 50 ∧ x + y ≤ (if s = 0 then 200 else 26) → cI l G y_GM_shift (gRm 699) true [gR G o, gI s, gI x, gI (-y)] X M (fun v w => k v w) := fun a => hk a ⟨by omega, a.1, by unfold gFm; exact a.2.1, Or.inr ⟨by omega, by omega⟩⟩
  by_cases g : 0 ≤ x ∧ x < 200 ∧ 1 ≤ y ∧ y ≤ 50
  · refine e_GM_erase (w_GM_erase_0 (d := 699) a1 hs gx gy ⟨fun e => absurd e (by omega), fun _ => ⟨fun e => absurd e (by omega), fun _ => ⟨fun e => absurd e (by omega), fun _ => ⟨fun e0 => ?_, fun e0 => ?_⟩⟩⟩⟩)
    · rw [if_pos e0] at no go
      rw [w32_id (x := x + y) ⟨by omega, by omega⟩]
      exact w_GM_erase_30 (d := 699) a1 ⟨by omega, by omega⟩ gx gy (g32_c rfl) ⟨by omega, by omega⟩ ⟨fun e1 => no (by omega), fun e1 => ⟨fun _ => ⟨fun e2 => go (by omega), fun e2 => no (by omega)⟩, fun e2 => absurd e0 e2⟩⟩
    · rw [if_neg e0] at no go
      rw [w32_id (x := x + y) ⟨by omega, by omega⟩]
      exact w_GM_erase_30 (d := 699) a1 ⟨by omega, by omega⟩ gx gy (g32_c rfl) ⟨by omega, by omega⟩ ⟨fun e1 => no (by omega), fun e1 => ⟨fun e2 => absurd e2 e0, fun _ => ⟨fun e2 => go (by omega), fun e2 => no (by omega)⟩⟩⟩
  · have lim : (if s = 0 then (200 : Int) else 26) ≤ 200 := by split <;> omega
    have nn := no (by omega)
    refine e_GM_erase (w_GM_erase_0 (d := 699) a1 hs gx gy ⟨fun e => nn, fun e1 => ⟨fun e => nn, fun e2 => ⟨fun e => nn, fun e3 => ⟨fun e0 => ?_, fun e0 => ?_⟩⟩⟩⟩)
    · exact w_GM_erase_30 (d := 699) a1 ⟨by omega, by omega⟩ gx gy (g32_c rfl) (w32_ok _) ⟨fun _ => nn, fun _ => ⟨fun _ => ⟨fun e4 => absurd ⟨by omega, e4, by omega, by omega⟩ g, fun _ => nn⟩, fun e4 => absurd e0 e4⟩⟩
    · exact w_GM_erase_30 (d := 699) a1 ⟨by omega, by omega⟩ gx gy (g32_c rfl) (w32_ok _) ⟨fun _ => nn, fun _ => ⟨fun e4 => absurd e4 e0, fun _ => ⟨fun e4 => absurd ⟨by omega, by omega, by omega, by omega⟩ g, fun _ => nn⟩⟩⟩
/-- behind the class's shift: the reference's -/
theorem v_shB (hC : gLC X M c n Rg v b u u1 T er nw lt ed S ch cl) (hO : gOld G Q) (hM : gLM X M o n T er nw lt ed S (gEw (T nw) u) ch cl) (hy : gLy X c o w) (hz : gFr X M) (hn : n < 512) (R1 : gRv l G K p c o w (cs + 1) (ss + 6) n i) {s x m : Int} (hL : gLin s x m) (over : (0 < m ∧ ∃ p : Nat, T nw p ≠ none ∧ gFp s x m p = -1) ∨ 20000 < gRsF (gShft (T nw) s x m) 5200)
    (hK : ∀ (X' : gX) (M' : gM), gLw X' c o w → gLM X' M' o n T er nw lt ed S (gEw (T nw) u) ch cl → cI l G y_GM_shift (gRm 699) true [gR G o, gI s, gI x, gI m] X' M' (fun v11 M10 => gTlP l G K p c o w (cs + 1) (ss + 6) i 2 X' v11 M10) → K2 (.returned (some (gI 2))) X' M') : gKf G (gHr G K2 w [(19, 1), (20, 2)]) X M c n Rg v b u u1 T er nw lt ed S ch cl := by
  intro X1 M1 s1 oC C1
  have htl := hC.2.2.2.2.2.2.2.2.2.1
  have hed := hC.2.2.2.2.2.2.2.2.2.2
  have h4 := (hC.2.2.2.1 nw htl.1 htl.2.1).2.1
  obtain ⟨C2, M2', y2, z2, L2⟩ := gMidT (t := 20) C1 hM hy hz s1 oC
  refine gHr_t (List.mem_of_getElem? (i := 1) rfl) (hK _ _ L2 M2' (r_GMshift (V' := gEw (T nw) u) (ch' := 0) (cl' := cl) hO M2' htl hn hed h4 hL (fun _ M3 o3 e3 L3 => ?_) (fun a1 a2 => absurd over (fun y => ?_))))
  · obtain ⟨I, _⟩ := gFin C2 y2 z2 o3 L3
    exact law_tl L2 e3 (fun h => absurd h (by decide)) (R1 _ _ I)
  · rcases y with ⟨y1, q, y2, y3⟩ | y
    · exact a1 y1 q y2 y3
    · omega
theorem v_shG (hC : gLC X M c n Rg v b u u1 T er nw lt ed S ch cl) (hO : gOld G Q) (hM : gLM X M o n T er nw lt ed S (gEw (T nw) u) ch cl) (hy : gLy X c o w) (hz : gFr X M) (hn : n < 512) (R1 : gRv l G K p c o w (cs + 1) (ss + 6) n i) {tab : List (Nat × Int)} {s x m : Int} (hL : gLin s x m) (g1 : 0 < m → ∀ p : Nat, T nw p ≠ none → gFp s x m p ≠ -1) (g2 : gRsF (gShft (T nw) s x m) 5200 ≤ 20000)
    (hK : ∀ (X' : gX) (M' : gM), gLw X' c o w → gLM X' M' o n T er nw lt ed S (gEw (T nw) u) ch cl → cI l G y_GM_shift (gRm 699) true [gR G o, gI s, gI x, gI m] X' M' (fun v11 M10 => gTlP l G K p c o w (cs + 1) (ss + 6) i 0 X' v11 M10) → K2 (.returned (some (gI 0))) X' M') : gKl (gHr G K2 w tab) X M c n v b u T er nw ed S (gShft (T nw) s x m) := by
  intro X1 M1 Rg' w' ch' cl' s1 oC C1 sh
  have htl := hC.2.2.2.2.2.2.2.2.2.1
  have hed := hC.2.2.2.2.2.2.2.2.2.2
  have h4 := (hC.2.2.2.1 nw htl.1 htl.2.1).2.1
  have c8 := C1.2.2.2.2.2.2.2.2.1.2.1
  obtain ⟨C2, M2', y2, z2, L2⟩ := gMidR (x := (ch' : Int)) C1 hM hy hz s1 oC
  refine gHr_r ⟨by omega, by omega⟩ L2 (hK _ _ L2 M2' (r_GMshift (V' := gEw (gShft (T nw) s x m) w') (ch' := ch') (cl' := cl') hO M2' htl hn hed h4 hL (fun over => absurd over (fun y => ?_)) (fun _ _ => ⟨sh, fun M3 o3 e3 L3 => ?_⟩)))
  · rcases y with ⟨y1, q, y2, y3⟩ | y
    · exact g1 y1 q y2 y3
    · omega
  · have tn : gTn T nw (gShft (T nw) s x m) (nw + 1) = gShft (T nw) s x m := if_pos rfl
    obtain ⟨I, ew⟩ := gFin C2 y2 z2 o3 (by rw [tn]; exact L3)
    exact law_tl L2 e3 (fun _ => ew.trans (gUp_eq _ _ _ _)) (R1 _ _ I)
theorem v_ins (hok : gOk l G) (hO : gOld G Q) (hC : gLC X M c n Rg v b u u1 T er nw lt ed S ch cl) (hM : gLM X M o n T er nw lt ed S (gEw (T nw) u) ch cl) (hy : gLy X c o w) (hz : gFr X M) (hn : n < 512) (R1 : gRv l G K p c o w (cs + 1) (ss + 6) n i) {s x y : Int} (hs : 0 ≤ s ∧ s ≤ 1) (gx : g32 x) (gy : g32 y)
    (hK : ∀ (X' : gX) (M' : gM) (v : Int), g32 v → gLw X' c o w → cI l G y_GM_insert (gRm 700) true [gR G o, gI s, gI x, gI y] X' M' (fun v11 M10 => gTlP l G K p c o w (cs + 1) (ss + 6) i v X' v11 M10) → K2 (.returned (some (gI v))) X' M') :
    gCt l G y_GL_insert (gRr 699 1) true [gR G c, gI s, gI x, gI y] X M (gHr G K2 w [(19, 1), (20, 2)]) := by
  refine c_GLinsert hok hO (Nat.le_refl 1) hC hz hn hs gx gy (fun bad => ?_) (fun g L over => v_shB hC hO hM hy hz hn R1 L over (fun X' M' hL h' hc => hK X' M' 2 (g32_c rfl) hL (r_GMinsert h' hs gx gy (fun bad => absurd g bad) (fun _ _ => hc)))) (fun g L g1 g2 => v_shG hC hO hM hy hz hn R1 L g1 g2 (fun X' M' hL h' hc => hK X' M' 0 g32_0 hL (r_GMinsert h' hs gx gy (fun bad => absurd g bad) (fun _ _ => hc))))
  obtain ⟨C2, M2', y2, z2, L2⟩ := gMidT (t := 19) (hC.mono (Nat.le_succ n)) hM hy hz (gSm.rf c X) (gOff.rf _ M)
  refine gHr_t (List.mem_of_getElem? (i := 0) rfl) (hK _ _ 1 (g32_c rfl) L2 (r_GMinsert M2' hs gx gy (fun _ M3 o3 e3 L3 => ?_) (fun g => absurd g bad)))
  obtain ⟨I, _⟩ := gFin C2 y2 z2 o3 L3
  exact law_tl L2 e3 (fun h => absurd h (by decide)) (R1 _ _ I)
theorem v_ers (hok : gOk l G) (hO : gOld G Q) (hC : gLC X M c n Rg v b u u1 T er nw lt ed S ch cl) (hM : gLM X M o n T er nw lt ed S (gEw (T nw) u) ch cl) (hy : gLy X c o w) (hz : gFr X M) (hn : n < 512) (R1 : gRv l G K p c o w (cs + 1) (ss + 6) n i) {s x y : Int} (hs : 0 ≤ s ∧ s ≤ 1) (gx : g32 x) (gy : g32 y)
    (hK : ∀ (X' : gX) (M' : gM) (v : Int), g32 v → gLw X' c o w → cI l G y_GM_erase (gRm 700) true [gR G o, gI s, gI x, gI y] X' M' (fun v11 M10 => gTlP l G K p c o w (cs + 1) (ss + 6) i v X' v11 M10) → K2 (.returned (some (gI v))) X' M') :
    gCt l G y_GL_erase (gRr 699 1) true [gR G c, gI s, gI x, gI y] X M (gHr G K2 w [(19, 1), (20, 2)]) := by
  refine c_GLerase hok hO (Nat.le_refl 1) hC hz hn hs gx gy (fun bad => ?_) (fun g L over => v_shB hC hO hM hy hz hn R1 L over (fun X' M' hL h' hc => hK X' M' 2 (g32_c rfl) hL (r_GMerase h' hs gx gy (fun bad => absurd g bad) (fun _ _ => hc)))) (fun g L g1 g2 => v_shG hC hO hM hy hz hn R1 L g1 g2 (fun X' M' hL h' hc => hK X' M' 0 g32_0 hL (r_GMerase h' hs gx gy (fun bad => absurd g bad) (fun _ _ => hc))))
  obtain ⟨C2, M2', y2, z2, L2⟩ := gMidT (t := 19) (hC.mono (Nat.le_succ n)) hM hy hz (gSm.rf c X) (gOff.rf _ M)
  refine gHr_t (List.mem_of_getElem? (i := 0) rfl) (hK _ _ 1 (g32_c rfl) L2 (r_GMerase M2' hs gx gy (fun _ M3 o3 e3 L3 => ?_) (fun g => absurd g bad)))
  obtain ⟨I, _⟩ := gFin C2 y2 z2 o3 L3
  exact law_tl L2 e3 (fun h => absurd h (by decide)) (R1 _ _ I)
set_option maxRecDepth 100000 in
set_option maxHeartbeats 4000000 in
theorem v_458 (P : gPv l G Q X M K p Ls xs c o w cs ss n i) : wp l G y_Lw_law room_1 true K true 458 [.val (.ref p), .val (gR G c), .val (gR G o), .val (gR G w), .val (gI (i : Int)), .unset, .unset, .unset] [] X M cs ss := by
  obtain ⟨hok, hO, ⟨Rg, v, b, u, u1, T, er, nw, lt, ed, S, ch, cl, hC, hM, hy, hz⟩, hscr, hi, hxs, hk, R1, R0⟩ := P
  have hL := hy.lw hC.1 hM.1
  have bd : ∀ {j : Int}, 0 ≤ j ∧ j < 7 → (0 : Int) ≤ w32 ((i : Int) + j) ∧ w32 ((i : Int) + j) < (Ls : Int) := fun hj => g_bdi ⟨hi.1, hi.2.1⟩ hj
  have b1 := bd (j := 1) (by decide)
  have b2 := bd (j := 2) (by decide)
  have b3 := bd (j := 3) (by decide)
  refine w_Lw_law_458 hscr (by unfold g32; omega) (by omega) hxs hL hk (by unfold g32; omega) ?_
  refine ⟨b1, fun e => ⟨b2, b3, h_Lw_insert (d := 699) hok hL.1.1 hL.1.2.1 hL.1.2.2 hL.2.2.1 ?_⟩, fun e => ⟨b2, b3, h_Lw_insert (d := 699) hok hL.1.1 hL.1.2.1 hL.1.2.2 hL.2.2.1 ?_⟩⟩
  · exact v_ins hok hO hC hM hy hz hi.2.2 R1 ⟨by decide, by decide⟩ (hxs _) (hxs _) (fun X' M' v gv hl hc => ⟨v, rfl, gv, hl, b1, fun _ => ⟨b2, b3, hc⟩, fun ne => absurd e ne⟩)
  · exact v_ins hok hO hC hM hy hz hi.2.2 R1 ⟨by decide, by decide⟩ (hxs _) (hxs _) (fun X' M' v gv hl hc => ⟨v, rfl, gv, hl, b1, fun e0 => absurd e0 e, fun _ => ⟨b2, b3, hc⟩⟩)
set_option maxRecDepth 100000 in
set_option maxHeartbeats 4000000 in
theorem v_554 (P : gPv l G Q X M K p Ls xs c o w cs ss n i) : wp l G y_Lw_law room_1 true K true 554 [.val (.ref p), .val (gR G c), .val (gR G o), .val (gR G w), .val (gI (i : Int)), .unset, .unset, .unset] [] X M cs ss := by
  obtain ⟨hok, hO, ⟨Rg, v, b, u, u1, T, er, nw, lt, ed, S, ch, cl, hC, hM, hy, hz⟩, hscr, hi, hxs, hk, R1, R0⟩ := P
  have hL := hy.lw hC.1 hM.1
  have bd : ∀ {j : Int}, 0 ≤ j ∧ j < 7 → (0 : Int) ≤ w32 ((i : Int) + j) ∧ w32 ((i : Int) + j) < (Ls : Int) := fun hj => g_bdi ⟨hi.1, hi.2.1⟩ hj
  have b1 := bd (j := 1) (by decide)
  have b2 := bd (j := 2) (by decide)
  have b3 := bd (j := 3) (by decide)
  refine w_Lw_law_554 hscr (by unfold g32; omega) (by omega) hxs hL hk (by unfold g32; omega) ?_
  refine ⟨b1, fun e => ⟨b2, b3, h_Lw_erase (d := 699) hok hL.1.1 hL.1.2.1 hL.1.2.2 hL.2.2.1 ?_⟩, fun e => ⟨b2, b3, h_Lw_erase (d := 699) hok hL.1.1 hL.1.2.1 hL.1.2.2 hL.2.2.1 ?_⟩⟩
  · exact v_ers hok hO hC hM hy hz hi.2.2 R1 ⟨by decide, by decide⟩ (hxs _) (hxs _) (fun X' M' v gv hl hc => ⟨v, rfl, gv, hl, b1, fun _ => ⟨b2, b3, hc⟩, fun ne => absurd e ne⟩)
  · exact v_ers hok hO hC hM hy hz hi.2.2 R1 ⟨by decide, by decide⟩ (hxs _) (hxs _) (fun X' M' v gv hl hc => ⟨v, rfl, gv, hl, b1, fun e0 => absurd e0 e, fun _ => ⟨b2, b3, hc⟩⟩)
set_option maxRecDepth 100000 in
set_option maxHeartbeats 4000000 in
theorem v_650 (P : gPv l G Q X M K p Ls xs c o w cs ss n i) : wp l G y_Lw_law room_1 true K true 650 [.val (.ref p), .val (gR G c), .val (gR G o), .val (gR G w), .val (gI (i : Int)), .unset, .unset, .unset] [] X M cs ss := by
  obtain ⟨hok, hO, ⟨Rg, v, b, u, u1, T, er, nw, lt, ed, S, ch, cl, hC, hM, hy, hz⟩, hscr, hi, hxs, hk, R1, R0⟩ := P
  have hL := hy.lw hC.1 hM.1
  have htl := hC.2.2.2.2.2.2.2.2.2.1
  have hed := hC.2.2.2.2.2.2.2.2.2.2
  refine w_Lw_law_650 hscr (by unfold g32; omega) (by omega) hxs hL hk (by unfold g32; omega) ?_
  refine h_Lw_undo (d := 699) hok hL.1.1 hL.1.2.1 hL.1.2.2 hL.2.2.1 (c_GLundo hok hO (Nat.le_refl 1) hC hz hi.2.2 (fun e => ?_) (fun e => ?_))
  · obtain ⟨C2, M2', y2, z2, L2⟩ := gMidT (t := 20) (hC.mono (Nat.le_succ n)) hM hy hz (gSm.rf c X) (gOff.rf _ M)
    refine gHr_t (List.mem_of_getElem? (i := 0) rfl) ⟨1, rfl, g32_c rfl, L2, r_GMundo (V' := gEw (T nw) u) (ch' := 0) (cl' := cl) hO M2' htl hi.2.2 hed (fun _ M3 o3 e3 L3 => ?_) (fun e2 => absurd e (by omega))⟩
    obtain ⟨I, _⟩ := gFin C2 y2 z2 o3 L3
    exact law_tl L2 e3 (fun h => absurd h (by decide)) (R1 _ _ I)
  · intro X1 M1 w' ch' cl' s1 oC C1 sh
    have c8 := C1.2.2.2.2.2.2.2.2.1.2.1
    have h4 := (hC.2.2.2.1 (nw - 1) (by have := htl.1; omega) (by have := htl.2.1; omega)).2.1
    obtain ⟨C2, M2', y2, z2, L2⟩ := gMidR (x := (ch' : Int)) C1 hM hy hz s1 oC
    refine gHr_r ⟨by omega, by omega⟩ L2 ⟨0, rfl, g32_0, L2, r_GMundo (V' := gEw (T (nw - 1)) w') (ch' := ch') (cl' := cl') hO M2' htl hi.2.2 hed (fun e2 => absurd e (by omega)) (fun _ => ⟨h4, sh, fun M3 o3 e3 L3 => ?_⟩)⟩
    obtain ⟨I, ew⟩ := gFin C2 y2 z2 o3 L3
    exact law_tl L2 e3 (fun _ => ew.trans (gUp_eq _ _ _ _)) (R1 _ _ I)
set_option maxRecDepth 100000 in
set_option maxHeartbeats 4000000 in
theorem v_694 (P : gPv l G Q X M K p Ls xs c o w cs ss n i) : wp l G y_Lw_law room_1 true K true 694 [.val (.ref p), .val (gR G c), .val (gR G o), .val (gR G w), .val (gI (i : Int)), .unset, .unset, .unset] [] X M cs ss := by
  obtain ⟨hok, hO, ⟨Rg, v, b, u, u1, T, er, nw, lt, ed, S, ch, cl, hC, hM, hy, hz⟩, hscr, hi, hxs, hk, R1, R0⟩ := P
  have hL := hy.lw hC.1 hM.1
  have htl := hC.2.2.2.2.2.2.2.2.2.1
  have hed := hC.2.2.2.2.2.2.2.2.2.2
  refine w_Lw_law_694 hscr (by unfold g32; omega) (by omega) hxs hL hk (by unfold g32; omega) ?_
  refine h_Lw_redo (d := 699) hok hL.1.1 hL.1.2.1 hL.1.2.2 hL.2.2.1 (c_GLredo hok hO (Nat.le_refl 1) hC hz hi.2.2 (fun e => ?_) (fun e => ?_))
  · obtain ⟨C2, M2', y2, z2, L2⟩ := gMidT (t := 20) (hC.mono (Nat.le_succ n)) hM hy hz (gSm.rf c X) (gOff.rf _ M)
    refine gHr_t (List.mem_of_getElem? (i := 0) rfl) ⟨1, rfl, g32_c rfl, L2, r_GMredo (V' := gEw (T nw) u) (ch' := 0) (cl' := cl) hO M2' htl hi.2.2 hed (fun _ M3 o3 e3 L3 => ?_) (fun e2 => absurd e (by omega))⟩
    obtain ⟨I, _⟩ := gFin C2 y2 z2 o3 L3
    exact law_tl L2 e3 (fun h => absurd h (by decide)) (R1 _ _ I)
  · intro X1 M1 w' ch' cl' s1 oC C1 sh
    have c8 := C1.2.2.2.2.2.2.2.2.1.2.1
    have h4 := (hC.2.2.2.1 (nw + 1) (by have := htl.1; omega) (by have := htl.2.1; omega)).2.1
    obtain ⟨C2, M2', y2, z2, L2⟩ := gMidR (x := (ch' : Int)) C1 hM hy hz s1 oC
    refine gHr_r ⟨by omega, by omega⟩ L2 ⟨0, rfl, g32_0, L2, r_GMredo (V' := gEw (T (nw + 1)) w') (ch' := ch') (cl' := cl') hO M2' htl hi.2.2 hed (fun e2 => absurd e (by omega)) (fun _ => ⟨h4, sh, fun M3 o3 e3 L3 => ?_⟩)⟩
    obtain ⟨I, ew⟩ := gFin C2 y2 z2 o3 L3
    exact law_tl L2 e3 (fun _ => ew.trans (gUp_eq _ _ _ _)) (R1 _ _ I)
end ggY
