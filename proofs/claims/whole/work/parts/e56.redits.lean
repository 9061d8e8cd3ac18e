/-! The reference's put, fill, insert, erase, undo, redo, against one state. -/
section ggT
variable {l : Launch} {G : gG} {d : Nat} {X : gX} {M M' M3 : gM} {o n : Nat} {T : Nat → gSht} {er nw lt ed : Nat} {S : List Int} {ch ch' : Nat} {cl cl' : Nat → Int} {V V0 V' : Int → gVl} {F F2 : gSht} {Q : gQ} {k : Int → gM → Prop}
/-- written: the letters, nodes, forms, refs grow; slot 41; INPUT is S2 -/
theorem gLM.pu {n2 : Nat} {S2 : List Int} (h : gLM X M o n T er nw lt ed S V ch cl) (oP : gOff (gPuR o) M M3) (g : gmGr M M3 o) (hct : gMct M3 o n2 S2.length) (hin : gInI M3 o 72 (o + 46) S2) : gLM X M3 o n2 T er nw lt ed S2 V ch cl := by
  obtain ⟨a1, a2, a3, a4, a5, a6⟩ := h
  have q : ∀ j, 35 ≤ j → j ≠ 72 → M3 o j = M o j := fun j h1 h2 => oP _ _ (by unfold gPuR gSlR; omega)
  refine ⟨a1, ⟨(q _ (by decide) (by decide)).trans a2.1, (q _ (by decide) (by decide)).trans a2.2.1, (q _ (by decide) (by decide)).trans a2.2.2.1, (q _ (by decide) (by decide)).trans a2.2.2.2⟩, fun t h1 h2 => (a3 t h1 h2).gr g (fun i j i1 i2 j1 j2 => oP _ _ (by unfold gPuR gSlR; omega)) (fun j j1 j2 => oP _ _ (by unfold gPuR gSlR; omega)) (oP _ _ (by unfold gPuR gSlR; omega)), a4.ag (fun a j h1 h2 => oP _ _ (by unfold gPuR gSlR; omega)) (fun j hj => q j (by omega) (by omega)), hct, hin⟩
theorem gLM.up0 {x : Int} (h : gLM X M o n T er nw lt ed S V ch cl) : gLM X (gUp M o 0 x) o n T er nw lt ed S V ch cl := by
  refine h.pu ((gOff.rf _ _).up (by unfold gPuR; omega)) (gmGr.eq (fun i j i1 i2 => gUp_a (by omega)) (fun j hj => gUp_k (by omega))) (h.2.2.2.2.1.ag (fun j hj => gUp_k (by omega))) ⟨?_, fun j hj => ?_, h.2.2.2.2.2.2.2⟩
  · rw [gUp_k (by decide)]; exact h.2.2.2.2.2.1
  · rw [gUp_a (by omega)]; exact h.2.2.2.2.2.2.1 j hj
theorem gLM.sl (h : gLM X M o n T er nw lt ed S V ch cl) (oS : gOff (gSlR o 41) M M3) : gLM X M3 o n T er nw lt ed S V ch cl := by
  refine h.pu (oS.mono (fun a j y => Or.inr (Or.inl y))) (gmGr.eq (fun i j i1 i2 => oS _ _ (by unfold gSlR; omega)) (fun j hj => oS _ _ (by unfold gSlR; omega))) (h.2.2.2.2.1.ag (fun j hj => oS _ _ (by unfold gSlR; omega))) ⟨?_, fun j hj => ?_, h.2.2.2.2.2.2.2⟩
  · rw [oS _ _ (by unfold gSlR; omega)]; exact h.2.2.2.2.2.1
  · rw [oS _ _ (by unfold gSlR; omega)]; exact h.2.2.2.2.2.2.1 j hj
theorem gSlR.mr (h : gOff (gSlR o 41) M M') : gOff (gMR o) M M' := h.mono (fun a j y => by unfold gSlR at y; unfold gMR; omega)
theorem gOff.m0 {x : Int} (h : gOff (gMR o) M M') : gOff (gMR o) M (gUp M' o 0 x) := h.up (by unfold gMR; omega)
/-- slot 41 is asked for -/
theorem r_acc (hO : gOld G Q) (h : gLM X M o n T er nw lt ed S V ch cl) (htl : er ≤ nw ∧ nw ≤ lt ∧ lt ≤ er + 40) (hnw : nw < 9999) (hed : ed < 9999) (hst : gmSt M o 41 F2) (hF : gSok F2)
    (hk0 : 400 < gCn (gnE F2) 5200 ∨ 20000 < gRsF F2 5200 → ∀ M', gOff (gMR o) M M' → M' o 0 = 2 → gLM X M' o n T er nw lt ed S V ch cl → k 0 M')
    (hsh : gCn (gnE F2) 5200 ≤ 400 → gRsF F2 5200 ≤ 20000 → gShV F2 V V' ch' cl' ∧ ∀ M', gOff (gMR o) M M' → M' o 0 = 0 → gLM X M' o n (gTn T nw F2) (gEr er nw) (nw + 1) (nw + 1) (ed + 1) S V' ch' cl' → k (ch' : Int) M') : cI l G y_GM_accept (gRm (d + 113)) true [gR G o] X M k := by
  obtain ⟨a1, a2, a3, a4, a5, a6⟩ := _root_.id h
  by_cases y : 400 < gCn (gnE F2) 5200 ∨ 20000 < gRsF F2 5200
  · exact r_accB (d := d + 109) a1 a2 htl.1 hnw hst hF y (hk0 y _ (gOff.m0 (gOff.rf _ _)) (gUp_eq _ _ _ _) h.up0)
  · obtain ⟨s1, s2⟩ := hsh (by omega) (by omega)
    exact r_accG (d := d) a1 hO a2 a3 a4.1 a5 a6 htl hnw (by omega) hst hF (by omega) (by omega) s1 s2
theorem r_GMput (hO : gOld G Q) (h : gLM X M o n T er nw lt ed S V ch cl) (htl : gTl T er nw lt n) (hn : n < 512) (hed : ed ≤ n) (h4 : gCn (gnE (T nw)) 5200 ≤ 400) {x y : Nat} (hx : x < 26) (hy : y < 200)
    (hk1 : gBadS S → ∀ M', gOff (gMR o) M M' → M' o 0 = 1 → gLM X M' o (n + 1) T er nw lt ed [] V ch cl → k 0 M')
    (hk0 : ¬ gBadS S → 400 < gCn (gnE (gPut (T nw) (gTyp S) (x + 26 * y))) 5200 ∨ 20000 < gRsF (gPut (T nw) (gTyp S) (x + 26 * y)) 5200 → ∀ M', gOff (gMR o) M M' → M' o 0 = 2 → gLM X M' o (n + 1) T er nw lt ed [] V ch cl → k 0 M')
    (hk : ¬ gBadS S → gCn (gnE (gPut (T nw) (gTyp S) (x + 26 * y))) 5200 ≤ 400 → gRsF (gPut (T nw) (gTyp S) (x + 26 * y)) 5200 ≤ 20000 → gShV (gPut (T nw) (gTyp S) (x + 26 * y)) V V' ch' cl' ∧ ∀ M', gOff (gMR o) M M' → M' o 0 = 0 → gLM X M' o (n + 1) (gTn T nw (gPut (T nw) (gTyp S) (x + 26 * y))) (gEr er nw) (nw + 1) (nw + 1) (ed + 1) [] V' ch' cl' → k (ch' : Int) M') :
    cI l G y_GM_put (gRm 700) true [gR G o, gI (x : Int), gI (y : Int)] X M k := by
  obtain ⟨a1, a2, a3, a4, ⟨L, N, f, R, c1, c2, c3, c4, c5, c6, c7, c8⟩, a6⟩ := _root_.id h
  obtain ⟨t1, t2, t3, t4, t5⟩ := htl
  refine r_put (d := 387) (N := N) (f := f) (R := R) (L := L) a1 hO hx hy rfl a6.2.1 a6.2.2 a6.1 a2.2.1 (by omega) rfl (a3 nw t1 t2) (t5 nw t1 t2) h4 c1 (by omega) c2 (by omega) c3 (by omega) c4 (by omega) ?_ ?_
  · intro bd M3 o3 e0 e72
    have g : gmGr M M3 o := gmGr.eq (fun i j i1 i2 => o3 _ _ (by omega)) (fun j hj => o3 _ _ (by omega))
    refine hk1 bd M3 (o3.mono (fun a j w => by unfold gMR; omega)) e0 (h.pu (o3.mono (fun a j w => by unfold gPuR; omega)) g ⟨L, N, f, R, (o3 _ _ (by omega)).trans c1, (o3 _ _ (by omega)).trans c2, (o3 _ _ (by omega)).trans c3, (o3 _ _ (by omega)).trans c4, by show L + 0 ≤ _; omega, by omega, by omega, by omega⟩ ⟨e72, fun j hj => absurd hj (Nat.not_lt_zero _), by decide⟩)
  · intro nb M3 o3 g3 e72 d2 d9 d13 d17 st3
    obtain ⟨⟨g1, g2, g4, g5⟩, _⟩ := _root_.id g3
    have h3 : gLM X M3 o (n + 1) T er nw lt ed [] V ch cl := by
      refine h.pu o3 g3 ⟨(M3 o 2).toNat, (M3 o 9).toNat, (M3 o 13).toNat, (M3 o 17).toNat, by omega, by omega, by omega, by omega, ?_, by omega, by omega, by omega⟩ ⟨e72, fun j hj => absurd hj (Nat.not_lt_zero _), by decide⟩
      show (M3 o 2).toNat + 0 ≤ _
      omega
    have o3m : gOff (gMR o) M M3 := o3.mono (fun a j w => by unfold gPuR gSlR at w; unfold gMR; omega)
    have hF2 : gSok (gPut (T nw) (gTyp S) (x + 26 * y)) := (t5 nw t1 t2).put (by omega) (fun S' tg e => by
      unfold gTyp at e
      split at e
      · exact nomatch e
      · cases e
        exact gCok_0 ‹_› a6.2.2 nb)
    refine r_acc (d := 586) (V' := V') (ch' := ch') (cl' := cl') hO h3 ⟨t1, t2, t3⟩ (by omega) (by omega) st3 hF2 (fun b M' o' e' L' => hk0 nb b M' (o3m.tr o') e' L') (fun b1 b2 => ?_)
    obtain ⟨s1, s2⟩ := hk nb b1 b2
    exact ⟨s1, fun M' o' e' L' => s2 M' (o3m.tr o') e' L'⟩
theorem r_GMputI (h : gLM X M o n T er nw lt ed S V ch cl) {x y : Int} (gx : g32 x) (gy : g32 y) (hb : ¬ gIs x y) (hk : ∀ M', gOff (gMR o) M M' → M' o 0 = 1 → gLM X M' o (n + 1) T er nw lt ed [] V ch cl → k 0 M') : cI l G y_GM_put (gRm 700) true [gR G o, gI x, gI y] X M k := by
  obtain ⟨a1, a2, a3, a4, ⟨L, N, f, R, c1, c2, c3, c4, c5, c6, c7, c8⟩, a6⟩ := _root_.id h
  refine e_GM_put (w_GM_put_0 (d := 699) a1 gx gy (fun _ => c_GM_inSheet gx gy ?_))
  rw [if_neg (by unfold gIs at hb; exact hb)]
  refine ⟨fun w => absurd rfl w, fun _ => c_GM_no a1 (g32_c rfl) (hk _ (((gOff.rf _ _).up (by unfold gMR; omega)).up (by unfold gMR; omega)) (gUp_eq _ _ _ _) ?_)⟩
  have u : ∀ j, j ≠ 0 → j ≠ 72 → gUp (gUp M o 72 0) o 0 1 o j = M o j := fun j h1 h2 => by rw [gUp_k h1, gUp_k h2]
  refine h.pu (((gOff.rf _ _).up (by unfold gPuR; omega)).up (by unfold gPuR; omega)) (gmGr.eq (fun i j i1 i2 => by rw [gUp_a (by omega), gUp_a (by omega)]) (fun j hj => u j (by omega) (by omega))) ⟨L, N, f, R, (u _ (by decide) (by decide)).trans c1, (u _ (by decide) (by decide)).trans c2, (u _ (by decide) (by decide)).trans c3, (u _ (by decide) (by decide)).trans c4, by show L + 0 ≤ _; omega, by omega, by omega, by omega⟩ ⟨by rw [gUp_k (by decide), gUp_eq]; rfl, fun j hj => absurd hj (Nat.not_lt_zero _), by decide⟩
theorem r_GMfill (hO : gOld G Q) (h : gLM X M o n T er nw lt ed S V ch cl) (htl : gTl T er nw lt n) (hn : n < 512) (hed : ed ≤ n) {x y c r e f : Nat} (hx : x < 26) (hy : y < 200) (hc : c ≤ e ∧ e < 26) (hr : r ≤ f ∧ f < 200)
    (hk0 : 400 < gCn (gnE (gWrt (T nw) (T nw (x + 26 * y)) (x + 26 * y) c r e f)) 5200 ∨ 20000 < gRsF (gWrt (T nw) (T nw (x + 26 * y)) (x + 26 * y) c r e f) 5200 → ∀ M', gOff (gMR o) M M' → M' o 0 = 2 → gLM X M' o (n + 1) T er nw lt ed S V ch cl → k 0 M')
    (hk : gCn (gnE (gWrt (T nw) (T nw (x + 26 * y)) (x + 26 * y) c r e f)) 5200 ≤ 400 → gRsF (gWrt (T nw) (T nw (x + 26 * y)) (x + 26 * y) c r e f) 5200 ≤ 20000 → gShV (gWrt (T nw) (T nw (x + 26 * y)) (x + 26 * y) c r e f) V V' ch' cl' ∧ ∀ M', gOff (gMR o) M M' → M' o 0 = 0 → gLM X M' o (n + 1) (gTn T nw (gWrt (T nw) (T nw (x + 26 * y)) (x + 26 * y) c r e f)) (gEr er nw) (nw + 1) (nw + 1) (ed + 1) S V' ch' cl' → k (ch' : Int) M') :
    cI l G y_GM_fill (gRm 700) true [gR G o, gI (x : Int), gI (y : Int), gI (c : Int), gI (r : Int), gI (e : Int), gI (f : Int)] X M k := by
  obtain ⟨a1, a2, a3, a4, a5, a6⟩ := _root_.id h
  obtain ⟨t1, t2, t3, t4, t5⟩ := htl
  have hF2 : gSok (gWrt (T nw) (T nw (x + 26 * y)) (x + 26 * y) c r e f) := (t5 nw t1 t2).wrt hc.2 hr.2 (fun S tg e => (t5 nw t1 t2 _ S tg e).2)
  refine r_fill (d := 698) a1 a2.2.1 (by omega) rfl (a3 nw t1 t2) (t5 nw t1 t2) hx hy hc hr (fun b => hk0 (Or.inl b) _ (gOff.m0 (gOff.rf _ _)) (gUp_eq _ _ _ _) (h.up0.mono (Nat.le_succ n))) (fun n4 M3 o3 st3 => ?_)
  refine r_acc (d := 586) (V' := V') (ch' := ch') (cl' := cl') hO ((h.sl o3).mono (Nat.le_succ n)) ⟨t1, t2, t3⟩ (by omega) (by omega) st3 hF2 (fun b M' o' e' L' => hk0 b M' ((gSlR.mr o3).tr o') e' L') (fun b1 b2 => ?_)
  obtain ⟨s1, s2⟩ := hk b1 b2
  exact ⟨s1, fun M' o' e' L' => s2 M' ((gSlR.mr o3).tr o') e' L'⟩
theorem r_GMfillB (h : gLM X M o n T er nw lt ed S V ch cl) {x y p q r s : Int} (gx : g32 x) (gy : g32 y) (gp : g32 p) (gq : g32 q) (gr : g32 r) (gs : g32 s) (hb : ¬ (gIs x y ∧ gIs p q ∧ gIs r s ∧ p ≤ r ∧ q ≤ s)) (hk : ∀ M', gOff (gMR o) M M' → M' o 0 = 1 → gLM X M' o (n + 1) T er nw lt ed S V ch cl → k 0 M') :
    cI l G y_GM_fill (gRm 700) true [gR G o, gI x, gI y, gI p, gI q, gI r, gI s] X M k := by
  have a1 := h.1
  have no0 : cI l G y_GM_no (gRm 699) true [gR G o, gI 1] X M (fun v w => k v w) := c_GM_no a1 (g32_c rfl) (hk _ (gOff.m0 (gOff.rf _ _)) (gUp_eq _ _ _ _) (h.up0.mono (Nat.le_succ n)))
  have no : wp l G y_GM_fill (gRm (699 + 1)) true (kkI X k) true 40 [.val (gR G o), .unset, .unset, .unset, .unset, .unset, .unset, .unset, .unset, .unset, .unset, .unset, .unset] [] X M 0 0 := w_GM_fill_40 (d := 699) a1 no0
  unfold gIs at hb
  refine e_GM_fill (w_GM_fill_0 (d := 699) a1 gx gy gp gq gr gs (c_GM_inSheet gx gy ?_))
  by_cases h1 : 0 ≤ x ∧ x < 26 ∧ 0 ≤ y ∧ y < 200
  · rw [if_pos h1]
    refine ⟨fun w => absurd w (by decide), fun _ => c_GM_inSheet gp gq ?_⟩
    by_cases h2 : 0 ≤ p ∧ p < 26 ∧ 0 ≤ q ∧ q < 200
    · rw [if_pos h2]
      refine ⟨fun w => absurd w (by decide), fun _ => c_GM_inSheet gr gs ?_⟩
      by_cases h3 : 0 ≤ r ∧ r < 26 ∧ 0 ≤ s ∧ s < 200
      · rw [if_pos h3]
        exact ⟨fun w => absurd w (by decide), fun _ => ⟨fun w => no, fun w => ⟨fun w2 => absurd ⟨h1, h2, h3, by omega, by omega⟩ hb, fun w2 => no⟩⟩⟩
      · rw [if_neg h3]
        exact ⟨fun _ => no, fun w => absurd rfl w⟩
    · rw [if_neg h2]
      exact ⟨fun _ => no, fun w => absurd rfl w⟩
  · rw [if_neg h1]
    exact ⟨fun _ => no, fun w => absurd rfl w⟩
/-- a shift -/
theorem r_GMshift (hO : gOld G Q) (h : gLM X M o n T er nw lt ed S V ch cl) (htl : gTl T er nw lt n) (hn : n < 512) (hed : ed ≤ n) (h4 : gCn (gnE (T nw)) 5200 ≤ 400) {cs i m : Int} (hL : gLin cs i m)
    (hk0 : (0 < m ∧ ∃ p : Nat, T nw p ≠ none ∧ gFp cs i m p = -1) ∨ 20000 < gRsF (gShft (T nw) cs i m) 5200 → ∀ M', gOff (gMR o) M M' → M' o 0 = 2 → gLM X M' o (n + 1) T er nw lt ed S V ch cl → k 0 M')
    (hk : (0 < m → ∀ p : Nat, T nw p ≠ none → gFp cs i m p ≠ -1) → gRsF (gShft (T nw) cs i m) 5200 ≤ 20000 → gShV (gShft (T nw) cs i m) V V' ch' cl' ∧ ∀ M', gOff (gMR o) M M' → M' o 0 = 0 → gLM X M' o (n + 1) (gTn T nw (gShft (T nw) cs i m)) (gEr er nw) (nw + 1) (nw + 1) (ed + 1) S V' ch' cl' → k (ch' : Int) M') :
    cI l G y_GM_shift (gRm 699) true [gR G o, gI cs, gI i, gI m] X M k := by
  obtain ⟨a1, a2, a3, a4, a5, a6⟩ := _root_.id h
  obtain ⟨t1, t2, t3, t4, t5⟩ := htl
  have hF2 : gSok (gShft (T nw) cs i m) := gSok.shft hL (t5 nw t1 t2)
  have n4 := gShft_n hL (t5 nw t1 t2)
  refine r_shift (d := 696) a1 a2.2.1 (by omega) rfl (a3 nw t1 t2) (t5 nw t1 t2) h4 hL (fun b M3 o3 => hk0 (Or.inl b) _ (gOff.m0 (gSlR.mr o3)) (gUp_eq _ _ _ _) ((h.sl o3).up0.mono (Nat.le_succ n))) (fun g M3 o3 st3 => ?_)
  refine r_acc (d := 585) (V' := V') (ch' := ch') (cl' := cl') hO ((h.sl o3).mono (Nat.le_succ n)) ⟨t1, t2, t3⟩ (by omega) (by omega) st3 hF2 (fun b M' o' e' L' => hk0 (b.elim (fun b1 => absurd b1 (by omega)) Or.inr) M' ((gSlR.mr o3).tr o') e' L') (fun b1 b2 => ?_)
  obtain ⟨s1, s2⟩ := hk g b2
  exact ⟨s1, fun M' o' e' L' => s2 M' ((gSlR.mr o3).tr o') e' L'⟩
theorem r_GMundo (hO : gOld G Q) (h : gLM X M o n T er nw lt ed S V ch cl) (htl : gTl T er nw lt n) (hn : n < 512) (hed : ed ≤ n)
    (hk0 : nw = er → ∀ M', gOff (gMR o) M M' → M' o 0 = 1 → gLM X M' o (n + 1) T er nw lt ed S V ch cl → k 0 M')
    (hk : er < nw → gCn (gnE (T (nw - 1))) 5200 ≤ 400 ∧ gShV (T (nw - 1)) V V' ch' cl' ∧ ∀ M', gOff (gMR o) M M' → M' o 0 = 0 → gLM X M' o (n + 1) T er (nw - 1) lt (ed + 1) S V' ch' cl' → k (ch' : Int) M') :
    cI l G y_GM_undo (gRm 700) true [gR G o] X M k := by
  obtain ⟨a1, a2, a3, a4, a5, a6⟩ := _root_.id h
  obtain ⟨t1, t2, t3, t4, t5⟩ := htl
  refine e_GM_undo (w_GM_undo_0 (d := 699) a1 ?_)
  rw [a2.2.1, a2.1]
  refine fun _ _ => ⟨fun ne _ => ?_, fun e => c_GM_no a1 (g32_c rfl) (hk0 (by omega) _ (gOff.m0 (gOff.rf _ _)) (gUp_eq _ _ _ _) (h.up0.mono (Nat.le_succ n)))⟩
  obtain ⟨h4, s1, s2⟩ := hk (by omega)
  rw [w32_id (x := (nw : Int) - 1) ⟨by omega, by omega⟩, show (nw : Int) - 1 = ((nw - 1 : Nat) : Int) by omega]
  refine r_shw (d := 587) (n := n + 1) (T := T) (er := er) (nw := nw - 1) (lt := lt) (ed := ed) (S := S) (V0 := V) (V := V') (ch := ch') (cl := cl') a1 hO ⟨by rw [gUp_k (by decide)]; exact a2.1, gUp_eq _ _ _ _, by rw [gUp_k (by decide)]; exact a2.2.2.1, by rw [gUp_k (by decide)]; exact a2.2.2.2⟩ (fun t h1 h2 => (a3 t h1 h2).kp (fun i j i1 i2 => gUp_a (by omega)) (fun j hj => gUp_k (by omega))) (a4.1.ag (fun a j h1 h2 => gUp_a (by omega))) ((a5.ag (fun j hj => gUp_k (by omega))).mono (Nat.le_succ n)) ⟨by rw [gUp_k (by decide)]; exact a6.1, fun j hj => by rw [gUp_a (by omega)]; exact a6.2.1 j hj, a6.2.2⟩ ⟨by omega, by omega⟩ (by omega) (by omega) (t5 _ (by omega) (by omega)) h4 s1 (fun M' o' e' L' => s2 M' (((gOff.rf _ _).up (by unfold gMR; omega)).tr o') e' L')
theorem r_GMredo (hO : gOld G Q) (h : gLM X M o n T er nw lt ed S V ch cl) (htl : gTl T er nw lt n) (hn : n < 512) (hed : ed ≤ n)
    (hk0 : nw = lt → ∀ M', gOff (gMR o) M M' → M' o 0 = 1 → gLM X M' o (n + 1) T er nw lt ed S V ch cl → k 0 M')
    (hk : nw < lt → gCn (gnE (T (nw + 1))) 5200 ≤ 400 ∧ gShV (T (nw + 1)) V V' ch' cl' ∧ ∀ M', gOff (gMR o) M M' → M' o 0 = 0 → gLM X M' o (n + 1) T er (nw + 1) lt (ed + 1) S V' ch' cl' → k (ch' : Int) M') :
    cI l G y_GM_redo (gRm 700) true [gR G o] X M k := by
  obtain ⟨a1, a2, a3, a4, a5, a6⟩ := _root_.id h
  obtain ⟨t1, t2, t3, t4, t5⟩ := htl
  refine e_GM_redo (w_GM_redo_0 (d := 699) a1 ?_)
  rw [a2.2.1, a2.2.2.1]
  refine fun _ _ => ⟨fun ne _ => ?_, fun e => c_GM_no a1 (g32_c rfl) (hk0 (by omega) _ (gOff.m0 (gOff.rf _ _)) (gUp_eq _ _ _ _) (h.up0.mono (Nat.le_succ n)))⟩
  obtain ⟨h4, s1, s2⟩ := hk (by omega)
  rw [w32_id (x := (nw : Int) + 1) ⟨by omega, by omega⟩, show (nw : Int) + 1 = ((nw + 1 : Nat) : Int) by omega]
  refine r_shw (d := 587) (n := n + 1) (T := T) (er := er) (nw := nw + 1) (lt := lt) (ed := ed) (S := S) (V0 := V) (V := V') (ch := ch') (cl := cl') a1 hO ⟨by rw [gUp_k (by decide)]; exact a2.1, gUp_eq _ _ _ _, by rw [gUp_k (by decide)]; exact a2.2.2.1, by rw [gUp_k (by decide)]; exact a2.2.2.2⟩ (fun t h1 h2 => (a3 t h1 h2).kp (fun i j i1 i2 => gUp_a (by omega)) (fun j hj => gUp_k (by omega))) (a4.1.ag (fun a j h1 h2 => gUp_a (by omega))) ((a5.ag (fun j hj => gUp_k (by omega))).mono (Nat.le_succ n)) ⟨by rw [gUp_k (by decide)]; exact a6.1, fun j hj => by rw [gUp_a (by omega)]; exact a6.2.1 j hj, a6.2.2⟩ ⟨by omega, by omega⟩ (by omega) (by omega) (t5 _ (by omega) (by omega)) h4 s1 (fun M' o' e' L' => s2 M' (((gOff.rf _ _).up (by unfold gMR; omega)).tr o') e' L')
end ggT
