/-! The class's fill, insert, erase, undo, redo. -/
def gKf (G : gG) (K : Outcome → gX → gM → Prop) (X : gX) (M : gM) (c n : Nat) (Rg : Nat → Nat) (v b : Nat) (w w1 : Nat → gVl) (T : Nat → gSht) (er nw lt ed : Nat) (S : List Int) (ch : Nat) (cl : Nat → Int) : Prop := ∀ X1 M1, gSm c X X1 → gOff (gCR c) M M1 → gLC X1 M1 c (n + 1) Rg v b w w1 T er nw lt ed S ch cl → K (.threw (G.2.2.1 + (X1.1 + 1))) (gNw X1 (20, 0)) M1
def gKl (K : Outcome → gX → gM → Prop) (X : gX) (M : gM) (c n v b : Nat) (w : Nat → gVl) (T : Nat → gSht) (er nw ed : Nat) (S : List Int) (F2 : gSht) : Prop := ∀ X' M' Rg' w' ch' cl', gSm c X X' → gOff (gCR c) M M' → gLC X' M' c (n + 1) Rg' b v w' w (gTn T nw F2) (gEr er nw) (nw + 1) (nw + 1) (ed + 1) S ch' cl' → gShV F2 (gEw (T nw) w) (gEw F2 w') ch' cl' → K (.returned (some (gI (ch' : Int)))) X' M'
/-- a state is shown again, t in place of nw -/
def gKs (K : Outcome → gX → gM → Prop) (X : gX) (M : gM) (c n : Nat) (Rg : Nat → Nat) (v b : Nat) (w : Nat → gVl) (T : Nat → gSht) (er nw lt ed : Nat) (S : List Int) (t : Nat) : Prop := ∀ X' M' w' ch' cl', gSm c X X' → gOff (gCR c) M M' → gLC X' M' c (n + 1) Rg b v w' w T er t lt (ed + 1) S ch' cl' → gShV (T t) (gEw (T nw) w) (gEw (T t) w') ch' cl' → K (.returned (some (gI (ch' : Int)))) X' M'
section ggO
variable {l : Launch} {G : gG} {d Nr : Nat} {X X' : gX} {M M' : gM} {c o n : Nat} {Rg : Nat → Nat} {v b : Nat} {w w1 : Nat → gVl} {T : Nat → gSht} {er nw lt ed : Nat} {S : List Int} {ch : Nat} {cl : Nat → Int} {F F0 F2 : gSht} {Q : gQ} {K : Outcome → gX → gM → Prop}
theorem gFr.off (hz : gFr X M) (hX : glX X c) (s : gSm c X X') (o : gOff (gCR c) M M') : gFr X' M' := fun a j ha => (o _ _ (by have := hX.2.1; rw [s.1] at ha; unfold gCR; omega)).trans (hz a j (by rw [s.1] at ha; exact ha))
theorem c_GLfill (hl : gOk l G) (hO : gOld G Q) (hN : 1 ≤ Nr) (h : gLC X M c n Rg v b w w1 T er nw lt ed S ch cl) (hz : gFr X M) (hn : n < 512) {x y c1 r1 d1 s1 : Nat} (hx : x < 26) (hy : y < 200) (hc : c1 ≤ d1 ∧ d1 < 26) (hr : r1 ≤ s1 ∧ s1 < 200)
    (k2 : (400 < gCn (gnE (gWrt (T nw) (T nw (x + 26 * y)) (x + 26 * y) c1 r1 d1 s1)) 5200 ∨ 20000 < gRsF (gWrt (T nw) (T nw (x + 26 * y)) (x + 26 * y) c1 r1 d1 s1) 5200) → gKf G K X M c n Rg v b w w1 T er nw lt ed S ch cl)
    (k1 : gCn (gnE (gWrt (T nw) (T nw (x + 26 * y)) (x + 26 * y) c1 r1 d1 s1)) 5200 ≤ 400 → gRsF (gWrt (T nw) (T nw (x + 26 * y)) (x + 26 * y) c1 r1 d1 s1) 5200 ≤ 20000 → gSok (gWrt (T nw) (T nw (x + 26 * y)) (x + 26 * y) c1 r1 d1 s1) → gKl K X M c n v b w T er nw ed S (gWrt (T nw) (T nw (x + 26 * y)) (x + 26 * y) c1 r1 d1 s1)) :
    gCt l G y_GL_fill (gRr 699 Nr) true [gR G c, gI (x : Int), gI (y : Int), gI (c1 : Int), gI (r1 : Int), gI (d1 : Int), gI (s1 : Int)] X M K := by
  have hX := h.1
  have cc1 := hX.1
  obtain ⟨t1, t2, t3, t4, t5⟩ := h.2.2.2.2.2.2.2.2.2.1
  have hed := h.2.2.2.2.2.2.2.2.2.2
  have i1 : gIs (x : Int) (y : Int) := by unfold gIs; omega
  refine eu_GL_fill (d := 691) (u_GL_fill_0 hX ⟨by omega, by omega⟩ ⟨by omega, by omega⟩ ⟨by omega, by omega⟩ ⟨by omega, by omega⟩ ⟨by omega, by omega⟩ ⟨by omega, by omega⟩ (Or.inr (c_cell1 (d := 689) hl i1 (Or.inr (c_cell1 (d := 689) hl (by unfold gIs; omega) (Or.inr (c_cell1 (d := 689) hl (by unfold gIs; omega) ⟨fun e => absurd e (by omega), fun _ => ⟨fun e => absurd e (by omega), fun _ => Or.inr (c_need1 (d := 690) hl (fun _ => c_opn (d := 698) (h.mono (Nat.le_succ n)) (fun X5 s5 g5 gl5 e3 e2 h5 o5 => ⟨gl5, c_GL_place i1 ?_⟩)))⟩⟩)))))))
  rw [show (x : Int) + 26 * (y : Int) = ((x + 26 * y : Nat) : Int) by omega]
  have R41 := (h.2.1.2.2.1 41 (by decide)).2
  have Rn := (h.2.1.2.2.1 (nw % 41) (by omega)).2
  have dj := h.2.1.2.2.2 41 (nw % 41) (by decide) (by omega) (by omega)
  have hF := t5 nw t1 t2
  have hp : x + 26 * y < 5200 := by omega
  have hF2 : gSok (gWrt (T nw) (T nw (x + 26 * y)) (x + 26 * y) c1 r1 d1 s1) := hF.wrt hc.2 hr.2 (fun S tg e => (hF _ S tg e).2)
  obtain ⟨_, _, _, _, _, _, _, _, _, _, z3, z6, z7⟩ := h5.2.2.2.2.2.2.1
  refine c_Ed_filled (d := 694) (r0 := Rg (nw % 41)) (r := Rg 41) (F := T nw) gl5 e3 e2 (by omega) (by omega) dj hF hp (h5.2.2.2.1 nw t1 t2) (gUp_eq _ _ _ _) (h5.2.2.2.2.1 41 (by decide)) z3 hc hr ?_ ?_
  · intro n4 n2 M3 o3 st3
    have h6 := h5.edd (gGw.rf X5 (c + 21)) gl5 o3
    exact Or.inr (c_lf (d := 688) hl hO h6 (by omega) (by omega) (by omega) hF2 st3 (fun X' M' Rg' w' ch' cl' s' o' L' sh' => k1 n4 n2 hF2 X' M' Rg' w' ch' cl' (s5.tr s') ((o5.tr (gEdR.cr o3 R41)).tr o') L' sh'))
  · intro bad M3 o3
    have h6 := h5.edd (gGw.rf X5 (c + 21)) gl5 o3
    exact Or.inl (c_land0 (d := 690) hl hN gl5 (hz.off hX s5 (o5.tr (gEdR.cr o3 R41))) (k2 bad X5 M3 s5 (o5.tr (gEdR.cr o3 R41)) h6))
theorem c_GLfillB (hl : gOk l G) (hN : 1 ≤ Nr) (h : gLC X M c n Rg v b w w1 T er nw lt ed S ch cl) (hz : gFr X M) {x y p q r s : Int} (gx : g32 x) (gy : g32 y) (gp : g32 p) (gq : g32 q) (gr : g32 r) (gs : g32 s) (hb : ¬ (gIs x y ∧ gIs p q ∧ gIs r s ∧ p ≤ r ∧ q ≤ s)) (k0 : K (.threw (G.2.2.1 + (X.1 + 1))) (gNw X (19, 0)) M) :
    gCt l G y_GL_fill (gRr 699 Nr) true [gR G c, gI x, gI y, gI p, gI q, gI r, gI s] X M K := by
  refine eu_GL_fill (d := 691) (u_GL_fill_0 h.1 gx gy gp gq gr gs ?_)
  by_cases h1 : gIs x y
  · refine Or.inr (c_cell1 (d := 689) hl h1 ?_)
    by_cases h2 : gIs p q
    · refine Or.inr (c_cell1 (d := 689) hl h2 ?_)
      by_cases h3 : gIs r s
      · exact Or.inr (c_cell1 (d := 689) hl h3 ⟨fun e => Or.inl (c_need0 (d := 690) hl hN hz k0), fun e => ⟨fun e2 => Or.inl (c_need0 (d := 690) hl hN hz k0), fun e2 => absurd ⟨h1, h2, h3, by omega, by omega⟩ hb⟩⟩)
      · exact Or.inl (c_cell0 (d := 689) hl hN hz gr gs h3 k0)
    · exact Or.inl (c_cell0 (d := 689) hl hN hz gp gq h2 k0)
  · exact Or.inl (c_cell0 (d := 689) hl hN hz gx gy h1 k0)
/-- a shift, behind the needs -/
theorem c_shf (hl : gOk l G) (hO : gOld G Q) (hN : 1 ≤ Nr) (h : gLC X M c n Rg v b w w1 T er nw lt ed S ch cl) (hz : gFr X M) (hn : n < 512) {cs i m x2 x4 : Int} (hL : gLin cs i m) (hx : (0 < m ∧ x2 = 1 ∧ x4 = m) ∨ (m < 0 ∧ x2 = 0 ∧ x4 = -m))
    (k2 : ((0 < m ∧ ∃ p : Nat, T nw p ≠ none ∧ gFp cs i m p = -1) ∨ 20000 < gRsF (gShft (T nw) cs i m) 5200) → gKf G K X M c n Rg v b w w1 T er nw lt ed S ch cl)
    (k1 : (0 < m → ∀ p : Nat, T nw p ≠ none → gFp cs i m p ≠ -1) → gRsF (gShft (T nw) cs i m) 5200 ≤ 20000 → gKl K X M c n v b w T er nw ed S (gShft (T nw) cs i m)) :
    ((0 : Int) ≤ M c 8 ∧ M c 8 < 41) ∧ gsX X (X.2.2 (c + 23) (Int.toNat (M c 8))) ∧ (gsX X (X.2.2 c 7) ∧ cX l G y_Ed_open (gRm 698) true [gR G (c + 21), gR G (X.2.2 (c + 23) (Int.toNat (M c 8))), gR G (X.2.2 c 7)] X M (fun X8 M7 => glX X8 c ∧ (cZ l G y_Ed_shifted (gRm 698) true [gR G (c + 21), gI cs, gI x2, gI i, gI x4] X8 M7 (fun v11 M10 => (cT l G y_GL_land (gRr 698 Nr) true [gR G c, gI v11] X8 M10 K ∨ cX l G y_GL_land (gRm 698) true [gR G c, gI v11] X8 M10 (fun X14 M13 => glX X14 c ∧ (g32 (M13 c 8) → (((0 : Int) ≤ M13 c 8 ∧ M13 c 8 < 41) ∧ gsX X14 (X14.2.2 (c + 23) (Int.toNat (M13 c 8))) ∧ (cXI l G y_Rs_follow (gRm 698) true [gR G (c + 234), gR G (X14.2.2 (c + 23) (Int.toNat (M13 c 8)))] X14 M13 (fun v20 X22 M19 => glX X22 c ∧ (K (.returned (some (gI v20))) X22 M19))))))))))) := by
  have hX := h.1
  have cc1 := hX.1
  obtain ⟨t1, t2, t3, t4, t5⟩ := h.2.2.2.2.2.2.2.2.2.1
  have hed := h.2.2.2.2.2.2.2.2.2.2
  refine c_opn (d := 698) (h.mono (Nat.le_succ n)) (fun X5 s5 g5 gl5 e3 e2 h5 o5 => ⟨gl5, ?_⟩)
  have R41 := (h.2.1.2.2.1 41 (by decide)).2
  have Rn := (h.2.1.2.2.1 (nw % 41) (by omega)).2
  have dj := h.2.1.2.2.2 41 (nw % 41) (by decide) (by omega) (by omega)
  have hF := t5 nw t1 t2
  refine c_Ed_shifted (d := 694) (r0 := Rg (nw % 41)) (r := Rg 41) (F := T nw) gl5 e3 e2 (by omega) (by omega) dj hL hF (h5.2.2.2.1 nw t1 t2) (gUp_eq _ _ _ _) (h5.2.2.2.2.1 41 (by decide)) hx ?_ ?_
  · intro n4 n2 M3 o3 st3
    have h6 := h5.edd (gGw.rf X5 (c + 21)) gl5 o3
    exact Or.inr (c_lf (d := 688) hl hO h6 (by omega) (by omega) (by omega) (gSok.shft hL hF) st3 (fun X' M' Rg' w' ch' cl' s' o' L' sh' => k1 n4 n2 X' M' Rg' w' ch' cl' (s5.tr s') ((o5.tr (gEdR.cr o3 R41)).tr o') L' sh'))
  · intro bad M3 o3
    have h6 := h5.edd (gGw.rf X5 (c + 21)) gl5 o3
    exact Or.inl (c_land0 (d := 690) hl hN gl5 (hz.off hX s5 (o5.tr (gEdR.cr o3 R41))) (k2 bad X5 M3 s5 (o5.tr (gEdR.cr o3 R41)) h6))
theorem c_GLinsert (hl : gOk l G) (hO : gOld G Q) (hN : 1 ≤ Nr) (h : gLC X M c n Rg v b w w1 T er nw lt ed S ch cl) (hz : gFr X M) (hn : n < 512) {cs i m : Int} (hs : 0 ≤ cs ∧ cs ≤ 1) (gi : g32 i) (gm : g32 m)
    (k0 : ¬ (0 ≤ i ∧ i < (if cs = 0 then 200 else 26) ∧ 1 ≤ m ∧ m ≤ 50) → K (.threw (G.2.2.1 + (X.1 + 1))) (gNw X (19, 0)) M)
    (k2 : (0 ≤ i ∧ i < (if cs = 0 then 200 else 26) ∧ 1 ≤ m ∧ m ≤ 50) → gLin cs i m → ((0 < m ∧ ∃ p : Nat, T nw p ≠ none ∧ gFp cs i m p = -1) ∨ 20000 < gRsF (gShft (T nw) cs i m) 5200) → gKf G K X M c n Rg v b w w1 T er nw lt ed S ch cl)
    (k1 : (0 ≤ i ∧ i < (if cs = 0 then 200 else 26) ∧ 1 ≤ m ∧ m ≤ 50) → gLin cs i m → (0 < m → ∀ p : Nat, T nw p ≠ none → gFp cs i m p ≠ -1) → gRsF (gShft (T nw) cs i m) 5200 ≤ 20000 → gKl K X M c n v b w T er nw ed S (gShft (T nw) cs i m)) :
    gCt l G y_GL_insert (gRr 699 Nr) true [gR G c, gI cs, gI i, gI m] X M K := by
  refine eu_GL_insert (d := 691) (u_GL_insert_0 h.1 hs gi gm ⟨fun e => Or.inl (c_need0 (d := 690) hl hN hz (k0 (by omega))), fun e => c_GL_lines hs ⟨fun e2 => Or.inl (c_need0 (d := 690) hl hN hz (k0 (by omega))), fun e2 => Or.inr (c_need1 (d := 690) hl ⟨fun e3 => Or.inl (c_need0 (d := 690) hl hN hz (k0 (by omega))), fun e3 => ⟨fun e4 => Or.inl (c_need0 (d := 690) hl hN hz (k0 (by omega))), fun e4 => Or.inr (c_need1 (d := 690) hl (fun _ => ?_))⟩⟩)⟩⟩)
  have L : gLin cs i m := ⟨by omega, by omega, by unfold gFm; omega, Or.inl ⟨by omega, by omega⟩⟩
  have g : 0 ≤ i ∧ i < (if cs = 0 then 200 else 26) ∧ 1 ≤ m ∧ m ≤ 50 := ⟨by omega, by omega, by omega, by omega⟩
  exact c_shf hl hO hN h hz hn L (Or.inl ⟨by omega, rfl, rfl⟩) (k2 g L) (k1 g L)
theorem c_GLerase (hl : gOk l G) (hO : gOld G Q) (hN : 1 ≤ Nr) (h : gLC X M c n Rg v b w w1 T er nw lt ed S ch cl) (hz : gFr X M) (hn : n < 512) {cs i m : Int} (hs : 0 ≤ cs ∧ cs ≤ 1) (gi : g32 i) (gm : g32 m)
    (k0 : ¬ (0 ≤ i ∧ i < (if cs = 0 then 200 else 26) ∧ 1 ≤ m ∧ m ≤ 50 ∧ i + m ≤ (if cs = 0 then 200 else 26)) → K (.threw (G.2.2.1 + (X.1 + 1))) (gNw X (19, 0)) M)
    (k2 : (0 ≤ i ∧ i < (if cs = 0 then 200 else 26) ∧ 1 ≤ m ∧ m ≤ 50 ∧ i + m ≤ (if cs = 0 then 200 else 26)) → gLin cs i (-m) → ((0 < -m ∧ ∃ p : Nat, T nw p ≠ none ∧ gFp cs i (-m) p = -1) ∨ 20000 < gRsF (gShft (T nw) cs i (-m)) 5200) → gKf G K X M c n Rg v b w w1 T er nw lt ed S ch cl)
    (k1 : (0 ≤ i ∧ i < (if cs = 0 then 200 else 26) ∧ 1 ≤ m ∧ m ≤ 50 ∧ i + m ≤ (if cs = 0 then 200 else 26)) → gLin cs i (-m) → (0 < -m → ∀ p : Nat, T nw p ≠ none → gFp cs i (-m) p ≠ -1) → gRsF (gShft (T nw) cs i (-m)) 5200 ≤ 20000 → gKl K X M c n v b w T er nw ed S (gShft (T nw) cs i (-m))) :
    gCt l G y_GL_erase (gRr 699 Nr) true [gR G c, gI cs, gI i, gI m] X M K := by
  have hL : (if cs = 0 then (200 : Int) else 26) ≤ 200 ∧ 26 ≤ (if cs = 0 then (200 : Int) else 26) := by split <;> omega
  refine eu_GL_erase (d := 691) (u_GL_erase_0 h.1 hs gi gm ⟨fun e => Or.inl (c_need0 (d := 690) hl hN hz (k0 (by omega))), fun e => c_GL_lines hs ⟨fun e2 => Or.inl (c_need0 (d := 690) hl hN hz (k0 (by omega))), fun e2 => Or.inr (c_need1 (d := 690) hl ⟨fun e3 => Or.inl (c_need0 (d := 690) hl hN hz (k0 (by omega))), fun e3 => ⟨fun e4 => Or.inl (c_need0 (d := 690) hl hN hz (k0 (by omega))), fun e4 => c_GL_lines hs ?_⟩⟩)⟩⟩)
  rw [w32_id (x := (if cs = 0 then (200 : Int) else 26) - i) (by unfold g32; omega)]
  refine ⟨fun e5 => Or.inl (c_need0 (d := 690) hl hN hz (k0 (by omega))), fun e5 => Or.inr (c_need1 (d := 690) hl (fun _ => ?_))⟩
  have L : gLin cs i (-m) := ⟨by omega, by omega, by unfold gFm; omega, Or.inr ⟨by omega, by omega⟩⟩
  have g : 0 ≤ i ∧ i < (if cs = 0 then 200 else 26) ∧ 1 ≤ m ∧ m ≤ 50 ∧ i + m ≤ (if cs = 0 then 200 else 26) := ⟨by omega, by omega, by omega, by omega, by omega⟩
  exact c_shf hl hO hN h hz hn L (Or.inr ⟨by omega, rfl, by omega⟩) (k2 g L) (k1 g L)
end ggO
