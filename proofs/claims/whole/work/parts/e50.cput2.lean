/-! The class's put. -/
section ggN
variable {l : Launch} {G : gG} {d Nr : Nat} {X X' : gX} {M M' : gM} {c o n : Nat} {Rg : Nat → Nat} {v b : Nat} {w w1 : Nat → gVl} {T : Nat → gSht} {er nw lt ed : Nat} {S : List Int} {ch : Nat} {cl : Nat → Int} {V : Int → gVl} {F F0 F2 : gSht} {r : Nat} {Q : gQ} {K : Outcome → gX → gM → Prop}
theorem gLC.fr (h : gLC X M c n Rg v b w w1 T er nw lt ed S ch cl) (hz : gFr X M) (o : gOff (gCR c) M M') : gFr X M' := fun a j ha => (o _ _ (by have := h.1.2.1; unfold gCR; omega)).trans (hz a j ha)
theorem c_opn (h : gLC X M c n Rg v b w w1 T er nw lt ed S ch cl) {k : gX → gM → Prop}
    (hk : ∀ X5, gSm c X X5 → gGw X X5 (c + 21) → glX X5 c → X5.2.2 (c + 21) 3 = Rg 41 ∧ gsX X5 (Rg 41) → X5.2.2 (c + 21) 2 = Rg (nw % 41) ∧ gsX X5 (Rg (nw % 41)) → gLC X5 (gUp M (Rg 41) 0 0) c n Rg v b w w1 T er nw lt ed S ch cl → gOff (gCR c) M (gUp M (Rg 41) 0 0) → k X5 (gUp M (Rg 41) 0 0)) :
    ((0 : Int) ≤ M c 8 ∧ M c 8 < 41) ∧ gsX X (X.2.2 (c + 23) (Int.toNat (M c 8))) ∧ (gsX X (X.2.2 c 7) ∧ cX l G y_Ed_open (gRm d) true [gR G (c + 21), gR G (X.2.2 (c + 23) (Int.toNat (M c 8))), gR G (X.2.2 c 7)] X M k) := by
  have hX := h.1
  have hR := h.2.1
  have c1 := hX.1
  rw [h.2.2.1.1, Int.toNat_natCast, hR.1 _ (by omega), hR.2.1]
  have s1 := hR.2.2.1 (nw % 41) (by omega)
  have s2 := hR.2.2.1 41 (by omega)
  refine ⟨⟨by omega, by omega⟩, s1.1, s2.1, c_Ed_open hX s1.1 s2.1 (by omega) ?_⟩
  have w5 : gGw X (gGu (gGu X (c + 21) 2 (Rg (nw % 41))) (c + 21) 3 (Rg 41)) (c + 21) := (gGw.gu X (c + 21) 2 (Rg (nw % 41))).tr (gGw.gu _ (c + 21) 3 (Rg 41))
  have g5 : glX (gGu (gGu X (c + 21) 2 (Rg (nw % 41))) (c + 21) 3 (Rg 41)) c := (hX.gu (i := 21) (k := 2) (Rg (nw % 41)) (by decide) ⟨by decide, by decide⟩).gu (i := 21) (k := 3) (Rg 41) (by decide) ⟨by decide, by decide⟩
  refine hk _ (((gSm.rf c X).gu (a := c + 21) 2 (Rg (nw % 41)) (by omega)).gu (a := c + 21) 3 (Rg 41) (by omega)) w5 g5 ⟨gGu_k _ _ _ _, s2.1.grow w5 (by omega)⟩ ⟨(gGu_o _ _ (by omega)).trans (gGu_k _ _ _ _), s1.1.grow w5 (by omega)⟩ (h.edd w5 g5 ((gOff.rf _ M).up ?_)) ((gOff.rf _ M).up ?_)
  · unfold gEdR gStR; omega
  · unfold gCR; omega
theorem gEdR.cr {r : Nat} (o : gOff (gEdR c r) M M') (hr : c + 23 < r ∧ r + 4 < c + 234) : gOff (gCR c) M M' := o.mono (fun a j h => by unfold gEdR gStR at h; unfold gCR; omega)
/-- what the class's edits do, behind their needs -/
theorem c_GLput (hl : gOk l G) (hO : gOld G Q) (hN : 1 ≤ Nr) (h : gLC X M c n Rg v b w w1 T er nw lt ed S ch cl) (hz : gFr X M) (hn : n < 512) {x y : Int} (hx : g32 x) (hy : g32 y)
    (k0 : ¬ gIs x y ∨ gBadS S → ∀ M1, gOff (gCR c) M M1 → gLC X M1 c (n + 1) Rg v b w w1 T er nw lt ed [] ch cl → K (.threw (G.2.2.1 + (X.1 + 1))) (gNw X (19, 0)) M1)
    (k2 : gIs x y → ¬ gBadS S → (400 < gCn (gnE (gPut (T nw) (gTyp S) (x + 26 * y).toNat)) 5200 ∨ 20000 < gRsF (gPut (T nw) (gTyp S) (x + 26 * y).toNat) 5200) → ∀ X1 M1, gSm c X X1 → gOff (gCR c) M M1 → gLC X1 M1 c (n + 1) Rg v b w w1 T er nw lt ed [] ch cl → K (.threw (G.2.2.1 + (X1.1 + 1))) (gNw X1 (20, 0)) M1)
    (k1 : gIs x y → ¬ gBadS S → gCn (gnE (gPut (T nw) (gTyp S) (x + 26 * y).toNat)) 5200 ≤ 400 → gRsF (gPut (T nw) (gTyp S) (x + 26 * y).toNat) 5200 ≤ 20000 → gSok (gPut (T nw) (gTyp S) (x + 26 * y).toNat) → ∀ X' M' Rg' w' ch' cl', gSm c X X' → gOff (gCR c) M M' → gLC X' M' c (n + 1) Rg' b v w' w (gTn T nw (gPut (T nw) (gTyp S) (x + 26 * y).toNat)) (gEr er nw) (nw + 1) (nw + 1) (ed + 1) [] ch' cl' → gShV (gPut (T nw) (gTyp S) (x + 26 * y).toNat) (gEw (T nw) w) (gEw (gPut (T nw) (gTyp S) (x + 26 * y).toNat) w') ch' cl' → K (.returned (some (gI (ch' : Int)))) X' M') :
    gCt l G y_GL_put (gRr 699 Nr) true [gR G c, gI x, gI y] X M K := by
  have hX := h.1
  have c1 := hX.1
  have hin := h.2.2.2.2.2.2.2.1
  obtain ⟨t1, t2, t3, t4, t5⟩ := h.2.2.2.2.2.2.2.2.2.1
  have hed := h.2.2.2.2.2.2.2.2.2.2
  refine eu_GL_put (d := 691) (u_GL_put_0 hX hx hy (fun _ => ?_))
  rw [hin.1]
  have h1 := h.clr
  have o1 : gOff (gCR c) M (gUp M c 1 0) := (gOff.rf _ M).up (by unfold gCR; omega)
  have B1 : ∀ j, j < S.length → gUp M c 1 0 (c + 1) j = S.getD j 0 := fun j hj => by rw [gUp_a (by omega)]; exact hin.2.1 j hj
  obtain ⟨id, cs, rf, bs, a1, a2, a3, a4, a5, a6, a7⟩ := (h.2.2.2.2.2.2.1).kp (M' := gUp M c 1 0) (fun a j h1 h2 => gUp_a (by omega))
  generalize gUp M c 1 0 = M1 at h1 o1 B1 a1 a2 a3 a4 a7 ⊢
  by_cases hIs : gIs x y
  · refine Or.inr (c_cell1 hl hIs ?_)
    have hp : (x + 26 * y).toNat < 5200 := by unfold gIs at hIs; omega
    have ep : x + 26 * y = ((x + 26 * y).toNat : Int) := by unfold gIs at hIs; omega
    -- the edit
    have go : ¬ gBadS S → ∀ (M2 : gM) (i : Nat), gOff (gCR c) M M2 → gLC X M2 c (n + 1) Rg v b w w1 T er nw lt ed [] ch cl → ((gTyp S = none ∧ i = 0) ∨ ∃ S', gTyp S = some (S', gTg0 S') ∧ gCok S' (gTg0 S') ∧ 0 < i ∧ gcCn M2 c i S') → (((i : Int) = (-1) → (cT l G y_GL_need (gRr 698 Nr) false [gI 0] X M2 K ∨ cV l G y_GL_need (gRm 698) false [gI 0] X M2 (fun M6 => (g32 (M6 c 8) → (((0 : Int) ≤ M6 c 8 ∧ M6 c 8 < 41) ∧ gsX X (X.2.2 (c + 23) (Int.toNat (M6 c 8))) ∧ (gsX X (X.2.2 c 7) ∧ (cX l G y_Ed_open (gRm 698) true [gR G (c + 21), gR G (X.2.2 (c + 23) (Int.toNat (M6 c 8))), gR G (X.2.2 c 7)] X M6 (fun X12 M11 => glX X12 c ∧ (((i : Int) = (-2) → (cT l G y_GL_land (gRr 698 Nr) true [gR G c, gI 0] X12 M11 K ∨ cX l G y_GL_land (gRm 698) true [gR G c, gI 0] X12 M11 (fun X15 M14 => glX X15 c ∧ (g32 (M14 c 8) → (((0 : Int) ≤ M14 c 8 ∧ M14 c 8 < 41) ∧ gsX X15 (X15.2.2 (c + 23) (Int.toNat (M14 c 8))) ∧ (cXI l G y_Rs_follow (gRm 698) true [gR G (c + 234), gR G (X15.2.2 (c + 23) (Int.toNat (M14 c 8)))] X15 M14 (fun v21 X23 M20 => glX X23 c ∧ (K (.returned (some (gI v21))) X23 M20)))))))) ∧ (¬ (i : Int) = (-2) → (cI l G y_GL_place (gRm 698) false [gI x, gI y] X12 M11 (fun v26 M25 => (cZ l G y_Ed_replaced (gRm 698) true [gR G (c + 21), gI v26, gI (i : Int)] X12 M25 (fun v29 M28 => ((v29 = 0 → (cT l G y_GL_land (gRr 698 Nr) true [gR G c, gI 0] X12 M28 K ∨ cX l G y_GL_land (gRm 698) true [gR G c, gI 0] X12 M28 (fun X32 M31 => glX X32 c ∧ (g32 (M31 c 8) → (((0 : Int) ≤ M31 c 8 ∧ M31 c 8 < 41) ∧ gsX X32 (X32.2.2 (c + 23) (Int.toNat (M31 c 8))) ∧ (cXI l G y_Rs_follow (gRm 698) true [gR G (c + 234), gR G (X32.2.2 (c + 23) (Int.toNat (M31 c 8)))] X32 M31 (fun v38 X40 M37 => glX X40 c ∧ (K (.returned (some (gI v38))) X40 M37)))))))) ∧ (¬ v29 = 0 → (cT l G y_GL_land (gRr 698 Nr) true [gR G c, gI 1] X12 M28 K ∨ cX l G y_GL_land (gRm 698) true [gR G c, gI 1] X12 M28 (fun X43 M42 => glX X43 c ∧ (g32 (M42 c 8) → (((0 : Int) ≤ M42 c 8 ∧ M42 c 8 < 41) ∧ gsX X43 (X43.2.2 (c + 23) (Int.toNat (M42 c 8))) ∧ (cXI l G y_Rs_follow (gRm 698) true [gR G (c + 234), gR G (X43.2.2 (c + 23) (Int.toNat (M42 c 8)))] X43 M42 (fun v49 X51 M48 => glX X51 c ∧ (K (.returned (some (gI v49))) X51 M48))))))))))))))))))))))) ∧ (¬ (i : Int) = (-1) → (cT l G y_GL_need (gRr 698 Nr) false [gI 1] X M2 K ∨ cV l G y_GL_need (gRm 698) false [gI 1] X M2 (fun M55 => (g32 (M55 c 8) → (((0 : Int) ≤ M55 c 8 ∧ M55 c 8 < 41) ∧ gsX X (X.2.2 (c + 23) (Int.toNat (M55 c 8))) ∧ (gsX X (X.2.2 c 7) ∧ (cX l G y_Ed_open (gRm 698) true [gR G (c + 21), gR G (X.2.2 (c + 23) (Int.toNat (M55 c 8))), gR G (X.2.2 c 7)] X M55 (fun X61 M60 => glX X61 c ∧ (((i : Int) = (-2) → (cT l G y_GL_land (gRr 698 Nr) true [gR G c, gI 0] X61 M60 K ∨ cX l G y_GL_land (gRm 698) true [gR G c, gI 0] X61 M60 (fun X64 M63 => glX X64 c ∧ (g32 (M63 c 8) → (((0 : Int) ≤ M63 c 8 ∧ M63 c 8 < 41) ∧ gsX X64 (X64.2.2 (c + 23) (Int.toNat (M63 c 8))) ∧ (cXI l G y_Rs_follow (gRm 698) true [gR G (c + 234), gR G (X64.2.2 (c + 23) (Int.toNat (M63 c 8)))] X64 M63 (fun v70 X72 M69 => glX X72 c ∧ (K (.returned (some (gI v70))) X72 M69)))))))) ∧ (¬ (i : Int) = (-2) → (cI l G y_GL_place (gRm 698) false [gI x, gI y] X61 M60 (fun v75 M74 => (cZ l G y_Ed_replaced (gRm 698) true [gR G (c + 21), gI v75, gI (i : Int)] X61 M74 (fun v78 M77 => ((v78 = 0 → (cT l G y_GL_land (gRr 698 Nr) true [gR G c, gI 0] X61 M77 K ∨ cX l G y_GL_land (gRm 698) true [gR G c, gI 0] X61 M77 (fun X81 M80 => glX X81 c ∧ (g32 (M80 c 8) → (((0 : Int) ≤ M80 c 8 ∧ M80 c 8 < 41) ∧ gsX X81 (X81.2.2 (c + 23) (Int.toNat (M80 c 8))) ∧ (cXI l G y_Rs_follow (gRm 698) true [gR G (c + 234), gR G (X81.2.2 (c + 23) (Int.toNat (M80 c 8)))] X81 M80 (fun v87 X89 M86 => glX X89 c ∧ (K (.returned (some (gI v87))) X89 M86)))))))) ∧ (¬ v78 = 0 → (cT l G y_GL_land (gRr 698 Nr) true [gR G c, gI 1] X61 M77 K ∨ cX l G y_GL_land (gRm 698) true [gR G c, gI 1] X61 M77 (fun X92 M91 => glX X92 c ∧ (g32 (M91 c 8) → (((0 : Int) ≤ M91 c 8 ∧ M91 c 8 < 41) ∧ gsX X92 (X92.2.2 (c + 23) (Int.toNat (M91 c 8))) ∧ (cXI l G y_Rs_follow (gRm 698) true [gR G (c + 234), gR G (X92.2.2 (c + 23) (Int.toNat (M91 c 8)))] X92 M91 (fun v98 X100 M97 => glX X100 c ∧ (K (.returned (some (gI v98))) X100 M97)))))))))))))))))))))))) := by
      intro nb M2 i o2 h2 hi
      refine ⟨fun e => absurd e (by omega), fun _ => Or.inr (c_need1 (d := 690) hl (fun _ => c_opn (d := 698) h2 (fun X5 s5 g5 gl5 e3 e2 h5 o5 => ⟨gl5, fun e => absurd e (by omega), fun _ => c_GL_place hIs ?_⟩)))⟩
      rw [ep]
      have R41 := (h2.2.1.2.2.1 41 (by decide)).2
      have Rn := (h2.2.1.2.2.1 (nw % 41) (by omega)).2
      have dj := h2.2.1.2.2.2 41 (nw % 41) (by decide) (by omega) (by omega)
      have xok : ∀ S' tg, gTyp S = some (S', tg) → gCok S' tg := fun S' tg e => by
        rcases hi with y | ⟨S2, y1, y2, _⟩
        · rw [y.1] at e; exact nomatch e
        · rw [y1] at e; cases e; exact y2
      have hF2 := (t5 nw t1 t2).put hp xok
      obtain ⟨_, _, _, _, _, _, _, _, _, _, z3, z6, z7⟩ := h5.2.2.2.2.2.2.1
      refine c_Ed_replaced (d := 694) (x := gTyp S) (r0 := Rg (nw % 41)) (r := Rg 41) (F := T nw) gl5 e3 e2 (by omega) (by omega) dj (t5 nw t1 t2) hp (h5.2.2.2.1 nw t1 t2) (gUp_eq _ _ _ _) (h5.2.2.2.2.1 41 (by decide)) ?_ ?_ ?_
      · rcases hi with y | ⟨S2, y1, y2, y3, y4⟩
        · exact Or.inl ⟨y.1, y.2, z6, z7⟩
        · exact Or.inr ⟨S2, y1, y2, y3, y4.kp y2.1 y2.2.2.1 (fun a j h1 h2 => gUp_a (by omega))⟩
      · intro n4 n2 M3 o3 st3
        have h6 := h5.edd (gGw.rf X5 (c + 21)) gl5 o3
        refine ⟨fun e => absurd e (by decide), fun _ => Or.inr (c_lf (d := 688) hl hO h6 (by omega) (by omega) (by omega) hF2 st3 (fun X' M' Rg' w' ch' cl' s' o' L' sh' => k1 hIs nb n4 n2 hF2 X' M' Rg' w' ch' cl' (s5.tr s') (((o2.tr o5).tr (gEdR.cr o3 R41)).tr o') L' sh'))⟩
      · intro bad M3 o3
        have h6 := h5.edd (gGw.rf X5 (c + 21)) gl5 o3
        refine ⟨fun _ => Or.inl (c_land0 (d := 690) hl hN gl5 ?_ (k2 hIs nb bad X5 M3 s5 ((o2.tr o5).tr (gEdR.cr o3 R41)) h6)), fun e => absurd rfl e⟩
        exact h6.fr (M := M3) (M' := M3) (fun a j ha => ((((o2.tr o5).tr (gEdR.cr o3 R41)) _ _ (by have := hX.2.1; rw [s5.1] at ha; unfold gCR; omega)).trans (hz a j (by rw [s5.1] at ha; exact ha)))) (gOff.rf _ _)
    have hm := h1.mono (Nat.le_succ n)
    refine c_Rd_typed (d := 385) (id := id) (cs := cs) (R0 := rf) (bs := bs) hX hO B1 hin.2.2 a1 (by omega) a2 a3 a4 ⟨by omega, by omega, by omega⟩ ?_ ?_ ?_ ?_
    · intro e0
      exact go (fun bd => by
        rw [e0] at bd
        rcases bd with bd | bd
        · exact bd (fun b hb => absurd hb (List.not_mem_nil))
        · exact absurd bd.2 (by decide)) M1 0 o1 hm (Or.inl ⟨if_pos e0, rfl⟩)
    · intro ne bd
      exact ⟨fun _ => Or.inl (c_need0 (d := 690) hl hN (h.fr hz o1) (k0 (Or.inr bd) M1 o1 hm)), fun e => absurd rfl e⟩
    · intro ne nb e rs ht M2 bs' oT cf bb rfm co
      have ln := gTree_ln ht ne
      obtain ⟨f1, f2, f3, f4, f5, f6, f7, f8, f9⟩ := _root_.id cf
      have o2 : gOff (gCR c) M1 M2 := oT.mono (fun a j h => by unfold gTyR gFoR gRdR gTkF at h; unfold gCR; omega)
      have gr := gTyR.gr oT a1 a2 a3 a4 (by rw [f1]; omega) (by rw [f7]; omega) (by rw [f8]; omega) (by rw [f9]; omega)
      refine go nb M2 id (o1.tr o2) (h1.ty (n2 := n + 1) a5.1 oT gr (Nat.le_succ n) f1 f7 f8 f9 (by omega) ⟨by omega, by omega, by omega⟩) (Or.inr ⟨S, if_neg ne, gCok_0 ne hin.2.2 nb, by omega, gcCn_ty ne nb ht (by omega) ⟨by omega, by omega, by omega⟩ cf rfm co⟩)
    · intro ne nb ht M2 bs' oT cf bb f80 co
      obtain ⟨f1, f2, f3, f4, f5, f6, f7, f8, f9⟩ := _root_.id cf
      have l1 : 1 ≤ S.length := by
        cases S with
        | nil => exact absurd rfl ne
        | cons a b => exact Nat.le_add_left 1 _
      have o2 : gOff (gCR c) M1 M2 := oT.mono (fun a j h => by unfold gTyR gFoR gRdR gTkF at h; unfold gCR; omega)
      have gr := gTyR.gr oT a1 a2 a3 a4 (by rw [f1]; omega) (by rw [f7]; omega) (by rw [f8]; omega) (by rw [f9]; omega)
      refine go nb M2 id (o1.tr o2) (h1.ty (n2 := n + 1) a5.1 oT gr (Nat.le_succ n) f1 f7 f8 f9 (by omega) ⟨by omega, by omega, by omega⟩) (Or.inr ⟨S, if_neg ne, gCok_0 ne hin.2.2 nb, by omega, gcCn_ty0 ne ht (by omega) ⟨by omega, by omega, by omega⟩ cf f80 co⟩)
  · exact Or.inl (c_cell0 (d := 689) hl hN (h.fr hz o1) hx hy hIs (k0 (Or.inl hIs) M1 o1 (h1.mono (Nat.le_succ n))))
end ggN
