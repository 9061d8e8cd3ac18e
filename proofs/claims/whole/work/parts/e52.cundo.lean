/-! The class's undo, redo. -/
section ggP
variable {l : Launch} {G : gG} {d Nr : Nat} {X X' : gX} {M M' N : gM} {c o n : Nat} {Rg : Nat → Nat} {v b : Nat} {w w1 : Nat → gVl} {T : Nat → gSht} {er nw lt ed : Nat} {S : List Int} {ch : Nat} {cl : Nat → Int} {F F0 F2 : gSht} {Q : gQ} {K : Outcome → gX → gM → Prop}
theorem c_mv (hO : gOld G Q) (h : gLC X M c n Rg v b w w1 T er nw lt ed S ch cl) {t : Nat} (ht : er ≤ t ∧ t ≤ lt) (ya : ∀ a j, a ≠ c → N a j = M a j) (y1 : N c 1 = M c 1) (y8 : N c 8 = ((t % 41 : Nat) : Int)) (y9 : N c 9 = ((t - er : Nat) : Int)) (y10 : N c 10 = ((lt - t : Nat) : Int)) (y11 : N c 11 = ((ed + 1 : Nat) : Int)) (hk : gKs K X M c n Rg v b w T er nw lt ed S t) :
    ((0 : Int) ≤ ((t % 41 : Nat) : Int) ∧ ((t % 41 : Nat) : Int) < 41) ∧ gsX X (X.2.2 (c + 23) (Int.toNat ((t % 41 : Nat) : Int))) ∧ (cXI l G y_Rs_follow (gRm 698) true [gR G (c + 234), gR G (X.2.2 (c + 23) (Int.toNat ((t % 41 : Nat) : Int)))] X N (fun v21 X23 M20 => glX X23 c ∧ (K (.returned (some (gI v21))) X23 M20))) := by
  obtain ⟨hX, hR, hc, hs, hz, hI, hct, hin, hch, ⟨t1, t2, t3, t4, t5⟩, hed⟩ := h
  have c1 := hX.1
  have rb : ∀ i, i < 42 → c + 23 < Rg i ∧ Rg i + 4 < c + 234 := fun i hi => (hR.2.2.1 i hi).2
  rw [Int.toNat_natCast, hR.1 _ (by omega)]
  have stk : ∀ {z : Nat} {F : gSht}, c + 23 < z → gSok F → gcSt M c z F → gcSt N c z F := fun {z F} hz hF y => y.kp hF (fun a j h1 h2 => ya _ _ (by omega)) (fun a j h1 => ya _ _ (by omega))
  refine ⟨⟨by omega, by omega⟩, (hR.2.2.1 _ (by omega)).1, ?_⟩
  exact c_fol (d := 688) (n := n + 1) (nw := t) (ed := ed + 1) (F0 := T nw) (i0 := nw % 41) hO hX hR ⟨y8, y9, y10, y11⟩ (fun u h1 h2 => stk (rb _ (by omega)).1 (t5 u h1 h2) (hs u h1 h2)) (fun i hi => (ya _ _ (by have := rb i hi; omega)).trans (hz i hi)) (by omega) (hI.kp hX (gGw.rf X 0) (Or.inl rfl) (fun a j h1 h2 => ya a j (by omega))) (t5 nw t1 t2) (stk (rb _ (by omega)).1 (t5 nw t1 t2) (hs nw t1 t2)) ((hct.kp (M' := N) (fun a j h1 h2 => ya _ _ (by omega))).mono (Nat.le_succ n)) ⟨y1.trans hin.1, fun j hj => (ya _ _ (by omega)).trans (hin.2.1 j hj), hin.2.2⟩ ⟨ht.1, ht.2, t3, by omega, t5⟩ (by omega) (fun X2 M2 w' ch' cl' s2 o2 L2 sh2 => hk X2 M2 w' ch' cl' s2 ((show gOff (gCR c) M N from fun a j y => ya a j (fun z => y (by unfold gCR; omega))).tr o2) L2 sh2)
theorem c_GLundo (hl : gOk l G) (hO : gOld G Q) (hN : 1 ≤ Nr) (h : gLC X M c n Rg v b w w1 T er nw lt ed S ch cl) (hz : gFr X M) (hn : n < 512) (k0 : nw = er → K (.threw (G.2.2.1 + (X.1 + 1))) (gNw X (20, 0)) M) (k1 : er < nw → gKs K X M c n Rg v b w T er nw lt ed S (nw - 1)) :
    gCt l G y_GL_undo (gRr 699 Nr) true [gR G c] X M K := by
  have hc := h.2.2.1
  obtain ⟨t1, t2, t3, t4, t5⟩ := h.2.2.2.2.2.2.2.2.2.1
  have hed := h.2.2.2.2.2.2.2.2.2.2
  refine eu_GL_undo (d := 691) (u_GL_undo_0 h.1 hl (fun _ => ⟨fun ne => ?_, fun e => ⟨hN, by rw [gZr_id hz]; exact k0 (by rw [hc.2.1] at e; omega)⟩⟩))
  rw [hc.2.1] at ne
  have e0 : w32 (((nw % 41 : Nat) : Int) + 41 - 1) = ((nw % 41 + 40 : Nat) : Int) := (w32_id ⟨by omega, by omega⟩).trans (by omega)
  have e1 : w32 ((((nw % 41 + 40 : Nat) : Int)).tmod 41) = (((nw - 1) % 41 : Nat) : Int) := by
    rw [Int.tmod_eq_emod_of_nonneg (by omega), show (((nw % 41 + 40 : Nat) : Int)) % 41 = (((nw - 1) % 41 : Nat) : Int) by omega]
    exact w32_id ⟨by omega, by omega⟩
  have e9 : w32 (((nw - er : Nat) : Int) - 1) = ((nw - 1 - er : Nat) : Int) := (w32_id ⟨by omega, by omega⟩).trans (by omega)
  have e10 : w32 (((lt - nw : Nat) : Int) + 1) = ((lt - (nw - 1) : Nat) : Int) := (w32_id ⟨by omega, by omega⟩).trans (by omega)
  have e11 : w32 ((ed : Int) + 1) = ((ed + 1 : Nat) : Int) := (w32_id ⟨by omega, by omega⟩).trans (by omega)
  rw [hc.1, e0, e1, gUp_k (by decide), hc.2.1, e9]
  have f10 : gUp (gUp M c 8 (((nw - 1) % 41 : Nat) : Int)) c 9 ((nw - 1 - er : Nat) : Int) c 10 = ((lt - nw : Nat) : Int) := by rw [gUp_k (by decide), gUp_k (by decide)]; exact hc.2.2.1
  rw [f10, e10]
  have f11 : gUp (gUp (gUp M c 8 (((nw - 1) % 41 : Nat) : Int)) c 9 ((nw - 1 - er : Nat) : Int)) c 10 ((lt - (nw - 1) : Nat) : Int) c 11 = (ed : Int) := by rw [gUp_k (by decide), gUp_k (by decide), gUp_k (by decide)]; exact hc.2.2.2
  rw [f11, e11]
  have y8 : gUp (gUp (gUp (gUp M c 8 (((nw - 1) % 41 : Nat) : Int)) c 9 ((nw - 1 - er : Nat) : Int)) c 10 ((lt - (nw - 1) : Nat) : Int)) c 11 ((ed + 1 : Nat) : Int) c 8 = (((nw - 1) % 41 : Nat) : Int) := by rw [gUp_k (by decide), gUp_k (by decide), gUp_k (by decide), gUp_eq]
  rw [y8]
  refine fun _ _ _ _ _ => c_mv hO h ⟨by omega, by omega⟩ (fun a j ha => by rw [gUp_a ha, gUp_a ha, gUp_a ha, gUp_a ha]) (by rw [gUp_k (by decide), gUp_k (by decide), gUp_k (by decide), gUp_k (by decide)]) y8 (by rw [gUp_k (by decide), gUp_k (by decide), gUp_eq]) (by rw [gUp_k (by decide), gUp_eq]) (gUp_eq _ _ _ _) (k1 (by omega))
theorem c_GLredo (hl : gOk l G) (hO : gOld G Q) (hN : 1 ≤ Nr) (h : gLC X M c n Rg v b w w1 T er nw lt ed S ch cl) (hz : gFr X M) (hn : n < 512) (k0 : nw = lt → K (.threw (G.2.2.1 + (X.1 + 1))) (gNw X (20, 0)) M) (k1 : nw < lt → gKs K X M c n Rg v b w T er nw lt ed S (nw + 1)) :
    gCt l G y_GL_redo (gRr 699 Nr) true [gR G c] X M K := by
  have hc := h.2.2.1
  obtain ⟨t1, t2, t3, t4, t5⟩ := h.2.2.2.2.2.2.2.2.2.1
  have hed := h.2.2.2.2.2.2.2.2.2.2
  refine eu_GL_redo (d := 691) (u_GL_redo_0 h.1 hl (fun _ => ⟨fun ne => ?_, fun e => ⟨hN, by rw [gZr_id hz]; exact k0 (by rw [hc.2.2.1] at e; omega)⟩⟩))
  rw [hc.2.2.1] at ne
  have e0 : w32 (((nw % 41 : Nat) : Int) + 1) = ((nw % 41 + 1 : Nat) : Int) := (w32_id ⟨by omega, by omega⟩).trans (by omega)
  have e1 : w32 ((((nw % 41 + 1 : Nat) : Int)).tmod 41) = (((nw + 1) % 41 : Nat) : Int) := by
    rw [Int.tmod_eq_emod_of_nonneg (by omega), show (((nw % 41 + 1 : Nat) : Int)) % 41 = (((nw + 1) % 41 : Nat) : Int) by omega]
    exact w32_id ⟨by omega, by omega⟩
  have e9 : w32 (((nw - er : Nat) : Int) + 1) = ((nw + 1 - er : Nat) : Int) := (w32_id ⟨by omega, by omega⟩).trans (by omega)
  have e10 : w32 (((lt - nw : Nat) : Int) - 1) = ((lt - (nw + 1) : Nat) : Int) := (w32_id ⟨by omega, by omega⟩).trans (by omega)
  have e11 : w32 ((ed : Int) + 1) = ((ed + 1 : Nat) : Int) := (w32_id ⟨by omega, by omega⟩).trans (by omega)
  rw [hc.1, e0, e1, gUp_k (by decide), hc.2.1, e9]
  have f10 : gUp (gUp M c 8 (((nw + 1) % 41 : Nat) : Int)) c 9 ((nw + 1 - er : Nat) : Int) c 10 = ((lt - nw : Nat) : Int) := by rw [gUp_k (by decide), gUp_k (by decide)]; exact hc.2.2.1
  rw [f10, e10]
  have f11 : gUp (gUp (gUp M c 8 (((nw + 1) % 41 : Nat) : Int)) c 9 ((nw + 1 - er : Nat) : Int)) c 10 ((lt - (nw + 1) : Nat) : Int) c 11 = (ed : Int) := by rw [gUp_k (by decide), gUp_k (by decide), gUp_k (by decide)]; exact hc.2.2.2
  rw [f11, e11]
  have y8 : gUp (gUp (gUp (gUp M c 8 (((nw + 1) % 41 : Nat) : Int)) c 9 ((nw + 1 - er : Nat) : Int)) c 10 ((lt - (nw + 1) : Nat) : Int)) c 11 ((ed + 1 : Nat) : Int) c 8 = (((nw + 1) % 41 : Nat) : Int) := by rw [gUp_k (by decide), gUp_k (by decide), gUp_k (by decide), gUp_eq]
  rw [y8]
  refine fun _ _ _ _ _ => c_mv hO h ⟨by omega, by omega⟩ (fun a j ha => by rw [gUp_a ha, gUp_a ha, gUp_a ha, gUp_a ha]) (by rw [gUp_k (by decide), gUp_k (by decide), gUp_k (by decide), gUp_k (by decide)]) y8 (by rw [gUp_k (by decide), gUp_k (by decide), gUp_eq]) (by rw [gUp_k (by decide), gUp_eq]) (gUp_eq _ _ _ _) (k1 (by omega))
end ggP
