/-! The reference: a formula is read. -/
def gFmR (o N R F : Nat) : Nat → Nat → Prop := fun x j => gCtF o 0 x j ∨ gPaR o N R x j ∨ (x = o ∧ j = 13) ∨ (o + 7 ≤ x ∧ x ≤ o + 9 ∧ j = F)
section gdAO
variable {l : Launch} {G : gG} {d : Nat} {X : gX} {M M2 : gM} {o L : Nat} {Q : gQ} {S : List Int} {F N R : Nat}
theorem r_form73 {k : Int → gM → Prop} {N' R' : Nat} {x4 : Int} (hX : gmX X o) (hF : F < 4200) (hN : N ≤ 90000) (h4 : g32 x4) (hR : R ≤ R' ∧ R' ≤ 45000) (m13 : M o 13 = (F : Int)) (m9 : M o 9 = (N' : Int)) (m17 : M o 17 = (R' : Int)) (m8 : M (o + 8) F = (R : Int))
    (h0 : M o 27 = 1 → k (F : Int) (gUp (gUp (gUp (gUp (gUp M o 9 (N : Int)) o 17 (R : Int)) (o + 7) F (-1)) (o + 9) F 0) o 13 ((F + 1 : Nat) : Int)))
    (h1 : M o 27 = 0 → k (F : Int) (gUp (gUp (gUp M (o + 7) F x4) (o + 9) F ((R' - R : Nat) : Int)) o 13 ((F + 1 : Nat) : Int))) (h27 : M o 27 = 0 ∨ M o 27 = 1) : wp l G y_GM_form (gRm (d + 1)) true (kkI X k) true 73 [.val (gR G o), .unset, .unset, .val (gI (N : Int)), .val (gI x4)] [] X M 0 0 := by
  refine w_GM_form_73 hX ⟨by omega, by omega⟩ h4 ?_
  have e1 : w32 ((F : Int) + 1) = ((F + 1 : Nat) : Int) := (w32_id ⟨by omega, by omega⟩).trans (by omega)
  have e2 : w32 (((F + 1 : Nat) : Int) - 1) = (F : Int) := (w32_id ⟨by omega, by omega⟩).trans (by omega)
  have e3 : w32 ((R' : Int) - (R : Int)) = ((R' - R : Nat) : Int) := (w32_id ⟨by omega, by omega⟩).trans (by omega)
  have e4 : w32 ((R : Int) - (R : Int)) = 0 := (w32_id ⟨by omega, by omega⟩).trans (by omega)
  simp (disch := decide) only [gUp_o, gUp_oo, gUp_ao, gUp_k, gUp_eq, m13, m17, m8, Int.toNat_natCast, e1, e2, e3, e4]
  rcases h27 with z | z
  · rw [z]
    refine fun _ => ⟨fun _ _ _ => ⟨fun _ => ⟨⟨by omega, by omega⟩, fun _ _ _ => ⟨⟨by omega, by omega⟩, fun _ => ⟨⟨by omega, by omega⟩, fun _ _ => h1 z⟩⟩⟩, fun y => absurd rfl y⟩, fun y => absurd rfl y⟩
  · rw [z]
    refine fun _ => ⟨fun y => absurd y (by decide), fun _ _ => ⟨⟨by omega, by omega⟩, fun _ _ _ => ⟨fun y => absurd y (by decide), fun _ => ⟨⟨by omega, by omega⟩, fun _ _ _ => ⟨⟨by omega, by omega⟩, fun _ => ⟨⟨by omega, by omega⟩, fun _ _ => h0 z⟩⟩⟩⟩⟩⟩
theorem r_form {k : Int → gM → Prop} (hX : gmX X o) (hO : gOld G Q) (hI : gInm M o L S) (hl1 : 1 ≤ S.length) (m9 : M o 9 = (N : Int)) (hN : N ≤ 89700) (m13 : M o 13 = (F : Int)) (hF : F < 4200) (m17 : M o 17 = (R : Int)) (hR : R ≤ 44700)
    (h0 : gForm S = none → ∀ M2, gOff (gFmR o N R F) M M2 → M2 o 9 = (N : Int) → M2 o 13 = ((F + 1 : Nat) : Int) → M2 o 17 = (R : Int) → M2 (o + 7) F = -1 → M2 (o + 8) F = (R : Int) → M2 (o + 9) F = 0 → k (F : Int) M2)
    (h1 : ∀ e rs, gForm S = some (e, rs) → ∀ (M2 : gM) (N' : Nat) (v : Int), gOff (gFmR o N R F) M M2 → M2 o 9 = (N' : Int) → N ≤ N' → N' ≤ N + 100 → M2 o 13 = ((F + 1 : Nat) : Int) → M2 o 17 = ((R + rs.length : Nat) : Int) → M2 (o + 7) F = v → M2 (o + 8) F = (R : Int) → M2 (o + 9) F = (rs.length : Int) → gxNs M2 o L (L + S.length) N N' e v → (∀ i, i < rs.length → M2 (o + 10) (R + i) = (rs.getD i (0, 0, 0)).1 ∧ M2 (o + 11) (R + i) = (rs.getD i (0, 0, 0)).2.1 ∧ M2 (o + 12) (R + i) = (rs.getD i (0, 0, 0)).2.2) → k (F : Int) M2) : cI l G y_GM_form (gRm (d + 312)) true [gR G o, gI ((L + 1 : Nat) : Int), gI ((L + S.length : Nat) : Int)] X M k := by
  have hl := hI.2.1
  have hl2 := hI.2.2.1
  refine e_GM_form (w_GM_form_0 (d := d + 311) hX ⟨by omega, by omega⟩ ⟨by omega, by omega⟩ ?_)
  simp (disch := decide) only [gUp_o, gUp_oo, gUp_ao, gUp_k, gUp_eq, m13, m17, m9, Int.toNat_natCast]
  refine fun _ _ => ⟨⟨by omega, by omega⟩, fun _ => ?_⟩
  have o1 : gOff (gFmR o N R F) M (gUp (gUp (gUp (gUp M o 27 0) o 25 0) o 26 0) (o + 8) F (R : Int)) := by
    refine ((((gOff.rf _ M).up ?_).up ?_).up ?_).up ?_ <;> unfold gFmR gPaR <;> omega
  have i1 : gInm (gUp (gUp (gUp (gUp M o 27 0) o 25 0) o 26 0) (o + 8) F (R : Int)) o L S := hI.kp (fun j => by rw [gUp_a (by omega), gUp_a (by omega), gUp_a (by omega), gUp_a (by omega)])
  have f1 : ∀ j, j ≠ 27 → j ≠ 25 → j ≠ 26 → gUp (gUp (gUp (gUp M o 27 0) o 25 0) o 26 0) (o + 8) F (R : Int) o j = M o j := fun j h1 h2 h3 => by rw [gUp_a (by omega), gUp_k h3, gUp_k h2, gUp_k h1]
  have f27 : gUp (gUp (gUp (gUp M o 27 0) o 25 0) o 26 0) (o + 8) F (R : Int) o 27 = 0 := by rw [gUp_a (by omega), gUp_k (by decide), gUp_k (by decide), gUp_eq]
  have f25 : gUp (gUp (gUp (gUp M o 27 0) o 25 0) o 26 0) (o + 8) F (R : Int) o 25 = 0 := by rw [gUp_a (by omega), gUp_k (by decide), gUp_eq]
  have f26 : gUp (gUp (gUp (gUp M o 27 0) o 25 0) o 26 0) (o + 8) F (R : Int) o 26 = 0 := by rw [gUp_a (by omega), gUp_eq]
  have f8 : gUp (gUp (gUp (gUp M o 27 0) o 25 0) o 26 0) (o + 8) F (R : Int) (o + 8) F = (R : Int) := gUp_eq _ _ _ _
  generalize gUp (gUp (gUp (gUp M o 27 0) o 25 0) o 26 0) (o + 8) F (R : Int) = M1 at o1 i1 f1 f27 f25 f26 f8 ⊢
  -- the end where all is lost
  have lost : gForm S = none → ∀ (M3 : gM) (x4 : Int) (N' R' : Nat), g32 x4 → gOff (gFmR o N R F) M M3 → M3 o 27 = 1 → M3 o 13 = (F : Int) → M3 o 9 = (N' : Int) → M3 o 17 = (R' : Int) → R ≤ R' ∧ R' ≤ 45000 → M3 (o + 8) F = (R : Int) → wp l G y_GM_form (gRm (d + 311 + 1)) true (kkI X k) true 73 [.val (gR G o), .unset, .unset, .val (gI (N : Int)), .val (gI x4)] [] X M3 0 0 := by
    intro hf M3 x4 N' R' g4 o3 z27 z13 z9 z17 hR3 z8
    refine r_form73 hX hF (by omega) g4 hR3 z13 z9 z17 z8 (fun _ => h0 hf _ ?_ ?_ ?_ ?_ ?_ ?_ ?_) (fun y => absurd (z27.symm.trans y) (by decide)) (Or.inr z27)
    · refine ((((o3.up ?_).up ?_).up ?_).up ?_).up ?_ <;> unfold gFmR gPaR <;> omega
    · rw [gUp_k (by decide), gUp_a (by omega), gUp_a (by omega), gUp_k (by decide), gUp_eq]
    · rw [gUp_eq]
    · rw [gUp_k (by decide), gUp_a (by omega), gUp_a (by omega), gUp_eq]
    · rw [gUp_a (by omega), gUp_a (by omega), gUp_eq]
    · rw [gUp_a (by omega), gUp_a (by omega), gUp_a (by omega), gUp_a (by omega), gUp_a (by omega)]; exact z8
    · rw [gUp_a (by omega), gUp_eq]
  refine r_cut (Q := Q) (d := d + 304) hX hO i1 hl1 f27 (fun hx M2 o2 z27 => ?_) (fun ts hx M2 o2 z27 z24 zt => ?_)
  · have hf : gForm S = none := by unfold gForm; rw [hx]
    have o12 := o1.tr (o2.mono (fun x j h => Or.inl h : ∀ x j, gCtF o 0 x j → gFmR o N R F x j))
    have c2 : ∀ j, j ≠ 24 → j ≠ 27 → j ≠ 3 → M2 o j = M1 o j := fun j h1 h2 h3 => o2 _ _ (by unfold gCtF; omega)
    have z13 : M2 o 13 = (F : Int) := (c2 13 (by decide) (by decide) (by decide)).trans ((f1 13 (by decide) (by decide) (by decide)).trans m13)
    have z9 : M2 o 9 = (N : Int) := (c2 9 (by decide) (by decide) (by decide)).trans ((f1 9 (by decide) (by decide) (by decide)).trans m9)
    have z17 : M2 o 17 = (R : Int) := (c2 17 (by decide) (by decide) (by decide)).trans ((f1 17 (by decide) (by decide) (by decide)).trans m17)
    have z8 : M2 (o + 8) F = (R : Int) := (o2 _ _ (by unfold gCtF; omega)).trans f8
    refine fun _ => ⟨fun y => absurd (z27.symm.trans y) (by decide), fun _ _ _ => ⟨fun _ => lost hf M2 0 N R (g32_c rfl) o12 z27 z13 z9 z17 ⟨Nat.le_refl _, by omega⟩ z8, fun _ => lost hf _ 0 N R (g32_c rfl) (o12.up (by unfold gFmR gPaR; omega)) (gUp_eq _ _ _ _) ?_ ?_ ?_ ⟨Nat.le_refl _, by omega⟩ ?_⟩⟩
    · rw [gUp_k (by decide)]; exact z13
    · rw [gUp_k (by decide)]; exact z9
    · rw [gUp_k (by decide)]; exact z17
    · rw [gUp_a (by omega)]; exact z8
  · have ok := gLexs_ok hx
    have o12 := o1.tr (o2.mono (fun x j h => Or.inl h : ∀ x j, gCtF o 0 x j → gFmR o N R F x j))
    have c2 : ∀ j, j ≠ 24 → j ≠ 27 → j ≠ 3 → M2 o j = M1 o j := fun j h1 h2 h3 => o2 _ _ (by unfold gCtF; omega)
    have p2 : gPst M2 o L S ts F R 0 0 N [] := by
      refine ⟨⟨i1.kp (fun j => o2 _ _ (by unfold gCtF; omega)), z24, zt⟩, ⟨(c2 13 (by decide) (by decide) (by decide)).trans ((f1 13 (by decide) (by decide) (by decide)).trans m13), (o2 _ _ (by unfold gCtF; omega)).trans f8, hF, fun i hi => absurd hi (Nat.not_lt_zero _)⟩, ⟨z27, (c2 26 (by decide) (by decide) (by decide)).trans f26, (c2 25 (by decide) (by decide) (by decide)).trans f25, (c2 9 (by decide) (by decide) (by decide)).trans ((f1 9 (by decide) (by decide) (by decide)).trans m9), (c2 17 (by decide) (by decide) (by decide)).trans ((f1 17 (by decide) (by decide) (by decide)).trans m17)⟩, ?_, Nat.zero_le _⟩
      unfold gPcp
      show N ≤ 89800 + 0 ∧ R + 0 ≤ 44800 + 0
      omega
    have hE := (gR_all (l := l) (G := G) (X := X) (o := o) (L := L) (S := S) (ts := ts) (F := F) (R0 := R) hX ok.1 ok.2 303 303 (Nat.le_refl _)).2.2.2.1
    refine fun _ => ⟨fun _ => hE d M2 _ 1 0 0 0 N [] p2 (by omega) (by omega) (by decide) rfl ⟨fun y => ?_, fun e a rs y => ?_⟩, fun y => absurd z27 y⟩
    · have hf : gForm S = none := by unfold gForm; rw [hx]; dsimp only; rw [y]
      intro v M3 a' N' R' q3 c3 b3 l3 hv _ _
      unfold gPbd at b3
      have b3 : 0 ≤ a' ∧ N ≤ N' ∧ N' + 0 ≤ N + a' ∧ R + 0 ≤ R' ∧ R' + 0 ≤ R + 0 + a' := b3
      have o13 : gOff (gFmR o N R F) M M3 := o12.tr (q3.mono (fun x j h => Or.inr (Or.inl h) : ∀ x j, gPaR o N R x j → gFmR o N R F x j))
      have z13 : M3 o 13 = (F : Int) := (q3 _ _ (by unfold gPaR; omega)).trans p2.2.1.1
      have z8 : M3 (o + 8) F = (R : Int) := (q3 _ _ (by unfold gPaR; omega)).trans p2.2.1.2.1
      have h100 := ok.1
      refine ⟨fun _ => lost hf M3 v N' R' ⟨by omega, by omega⟩ o13 c3.1 z13 c3.2.2.2.1 c3.2.2.2.2 ⟨by omega, by omega⟩ z8, fun _ => lost hf _ v N' R' ⟨by omega, by omega⟩ (o13.up (by unfold gFmR gPaR; omega)) (gUp_eq _ _ _ _) ?_ ?_ ?_ ⟨by omega, by omega⟩ ?_⟩
      · rw [gUp_k (by decide)]; exact z13
      · rw [gUp_k (by decide)]; exact c3.2.2.2.1
      · rw [gUp_k (by decide)]; exact c3.2.2.2.2
      · rw [gUp_a (by omega)]; exact z8
    · intro v M3 N' q3 p3 b3 n3 _ _
      unfold gPbd at b3
      have b3 : 0 ≤ a ∧ N ≤ N' ∧ N' + 0 ≤ N + a ∧ R + 0 ≤ R + rs.length ∧ R + rs.length + 0 ≤ R + 0 + a := b3
      have o13 : gOff (gFmR o N R F) M M3 := o12.tr (q3.mono (fun x j h => Or.inr (Or.inl h) : ∀ x j, gPaR o N R x j → gFmR o N R F x j))
      have v1 := n3.1
      have v2 := n3.2.1
      have al := p3.2.2.2.2
      have h100 := ok.1
      have e23 : gTK ts a = 23 ↔ a = ts.length := by
        constructor
        · intro h
          refine Decidable.byContradiction fun z => ?_
          have := gTkO_k (ok.2 _ (gTs_mem (a := ts) (j := a) (by omega))).1
          unfold gTK at h
          omega
        · intro h
          unfold gTK
          rw [gTs_o (by omega)]
      have ef : gForm S = if gTK ts a = 23 then some (e, rs) else none := by
        unfold gForm
        rw [hx]
        dsimp only
        rw [y]
      rw [p3.2.2.1.2.2.1, p3.1.2.1]
      refine ⟨fun z => ?_, fun z => lost (by rw [ef, if_neg (fun y => z (by have := e23.mp y; omega))]) _ v N' (R + rs.length) ⟨by omega, by omega⟩ (o13.up (by unfold gFmR gPaR; omega)) (gUp_eq _ _ _ _) ?_ ?_ ?_ ⟨by omega, by omega⟩ ?_⟩
      · rw [if_pos (e23.mpr (by omega))] at ef
        refine r_form73 hX hF (by omega) ⟨by omega, by omega⟩ ⟨by omega, by omega⟩ p3.2.1.1 p3.2.2.1.2.2.2.1 p3.2.2.1.2.2.2.2 p3.2.1.2.1 (fun y => absurd (p3.2.2.1.1.symm.trans y) (by decide)) (fun _ => h1 e rs ef _ N' v ?_ ?_ (by omega) (by omega) ?_ ?_ ?_ ?_ ?_ ?_ (fun i hi => ?_)) (Or.inl p3.2.2.1.1)
        · refine ((o13.up ?_).up ?_).up ?_ <;> unfold gFmR gPaR <;> omega
        · rw [gUp_k (by decide), gUp_a (by omega), gUp_a (by omega)]; exact p3.2.2.1.2.2.2.1
        · rw [gUp_eq]
        · rw [gUp_k (by decide), gUp_a (by omega), gUp_a (by omega)]; exact p3.2.2.1.2.2.2.2
        · rw [gUp_a (by omega), gUp_a (by omega), gUp_eq]
        · rw [gUp_a (by omega), gUp_a (by omega), gUp_a (by omega)]; exact p3.2.1.2.1
        · rw [gUp_a (by omega), gUp_eq]; omega
        · refine gxNs.kp (M2 := gUp (gUp (gUp M3 (o + 7) F v) (o + 9) F ((R + rs.length - R : Nat) : Int)) o 13 ((F + 1 : Nat) : Int)) n3 (fun i j a1 a2 _ _ _ => by rw [gUp_a (by omega), gUp_a (by omega), gUp_a (by omega)]) (fun j => by rw [gUp_a (by omega), gUp_a (by omega), gUp_a (by omega)])
        · have e : ∀ x, 10 ≤ x → ∀ j, (gUp (gUp (gUp M3 (o + 7) F v) (o + 9) F ((R + rs.length - R : Nat) : Int)) o 13 ((F + 1 : Nat) : Int)) (o + x) j = M3 (o + x) j := fun x h j => by rw [gUp_a (by omega), gUp_a (by omega), gUp_a (by omega)]
          rw [e 10 (by decide), e 11 (by decide), e 12 (by decide)]
          exact p3.2.1.2.2.2 i hi
      · rw [gUp_k (by decide)]; exact p3.2.1.1
      · rw [gUp_k (by decide)]; exact p3.2.2.1.2.2.2.1
      · rw [gUp_k (by decide)]; exact p3.2.2.1.2.2.2.2
      · rw [gUp_a (by omega)]; exact p3.2.1.2.1
end gdAO
