/-! What is appended leaves the slots' sheets as they are. -/
/-- letters, nodes, forms and refs grow -/
def gmGr (M M2 : gM) (o : Nat) : Prop := (M o 2 ≤ M2 o 2 ∧ M o 9 ≤ M2 o 9 ∧ M o 13 ≤ M2 o 13 ∧ M o 17 ≤ M2 o 17) ∧ (∀ j : Nat, (j : Int) < M o 2 → M2 (o + 1) j = M (o + 1) j) ∧ (∀ i j : Nat, 2 ≤ i → i ≤ 6 → (j : Int) < M o 9 → M2 (o + i) j = M (o + i) j) ∧ (∀ i j : Nat, 7 ≤ i → i ≤ 9 → (j : Int) < M o 13 → M2 (o + i) j = M (o + i) j) ∧ (∀ i j : Nat, 10 ≤ i → i ≤ 12 → (j : Int) < M o 17 → M2 (o + i) j = M (o + i) j)
section ggF
variable {M M2 M3 : gM} {o L s p lo hi : Nat} {S : List Int} {F : gSht} {x : Option (List Int × List Int)}
theorem gmGr.rf : gmGr M M o := ⟨⟨Int.le_refl _, Int.le_refl _, Int.le_refl _, Int.le_refl _⟩, fun _ _ => rfl, fun _ _ _ _ _ => rfl, fun _ _ _ _ _ => rfl, fun _ _ _ _ _ => rfl⟩
theorem gmGr.tr (h : gmGr M M2 o) (g : gmGr M2 M3 o) : gmGr M M3 o := by
  obtain ⟨⟨a1, a2, a3, a4⟩, a5, a6, a7, a8⟩ := h
  obtain ⟨⟨b1, b2, b3, b4⟩, b5, b6, b7, b8⟩ := g
  exact ⟨⟨by omega, by omega, by omega, by omega⟩, fun j hj => (b5 j (by omega)).trans (a5 j hj), fun i j i1 i2 hj => (b6 i j i1 i2 (by omega)).trans (a6 i j i1 i2 hj), fun i j i1 i2 hj => (b7 i j i1 i2 (by omega)).trans (a7 i j i1 i2 hj), fun i j i1 i2 hj => (b8 i j i1 i2 (by omega)).trans (a8 i j i1 i2 hj)⟩
theorem gInm.gr (h : gInm M o L S) (hl : ((L + S.length : Nat) : Int) ≤ M o 2) (g : gmGr M M2 o) : gInm M2 o L S := ⟨fun j hj => (g.2.1 _ (by omega)).trans (h.1 j hj), h.2⟩
theorem gFrm.gr {f : Nat} (h : gFrm M o f S) (g : gmGr M M2 o) : gFrm M2 o f S := by
  obtain ⟨⟨g1, g2, g3, g4⟩, gL, gN, gF, gR⟩ := _root_.id g
  obtain ⟨L, R, a1, a2, a3, a4, a5, a6, a7, a8, a9, a10, a11⟩ := h
  refine ⟨L, R, a1.gr a2 g, by omega, a3, by omega, by rw [gF 8 _ (by decide) (by decide) a4]; exact a5, by rw [gF 9 _ (by decide) (by decide) a4]; exact a6, by omega, a8, fun i hi => ?_, fun q => by rw [gF 7 _ (by decide) (by decide) a4]; exact a10 q, fun e rs q => ?_⟩
  · rw [gR 10 _ (by decide) (by decide) (by omega), gR 11 _ (by decide) (by decide) (by omega), gR 12 _ (by decide) (by decide) (by omega)]
    exact a9 i hi
  · obtain ⟨lo, hi, v, b1, b2, b3⟩ := a11 e rs q
    exact ⟨lo, hi, v, by rw [gF 7 _ (by decide) (by decide) a4]; exact b1, b2.kpB (fun i j c1 c2 _ c4 _ => gN i j c1 c2 (by omega)) (fun j hj => gL j (by omega)), by omega⟩
theorem gmClR.gr (h : gmClR M o s p x lo hi) (g : gmGr M M2 o) (k : ∀ i, 19 ≤ i → i ≤ 23 → M2 (o + i) (s * 5200 + p) = M (o + i) (s * 5200 + p)) (k24 : ∀ j, lo ≤ j → j < hi → M2 (o + 24) (s * 20800 + j) = M (o + 24) (s * 20800 + j)) : gmClR M2 o s p x lo hi := by
  refine ⟨fun e => by rw [k 19 (by decide) (by decide)]; exact h.1 e, fun S tg ex => ?_⟩
  obtain ⟨a1, a2, a3, a4⟩ := h.2 S tg ex
  have g1 := g.1.1
  refine ⟨by rw [k 19 (by decide) (by decide)]; exact a1, fun q => by rw [k 23 (by decide) (by decide)]; exact a2 q, fun q => ?_, fun q => ?_⟩
  · obtain ⟨L, b1, b2, b3, b4⟩ := a3 q
    exact ⟨L, by rw [k 20 (by decide) (by decide)]; exact b1, by rw [k 21 (by decide) (by decide)]; exact b2, b3.gr b4 g, by omega⟩
  · obtain ⟨f, ra, b1, b2, b3, b4, b5⟩ := a4 q
    exact ⟨f, ra, by rw [k 20 (by decide) (by decide)]; exact b1, b2.gr g, by rw [k 22 (by decide) (by decide)]; exact b3, b4, fun i hi => by rw [show s * 20800 + ra + i = s * 20800 + (ra + i) by omega, k24 _ (by omega) (by omega), show s * 20800 + (ra + i) = s * 20800 + ra + i by omega]; exact b5 i hi⟩
theorem gmSt.gr (h : gmSt M o s F) (g : gmGr M M2 o) (k : ∀ i j, 19 ≤ i → i ≤ 23 → s * 5200 ≤ j → j < s * 5200 + 5200 → M2 (o + i) j = M (o + i) j) (k24 : ∀ j, s * 20800 ≤ j → j < s * 20800 + 20800 → M2 (o + 24) j = M (o + 24) j) (e : M2 (o + 25) s = M (o + 25) s) : gmSt M2 o s F := by
  obtain ⟨h1, h2, h3, h4⟩ := h
  obtain ⟨E, hE⟩ : ∃ E : Nat, M (o + 25) s = (E : Int) := ⟨(M (o + 25) s).toNat, by omega⟩
  refine ⟨h1, fun p hp => ?_, by rw [e]; exact h3, by rw [e]; exact h4⟩
  exact (((h2 p hp).R hE).gr g (fun i i1 i2 => k _ _ i1 i2 (by omega) (by omega)) (fun j j1 j2 => k24 _ (by omega) (by omega))).cl (e.trans hE) (Nat.le_refl _)
end ggF
