/-! What is appended leaves the slots' sheets as they are. -/
/-- letters, nodes, forms and refs grow -/
def gmGr (M M2 : gM) (o : Nat) : Prop := (M o 2 ≤ M2 o 2 ∧ M o 9 ≤ M2 o 9 ∧ M o 13 ≤ M2 o 13 ∧ M o 17 ≤ M2 o 17) ∧ (∀ j : Nat, (j : Int) < M o 2 → M2 (o + 1) j = M (o + 1) j) ∧ (∀ i j : Nat, 2 ≤ i → i ≤ 6 → (j : Int) < M o 9 → M2 (o + i) j = M (o + i) j) ∧ (∀ i j : Nat, 7 ≤ i → i ≤ 9 → (j : Int) < M o 13 → M2 (o + i) j = M (o + i) j) ∧ (∀ i j : Nat, 10 ≤ i → i ≤ 12 → (j : Int) < M o 17 → M2 (o + i) j = M (o + i) j)
section ggF
variable {M M2 M3 : gM} {o L s p lo hi : Nat} {S : List Int} {F : gSht} {x : Option (List Int × List Int)}
theorem gmGr.rf : gmGr M M o := ⟨⟨Int.le_refl _, Int.le_refl _, Int.le_refl _, Int.le_refl _⟩, fun _ _ => rfl, fun _ _ _ _ _ => rfl, fun _ _ _ _ _ => rfl, fun _ _ _ _ _ => rfl⟩
theorem gmGr.tr (h : gmGr M M2 o) (g : gmGr M2 M3 o) : gmGr M M3 o := by
  obtain ⟨⟨a1, a2, a3, a4⟩, a5, a6, a7, a8⟩ := h
  obtain ⟨⟨b1, b2, b3, b4⟩, b5, b6, b7, b8⟩ := g
  exact ⟨⟨by omega, by omega, by omega, by omega⟩, fun j hj => (b5 j (by omega)).trans (a5 j hj), fun i j i1 i2 hj => (b6 i j i1 i2 (by omega)).trans (a6 i j i1 i2 hj), fun i j i1 i2 hj => (b7 i j i1 i2 (by omega)).trans (a7 i j i1 i2 hj), fun i j i1 i2 hj => (b8 i j i1 i2 (by omega)).trans (a8 i j i1 i2 hj)⟩
theorem gInm.gr (h : gInm M o L S) (hl : ((L + S.length : Nat) : Int) ≤ M o 2) (g : gmGr M M2 o) : gInm M2 o L S := ⟨fun j hj => (g.2.1 _ (by omega)).trans (h.1 j hj), h.2⟩
end ggF
