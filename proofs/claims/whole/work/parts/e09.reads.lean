/-! The class's Order: what entries read. -/
/-- a place in the box of two corners -/
def gInB (q : Nat) (a b : Int) : Prop := min (a % 26) (b % 26) ≤ ((q % 26 : Nat) : Int) ∧ ((q % 26 : Nat) : Int) ≤ max (a % 26) (b % 26) ∧ min (a / 26) (b / 26) ≤ ((q / 26 : Nat) : Int) ∧ ((q / 26 : Nat) : Int) ≤ max (a / 26) (b / 26)
def gRdR2 (c : Nat) : Nat → Nat → Prop := fun x _ => x = c + 1048
/-- entry i reads what lies at the places Z besides -/
def gBits (M M2 : gM) (c r2 i : Nat) (Z : Nat → Prop) : Prop := gOff (gRdR2 c) M M2 ∧ ∀ i2 j, j < 448 → (gRdB M2 c i2 j ↔ gRdB M c i2 j ∨ (i2 = i ∧ j < 400 ∧ ∃ q, Z q ∧ M r2 q = (j : Int)))
section geJ
variable {l : Launch} {G : gG} {d : Nat} {X : gX} {M M2 : gM} {c r2 i : Nat} {Z Z2 : Nat → Prop}
theorem gBits.rf : gBits M M c r2 i (fun _ => False) := ⟨gOff.rf _ _, fun i2 j _ => ⟨fun h => Or.inl h, fun h => h.elim id (fun h => h.2.2.elim (fun _ q => q.1.elim))⟩⟩
theorem gBits.iff (h : gBits M M2 c r2 i Z) (e : ∀ q, Z q ↔ Z2 q) : gBits M M2 c r2 i Z2 := ⟨h.1, fun i2 j hj => by
  rw [h.2 i2 j hj]
  refine ⟨fun z => z.elim Or.inl (fun z => Or.inr ⟨z.1, z.2.1, ?_⟩), fun z => z.elim Or.inl (fun z => Or.inr ⟨z.1, z.2.1, ?_⟩)⟩
  · obtain ⟨q, q1, q2⟩ := z.2.2
    exact ⟨q, (e q).mp q1, q2⟩
  · obtain ⟨q, q1, q2⟩ := z.2.2
    exact ⟨q, (e q).mpr q1, q2⟩⟩
theorem gBits.mark {p : Nat} {x2 : Int} {k : gM → Prop} (hX : glX X c) (hi : i < 400) (hr : r2 ≠ c + 1048) (h : gBits M M2 c r2 i Z) (hv : 0 ≤ M r2 p ∧ M r2 p ≤ 400) (hx : x2 = M2 r2 p) (hk : ∀ M3, gBits M M3 c r2 i (fun q => Z q ∨ q = p) → k M3) : cV l G y_Or_mark (gRm d) true [gR G (c + 1047), gI (i : Int), gI x2] X M2 k := by
  have e : M2 r2 p = M r2 p := h.1 _ _ (by unfold gRdR2; exact hr)
  rw [e] at hx
  refine c_Or_mark hX hi (by omega) (fun z => hk M2 ⟨h.1, fun i2 j hj => ?_⟩) (fun j0 hj0 hlt => hk _ ⟨h.1.up rfl, fun i2 j hj => ?_⟩)
  · rw [h.2 i2 j hj]
    refine ⟨fun y => y.elim Or.inl (fun y => Or.inr ⟨y.1, y.2.1, ?_⟩), fun y => y.elim Or.inl (fun y => Or.inr ⟨y.1, y.2.1, ?_⟩)⟩
    · obtain ⟨q, q1, q2⟩ := y.2.2
      exact ⟨q, Or.inl q1, q2⟩
    · obtain ⟨q, q1, q2⟩ := y.2.2
      rcases q1 with q1 | q1
      · exact ⟨q, q1, q2⟩
      · rw [q1] at q2; omega
  · rw [gRdB_up (by omega) hj, h.2 i2 j hj]
    constructor
    · rintro ((y | ⟨y1, y2, q, q1, q2⟩) | ⟨y1, y2⟩)
      · exact Or.inl y
      · exact Or.inr ⟨y1, y2, q, Or.inl q1, q2⟩
      · exact Or.inr ⟨y1, by omega, p, Or.inr rfl, by rw [y2]; omega⟩
    · rintro (y | ⟨y1, y2, q, q1 | q1, q2⟩)
      · exact Or.inl (Or.inl y)
      · exact Or.inl (Or.inr ⟨y1, y2, q, q1, q2⟩)
      · rw [q1] at q2
        exact Or.inr ⟨y1, by omega⟩
theorem c_Or_markRange {a b : Int} {k : gM → Prop} (hX : glX X c) (hi : i < 400) (hr2 : 1 ≤ r2 ∧ r2 ≤ X.1 ∧ X.2.1 r2 = (0, 5200)) (hr : r2 ≠ c + 1048) (hat : ∀ p, p < 5200 → 0 ≤ M r2 p ∧ M r2 p ≤ 400) (ha : 0 ≤ a ∧ a < 5200) (hb : 0 ≤ b ∧ b < 5200) (h : gBits M M2 c r2 i Z) (hk : ∀ M3, gBits M M3 c r2 i (fun q => Z q ∨ gInB q a b) → k M3) : cV l G y_Or_markRange (gRm (d + 1)) true [gR G (c + 1047), gI (i : Int), gR G r2, gI a, gI b] X M2 k := by
  have ga : g32 (a % 26) := ⟨by omega, by omega⟩
  have gb : g32 (b % 26) := ⟨by omega, by omega⟩
  have ga2 : g32 (a / 26) := ⟨by omega, by omega⟩
  have gb2 : g32 (b / 26) := ⟨by omega, by omega⟩
  have hr3 : 1 ≤ r2 ∧ r2 ≤ X.1 ∧ X.2.1 r2 = (0, 5200) ∧ 5200 ≤ 2147483647 := ⟨hr2.1, hr2.2.1, hr2.2.2, by decide⟩
  refine e_Or_markRange (w_Or_markRange_0 hX ⟨by omega, by omega⟩ hr3 ⟨by omega, by omega⟩ ⟨by omega, by omega⟩ ?_)
  rw [Int.tmod_eq_emod_of_nonneg ha.1, Int.tmod_eq_emod_of_nonneg hb.1, Int.tdiv_eq_ediv_of_nonneg ha.1, Int.tdiv_eq_ediv_of_nonneg hb.1]
  refine c_min ga gb (c_max ga gb (c_max ga2 gb2 (c_min ga2 gb2 ?_)))
  obtain ⟨C, eC⟩ : ∃ C : Nat, min (a % 26) (b % 26) = (C : Int) := ⟨(min (a % 26) (b % 26)).toNat, by omega⟩
  obtain ⟨C2, eC2⟩ : ∃ C2 : Nat, max (a % 26) (b % 26) = (C2 : Int) := ⟨(max (a % 26) (b % 26)).toNat, by omega⟩
  obtain ⟨R, eR⟩ : ∃ R : Nat, min (a / 26) (b / 26) = (R : Int) := ⟨(min (a / 26) (b / 26)).toNat, by omega⟩
  obtain ⟨R2, eR2⟩ : ∃ R2 : Nat, max (a / 26) (b / 26) = (R2 : Int) := ⟨(max (a / 26) (b / 26)).toNat, by omega⟩
  have hk : ∀ M3, gBits M M3 c r2 i (fun q => Z q ∨ (C ≤ q % 26 ∧ q % 26 ≤ C2 ∧ R ≤ q / 26 ∧ q / 26 < R2 + 1)) → k M3 := fun M3 h3 => hk M3 (h3.iff (fun q => ⟨fun z => z.imp id (fun z => by unfold gInB; rw [eC, eC2, eR, eR2]; omega), fun z => z.imp id (fun z => by unfold gInB at z; rw [eC, eC2, eR, eR2] at z; omega)⟩))
  rw [eC, eC2, eR, eR2]
  have c26 : C2 < 26 := by omega
  have r200 : R2 < 200 := by omega
  have cc : C ≤ C2 := by omega
  have rr : R ≤ R2 := by omega
  clear eC eC2 eR eR2
  have rows : ∀ (m y : Nat) (M3 : gM), y + m = R2 + 1 → R ≤ y → gBits M M3 c r2 i (fun q => Z q ∨ (C ≤ q % 26 ∧ q % 26 ≤ C2 ∧ R ≤ q / 26 ∧ q / 26 < y)) → wp l G y_Or_markRange (gRm (d + 1)) true (kkV X k) true 56 [.val (gR G (c + 1047)), .val (gI (i : Int)), .val (gR G r2), .unset, .unset, .val (gI (C : Int)), .val (gI (C2 : Int)), .val (gI (R2 : Int)), .val (gI (y : Int)), .unset] [] X M3 0 0 := by
    intro m
    induction m with
    | zero =>
      intro y M3 hy hRy h3
      refine w_Or_markRange_56 hX ⟨by omega, by omega⟩ ⟨by omega, by omega⟩ ⟨by omega, by omega⟩ ⟨by omega, by omega⟩ ⟨by omega, by omega⟩ hr3 ⟨fun _ => hk M3 (by rw [show R2 + 1 = y by omega]; exact h3), fun z => absurd (by omega) z⟩
    | succ m ih =>
      intro y M3 hy hRy h3
      have cols : ∀ (u x : Nat) (M4 : gM), x + u = C2 + 1 → C ≤ x → gBits M M4 c r2 i (fun q => (Z q ∨ (C ≤ q % 26 ∧ q % 26 ≤ C2 ∧ R ≤ q / 26 ∧ q / 26 < y)) ∨ (q / 26 = y ∧ C ≤ q % 26 ∧ q % 26 < x)) → wp l G y_Or_markRange (gRm (d + 1)) true (kkV X k) true 67 [.val (gR G (c + 1047)), .val (gI (i : Int)), .val (gR G r2), .unset, .unset, .val (gI (C : Int)), .val (gI (C2 : Int)), .val (gI (R2 : Int)), .val (gI (y : Int)), .val (gI (x : Int))] [] X M4 0 0 := by
        intro u
        induction u with
        | zero =>
          intro x M4 hx hCx h4
          refine w_Or_markRange_67 hX ⟨by omega, by omega⟩ ⟨by omega, by omega⟩ ⟨by omega, by omega⟩ ⟨by omega, by omega⟩ ⟨by omega, by omega⟩ ⟨by omega, by omega⟩ hr3 ⟨fun _ => ?_, fun z => absurd (by omega) z⟩
          rw [w32_id (x := (y : Int) + 1) ⟨by omega, by omega⟩, show (y : Int) + 1 = ((y + 1 : Nat) : Int) by omega]
          exact ih (y + 1) M4 (by omega) (by omega) (h4.iff (fun q => by
            constructor
            · rintro ((z | z) | z)
              · exact Or.inl z
              · exact Or.inr (by omega)
              · exact Or.inr (by omega)
            · rintro (z | z)
              · exact Or.inl (Or.inl z)
              · by_cases e : q / 26 = y
                · exact Or.inr (by omega)
                · exact Or.inl (Or.inr (by omega))))
        | succ u ihu =>
          intro x M4 hx hCx h4
          refine w_Or_markRange_67 hX ⟨by omega, by omega⟩ ⟨by omega, by omega⟩ ⟨by omega, by omega⟩ ⟨by omega, by omega⟩ ⟨by omega, by omega⟩ ⟨by omega, by omega⟩ hr3 ⟨fun z => absurd z (by omega), fun _ => c_GL_place (by unfold gIs; omega) ?_⟩
          rw [show (x : Int) + 26 * (y : Int) = ((x + 26 * y : Nat) : Int) by omega, Int.toNat_natCast, w32_id (x := (x : Int) + 1) ⟨by omega, by omega⟩, show (x : Int) + 1 = ((x + 1 : Nat) : Int) by omega]
          refine ⟨⟨by omega, by omega⟩, fun _ => h4.mark hX hi hr (hat _ (by omega)) rfl (fun M5 h5 => ihu (x + 1) M5 (by omega) (by omega) (h5.iff (fun q => ?_)))⟩
          constructor
          · rintro (((z | z) | z) | z)
            · exact Or.inl (Or.inl z)
            · exact Or.inl (Or.inr z)
            · exact Or.inr (by omega)
            · exact Or.inr (by omega)
          · rintro ((z | z) | z)
            · exact Or.inl (Or.inl (Or.inl z))
            · exact Or.inl (Or.inl (Or.inr z))
            · by_cases e : q = x + 26 * y
              · exact Or.inr e
              · exact Or.inl (Or.inr (by omega))
      refine w_Or_markRange_56 hX ⟨by omega, by omega⟩ ⟨by omega, by omega⟩ ⟨by omega, by omega⟩ ⟨by omega, by omega⟩ ⟨by omega, by omega⟩ hr3 ⟨fun z => absurd z (by omega), fun _ => ?_⟩
      by_cases hC : C ≤ C2 + 1
      · exact cols (C2 + 1 - C) C M3 (by omega) (Nat.le_refl _) (h3.iff (fun q => ⟨fun z => Or.inl z, fun z => z.elim id (fun z => by omega)⟩))
      · omega
  by_cases hR : R ≤ R2 + 1
  · exact rows (R2 + 1 - R) R M2 (by omega) (Nat.le_refl _) (h.iff (fun q => ⟨fun z => Or.inl z, fun z => z.elim id (fun z => by omega)⟩))
  · omega
end geJ
