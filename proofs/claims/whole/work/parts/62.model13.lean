/-! The reference's at: a place of the box. -/
section gmC13
variable {l : Launch} {G : gG} {d : Nat} {X : gX} {M : gM} {o : Nat}
/-- the box lies in the sheet -/
def gmBx (M : gM) (o : Nat) : Prop := 0 ≤ M o 56 ∧ M o 56 ≤ M o 58 ∧ M o 58 < 26 ∧ 0 ≤ M o 57 ∧ M o 57 ≤ M o 59 ∧ M o 59 < 200
/-- row a and column b are in the box -/
def gmIn (M : gM) (o : Nat) (a b : Int) : Prop := 1 ≤ a ∧ 1 ≤ b ∧ a ≤ M o 59 - M o 57 + 1 ∧ b ≤ M o 58 - M o 56 + 1
theorem c_GM_at {a b : Int} {k : gM → Prop} (hX : gmX X o) (ha : g64 a) (hb : g64 b) (hB : gmBx M o) (ht : 0 ≤ M o 50 ∧ M o 50 < 1200) (hl : ∀ p : Nat, p < 5200 → 0 ≤ M (o + 27) p ∧ M (o + 27) p ≤ 64)
    (h1 : gmIn M o a b → k (gmPushCell M o (M o 56 + b - 1 + 26 * (M o 57 + a - 1)))) (h0 : ¬ gmIn M o a b → k (gmPush M o 4 2)) : cV l G y_GM_at (gRm (d + 1 + 1)) true [gR G o, gL a, gL b] X M k := by
  unfold gmBx at hB
  unfold gmIn at h1 h0
  have no : ¬ (1 ≤ a ∧ 1 ≤ b ∧ a ≤ M o 59 - M o 57 + 1 ∧ b ≤ M o 58 - M o 56 + 1) → cV l G y_GM_fault (gRm (d + 1)) true [gR G o, gI 2] X M k := fun q => c_GM_fault hX (g32_c (x := 2) rfl) ht (h0 q)
  refine e_GM_at (w_GM_at_0 hX ha hb ?_)
  rw [w32_id (x := M o 59 - M o 57 + 1) ⟨by omega, by omega⟩, w32_id (x := M o 58 - M o 56 + 1) ⟨by omega, by omega⟩]
  refine ⟨fun c => ⟨fun _ => no (by omega), fun e => absurd rfl e⟩, fun c => ⟨fun e => ⟨fun _ => no (by omega), fun f => absurd rfl f⟩, fun e _ _ => ⟨fun f => ⟨fun _ => no (by omega), fun u => absurd rfl u⟩, fun f _ _ => ⟨fun u => ⟨fun _ => no (by omega), fun w => absurd rfl w⟩, fun u => ⟨fun w => absurd w (by decide), fun _ _ _ => ?_⟩⟩⟩⟩⟩
  exact c_GM_pushCell hX ⟨by omega, by omega⟩ ht (hl _ (by omega)) (h1 ⟨by omega, by omega, by omega, by omega⟩)
end gmC13
