/-! Calls on a fresh object: those that change nothing but the INPUT. -/
/-- the class's numbers as its constructor leaves them -/
def gZ0 (M : gM) (c : Nat) : Prop := (∀ a k, a ≤ 1167 → ¬ (a = 2 ∧ k = 11) → ¬ (a = 235 ∧ k < 5200) → M (c + a) k = 0) ∧ ∀ k, k < 5200 → M (c + 235) k = 400
theorem gZ0.z {M : gM} {c : Nat} (h : gZ0 M c) (a k : Nat) (ha : a ≤ 1167 ∧ a ≠ 2 ∧ a ≠ 235) : M (c + a) k = 0 := h.1 a k ha.1 (fun q => ha.2.1 q.1) (fun q => ha.2.2 q.1)
section gFresh1
variable {l : Launch} {G : gG} {d Nr : Nat} {X : gX} {M : gM} {K : Outcome → gX → gM → Prop} {c : Nat}
theorem f_GL_value (hl : gOk l G) (hN : 1 ≤ Nr) (hX : gNew X c) (hM : gZ0 M c) (hz : gFr X M) {x y w : Int} (hx : g32 x) (hy : g32 y) (hw : g32 w) (k1 : gIs x y ∧ (w = 0 ∨ w = 1) → K (.returned (some (gL 0))) X M) (k0 : ¬ (gIs x y ∧ (w = 0 ∨ w = 1)) → K (.threw (G.2.2.1 + (X.1 + 1))) (gNw X (19, 0)) M) : gCt l G y_GL_value (gRr (d + 10) Nr) false [gR G c, gI x, gI y, gI w] X M K := by
  have hv : X.2.2 (c + 234) 4 = c + 237 := hX.2.2.2.1.1
  have hvv : gvX X (c + 237) 401 := hX.2.2.2.1.2
  have z1 : ∀ k, M (c + 237 + 1) k = 0 := fun k => hM.z 238 k (by decide)
  have z2 : ∀ k, M (c + 237 + 2) k = 0 := fun k => hM.z 239 k (by decide)
  refine eu_GL_value (d := d + 2) (u_GL_value_0 hX.1 hx hy hw ?_)
  by_cases h : gIs x y
  · refine Or.inr (c_cell1 hl h ?_)
    have hp : M (c + 235) (Int.toNat (x + 26 * y)) = 400 := hM.2 _ (by unfold gIs at h; omega)
    have hb : (0 : Int) ≤ x + 26 * y ∧ x + 26 * y < 5200 := by unfold gIs at h; omega
    refine ⟨fun e => Or.inr (c_need1 hl (c_GL_place h ⟨hb, fun _ => ?_⟩)), fun ne => ⟨fun n1 => Or.inl (c_need0 hl hN hz (k0 (by omega))), fun e1 => Or.inr (c_need1 hl (c_GL_place h ⟨hb, fun _ => ?_⟩))⟩⟩
    · rw [hp, hv, z1, z2]
      exact ⟨fun ne => absurd e ne, fun _ => ⟨hvv, by decide, fun _ => k1 ⟨h, Or.inl e⟩⟩⟩
    · rw [hp, hv, z1, z2]
      exact ⟨fun _ => ⟨hvv, by decide, fun _ => k1 ⟨h, Or.inr e1⟩⟩, fun e => absurd e ne⟩
  · exact Or.inl (c_cell0 hl hN hz hx hy h (k0 (fun q => h q.1)))
theorem f_GL_letter (hl : gOk l G) (hN : 1 ≤ Nr) (hX : gNew X c) (hM : gZ0 M c) (hz : gFr X M) {x y w : Int} (hx : g32 x) (hy : g32 y) (hw : g32 w) (k1 : gIs x y → K (.threw (G.2.2.1 + (X.1 + 1))) (gNw X (21, 0)) M) (k0 : ¬ gIs x y → K (.threw (G.2.2.1 + (X.1 + 1))) (gNw X (19, 0)) M) : gCt l G y_GL_letter (gRr (d + 10) Nr) false [gR G c, gI x, gI y, gI w] X M K := by
  have hv : X.2.2 (c + 234) 4 = c + 237 := hX.2.2.2.1.1
  have hvv : gvX X (c + 237) 401 := hX.2.2.2.1.2
  have z1 : ∀ k, M (c + 237 + 1) k = 0 := fun k => hM.z 238 k (by decide)
  refine eu_GL_letter (d := d + 2) (u_GL_letter_0 hX.1 hx hy hw hl ?_)
  by_cases h : gIs x y
  · refine Or.inr (c_cell1 hl h ?_)
    have hp : M (c + 235) (Int.toNat (x + 26 * y)) = 400 := hM.2 _ (by unfold gIs at h; omega)
    have hb : (0 : Int) ≤ x + 26 * y ∧ x + 26 * y < 5200 := by unfold gIs at h; omega
    rw [hv]
    refine ⟨hvv, c_GL_place h ⟨hb, fun _ => ?_⟩⟩
    rw [hp, z1]
    exact ⟨by decide, fun _ => ⟨fun _ => ⟨hN, by rw [gZr_id hz]; exact k1 h⟩, fun e => absurd e (by decide)⟩⟩
  · exact Or.inl (c_cell0 hl hN hz hx hy h (k0 h))
theorem f_GL_reference (hl : gOk l G) (hN : 1 ≤ Nr) (hX : gNew X c) (hM : gZ0 M c) (hz : gFr X M) {x y w : Int} (hx : g32 x) (hy : g32 y) (hw : g32 w) (k1 : gIs x y → K (.threw (G.2.2.1 + (X.1 + 1))) (gNw X (21, 0)) M) (k0 : ¬ gIs x y → K (.threw (G.2.2.1 + (X.1 + 1))) (gNw X (19, 0)) M) : gCt l G y_GL_reference (gRr (d + 10) Nr) false [gR G c, gI x, gI y, gI w] X M K := by
  refine eu_GL_reference (d := d + 2) (u_GL_reference_0 hX.1 hx hy hw hl ?_)
  by_cases h : gIs x y
  · refine Or.inr (c_cell1 hl h ?_)
    have hp : M (c + 235) (Int.toNat (x + 26 * y)) = 400 := hM.2 _ (by unfold gIs at h; omega)
    have hb : (0 : Int) ≤ x + 26 * y ∧ x + 26 * y < 5200 := by unfold gIs at h; omega
    refine c_GL_place h ⟨hb, fun _ => ⟨fun _ => ⟨hN, by rw [gZr_id hz]; exact k1 h⟩, fun e => absurd hp e⟩⟩
  · exact Or.inl (c_cell0 hl hN hz hx hy h (k0 h))
theorem f_GL_content (hl : gOk l G) (hN : 1 ≤ Nr) (hX : gNew X c) (hM : gZ0 M c) (hz : gFr X M) {x y w : Int} (hx : g32 x) (hy : g32 y) (hw : g32 w) (k1 : gIs x y ∧ 0 ≤ w ∧ w ≤ 2 → K (.returned (some (gI 0))) X M) (k0 : ¬ (gIs x y ∧ 0 ≤ w ∧ w ≤ 2) → K (.threw (G.2.2.1 + (X.1 + 1))) (gNw X (19, 0)) M) : gCt l G y_GL_content (gRr (d + 10) Nr) false [gR G c, gI x, gI y, gI w] X M K := by
  refine eu_GL_content (d := d + 2) (u_GL_content_0 hX.1 hx hy hw ?_)
  by_cases h : gIs x y
  · refine Or.inr (c_cell1 hl h ?_)
    have hp : M (c + 235) (Int.toNat (x + 26 * y)) = 400 := hM.2 _ (by unfold gIs at h; omega)
    have hb : (0 : Int) ≤ x + 26 * y ∧ x + 26 * y < 5200 := by unfold gIs at h; omega
    refine ⟨fun e => Or.inl (c_need0 hl hN hz (k0 (by omega))), fun e => ⟨fun e2 => Or.inl (c_need0 hl hN hz (k0 (by omega))), fun e2 => Or.inr (c_need1 hl (c_GL_place h ⟨hb, fun _ => ⟨fun ne => absurd hp ne, fun _ => k1 ⟨h, by omega, by omega⟩⟩⟩))⟩⟩
  · exact Or.inl (c_cell0 hl hN hz hx hy h (k0 (fun q => h q.1)))
theorem f_GL_undo (hl : gOk l G) (hN : 1 ≤ Nr) (hX : gNew X c) (hM : gZ0 M c) (hz : gFr X M) (k0 : K (.threw (G.2.2.1 + (X.1 + 1))) (gNw X (20, 0)) M) : gCt l G y_GL_undo (gRr (d + 8) Nr) true [gR G c] X M K := by
  have z9 : M c 9 = 0 := hM.z 0 9 (by decide)
  exact eu_GL_undo (u_GL_undo_0 hX.1 hl (fun _ => ⟨fun ne => absurd z9 ne, fun _ => ⟨hN, by rw [gZr_id hz]; exact k0⟩⟩))
theorem f_GL_redo (hl : gOk l G) (hN : 1 ≤ Nr) (hX : gNew X c) (hM : gZ0 M c) (hz : gFr X M) (k0 : K (.threw (G.2.2.1 + (X.1 + 1))) (gNw X (20, 0)) M) : gCt l G y_GL_redo (gRr (d + 8) Nr) true [gR G c] X M K := by
  have z9 : M c 10 = 0 := hM.z 0 10 (by decide)
  exact eu_GL_redo (u_GL_redo_0 hX.1 hl (fun _ => ⟨fun ne => absurd z9 ne, fun _ => ⟨hN, by rw [gZr_id hz]; exact k0⟩⟩))
theorem gTk_1 {M : gM} {c : Nat} {x : Int} : gTk M c x c 1 = M c 1 + 4 := gUp_eq _ _ _ _
theorem c_GL_feed (hl : gOk l G) (hX : glX X c) (hN : 1 ≤ Nr) (hz : gFr X M) {x1 x2 x3 x4 x5 : Int} (h1 : g32 x1) (h2 : g32 x2) (h3 : g32 x3) (h4 : g32 x4) (h5 : g32 x5) (hlen : 0 ≤ M c 1 ∧ M c 1 ≤ 240) (k1 : M c 1 + 20 ≤ 240 → K (.returned (some (gI (M c 1 + 20)))) X (gTk (gTk (gTk (gTk (gTk M c x1) c x2) c x3) c x4) c x5)) (k0 : ¬ M c 1 + 20 ≤ 240 → K (.threw (G.2.2.1 + (X.1 + 1))) (gNw X (18, 0)) M) : gCt l G y_GL_feed (gRr (d + 8) Nr) true [gR G c, gI x1, gI x2, gI x3, gI x4, gI x5] X M K := by
  refine eu_GL_feed (u_GL_feed_0 hX h1 h2 h3 h4 h5 hl (fun _ => ?_))
  have e : w32 (M c 1 + 20) = M c 1 + 20 := w32_id (by unfold g32; omega)
  rw [e]
  refine ⟨fun h => ?_, fun h => ⟨hN, by rw [gZr_id hz]; exact k0 h⟩⟩
  refine c_GL_take hX h1 (by omega) (c_GL_take hX h2 (by rw [gTk_1]; omega) (c_GL_take hX h3 (by rw [gTk_1, gTk_1]; omega) (c_GL_take hX h4 (by rw [gTk_1, gTk_1, gTk_1]; omega) (c_GL_take hX h5 (by rw [gTk_1, gTk_1, gTk_1, gTk_1]; omega) (fun _ => ?_)))))
  have e2 : gTk (gTk (gTk (gTk (gTk M c x1) c x2) c x3) c x4) c x5 c 1 = M c 1 + 20 := by
    rw [gTk_1, gTk_1, gTk_1, gTk_1, gTk_1]
    omega
  rw [e2]
  exact k1 h
theorem f_GL_formulas (hX : gNew X c) (hM : gZ0 M c) {k : Int → gM → Prop} (hk : k 0 M) : cI l G y_GL_formulas (gRm d) false [gR G c] X M k := by
  have z8 : M c 8 = 0 := hM.z 0 8 (by decide)
  have hr : ∀ i : Nat, i < 41 → gsX X (X.2.2 (c + 23) i) := fun i hi => by rw [(hX.2.1 i hi).1]; exact (hX.2.1 i hi).2
  have hr0 : X.2.2 (c + 23) (Int.toNat 0) = c + 24 := (hX.2.1 0 (by decide)).1
  refine e_GL_formulas (w_GL_formulas_0 hX.1 (w_GL_formulas_4 hX.1 g32_0 g32_0 hr (fun _ => ?_)))
  rw [z8, hr0]
  refine ⟨by decide, fun _ => ⟨fun _ => hk, fun h => absurd ?_ h⟩⟩
  rw [hM.z 24 0 (by decide)]
  decide
theorem f_GL_count (hX : gNew X c) (hM : gZ0 M c) {x : Int} (hx : g32 x) {k : Int → gM → Prop} (hk : k (if 0 ≤ x ∧ x ≤ 7 then 0 else -1) M) : cI l G y_GL_count (gRm (d + 1)) false [gR G c, gI x] X M k := by
  have hr : ∀ i : Nat, i < 41 → gsX X (X.2.2 (c + 23) i) := fun i hi => by rw [(hX.2.1 i hi).1]; exact (hX.2.1 i hi).2
  have z : ∀ j, M c j = 0 := fun j => hM.z 0 j (by decide)
  have z7 : M (c + 234) 7 = 0 := hM.z 234 7 (by decide)
  have hr0 : X.2.2 (c + 23) (Int.toNat 0) = c + 24 := (hX.2.1 0 (by decide)).1
  have z24 : M (c + 24) 0 = 0 := hM.z 24 0 (by decide)
  have k0 : 0 ≤ x ∧ x ≤ 7 → k 0 M := fun h => by rw [if_pos h] at hk; exact hk
  refine e_GL_count (w_GL_count_0 hX.1 hx hr ?_)
  rw [z 1, z 8, z 9, z 10, z 11, z7, hr0, z24]
  refine ⟨fun e _ => k0 (by omega), fun e _ => k0 (by omega), fun e _ => k0 (by omega), fun e _ => k0 (by omega), fun e _ => ⟨by decide, fun _ => k0 (by omega)⟩, fun e => f_GL_formulas hX hM (k0 (by omega)), fun e _ => ⟨by decide, fun _ => ?_⟩, fun e _ => k0 (by omega), fun e => ?_⟩
  · exact e_Rs_cycles (w_Rs_cycles_0 hX.1 g32_0 (w_Rs_cycles_4 hX.1 g32_0 g32_0 g32_0 hX.2.2.2.1 ⟨fun _ => k0 (by omega), fun h => absurd (by decide) h⟩))
  · rw [if_neg (by omega)] at hk
    exact hk
end gFresh1
