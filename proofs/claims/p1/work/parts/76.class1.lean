/-! Contracts of the class's small methods: need, needCell, place, lines, end, changed, take, feed. -/
section gClass1
variable {l : Launch} {G : gG} {d Nr : Nat} {X : gX} {M : gM} {K : Outcome → gX → gM → Prop} {c : Nat}
theorem c_need1 (hl : gOk l G) {k : gM → Prop} (h : k M) : cV l G y_GL_need (gRm (d + 8)) false [gI 1] X M k :=
  eu_GL_need (Nr := 0) (u_GL_need_0 ⟨by decide, by decide⟩ hl ⟨fun _ => ⟨rfl, rfl, h⟩, fun e => absurd e (by decide)⟩)
theorem c_need0 (hl : gOk l G) (hN : 1 ≤ Nr) (hz : gFr X M) (h : K (.threw (G.2.2.1 + (X.1 + 1))) (gNw X (19, 0)) M) : cT l G y_GL_need (gRr (d + 8) Nr) false [gI 0] X M K :=
  eu_GL_need (u_GL_need_0 ⟨by decide, by decide⟩ hl ⟨fun e => absurd rfl e, fun _ => ⟨hN, ⟨_, rfl⟩, by rw [gZr_id hz]; exact h⟩⟩)
/-- a column and a row of the sheet -/
def gIs (x y : Int) : Prop := 0 ≤ x ∧ x < 26 ∧ 0 ≤ y ∧ y < 200
theorem c_cell1 (hl : gOk l G) {x y : Int} (h : gIs x y) {k : gM → Prop} (hk : k M) : cV l G y_GL_needCell (gRm (d + 9)) false [gI x, gI y] X M k := by
  unfold gIs at h
  refine eu_GL_needCell (Nr := 0) (d := d + 1) (u_GL_needCell_0 (by unfold g32; omega) (by unfold g32; omega) ⟨fun e => absurd e (by omega), fun _ => ⟨fun e => absurd e (by omega), fun _ => ⟨fun e => absurd e (by omega), fun _ => ⟨fun e => absurd e (by omega), fun _ => Or.inr ?_⟩⟩⟩⟩)
  exact c_need1 hl ⟨rfl, rfl, hk⟩
theorem c_cell0 (hl : gOk l G) (hN : 1 ≤ Nr) (hz : gFr X M) {x y : Int} (hx : g32 x) (hy : g32 y) (h : ¬ gIs x y) (hk : K (.threw (G.2.2.1 + (X.1 + 1))) (gNw X (19, 0)) M) : cT l G y_GL_needCell (gRr (d + 9) Nr) false [gI x, gI y] X M K := by
  unfold gIs at h
  have N := c_need0 (d := d) (Nr := Nr) (X := X) (M := M) (K := fun o X' M' => (∃ a, o = .threw a) ∧ K o X' M') hl hN hz ⟨⟨_, rfl⟩, hk⟩
  exact eu_GL_needCell (d := d + 1) (u_GL_needCell_0 hx hy ⟨fun _ => Or.inl N, fun _ => ⟨fun _ => Or.inl N, fun _ => ⟨fun _ => Or.inl N, fun _ => ⟨fun _ => Or.inl N, fun _ => absurd (by omega) h⟩⟩⟩⟩)
theorem c_GL_place {x y : Int} (h : gIs x y) {k : Int → gM → Prop} (hk : k (x + 26 * y) M) : cI l G y_GL_place (gRm d) false [gI x, gI y] X M k := by
  unfold gIs at h
  refine e_GL_place (w_GL_place_0 (by unfold g32; omega) (by unfold g32; omega) ?_)
  rw [w32_id (by unfold g32; omega)]
  exact hk
theorem c_GL_lines {x : Int} (h : 0 ≤ x ∧ x ≤ 1) {k : Int → gM → Prop} (hk : k (if x = 0 then 200 else 26) M) : cI l G y_GL_lines (gRm d) false [gI x] X M k := by
  refine e_GL_lines (w_GL_lines_0 h ⟨fun e => ?_, fun e => ?_⟩)
  · rw [if_pos e] at hk; exact hk
  · rw [if_neg e] at hk; exact hk
theorem c_GL_end (hl : gOk l G) (hN : 1 ≤ Nr) (hX : glX X c) (hz : gFr X M) {n : Int} (hn : g32 n) (hlen : 0 ≤ M c 1 ∧ M c 1 ≤ 240) (k1 : 0 ≤ n ∧ n ≤ M c 1 → K (.returned (some (gI (M c 1 - n)))) X (gUp M c 1 (M c 1 - n))) (k0 : ¬ (0 ≤ n ∧ n ≤ M c 1) → K (.threw (G.2.2.1 + (X.1 + 1))) (gNw X (19, 0)) M) : gCt l G y_GL_end (gRr (d + 9) Nr) true [gR G c, gI n] X M K := by
  refine eu_GL_end (d := d + 1) (u_GL_end_0 hX hn ⟨fun h => Or.inl (c_need0 hl hN hz (k0 (by omega))), fun h _ => ⟨fun h2 => Or.inl (c_need0 hl hN hz (k0 (by omega))), fun h2 => Or.inr (c_need1 hl ?_)⟩⟩)
  intro _ _
  have e : w32 (M c 1 - n) = M c 1 - n := w32_id (by unfold g32; omega)
  rw [e, gUp_eq]
  exact k1 (by omega)
theorem c_GL_changed (hl : gOk l G) (hN : 1 ≤ Nr) (hX : glX X c) (hz : gFr X M) {n : Int} (hn : g32 n) (hc : M (c + 234) 7 ≤ 800) (k1 : 0 ≤ n ∧ n < M (c + 234) 7 → K (.returned (some (gI (M (c + 236) n.toNat)))) X M) (k0 : ¬ (0 ≤ n ∧ n < M (c + 234) 7) → K (.threw (G.2.2.1 + (X.1 + 1))) (gNw X (21, 0)) M) : gCt l G y_GL_changed (gRr (d + 8) Nr) false [gR G c, gI n] X M K := by
  refine eu_GL_changed (u_GL_changed_0 hX hn hl ⟨fun h => ⟨hN, by rw [gZr_id hz]; exact k0 (by omega)⟩, fun h _ => ⟨fun h2 => ⟨by omega, fun _ => k1 (by omega)⟩, fun h2 => ⟨hN, by rw [gZr_id hz]; exact k0 (by omega)⟩⟩⟩)
/-- four bytes taken -/
def gTk (M : gM) (c : Nat) (x : Int) : gM := gUp (gFl M (c + 1) (M c 1).toNat (fun j => gByte (gShr x (24 - 8 * (j : Int)))) 4) c 1 (M c 1 + 4)
theorem c_GL_take (hX : glX X c) {x : Int} (hx : g32 x) (hlen : 0 ≤ M c 1 ∧ M c 1 + 4 ≤ 240) {k : gM → Prop} (hk : k (gTk M c x)) : cV l G y_GL_take (gRm d) true [gR G c, gI x] X M k := by
  have key : ∀ (n j : Nat), j + n = 4 → wp l G y_GL_take (gRm d) true (kkV X k) true 3 [.val (gR G c), .val (gI x), .val (gI (24 - 8 * (j : Int)))] [] X (gUp (gFl M (c + 1) (M c 1).toNat (fun j => gByte (gShr x (24 - 8 * (j : Int)))) j) c 1 (M c 1 + j)) 0 0 := by
    intro n
    induction n with
    | zero =>
      intro j hj
      obtain rfl : j = 4 := by omega
      exact w_GL_take_3 hX hx (by unfold g32; omega) ⟨fun _ => hk, fun h => absurd (by decide) h⟩
    | succ n ih =>
      intro j hj
      refine w_GL_take_3 hX hx (by unfold g32; omega) ⟨fun h => absurd h (by omega), fun _ _ => ?_⟩
      rw [gUp_eq]
      refine ⟨by omega, fun _ => ?_⟩
      have e1 : gByte (gByte (gShr x (24 - 8 * (j : Int)))) = gByte (gShr x (24 - 8 * (j : Int))) := gByte_id (gByte_ok _)
      have e2 : w32 (24 - 8 * (j : Int) + (-8)) = 24 - 8 * ((j + 1 : Nat) : Int) := by rw [w32_id (by unfold g32; omega)]; omega
      have e3 : w32 (M c 1 + (j : Int) + 1) = M c 1 + ((j + 1 : Nat) : Int) := by rw [w32_id (by unfold g32; omega)]; omega
      rw [e1, e2, gUp_o (by decide), gUp_eq, e3]
      have e4 : gUp (gUp (gUp (gFl M (c + 1) (M c 1).toNat (fun j => gByte (gShr x (24 - 8 * (j : Int)))) j) c 1 (M c 1 + j)) (c + 1) (Int.toNat (M c 1 + j)) (gByte (gShr x (24 - 8 * (j : Int))))) c 1 (M c 1 + ((j + 1 : Nat) : Int)) = gUp (gFl M (c + 1) (M c 1).toNat (fun j => gByte (gShr x (24 - 8 * (j : Int)))) (j + 1)) c 1 (M c 1 + ((j + 1 : Nat) : Int)) := by
        rw [← gFl_s]
        have e5 : (M c 1 + (j : Int)).toNat = (M c 1).toNat + j := by omega
        rw [e5]
        funext b i
        unfold gUp
        by_cases h1 : b = c ∧ i = 1
        · simp only [if_pos h1]
        · by_cases h2 : b = c + 1 ∧ i = (M c 1).toNat + j
          · simp only [if_neg h1, if_pos h2]
          · simp only [if_neg h1, if_neg h2]
      rw [e4]
      exact ih (j + 1) (by omega)
  refine e_GL_take (w_GL_take_0 hX hx ?_)
  have k0 := key 4 0 (by omega)
  rw [gFl_0] at k0
  have e0 : gUp M c 1 (M c 1 + ((0 : Nat) : Int)) = M := by
    funext b i
    unfold gUp
    split
    · next h => rw [h.1, h.2]; simp
    · rfl
  rw [e0] at k0
  exact k0
end gClass1
