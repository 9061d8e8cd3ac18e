/-! What growth keeps: X' is X with more cells, and other references in the cell a alone. -/
def gGw (X X' : gX) (a : Nat) : Prop := X.1 ≤ X'.1 ∧ (∀ b, b ≤ X.1 → X'.2.1 b = X.2.1 b) ∧ ∀ b j, b ≤ X.1 → b ≠ a → X'.2.2 b j = X.2.2 b j
theorem gGw.rf (X : gX) (a : Nat) : gGw X X a := ⟨Nat.le_refl _, fun _ _ => rfl, fun _ _ _ _ => rfl⟩
theorem gGw.tr {X Y Z : gX} {a : Nat} (h : gGw X Y a) (k : gGw Y Z a) : gGw X Z a :=
  ⟨Nat.le_trans h.1 k.1, fun b hb => (k.2.1 b (Nat.le_trans hb h.1)).trans (h.2.1 b hb), fun b j hb hn => (k.2.2 b j (Nat.le_trans hb h.1) hn).trans (h.2.2 b j hb hn)⟩
theorem gGw.nw (X : gX) (a : Nat) (sh : Nat × Nat) : gGw X (gNw X sh) a := ⟨Nat.le_succ _, fun _ hb => gNw_s hb, fun _ j hb _ => gNw_r hb j⟩
theorem gGw.gu (X : gX) (a k r : Nat) : gGw X (gGu X a k r) a := ⟨Nat.le_refl _, fun _ _ => rfl, fun _ _ _ hn => gGu_o X r (fun h => hn h.1)⟩
theorem gGw.mk (X : gX) (a k : Nat) (sh : Nat × Nat) : gGw X (gMk X a k sh) a := ⟨Nat.le_succ _, fun _ hb => gMk_s hb, fun _ _ hb hn => gMk_o hb (fun h => hn h.1)⟩
theorem gMu_r {X : gX} {N k b : Nat} (h : b ≤ X.1) (j : Nat) : (gMu X N k).2.2 b j = X.2.2 b j := by
  unfold gMu
  dsimp only
  rw [if_pos h]
theorem gGw.mu (X : gX) (a N k : Nat) : gGw X (gMu X N k) a := ⟨by show X.1 ≤ X.1 + 1 + N; omega, fun _ hb => gMu_s hb, fun _ j hb _ => gMu_r hb j⟩
/-- growth that is another's, a made object b's, is growth for all that lay there before -/
theorem gGw.of {X X' : gX} {b : Nat} (h : gGw X X' b) (hb : X.1 < b) (a : Nat) : gGw X X' a := ⟨h.1, h.2.1, fun c j hc _ => h.2.2 c j hc (by omega)⟩
/-- after an object's own making (its cell is the newest) -/
theorem gGw.new {X X' : gX} {sh : Nat × Nat} (h : gGw (gNw X sh) X' (X.1 + 1)) (a : Nat) : gGw X X' a :=
  ⟨Nat.le_trans (Nat.le_succ _) h.1, fun b hb => (h.2.1 b (gNw_2 hb)).trans (gNw_s hb), fun b j hb _ => (h.2.2 b j (gNw_2 hb) (by omega)).trans (gNw_r hb j)⟩
theorem gsX.grow {X X' : gX} {s a : Nat} (h : gsX X s) (g : gGw X X' a) (hn : a ≠ s) : gsX X' s := by
  refine ⟨h.1, Nat.le_trans h.2.1 g.1, (g.2.1 s (gs_2 h)).trans h.2.2.1, fun q hq => ?_⟩
  obtain ⟨h1, h2, h3, h4⟩ := h.2.2.2 q hq
  exact ⟨(g.2.2 s q.1 (gs_2 h) (Ne.symm hn)).trans h1, (g.2.1 _ h4).trans h2, h3, Nat.le_trans h4 g.1⟩
theorem gvX.grow {X X' : gX} {v n a : Nat} (h : gvX X v n) (g : gGw X X' a) (hn : a ≠ v) (hm : a ≠ v + 3) : gvX X' v n := by
  obtain ⟨h1, h2, h3, h4, ⟨a1, a2⟩, ⟨b1, b2⟩, ⟨c1, c2⟩, hr⟩ := h
  refine ⟨h1, Nat.le_trans h2 g.1, (g.2.1 v (by omega)).trans h3, h4, ⟨(g.2.2 v 0 (by omega) (Ne.symm hn)).trans a1, (g.2.1 _ (by omega)).trans a2⟩, ⟨(g.2.2 v 1 (by omega) (Ne.symm hn)).trans b1, (g.2.1 _ (by omega)).trans b2⟩, ⟨(g.2.2 v 2 (by omega) (Ne.symm hn)).trans c1, (g.2.1 _ (by omega)).trans c2⟩, fun i hi => ?_⟩
  obtain ⟨r1, r2⟩ := hr i hi
  exact ⟨(g.2.2 (v + 3) i (by omega) (Ne.symm hm)).trans r1, (g.2.1 _ (by omega)).trans r2⟩
/-- what is known of the cells behind c: F references (cell, slot, to), S shapes (cell, tag, size) -/
def gKn (X : gX) (c : Nat) (F : List (Nat × Nat × Nat)) (S : List (Nat × Nat × Nat)) : Prop := (∀ q ∈ F, c + q.1 ≤ X.1 ∧ X.2.2 (c + q.1) q.2.1 = c + q.2.2) ∧ ∀ q ∈ S, c + q.1 ≤ X.1 ∧ X.2.1 (c + q.1) = q.2
theorem gKn.grow {X X' : gX} {c i : Nat} {F S : List (Nat × Nat × Nat)} (h : gKn X c F S) (g : gGw X X' (c + i)) (hn : ∀ q ∈ F, q.1 ≠ i) : gKn X' c F S :=
  ⟨fun q hq => ⟨Nat.le_trans (h.1 q hq).1 g.1, (g.2.2 _ _ (h.1 q hq).1 (fun e => hn q hq (by omega))).trans (h.1 q hq).2⟩, fun q hq => ⟨Nat.le_trans (h.2 q hq).1 g.1, (g.2.1 _ (h.2 q hq).1).trans (h.2 q hq).2⟩⟩
theorem gKn.mk {X : gX} {c i j k : Nat} {sh : Nat × Nat} {F S : List (Nat × Nat × Nat)} (h : gKn X c F S) (hj : X.1 = c + j) (hi : i ≤ j) (hn : ∀ q ∈ F, ¬ (q.1 = i ∧ q.2.1 = k)) : gKn (gMk X (c + i) k sh) c ((i, k, j + 1) :: F) ((j + 1, sh) :: S) := by
  refine ⟨fun q hq => ?_, fun q hq => ?_⟩
  · rcases List.mem_cons.mp hq with rfl | hq
    · refine ⟨gMk_2 (by omega), ?_⟩
      show (gMk X (c + i) k sh).2.2 (c + i) k = _
      rw [gMk_k, hj]
      rfl
    · obtain ⟨h1, h2⟩ := h.1 q hq
      exact ⟨gMk_2 h1, (gMk_o h1 (fun e => hn q hq ⟨by omega, e.2⟩)).trans h2⟩
  · rcases List.mem_cons.mp hq with rfl | hq
    · refine ⟨by show c + (j + 1) ≤ X.1 + 1; omega, ?_⟩
      show (gMk X (c + i) k sh).2.1 (c + (j + 1)) = sh
      rw [show c + (j + 1) = X.1 + 1 by omega]
      exact gMk_n X _ _ _
    · obtain ⟨h1, h2⟩ := h.2 q hq
      exact ⟨gMk_2 h1, (gMk_s h1).trans h2⟩
theorem gKn.nw {X : gX} {c j : Nat} {sh : Nat × Nat} {F S : List (Nat × Nat × Nat)} (h : gKn X c F S) (hj : X.1 = c + j) : gKn (gNw X sh) c F ((j + 1, sh) :: S) := by
  refine ⟨fun q hq => ?_, fun q hq => ?_⟩
  · obtain ⟨h1, h2⟩ := h.1 q hq
    exact ⟨gNw_2 h1, (gNw_r h1 _).trans h2⟩
  · rcases List.mem_cons.mp hq with rfl | hq
    · refine ⟨by show c + (j + 1) ≤ X.1 + 1; omega, ?_⟩
      show (gNw X sh).2.1 (c + (j + 1)) = sh
      rw [show c + (j + 1) = X.1 + 1 by omega]
      exact gNw_n X _
    · obtain ⟨h1, h2⟩ := h.2 q hq
      exact ⟨gNw_2 h1, (gNw_s h1).trans h2⟩
theorem gKn.gu {X : gX} {c i k r a t : Nat} {F S : List (Nat × Nat × Nat)} (h : gKn X c F S) (ha : a = c + i) (hr : r = c + t) (hi : c + i ≤ X.1) (hn : ∀ q ∈ F, ¬ (q.1 = i ∧ q.2.1 = k)) : gKn (gGu X a k r) c ((i, k, t) :: F) S := by
  subst ha; subst hr
  refine ⟨fun q hq => ?_, fun q hq => h.2 q hq⟩
  rcases List.mem_cons.mp hq with rfl | hq
  · exact ⟨hi, gGu_k X _ _ _⟩
  · obtain ⟨h1, h2⟩ := h.1 q hq
    exact ⟨h1, (gGu_o X _ (fun e => hn q hq ⟨by omega, e.2⟩)).trans h2⟩
