/-! Calls: letters and arguments; which trees are bare refs. -/
/-- the letters of w's arguments -/
def gLt (w : Int) : List Int := if w < 0 then [] else gTks w.toNat
def gFts (L : List Int) (i : Nat) (x : gEx) : Bool := if i < L.length ∧ L.getD i 0 = 114 then gxR x || gxV x else !gxR x
def gRq (L : List Int) : Nat → List gEx → Bool
  | _, [] => true
  | j, e :: es => gFts L j e && gRq L (j + 1) es
theorem gRq_app (L : List Int) (x : gEx) : ∀ (es : List gEx) (j : Nat), gRq L j (es ++ [x]) = (gRq L j es && gFts L (j + es.length) x) := by
  intro es
  induction es with
  | nil =>
    intro j
    show (gFts L j x && true) = (true && gFts L (j + 0) x)
    rw [Bool.and_true, Bool.true_and, Nat.add_zero]
  | cons e es ih =>
    intro j
    show (gFts L j e && gRq L (j + 1) (es ++ [x])) = (gFts L j e && gRq L (j + 1) es && gFts L (j + (es.length + 1)) x)
    rw [ih (j + 1), ← Bool.and_assoc, show j + 1 + es.length = j + (es.length + 1) by omega]
theorem gRq_rt (L : List Int) : ∀ (es : List gEx) (j : Nat), gxRt (L.drop j) es = true ↔ gRq L j es = true ∧ j + es.length = max j L.length := by
  intro es
  induction es with
  | nil =>
    intro j
    cases hd : L.drop j with
    | nil =>
      have : L.length ≤ j := List.drop_eq_nil_iff.1 hd
      exact ⟨fun _ => ⟨rfl, by show j + 0 = _; omega⟩, fun _ => rfl⟩
    | cons y ys =>
      have : j < L.length := Decidable.byContradiction fun q => by
        rw [List.drop_eq_nil_iff.2 (by omega)] at hd
        cases hd
      refine ⟨fun h => (by cases h), fun h => ?_⟩
      have := h.2
      have : j + 0 = max j L.length := this
      omega
  | cons e es ih =>
    intro j
    cases hd : L.drop j with
    | nil =>
      have : L.length ≤ j := List.drop_eq_nil_iff.1 hd
      refine ⟨fun h => (by cases h), fun h => ?_⟩
      have := h.2
      have : j + (es.length + 1) = max j L.length := this
      omega
    | cons y ys =>
      have hj : j < L.length := Decidable.byContradiction fun q => by
        rw [List.drop_eq_nil_iff.2 (by omega)] at hd
        cases hd
      have e1 : L.getD j 0 = y := by
        rw [List.getD_eq_getElem?_getD]
        have := congrArg (fun l => l[0]?) hd
        rw [List.getElem?_drop, Nat.add_zero] at this
        rw [this]
        rfl
      have e2 : L.drop (j + 1) = ys := by
        have := congrArg (List.drop 1) hd
        rw [List.drop_drop] at this
        rw [this]
        rfl
      have i2 := ih (j + 1)
      rw [e2] at i2
      show ((if y = 114 then gxR e || gxV e else !gxR e) && gxRt ys es) = true ↔ (gFts L j e && gRq L (j + 1) es) = true ∧ j + (es.length + 1) = max j L.length
      have e3 : gFts L j e = (if y = 114 then gxR e || gxV e else !gxR e) := by
        unfold gFts
        rw [e1]
        by_cases q : y = 114
        · rw [if_pos ⟨hj, q⟩, if_pos q]
        · rw [if_neg (fun z => q z.2), if_neg q]
      rw [e3, Bool.and_eq_true, Bool.and_eq_true, i2]
      exact ⟨fun h => ⟨⟨h.1, h.2.1⟩, by have := h.2.2; omega⟩, fun h => ⟨h.1.1, h.1.2, by have := h.2; omega⟩⟩
theorem gRq_0 (L : List Int) (es : List gEx) : gxRt L es = true ↔ gRq L 0 es = true ∧ es.length = L.length := by
  have := gRq_rt L es 0
  rw [List.drop_zero] at this
  rw [this]
  exact ⟨fun h => ⟨h.1, by have := h.2; omega⟩, fun h => ⟨h.1, by have := h.2; omega⟩⟩
section gdL
variable {S : List Int} {ts : List gTkn}
theorem gPs_nv : ∀ (n m : Nat) (w : Int) (D : Nat) (e : gEx) (a : Nat) (rs : List gRf) (e' : gEx) (a' : Nat) (rs' : List gRf), (m = 2 ∨ m = 4) → gPs S ts n m w D e a rs = some (e', a', rs') → (e' = e ∧ a' = a) ∨ gxV e' = false := by
  intro n
  induction n with
  | zero => intro m w D e a rs e' a' rs' _ h; cases h
  | succ n ih =>
    intro m w D e a rs e' a' rs' hm h
    rcases hm with hm | hm <;> subst hm
    · have h : gPpc ts (gPs S ts n) D e a rs = some (e', a', rs') := h
      unfold gPpc at h
      split at h
      · rcases ih 2 _ _ _ _ _ _ _ _ (Or.inl rfl) h with q | q
        · exact Or.inr (by rw [q.1]; rfl)
        · exact Or.inr q
      · cases h
        exact Or.inl ⟨rfl, rfl⟩
    · have h : gPl2 ts (gPs S ts n) w D e a rs = some (e', a', rs') := h
      unfold gPl2 at h
      split at h
      · cases h
        exact Or.inl ⟨rfl, rfl⟩
      · obtain ⟨y, b, r, h1, h2⟩ := gBd_some h
        rcases ih 4 _ _ _ _ _ _ _ _ (Or.inr rfl) h2 with q | q
        · exact Or.inr (by rw [q.1]; rfl)
        · exact Or.inr q
/-- a tree that is a bare ref is one token -/
theorem gPs_var {n : Nat} {w : Int} {D a a' : Nat} {rs rs' : List gRf} {e' : gEx} (h : gPs S ts n 3 w D (.num 0) a rs = some (e', a', rs')) (hv : gxV e' = true) : gTK ts a = 19 ∧ a' = a + 1 := by
  cases n with
  | zero => cases h
  | succ n =>
    have h : gPe (gPs S ts n) w D a rs = some (e', a', rs') := h
    obtain ⟨x, b, r, h1, h2⟩ := gBd_some h
    rcases gPs_nv n 4 w D x b r e' a' rs' (Or.inr rfl) h2 with q | q
    · rw [q.1] at hv
      rw [q.2]
      cases n with
      | zero => cases h1
      | succ n =>
        have h1 : gPo ts (gPs S ts n) D a rs = some (x, b, r) := h1
        unfold gPo at h1
        split at h1
        · cases h1
        split at h1
        · obtain ⟨y, b2, r2, h3, h4⟩ := gBd_some h1
          cases h4
          cases hv
        · obtain ⟨y, b2, r2, h3, h4⟩ := gBd_some h1
          rcases gPs_nv n 2 0 D y b2 r2 x b r (Or.inl rfl) h4 with q2 | q2
          · rw [q2.1] at hv
            rw [q2.2]
            cases n with
            | zero => cases h3
            | succ n =>
              have h3 : gPp S ts (gPs S ts n) D a rs = some (y, b2, r2) := h3
              unfold gPp at h3
              split at h3
              · cases h3; cases hv
              split at h3
              · cases h3; cases hv
              split at h3
              · rename_i hk
                cases h3
                exact ⟨hk, rfl⟩
              split at h3
              · cases h3; cases hv
              split at h3
              · cases h3; cases hv
              split at h3
              · cases n with
                | zero => cases h3
                | succ n =>
                  have h3 : gPca ts (gPs S ts n) _ D (a + 1) rs = some (y, b2, r2) := h3
                  unfold gPca at h3
                  split at h3
                  · split at h3
                    · cases h3; cases hv
                    · obtain ⟨y2, b3, r3, h5, h6⟩ := gBd_some h3
                      split at h6
                      · cases h6; cases hv
                      · cases h6
                  · cases h3
              split at h3
              · obtain ⟨y2, b3, r3, h5, h6⟩ := gBd_some h3
                split at h6
                · cases h6; cases hv
                · cases h6
              · cases h3
          · rw [q2] at hv; cases hv
    · rw [q] at hv; cases hv
theorem gPs_ref {n D a : Nat} {rs : List gRf} (hn : 3 ≤ n) (hD : D ≤ 20) (h1 : gTK ts a = 19) (h2 : gTK ts (a + 1) = 15 ∨ gTK ts (a + 1) = 14) : gPs S ts n 3 1 D (.num 0) a rs = some (.var rs.length, a + 1, rs ++ [gRfA S ts a 0]) := by
  obtain ⟨m, hm⟩ : ∃ m, n = m + 3 := ⟨n - 3, by omega⟩
  subst hm
  have e0 : gPs S ts (m + 1) 0 0 D (.num 0) a rs = some (.var rs.length, a + 1, rs ++ [gRfA S ts a 0]) := by
    show gPp S ts (gPs S ts m) D a rs = _
    unfold gPp
    rw [h1]
    rfl
  have e2 : gPs S ts (m + 1) 2 0 D (.var rs.length) (a + 1) (rs ++ [gRfA S ts a 0]) = some (.var rs.length, a + 1, rs ++ [gRfA S ts a 0]) := by
    show gPpc ts (gPs S ts m) D _ (a + 1) _ = _
    unfold gPpc
    rw [if_neg (by rcases h2 with h2 | h2 <;> rw [h2] <;> decide)]
  have e1 : gPs S ts (m + 2) 1 0 D (.num 0) a rs = some (.var rs.length, a + 1, rs ++ [gRfA S ts a 0]) := by
    show gPo ts (gPs S ts (m + 1)) D a rs = _
    unfold gPo
    rw [if_neg (by omega), if_neg (by rw [h1]; decide), e0]
    exact e2
  have e4 : gPs S ts (m + 2) 4 1 D (.var rs.length) (a + 1) (rs ++ [gRfA S ts a 0]) = some (.var rs.length, a + 1, rs ++ [gRfA S ts a 0]) := by
    show gPl2 ts (gPs S ts (m + 1)) 1 D _ (a + 1) _ = _
    unfold gPl2
    rw [if_pos (by rcases h2 with h2 | h2 <;> rw [h2] <;> decide)]
  show gPe (gPs S ts (m + 2)) 1 D a rs = _
  unfold gPe
  rw [e1]
  exact e4
end gdL
