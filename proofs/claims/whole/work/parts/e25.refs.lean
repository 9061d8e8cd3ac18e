/-! The refs of a formula: at most 50, ranges as pairs. -/
def gOkR (x : gRf) : Prop := (0 ≤ x.1 ∧ x.1 < 5200) ∧ 0 ≤ x.2.1 ∧ x.2.1 ≤ 3
def gRc (us : List gRf) (k : Nat) : gRf := us.getD k (0, 0, 0)
def gCps (us : List gRf) : Prop := ∀ k, k < us.length → gOkR (gRc us k) ∧ ((gRc us k).2.2 = 0 ∨ ((gRc us k).2.2 = 1 ∧ k + 1 < us.length ∧ (gRc us (k + 1)).2.2 = 2) ∨ ((gRc us k).2.2 = 2 ∧ 1 ≤ k ∧ (gRc us (k - 1)).2.2 = 1))
theorem gRc_l {a b : List gRf} {k : Nat} (h : k < a.length) : gRc (a ++ b) k = gRc a k := by
  unfold gRc
  rw [List.getD_eq_getElem?_getD, List.getElem?_append_left h, ← List.getD_eq_getElem?_getD]
theorem gRc_r {a b : List gRf} {k : Nat} (h : a.length ≤ k) : gRc (a ++ b) k = gRc b (k - a.length) := by
  unfold gRc
  rw [List.getD_eq_getElem?_getD, List.getElem?_append_right h, ← List.getD_eq_getElem?_getD]
theorem gCps_nil : gCps [] := fun k hk => absurd hk (Nat.not_lt_zero _)
theorem gCps_app {a b : List gRf} (ha : gCps a) (hb : gCps b) : gCps (a ++ b) := by
  intro k hk
  rw [List.length_append] at hk ⊢
  by_cases h : k < a.length
  · obtain ⟨x1, x2⟩ := ha k h
    rw [gRc_l h]
    refine ⟨x1, ?_⟩
    rcases x2 with y | ⟨y1, y2, y3⟩ | ⟨y1, y2, y3⟩
    · exact Or.inl y
    · exact Or.inr (Or.inl ⟨y1, by omega, by rw [gRc_l y2]; exact y3⟩)
    · exact Or.inr (Or.inr ⟨y1, y2, by rw [gRc_l (by omega)]; exact y3⟩)
  · obtain ⟨x1, x2⟩ := hb (k - a.length) (by omega)
    rw [gRc_r (by omega)]
    refine ⟨x1, ?_⟩
    rcases x2 with y | ⟨y1, y2, y3⟩ | ⟨y1, y2, y3⟩
    · exact Or.inl y
    · exact Or.inr (Or.inl ⟨y1, by omega, by rw [gRc_r (by omega), show k + 1 - a.length = k - a.length + 1 by omega]; exact y3⟩)
    · exact Or.inr (Or.inr ⟨y1, by omega, by rw [gRc_r (by omega), show k - 1 - a.length = k - a.length - 1 by omega]; exact y3⟩)
theorem gFx_rg3 (S : List Int) (p : Nat) : 0 ≤ gFx S p ∧ gFx S p ≤ 3 := by
  unfold gFx
  split <;> split <;> omega
section gfG
variable {S : List Int} {ts : List gTkn}
theorem gRfA_ok (hts : ∀ t ∈ ts, gTkO S t ∧ 1 ≤ t.2.1) {a : Nat} {x : Int} (h : gTK ts a = 19) : gOkR (gRfA S ts a x) := by
  have l := gTK_lt (ts := ts) (a := a) (by rw [h]; decide)
  have := gTkO_19 (hts _ (gTs_mem l)).1 h
  exact ⟨⟨this.1, this.2.1⟩, gFx_rg3 _ _⟩
def gD01 (m : Nat) : Nat := if m = 2 ∨ m = 4 then 0 else 1
theorem gPs_rf (hts : ∀ t ∈ ts, gTkO S t ∧ 1 ≤ t.2.1) : ∀ (n m : Nat) (w : Int) (D : Nat) (e : gEx) (a : Nat) (rs : List gRf) (e' : gEx) (a' : Nat) (rs' : List gRf), gPs S ts n m w D e a rs = some (e', a', rs') → ∃ us, rs' = rs ++ us ∧ gCps us ∧ 2 * us.length + a ≤ a' + gD01 m := by
  intro n
  induction n with
  | zero => intro m w D e a rs e' a' rs' h; cases h
  | succ n ih =>
    intro m w D e a rs e' a' rs' h
    have nil : ∀ {b c : Nat}, b ≤ c → ∃ us, rs = rs ++ us ∧ gCps us ∧ 2 * us.length + b ≤ c := fun q => ⟨[], (List.append_nil _).symm, gCps_nil, by show 2 * 0 + _ ≤ _; omega⟩
    rcases m with _ | _ | _ | _ | _ | _ | _ | _ | m
    · have h : gPp S ts (gPs S ts n) D a rs = some (e', a', rs') := h
      show ∃ us, rs' = rs ++ us ∧ gCps us ∧ 2 * us.length + a ≤ a' + 1
      unfold gPp at h
      split at h
      · cases h; exact nil (by omega)
      split at h
      · cases h; exact nil (by omega)
      split at h
      · rename_i hk
        cases h
        refine ⟨_, rfl, fun k hk2 => ?_, by show 2 * 1 + a ≤ a + 1 + 1; omega⟩
        have e0 : k = 0 := by have : k < 1 := hk2; omega
        rw [e0]
        exact ⟨gRfA_ok hts hk, Or.inl rfl⟩
      split at h
      · cases h; exact nil (by omega)
      split at h
      · cases h; exact nil (by omega)
      split at h
      · obtain ⟨us, u1, u2, u3⟩ := ih 5 _ D _ (a + 1) rs e' a' rs' h
        have u3 : 2 * us.length + (a + 1) ≤ a' + 1 := u3
        exact ⟨us, u1, u2, by omega⟩
      split at h
      · obtain ⟨x, b, r, h1, h2⟩ := gBd_some h
        obtain ⟨us, u1, u2, u3⟩ := ih 3 1 (D + 1) _ (a + 1) rs x b r h1
        have u3 : 2 * us.length + (a + 1) ≤ b + 1 := u3
        split at h2
        · cases h2; exact ⟨us, u1, u2, by omega⟩
        · cases h2
      · cases h
    · have h : gPo ts (gPs S ts n) D a rs = some (e', a', rs') := h
      show ∃ us, rs' = rs ++ us ∧ gCps us ∧ 2 * us.length + a ≤ a' + 1
      unfold gPo at h
      split at h
      · cases h
      split at h
      · obtain ⟨x, b, r, h1, h2⟩ := gBd_some h
        obtain ⟨us, u1, u2, u3⟩ := ih 1 0 (D + 1) _ (a + 1) rs x b r h1
        have u3 : 2 * us.length + (a + 1) ≤ b + 1 := u3
        cases h2
        exact ⟨us, u1, u2, by omega⟩
      · obtain ⟨x, b, r, h1, h2⟩ := gBd_some h
        obtain ⟨us, u1, u2, u3⟩ := ih 0 0 D _ a rs x b r h1
        obtain ⟨vs, v1, v2, v3⟩ := ih 2 0 D x b r e' a' rs' h2
        have u3 : 2 * us.length + a ≤ b + 1 := u3
        have v3 : 2 * vs.length + b ≤ a' + 0 := v3
        exact ⟨us ++ vs, by rw [v1, u1, List.append_assoc], gCps_app u2 v2, by rw [List.length_append]; omega⟩
    · have h : gPpc ts (gPs S ts n) D e a rs = some (e', a', rs') := h
      show ∃ us, rs' = rs ++ us ∧ gCps us ∧ 2 * us.length + a ≤ a' + 0
      unfold gPpc at h
      split at h
      · obtain ⟨us, u1, u2, u3⟩ := ih 2 0 D _ (a + 1) rs e' a' rs' h
        have u3 : 2 * us.length + (a + 1) ≤ a' + 0 := u3
        exact ⟨us, u1, u2, by omega⟩
      · cases h; exact nil (by omega)
    · have h : gPe (gPs S ts n) w D a rs = some (e', a', rs') := h
      show ∃ us, rs' = rs ++ us ∧ gCps us ∧ 2 * us.length + a ≤ a' + 1
      unfold gPe at h
      obtain ⟨x, b, r, h1, h2⟩ := gBd_some h
      obtain ⟨us, u1, u2, u3⟩ := ih 1 0 D _ a rs x b r h1
      obtain ⟨vs, v1, v2, v3⟩ := ih 4 w D x b r e' a' rs' h2
      have u3 : 2 * us.length + a ≤ b + 1 := u3
      have v3 : 2 * vs.length + b ≤ a' + 0 := v3
      exact ⟨us ++ vs, by rw [v1, u1, List.append_assoc], gCps_app u2 v2, by rw [List.length_append]; omega⟩
    · have h : gPl2 ts (gPs S ts n) w D e a rs = some (e', a', rs') := h
      show ∃ us, rs' = rs ++ us ∧ gCps us ∧ 2 * us.length + a ≤ a' + 0
      unfold gPl2 at h
      split at h
      · cases h; exact nil (by omega)
      · obtain ⟨x, b, r, h1, h2⟩ := gBd_some h
        obtain ⟨us, u1, u2, u3⟩ := ih 3 _ D _ (a + 1) rs x b r h1
        obtain ⟨vs, v1, v2, v3⟩ := ih 4 w D _ b r e' a' rs' h2
        have u3 : 2 * us.length + (a + 1) ≤ b + 1 := u3
        have v3 : 2 * vs.length + b ≤ a' + 0 := v3
        exact ⟨us ++ vs, by rw [v1, u1, List.append_assoc], gCps_app u2 v2, by rw [List.length_append]; omega⟩
    · have h : gPca ts (gPs S ts n) w D a rs = some (e', a', rs') := h
      show ∃ us, rs' = rs ++ us ∧ gCps us ∧ 2 * us.length + a ≤ a' + 1
      unfold gPca at h
      split at h
      · split at h
        · cases h; exact nil (by omega)
        · obtain ⟨x, b, r, h1, h2⟩ := gBd_some h
          obtain ⟨us, u1, u2, u3⟩ := ih 6 w (D + 1) _ (a + 1) rs x b r h1
          have u3 : 2 * us.length + (a + 1) ≤ b + 1 := u3
          split at h2
          · cases h2; exact ⟨us, u1, u2, by omega⟩
          · cases h2
      · cases h
    · have h : gPas ts (gPs S ts n) w D a rs = some (e', a', rs') := h
      show ∃ us, rs' = rs ++ us ∧ gCps us ∧ 2 * us.length + a ≤ a' + 1
      unfold gPas at h
      obtain ⟨x, b, r, h1, h2⟩ := gBd_some h
      obtain ⟨us, u1, u2, u3⟩ := ih 7 w D _ a rs x b r h1
      have u3 : 2 * us.length + a ≤ b + 1 := u3
      split at h2
      · obtain ⟨y, b2, r2, h3, h4⟩ := gBd_some h2
        obtain ⟨vs, v1, v2, v3⟩ := ih 6 w D _ (b + 1) r y b2 r2 h3
        have v3 : 2 * vs.length + (b + 1) ≤ b2 + 1 := v3
        cases h4
        exact ⟨us ++ vs, by rw [v1, u1, List.append_assoc], gCps_app u2 v2, by rw [List.length_append]; omega⟩
      · cases h2; exact ⟨us, u1, u2, by omega⟩
    · have h : gPar S ts (gPs S ts n) D a rs = some (e', a', rs') := h
      show ∃ us, rs' = rs ++ us ∧ gCps us ∧ 2 * us.length + a ≤ a' + 1
      unfold gPar at h
      split at h
      · cases h
      split at h
      · rename_i hk
        split at h
        · cases h
          refine ⟨_, rfl, fun k hk2 => ?_, by show 2 * 2 + a ≤ a + 3 + 1; omega⟩
          have hk2 : k < 2 := hk2
          match k, hk2 with
          | 0, _ => exact ⟨gRfA_ok hts hk.1, Or.inr (Or.inl ⟨rfl, by show 0 + 1 < 2; omega, rfl⟩)⟩
          | 1, _ => exact ⟨gRfA_ok hts hk.2.2, Or.inr (Or.inr ⟨rfl, Nat.le_refl _, rfl⟩)⟩
        · cases h
      · obtain ⟨us, u1, u2, u3⟩ := ih 3 1 D _ a rs e' a' rs' h
        have u3 : 2 * us.length + a ≤ a' + 1 := u3
        exact ⟨us, u1, u2, u3⟩
    · cases h
theorem gRefs_ok (hS : S ≠ []) : gCps (gRefs S) ∧ (gRefs S).length ≤ 50 := by
  unfold gRefs
  cases ht : gTree S with
  | none => exact ⟨gCps_nil, by decide⟩
  | some q =>
    obtain ⟨e, rs⟩ := q
    dsimp only
    unfold gTree at ht
    split at ht
    · unfold gForm at ht
      cases hx : gLexs S with
      | none => rw [hx] at ht; cases ht
      | some ts =>
        rw [hx] at ht
        dsimp only at ht
        have ok := gLexs_ok hx
        cases hp : gPs S ts 303 3 1 0 (.num 0) 0 [] with
        | none => rw [hp] at ht; cases ht
        | some y =>
          obtain ⟨e1, a1, r1⟩ := y
          rw [hp] at ht
          dsimp only at ht
          obtain ⟨us, u1, u2, u3⟩ := gPs_rf ok.2 303 3 1 0 _ 0 [] e1 a1 r1 hp
          have p1 := (gPs_ok ok.2 303 3 1 0 _ 0 [] e1 a1 r1 hp (Nat.zero_le _) (fun _ => by decide) (fun y => by omega)).1
          split at ht
          · cases ht
            rw [List.nil_append] at u1
            rw [u1]
            have u3 : 2 * us.length + 0 ≤ a1 + 1 := u3
            have := ok.1
            exact ⟨u2, by omega⟩
          · cases ht
    · split at ht
      · cases ht; exact ⟨gCps_nil, by decide⟩
      · cases ht; exact ⟨gCps_nil, by decide⟩
end gfG
