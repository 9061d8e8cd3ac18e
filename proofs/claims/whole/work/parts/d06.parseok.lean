/-! What the parser's trees are like. -/
theorem gTg_12 (i : Nat) (h : 1 ≤ gTg i) : i < 12 := by
  refine Decidable.byContradiction fun q => ?_
  by_cases h2 : i < 25
  · have : ∀ j, j < 25 → 12 ≤ j → gTg j = 0 := by decide
    rw [this i h2 (by omega)] at h
    exact absurd h (by decide)
  · unfold gTg at h
    rw [List.getD_eq_getElem?_getD, List.getElem?_eq_none (by show 25 ≤ i; omega)] at h
    exact absurd h (by decide)
theorem gxCl_le {w : Int} {as : List gEx} {ns : List Nat} (hw : w < 52) (hl : ns.length = as.length) : gxCl w as ns ≤ ns.sum + ns.length + 1 := by
  unfold gxCl
  split
  · omega
  · split
    · omega
    · rename_i h0 hr
      split
      · have hr2 : gxRt (gTks w.toNat) as = true := by
          cases hq : gxRt (gTks w.toNat) as with
          | true => rfl
          | false => exact absurd hq hr
        have h1 := gxRt_len _ _ hr2
        have h2 := (gGl w.toNat (by omega)).1
        have h3 : (gTks w.toNat).length = gSl (gWta w.toNat) := rfl
        omega
      · omega
def gPok (S : List Int) (m : Nat) (e : gEx) (a : Nat) (rs : List gRf) (e' : gEx) (a' : Nat) (rs' : List gRf) : Prop :=
  if m = 2 ∨ m = 4 then ((gxWf (gPP rs) (gRR rs) S.length e).1 → gxR e = false → (gxWf (gPP rs') (gRR rs') S.length e').1 ∧ gxR e' = false ∧ (gxLn e').1 + a ≤ (gxLn e).1 + a' ∧ gxH e' + a ≤ gxH e + a')
  else if m = 6 then a < a' ∧ (gxWf (gPP rs') (gRR rs') S.length e').2 ∧ (gxLn e').2.sum + (gxAL e').length + a ≤ a' + 1 ∧ gxH e' + a ≤ a'
  else a < a' ∧ (gxWf (gPP rs') (gRR rs') S.length e').1 ∧ (m ≠ 7 → gxR e' = false) ∧ (gxLn e').1 + a ≤ a' ∧ gxH e' + a ≤ a' + (if m = 5 then 1 else 0)
section gdE
variable {S : List Int} {ts : List gTkn}
theorem gPs_ok (hts : ∀ t ∈ ts, gTkO S t ∧ 1 ≤ t.2.1) : ∀ (n m : Nat) (w : Int) (D : Nat) (e : gEx) (a : Nat) (rs : List gRf) (e' : gEx) (a' : Nat) (rs' : List gRf), gPs S ts n m w D e a rs = some (e', a', rs') → a ≤ ts.length → (m = 3 ∨ m = 4 → 1 ≤ w) → (m = 5 → w = -1 ∨ 14 ≤ w ∧ w < 52) → a' ≤ ts.length ∧ (∃ us, rs' = rs ++ us ∧ us.length + a ≤ a') ∧ gPok S m e a rs e' a' rs' := by
  intro n
  induction n with
  | zero => intro m w D e a rs e' a' rs' h; cases h
  | succ n ih =>
    intro m w D e a rs e' a' rs' h ha hw hw5
    have lt : ∀ {b : Nat} {x : Int}, gTK ts b = x → x ≠ 23 → b < ts.length := fun e1 e2 => gTK_lt (by rw [e1]; exact e2)
    have ok : ∀ {b : Nat}, b < ts.length → gTkO S (gTs ts b) := fun q => (hts _ (gTs_mem q)).1
    rcases m with _ | _ | _ | _ | _ | _ | _ | _ | m
    · have h : gPp S ts (gPs S ts n) D a rs = some (e', a', rs') := h
      show _ ∧ _ ∧ (a < a' ∧ (gxWf (gPP rs') (gRR rs') S.length e').1 ∧ ((0 : Nat) ≠ 7 → gxR e' = false) ∧ (gxLn e').1 + a ≤ a' ∧ gxH e' + a ≤ a' + 0)
      unfold gPp at h
      split at h
      · rename_i hk
        have l1 := lt hk (by decide)
        obtain ⟨z, hz⟩ := gTkO_17 (ok l1) hk
        rw [hz] at h
        cases h
        exact ⟨l1, ⟨[], (List.append_nil _).symm, by show 0 + a ≤ a + 1; omega⟩, Nat.lt_succ_self _, gNum_ok hz, fun _ => rfl, by show 1 + a ≤ a + 1; omega, by show 0 + a ≤ a + 1 + 0; omega⟩
      split at h
      · rename_i hk
        have l1 := lt hk (by decide)
        have h18 := gTkO_18 (ok l1) hk
        have hb := gTkO_k (ok l1)
        cases h
        refine ⟨l1, ⟨[], (List.append_nil _).symm, by show 0 + a ≤ a + 1; omega⟩, Nat.lt_succ_self _, ?_, fun _ => rfl, by show 1 + a ≤ a + 1; omega, by show 0 + 1 + a ≤ a + 1 + 0; omega⟩
        show (0 : Int) ≤ (((gTs ts a).2.1 + 1 : Nat) : Int) ∧ (((gTs ts a).2.1 + 1 : Nat) : Int) ≤ (((gTs ts a).2.2 - 1 : Nat) : Int) ∧ (((gTs ts a).2.2 - 1 : Nat) : Int) ≤ (S.length : Int) ∧ (((gTs ts a).2.2 - 1 : Nat) : Int) - (((gTs ts a).2.1 + 1 : Nat) : Int) ≤ 64
        omega
      split at h
      · rename_i hk
        have l1 := lt hk (by decide)
        cases h
        refine ⟨l1, ⟨_, rfl, by show 1 + a ≤ a + 1; omega⟩, Nat.lt_succ_self _, ?_, fun _ => rfl, by show 1 + a ≤ a + 1; omega, by show 0 + a ≤ a + 1 + 0; omega⟩
        show gPP _ _
        unfold gPP
        rw [List.length_append]
        exact ⟨by omega, by show (rs.length : Int) < ((rs.length + 1 : Nat) : Int); omega⟩
      split at h
      · rename_i hk
        have l1 := lt hk (by decide)
        cases h
        exact ⟨l1, ⟨[], (List.append_nil _).symm, by show 0 + a ≤ a + 1; omega⟩, Nat.lt_succ_self _, ⟨by decide, by decide⟩, fun _ => rfl, by show 1 + a ≤ a + 1; omega, by show 0 + 1 + a ≤ a + 1 + 0; omega⟩
      split at h
      · rename_i hk
        have l1 := lt hk (by decide)
        cases h
        exact ⟨l1, ⟨[], (List.append_nil _).symm, by show 0 + a ≤ a + 1; omega⟩, Nat.lt_succ_self _, ⟨by decide, by decide⟩, fun _ => rfl, by show 1 + a ≤ a + 1; omega, by show 0 + 1 + a ≤ a + 1 + 0; omega⟩
      split at h
      · rename_i hk
        have l1 := lt hk (by decide)
        obtain ⟨q1, ⟨us, q2, q3⟩, q4⟩ := ih 5 _ D _ (a + 1) rs e' a' rs' h l1 (fun y => by omega) (fun _ => gNmW_rng _)
        have q4 : a + 1 < a' ∧ (gxWf (gPP rs') (gRR rs') S.length e').1 ∧ ((5 : Nat) ≠ 7 → gxR e' = false) ∧ (gxLn e').1 + (a + 1) ≤ a' ∧ gxH e' + (a + 1) ≤ a' + 1 := q4
        exact ⟨q1, ⟨us, q2, by omega⟩, by omega, q4.2.1, fun _ => q4.2.2.1 (by decide), by omega, by omega⟩
      split at h
      · rename_i hk
        have l1 := lt hk (by decide)
        obtain ⟨x, b, r, h1, h2⟩ := gBd_some h
        obtain ⟨q1, ⟨us, q2, q3⟩, q4⟩ := ih 3 1 (D + 1) _ (a + 1) rs x b r h1 l1 (fun _ => by decide) (fun y => by omega)
        have q4 : a + 1 < b ∧ (gxWf (gPP r) (gRR r) S.length x).1 ∧ ((3 : Nat) ≠ 7 → gxR x = false) ∧ (gxLn x).1 + (a + 1) ≤ b ∧ gxH x + (a + 1) ≤ b + 0 := q4
        split at h2
        · rename_i hk2
          have l2 := lt hk2 (by decide)
          cases h2
          refine ⟨l2, ⟨us, q2, by omega⟩, by omega, ⟨q4.2.1, q4.2.2.1 (by decide)⟩, fun _ => rfl, ?_, ?_⟩
          · show (if (0 : Int) = 0 then (gxLn x).1 else (gxLn x).1 + 1) + a ≤ b + 1
            rw [if_pos rfl]
            omega
          · show gxH x + 1 + a ≤ b + 1 + 0
            omega
        · cases h2
      · cases h
    · have h : gPo ts (gPs S ts n) D a rs = some (e', a', rs') := h
      show _ ∧ _ ∧ (a < a' ∧ (gxWf (gPP rs') (gRR rs') S.length e').1 ∧ ((1 : Nat) ≠ 7 → gxR e' = false) ∧ (gxLn e').1 + a ≤ a' ∧ gxH e' + a ≤ a' + 0)
      unfold gPo at h
      split at h
      · cases h
      split at h
      · rename_i hk
        have l1 := lt hk (by decide)
        obtain ⟨x, b, r, h1, h2⟩ := gBd_some h
        obtain ⟨q1, ⟨us, q2, q3⟩, q4⟩ := ih 1 0 (D + 1) _ (a + 1) rs x b r h1 l1 (fun y => by omega) (fun y => by omega)
        have q4 : a + 1 < b ∧ (gxWf (gPP r) (gRR r) S.length x).1 ∧ ((1 : Nat) ≠ 7 → gxR x = false) ∧ (gxLn x).1 + (a + 1) ≤ b ∧ gxH x + (a + 1) ≤ b + 0 := q4
        cases h2
        refine ⟨q1, ⟨us, q2, by omega⟩, by omega, ⟨q4.2.1, q4.2.2.1 (by decide)⟩, fun _ => rfl, ?_, ?_⟩
        · show (gxLn x).1 + 1 + a ≤ a'
          omega
        · show gxH x + 1 + a ≤ a' + 0
          omega
      · obtain ⟨x, b, r, h1, h2⟩ := gBd_some h
        obtain ⟨q1, ⟨us, q2, q3⟩, q4⟩ := ih 0 0 D _ a rs x b r h1 ha (fun y => by omega) (fun y => by omega)
        have q4 : a < b ∧ (gxWf (gPP r) (gRR r) S.length x).1 ∧ ((0 : Nat) ≠ 7 → gxR x = false) ∧ (gxLn x).1 + a ≤ b ∧ gxH x + a ≤ b + 0 := q4
        obtain ⟨p1, ⟨vs, p2, p3⟩, p4⟩ := ih 2 0 D x b r e' a' rs' h2 q1 (fun y => by omega) (fun y => by omega)
        have p4 : (gxWf (gPP r) (gRR r) S.length x).1 → gxR x = false → (gxWf (gPP rs') (gRR rs') S.length e').1 ∧ gxR e' = false ∧ (gxLn e').1 + b ≤ (gxLn x).1 + a' ∧ gxH e' + b ≤ gxH x + a' := p4
        have p5 := p4 q4.2.1 (q4.2.2.1 (by decide))
        refine ⟨p1, ⟨us ++ vs, by rw [p2, q2, List.append_assoc], by rw [List.length_append]; omega⟩, by omega, p5.1, fun _ => p5.2.1, by omega, by omega⟩
    · have h : gPpc ts (gPs S ts n) D e a rs = some (e', a', rs') := h
      show _ ∧ _ ∧ ((gxWf (gPP rs) (gRR rs) S.length e).1 → gxR e = false → (gxWf (gPP rs') (gRR rs') S.length e').1 ∧ gxR e' = false ∧ (gxLn e').1 + a ≤ (gxLn e).1 + a' ∧ gxH e' + a ≤ gxH e + a')
      unfold gPpc at h
      split at h
      · rename_i hk
        have l1 := lt hk (by decide)
        obtain ⟨p1, ⟨vs, p2, p3⟩, p4⟩ := ih 2 0 D _ (a + 1) rs e' a' rs' h l1 (fun y => by omega) (fun y => by omega)
        have p4 : (gxWf (gPP rs) (gRR rs) S.length (.mulR e 1)).1 → gxR (.mulR e 1) = false → (gxWf (gPP rs') (gRR rs') S.length e').1 ∧ gxR e' = false ∧ (gxLn e').1 + (a + 1) ≤ (if (1 : Int) = 0 then (gxLn e).1 else (gxLn e).1 + 1) + a' ∧ gxH e' + (a + 1) ≤ gxH e + 1 + a' := p4
        refine ⟨p1, ⟨vs, p2, by omega⟩, fun f1 f2 => ?_⟩
        have p5 := p4 ⟨f1, f2⟩ rfl
        rw [if_neg (by decide)] at p5
        exact ⟨p5.1, p5.2.1, by omega, by omega⟩
      · cases h
        exact ⟨ha, ⟨[], (List.append_nil _).symm, by show 0 + a ≤ a; omega⟩, fun f1 f2 => ⟨f1, f2, Nat.le_refl _, Nat.le_refl _⟩⟩
    · have h : gPe (gPs S ts n) w D a rs = some (e', a', rs') := h
      show _ ∧ _ ∧ (a < a' ∧ (gxWf (gPP rs') (gRR rs') S.length e').1 ∧ ((3 : Nat) ≠ 7 → gxR e' = false) ∧ (gxLn e').1 + a ≤ a' ∧ gxH e' + a ≤ a' + 0)
      obtain ⟨x, b, r, h1, h2⟩ := gBd_some h
      obtain ⟨q1, ⟨us, q2, q3⟩, q4⟩ := ih 1 0 D _ a rs x b r h1 ha (fun y => by omega) (fun y => by omega)
      have q4 : a < b ∧ (gxWf (gPP r) (gRR r) S.length x).1 ∧ ((1 : Nat) ≠ 7 → gxR x = false) ∧ (gxLn x).1 + a ≤ b ∧ gxH x + a ≤ b + 0 := q4
      obtain ⟨p1, ⟨vs, p2, p3⟩, p4⟩ := ih 4 w D x b r e' a' rs' h2 q1 (fun _ => hw (Or.inl rfl)) (fun y => by omega)
      have p4 : (gxWf (gPP r) (gRR r) S.length x).1 → gxR x = false → (gxWf (gPP rs') (gRR rs') S.length e').1 ∧ gxR e' = false ∧ (gxLn e').1 + b ≤ (gxLn x).1 + a' ∧ gxH e' + b ≤ gxH x + a' := p4
      have p5 := p4 q4.2.1 (q4.2.2.1 (by decide))
      refine ⟨p1, ⟨us ++ vs, by rw [p2, q2, List.append_assoc], by rw [List.length_append]; omega⟩, by omega, p5.1, fun _ => p5.2.1, by omega, by omega⟩
    · have h : gPl2 ts (gPs S ts n) w D e a rs = some (e', a', rs') := h
      show _ ∧ _ ∧ ((gxWf (gPP rs) (gRR rs) S.length e).1 → gxR e = false → (gxWf (gPP rs') (gRR rs') S.length e').1 ∧ gxR e' = false ∧ (gxLn e').1 + a ≤ (gxLn e).1 + a' ∧ gxH e' + a ≤ gxH e + a')
      unfold gPl2 at h
      split at h
      · cases h
        exact ⟨ha, ⟨[], (List.append_nil _).symm, by show 0 + a ≤ a; omega⟩, fun f1 f2 => ⟨f1, f2, Nat.le_refl _, Nat.le_refl _⟩⟩
      · rename_i hg
        have w1 := hw (Or.inr rfl)
        have k12 := gTg_12 (gTK ts a).toNat (by omega)
        have l1 : a < ts.length := gTK_lt (fun y => by rw [y] at k12; exact absurd k12 (by decide))
        have hb := gTkO_k (ok l1)
        obtain ⟨y, b, r, h1, h2⟩ := gBd_some h
        obtain ⟨q1, ⟨us, q2, q3⟩, q4⟩ := ih 3 _ D _ (a + 1) rs y b r h1 l1 (fun _ => by omega) (fun y => by omega)
        have q4 : a + 1 < b ∧ (gxWf (gPP r) (gRR r) S.length y).1 ∧ ((3 : Nat) ≠ 7 → gxR y = false) ∧ (gxLn y).1 + (a + 1) ≤ b ∧ gxH y + (a + 1) ≤ b + 0 := q4
        obtain ⟨p1, ⟨vs, p2, p3⟩, p4⟩ := ih 4 w D _ b r e' a' rs' h2 q1 (fun _ => w1) (fun y => by omega)
        have p4 : (gxWf (gPP r) (gRR r) S.length (.mulL (gTK ts a) (.add e y))).1 → gxR (.mulL (gTK ts a) (.add e y)) = false → (gxWf (gPP rs') (gRR rs') S.length e').1 ∧ gxR e' = false ∧ (gxLn e').1 + b ≤ (gxLn e).1 + (gxLn y).1 + 1 + a' ∧ gxH e' + b ≤ max (gxH e) (gxH y) + 1 + a' := p4
        refine ⟨p1, ⟨us ++ vs, by rw [p2, q2, List.append_assoc], by rw [List.length_append]; omega⟩, fun f1 f2 => ?_⟩
        have p5 := p4 ⟨hb.1, by show gTK ts a < 12; omega, ⟨by rw [q2]; exact gxWf_app f1, f2⟩, ⟨q4.2.1, q4.2.2.1 (by decide)⟩⟩ rfl
        exact ⟨p5.1, p5.2.1, by omega, by omega⟩
    · have h : gPca ts (gPs S ts n) w D a rs = some (e', a', rs') := h
      show _ ∧ _ ∧ (a < a' ∧ (gxWf (gPP rs') (gRR rs') S.length e').1 ∧ ((5 : Nat) ≠ 7 → gxR e' = false) ∧ (gxLn e').1 + a ≤ a' ∧ gxH e' + a ≤ a' + 1)
      have hw5 := hw5 rfl
      unfold gPca at h
      split at h
      · rename_i hk
        have l1 := lt hk (by decide)
        split at h
        · rename_i hk2
          have l2 := lt hk2 (by decide)
          cases h
          refine ⟨l2, ⟨[], (List.append_nil _).symm, by show 0 + a ≤ a + 2; omega⟩, by omega, ⟨hw5, trivial⟩, fun _ => rfl, ?_, by show 0 + 3 + a ≤ a + 2 + 1; omega⟩
          have := gxCl_le (w := w) (as := []) (ns := []) (by omega) rfl
          have : gxCl w [] [] ≤ 1 := this
          show gxCl w [] [] + a ≤ a + 2
          omega
        · obtain ⟨x, b, r, h1, h2⟩ := gBd_some h
          obtain ⟨q1, ⟨us, q2, q3⟩, q4⟩ := ih 6 w (D + 1) _ (a + 1) rs x b r h1 l1 (fun y => by omega) (fun y => by omega)
          have q4 : a + 1 < b ∧ (gxWf (gPP r) (gRR r) S.length x).2 ∧ (gxLn x).2.sum + (gxAL x).length + (a + 1) ≤ b + 1 ∧ gxH x + (a + 1) ≤ b := q4
          split at h2
          · rename_i hk2
            have l2 := lt hk2 (by decide)
            cases h2
            refine ⟨l2, ⟨us, q2, by omega⟩, by omega, ⟨hw5, q4.2.1⟩, fun _ => rfl, ?_, by show gxH x + 3 + a ≤ b + 1 + 1; omega⟩
            have := gxCl_le (w := w) (as := gxAL x) (ns := (gxLn x).2) (by omega) (gxAL_len x)
            have e2 := gxAL_len x
            show gxCl w (gxAL x) (gxLn x).2 + a ≤ b + 1
            omega
          · cases h2
      · cases h
    · have h : gPas ts (gPs S ts n) w D a rs = some (e', a', rs') := h
      show _ ∧ _ ∧ (a < a' ∧ (gxWf (gPP rs') (gRR rs') S.length e').2 ∧ (gxLn e').2.sum + (gxAL e').length + a ≤ a' + 1 ∧ gxH e' + a ≤ a')
      obtain ⟨x, b, r, h1, h2⟩ := gBd_some h
      obtain ⟨q1, ⟨us, q2, q3⟩, q4⟩ := ih 7 w D _ a rs x b r h1 ha (fun y => by omega) (fun y => by omega)
      have q4 : a < b ∧ (gxWf (gPP r) (gRR r) S.length x).1 ∧ ((7 : Nat) ≠ 7 → gxR x = false) ∧ (gxLn x).1 + a ≤ b ∧ gxH x + a ≤ b + 0 := q4
      split at h2
      · rename_i hk
        have l1 := lt hk (by decide)
        obtain ⟨y, b2, r2, h3, h4⟩ := gBd_some h2
        obtain ⟨p1, ⟨vs, p2, p3⟩, p4⟩ := ih 6 w D _ (b + 1) r y b2 r2 h3 l1 (fun y => by omega) (fun y => by omega)
        have p4 : b + 1 < b2 ∧ (gxWf (gPP r2) (gRR r2) S.length y).2 ∧ (gxLn y).2.sum + (gxAL y).length + (b + 1) ≤ b2 + 1 ∧ gxH y + (b + 1) ≤ b2 := p4
        cases h4
        refine ⟨p1, ⟨us ++ vs, by rw [p2, q2, List.append_assoc], by rw [List.length_append]; omega⟩, by omega, ⟨by rw [p2]; exact gxWf_app q4.2.1, p4.2.1⟩, ?_, ?_⟩
        · show ((gxLn x).1 :: (gxLn y).2).sum + ((gxAL y).length + 1) + a ≤ a' + 1
          rw [List.sum_cons]
          omega
        · show max (gxH x) (gxH y) + a ≤ a'
          omega
      · cases h2
        refine ⟨q1, ⟨us, q2, by omega⟩, by omega, ⟨q4.2.1, trivial⟩, ?_, ?_⟩
        · show ((gxLn x).1 + 0) + (0 + 1) + a ≤ a' + 1
          omega
        · show max (gxH x) 0 + a ≤ a'
          omega
    · have h : gPar S ts (gPs S ts n) D a rs = some (e', a', rs') := h
      show _ ∧ _ ∧ (a < a' ∧ (gxWf (gPP rs') (gRR rs') S.length e').1 ∧ ((7 : Nat) ≠ 7 → gxR e' = false) ∧ (gxLn e').1 + a ≤ a' ∧ gxH e' + a ≤ a' + 0)
      unfold gPar at h
      split at h
      · cases h
      split at h
      · rename_i hk
        split at h
        · have l3 := lt hk.2.2 (by decide)
          cases h
          refine ⟨l3, ⟨_, rfl, by show 2 + a ≤ a + 3; omega⟩, by omega, ?_, fun y => absurd rfl y, by show 1 + a ≤ a + 3; omega, by show 0 + 1 + 1 + a ≤ a + 3 + 0; omega⟩
          show gRR _ _
          unfold gRR
          rw [List.length_append]
          refine ⟨by omega, by show (rs.length : Int) + 1 < ((rs.length + 2 : Nat) : Int); omega, ?_, ?_⟩
          · rw [Int.toNat_natCast, List.getD_eq_getElem?_getD, List.getElem?_append_right (Nat.le_refl _), Nat.sub_self]
            rfl
          · rw [show ((rs.length : Int) + 1).toNat = rs.length + 1 by omega, List.getD_eq_getElem?_getD, List.getElem?_append_right (by omega), show rs.length + 1 - rs.length = 1 by omega]
            rfl
        · cases h
      · obtain ⟨q1, ⟨us, q2, q3⟩, q4⟩ := ih 3 1 D _ a rs e' a' rs' h ha (fun _ => by decide) (fun y => by omega)
        have q4 : a < a' ∧ (gxWf (gPP rs') (gRR rs') S.length e').1 ∧ ((3 : Nat) ≠ 7 → gxR e' = false) ∧ (gxLn e').1 + a ≤ a' ∧ gxH e' + a ≤ a' + 0 := q4
        exact ⟨q1, ⟨us, q2, q3⟩, q4.1, q4.2.1, fun y => absurd rfl y, q4.2.2.2.1, q4.2.2.2.2⟩
    · cases h
end gdE
