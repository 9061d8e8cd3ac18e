/-! Trees: their lists, their values, their code in another memory. -/
theorem gxLn_map : ∀ e : gEx, (gxLn e).2 = (gxAL e).map (fun x => (gxLn x).1) := by
  intro e
  induction e with
  | add x xs _ ih => show (gxLn x).1 :: (gxLn xs).2 = (gxLn x).1 :: (gxAL xs).map _; rw [ih]
  | mulL k a _ => cases a <;> rfl
  | _ => rfl
theorem gxEv_map (E : Int → gVl) (T : Int → Int) (S : List Int) : ∀ e : gEx, (gxEv E T S e).2 = (gxAL e).map (fun x => (gxEv E T S x).1) := by
  intro e
  induction e with
  | add x xs _ ih => show (gxEv E T S x).1 :: (gxEv E T S xs).2 = (gxEv E T S x).1 :: (gxAL xs).map _; rw [ih]
  | mulL k a _ => cases a <;> rfl
  | _ => rfl
theorem gxCo_map (M : gM) (c : Nat) (S : List Int) (B : Nat) : ∀ e : gEx, (gxCo M c S B e).2 = (gxAL e).map (fun x => (gxCo M c S B x).1) := by
  intro e
  induction e with
  | add x xs _ ih => show (gxCo M c S B x).1 :: (gxCo M c S B xs).2 = (gxCo M c S B x).1 :: (gxAL xs).map _; rw [ih]
  | mulL k a _ => cases a <;> rfl
  | _ => rfl
theorem gxWf_all {P R : Int → Prop} {n : Nat} : ∀ e : gEx, (gxWf P R n e).2 → ∀ x ∈ gxAL e, (gxWf P R n x).1 := by
  intro e
  induction e with
  | add x xs _ ih =>
    intro h y hy
    rcases List.mem_cons.mp hy with q | q
    · rw [q]; exact h.1
    · exact ih h.2 y q
  | mulL k a _ => intro h; cases a <;> exact absurd h (fun q => q)
  | num => intro _ y hy; cases hy
  | var => intro h; exact absurd h (fun q => q)
  | neg => intro h; exact absurd h (fun q => q)
  | mulR => intro h; exact absurd h (fun q => q)
  | sub => intro h; exact absurd h (fun q => q)
theorem gxR_ln {e : gEx} (h : gxR e = true ∨ gxV e = true) : (gxLn e).1 = 1 := by
  cases e with
  | mulL k a => cases a <;> first | rfl | (rcases h with h | h <;> cases h)
  | var i => rfl
  | _ => rcases h with h | h <;> cases h
/-- code takes at least one step -/
theorem gxLn_pos {P R : Int → Prop} {n : Nat} : ∀ e : gEx, (gxWf P R n e).1 → 1 ≤ (gxLn e).1 := by
  intro e
  induction e with
  | num => intro _; exact Nat.le_refl _
  | var => intro _; exact Nat.le_refl _
  | neg a ih => intro h; show 1 ≤ (gxLn a).1 + 1; omega
  | mulR a k ih =>
    intro h
    have := ih h.1
    show 1 ≤ (if k = 0 then (gxLn a).1 else (gxLn a).1 + 1)
    split <;> omega
  | mulL k a _ =>
    intro h
    cases a with
    | add x y => show 1 ≤ (gxLn x).1 + (gxLn y).1 + 1; omega
    | _ => exact Nat.le_refl _
  | sub f as _ ih =>
    intro h
    cases f with
    | num w =>
      show 1 ≤ gxCl w (gxAL as) (gxLn as).2
      unfold gxCl
      split
      · exact Nat.le_refl _
      · split
        · exact Nat.le_refl _
        · split
          · rename_i h1 h2 h3
            have h2' : gxRt (gTks w.toNat) (gxAL as) = true := gBtr h2
            have hl := gxRt_len _ _ h2'
            have hw : w.toNat < 52 := by
              have := h.1
              omega
            have : ∀ w, w < 52 → gWgr w = 5 → 2 ≤ (gTks w).length := by decide +kernel
            have := this _ hw h3
            rw [gxAL_len]
            omega
          · omega
    | _ => exact absurd h (fun q => q)
  | add x y => intro h; exact absurd h (fun q => q)
/-- T: where refs are -/
def gxTk (T : Int → Int) (P R : Int → Prop) : Prop := (∀ i, P i → -1 ≤ T i ∧ T i < 5200) ∧ ∀ i, R i → P i ∧ P (i + 1) ∧ (0 ≤ T i → 0 ≤ T (i + 1))
theorem gxBx_ok {T : Int → Int} {P R : Int → Prop} {n : Nat} (hT : gxTk T P R) {e : gEx} (hw : (gxWf P R n e).1) (hv : gxR e = true ∨ gxV e = true) : gSuit0 114 (gxBx T e) := by
  cases e with
  | mulL k a =>
    cases a with
    | neg b =>
      have hr := hT.2 k hw
      have p1 := hT.1 _ hr.1
      have p2 := hT.1 _ hr.2.1
      show gSuit0 114 (if T k < 0 then gE 2 else ⟨5, T k * 5200 + T (k + 1), []⟩)
      split
      · exact ⟨gvE_ok (by decide), Or.inl (by show (4 : Int) ≤ 4; decide), fun _ => Or.inl rfl⟩
      · rename_i q
        have p3 := hr.2.2 (by omega)
        have b : 0 ≤ T k * 5200 + T (k + 1) ∧ T k * 5200 + T (k + 1) < 27040000 := by omega
        refine ⟨⟨by show (0 : Int) ≤ 5; decide, by show (5 : Int) ≤ 5; decide, ⟨by show _ ≤ T k * 5200 + T (k + 1); omega, by show T k * 5200 + T (k + 1) < _; omega⟩, fun q => absurd q (by show ¬ (5 : Int) = 2; decide), fun _ => rfl, fun q => absurd q (by show ¬ (5 : Int) = 0; decide), fun q => absurd q (by show ¬ (5 : Int) = 3; decide), fun q => absurd q (by show ¬ (5 : Int) = 4; decide), fun b hb => by cases hb⟩, Or.inr ⟨rfl, rfl, b⟩, fun _ => Or.inr rfl⟩
    | _ => rcases hv with h | h <;> cases h
  | var i =>
    have p1 := hT.1 _ hw
    show gSuit0 114 (if T (i : Int) < 0 then gE 2 else ⟨5, T (i : Int) * 5200 + T (i : Int), []⟩)
    split
    · exact ⟨gvE_ok (by decide), Or.inl (by show (4 : Int) ≤ 4; decide), fun _ => Or.inl rfl⟩
    · rename_i q
      have b : 0 ≤ T (i : Int) * 5200 + T (i : Int) ∧ T (i : Int) * 5200 + T (i : Int) < 27040000 := by omega
      refine ⟨⟨by show (0 : Int) ≤ 5; decide, by show (5 : Int) ≤ 5; decide, ⟨by show _ ≤ T (i : Int) * 5200 + T (i : Int); omega, by show T (i : Int) * 5200 + T (i : Int) < _; omega⟩, fun q => absurd q (by show ¬ (5 : Int) = 2; decide), fun _ => rfl, fun q => absurd q (by show ¬ (5 : Int) = 0; decide), fun q => absurd q (by show ¬ (5 : Int) = 3; decide), fun q => absurd q (by show ¬ (5 : Int) = 4; decide), fun b hb => by cases hb⟩, Or.inr ⟨rfl, rfl, b⟩, fun _ => Or.inr rfl⟩
  | _ => rcases hv with h | h <;> cases h
theorem gSuit0_P {x : Int} {w : gVl} (h : gvP w) (hx : x ≠ 114) : gSuit0 x w := ⟨h.1, Or.inl h.2, fun q => absurd q hx⟩
theorem gGl : ∀ w, w < 52 → gSl (gWta w) ≤ 4 ∧ (gWgr w ≠ 5 → gSl (gWta w) ≤ 3) := by decide +kernel
/-- what stands as an argument -/
def gxAv (E : Int → gVl) (T : Int → Int) (S : List Int) (ls : List Int) (es : List gEx) (i : Nat) : gVl := if ls.getD i 0 = 114 then gxBx T (es.getD i (.num 0)) else (es.map (fun x => (gxEv E T S x).1)).getD i (gE 4)
theorem gxGet {E : Int → gVl} {T : Int → Int} {S : List Int} (es : List gEx) (i : Nat) (h : i < es.length) : (es.map (fun x => (gxEv E T S x).1)).getD i (gE 4) = (gxEv E T S (es.getD i (.num 0))).1 ∧ es.getD i (.num 0) ∈ es := by
  rw [List.getD_eq_getElem?_getD, List.getElem?_map, List.getD_eq_getElem?_getD, List.getElem?_eq_getElem h]
  exact ⟨rfl, List.getElem_mem h⟩
theorem g114 : (∀ i, i < gSl (gWta 13) → gSc (gWta 13) i ≠ 114) ∧ (∀ i, i < gSl (gWta 12) → gSc (gWta 12) i ≠ 114) := by decide +kernel
theorem gxEv_ok {E : Int → gVl} {T : Int → Int} {S : List Int} {P R : Int → Prop} (hE : ∀ p, 0 ≤ p → p < 5200 → gvP (E p)) (hT : gxTk T P R) (hS : ∀ b ∈ S, 32 ≤ b ∧ b ≤ 126) : ∀ e : gEx, ((gxWf P R S.length e).1 → gxR e = false → gvP (gxEv E T S e).1) ∧ ((gxWf P R S.length e).2 → ∀ x ∈ gxAL e, gxR x = false → gvP (gxEv E T S x).1) ∧ (∀ a b, e = .add a b → ((gxWf P R S.length a).1 → gxR a = false → gvP (gxEv E T S a).1) ∧ ((gxWf P R S.length b).1 → gxR b = false → gvP (gxEv E T S b).1)) := by
  intro e
  induction e with
  | num x => exact ⟨fun h _ => gvP_N h, fun _ y hy => (by cases hy), fun a b h => by cases h⟩
  | var i =>
    refine ⟨fun h _ => ?_, fun h => absurd h (fun q => q), fun a b h => by cases h⟩
    have p1 := hT.1 _ h
    show gvP (if T (i : Int) < 0 then gE 2 else E (T (i : Int)))
    split
    · exact gvP_E (by decide)
    · exact hE _ (by omega) (by omega)
  | neg a ih =>
    refine ⟨fun h _ => ?_, fun h => absurd h (fun q => q), fun a b h => by cases h⟩
    have i1 := ih.1 h.1 h.2
    exact gApp_ok hE (by decide) (by decide) (fun i hi => gSuit0_P i1 (g114.1 i hi))
  | mulR a k ih =>
    refine ⟨fun h _ => ?_, fun h => absurd h (fun q => q), fun a b h => by cases h⟩
    have i1 := ih.1 h.1 h.2
    show gvP (if k = 0 then (gxEv E T S a).1 else gApp E 12 (fun _ => (gxEv E T S a).1))
    split
    · exact i1
    · exact gApp_ok hE (by decide) (by decide) (fun i hi => gSuit0_P i1 (g114.2 i hi))
  | mulL k a ih =>
    cases a with
    | num q =>
      refine ⟨fun h _ => ?_, fun h => absurd h (fun q => q), fun a b h => by cases h⟩
      obtain ⟨h1, h2, h3, h4⟩ := h
      exact gvP_T (by rw [List.length_take]; omega) (fun c hc => hS c (List.mem_of_mem_drop (List.mem_of_mem_take hc)))
    | var i => exact ⟨fun h _ => gvP_B h, fun h => absurd h (fun q => q), fun a b h => by cases h⟩
    | add x y =>
      refine ⟨fun h _ => ?_, fun h => absurd h (fun q => q), fun a b h => by cases h⟩
      obtain ⟨h1, h2, h3, h4⟩ := h
      obtain ⟨j1, j2⟩ := ih.2.2 x y rfl
      have v1 := j1 h3.1 h3.2
      have v2 := j2 h4.1 h4.2
      have dd : ∀ w, w < 12 → gWgr w ≠ 5 ∧ gSl (gWta w) = 2 ∧ gSc (gWta w) 0 ≠ 114 ∧ gSc (gWta w) 1 ≠ 114 := by decide +kernel
      obtain ⟨q1, q2, q3, q4⟩ := dd k.toNat (by omega)
      refine gApp_ok hE (by omega) q1 (fun i hi => ?_)
      by_cases e0 : i = 0
      · subst e0
        exact gSuit0_P v1 q3
      · have e1 : i = 1 := by omega
        subst e1
        exact gSuit0_P v2 q4
    | neg b => exact ⟨fun _ h => (by cases h), fun h => absurd h (fun q => q), fun a b h => by cases h⟩
    | sub => exact ⟨fun h => absurd h (fun q => q), fun h => absurd h (fun q => q), fun a b h => by cases h⟩
    | mulL => exact ⟨fun h => absurd h (fun q => q), fun h => absurd h (fun q => q), fun a b h => by cases h⟩
    | mulR => exact ⟨fun h => absurd h (fun q => q), fun h => absurd h (fun q => q), fun a b h => by cases h⟩
  | add x xs ihx ihs =>
    refine ⟨fun h => absurd h (fun q => q), fun h y hy hr => ?_, fun a b h => by cases h; exact ⟨ihx.1, ihs.1⟩⟩
    rcases List.mem_cons.mp hy with q | q
    · rw [q] at hr ⊢; exact ihx.1 h.1 hr
    · exact ihs.2.1 h.2 y q hr
  | sub f as _ ih =>
    refine ⟨fun h _ => ?_, fun h => absurd h (fun q => q), fun a b h => by cases h⟩
    cases f with
    | num w =>
      obtain ⟨hw, ha⟩ := h
      have h0 := ih.2.1 ha
      have hall := gxWf_all as ha
      show gvP (gxCv E T w (gxAL as) (gxEv E T S as).2)
      rw [gxEv_map]
      unfold gxCv
      split
      · exact gvP_E (by decide)
      · split
        · exact gvP_E (by decide)
        · rename_i n1 n2
          have rt : gxRt (gTks w.toNat) (gxAL as) = true := gBtr n2
          have hl := gxRt_len _ _ rt
          have hw2 : w.toNat < 52 := by omega
          have each : ∀ i, i < (gTks w.toNat).length → (gTks w.toNat).getD i 0 ≠ 114 → gvP (((gxAL as).map (fun x => (gxEv E T S x).1)).getD i (gE 4)) := by
            intro i hi hn
            obtain ⟨g1, g2⟩ := gxGet (E := E) (T := T) (S := S) (gxAL as) i (by omega)
            rw [g1]
            have := gxRt_at _ _ i rt hi
            rw [if_neg hn] at this
            exact h0 _ g2 (by simpa using this)
          split
          · rename_i g5
            have w3 : w.toNat = 24 ∨ w.toNat = 25 ∨ w.toNat = 26 := by
              have : ∀ w, w < 52 → gWgr w = 5 → w = 24 ∨ w = 25 ∨ w = 26 := by decide +kernel
              exact this _ hw2 g5
            have no114 : ∀ i, i < (gTks w.toNat).length → (gTks w.toNat).getD i 0 ≠ 114 := by
              rcases w3 with e | e | e <;> rw [e] <;> decide
            have len : (gTks w.toNat).length = (if w.toNat = 24 then 3 else if w.toNat = 25 then 2 else 4) := by rcases w3 with e | e | e <;> rw [e] <;> decide
            have v0 := each 0 (by (split at len) <;> (try split at len) <;> omega) (no114 0 (by (split at len) <;> (try split at len) <;> omega))
            unfold gxPi gxWt
            generalize ((gxAL as).map (fun x => (gxEv E T S x).1)).getD 0 (gE 4) = u at v0
            split
            · rename_i V hV
              split at hV
              · split at hV
                · cases hV
                · cases hV; exact v0
              · split at hV
                · cases hV; exact v0
                · split at hV
                  · cases hb : gToB u with
                    | none => rw [hb] at hV; cases hV; exact gvP_E (by decide)
                    | some z => rw [hb] at hV; cases hV
                  · cases hb : gToN u with
                    | none => rw [hb] at hV; cases hV; exact gvP_E (by decide)
                    | some z =>
                      rw [hb] at hV
                      dsimp only at hV
                      split at hV
                      · cases hV; exact gvP_E (by decide)
                      · cases hV
            · rename_i y V hV
              have hy : 0 ≤ y ∧ y.toNat < (gTks w.toNat).length := by
                split at hV
                · rename_i e25
                  split at hV
                  · cases hV
                    rw [if_neg (by omega), if_pos e25] at len
                    exact ⟨by decide, by rw [len]; decide⟩
                  · cases hV
                · split at hV
                  · cases hV
                  · split at hV
                    · rename_i e24
                      cases hb : gToB u with
                      | none => rw [hb] at hV; cases hV
                      | some z =>
                        rw [hb] at hV
                        cases hV
                        rw [if_pos e24] at len
                        have ok := gToB_ok hb
                        have kz : V.kd = 3 := by
                          unfold gToB at hb
                          split at hb
                          · cases hb
                          · cases hb; rfl
                        have := ok.2.2.2.2.2.2.1 kz
                        omega
                    · cases hb : gToN u with
                      | none => rw [hb] at hV; cases hV
                      | some z =>
                        rw [hb] at hV
                        dsimp only at hV
                        split at hV
                        · cases hV
                        · cases hV
                          rw [if_neg (by assumption), if_neg (by assumption)] at len
                          omega
              exact each _ hy.2 (no114 _ hy.2)
          · rename_i g5
            refine gApp_ok hE hw2 g5 (fun i hi => ?_)
            have hi2 : i < (gTks w.toNat).length := hi
            have r1 := gxRt_at _ _ i rt hi2
            by_cases e : gSc (gWta w.toNat) i = 114
            · rw [if_pos e, e]
              have e' : (gTks w.toNat).getD i 0 = 114 := e
              rw [if_pos e', Bool.or_eq_true] at r1
              exact gxBx_ok hT (hall _ (gxGet (E := E) (T := T) (S := S) (gxAL as) i (by omega)).2) r1
            · rw [if_neg e]
              exact gSuit0_P (each i hi2 e) e
    | _ => exact absurd h (fun q => q)
