/-! Tokens of a formula: all of them are cut. -/
section gdB
variable {l : Launch} {G : gG} {d : Nat} {X : gX} {M : gM} {c : Nat} {Q : gQ} {S : List Int}
theorem gInp.kp {M2 : gM} (h : gInp M c S) (e : ∀ j, M2 (c + 1) j = M (c + 1) j) : gInp M2 c S := ⟨fun j hj => (e j).trans (h.1 j hj), h.2⟩
theorem c_Tk_takeString {p n : Nat} {k : Int → gM → Prop} (hX : glX X c) (hI : gInp M c S) (hp : p < S.length) (hn : M (c + 16) 5 = (n : Int)) (hn2 : n < 104) (h : k ((gQuo S (S.length - p) (p + 1) + 1 : Nat) : Int) (gUp M (c + 17) n (if gQuo S (S.length - p) (p + 1) < S.length ∧ gQuo S (S.length - p) (p + 1) - p - 1 ≤ 64 then 18 else 24))) : cI l G y_Tk_takeString (gRm d) true [gR G (c + 16), gI (p : Int), gI (S.length : Int)] X M k := by
  have hl := hI.2.1
  have gl : g32 (S.length : Int) := ⟨by omega, by omega⟩
  have gp : g32 (p : Int) := ⟨by omega, by omega⟩
  have fin : ∀ j : Nat, j ≤ S.length → p < j → gQuo S (S.length - p) (p + 1) = j → wp l G y_Tk_takeString (gRm d) true (kkI X k) true 26 [.val (gR G (c + 16)), .val (gI (p : Int)), .val (gI (S.length : Int)), .val (gI (j : Int)), .unset] [] X M 0 0 := by
    intro j h1 h2 e
    rw [e] at h
    refine w_Tk_takeString_26 hX gp gl ⟨by omega, by omega⟩ ?_
    rw [hn, w32_id (x := (j : Int) + 1) ⟨by omega, by omega⟩, w32_id (x := (j : Int) - (p : Int) - 1) ⟨by omega, by omega⟩, Int.toNat_natCast, show (j : Int) + 1 = ((j + 1 : Nat) : Int) by omega]
    refine ⟨fun z _ => ⟨fun _ => ⟨⟨by omega, by omega⟩, ?_⟩, fun y => absurd rfl y⟩, fun z => ⟨fun z2 _ => ⟨fun _ => ⟨⟨by omega, by omega⟩, ?_⟩, fun y => absurd rfl y⟩, fun z2 _ => ⟨fun y => absurd y (by decide), fun _ => ⟨⟨by omega, by omega⟩, ?_⟩⟩⟩⟩
    · rw [if_neg (by omega)] at h; exact h
    · rw [if_neg (by omega)] at h; exact h
    · rw [if_pos (by omega)] at h; exact h
  have key : ∀ (m j : Nat), j + m = S.length → p < j → gQuo S (S.length - p) (p + 1) = gQuo S (m + 1) j → wp l G y_Tk_takeString (gRm d) true (kkI X k) true 4 [.val (gR G (c + 16)), .val (gI (p : Int)), .val (gI (S.length : Int)), .val (gI (j : Int)), .unset] [] X M 0 0 := by
    intro m
    induction m with
    | zero =>
      intro j hj hj2 e
      unfold gQuo at e
      rw [if_neg (fun y => by omega)] at e
      refine w_Tk_takeString_4 hX gp gl ⟨by omega, by omega⟩ ⟨fun _ => fin j (by omega) hj2 ?_, fun z => absurd (by omega) z⟩
      unfold gQuo
      exact e
    | succ m ih =>
      intro j hj hj2 e
      obtain ⟨eB, b1, b2⟩ := hI.b (j := j) (by omega)
      have e2 : gQuo S (m + 1 + 1) j = if j < S.length ∧ S.getD j 0 ≠ 34 then gQuo S (m + 1) (j + 1) else j := rfl
      refine w_Tk_takeString_4 hX gp gl ⟨by omega, by omega⟩ ⟨fun z => absurd z (by omega), fun _ => ⟨⟨by omega, by omega⟩, fun _ => ?_⟩⟩
      rw [Int.toNat_natCast, eB, w32_id (x := (j : Int) + 1) ⟨by omega, by omega⟩, show (j : Int) + 1 = ((j + 1 : Nat) : Int) by omega]
      refine ⟨fun z => fin j (by omega) hj2 ?_, fun z => ih (j + 1) (by omega) (by omega) ?_⟩
      · rw [e, e2, if_neg (fun y => y.2 z)]
      · rw [e, e2, if_pos ⟨by omega, z⟩]
  refine e_Tk_takeString (w_Tk_takeString_0 hX gp gl ?_)
  rw [w32_id (x := (p : Int) + 1) ⟨by omega, by omega⟩, show (p : Int) + 1 = ((p + 1 : Nat) : Int) by omega]
  exact key (S.length - p - 1) (p + 1) (by omega) (by omega) (by rw [show S.length - p - 1 + 1 = S.length - p by omega])
theorem c_Tk_takeWord {p n : Nat} {k : Int → gM → Prop} (hX : glX X c) (hO : gOld G Q) (hI : gInp M c S) (hp : p < S.length) (hw : gWb (S.getD p 0)) (hn : M (c + 16) 5 = (n : Int)) (hn2 : n < 104) (h : k (gRun S (S.length - p) p : Nat) (gUp (gUp M (c + 20) n (gPl S p (gRun S (S.length - p) p))) (c + 17) n (gWd S p (gRun S (S.length - p) p)))) : cI l G y_Tk_takeWord (gRm (d + 7)) true [gR G (c + 16), gI (p : Int), gI (S.length : Int)] X M k := by
  have hl := hI.2.1
  have gl : g32 (S.length : Int) := ⟨by omega, by omega⟩
  have gp : g32 (p : Int) := ⟨by omega, by omega⟩
  have hA := gRun_all S (S.length - p) p
  have key : ∀ (m j : Nat), j + m = S.length → p ≤ j → gRun S (S.length - p) p = gRun S m j → wp l G y_Tk_takeWord (gRm (d + 7)) true (kkI X k) true 2 [.val (gR G (c + 16)), .val (gI (p : Int)), .val (gI (S.length : Int)), .val (gI (j : Int))] [] X M 0 0 := by
    intro m
    induction m with
    | zero =>
      intro j hj hj2 e
      have e : gRun S (S.length - p) p = j := e
      rw [e] at h hA
      refine w_Tk_takeWord_2 (d := d + 6) hX gp gl ⟨by omega, by omega⟩ ⟨fun _ => ?_, fun z => absurd (by omega) z⟩
      intro _
      refine c_Tk_placeIn (d := d + 5) hX hI ⟨by omega, by omega⟩ hA ?_
      simp (disch := omega) only [gUp_eq, gUp_a, gUp_k, hn, Int.toNat_natCast]
      refine ⟨⟨by omega, by omega⟩, fun _ _ => ⟨⟨by omega, by omega⟩, fun _ => ⟨fun z => ?_, fun z => ⟨⟨by omega, by omega⟩, ?_⟩⟩⟩⟩
      · refine c_Tk_wordKind (d := d) hX hO (hI.kp (fun i => gUp_a (by omega))) ⟨by omega, by omega⟩ z ⟨⟨by omega, by omega⟩, ?_⟩
        exact h
      · unfold gWd at h
        rw [if_pos (by omega)] at h
        exact h
    | succ m ih =>
      intro j hj hj2 e
      obtain ⟨eB, b1, b2⟩ := hI.b (j := j) (by omega)
      have e2 : gRun S (m + 1) j = @ite Nat (j < S.length ∧ gWb (S.getD j 0)) (@instDecidableAnd _ _ _ (gDWb _)) (gRun S m (j + 1)) j := rfl
      refine w_Tk_takeWord_2 (d := d + 6) hX gp gl ⟨by omega, by omega⟩ ⟨fun z => absurd z (by omega), fun _ => ⟨⟨by omega, by omega⟩, fun _ => ?_⟩⟩
      rw [Int.toNat_natCast, eB, w32_id (x := (j : Int) + 1) ⟨by omega, by omega⟩, show (j : Int) + 1 = ((j + 1 : Nat) : Int) by omega]
      refine c_Tk_isWordByte (d := d + 5) ⟨by omega, by omega⟩ (fun hw2 => ⟨fun y => absurd y (by decide), fun _ => ih (j + 1) (by omega) (by omega) ?_⟩) (fun hw2 => ⟨fun _ => ?_, fun y => absurd rfl y⟩)
      · rw [e, e2, if_pos ⟨by omega, hw2⟩]
      · have e3 : gRun S (S.length - p) p = j := by rw [e, e2, if_neg (fun y => hw2 y.2)]
        rw [e3] at h hA
        have jp : p < j := Nat.lt_of_le_of_ne hj2 (fun y => hw2 (by rw [← y]; exact hw))
        intro _
        refine c_Tk_placeIn (d := d + 5) hX hI ⟨by omega, by omega⟩ hA ?_
        simp (disch := omega) only [gUp_eq, gUp_a, gUp_k, hn, Int.toNat_natCast]
        refine ⟨⟨by omega, by omega⟩, fun _ _ => ⟨⟨by omega, by omega⟩, fun _ => ⟨fun z => ?_, fun z => ⟨⟨by omega, by omega⟩, ?_⟩⟩⟩⟩
        · refine c_Tk_wordKind (d := d) hX hO (hI.kp (fun i => gUp_a (by omega))) ⟨by omega, by omega⟩ z ⟨⟨by omega, by omega⟩, ?_⟩
          exact h
        · unfold gWd at h
          rw [if_pos (by omega)] at h
          exact h
  exact e_Tk_takeWord (w_Tk_takeWord_0 (d := d + 6) hX gp gl (key (S.length - p) p (by omega) (Nat.le_refl _) rfl))
theorem gIteR {p : Prop} {i : Decidable p} {a b : Int} (ha : 0 ≤ a ∧ a ≤ 24) (hb : 0 ≤ b ∧ b ≤ 24) : 0 ≤ ite p a b ∧ ite p a b ≤ 24 := by
  split
  · exact ha
  · exact hb
theorem gSgk_g (x : Int) : 0 ≤ gSgk x ∧ gSgk x ≤ 24 := by
  unfold gSgk
  repeat (refine gIteR ⟨by decide, by decide⟩ ?_)
  exact ⟨by decide, by decide⟩
theorem c_Tk_takeSign {p n : Nat} {k : Int → gM → Prop} (hX : glX X c) (hI : gInp M c S) (hp : p < S.length) (hq : S.getD p 0 ≠ 34) (hw : ¬ gWb (S.getD p 0)) (hn : M (c + 16) 5 = (n : Int)) (hn2 : n < 104) (h : k ((gTn1 S p).2 : Nat) (gUp M (c + 17) n (gTn1 S p).1)) : cI l G y_Tk_takeSign (gRm (d + 1)) true [gR G (c + 16), gI (p : Int), gI (S.length : Int)] X M k := by
  have hl := hI.2.1
  have gl : g32 (S.length : Int) := ⟨by omega, by omega⟩
  have gp : g32 (p : Int) := ⟨by omega, by omega⟩
  obtain ⟨eB, b1, b2⟩ := hI.b (j := p) hp
  have hs := gSgk_g (S.getD p 0)
  have e : gTn1 S p = (if gSgk (S.getD p 0) = 2 ∧ gSn S p = 62 then (1, p + 2) else if gSgk (S.getD p 0) = 2 ∧ gSn S p = 61 then (3, p + 2) else if gSgk (S.getD p 0) = 4 ∧ gSn S p = 61 then (5, p + 2) else (gSgk (S.getD p 0), p + 1)) := by
    unfold gTn1
    rw [if_neg hq, if_neg hw]
  generalize hg : gSgk (S.getD p 0) = g at e hs
  have gg : g32 g := ⟨by omega, by omega⟩
  have fin : ∀ (x5 : Int) (m : Nat), gTn1 S p = (x5, m) → g32 x5 → (x5 = g → m = p + 1) → (x5 ≠ g → m = p + 2) → wp l G y_Tk_takeSign (gRm (d + 1)) true (kkI X k) true 85 [.val (gR G (c + 16)), .val (gI (p : Int)), .unset, .val (gI g), .unset, .val (gI x5)] [] X M 0 0 := by
    intro x5 m e1 g5 m1 m2
    rw [e1] at h
    refine w_Tk_takeSign_85 hX gp gg g5 ?_
    rw [hn, w32_id (x := (p : Int) + 1) ⟨by omega, by omega⟩, w32_id (x := (p : Int) + 2) ⟨by omega, by omega⟩, Int.toNat_natCast]
    refine fun _ => ⟨⟨by omega, by omega⟩, fun z => ?_, fun z => ?_⟩
    · rw [m2 z] at h; exact h
    · rw [m1 z] at h; exact h
  have s52 : g32 (gSn S p) → ¬ (g = 2 ∧ gSn S p = 62) → wp l G y_Tk_takeSign (gRm (d + 1)) true (kkI X k) true 52 [.val (gR G (c + 16)), .val (gI (p : Int)), .unset, .val (gI g), .val (gI (gSn S p)), .val (gI g)] [] X M 0 0 := by
    intro g4 hne
    rw [if_neg hne] at e
    refine w_Tk_takeSign_52 hX gp gg g4 gg ⟨fun z => ⟨fun z2 => fin _ _ (by rw [e, if_neg (fun y => z y.1), if_neg (fun y => z2 y.1)]) gg (fun _ => rfl) (fun y => absurd rfl y), fun z2 => ⟨fun z3 => fin _ _ (by rw [e, if_neg (fun y => z y.1), if_neg (fun y => z3 y.2)]) gg (fun _ => rfl) (fun y => absurd rfl y), fun z3 => fin 5 (p + 2) (by rw [e, if_neg (fun y => z y.1), if_pos ⟨z2, z3⟩]) (g32_c rfl) (fun y => by omega) (fun _ => rfl)⟩⟩, fun z => ⟨fun z3 => ⟨fun z2 => fin _ _ (by rw [e, if_neg (fun y => z3 y.2), if_neg (fun y => z2 y.1)]) gg (fun _ => rfl) (fun y => absurd rfl y), fun z2 => absurd z (by omega)⟩, fun z3 => fin 3 (p + 2) (by rw [e, if_pos ⟨z, z3⟩]) (g32_c rfl) (fun y => by omega) (fun _ => rfl)⟩⟩
  have f85 : g = 2 → gSn S p = 62 → wp l G y_Tk_takeSign (gRm (d + 1)) true (kkI X k) true 85 [.val (gR G (c + 16)), .val (gI (p : Int)), .unset, .val (gI g), .unset, .val (gI 1)] [] X M 0 0 := fun z1 z2 => fin 1 (p + 2) (by rw [e, if_pos ⟨z1, z2⟩]) (g32_c rfl) (fun y => by omega) (fun _ => rfl)
  refine e_Tk_takeSign (w_Tk_takeSign_0 hX gp gl ⟨⟨by omega, by omega⟩, fun _ => ?_⟩)
  rw [Int.toNat_natCast, eB, w32_id (x := (p : Int) + 1) ⟨by omega, by omega⟩]
  refine c_Tk_signOf ⟨by omega, by omega⟩ ?_
  rw [hg]
  refine ⟨fun z => ?_, fun z => ⟨⟨by omega, by omega⟩, fun _ => ?_⟩⟩
  · have e0 : gSn S p = 0 := by unfold gSn; rw [if_neg (by omega)]
    rw [e0] at s52
    exact ⟨fun z1 => s52 (g32_c rfl) (fun y => z1 y.1), fun _ => ⟨fun _ => s52 (g32_c rfl) (fun y => absurd y.2 (by decide)), fun y => absurd y (by decide)⟩⟩
  · obtain ⟨eB2, c1, c2⟩ := hI.b (j := p + 1) (by omega)
    have e0 : gSn S p = S.getD (p + 1) 0 := by unfold gSn; rw [if_pos (by omega)]
    rw [show ((p : Int) + 1).toNat = p + 1 by omega, eB2, ← e0]
    rw [← e0] at c1 c2
    exact ⟨fun z1 => s52 ⟨by omega, by omega⟩ (fun y => z1 y.1), fun z1 => ⟨fun z2 => s52 ⟨by omega, by omega⟩ (fun y => z2 y.2), fun z2 => f85 z1 z2⟩⟩
end gdB
