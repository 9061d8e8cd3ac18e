/-! The reference: a formula cut into tokens. -/
/-- row i of the reference's tokens is t -/
def gTkm (M : gM) (o L : Nat) (S : List Int) (i : Nat) (t : gTkn) : Prop := M (o + 13) i = gKm t.1 ∧ M (o + 14) i = (if t.1 = 18 then ((L + t.2.1 + 1 : Nat) : Int) else ((L + t.2.1 : Nat) : Int)) ∧ M (o + 15) i = (if t.1 = 18 then ((L + t.2.2 : Nat) : Int) - 1 else ((L + t.2.2 : Nat) : Int)) ∧ (t.1 = 17 → gNum (gSbs S t.2.1 t.2.2) = some (M (o + 18) i)) ∧ (t.1 = 19 → M (o + 16) i = gPl S t.2.1 t.2.2 ∧ M (o + 17) i = gFx S t.2.1)
def gW7 (l : Launch) (G : gG) (d : Nat) (X : gX) (o L : Nat) (S : List Int) (k : gM → Prop) (x3 : Int) (M : gM) : Prop := wp l G y_GM_cut (gRm (d + 6 + 1)) true (kkV X k) true 7 [.val (gR G o), .unset, .val (gI ((L + S.length : Nat) : Int)), .val (gI x3), .unset, .unset, .unset] [] X M 0 0
theorem gWd_n18 (S : List Int) (p q : Nat) : gWd S p q ≠ 18 := by
  unfold gWd
  split
  · decide
  split
  · decide
  split
  · split
    · decide
    · split <;> decide
  · decide
section gdZ
variable {l : Launch} {G : gG} {d : Nat} {X : gX} {M M2 : gM} {o L : Nat} {Q : gQ} {S : List Int}
theorem r_cutW {p n : Nat} {k : gM → Prop} (hX : gmX X o) (hO : gOld G Q) (hI : gInm M o L S) (hp : p < S.length) (hn : M o 24 = (n : Int)) (hn2 : n ≤ 100) (hb : M o 27 = 0) (hL : 1 ≤ o + 1 ∧ o + 1 ≤ X.1 ∧ X.2.1 (o + 1) = (2, 90000)) (hw : gWb (S.getD p 0))
    (h0 : (gTn1 S p).1 = 24 ∨ n = 100 → ∀ (M2 : gM) (x3 : Int), g32 x3 → gOff (gWoF o n) M M2 → M2 o 27 = 1 → gW7 l G d X o L S k x3 M2)
    (h1 : (gTn1 S p).1 ≠ 24 → n < 100 → ∀ M2, gOff (gWoF o n) M M2 → M2 o 27 = 0 → M2 o 24 = ((n + 1 : Nat) : Int) → gTkm M2 o L S n ((gTn1 S p).1, p, (gTn1 S p).2) → gW7 l G d X o L S k ((L + (gTn1 S p).2 : Nat) : Int) M2) : wp l G y_GM_cut (gRm (d + 6 + 1)) true (kkV X k) true 87 [.val (gR G o), .unset, .val (gI ((L + S.length : Nat) : Int)), .val (gI ((L + (p + 1) : Nat) : Int)), .unset, .unset, .val (gI ((L + p : Nat) : Int))] [] X M 0 0 := by
  have hl := hI.2.1
  have hl2 := hI.2.2.1
  have gq : g32 ((L + S.length : Nat) : Int) := ⟨by omega, by omega⟩
  have gp : g32 ((L + p : Nat) : Int) := ⟨by omega, by omega⟩
  have eT : gTn1 S p = (gWd S p (gRun S (S.length - p) p), gRun S (S.length - p) p) := by
    unfold gTn1
    rw [if_neg (by unfold gWb gCap at hw; omega), if_pos hw]
  have eR : gRun S (S.length - p) p = gRun S (S.length - p - 1) (p + 1) := by
    rw [show S.length - p = (S.length - p - 1) + 1 by omega]
    exact if_pos ⟨hp, hw⟩
  have r1 := gRun_le S (S.length - p - 1) (p + 1)
  have rA := gRun_all S (S.length - p) p
  rw [eR] at eT rA
  generalize hq : gRun S (S.length - p - 1) (p + 1) = q at eT rA r1
  rw [eT] at h0 h1
  dsimp only at h0 h1
  have f133 : wp l G y_GM_cut (gRm (d + 6 + 1)) true (kkV X k) true 133 [.val (gR G o), .unset, .val (gI ((L + S.length : Nat) : Int)), .val (gI ((L + q : Nat) : Int)), .unset, .unset, .val (gI ((L + p : Nat) : Int))] [] X M 0 0 := by
    have g2 : g32 ((L + q : Nat) : Int) := ⟨by omega, by omega⟩
    refine w_GM_cut_133 hX gq g2 gp (r_word hX hO hI ⟨by omega, r1.2 (by omega)⟩ rA hn hn2 hb hL (fun z M2 o2 f => w_GM_cut_402 hX gq g2 (h0 z M2 _ g2 o2 f)) (fun z z2 M2 o2 f e1 e2 e3 e4 e5 e6 => w_GM_cut_402 hX gq g2 (h1 z z2 M2 o2 f e1 ⟨e2, ?_, ?_, e5, e6⟩)))
    · rw [if_neg (gWd_n18 _ _ _)]; exact e3
    · rw [if_neg (gWd_n18 _ _ _)]; exact e4
  have key : ∀ (m j : Nat), j + m = S.length → gRun S m j = q → wp l G y_GM_cut (gRm (d + 6 + 1)) true (kkV X k) true 87 [.val (gR G o), .unset, .val (gI ((L + S.length : Nat) : Int)), .val (gI ((L + j : Nat) : Int)), .unset, .unset, .val (gI ((L + p : Nat) : Int))] [] X M 0 0 := by
    intro m
    induction m with
    | zero =>
      intro j hj e
      have e : j = q := e
      rw [e]
      exact w_GM_cut_87 hX gq ⟨by omega, by omega⟩ gp ⟨fun _ => f133, fun z => absurd (by omega) z⟩
    | succ m ih =>
      intro j hj e
      obtain ⟨eB, b1, b2⟩ := hI.b (j := j) (by omega)
      have gj : g32 ((L + j : Nat) : Int) := ⟨by omega, by omega⟩
      have gB : g32 (S.getD j 0) := ⟨by omega, by omega⟩
      have yes : gWb (S.getD j 0) → wp l G y_GM_cut (gRm (d + 6 + 1)) true (kkV X k) true 127 [.val (gR G o), .unset, .val (gI ((L + S.length : Nat) : Int)), .val (gI ((L + j : Nat) : Int)), .unset, .unset, .val (gI ((L + p : Nat) : Int))] [] X M 0 0 := by
        intro w
        refine w_GM_cut_127 hX gq gj gp ?_
        rw [w32_id (x := ((L + j : Nat) : Int) + 1) ⟨by omega, by omega⟩, show ((L + j : Nat) : Int) + 1 = ((L + (j + 1) : Nat) : Int) by omega]
        refine ih (j + 1) (by omega) ?_
        rw [← e]
        exact (if_pos (c := j < S.length ∧ gWb (S.getD j 0)) ⟨by omega, w⟩).symm
      have no : ¬ gWb (S.getD j 0) → wp l G y_GM_cut (gRm (d + 6 + 1)) true (kkV X k) true 133 [.val (gR G o), .unset, .val (gI ((L + S.length : Nat) : Int)), .val (gI ((L + j : Nat) : Int)), .unset, .unset, .val (gI ((L + p : Nat) : Int))] [] X M 0 0 := by
        intro w
        have : j = q := by
          rw [← e]
          exact (if_neg (c := j < S.length ∧ gWb (S.getD j 0)) (fun y => w y.2)).symm
        rw [this]
        exact f133
      refine w_GM_cut_87 hX gq gj gp ⟨fun z => absurd z (by omega), fun _ => ?_⟩
      rw [Int.toNat_natCast, eB]
      unfold gWb gCap at yes no
      refine ⟨⟨by omega, by omega⟩, fun _ => c_GM_letter gB ?_⟩
      by_cases q1 : (65 ≤ S.getD j 0 ∧ S.getD j 0 ≤ 90) ∨ (97 ≤ S.getD j 0 ∧ S.getD j 0 ≤ 122)
      · rw [if_pos q1]
        exact ⟨fun _ => yes (by omega), fun z => absurd z (by decide)⟩
      rw [if_neg q1, eB]
      refine ⟨fun z => absurd rfl z, fun _ => ⟨⟨by omega, by omega⟩, fun _ => c_GM_digit gB ?_⟩⟩
      by_cases q2 : 48 ≤ S.getD j 0 ∧ S.getD j 0 ≤ 57
      · rw [if_pos q2]
        exact ⟨fun _ => yes (by omega), fun z => absurd z (by decide)⟩
      rw [if_neg q2, eB]
      exact ⟨fun z => absurd rfl z, fun _ => ⟨⟨by omega, by omega⟩, fun _ => ⟨fun z => no (by omega), fun z => yes (by omega)⟩⟩⟩
  exact key (S.length - p - 1) (p + 1) (by omega) hq
theorem r_cutQ {p n : Nat} {k : gM → Prop} (hX : gmX X o) (hI : gInm M o L S) (hp : p < S.length) (hn : M o 24 = (n : Int)) (hn2 : n ≤ 100) (hb : M o 27 = 0) (hw : S.getD p 0 = 34)
    (h0 : (gTn1 S p).1 = 24 ∨ n = 100 → ∀ (M2 : gM) (x3 : Int), g32 x3 → gOff (gWoF o n) M M2 → M2 o 27 = 1 → gW7 l G d X o L S k x3 M2)
    (h1 : (gTn1 S p).1 ≠ 24 → n < 100 → ∀ M2, gOff (gWoF o n) M M2 → M2 o 27 = 0 → M2 o 24 = ((n + 1 : Nat) : Int) → gTkm M2 o L S n ((gTn1 S p).1, p, (gTn1 S p).2) → gW7 l G d X o L S k ((L + (gTn1 S p).2 : Nat) : Int) M2) : wp l G y_GM_cut (gRm (d + 6 + 1)) true (kkV X k) true 150 [.val (gR G o), .unset, .val (gI ((L + S.length : Nat) : Int)), .val (gI ((L + (p + 1) : Nat) : Int)), .unset, .unset, .val (gI ((L + p : Nat) : Int))] [] X M 0 0 := by
  have hl := hI.2.1
  have hl2 := hI.2.2.1
  have gq : g32 ((L + S.length : Nat) : Int) := ⟨by omega, by omega⟩
  have gp : g32 ((L + p : Nat) : Int) := ⟨by omega, by omega⟩
  have eT : gTn1 S p = (if gQuo S (S.length - p) (p + 1) < S.length ∧ gQuo S (S.length - p) (p + 1) - p - 1 ≤ 64 then 18 else 24, gQuo S (S.length - p) (p + 1) + 1) := by
    unfold gTn1
    rw [if_pos hw]
  have r1 := gQuo_le S (S.length - p) (p + 1)
  generalize hq : gQuo S (S.length - p) (p + 1) = q at eT r1
  have r2 := r1.2 (by omega)
  rw [eT] at h0 h1
  dsimp only at h0 h1
  have g2 : g32 ((L + q : Nat) : Int) := ⟨by omega, by omega⟩
  have ew : w32 (((L + q : Nat) : Int) + 1) = ((L + (q + 1) : Nat) : Int) := (w32_id ⟨by omega, by omega⟩).trans (by omega)
  have g3 : g32 ((L + (q + 1) : Nat) : Int) := ⟨by omega, by omega⟩
  have bad : ¬ (q < S.length ∧ q - p - 1 ≤ 64) → wp l G y_GM_cut (gRm (d + 6 + 1)) true (kkV X k) true 192 [.val (gR G o), .unset, .val (gI ((L + S.length : Nat) : Int)), .val (gI ((L + q : Nat) : Int)), .unset, .unset, .val (gI ((L + p : Nat) : Int))] [gI 1, gR G o] X M 0 0 := by
    intro z
    rw [if_neg z] at h0
    refine w_GM_cut_192 hX gq g2 gp (g32_c rfl) ⟨⟨by decide, by decide⟩, ?_⟩
    have o1 : gOff (gWoF o n) M (gUp M o 27 1) := (gOff.rf _ _).up (by unfold gWoF; omega)
    rw [ew]
    refine r_tok hX (by rw [gUp_k (by decide)]; exact hn) hn2 (g32_c rfl) ⟨by omega, by omega⟩ g2 (fun _ => w_GM_cut_402 hX gq g3 (h0 (Or.inl rfl) _ _ g3 (o1.up (by unfold gWoF; omega)) (gUp_eq _ _ _ _))) (fun _ => w_GM_cut_402 hX gq g3 (h0 (Or.inl rfl) _ _ g3 (o1.tr gTk3_off) (by rw [gTk3_at.2.2.2.2.1, gUp_eq])))
  have f172 : wp l G y_GM_cut (gRm (d + 6 + 1)) true (kkV X k) true 172 [.val (gR G o), .unset, .val (gI ((L + S.length : Nat) : Int)), .val (gI ((L + q : Nat) : Int)), .unset, .unset, .val (gI ((L + p : Nat) : Int))] [] X M 0 0 := by
    refine w_GM_cut_172 hX gq g2 gp ⟨fun z => w_GM_cut_187 hX gq g2 gp (bad (by omega)), fun z => ?_⟩
    rw [w32_id (x := ((L + q : Nat) : Int) - ((L + p : Nat) : Int)) ⟨by omega, by omega⟩]
    refine ⟨fun z2 => ?_, fun z2 => w_GM_cut_187 hX gq g2 gp (bad (by omega))⟩
    rw [if_pos (by omega)] at h0 h1
    refine w_GM_cut_192 hX gq g2 gp (g32_c rfl) ⟨⟨by decide, by decide⟩, ?_⟩
    have o1 : gOff (gWoF o n) M (gUp M o 27 0) := (gOff.rf _ _).up (by unfold gWoF; omega)
    rw [ew]
    refine r_tok hX (by rw [gUp_k (by decide)]; exact hn) hn2 (g32_c rfl) ⟨by omega, by omega⟩ g2 (fun e => w_GM_cut_402 hX gq g3 (h0 (Or.inr e) _ _ g3 (o1.up (by unfold gWoF; omega)) (gUp_eq _ _ _ _))) (fun hlt => w_GM_cut_402 hX gq g3 ?_)
    obtain ⟨a1, a2, a3, a4, a5, a6⟩ := @gTk3_at (gUp M o 27 0) o n 2 (((L + p : Nat) : Int) + 1) ((L + q : Nat) : Int)
    refine h1 (by decide) hlt _ (o1.tr gTk3_off) (by rw [a5, gUp_eq]) a4 ⟨a1, ?_, ?_, fun y => absurd y (by dsimp only; omega), fun y => absurd y (by dsimp only; omega)⟩
    · rw [if_pos rfl, a2]
      show ((L + p : Nat) : Int) + 1 = ((L + p + 1 : Nat) : Int)
      omega
    · rw [if_pos rfl, a3]
      show ((L + q : Nat) : Int) = ((L + (q + 1) : Nat) : Int) - 1
      omega
  have key : ∀ (m j : Nat), S.length ≤ j + m → j ≤ S.length → gQuo S m j = q → wp l G y_GM_cut (gRm (d + 6 + 1)) true (kkV X k) true 150 [.val (gR G o), .unset, .val (gI ((L + S.length : Nat) : Int)), .val (gI ((L + j : Nat) : Int)), .unset, .unset, .val (gI ((L + p : Nat) : Int))] [] X M 0 0 := by
    intro m
    induction m with
    | zero =>
      intro j hj hj2 e
      have e : j = q := e
      rw [e]
      exact w_GM_cut_150 hX gq g2 gp ⟨fun _ => f172, fun z => absurd (by omega) z⟩
    | succ m ih =>
      intro j hj hj2 e
      have gj : g32 ((L + j : Nat) : Int) := ⟨by omega, by omega⟩
      unfold gQuo at e
      refine w_GM_cut_150 hX gq gj gp ⟨fun z => ?_, fun z => ?_⟩
      · rw [if_neg (by omega)] at e
        rw [e]
        exact f172
      · obtain ⟨eB, b1, b2⟩ := hI.b (j := j) (by omega)
        rw [Int.toNat_natCast, eB]
        refine ⟨⟨by omega, by omega⟩, fun _ => ⟨fun z2 => ?_, fun z2 => ?_⟩⟩
        · rw [if_neg (fun y => y.2 z2)] at e
          rw [e]
          exact f172
        · rw [if_pos ⟨by omega, z2⟩] at e
          rw [w32_id (x := ((L + j : Nat) : Int) + 1) ⟨by omega, by omega⟩, show ((L + j : Nat) : Int) + 1 = ((L + (j + 1) : Nat) : Int) by omega]
          exact ih (j + 1) (by omega) (by omega) e
  exact key (S.length - p) (p + 1) (by omega) (by omega) hq
end gdZ
