/-! The reference: a word becomes a token, all cases. -/
section gdZ
variable {l : Launch} {G : gG} {d : Nat} {X : gX} {M M2 : gM} {o L : Nat} {Q : gQ} {S : List Int}
theorem r_word {p q n : Nat} {k : gM → Prop} (hX : gmX X o) (hO : gOld G Q) (hI : gInm M o L S) (hpq : p < q ∧ q ≤ S.length) (hW : gAll gWb S p q) (hn : M o 24 = (n : Int)) (hn2 : n ≤ 100) (hb : M o 27 = 0) (hL : 1 ≤ o + 1 ∧ o + 1 ≤ X.1 ∧ X.2.1 (o + 1) = (2, 90000))
    (h0 : gWd S p q = 24 ∨ n = 100 → ∀ M2, gOff (gWoF o n) M M2 → M2 o 27 = 1 → k M2)
    (h1 : gWd S p q ≠ 24 → n < 100 → ∀ M2, gOff (gWoF o n) M M2 → M2 o 27 = 0 → M2 o 24 = ((n + 1 : Nat) : Int) → M2 (o + 13) n = gKm (gWd S p q) → M2 (o + 14) n = ((L + p : Nat) : Int) → M2 (o + 15) n = ((L + q : Nat) : Int) → (gWd S p q = 17 → gNum (gSbs S p q) = some (M2 (o + 18) n)) → (gWd S p q = 19 → M2 (o + 16) n = gPl S p q ∧ M2 (o + 17) n = gFx S p) → k M2) : cV l G y_GM_word (gRm (d + 6)) true [gR G o, gI ((L + p : Nat) : Int), gI ((L + q : Nat) : Int)] X M k := by
  have hl := hI.2.1
  have hl2 := hI.2.2.1
  have gq : g32 ((L + q : Nat) : Int) := ⟨by omega, by omega⟩
  have gp : g32 ((L + p : Nat) : Int) := ⟨by omega, by omega⟩
  have ed : w32 (((L + q : Nat) : Int) - ((L + p : Nat) : Int)) = ((q - p : Nat) : Int) := (w32_id ⟨by omega, by omega⟩).trans (by omega)
  have b0 := hW p (Nat.le_refl _) hpq.1
  unfold gWb gCap at b0
  -- a token that is bad
  have bad : gWd S p q = 24 → ∀ (x : Int) (kk : gM → Prop), g32 x → (∀ M2, gOff (gWoF o n) M M2 → M2 o 27 = 1 → kk M2) → cV l G y_GM_token (gRm (d + 5)) true [gR G o, gI x, gI ((L + p : Nat) : Int), gI ((L + q : Nat) : Int)] X (gUp M o 27 1) kk := by
    intro _ x kk gx hk
    have o1 : gOff (gWoF o n) M (gUp M o 27 1) := (gOff.rf _ _).up (by unfold gWoF; omega)
    refine r_tok hX (by rw [gUp_k (by decide)]; exact hn) hn2 gx gp gq (fun _ => hk _ (o1.up (by unfold gWoF; omega)) (gUp_eq _ _ _ _)) (fun _ => hk _ (o1.tr gTk3_off) (by rw [gTk3_at.2.2.2.2.1, gUp_eq]))
  -- names
  have s153 : ∀ s0 : Int, g32 s0 → (q - p ≤ 12 → gKm (gWd S p q) = s0 ∧ gWd S p q ≠ 24 ∧ gWd S p q ≠ 17 ∧ gWd S p q ≠ 19) → (¬ q - p ≤ 12 → gWd S p q = 24) → wp l G y_GM_word (gRm (d + 5 + 1)) true (kkV X k) true 153 [.val (gR G o), .val (gI ((L + p : Nat) : Int)), .val (gI ((L + q : Nat) : Int)), .unset, .unset, .unset, .unset, .unset, .unset, .unset] [gI s0] X M 0 0 := by
    intro s0 g0 hs hb2
    refine w_GM_word_153 (Q := Q) (d := d + 5) hX hO gp gq g0 ?_
    rw [hb, ed, gOr_b.1, gOr_b.2]
    refine fun _ => ⟨fun z => ⟨⟨by decide, by decide⟩, ?_⟩, fun z => ⟨⟨by decide, by decide⟩, bad (hb2 (by omega)) s0 _ g0 (fun M2 o2 f => h0 (Or.inl (hb2 (by omega))) M2 o2 f)⟩⟩
    obtain ⟨e1, e2, e3, e4⟩ := hs (by omega)
    have o1 : gOff (gWoF o n) M (gUp M o 27 0) := (gOff.rf _ _).up (by unfold gWoF; omega)
    have a3 := @gTk3_at (gUp M o 27 0) o n s0 ((L + p : Nat) : Int) ((L + q : Nat) : Int)
    exact r_tok hX (by rw [gUp_k (by decide)]; exact hn) hn2 g0 gp gq (fun e => h0 (Or.inr e) _ (o1.up (by unfold gWoF; omega)) (gUp_eq _ _ _ _)) (fun hlt => h1 e2 hlt _ (o1.tr gTk3_off) (by rw [a3.2.2.2.2.1, gUp_eq]) a3.2.2.2.1 (by rw [a3.1, e1]) a3.2.1 a3.2.2.1 (fun y => absurd y e3) (fun y => absurd y e4))
  have s186 : gWd S p q = (if 0 ≤ gPl S p q then 19 else 24) → wp l G y_GM_word (gRm (d + 5 + 1)) true (kkV X k) true 186 [.val (gR G o), .val (gI ((L + p : Nat) : Int)), .val (gI ((L + q : Nat) : Int)), .unset, .unset, .unset, .unset, .unset, .unset, .unset] [] X M 0 0 := fun hgw => r_wordR hX hO hI hpq hW hn hn2 hb hL h0 h1 hgw
  have s8 : ∀ (m j : Nat) (x3 x4 : Int), j + m = q → p ≤ j → (x3 = 1 ∧ gAll gDig S p j ∨ x3 = 0 ∧ ¬ gAll gDig S p j) → (x4 = 1 ∧ gAll gCap S p j ∨ x4 = 0 ∧ ¬ gAll gCap S p j) → wp l G y_GM_word (gRm (d + 5 + 1)) true (kkV X k) true 8 [.val (gR G o), .val (gI ((L + p : Nat) : Int)), .val (gI ((L + q : Nat) : Int)), .val (gI x3), .val (gI x4), .val (gI ((L + j : Nat) : Int)), .unset, .unset, .unset, .unset] [] X M 0 0 := by
    intro m
    induction m with
    | zero =>
      intro j x3 x4 hj hpj h3 h4
      have ej : j = q := by omega
      subst ej
      have g3 : g32 x3 := by rcases h3 with e | e <;> rw [e.1] <;> exact g32_c rfl
      have g4 : g32 x4 := by rcases h4 with e | e <;> rw [e.1] <;> exact g32_c rfl
      refine w_GM_word_8 (Q := Q) (d := d + 5) hX hO gp gq g3 g4 gq ⟨fun _ => ⟨fun z => ?_, fun z => ?_⟩, fun y => absurd (Int.le_refl _) y⟩
      · have nd : ¬ gAll gDig S p j := by
          rcases h3 with e | e
          · omega
          · exact e.2
        rw [ed]
        refine ⟨fun z2 => s186 (gWd_ref hpq.2 hpq.1 hW nd (fun y => ?_)), fun z2 => ⟨fun z3 => s186 (gWd_ref hpq.2 hpq.1 hW nd (fun y => by omega)), fun z3 => ?_⟩⟩
        · rcases h4 with e | e
          · omega
          · exact e.2 y.1
        · have hc : gAll gCap S p j := by
            rcases h4 with e | e
            · exact e.2
            · omega
          have hw := gWd_cap hpq.2 (by omega) hc
          have k5 : gSby.getD 5 [] = [84, 82, 85, 69] := rfl
          have k6 : gSby.getD 6 [] = [70, 65, 76, 83, 69] := rfl
          refine r_spellsS (d := d) hX hO hI ⟨by omega, hpq.2⟩ (by decide) (fun e => ⟨fun y => absurd y (by decide), fun _ => s153 5 (g32_c rfl) (fun y => ?_) (fun y => ?_)⟩) (fun e => ⟨fun _ => r_spellsS (d := d) hX hO hI ⟨by omega, hpq.2⟩ (by decide) (fun e2 => ⟨fun y => absurd y (by decide), fun _ => s153 6 (g32_c rfl) (fun y => ?_) (fun y => ?_)⟩) (fun e2 => ⟨fun _ => s153 4 (g32_c rfl) (fun y => ?_) (fun y => ?_), fun y => absurd rfl y⟩), fun y => absurd rfl y⟩)
          · rw [k5] at e
            rw [hw, if_pos y, if_pos e]
            decide
          · rw [hw, if_neg y]
          · rw [k5] at e
            rw [k6] at e2
            rw [hw, if_pos y, if_neg e, if_pos e2]
            decide
          · rw [hw, if_neg y]
          · rw [k5] at e
            rw [k6] at e2
            rw [hw, if_pos y, if_neg e, if_neg e2]
            decide
          · rw [hw, if_neg y]
      · have hd : gAll gDig S p j := by
          rcases h3 with e | e
          · exact e.2
          · omega
        have hw := gWd_dig hpq.2 hpq.1 hd
        have es : gBy M (o + 1) (((L + p : Nat) : Int)).toNat (((L + j : Nat) : Int) - ((L + p : Nat) : Int)).toNat = gSbs S p j := by
          rw [Int.toNat_natCast, show (((L + j : Nat) : Int) - ((L + p : Nat) : Int)).toNat = j - p by omega]
          exact hI.sub hpq.2
        rw [hb, gOr_b.1, gOr_b.2]
        refine fun _ => c_GM_isNumber (d := d + 4) hX ⟨hL.1, hL.2.1, hL.2.2, by decide⟩ ⟨by omega, by omega⟩ ⟨by omega, by omega⟩ ?_ ?_
        · rw [es]
          intro hn0
          rw [hn0] at hw
          have hw : gWd S p j = 24 := hw
          refine ⟨fun y => absurd rfl y, fun _ => ⟨⟨by decide, by decide⟩, bad hw 1 _ (g32_c rfl) (fun M2 o2 f => ?_)⟩⟩
          rw [f]
          exact fun _ => ⟨fun _ => h0 (Or.inl hw) M2 o2 f, fun y => absurd y (by decide)⟩
        · rw [es]
          intro v hv gv
          rw [hv] at hw
          have hw : gWd S p j = 17 := hw
          refine ⟨fun _ => ⟨⟨by decide, by decide⟩, ?_⟩, fun y => absurd y (by decide)⟩
          have o1 : gOff (gWoF o n) M (gUp (gUp M o 3 v) o 27 0) := ((gOff.rf _ _).up (by unfold gWoF; omega)).up (by unfold gWoF; omega)
          refine r_tok hX (by rw [gUp_k (by decide), gUp_k (by decide)]; exact hn) hn2 (g32_c rfl) gp gq (fun e => ?_) (fun hlt => ?_)
          · rw [gUp_eq]
            exact fun _ => ⟨fun _ => h0 (Or.inr e) _ (o1.up (by unfold gWoF; omega)) (gUp_eq _ _ _ _), fun y => absurd y (by decide)⟩
          · have a3 := @gTk3_at (gUp (gUp M o 3 v) o 27 0) o n 1 ((L + p : Nat) : Int) ((L + j : Nat) : Int)
            have o3 : gOff (gWoF o n) M (gTk3 (gUp (gUp M o 3 v) o 27 0) o n 1 ((L + p : Nat) : Int) ((L + j : Nat) : Int)) := o1.tr gTk3_off
            generalize gTk3 (gUp (gUp M o 3 v) o 27 0) o n 1 ((L + p : Nat) : Int) ((L + j : Nat) : Int) = M5 at a3 o3 ⊢
            obtain ⟨a1, a2, a4, a5, a6, a7⟩ := a3
            rw [gUp_eq] at a6
            rw [gUp_k (by decide), gUp_eq] at a7
            rw [a6, a5, a7, show (((n + 1 : Nat) : Int) - 1).toNat = n by omega]
            refine fun _ => ⟨fun y => absurd rfl y, fun _ _ _ => ⟨⟨by omega, by omega⟩, h1 (by rw [hw]; decide) hlt _ (o3.up (by unfold gWoF; omega)) ?_ ?_ ?_ ?_ ?_ (fun _ => ?_) (fun y => absurd (hw.symm.trans y) (by decide))⟩⟩
            · rw [gUp_a (by omega)]; exact a6
            · rw [gUp_a (by omega)]; exact a5
            · rw [gUp_a (by omega), hw]; exact a1
            · rw [gUp_a (by omega)]; exact a2
            · rw [gUp_a (by omega)]; exact a4
            · rw [gUp_eq]; exact hv
    | succ m ih =>
      intro j x3 x4 hj hpj h3 h4
      have g3 : g32 x3 := by rcases h3 with e | e <;> rw [e.1] <;> exact g32_c rfl
      have g4 : g32 x4 := by rcases h4 with e | e <;> rw [e.1] <;> exact g32_c rfl
      obtain ⟨eA, c1, c2⟩ := hI.b (j := j) (by omega)
      refine w_GM_word_8 (Q := Q) (d := d + 5) hX hO gp gq g3 g4 ⟨by omega, by omega⟩ ⟨fun y => absurd y (by omega), fun _ => ⟨⟨by omega, by omega⟩, fun _ => ?_⟩⟩
      rw [Int.toNat_natCast, eA]
      refine c_GM_digit ⟨by omega, by omega⟩ ⟨⟨by omega, by omega⟩, fun _ => ?_⟩
      rw [eA]
      refine c_GM_capital ⟨by omega, by omega⟩ ?_
      rw [w32_id (x := ((L + j : Nat) : Int) + 1) ⟨by omega, by omega⟩, show ((L + j : Nat) : Int) + 1 = ((L + (j + 1) : Nat) : Int) by omega]
      have ext : ∀ (P : Int → Prop), gAll P S p (j + 1) ↔ gAll P S p j ∧ P (S.getD j 0) := fun P => ⟨fun y => ⟨fun i i1 i2 => y i i1 (by omega), y j hpj (by omega)⟩, fun y i i1 i2 => by
        by_cases e : i = j
        · rw [e]; exact y.2
        · exact y.1 i i1 (by omega)⟩
      have step : ∀ (P : Int → Prop) (x v : Int), (x = 1 ∧ gAll P S p j ∨ x = 0 ∧ ¬ gAll P S p j) → (v = 1 ∧ P (S.getD j 0) ∨ v = 0 ∧ ¬ P (S.getD j 0)) → (gAnd x v = 1 ∧ gAll P S p (j + 1) ∨ gAnd x v = 0 ∧ ¬ gAll P S p (j + 1)) := by
        intro P x v hx hv
        rw [ext P]
        rcases hx with ⟨e1, e2⟩ | ⟨e1, e2⟩ <;> rcases hv with ⟨f1, f2⟩ | ⟨f1, f2⟩ <;> rw [e1, f1]
        · exact Or.inl ⟨by decide, e2, f2⟩
        · exact Or.inr ⟨by decide, fun y => f2 y.2⟩
        · exact Or.inr ⟨by decide, fun y => e2 y.1⟩
        · exact Or.inr ⟨by decide, fun y => e2 y.1⟩
      refine ih (j + 1) _ _ (by omega) (by omega) (step gDig _ _ h3 ?_) (step gCap _ _ h4 ?_)
      · by_cases y : 48 ≤ S.getD j 0 ∧ S.getD j 0 ≤ 57
        · rw [if_pos y]; exact Or.inl ⟨rfl, y⟩
        · rw [if_neg y]; exact Or.inr ⟨rfl, y⟩
      · by_cases y : 65 ≤ S.getD j 0 ∧ S.getD j 0 ≤ 90
        · rw [if_pos y]; exact Or.inl ⟨rfl, y⟩
        · rw [if_neg y]; exact Or.inr ⟨rfl, y⟩
  exact e_GM_word (Q := Q) (w_GM_word_0 (Q := Q) (d := d + 5) hX hO gp gq (s8 (q - p) p 1 1 (by omega) (Nat.le_refl _) (Or.inl ⟨rfl, fun i i1 i2 => by omega⟩) (Or.inl ⟨rfl, fun i i1 i2 => by omega⟩)))
end gdZ
