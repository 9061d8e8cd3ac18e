/-! The reference: a word becomes a token. -/
def gTk3 (M : gM) (o n : Nat) (x a b : Int) : gM := gUp (gUp (gUp (gUp M (o + 13) n x) (o + 14) n a) (o + 15) n b) o 24 ((n + 1 : Nat) : Int)
/-- what a token writes -/
def gWoF (o n : Nat) : Nat → Nat → Prop := fun x j => (x = o ∧ (j = 24 ∨ j = 27 ∨ j = 3)) ∨ (o + 13 ≤ x ∧ x ≤ o + 18 ∧ j = n)
/-- the reference's kinds of tokens -/
def gKm (x : Int) : Int := if x = 17 then 1 else if x = 18 then 2 else if x = 19 then 3 else if x = 20 then 4 else if x = 21 then 5 else if x = 22 then 6 else if x = 0 then 61 else if x = 1 then 110 else if x = 2 then 60 else if x = 3 then 108 else if x = 4 then 62 else if x = 5 then 103 else if x = 6 then 38 else if x = 7 then 43 else if x = 8 then 45 else if x = 9 then 42 else if x = 10 then 47 else if x = 11 then 94 else if x = 12 then 37 else if x = 13 then 40 else if x = 14 then 41 else if x = 15 then 44 else if x = 16 then 58 else 0
section gdY
variable {l : Launch} {G : gG} {d : Nat} {X : gX} {M M2 : gM} {o L : Nat} {Q : gQ} {S : List Int}
theorem r_tok {n : Nat} {x a b : Int} {k : gM → Prop} (hX : gmX X o) (hn : M o 24 = (n : Int)) (hn2 : n ≤ 100) (hx : g32 x) (ha : g32 a) (hb : g32 b) (h0 : n = 100 → k (gUp M o 27 1)) (h1 : n < 100 → k (gTk3 M o n x a b)) : cV l G y_GM_token (gRm d) true [gR G o, gI x, gI a, gI b] X M k := by
  refine c_GM_token hX (by omega) hx ha hb ?_
  unfold gmToken
  by_cases q : n = 100
  · rw [if_pos (by omega)]; exact h0 q
  · rw [if_neg (by omega), hn, Int.toNat_natCast]
    exact h1 (by omega)
theorem gTk3_off {n : Nat} {x a b : Int} : gOff (gWoF o n) M (gTk3 M o n x a b) := by
  unfold gTk3
  refine ((((gOff.rf _ M).up ?_).up ?_).up ?_).up ?_ <;> unfold gWoF <;> omega
theorem gTk3_at {n : Nat} {x a b : Int} : gTk3 M o n x a b (o + 13) n = x ∧ gTk3 M o n x a b (o + 14) n = a ∧ gTk3 M o n x a b (o + 15) n = b ∧ gTk3 M o n x a b o 24 = ((n + 1 : Nat) : Int) ∧ gTk3 M o n x a b o 27 = M o 27 ∧ gTk3 M o n x a b o 3 = M o 3 := by
  unfold gTk3
  simp (disch := omega) only [gUp_eq, gUp_a, gUp_k]
  exact ⟨trivial, trivial, trivial, trivial, trivial, trivial⟩
theorem gOr_b : gOr 0 0 = 0 ∧ gOr 0 1 = 1 := by decide
theorem gAnd_b {a b : Int} (ha : a = 0 ∨ a = 1) (hb : b = 0 ∨ b = 1) : gAnd a b = if a = 1 ∧ b = 1 then 1 else 0 := by
  rcases ha with e | e <;> rcases hb with y | y <;> rw [e, y] <;> decide
theorem gDec_app (x : Int) : ∀ (t : List Int) (r : Int), gDec (t ++ [x]) r = gDec t r * 10 + x - 48 := by
  intro t
  induction t with
  | nil => intro r; rfl
  | cons y t ih => intro r; exact ih _
theorem gSbs_succ {b j : Nat} (h : b ≤ j) (hj : j < S.length) : gSbs S b (j + 1) = gSbs S b j ++ [S.getD j 0] := by
  unfold gSbs
  rw [show j + 1 - b = (j - b) + 1 by omega, List.take_add_one, List.getElem?_drop, show b + (j - b) = j by omega, List.getElem?_eq_getElem hj, List.getD_eq_getElem?_getD, List.getElem?_eq_getElem hj]
  rfl
theorem r_wordR {p q n : Nat} {k : gM → Prop} (hX : gmX X o) (hO : gOld G Q) (hI : gInm M o L S) (hpq : p < q ∧ q ≤ S.length) (hW : gAll gWb S p q) (hn : M o 24 = (n : Int)) (hn2 : n ≤ 100) (hb : M o 27 = 0) (hL : 1 ≤ o + 1 ∧ o + 1 ≤ X.1 ∧ X.2.1 (o + 1) = (2, 90000))
    (h0 : gWd S p q = 24 ∨ n = 100 → ∀ M2, gOff (gWoF o n) M M2 → M2 o 27 = 1 → k M2)
    (h1 : gWd S p q ≠ 24 → n < 100 → ∀ M2, gOff (gWoF o n) M M2 → M2 o 27 = 0 → M2 o 24 = ((n + 1 : Nat) : Int) → M2 (o + 13) n = gKm (gWd S p q) → M2 (o + 14) n = ((L + p : Nat) : Int) → M2 (o + 15) n = ((L + q : Nat) : Int) → (gWd S p q = 17 → gNum (gSbs S p q) = some (M2 (o + 18) n)) → (gWd S p q = 19 → M2 (o + 16) n = gPl S p q ∧ M2 (o + 17) n = gFx S p) → k M2) 
    (hgw : gWd S p q = (if 0 ≤ gPl S p q then 19 else 24)) : wp l G y_GM_word (gRm (d + 5 + 1)) true (kkV X k) true 186 [.val (gR G o), .val (gI ((L + p : Nat) : Int)), .val (gI ((L + q : Nat) : Int)), .unset, .unset, .unset, .unset, .unset, .unset, .unset] [] X M 0 0 := by
  have hl := hI.2.1
  have hl2 := hI.2.2.1
  have gq : g32 ((L + q : Nat) : Int) := ⟨by omega, by omega⟩
  have gp : g32 ((L + p : Nat) : Int) := ⟨by omega, by omega⟩
  have ed : w32 (((L + q : Nat) : Int) - ((L + p : Nat) : Int)) = ((q - p : Nat) : Int) := (w32_id ⟨by omega, by omega⟩).trans (by omega)
  have b0 := hW p (Nat.le_refl _) hpq.1
  unfold gWb gCap at b0
  -- a token that is bad
  have bad : gWd S p q = 24 → ∀ (x : Int) (kk : gM → Prop), g32 x → (∀ M2, gOff (gWoF o n) M M2 → M2 o 27 = 1 → kk M2) → cV l G y_GM_token (gRm (d + 5)) true [gR G o, gI x, gI ((L + p : Nat) : Int), gI ((L + q : Nat) : Int)] X (gUp M o 27 1) kk := by
    intro _ x kk gx hk
    have o1 : gOff (gWoF o n) M (gUp M o 27 1) := (gOff.rf _ _).up (by unfold gWoF; omega)
    refine r_tok hX (by rw [gUp_k (by decide)]; exact hn) hn2 gx gp gq (fun _ => hk _ (o1.up (by unfold gWoF; omega)) (gUp_eq _ _ _ _)) (fun _ => hk _ (o1.tr gTk3_off) (by rw [gTk3_at.2.2.2.2.1, gUp_eq]))
  -- refs
  have s377 : gWd S p q = (if 0 ≤ gPl S p q then 19 else 24) → ∀ (x6 x7 x8 x9 : Int), g32 x6 → g32 x8 → g32 x9 → (x7 = 0 ∨ x7 = 1) → (x7 = 0 → gPl S p q < 0) → (x7 = 1 → 200 < x9 → gPl S p q < 0) → (x7 = 1 → x9 ≤ 200 → gPl S p q = x8 + 26 * (x9 - 1) ∧ 0 ≤ gPl S p q ∧ gPl S p q < 5200 ∧ x6 = gFx S p) → wp l G y_GM_word (gRm (d + 5 + 1)) true (kkV X k) true 377 [.val (gR G o), .val (gI ((L + p : Nat) : Int)), .val (gI ((L + q : Nat) : Int)), .unset, .unset, .unset, .val (gI x6), .val (gI x7), .val (gI x8), .val (gI x9)] [] X M 0 0 := by
    intro hgw x6 x7 x8 x9 g6 g8 g9 h7 hA hB hC
    have g7 : g32 x7 := by rcases h7 with e | e <;> rw [e] <;> exact g32_c rfl
    have w24 : gPl S p q < 0 → gWd S p q = 24 := fun y => by rw [hgw, if_neg (by omega)]
    refine w_GM_word_377 (Q := Q) (d := d + 5) hX hO gp gq g6 g7 g8 g9 ?_
    rw [hb, gOr_b.1, gOr_b.2]
    refine fun _ => ⟨fun z => ⟨⟨by decide, by decide⟩, bad (w24 (hA z)) 3 _ (g32_c rfl) (fun M2 o2 f => ?_)⟩, fun z => ⟨fun z2 => ⟨⟨by decide, by decide⟩, ?_⟩, fun z2 => ⟨⟨by decide, by decide⟩, bad (w24 (hB (by omega) (by omega))) 3 _ (g32_c rfl) (fun M2 o2 f => ?_)⟩⟩⟩
    · rw [f]
      exact fun _ => ⟨fun _ => h0 (Or.inl (w24 (hA z))) M2 o2 f, fun y => absurd y (by decide)⟩
    · obtain ⟨c1, c2, c3, c4⟩ := hC (by omega) z2
      have w19 : gWd S p q = 19 := by rw [hgw, if_pos c2]
      have o1 : gOff (gWoF o n) M (gUp M o 27 0) := (gOff.rf _ _).up (by unfold gWoF; omega)
      refine r_tok hX (by rw [gUp_k (by decide)]; exact hn) hn2 (g32_c rfl) gp gq (fun e => ?_) (fun hlt => ?_)
      · rw [gUp_eq]
        exact fun _ => ⟨fun _ => h0 (Or.inr e) _ (o1.up (by unfold gWoF; omega)) (gUp_eq _ _ _ _), fun y => absurd y (by decide)⟩
      · have a3 := @gTk3_at (gUp M o 27 0) o n 3 ((L + p : Nat) : Int) ((L + q : Nat) : Int)
        have o3 : gOff (gWoF o n) M (gTk3 (gUp M o 27 0) o n 3 ((L + p : Nat) : Int) ((L + q : Nat) : Int)) := o1.tr gTk3_off
        generalize gTk3 (gUp M o 27 0) o n 3 ((L + p : Nat) : Int) ((L + q : Nat) : Int) = M5 at a3 o3 ⊢
        obtain ⟨a1, a2, a4, a5, a6, a7⟩ := a3
        rw [gUp_eq] at a6
        rw [gUp_a (by omega), a6, a5, w32_id (x := x8 + 26 * (x9 - 1)) ⟨by omega, by omega⟩, show (((n + 1 : Nat) : Int) - 1).toNat = n by omega]
        refine fun _ => ⟨fun y => absurd rfl y, fun _ _ => ⟨⟨by omega, by omega⟩, fun _ => ⟨⟨by omega, by omega⟩, h1 (by rw [w19]; decide) hlt _ ((o3.up (by unfold gWoF; omega)).up (by unfold gWoF; omega)) ?_ ?_ ?_ ?_ ?_ (fun y => absurd (w19.symm.trans y) (by decide)) (fun _ => ⟨?_, ?_⟩)⟩⟩⟩
        · rw [gUp_a (by omega), gUp_a (by omega)]; exact a6
        · rw [gUp_a (by omega), gUp_a (by omega)]; exact a5
        · rw [gUp_a (by omega), gUp_a (by omega), w19]; exact a1
        · rw [gUp_a (by omega), gUp_a (by omega)]; exact a2
        · rw [gUp_a (by omega), gUp_a (by omega)]; exact a4
        · rw [gUp_a (by omega), gUp_eq, c1]
        · rw [gUp_eq, c4]
    · rw [f]
      exact fun _ => ⟨fun _ => h0 (Or.inl (w24 (hB (by omega) (by omega)))) M2 o2 f, fun y => absurd y (by decide)⟩
  have s330z : gWd S p q = (if 0 ≤ gPl S p q then 19 else 24) → gPl S p q < 0 → ∀ (x5 x6 x8 x9 : Int), g32 x5 → g32 x6 → g32 x8 → g32 x9 → wp l G y_GM_word (gRm (d + 5 + 1)) true (kkV X k) true 330 [.val (gR G o), .val (gI ((L + p : Nat) : Int)), .val (gI ((L + q : Nat) : Int)), .unset, .unset, .val (gI x5), .val (gI x6), .val (gI 0), .val (gI x8), .val (gI x9)] [] X M 0 0 := by
    intro hgw hneg x5 x6 x8 x9 g5 g6 g8 g9
    exact w_GM_word_330 (Q := Q) (d := d + 5) hX hO gp gq g5 g6 (g32_c rfl) g8 g9 ⟨fun _ => s377 hgw x6 0 x8 x9 g6 g8 g9 (Or.inl rfl) (fun _ => hneg) (fun y => absurd y (by decide)) (fun y => absurd y (by decide)), fun y => absurd rfl y⟩
  have s324 : gWd S p q = (if 0 ≤ gPl S p q then 19 else 24) → gPl S p q < 0 → ∀ (x5 x6 x8 : Int), g32 x5 → g32 x6 → g32 x8 → wp l G y_GM_word (gRm (d + 5 + 1)) true (kkV X k) true 324 [.val (gR G o), .val (gI ((L + p : Nat) : Int)), .val (gI ((L + q : Nat) : Int)), .unset, .unset, .val (gI x5), .val (gI x6), .unset, .val (gI x8), .unset] [] X M 0 0 := fun hgw hneg x5 x6 x8 g5 g6 g8 => w_GM_word_324 (Q := Q) (d := d + 5) hX hO gp gq g5 g6 g8 (s330z hgw hneg x5 x6 x8 0 g5 g6 g8 (g32_c rfl))
  have s289 : gWd S p q = (if 0 ≤ gPl S p q then 19 else 24) → ∀ (b : Nat) (x6 : Int), ¬ (q ≤ gPa S p ∨ ¬ gCap (S.getD (gPa S p) 0)) → b = gPb S p q → p ≤ b → b ≤ p + 3 → g32 x6 → (b < q → x6 = gFx S p) → wp l G y_GM_word (gRm (d + 5 + 1)) true (kkV X k) true 289 [.val (gR G o), .val (gI ((L + p : Nat) : Int)), .val (gI ((L + q : Nat) : Int)), .unset, .unset, .val (gI ((L + b : Nat) : Int)), .val (gI x6), .val (gI 1), .val (gI (S.getD (gPa S p) 0 - 65)), .unset] [] X M 0 0 := by
    intro hgw b x6 hcp eb pb pb3 g6 hx6
    have hc : gCap (S.getD (gPa S p) 0) := Decidable.byContradiction (dec := gDCap _) fun z => hcp (Or.inr z)
    unfold gCap at hc
    have g8 : g32 (S.getD (gPa S p) 0 - 65) := ⟨by omega, by omega⟩
    have gb : g32 ((L + b : Nat) : Int) := ⟨by omega, by omega⟩
    have hpl : gPl S p q = if q ≤ b ∨ 3 < q - b ∨ S.getD b 0 = 48 then -1 else match gNum (gSbs S b q) with | none => -1 | some r => if r ≤ 200 then S.getD (gPa S p) 0 - 65 + 26 * (r - 1) else -1 := by
      unfold gPl
      rw [if_neg hcp, ← eb]
      rfl
    have neg1 : (q ≤ b ∨ 3 < q - b ∨ S.getD b 0 = 48) → gPl S p q < 0 := fun y => by rw [hpl, if_pos y]; decide
    refine w_GM_word_289 (Q := Q) (d := d + 5) hX hO gp gq gb g6 (g32_c rfl) g8 ⟨fun y => absurd y (by decide), fun _ => ⟨fun z => s324 hgw (neg1 (Or.inl (by omega))) _ _ _ gb g6 g8, fun z => ?_⟩⟩
    rw [show w32 (((L + q : Nat) : Int) - ((L + b : Nat) : Int)) = ((q - b : Nat) : Int) from (w32_id ⟨by omega, by omega⟩).trans (by omega), Int.toNat_natCast]
    refine ⟨fun z2 => s324 hgw (neg1 (Or.inr (Or.inl (by omega)))) _ _ _ gb g6 g8, fun z2 => ⟨⟨by omega, by omega⟩, fun _ => ?_⟩⟩
    obtain ⟨eB, c1, c2⟩ := hI.b (j := b) (by omega)
    rw [eB]
    refine ⟨fun z3 => s324 hgw (neg1 (Or.inr (Or.inr z3))) _ _ _ gb g6 g8, fun z3 => ?_⟩
    rw [if_neg (by omega)] at hpl
    have key : ∀ (m j : Nat) (x9 : Int), j + m = q → b ≤ j → (∀ i, b ≤ i → i < j → gDig (S.getD i 0)) → x9 = gDec (gSbs S b j) 0 → (j = b ∧ x9 = 0 ∨ j = b + 1 ∧ 1 ≤ x9 ∧ x9 ≤ 9 ∨ j = b + 2 ∧ 10 ≤ x9 ∧ x9 ≤ 99 ∨ j = b + 3 ∧ 100 ≤ x9 ∧ x9 ≤ 999) → wp l G y_GM_word (gRm (d + 5 + 1)) true (kkV X k) true 330 [.val (gR G o), .val (gI ((L + p : Nat) : Int)), .val (gI ((L + q : Nat) : Int)), .unset, .unset, .val (gI ((L + j : Nat) : Int)), .val (gI x6), .val (gI 1), .val (gI (S.getD (gPa S p) 0 - 65)), .val (gI x9)] [] X M 0 0 := by
      intro m
      induction m with
      | zero =>
        intro j x9 hj hbj hd e9 hbd
        have ej : j = q := by omega
        subst ej
        have en : gNum (gSbs S b j) = some x9 := by
          rw [e9]
          refine gNum_dec (fun x hx => ?_) (fun y => ?_) (by rw [gSbs_len hpq.2]; omega)
          · obtain ⟨i, i1, i2, e⟩ := gSbs_mem hpq.2 hx
            rw [e]; exact hd i i1 i2
          · have := gSbs_len (S := S) (p := b) (q := j) hpq.2
            rw [y] at this
            have : 0 = j - b := this
            omega
        rw [en] at hpl
        dsimp only at hpl
        refine w_GM_word_330 (Q := Q) (d := d + 5) hX hO gp gq ⟨by omega, by omega⟩ g6 (g32_c rfl) g8 ⟨by omega, by omega⟩ ⟨fun y => absurd y (by decide), fun _ => ⟨fun _ => s377 hgw x6 1 _ x9 g6 g8 ⟨by omega, by omega⟩ (Or.inr rfl) (fun y => absurd y (by decide)) (fun _ y => by rw [hpl, if_neg (by omega)]; decide) (fun _ y => ?_), fun y => absurd (by omega) y⟩⟩
        rw [if_pos y] at hpl
        exact ⟨hpl, by omega, by omega, hx6 (by omega)⟩
      | succ m ih =>
        intro j x9 hj hbj hd e9 hbd
        obtain ⟨eJ, d1, d2⟩ := hI.b (j := j) (by omega)
        refine w_GM_word_330 (Q := Q) (d := d + 5) hX hO gp gq ⟨by omega, by omega⟩ g6 (g32_c rfl) g8 ⟨by omega, by omega⟩ ⟨fun y => absurd y (by decide), fun _ => ⟨fun y => absurd y (by omega), fun _ => ?_⟩⟩
        rw [Int.toNat_natCast, eJ, w32_id (x := ((L + j : Nat) : Int) + 1) ⟨by omega, by omega⟩, show ((L + j : Nat) : Int) + 1 = ((L + (j + 1) : Nat) : Int) by omega]
        refine ⟨⟨by omega, by omega⟩, fun _ => c_GM_digit ⟨by omega, by omega⟩ ?_⟩
        rw [eJ, w32_id (x := x9 * 10 + S.getD j 0 - 48) ⟨by omega, by omega⟩]
        refine ⟨⟨by omega, by omega⟩, fun _ => ?_⟩
        by_cases q9 : 48 ≤ S.getD j 0 ∧ S.getD j 0 ≤ 57
        · rw [if_pos q9]
          refine ih (j + 1) _ (by omega) (by omega) (fun i i1 i2 => ?_) ?_ ?_
          · by_cases e : i = j
            · rw [e]; exact q9
            · exact hd i i1 (by omega)
          · rw [gSbs_succ hbj (by omega), gDec_app, ← e9]
          · rcases hbd with y | y | y | y
            · have : S.getD j 0 ≠ 48 := by rw [y.1]; exact z3
              omega
            · omega
            · omega
            · omega
        · rw [if_neg q9]
          have en : gNum (gSbs S b q) = none := gNum_all hpq.2 (by omega) (fun y => by have := hW b pb (by omega); unfold gWb gCap at this; omega) (fun y => q9 (y j hbj (by omega)))
          rw [en] at hpl
          have hpl : gPl S p q = -1 := hpl
          exact s330z hgw (by omega) _ _ _ _ ⟨by omega, by omega⟩ g6 g8 ⟨by omega, by omega⟩
    refine key (q - b) b 0 (by omega) (Nat.le_refl _) (fun i i1 i2 => by omega) ?_ (Or.inl ⟨rfl, rfl⟩)
    unfold gSbs
    rw [Nat.sub_self, List.take_zero]
    rfl
  have s234z : gWd S p q = (if 0 ≤ gPl S p q then 19 else 24) → gPl S p q < 0 → ∀ (a : Nat) (x6 : Int), g32 x6 → a ≤ p + 1 → wp l G y_GM_word (gRm (d + 5 + 1)) true (kkV X k) true 234 [.val (gR G o), .val (gI ((L + p : Nat) : Int)), .val (gI ((L + q : Nat) : Int)), .unset, .unset, .val (gI ((L + a : Nat) : Int)), .val (gI x6), .unset, .unset, .unset] [gI 0] X M 0 0 := by
    intro hgw hneg a x6 g6 ha
    refine w_GM_word_234 (Q := Q) (d := d + 5) hX hO gp gq ⟨by omega, by omega⟩ g6 (g32_c rfl) ⟨fun _ => ⟨fun _ => ?_, fun y => absurd rfl y⟩, fun y => absurd rfl y⟩
    rw [w32_id (x := ((L + a : Nat) : Int) + 1) ⟨by omega, by omega⟩]
    exact w_GM_word_289 (Q := Q) (d := d + 5) hX hO gp gq ⟨by omega, by omega⟩ g6 (g32_c rfl) (g32_c rfl) ⟨fun _ => s324 hgw hneg _ _ _ ⟨by omega, by omega⟩ g6 (g32_c rfl), fun y => absurd rfl y⟩
  have s210 : gWd S p q = (if 0 ≤ gPl S p q then 19 else 24) → ∀ (a : Nat) (x6 : Int), a = gPa S p → (x6 = if S.getD p 0 = 36 then 1 else 0) → wp l G y_GM_word (gRm (d + 5 + 1)) true (kkV X k) true 210 [.val (gR G o), .val (gI ((L + p : Nat) : Int)), .val (gI ((L + q : Nat) : Int)), .unset, .unset, .val (gI ((L + a : Nat) : Int)), .val (gI x6), .unset, .unset, .unset] [] X M 0 0 := by
    intro hgw a x6 ea e6
    have ha : p ≤ a ∧ a ≤ p + 1 := by rw [ea]; unfold gPa; split <;> omega
    have g6 : g32 x6 := by rw [e6]; split <;> exact g32_c rfl
    have ga : g32 ((L + a : Nat) : Int) := ⟨by omega, by omega⟩
    have zed : (q ≤ gPa S p ∨ ¬ gCap (S.getD (gPa S p) 0)) → wp l G y_GM_word (gRm (d + 5 + 1)) true (kkV X k) true 233 [.val (gR G o), .val (gI ((L + p : Nat) : Int)), .val (gI ((L + q : Nat) : Int)), .unset, .unset, .val (gI ((L + a : Nat) : Int)), .val (gI x6), .unset, .unset, .unset] [] X M 0 0 := fun y => w_GM_word_233 (Q := Q) (d := d + 5) hX hO gp gq ga g6 (s234z hgw (by unfold gPl; rw [if_pos y]; decide) a x6 g6 ha.2)
    refine w_GM_word_210 (Q := Q) (d := d + 5) hX hO gp gq ga g6 ⟨fun z => zed (Or.inl (by omega)), fun z => ⟨⟨by omega, by omega⟩, fun _ => ?_⟩⟩
    obtain ⟨eA, c1, c2⟩ := hI.b (j := a) (by omega)
    rw [Int.toNat_natCast, eA]
    refine c_GM_capital ⟨by omega, by omega⟩ ?_
    by_cases hc : 65 ≤ S.getD a 0 ∧ S.getD a 0 ≤ 90
    · rw [if_pos hc]
      refine ⟨fun y => absurd y (by decide), fun _ => ?_⟩
      have hcp : ¬ (q ≤ gPa S p ∨ ¬ gCap (S.getD (gPa S p) 0)) := fun y => by
        rw [← ea] at y
        rcases y with y | y
        · omega
        · exact y hc
      have eb : gPb S p q = if a + 1 < q ∧ S.getD (a + 1) 0 = 36 then a + 2 else a + 1 := by unfold gPb; rw [← ea]
      have ef : gFx S p = x6 + (if S.getD (a + 1) 0 = 36 then 2 else 0) := by unfold gFx; rw [← ea, ← e6]
      have s9 := s289 hgw
      rw [← ea] at s9
      refine w_GM_word_234 (Q := Q) (d := d + 5) hX hO gp gq ga g6 (g32_c rfl) ⟨fun y => absurd y (by decide), fun _ => ⟨⟨by omega, by omega⟩, fun _ => ⟨fun y => absurd y (by decide), fun _ => ?_⟩⟩⟩
      rw [Int.toNat_natCast, eA, w32_id (x := ((L + a : Nat) : Int) + 1) ⟨by omega, by omega⟩, w32_id (x := ((L + a : Nat) : Int) + 1 + 1) ⟨by omega, by omega⟩, w32_id (x := S.getD a 0 - 65) ⟨by omega, by omega⟩, w32_id (x := x6 + 2) ⟨by split at e6 <;> omega, by split at e6 <;> omega⟩, show ((L + a : Nat) : Int) + 1 = ((L + (a + 1) : Nat) : Int) by omega, show ((L + (a + 1) : Nat) : Int) + 1 = ((L + (a + 2) : Nat) : Int) by omega, Int.toNat_natCast]
      refine ⟨fun z2 => s9 (a + 1) x6 (by rw [ea]; exact hcp) (by rw [eb, if_neg (by omega)]) (by omega) (by omega) g6 (fun y => by omega), fun z2 => ⟨⟨by omega, by omega⟩, fun _ => ?_⟩⟩
      obtain ⟨eC, d1, d2⟩ := hI.b (j := a + 1) (by omega)
      rw [eC]
      refine ⟨fun z3 => s9 (a + 1) x6 (by rw [ea]; exact hcp) (by rw [eb, if_neg (fun y => z3 y.2)]) (by omega) (by omega) g6 (fun _ => by rw [ef, if_neg z3, Int.add_zero]), fun z3 => s9 (a + 2) (x6 + 2) (by rw [ea]; exact hcp) (by rw [eb, if_pos ⟨by omega, z3⟩]) (by omega) (by omega) ⟨by split at e6 <;> omega, by split at e6 <;> omega⟩ (fun _ => by rw [ef, if_pos z3])⟩
    · rw [if_neg hc]
      exact ⟨fun _ => zed (Or.inr (by rw [← ea]; exact hc)), fun y => absurd rfl y⟩
  obtain ⟨eA, c1, c2⟩ := hI.b (j := p) (by omega)
  refine w_GM_word_186 (Q := Q) (d := d + 5) hX hO gp gq ⟨⟨by omega, by omega⟩, fun _ => ?_⟩
  rw [Int.toNat_natCast, eA, w32_id (x := ((L + p : Nat) : Int) + 1) ⟨by omega, by omega⟩, show ((L + p : Nat) : Int) + 1 = ((L + (p + 1) : Nat) : Int) by omega]
  exact ⟨fun z => s210 hgw p 0 (by unfold gPa; rw [if_neg z]) (by rw [if_neg z]), fun z => s210 hgw (p + 1) 1 (by unfold gPa; rw [if_pos z]) (by rw [if_pos z])⟩
end gdY
