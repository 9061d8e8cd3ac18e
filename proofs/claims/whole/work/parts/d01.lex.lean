/-! Tokens of a formula's bytes S; the class's Tokens, one by one. -/
/-- bytes p to q -/
def gSbs (S : List Int) (p q : Nat) : List Int := (S.drop p).take (q - p)
def gCap (b : Int) : Prop := 65 ≤ b ∧ b ≤ 90
def gWb (b : Int) : Prop := gCap b ∨ (97 ≤ b ∧ b ≤ 122) ∨ (48 ≤ b ∧ b ≤ 57) ∨ b = 36
def gDCap (b : Int) : Decidable (gCap b) := inferInstanceAs (Decidable (_ ∧ _))
def gDWb (b : Int) : Decidable (gWb b) := inferInstanceAs (Decidable ((65 ≤ b ∧ b ≤ 90) ∨ (97 ≤ b ∧ b ≤ 122) ∨ (48 ≤ b ∧ b ≤ 57) ∨ b = 36))
/-- where a word that began before ends -/
def gRun (S : List Int) : Nat → Nat → Nat
  | 0, p => p
  | n + 1, p => @ite Nat (p < S.length ∧ gWb (S.getD p 0)) (@instDecidableAnd _ _ _ (gDWb _)) (gRun S n (p + 1)) p
/-- where the next quote is -/
def gQuo (S : List Int) : Nat → Nat → Nat
  | 0, p => p
  | n + 1, p => if p < S.length ∧ S.getD p 0 ≠ 34 then gQuo S n (p + 1) else p
/-- the place that a word names as a ref; -1 if it is none -/
def gPa (S : List Int) (p : Nat) : Nat := if S.getD p 0 = 36 then p + 1 else p
def gPb (S : List Int) (p q : Nat) : Nat := if gPa S p + 1 < q ∧ S.getD (gPa S p + 1) 0 = 36 then gPa S p + 2 else gPa S p + 1
def gPl (S : List Int) (p q : Nat) : Int :=
  @ite Int (q ≤ gPa S p ∨ ¬ gCap (S.getD (gPa S p) 0)) (@instDecidableOr _ _ _ (@instDecidableNot _ (gDCap _))) (-1)
    (if q ≤ gPb S p q ∨ 3 < q - gPb S p q ∨ S.getD (gPb S p q) 0 = 48 then -1 else match gNum (gSbs S (gPb S p q) q) with
      | none => -1
      | some r => if r ≤ 200 then S.getD (gPa S p) 0 - 65 + 26 * (r - 1) else -1)
/-- where a ref has its $ -/
def gFx (S : List Int) (p : Nat) : Int := (if S.getD p 0 = 36 then 1 else 0) + (if S.getD (gPa S p + 1) 0 = 36 then 2 else 0)
def gAll (P : Int → Prop) (S : List Int) (p q : Nat) : Prop := ∀ j, p ≤ j → j < q → P (S.getD j 0)
/-- the kind of a word; 24: none -/
noncomputable def gWd (S : List Int) (p q : Nat) : Int :=
  if 0 ≤ gPl S p q then 19 else if (gNum (gSbs S p q)).isSome = true then 17
  else @ite Int (gAll gCap S p q ∧ 2 ≤ q - p ∧ q - p ≤ 12) (Classical.propDecidable _) (if gSbs S p q = [84, 82, 85, 69] then 21 else if gSbs S p q = [70, 65, 76, 83, 69] then 22 else 20) 24
def gSgk (b : Int) : Int := if b = 61 then 0 else if b = 60 then 2 else if b = 62 then 4 else if b = 38 then 6 else if b = 43 then 7 else if b = 45 then 8 else if b = 42 then 9 else if b = 47 then 10 else if b = 94 then 11 else if b = 37 then 12 else if b = 40 then 13 else if b = 41 then 14 else if b = 44 then 15 else if b = 58 then 16 else 24
def gSn (S : List Int) (p : Nat) : Int := if p + 1 < S.length then S.getD (p + 1) 0 else 0
/-- the token at p: its kind (24: none), and where it ends -/
noncomputable def gTn1 (S : List Int) (p : Nat) : Int × Nat :=
  if S.getD p 0 = 34 then (if gQuo S (S.length - p) (p + 1) < S.length ∧ gQuo S (S.length - p) (p + 1) - p - 1 ≤ 64 then 18 else 24, gQuo S (S.length - p) (p + 1) + 1)
  else @ite (Int × Nat) (gWb (S.getD p 0)) (gDWb _) (gWd S p (gRun S (S.length - p) p), gRun S (S.length - p) p)
    (if gSgk (S.getD p 0) = 2 ∧ gSn S p = 62 then (1, p + 2) else if gSgk (S.getD p 0) = 2 ∧ gSn S p = 61 then (3, p + 2) else if gSgk (S.getD p 0) = 4 ∧ gSn S p = 61 then (5, p + 2) else (gSgk (S.getD p 0), p + 1))
/-- tokens from p on: kind, from, to -/
noncomputable def gLx (S : List Int) : Nat → Nat → Option (List (Int × Nat × Nat))
  | 0, _ => some []
  | n + 1, p => if S.length ≤ p then some [] else if S.getD p 0 = 32 then gLx S n (p + 1) else if (gTn1 S p).1 = 24 then none else (gLx S n (gTn1 S p).2).map (fun ts => ((gTn1 S p).1, p, (gTn1 S p).2) :: ts)
theorem gRun_le (S : List Int) : ∀ n p, p ≤ gRun S n p ∧ (p ≤ S.length → gRun S n p ≤ S.length) := by
  intro n
  induction n with
  | zero => intro p; exact ⟨Nat.le_refl _, fun h => h⟩
  | succ n ih =>
    intro p
    unfold gRun
    split
    · rename_i h
      have := ih (p + 1)
      exact ⟨by omega, fun _ => this.2 (by omega)⟩
    · exact ⟨Nat.le_refl _, fun h => h⟩
theorem gRun_all (S : List Int) : ∀ n p, gAll gWb S p (gRun S n p) := by
  intro n
  induction n with
  | zero => intro p j h1 h2; exact absurd h2 (by show ¬ j < p; omega)
  | succ n ih =>
    intro p j h1 h2
    unfold gRun at h2
    split at h2
    · rename_i h
      by_cases e : j = p
      · rw [e]; exact h.2
      · exact ih (p + 1) j (by omega) h2
    · omega
theorem gQuo_le (S : List Int) : ∀ n p, p ≤ gQuo S n p ∧ (p ≤ S.length → gQuo S n p ≤ S.length) := by
  intro n
  induction n with
  | zero => intro p; exact ⟨Nat.le_refl _, fun h => h⟩
  | succ n ih =>
    intro p
    unfold gQuo
    split
    · rename_i h
      have := ih (p + 1)
      exact ⟨by omega, fun _ => this.2 (by omega)⟩
    · exact ⟨Nat.le_refl _, fun h => h⟩
theorem gSbs_len {S : List Int} {p q : Nat} (h : q ≤ S.length) : (gSbs S p q).length = q - p := by
  unfold gSbs
  rw [List.length_take, List.length_drop]
  omega
theorem gSbs_get {S : List Int} {p q j : Nat} (h : q ≤ S.length) (hj : j < q - p) : (gSbs S p q).getD j 0 = S.getD (p + j) 0 := by
  unfold gSbs
  rw [List.getD_eq_getElem?_getD, List.getElem?_take_of_lt hj, List.getElem?_drop, ← List.getD_eq_getElem?_getD]
theorem gBy_Sub {M : gM} {c a p q : Nat} {S : List Int} (hB : ∀ j, j < S.length → M c (a + j) = S.getD j 0) (hq : q ≤ S.length) : gBy M c (a + p) (q - p) = gSbs S p q := by
  have e : (gSbs S p q).length = q - p := gSbs_len hq
  rw [← e]
  refine gBy_of _ _ (fun j hj => ?_)
  rw [e] at hj
  rw [gSbs_get hq hj, Nat.add_assoc, hB (p + j) (by omega)]
section gdA
variable {l : Launch} {G : gG} {d : Nat} {X : gX} {M : gM} {c : Nat} {Q : gQ} {S : List Int}
theorem c_Tk_isCapital {x : Int} {k : Int → gM → Prop} (hx : g32 x) (h1 : gCap x → k 1 M) (h0 : ¬ gCap x → k 0 M) : cZ l G y_Tk_isCapital (gRm d) false [gI x] X M k := by
  unfold gCap at h1 h0
  exact e_Tk_isCapital (w_Tk_isCapital_0 hx ⟨fun z => h0 (by omega), fun z => ⟨fun z2 => h0 (by omega), fun z2 => h1 (by omega)⟩⟩)
theorem c_Tk_isWordByte {x : Int} {k : Int → gM → Prop} (hx : g32 x) (h1 : gWb x → k 1 M) (h0 : ¬ gWb x → k 0 M) : cZ l G y_Tk_isWordByte (gRm (d + 1)) false [gI x] X M k := by
  unfold gWb at h1 h0
  refine e_Tk_isWordByte (w_Tk_isWordByte_0 hx (c_Tk_isCapital hx (fun z => ⟨fun _ => h1 (Or.inl z), fun y => absurd y (by decide)⟩) (fun z => ⟨fun y => absurd rfl y, fun _ => ?_⟩)))
  have z2 := z
  unfold gCap at z2 h1 h0
  (repeat' with_reducible first | (refine And.intro ?_ ?_) | intro _)
  all_goals first | exact h1 (by omega) | exact h0 (by omega)
theorem c_Tk_signOf {x : Int} {k : Int → gM → Prop} (hx : g32 x) (h : k (gSgk x) M) : cI l G y_Tk_signOf (gRm d) false [gI x] X M k := by
  refine e_Tk_signOf (w_Tk_signOf_0 hx ?_)
  have fin : ∀ z : Int, gSgk x = z → k z M := fun z e => by rw [← e]; exact h
  (repeat' with_reducible first | (refine And.intro ?_ ?_) | intro _)
  all_goals first | (rename_i e; subst e; exact fin _ rfl) | (refine fin _ ?_; unfold gSgk; repeat rw [if_neg (by omega)])
/-- the formula's bytes lie in INPUT -/
def gInp (M : gM) (c : Nat) (S : List Int) : Prop := (∀ j, j < S.length → M (c + 1) j = S.getD j 0) ∧ S.length ≤ 240 ∧ ∀ b ∈ S, 32 ≤ b ∧ b ≤ 126
theorem gInp.b {j : Nat} (h : gInp M c S) (hj : j < S.length) : M (c + 1) j = S.getD j 0 ∧ 32 ≤ S.getD j 0 ∧ S.getD j 0 ≤ 126 := by
  refine ⟨h.1 j hj, ?_⟩
  refine h.2.2 _ ?_
  rw [List.getD_eq_getElem?_getD, List.getElem?_eq_getElem hj]
  exact List.getElem_mem _
theorem gInp.sub {p q : Nat} (h : gInp M c S) (hq : q ≤ S.length) : gBy M (c + 1) p (q - p) = gSbs S p q := by
  have := gBy_Sub (M := M) (c := c + 1) (a := 0) (p := p) (q := q) (S := S) (fun j hj => by rw [Nat.zero_add]; exact h.1 j hj) hq
  rw [Nat.zero_add] at this
  exact this
theorem gl_inp (hX : glX X c) : 1 ≤ c + 1 ∧ c + 1 ≤ X.1 ∧ X.2.1 (c + 1) = (2, 240) ∧ 240 ≤ 2147483647 := ⟨gl_1 hX 1, gl_2 hX (by decide), gl_s hX 1 rfl, by decide⟩
theorem c_Tk_num {p q : Nat} {k : Int → gM → Prop} (hX : glX X c) (hI : gInp M c S) (hpq : p ≤ q ∧ q ≤ S.length) (h0 : gNum (gSbs S p q) = none → k 0 M) (h1 : ∀ z, gNum (gSbs S p q) = some z → k 1 M) : cZ l G y_Vl_isNumber (gRm d) false [gR G (c + 1), gI (p : Int), gI (q : Int)] X M k := by
  have := hI.2.1
  refine c_Vl_isNumber (gl_inp hX) ⟨by omega, by omega⟩ ⟨by omega, by omega⟩ ?_ ?_
  · rw [Int.toNat_natCast, show ((q : Int) - (p : Int)).toNat = q - p by omega, hI.sub hpq.2]; exact h0
  · rw [Int.toNat_natCast, show ((q : Int) - (p : Int)).toNat = q - p by omega, hI.sub hpq.2]; exact h1
theorem c_Tk_numIn {p q : Nat} {z : Int} {k : Int → gM → Prop} (hX : glX X c) (hI : gInp M c S) (hpq : p ≤ q ∧ q ≤ S.length) (hz : gNum (gSbs S p q) = some z) (h : k z M) : cL l G y_Vl_numberIn (gRm d) false [gR G (c + 1), gI (p : Int), gI (q : Int)] X M k := by
  have := hI.2.1
  refine c_Vl_numberIn (gl_inp hX) ⟨by omega, by omega⟩ ⟨by omega, by omega⟩ ?_ h
  rw [Int.toNat_natCast, show ((q : Int) - (p : Int)).toNat = q - p by omega, hI.sub hpq.2]
  exact hz
theorem gNum_pos {b : List Int} {z : Int} (h : gNum b = some z) (h0 : b.getD 0 0 ≠ 45) : 0 ≤ z := by
  cases b with
  | nil => cases h
  | cons x r =>
    have hx : x ≠ 45 := h0
    unfold gNum at h
    dsimp only at h
    rw [if_neg hx] at h
    cases hq : gNumA (x :: r) 0 with
    | none => rw [hq] at h; cases h
    | some v =>
      rw [hq] at h
      dsimp only at h
      have := (gNumA_le _ _ _ hq ⟨by decide, ⟨by decide, by decide⟩⟩).1
      split at h
      · cases h
      · cases h; omega
theorem c_Tk_placeIn {p q : Nat} {k : Int → gM → Prop} (hX : glX X c) (hI : gInp M c S) (hpq : p < q ∧ q ≤ S.length) (hW : gAll gWb S p q) (h : k (gPl S p q) M) : cI l G y_Tk_placeIn (gRm (d + 1)) false [gR G (c + 16), gI (p : Int), gI (q : Int)] X M k := by
  have hl := hI.2.1
  have gq : g32 (q : Int) := ⟨by omega, by omega⟩
  have gp : g32 (p : Int) := ⟨by omega, by omega⟩
  -- behind the first letter
  have s68 : ∀ (b : Nat) (x4 : Int), ¬ (q ≤ gPa S p ∨ ¬ gCap (S.getD (gPa S p) 0)) → b = gPb S p q → p ≤ b → x4 = S.getD (gPa S p) 0 - 65 → wp l G y_Tk_placeIn (gRm (d + 1)) false (kkI X k) false 68 [.val (gR G (c + 16)), .unset, .val (gI (q : Int)), .val (gI (b : Int)), .val (gI x4), .unset, .unset] [] X M 0 0 := by
    intro b x4 hn eb hb e4
    have hc : gCap (S.getD (gPa S p) 0) := Decidable.byContradiction (dec := gDCap _) fun z => hn (Or.inr z)
    unfold gCap at hc
    have hb2 : b ≤ p + 3 := by
      rw [eb]
      unfold gPb gPa
      split <;> split <;> omega
    have g4 : g32 x4 := ⟨by omega, by omega⟩
    unfold gPl at h
    rw [if_neg hn, ← eb] at h
    refine w_Tk_placeIn_68 hX gq ⟨by omega, by omega⟩ g4 ?_
    rw [w32_id (x := (q : Int) - (b : Int)) ⟨by omega, by omega⟩, Int.toNat_natCast]
    refine ⟨fun z => ?_, fun z => ⟨fun z2 => ?_, fun z2 => ⟨⟨by omega, by omega⟩, fun _ => ?_⟩⟩⟩
    · rw [if_pos (by omega)] at h; exact h
    · rw [if_pos (by omega)] at h; exact h
    · obtain ⟨eB, -⟩ := hI.b (j := b) (by omega)
      rw [eB]
      refine ⟨fun z3 => ?_, fun z3 => c_Tk_num hX hI ⟨by omega, hpq.2⟩ (fun e0 => ⟨fun y => absurd rfl y, fun _ => ?_⟩) (fun r hr => ⟨fun _ => c_Tk_numIn hX hI ⟨by omega, hpq.2⟩ hr ?_, fun y => absurd y (by decide)⟩)⟩
      · rw [if_pos (Or.inr (Or.inr z3))] at h; exact h
      · rw [if_neg (by omega), e0] at h; exact h
      · rw [if_neg (by omega), hr] at h
        dsimp only at h
        have r0 : 0 ≤ r := by
          refine gNum_pos hr ?_
          rw [gSbs_get hpq.2 (by omega), Nat.add_zero]
          have := hW b hb (by omega)
          unfold gWb gCap at this
          omega
        refine ⟨fun z4 => ?_, fun z4 => ?_⟩
        · rw [if_pos z4] at h
          have r1 : 1 ≤ r := by
            refine Decidable.byContradiction fun q0 => ?_
            have e0 : r = 0 := by omega
            -- a number that begins with another digit isn't 0
            have hb1 := hW b hb (by omega)
            have g0 := gSbs_get (S := S) (p := b) (q := q) (j := 0) hpq.2 (by omega)
            rw [Nat.add_zero] at g0
            have pos : ∀ (x : Int) (t : List Int) (v : Int), gNumA t v = some x → v ≤ 0 → x ≤ v := by
              intro x t
              induction t with
              | nil => intro v hv _; cases hv; exact Int.le_refl _
              | cons y t ih =>
                intro v hv hv0
                unfold gNumA at hv
                split at hv
                · split at hv
                  · cases hv
                  · have := ih _ hv (by omega)
                    omega
                · cases hv
            cases hs : gSbs S b q with
            | nil => rw [hs] at hr; cases hr
            | cons y t =>
              rw [hs] at hr g0
              have g0 : y = S.getD b 0 := g0
              unfold gNum at hr
              dsimp only at hr
              rw [if_neg (by unfold gWb gCap at hb1; omega)] at hr
              cases hq : gNumA (y :: t) 0 with
              | none => rw [hq] at hr; cases hr
              | some v =>
                rw [hq] at hr
                dsimp only at hr
                split at hr
                · cases hr
                · cases hr
                  unfold gNumA at hq
                  split at hq
                  · split at hq
                    · cases hq
                    · have := pos _ _ _ hq (by omega)
                      omega
                  · cases hq
          refine c_GL_place ⟨by omega, by omega, by omega, by omega⟩ ?_
          rw [e4]
          exact h
        · rw [if_neg z4] at h; exact h
  have s16 : ∀ a : Nat, a = gPa S p → wp l G y_Tk_placeIn (gRm (d + 1)) false (kkI X k) false 16 [.val (gR G (c + 16)), .unset, .val (gI (q : Int)), .val (gI (a : Int)), .unset, .unset, .unset] [] X M 0 0 := by
    intro a ea
    have ha : p ≤ a ∧ a ≤ p + 1 := by rw [ea]; unfold gPa; split <;> omega
    refine w_Tk_placeIn_16 hX gq ⟨by omega, by omega⟩ ⟨fun z => ?_, fun z => ⟨⟨by omega, by omega⟩, fun _ => ?_⟩⟩
    · unfold gPl at h
      rw [if_pos (Or.inl (by omega))] at h
      exact h
    · obtain ⟨eB, b1, b2⟩ := hI.b (j := a) (by omega)
      rw [Int.toNat_natCast, eB, w32_id (x := (a : Int) + 1) ⟨by omega, by omega⟩]
      refine c_Tk_isCapital ⟨by omega, by omega⟩ (fun hc => ⟨fun _ => ⟨⟨by omega, by omega⟩, fun _ => ?_⟩, fun y => absurd y (by decide)⟩) (fun hc => ⟨fun y => absurd rfl y, fun _ => ?_⟩)
      · rw [eB, w32_id (x := S.getD a 0 - 65) ⟨by omega, by omega⟩]
        have hn : ¬ (q ≤ gPa S p ∨ ¬ gCap (S.getD (gPa S p) 0)) := fun y => by
          rw [← ea] at y
          rcases y with y | y
          · omega
          · exact y hc
        have eb : gPb S p q = if a + 1 < q ∧ S.getD (a + 1) 0 = 36 then a + 2 else a + 1 := by unfold gPb; rw [← ea]
        refine ⟨fun z2 => ?_, fun z2 => ⟨⟨by omega, by omega⟩, fun _ => ?_⟩⟩
        · have := s68 (a + 1) (S.getD a 0 - 65) hn (by rw [eb, if_neg (by omega)]) (by omega) (by rw [← ea])
          rw [show ((a + 1 : Nat) : Int) = (a : Int) + 1 by omega] at this
          exact this
        · obtain ⟨eB2, c1, c2⟩ := hI.b (j := a + 1) (by omega)
          rw [show ((a : Int) + 1).toNat = a + 1 by omega, eB2]
          refine ⟨fun z3 => ?_, fun z3 => ?_⟩
          · have := s68 (a + 1) (S.getD a 0 - 65) hn (by rw [eb, if_neg (fun y => z3 y.2)]) (by omega) (by rw [← ea])
            rw [show ((a + 1 : Nat) : Int) = (a : Int) + 1 by omega] at this
            exact this
          · have := s68 (a + 2) (S.getD a 0 - 65) hn (by rw [eb, if_pos ⟨by omega, z3⟩]) (by omega) (by rw [← ea])
            rw [w32_id (x := (a : Int) + 1 + 1) ⟨by omega, by omega⟩, show (a : Int) + 1 + 1 = ((a + 2 : Nat) : Int) by omega]
            exact this
      · unfold gPl at h
        rw [if_pos (Or.inr (by rw [← ea]; exact hc))] at h
        exact h
  refine e_Tk_placeIn (w_Tk_placeIn_0 hX gp gq ⟨⟨by omega, by omega⟩, fun _ => ?_⟩)
  obtain ⟨eB, b1, b2⟩ := hI.b (j := p) (by omega)
  rw [Int.toNat_natCast, eB, w32_id (x := (p : Int) + 1) ⟨by omega, by omega⟩]
  refine ⟨fun z => s16 p (by unfold gPa; rw [if_neg z]), fun z => ?_⟩
  have := s16 (p + 1) (by unfold gPa; rw [if_pos z])
  rw [show ((p + 1 : Nat) : Int) = (p : Int) + 1 by omega] at this
  exact this
theorem c_Tk_isName {p q : Nat} {k : Int → gM → Prop} (hX : glX X c) (hI : gInp M c S) (hpq : p ≤ q ∧ q ≤ S.length) (h1 : gAll gCap S p q ∧ 2 ≤ q - p ∧ q - p ≤ 12 → k 1 M) (h0 : ¬ (gAll gCap S p q ∧ 2 ≤ q - p ∧ q - p ≤ 12) → k 0 M) : cZ l G y_Tk_isName (gRm (d + 1)) false [gR G (c + 16), gI (p : Int), gI (q : Int)] X M k := by
  have hl := hI.2.1
  have gq : g32 (q : Int) := ⟨by omega, by omega⟩
  have gp : g32 (p : Int) := ⟨by omega, by omega⟩
  have key : ∀ (m j : Nat), j + m = q → p ≤ j → gAll gCap S p j → wp l G y_Tk_isName (gRm (d + 1)) false (kkZ X k) false 2 [.val (gR G (c + 16)), .val (gI (p : Int)), .val (gI (q : Int)), .val (gI (j : Int))] [] X M 0 0 := by
    intro m
    induction m with
    | zero =>
      intro j hj hj2 ha
      have e : j = q := by omega
      subst e
      refine w_Tk_isName_2 hX gp gq gq ?_
      rw [w32_id (x := (j : Int) - (p : Int)) ⟨by omega, by omega⟩]
      exact ⟨fun _ => ⟨fun z => h0 (fun y => by omega), fun z => ⟨fun z2 => h0 (fun y => by omega), fun z2 => h1 ⟨ha, by omega, by omega⟩⟩⟩, fun z => absurd (Int.le_refl _) z⟩
    | succ m ih =>
      intro j hj hj2 ha
      obtain ⟨eB, b1, b2⟩ := hI.b (j := j) (by omega)
      refine w_Tk_isName_2 hX gp gq ⟨by omega, by omega⟩ ⟨fun z => absurd z (by omega), fun _ => ⟨⟨by omega, by omega⟩, fun _ => ?_⟩⟩
      rw [Int.toNat_natCast, eB, w32_id (x := (j : Int) + 1) ⟨by omega, by omega⟩, show (j : Int) + 1 = ((j + 1 : Nat) : Int) by omega]
      refine c_Tk_isCapital ⟨by omega, by omega⟩ (fun hc => ⟨fun _ => ih (j + 1) (by omega) (by omega) (fun i h1 h2 => ?_), fun y => absurd y (by decide)⟩) (fun hc => ⟨fun y => absurd rfl y, fun _ => h0 (fun y => hc (y.1 j hj2 (by omega)))⟩)
      by_cases e : i = j
      · rw [e]; exact hc
      · exact ha i h1 (by omega)
  exact e_Tk_isName (w_Tk_isName_0 hX gp gq (key (q - p) p (by omega) (Nat.le_refl _) (fun i h1 h2 => by omega)))
theorem c_Tk_spells {p q tt : Nat} {k : Int → gM → Prop} (hX : glX X c) (hO : gOld G Q) (hI : gInp M c S) (hpq : p ≤ q ∧ q ≤ S.length) (htt : tt < 66) (h1 : gSbs S p q = gSby.getD tt [] → k 1 M) (h0 : gSbs S p q ≠ gSby.getD tt [] → k 0 M) : cZ l G y_Tk_spells (gRm (d + 5)) false [gR G (c + 16), gI (p : Int), gI (q : Int), .ref (Q.2.1 tt)] X M k := by
  have hl := hI.2.1
  have gq : g32 (q : Int) := ⟨by omega, by omega⟩
  have gp : g32 (p : Int) := ⟨by omega, by omega⟩
  have sl := gSl_ok htt
  have no : ∀ x5 : Int, g32 x5 → gSbs S p q ≠ gSby.getD tt [] → wp l G y_Tk_spells (gRm (d + 5)) false (kkZ X k) false 20 [.val (gR G (c + 16)), .val (gI (p : Int)), .unset, .val (.ref (Q.2.1 tt)), .val (gI 0), .val (gI x5)] [] X M 0 0 := fun x5 g5 ne => w_Tk_spells_20 hX hO gp (g32_c (x := 0) rfl) g5 htt ⟨fun _ => ⟨by decide, h0 ne⟩, fun z => absurd rfl z⟩
  have key : q - p = gSl tt → ∀ (m j : Nat), j + m = gSl tt → (∀ i, i < j → S.getD (p + i) 0 = gSc tt i) → wp l G y_Tk_spells (gRm (d + 5)) false (kkZ X k) false 20 [.val (gR G (c + 16)), .val (gI (p : Int)), .unset, .val (.ref (Q.2.1 tt)), .val (gI 1), .val (gI (j : Int))] [] X M 0 0 := by
    intro el m
    induction m with
    | zero =>
      intro j hj ha
      refine w_Tk_spells_20 hX hO gp (g32_c (x := 1) rfl) ⟨by omega, by omega⟩ htt ⟨fun z => absurd z (by decide), fun _ => ⟨fun _ => ⟨by decide, h1 ?_⟩, fun z => absurd (by omega) z⟩⟩
      apply List.ext_getElem?
      intro i
      by_cases hi : i < q - p
      · have e1 := gSbs_get (S := S) (p := p) (q := q) (j := i) hpq.2 hi
        have e2 := ha i (by omega)
        have e3 : gSc tt i = (gSby.getD tt []).getD i 0 := rfl
        have l1 : i < (gSbs S p q).length := by rw [gSbs_len hpq.2]; exact hi
        have l2 : i < (gSby.getD tt []).length := by show i < gSl tt; omega
        rw [List.getD_eq_getElem?_getD, List.getElem?_eq_getElem l1] at e1
        rw [e3, List.getD_eq_getElem?_getD (l := gSby.getD tt []), List.getElem?_eq_getElem l2] at e2
        rw [List.getElem?_eq_getElem l1, List.getElem?_eq_getElem l2]
        exact congrArg some (e1.trans e2)
      · rw [List.getElem?_eq_none (by rw [gSbs_len hpq.2]; omega), List.getElem?_eq_none (by show gSl tt ≤ i; omega)]
    | succ m ih =>
      intro j hj ha
      obtain ⟨eB, b1, b2⟩ := hI.b (j := p + j) (by omega)
      refine w_Tk_spells_20 hX hO gp (g32_c (x := 1) rfl) ⟨by omega, by omega⟩ htt ⟨fun z => absurd z (by decide), fun _ => ⟨fun z => absurd z (by omega), fun _ => ⟨⟨by omega, by omega⟩, ?_⟩⟩⟩
      rw [show ((p : Int) + (j : Int)).toNat = p + j by omega, eB, Int.toNat_natCast, w32_id (x := (j : Int) + 1) ⟨by omega, by omega⟩]
      refine fun _ => ⟨⟨by omega, by omega⟩, fun z => no _ ⟨by omega, by omega⟩ (fun e => z ?_), fun z => ?_⟩
      · rw [← gSbs_get (p := p) (q := q) hpq.2 (by omega), e]
        rfl
      · have := ih (j + 1) (by omega) (fun i hi => by
          by_cases e : i = j
          · rw [e]; exact z
          · exact ha i (by omega))
        rw [show ((j + 1 : Nat) : Int) = (j : Int) + 1 by omega] at this
        exact this
  refine e_Tk_spells (Q := Q) (w_Tk_spells_0 hX hO gp gq htt ?_)
  rw [w32_id (x := (q : Int) - (p : Int)) ⟨by omega, by omega⟩]
  refine ⟨fun z => no 0 (g32_c (x := 0) rfl) (fun e => z ?_), fun z => key (by omega) (gSl tt) 0 (by omega) (fun i hi => absurd hi (by omega))⟩
  have := congrArg List.length e
  rw [gSbs_len hpq.2] at this
  have : q - p = gSl tt := this
  omega
theorem c_Tk_wordKind {p q : Nat} {k : Int → gM → Prop} (hX : glX X c) (hO : gOld G Q) (hI : gInp M c S) (hpq : p ≤ q ∧ q ≤ S.length) (hp : gPl S p q < 0) (h : k (gWd S p q) M) : cI l G y_Tk_wordKind (gRm (d + 6)) false [gR G (c + 16), gI (p : Int), gI (q : Int)] X M k := by
  have hl := hI.2.1
  unfold gWd at h
  rw [if_neg (by omega)] at h
  refine e_Tk_wordKind (Q := Q) (d := d + 5) (w_Tk_wordKind_0 (d := d + 5) hX hO ⟨by omega, by omega⟩ ⟨by omega, by omega⟩ (c_Tk_num hX hI hpq (fun e0 => ⟨fun _ => ?_, fun z => absurd rfl z⟩) (fun z hz => ⟨fun y => absurd y (by decide), fun _ => ?_⟩)))
  · rw [e0, if_neg (by decide)] at h
    refine c_Tk_isName (d := d + 4) hX hI hpq (fun hn => ⟨fun _ => ?_, fun y => absurd y (by decide)⟩) (fun hn => ⟨fun y => absurd rfl y, fun _ => ?_⟩)
    · rw [if_pos hn] at h
      have k1 : gSby.getD 0 [] = [84, 82, 85, 69] := rfl
      have k2 : gSby.getD 1 [] = [70, 65, 76, 83, 69] := rfl
      rw [← k1, ← k2] at h
      refine c_Tk_spells hX hO hI hpq (by decide) (fun e => ⟨fun y => absurd y (by decide), fun _ => ?_⟩) (fun e => ⟨fun _ => c_Tk_spells hX hO hI hpq (by decide) (fun e2 => ⟨fun y => absurd y (by decide), fun _ => ?_⟩) (fun e2 => ⟨fun _ => ?_, fun y => absurd rfl y⟩), fun y => absurd rfl y⟩)
      · rw [if_pos e] at h; exact h
      · rw [if_neg e, if_pos e2] at h; exact h
      · rw [if_neg e, if_neg e2] at h; exact h
    · rw [if_neg hn] at h; exact h
  · rw [hz] at h; exact h
end gdA
