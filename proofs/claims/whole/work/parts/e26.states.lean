/-! The class's State: entries found, added, copied. -/
/-- the state at r has the sheet's entries before the place b -/
def gcPf (M : gM) (c r : Nat) (F : gSht) (b : Nat) : Prop := M r 0 = (gCn (gnE F) b : Int) ∧ (∀ p, p ≤ b → M (r + 3) (gCn (gnE F) p) = (gSp F p : Int)) ∧ ∀ p, p < b → ∀ S tg, F p = some (S, tg) → M (r + 1) (gCn (gnE F) p) = (p : Int) ∧ (∃ id : Nat, M (r + 2) (gCn (gnE F) p) = (id : Int) ∧ gcCn M c id S) ∧ ∀ i, i < tg.length → M (r + 4) (gSp F p + i) = gTt tg i
def g50 (F : gSht) : Prop := ∀ p S tg, F p = some (S, tg) → tg.length ≤ 50
theorem gSp_50 {F : gSht} (h : g50 F) : ∀ p, gSp F p ≤ 50 * gCn (gnE F) p := by
  intro p
  induction p with
  | zero => exact Nat.le_refl _
  | succ p ih =>
    cases e : F p with
    | none =>
      rw [gCn_n (Q := gnE F) (fun y => y e)]
      show gSp F p + _ ≤ _
      rw [e]
      exact ih
    | some x =>
      obtain ⟨S, tg⟩ := x
      rw [gCn_y (Q := gnE F) (gnE_s e), gSp_s e]
      have := h p S tg e
      omega
theorem gSp_n {F : gSht} {p : Nat} (h : F p = none) : gSp F (p + 1) = gSp F p := by
  show gSp F p + _ = _
  rw [h]
  rfl
section gfH
variable {l : Launch} {G : gG} {d : Nat} {X : gX} {M : gM} {c r r0 : Nat} {F F2 : gSht}
theorem gcSt.pf (h : gcSt M c r F) : gcPf M c r F 5200 := ⟨h.1, h.2.2.2.1, h.2.2.2.2⟩
theorem gcPf.st (h : gcPf M c r F 5200) (h1 : gCn (gnE F) 5200 ≤ 400) (h2 : g50 F) : gcSt M c r F := ⟨h.1, h1, by have := gSp_50 h2 5200; omega, h.2.1, h.2.2⟩
theorem c_St_entryFrom {w : Nat} {k : Int → gM → Prop} (hr : gsX X r) (h : gcSt M c r F) (hw : w ≤ 5200) (hk : k (gCn (gnE F) w : Int) M) : cI l G y_St_entryFrom (gRm d) false [gR G r, gI (w : Int)] X M k := by
  have gw := gCn_le (Q := gnE F) hw
  have hn := h.2.1
  have pl : ∀ m, m < gCn (gnE F) 5200 → ∃ p : Nat, p < 5200 ∧ M (r + 1) m = (p : Int) ∧ (p < w ↔ m < gCn (gnE F) w) := fun m hm => by
    obtain ⟨p, p1, p2, p3⟩ := gCn_ex (Q := gnE F) 5200 m hm
    cases e : F p with
    | none => exact absurd e p2
    | some x =>
      refine ⟨p, p1, by rw [← p3]; exact (h.2.2.2.2 p p1 x.1 x.2 e).1, fun y => by rw [← p3]; exact gCn_lt y p2, fun y => Decidable.byContradiction fun z => ?_⟩
      have := gCn_le (Q := gnE F) (show w ≤ p by omega)
      omega
  have key : ∀ (left lo hi : Nat), lo ≤ gCn (gnE F) w → gCn (gnE F) w ≤ hi → hi ≤ gCn (gnE F) 5200 → hi - lo ≤ left → left ≤ 400 → wp l G y_St_entryFrom (gRm d) false (kkI X k) false 12 [.val (gR G r), .val (gI (w : Int)), .val (gI (lo : Int)), .val (gI (hi : Int)), .val (gI (left : Int)), .unset] [] X M 0 0 := by
    intro left
    induction left with
    | zero =>
      intro lo hi h1 h2 h3 h4 h5
      have e : lo = gCn (gnE F) w := by omega
      rw [e]
      exact w_St_entryFrom_12 hr ⟨by omega, by omega⟩ ⟨by omega, by omega⟩ ⟨by omega, by omega⟩ (g32_c rfl) ⟨fun _ => hk, fun y => absurd (by decide) y⟩
    | succ left ih =>
      intro lo hi h1 h2 h3 h4 h5
      refine w_St_entryFrom_12 hr ⟨by omega, by omega⟩ ⟨by omega, by omega⟩ ⟨by omega, by omega⟩ ⟨by omega, by omega⟩ ⟨fun y => absurd y (by omega), fun _ => ⟨fun y => ?_, fun y => ?_⟩⟩
      · have e : lo = gCn (gnE F) w := by omega
        rw [e]; exact hk
      · obtain ⟨p, p1, p2, p3⟩ := pl ((lo + hi) / 2) (by omega)
        have em : (w32 ((lo : Int) + (hi : Int))).tdiv 2 = (((lo + hi) / 2 : Nat) : Int) := by
          rw [w32_id ⟨by omega, by omega⟩, Int.tdiv_eq_ediv_of_nonneg (by omega)]
          omega
        rw [em, Int.toNat_natCast, p2, w32_id (x := (((lo + hi) / 2 : Nat) : Int)) ⟨by omega, by omega⟩, w32_id (x := (((lo + hi) / 2 : Nat) : Int) + 1) ⟨by omega, by omega⟩, w32_id (x := ((left + 1 : Nat) : Int) + (-1)) ⟨by omega, by omega⟩, show ((left + 1 : Nat) : Int) + (-1) = (left : Int) by omega, show (((lo + hi) / 2 : Nat) : Int) + 1 = (((lo + hi) / 2 + 1 : Nat) : Int) by omega]
        refine ⟨⟨by omega, by omega⟩, fun _ => ⟨fun z => ih lo ((lo + hi) / 2) h1 ?_ (by omega) (by omega) (by omega), fun z => ih ((lo + hi) / 2 + 1) hi ?_ h2 h3 (by omega) (by omega)⟩⟩
        · exact Decidable.byContradiction fun q => by have := p3.mpr (by omega); omega
        · have := p3.mp (by omega); omega
  refine e_St_entryFrom (w_St_entryFrom_0 hr ⟨by omega, by omega⟩ fun _ => ?_)
  rw [h.1]
  exact key 400 0 (gCn (gnE F) 5200) (by omega) gw (Nat.le_refl _) (by omega) (Nat.le_refl _)
/-- an entry begun, with j targets so far -/
def gcPe (M : gM) (c r : Nat) (F : gSht) (p j : Nat) : Prop := M r 0 = ((gCn (gnE F) p + 1 : Nat) : Int) ∧ M (r + 3) (gCn (gnE F) p + 1) = ((gSp F p + j : Nat) : Int) ∧ (∀ q, q ≤ p → M (r + 3) (gCn (gnE F) q) = (gSp F q : Int)) ∧ (∀ q, q < p → ∀ S tg, F q = some (S, tg) → M (r + 1) (gCn (gnE F) q) = (q : Int) ∧ (∃ id : Nat, M (r + 2) (gCn (gnE F) q) = (id : Int) ∧ gcCn M c id S) ∧ ∀ i, i < tg.length → M (r + 4) (gSp F q + i) = gTt tg i) ∧ M (r + 1) (gCn (gnE F) p) = (p : Int)
/-- what a state's methods write -/
def gStR (r : Nat) : Nat → Nat → Prop := fun a j => r ≤ a ∧ a ≤ r + 4 ∧ ¬ (a = r + 3 ∧ j = 0)
theorem gcCn.st {M2 : gM} {ci : Nat} {S : List Int} (h : gcCn M c ci S) (h0 : S ≠ []) (hb : ¬ gBadS S) (o : gOff (gStR r) M M2) (hr : c + 13 < r) : gcCn M2 c ci S := h.kp h0 hb (fun a j h1 h2 => o _ _ (by unfold gStR; omega))
theorem c_St_addEntry {p id : Nat} {k : gM → Prop} (hr : gsX X r) (hcr : c + 13 < r) (hF : gSok F) (h : gcPf M c r F p) (hn : gCn (gnE F) p < 400) (hp : p < 5200) (hid : id < 100000) (hk : ∀ M2, gOff (gStR r) M M2 → gcPe M2 c r F p 0 → M2 (r + 2) (gCn (gnE F) p) = (id : Int) → k M2) : cV l G y_St_addEntry (gRm d) true [gR G r, gI (p : Int), gI (id : Int)] X M k := by
  obtain ⟨h1, h2, h3⟩ := h
  refine e_St_addEntry (w_St_addEntry_0 hr ⟨by omega, by omega⟩ ⟨by omega, by omega⟩ ?_)
  have e1 : w32 ((gCn (gnE F) p : Int) + 1) = ((gCn (gnE F) p + 1 : Nat) : Int) := (w32_id ⟨by omega, by omega⟩).trans (by omega)
  have e2 : (((gCn (gnE F) p + 1 : Nat) : Int) - 1).toNat = gCn (gnE F) p := by omega
  simp (disch := decide) only [gUp_o, gUp_oo, gUp_ao, gUp_eq, h1, Int.toNat_natCast, e1, e2, h2 p (Nat.le_refl _)]
  refine fun _ => ⟨⟨by omega, by omega⟩, fun _ => ⟨⟨by omega, by omega⟩, fun _ _ _ => ⟨⟨by omega, by omega⟩, fun _ => ⟨⟨by omega, by omega⟩, ?_⟩⟩⟩⟩
  have o4 : gOff (gStR r) M (gUp (gUp (gUp (gUp M (r + 1) (gCn (gnE F) p) (p : Int)) (r + 2) (gCn (gnE F) p) (id : Int)) r 0 ((gCn (gnE F) p + 1 : Nat) : Int)) (r + 3) (gCn (gnE F) p + 1) (gSp F p : Int)) := by
    refine ((((gOff.rf _ M).up ?_).up ?_).up ?_).up ?_ <;> unfold gStR <;> omega
  refine hk _ o4 ⟨?_, by rw [gUp_eq]; rfl, fun q hq => ?_, fun q hq S tg e => ?_, ?_⟩ ?_
  · rw [gUp_a (by omega), gUp_eq]
  · have := gCn_le (Q := gnE F) hq
    rw [gUp_k (by omega), gUp_a (by omega), gUp_a (by omega), gUp_a (by omega)]
    exact h2 q hq
  · have lt := gCn_lt (Q := gnE F) hq (gnE_s e)
    obtain ⟨a1, ⟨ci, a2, a3⟩, a4⟩ := h3 q hq S tg e
    have ok := (hF q S tg e).2
    refine ⟨?_, ⟨ci, ?_, a3.st ok.1 ok.2.2.1 o4 hcr⟩, fun i hi => ?_⟩
    · rw [gUp_a (by omega), gUp_a (by omega), gUp_a (by omega), gUp_k (by omega)]; exact a1
    · rw [gUp_a (by omega), gUp_a (by omega), gUp_k (by omega), gUp_a (by omega)]; exact a2
    · rw [gUp_a (by omega), gUp_a (by omega), gUp_a (by omega), gUp_a (by omega)]; exact a4 i hi
  · rw [gUp_a (by omega), gUp_a (by omega), gUp_a (by omega), gUp_eq]
  · rw [gUp_a (by omega), gUp_a (by omega), gUp_eq]
theorem c_St_addTarget {p j : Nat} {t : Int} {k : gM → Prop} (hr : gsX X r) (hcr : c + 13 < r) (hF : gSok F) (h : gcPe M c r F p j) (hn : gCn (gnE F) p < 400) (hs : gSp F p + j < 20000) (ht : g32 t) (hk : ∀ M2, gOff (fun a k => (a = r + 4 ∧ k = gSp F p + j) ∨ (a = r + 3 ∧ k = gCn (gnE F) p + 1)) M M2 → gcPe M2 c r F p (j + 1) → M2 (r + 4) (gSp F p + j) = t → k M2) : cV l G y_St_addTarget (gRm d) true [gR G r, gI t] X M k := by
  obtain ⟨h1, h2, h3, h4, h5⟩ := h
  refine e_St_addTarget (w_St_addTarget_0 hr ht ?_)
  simp (disch := decide) only [gUp_o, gUp_oo, h1, Int.toNat_natCast, h2]
  rw [w32_id (x := ((gSp F p + j : Nat) : Int) + 1) ⟨by omega, by omega⟩]
  refine fun _ => ⟨⟨by omega, by omega⟩, fun _ => ⟨⟨by omega, by omega⟩, fun _ => ⟨⟨by omega, by omega⟩, fun _ => ⟨⟨by omega, by omega⟩, ?_⟩⟩⟩⟩
  have o4 : gOff (fun a k => (a = r + 4 ∧ k = gSp F p + j) ∨ (a = r + 3 ∧ k = gCn (gnE F) p + 1)) M (gUp (gUp M (r + 4) (gSp F p + j) t) (r + 3) (gCn (gnE F) p + 1) (((gSp F p + j : Nat) : Int) + 1)) := ((gOff.rf _ M).up (Or.inl ⟨rfl, rfl⟩)).up (Or.inr ⟨rfl, rfl⟩)
  have o5 : gOff (gStR r) M (gUp (gUp M (r + 4) (gSp F p + j) t) (r + 3) (gCn (gnE F) p + 1) (((gSp F p + j : Nat) : Int) + 1)) := o4.mono (fun a k h => by unfold gStR; omega)
  refine hk _ o4 ⟨?_, ?_, fun q hq => ?_, fun q hq S tg e => ?_, ?_⟩ ?_
  · rw [gUp_a (by omega), gUp_a (by omega)]; exact h1
  · rw [gUp_eq]; omega
  · have := gCn_le (Q := gnE F) hq
    rw [gUp_k (by omega), gUp_a (by omega)]
    exact h3 q hq
  · obtain ⟨a1, ⟨ci, a2, a3⟩, a4⟩ := h4 q hq S tg e
    have ok := (hF q S tg e).2
    have sl := gSp_le (F := F) (show q + 1 ≤ p from hq)
    rw [gSp_s e] at sl
    refine ⟨?_, ⟨ci, ?_, a3.st ok.1 ok.2.2.1 o5 hcr⟩, fun i hi => ?_⟩
    · rw [gUp_a (by omega), gUp_a (by omega)]; exact a1
    · rw [gUp_a (by omega), gUp_a (by omega)]; exact a2
    · rw [gUp_a (by omega), gUp_k (by omega)]; exact a4 i hi
  · rw [gUp_a (by omega), gUp_a (by omega)]; exact h5
  · rw [gUp_a (by omega), gUp_eq]
/-- an entry whose targets are all there -/
theorem gcPe.end {p id : Nat} {S tg : List Int} (h : gcPe M c r F p tg.length) (e : F p = some (S, tg)) (hid : M (r + 2) (gCn (gnE F) p) = (id : Int)) (hc : gcCn M c id S) (ht : ∀ i, i < tg.length → M (r + 4) (gSp F p + i) = gTt tg i) : gcPf M c r F (p + 1) := by
  obtain ⟨h1, h2, h3, h4, h5⟩ := h
  have en := gCn_y (Q := gnE F) (gnE_s e)
  refine ⟨by rw [en]; exact h1, fun q hq => ?_, fun q hq S2 tg2 e2 => ?_⟩
  · by_cases y : q = p + 1
    · rw [y, en, gSp_s e]; exact h2
    · exact h3 q (by omega)
  · by_cases y : q = p
    · subst y
      rw [e] at e2
      cases e2
      exact ⟨h5, ⟨id, hid, hc⟩, ht⟩
    · exact h4 q (by omega) S2 tg2 e2
/-- a place that holds nothing -/
theorem gcPf.skip {p q : Nat} (h : gcPf M c r F p) (hq : p ≤ q) (e : ∀ x, p ≤ x → x < q → F x = none) : gcPf M c r F q := by
  obtain ⟨h1, h2, h3⟩ := h
  have en : ∀ x, p ≤ x → x ≤ q → gCn (gnE F) x = gCn (gnE F) p := fun x a1 a2 => gCn_gp a1 (fun y b1 b2 z => z (e y b1 (by omega)))
  have es : ∀ m, p + m ≤ q → gSp F (p + m) = gSp F p := by
    intro m
    induction m with
    | zero => intro _; rfl
    | succ m ih =>
      intro hm
      rw [show p + (m + 1) = p + m + 1 by omega, gSp_n (e (p + m) (by omega) (by omega)), ih (by omega)]
  refine ⟨by rw [en q hq (Nat.le_refl _)]; exact h1, fun x hx => ?_, fun x hx S tg ex => ?_⟩
  · by_cases y : x ≤ p
    · exact h2 x y
    · have := es (x - p) (by omega)
      rw [show p + (x - p) = x by omega] at this
      rw [en x (by omega) hx, this]
      exact h2 p (Nat.le_refl _)
  · by_cases y : x < p
    · exact h3 x y S tg ex
    · rw [e x (by omega) hx] at ex; cases ex
theorem gSp_eq0 {p : Nat} : ∀ m, gCn (gnE F) (p + m) = gCn (gnE F) p → gSp F (p + m) = gSp F p := by
  intro m
  induction m with
  | zero => intro _; rfl
  | succ m ih =>
    intro h
    have l1 := gCn_le (Q := gnE F) (show p ≤ p + m by omega)
    have l2 := gCn_le (Q := gnE F) (show p + m ≤ p + (m + 1) by omega)
    have nn : ¬ gnE F (p + m) := fun y => by have := gCn_y y; rw [show p + m + 1 = p + (m + 1) by omega] at this; omega
    rw [show p + (m + 1) = p + m + 1 by omega, gSp_n (Classical.byContradiction nn), ih (by omega)]
theorem gSp_eq {p q : Nat} (h : gCn (gnE F) p = gCn (gnE F) q) : gSp F p = gSp F q := by
  by_cases y : p ≤ q
  · have := gSp_eq0 (F := F) (p := p) (q - p) (by rw [show p + (q - p) = q by omega]; exact h.symm)
    rw [show p + (q - p) = q by omega] at this
    exact this.symm
  · have := gSp_eq0 (F := F) (p := q) (p - q) (by rw [show q + (p - q) = p by omega]; exact h)
    rw [show q + (p - q) = p by omega] at this
    exact this
theorem gSp_run {b : Nat} : ∀ (m : Nat), (∀ p, b ≤ p → p < b + m → F2 p = F p) → gSp F2 (b + m) + gSp F b = gSp F2 b + gSp F (b + m) ∧ gCn (gnE F2) (b + m) + gCn (gnE F) b = gCn (gnE F2) b + gCn (gnE F) (b + m) := by
  intro m
  induction m with
  | zero => intro _; exact ⟨rfl, rfl⟩
  | succ m ih =>
    intro h
    obtain ⟨i1, i2⟩ := ih (fun p a1 a2 => h p a1 (by omega))
    have e := h (b + m) (by omega) (by omega)
    constructor
    · rw [show b + (m + 1) = b + m + 1 by omega]
      cases eF : F (b + m) with
      | none => rw [gSp_n eF, gSp_n (e.trans eF)]; exact i1
      | some x => rw [gSp_s (S := x.1) (tg := x.2) eF, gSp_s (S := x.1) (tg := x.2) (e.trans eF)]; omega
    · rw [show b + (m + 1) = b + m + 1 by omega]
      by_cases y : gnE F (b + m)
      · rw [gCn_y y, gCn_y (Q := gnE F2) (show gnE F2 (b + m) from by unfold gnE; rw [e]; exact y)]; omega
      · rw [gCn_n y, gCn_n (Q := gnE F2) (show ¬ gnE F2 (b + m) from by unfold gnE; rw [e]; exact y)]; omega
theorem c_St_addRun {b b2 : Nat} {k : Int → gM → Prop} (hr : gsX X r) (hr0 : gsX X r0) (hcr : c + 13 < r) (hd : r + 4 < r0 ∨ r0 + 4 < r) (hF2 : gSok F2) (h50 : g50 F2) (hF : gSok F) (h : gcPf M c r F2 b) (h0 : gcSt M c r0 F) (hb : b ≤ b2 ∧ b2 ≤ 5200) (hn : gCn (gnE F2) b ≤ 400) (he : ∀ p, b ≤ p → p < b2 → F2 p = F p)
    (hk1 : gCn (gnE F2) b2 ≤ 400 → ∀ M2, gOff (gStR r) M M2 → gcPf M2 c r F2 b2 → k 1 M2) (hk0 : 400 < gCn (gnE F2) b2 → k 0 M) : cZ l G y_St_addRun (gRm (d + 1)) true [gR G r, gR G r0, gI (gCn (gnE F) b : Int), gI (gCn (gnE F) b2 : Int)] X M k := by
  obtain ⟨h1, h2, h3⟩ := id h
  obtain ⟨g1, g2, g3, g4, g5⟩ := id h0
  have run : ∀ p, b ≤ p → p ≤ b2 → gSp F2 p + gSp F b = gSp F2 b + gSp F p ∧ gCn (gnE F2) p + gCn (gnE F) b = gCn (gnE F2) b + gCn (gnE F) p := fun p a1 a2 => by
    have := gSp_run (F := F) (F2 := F2) (b := b) (p - b) (fun q c1 c2 => he q c1 (by omega))
    rw [show b + (p - b) = p by omega] at this
    exact this
  have rb := run b2 hb.1 (Nat.le_refl _)
  have m1 := gCn_le (Q := gnE F) hb.1
  have m2 := gCn_le (Q := gnE F) hb.2
  have s1 := gSp_le (F := F) hb.1
  have s2 := gSp_le (F := F) hb.2
  have s50 := gSp_50 h50 b2
  refine e_St_addRun (w_St_addRun_0 hr hr0 ⟨by omega, by omega⟩ ⟨by omega, by omega⟩ fun _ => ?_)
  rw [h1, w32_id (x := (gCn (gnE F2) b : Int) + ((gCn (gnE F) b2 : Int) - (gCn (gnE F) b : Int))) ⟨by omega, by omega⟩]
  refine ⟨fun z => ?_, fun z => hk0 (by omega)⟩
  have e0 : (((gCn (gnE F) b2 : Int) - (gCn (gnE F) b : Int))).toNat = gCn (gnE F) b2 - gCn (gnE F) b := by omega
  have gA : ∀ j, gCp M (r + 1) (r0 + 1) (gCn (gnE F) b) (gCn (gnE F2) b) (gCn (gnE F) b2 - gCn (gnE F) b) r j = M r j := fun j => gCp_a (by omega)
  have gB : ∀ a j, a ≠ r + 1 → a ≠ r + 2 → gCp (gCp M (r + 1) (r0 + 1) (gCn (gnE F) b) (gCn (gnE F2) b) (gCn (gnE F) b2 - gCn (gnE F) b)) (r + 2) (r0 + 2) (gCn (gnE F) b) (gCn (gnE F2) b) (gCn (gnE F) b2 - gCn (gnE F) b) a j = M a j := fun a j x y => by rw [gCp_a y, gCp_a x]
  rw [e0, Int.toNat_natCast, Int.toNat_natCast, gA, h1, Int.toNat_natCast, gB r 0 (by omega) (by omega), h1, Int.toNat_natCast, gB (r + 3) _ (by omega) (by omega), gB (r0 + 3) _ (by omega) (by omega), Int.toNat_natCast, gB (r0 + 3) _ (by omega) (by omega), h2 b (Nat.le_refl _), g4 b (by omega), g4 b2 hb.2, Int.toNat_natCast, Int.toNat_natCast, show ((gSp F b2 : Int) - (gSp F b : Int)).toNat = gSp F b2 - gSp F b by omega, w32_id (x := (gCn (gnE F) b2 : Int) - (gCn (gnE F) b : Int)) ⟨by omega, by omega⟩, w32_id (x := (gSp F2 b : Int) - (gSp F b : Int)) ⟨by omega, by omega⟩]
  refine fun _ => ⟨⟨by omega, by omega, by omega, by omega, by omega⟩, fun _ => ⟨⟨by omega, by omega, by omega, by omega, by omega⟩, fun _ => ⟨⟨by omega, by omega⟩, fun _ => ⟨⟨by omega, by omega⟩, fun _ => ⟨⟨by omega, by omega⟩, fun _ _ => ⟨⟨by omega, by omega⟩, fun _ => ⟨⟨by omega, by omega⟩, fun _ => ⟨⟨by omega, by omega⟩, fun _ => ⟨⟨by omega, by omega, by omega, by omega, by omega⟩, ?_⟩⟩⟩⟩⟩⟩⟩⟩⟩
  -- the memory behind the three copies
  have oC : gOff (gStR r) M (gCp (gCp (gCp M (r + 1) (r0 + 1) (gCn (gnE F) b) (gCn (gnE F2) b) (gCn (gnE F) b2 - gCn (gnE F) b)) (r + 2) (r0 + 2) (gCn (gnE F) b) (gCn (gnE F2) b) (gCn (gnE F) b2 - gCn (gnE F) b)) (r + 4) (r0 + 4) (gSp F b) (gSp F2 b) (gSp F b2 - gSp F b)) := fun a j na => by
    unfold gStR at na
    rw [gCp_a (by omega), gCp_a (by omega), gCp_a (by omega)]
  have c1 : ∀ j, gCp (gCp (gCp M (r + 1) (r0 + 1) (gCn (gnE F) b) (gCn (gnE F2) b) (gCn (gnE F) b2 - gCn (gnE F) b)) (r + 2) (r0 + 2) (gCn (gnE F) b) (gCn (gnE F2) b) (gCn (gnE F) b2 - gCn (gnE F) b)) (r + 4) (r0 + 4) (gSp F b) (gSp F2 b) (gSp F b2 - gSp F b) (r + 1) j = if gCn (gnE F2) b ≤ j ∧ j < gCn (gnE F2) b2 then M (r0 + 1) (gCn (gnE F) b + (j - gCn (gnE F2) b)) else M (r + 1) j := fun j => by
    rw [gCp_a (by omega), gCp_a (by omega)]
    by_cases y : gCn (gnE F2) b ≤ j ∧ j < gCn (gnE F2) b2
    · rw [if_pos y, gCp_in y.1 (by omega)]
    · rw [if_neg y, gCp_out (by omega)]
  have c2 : ∀ j, gCp (gCp (gCp M (r + 1) (r0 + 1) (gCn (gnE F) b) (gCn (gnE F2) b) (gCn (gnE F) b2 - gCn (gnE F) b)) (r + 2) (r0 + 2) (gCn (gnE F) b) (gCn (gnE F2) b) (gCn (gnE F) b2 - gCn (gnE F) b)) (r + 4) (r0 + 4) (gSp F b) (gSp F2 b) (gSp F b2 - gSp F b) (r + 2) j = if gCn (gnE F2) b ≤ j ∧ j < gCn (gnE F2) b2 then M (r0 + 2) (gCn (gnE F) b + (j - gCn (gnE F2) b)) else M (r + 2) j := fun j => by
    rw [gCp_a (by omega)]
    by_cases y : gCn (gnE F2) b ≤ j ∧ j < gCn (gnE F2) b2
    · rw [if_pos y, gCp_in y.1 (by omega), gCp_a (by omega)]
    · rw [if_neg y, gCp_out (by omega), gCp_a (by omega)]
  have c4 : ∀ j, gCp (gCp (gCp M (r + 1) (r0 + 1) (gCn (gnE F) b) (gCn (gnE F2) b) (gCn (gnE F) b2 - gCn (gnE F) b)) (r + 2) (r0 + 2) (gCn (gnE F) b) (gCn (gnE F2) b) (gCn (gnE F) b2 - gCn (gnE F) b)) (r + 4) (r0 + 4) (gSp F b) (gSp F2 b) (gSp F b2 - gSp F b) (r + 4) j = if gSp F2 b ≤ j ∧ j < gSp F2 b2 then M (r0 + 4) (gSp F b + (j - gSp F2 b)) else M (r + 4) j := fun j => by
    by_cases y : gSp F2 b ≤ j ∧ j < gSp F2 b2
    · rw [if_pos y, gCp_in y.1 (by omega), gCp_a (by omega), gCp_a (by omega)]
    · rw [if_neg y, gCp_out (by omega), gCp_a (by omega), gCp_a (by omega)]
  have c3 : ∀ j, gCp (gCp (gCp M (r + 1) (r0 + 1) (gCn (gnE F) b) (gCn (gnE F2) b) (gCn (gnE F) b2 - gCn (gnE F) b)) (r + 2) (r0 + 2) (gCn (gnE F) b) (gCn (gnE F2) b) (gCn (gnE F) b2 - gCn (gnE F) b)) (r + 4) (r0 + 4) (gSp F b) (gSp F2 b) (gSp F b2 - gSp F b) (r + 3) j = M (r + 3) j := fun j => by rw [gCp_a (by omega), gCp_a (by omega), gCp_a (by omega)]
  have c0 : ∀ j, gCp (gCp (gCp M (r + 1) (r0 + 1) (gCn (gnE F) b) (gCn (gnE F2) b) (gCn (gnE F) b2 - gCn (gnE F) b)) (r + 2) (r0 + 2) (gCn (gnE F) b) (gCn (gnE F2) b) (gCn (gnE F) b2 - gCn (gnE F) b)) (r + 4) (r0 + 4) (gSp F b) (gSp F2 b) (gSp F b2 - gSp F b) r j = M r j := fun j => by rw [gCp_a (by omega), gCp_a (by omega), gCp_a (by omega)]
  generalize gCp (gCp (gCp M (r + 1) (r0 + 1) (gCn (gnE F) b) (gCn (gnE F2) b) (gCn (gnE F) b2 - gCn (gnE F) b)) (r + 2) (r0 + 2) (gCn (gnE F) b) (gCn (gnE F2) b) (gCn (gnE F) b2 - gCn (gnE F) b)) (r + 4) (r0 + 4) (gSp F b) (gSp F2 b) (gSp F b2 - gSp F b) = N0 at oC c1 c2 c4 c3 c0 ⊢
  have key : ∀ (u x : Nat) (M3 : gM), x + u = gCn (gnE F) b2 - gCn (gnE F) b + 1 → 1 ≤ x → gOff (fun a j => a = r + 3 ∧ gCn (gnE F2) b < j) N0 M3 → (∀ p, b ≤ p → p ≤ b2 → gCn (gnE F) p < gCn (gnE F) b + x → M3 (r + 3) (gCn (gnE F2) p) = (gSp F2 p : Int)) → wp l G y_St_addRun (gRm (d + 1)) true (kkZ X k) true 116 [.val (gR G r), .val (gR G r0), .val (gI (gCn (gnE F) b : Int)), .unset, .val (gI ((gCn (gnE F) b2 : Int) - (gCn (gnE F) b : Int))), .val (gI ((gSp F2 b : Int) - (gSp F b : Int))), .val (gI (x : Int))] [] X M3 0 0 := by
    intro u
    induction u with
    | zero =>
      intro x M3 hx hx1 o3 hs
      have n3 : M3 r 0 = (gCn (gnE F2) b : Int) := (o3 _ _ (by omega)).trans ((c0 0).trans h1)
      refine w_St_addRun_116 hr ⟨by omega, by omega⟩ ⟨by omega, by omega⟩ ⟨by omega, by omega⟩ ⟨by omega, by omega⟩ hr0 ⟨fun _ _ => ?_, fun y => absurd (by omega) y⟩
      rw [n3, w32_id (x := (gCn (gnE F2) b : Int) + ((gCn (gnE F) b2 : Int) - (gCn (gnE F) b : Int))) ⟨by omega, by omega⟩, show (gCn (gnE F2) b : Int) + ((gCn (gnE F) b2 : Int) - (gCn (gnE F) b : Int)) = (gCn (gnE F2) b2 : Int) by omega]
      have oE : gOff (gStR r) M (gUp M3 r 0 (gCn (gnE F2) b2 : Int)) := (oC.tr (o3.mono (fun a j h => by unfold gStR; omega))).up (by unfold gStR; omega)
      have q3 : ∀ a j, a = 1 ∨ a = 2 ∨ a = 4 → gUp M3 r 0 (gCn (gnE F2) b2 : Int) (r + a) j = N0 (r + a) j := fun a j ha => by rw [gUp_a (by omega)]; exact o3 _ _ (by omega)
      refine hk1 (by omega) _ oE ⟨gUp_eq _ _ _ _, fun p hp => ?_, fun p hp S tg e => ?_⟩
      · rw [gUp_a (by omega)]
        by_cases y : p ≤ b
        · have := gCn_le (Q := gnE F2) y
          rw [o3 _ _ (by omega), c3]
          exact h2 p y
        · have := gCn_le (Q := gnE F) hp
          exact hs p (by omega) hp (by omega)
      · by_cases y : p < b
        · have lt := gCn_lt (Q := gnE F2) y (gnE_s e)
          have sl := gSp_le (F := F2) (show p + 1 ≤ b from y)
          rw [gSp_s e] at sl
          obtain ⟨a1, ⟨ci, a2, a3⟩, a4⟩ := h3 p y S tg e
          have ok := (hF2 p S tg e).2
          refine ⟨?_, ⟨ci, ?_, a3.st ok.1 ok.2.2.1 oE hcr⟩, fun i hi => ?_⟩
          · rw [q3 1 _ (by omega), c1, if_neg (by omega)]; exact a1
          · rw [q3 2 _ (by omega), c2, if_neg (by omega)]; exact a2
          · rw [q3 4 _ (by omega), c4, if_neg (by omega)]; exact a4 i hi
        · have lt := gCn_lt (Q := gnE F2) hp (gnE_s e)
          have sl := gSp_le (F := F2) (show p + 1 ≤ b2 from hp)
          rw [gSp_s e] at sl
          have le1 := gCn_le (Q := gnE F2) (show b ≤ p by omega)
          have le2 := gSp_le (F := F2) (show b ≤ p by omega)
          have rp := run p (by omega) (by omega)
          have eF : F p = some (S, tg) := by rw [← he p (by omega) hp]; exact e
          obtain ⟨a1, ⟨ci, a2, a3⟩, a4⟩ := g5 p (by omega) S tg eF
          have ok := (hF2 p S tg e).2
          refine ⟨?_, ⟨ci, ?_, a3.st ok.1 ok.2.2.1 oE hcr⟩, fun i hi => ?_⟩
          · rw [q3 1 _ (by omega), c1, if_pos ⟨le1, lt⟩, show gCn (gnE F) b + (gCn (gnE F2) p - gCn (gnE F2) b) = gCn (gnE F) p by omega]; exact a1
          · rw [q3 2 _ (by omega), c2, if_pos ⟨le1, lt⟩, show gCn (gnE F) b + (gCn (gnE F2) p - gCn (gnE F2) b) = gCn (gnE F) p by omega]; exact a2
          · rw [q3 4 _ (by omega), c4, if_pos ⟨by omega, by omega⟩, show gSp F b + (gSp F2 p + i - gSp F2 b) = gSp F p + i by omega]; exact a4 i hi
    | succ u ih =>
      intro x M3 hx hx1 o3 hs
      have n3 : M3 r 0 = (gCn (gnE F2) b : Int) := (o3 _ _ (by omega)).trans ((c0 0).trans h1)
      obtain ⟨p, p1, p2, p3⟩ : ∃ p, b ≤ p ∧ p ≤ b2 ∧ gCn (gnE F) p = gCn (gnE F) b + x := by
        by_cases y : gCn (gnE F) b + x < gCn (gnE F) b2
        · obtain ⟨p, p1, p2, p3⟩ := gCn_ex (Q := gnE F) b2 (gCn (gnE F) b + x) y
          refine ⟨p, Decidable.byContradiction fun z => ?_, by omega, p3⟩
          have := gCn_le (Q := gnE F) (show p ≤ b by omega)
          omega
        · exact ⟨b2, hb.1, Nat.le_refl _, by omega⟩
      have rp := run p p1 p2
      have v0 : M3 (r0 + 3) (gCn (gnE F) b + x) = (gSp F p : Int) := by
        rw [o3 _ _ (by omega), oC _ _ (by unfold gStR; omega), ← p3]
        exact g4 p (by omega)
      refine w_St_addRun_116 hr ⟨by omega, by omega⟩ ⟨by omega, by omega⟩ ⟨by omega, by omega⟩ ⟨by omega, by omega⟩ hr0 ⟨fun y => absurd y (by omega), fun _ _ => ?_⟩
      have sp := gSp_le (F := F) (show p ≤ 5200 by omega)
      have spb := gSp_le (F := F2) p2
      rw [show ((gCn (gnE F) b : Int) + (x : Int)).toNat = gCn (gnE F) b + x by omega, v0, n3, show ((gCn (gnE F2) b : Int) + (x : Int)).toNat = gCn (gnE F2) b + x by omega, w32_id (x := (gSp F p : Int) + ((gSp F2 b : Int) - (gSp F b : Int))) ⟨by omega, by omega⟩, w32_id (x := (x : Int) + 1) ⟨by omega, by omega⟩, show (x : Int) + 1 = ((x + 1 : Nat) : Int) by omega]
      refine ⟨⟨by omega, by omega⟩, fun _ => ⟨⟨by omega, by omega⟩, ih (x + 1) _ (by omega) (by omega) (o3.up ⟨rfl, by omega⟩) (fun q a1 a2 a3 => ?_)⟩⟩
      have rq := run q a1 a2
      by_cases y : gCn (gnE F) q = gCn (gnE F) b + x
      · have es := gSp_eq (F := F) (p := q) (q := p) (by omega)
        rw [show gCn (gnE F2) q = gCn (gnE F2) b + x by omega, gUp_eq]
        omega
      · rw [gUp_k (by omega)]
        exact hs q a1 a2 (by omega)
  refine key (gCn (gnE F) b2 - gCn (gnE F) b) 1 N0 (by omega) (Nat.le_refl _) (gOff.rf _ _) (fun p a1 a2 a3 => ?_)
  have rp := run p a1 a2
  have g := gCn_le (Q := gnE F) a1
  have es := gSp_eq (F := F) (p := p) (q := b) (by omega)
  rw [show gCn (gnE F2) p = gCn (gnE F2) b by omega, c3, h2 b (Nat.le_refl _)]
  omega
end gfH
