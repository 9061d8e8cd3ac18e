/-! The class's values: worked out in the order that Order found. -/
noncomputable def gEw (F : gSht) (w : Nat → gVl) : Int → gVl := fun q => w (gAt F q.toNat)
def gwU (w : Nat → gVl) (e : Nat) (v : gVl) : Nat → gVl := fun k => if k = e then v else w k
/-- what Order found: a list of all entries, and which are circular -/
def gOrd2 (n : Nat) (r : Nat → Nat → Prop) (So : Nat → Nat) (ci : Nat → Prop) : Prop := (∀ k, k < n → So k < n) ∧ (∀ j k, j < n → k < n → So j = So k → j = k) ∧ (∀ e, e < n → gIn So n e) ∧ (∀ k, k < n → ¬ ci (So k) → ∀ x, r (So k) x → gIn So k x) ∧ (∀ e, e < n → (ci e ↔ gTC r e e))
def gIdx (So : Nat → Nat) : Nat → Nat → Nat
  | 0, _ => 0
  | n + 1, e => if So n = e then n else gIdx So n e
theorem gIdx_eq {So : Nat → Nat} : ∀ (n j : Nat), j < n → (∀ i, i < n → So i = So j → i = j) → gIdx So n (So j) = j := by
  intro n
  induction n with
  | zero => intro j h; omega
  | succ n ih =>
    intro j h hi
    unfold gIdx
    by_cases q : So n = So j
    · rw [if_pos q]; exact hi n (by omega) q
    · rw [if_neg q]
      have : j ≠ n := fun y => q (by rw [y])
      exact ih j (by omega) (fun i h1 h2 => hi i (by omega) h2)
section geZ
variable {F : gSht} {r : Nat → Nat → Prop}
theorem gnR_rch (hr : ∀ i j, r i j ↔ ∃ p q, gCn (gnE F) p = i ∧ gCn (gnE F) q = j ∧ gEdg F p q) : ∀ (k p q : Nat), gnE F p → gnE F q → (gRch r k (gCn (gnE F) p) (gCn (gnE F) q) ↔ gRch (gEdg F) k p q) := by
  intro k
  induction k with
  | zero => intro p q hp hq; exact ⟨fun h => gCn_inj hp hq h, fun h => congrArg _ h⟩
  | succ k ih =>
    intro p q hp hq
    constructor
    · rintro ⟨x, hx, h⟩
      obtain ⟨p2, y, a1, a2, a3⟩ := (hr _ _).mp hx
      have np : gnE F p2 := by obtain ⟨⟨S, tg, e, _⟩, _⟩ := a3; exact gnE_s e
      have e : p2 = p := gCn_inj np hp a1
      subst e
      rw [← a2] at h
      exact ⟨y, a3, (ih y q a3.2 hq).mp h⟩
    · rintro ⟨y, a3, h⟩
      exact ⟨gCn (gnE F) y, (hr _ _).mpr ⟨p, y, rfl, rfl, a3⟩, (ih y q a3.2 hq).mpr h⟩
theorem gnR_cyc (hr : ∀ i j, r i j ↔ ∃ p q, gCn (gnE F) p = i ∧ gCn (gnE F) q = j ∧ gEdg F p q) {p : Nat} (hp : gnE F p) : gTC r (gCn (gnE F) p) (gCn (gnE F) p) ↔ gCyc F p := ⟨fun ⟨k, h⟩ => ⟨k, (gnR_rch hr _ p p hp hp).mp h⟩, fun ⟨k, h⟩ => ⟨k, (gnR_rch hr _ p p hp hp).mpr h⟩⟩
theorem gAt_y {p : Nat} (h : gnE F p) : gAt F p = gCn (gnE F) p := if_pos h
theorem gAt_n {p : Nat} (h : ¬ gnE F p) : gAt F p = 400 := if_neg h
theorem gEw_nat {w : Nat → gVl} (p : Nat) : gEw F w (p : Int) = w (gAt F p) := by
  unfold gEw
  rw [Int.toNat_natCast]
variable {n : Nat} {So : Nat → Nat} {ci : Nat → Prop}
/-- the values of entries worked out so far -/
def gWd2 (F : gSht) (So : Nat → Nat) (ci : Nat → Prop) (w : Nat → gVl) (x : Nat) : Prop := w 400 = (0, 0, []) ∧ ∀ j, j < x → ∀ p S tg, p < 5200 → F p = some (S, tg) → gCn (gnE F) p = So j → w (So j) = @ite gVl (ci (So j)) (Classical.propDecidable _) (gE 8) (gOut (gEw F w) S tg)
/-- one more -/
theorem gWd2.step {w : Nat → gVl} {x : Nat} {v : gVl} (hF : gSok F) (hn : n = gCn (gnE F) 5200) (hn2 : n ≤ 400) (hr : ∀ i j, r i j ↔ ∃ p q, gCn (gnE F) p = i ∧ gCn (gnE F) q = j ∧ gEdg F p q) (ho : gOrd2 n r So ci) (hx : x < n) (h : gWd2 F So ci w x) (hv : ∀ p S tg, p < 5200 → F p = some (S, tg) → gCn (gnE F) p = So x → v = @ite gVl (ci (So x)) (Classical.propDecidable _) (gE 8) (gOut (gEw F w) S tg)) : gWd2 F So ci (gwU w (So x) v) (x + 1) := by
  obtain ⟨o1, o2, o3, o4, o5⟩ := ho
  have l400 : So x ≠ 400 := by have := o1 x hx; omega
  -- what is worked out before is read alone
  have cong : ∀ j, j ≤ x → ¬ ci (So j) → ∀ p S tg, p < 5200 → F p = some (S, tg) → gCn (gnE F) p = So j → gOut (gEw F (gwU w (So x) v)) S tg = gOut (gEw F w) S tg := by
    intro j hj nc p S tg hp e ep
    refine gOut_congr (hF p S tg e).2 (fun q ql cov => ?_)
    rw [gEw_nat, gEw_nat]
    unfold gwU
    refine if_neg (fun y => ?_)
    by_cases nq : gnE F q
    · rw [gAt_y nq] at y
      obtain ⟨i, i1, i2⟩ := o4 j (by omega) nc (gCn (gnE F) q) ((hr _ _).mpr ⟨p, q, ep, rfl, ⟨S, tg, e, cov⟩, nq⟩)
      have := o2 i x (by omega) hx (by omega)
      omega
    · rw [gAt_n nq] at y; exact l400 y.symm
  refine ⟨by unfold gwU; rw [if_neg (fun y => l400 y.symm)]; exact h.1, fun j hj p S tg hp e ep => ?_⟩
  by_cases q : j = x
  · rw [q] at ep ⊢
    have v1 := hv p S tg hp e ep
    have e1 : gwU w (So x) v (So x) = v := if_pos rfl
    rw [e1]
    by_cases c : ci (So x)
    · rw [if_pos c] at v1 ⊢
      exact v1
    · rw [if_neg c] at v1 ⊢
      rw [cong x (Nat.le_refl _) c p S tg hp e ep]
      exact v1
  · have ne : So j ≠ So x := fun y => q (o2 j x (by omega) hx y)
    have e1 : gwU w (So x) v (So j) = w (So j) := if_neg ne
    rw [e1, h.2 j (by omega) p S tg hp e ep]
    by_cases c : ci (So j)
    · rw [if_pos c, if_pos c]
    · rw [if_neg c, if_neg c, cong j (by omega) c p S tg hp e ep]
/-- all of them -/
theorem gWd2.all {w : Nat → gVl} (hn : n = gCn (gnE F) 5200) (hr : ∀ i j, r i j ↔ ∃ p q, gCn (gnE F) p = i ∧ gCn (gnE F) q = j ∧ gEdg F p q) (ho : gOrd2 n r So ci) (h : gWd2 F So ci w n) (hF : gSok F) : gFxp F (gEw F w) ∧ gRnk F (fun p => gIdx So n (gCn (gnE F) p)) := by
  obtain ⟨o1, o2, o3, o4, o5⟩ := ho
  constructor
  · intro p hp
    refine ⟨fun e => ?_, fun S tg e => ?_⟩
    · rw [gEw_nat, gAt_n (fun y => y e)]; exact h.1
    · have np := gnE_s e
      have lt := gCn_lt (Q := gnE F) hp np
      obtain ⟨j, j1, j2⟩ := o3 (gCn (gnE F) p) (by omega)
      rw [gEw_nat, gAt_y np, ← j2, h.2 j j1 p S tg hp e j2.symm]
      have c : ci (So j) ↔ gCyc F p := by rw [j2, o5 _ (by omega)]; exact gnR_cyc hr np
      by_cases q : gCyc F p
      · rw [if_pos q, if_pos (c.mpr q)]
      · rw [if_neg q, if_neg (fun y => q (c.mp y))]
  · intro p q nc hE
    have np : gnE F p := by obtain ⟨⟨S, tg, e, _⟩, _⟩ := hE; exact gnE_s e
    have pl : p < 5200 := by obtain ⟨⟨S, tg, e, _⟩, _⟩ := hE; exact (hF p S tg e).1
    have lt := gCn_lt (Q := gnE F) pl np
    obtain ⟨j, j1, j2⟩ := o3 (gCn (gnE F) p) (by omega)
    have ncj : ¬ ci (So j) := fun y => nc ((gnR_cyc hr np).mp (by rw [← j2]; exact (o5 _ (o1 j j1)).mp y))
    obtain ⟨i, i1, i2⟩ := o4 j j1 ncj (gCn (gnE F) q) ((hr _ _).mpr ⟨p, q, j2.symm, rfl, hE⟩)
    show gIdx So n (gCn (gnE F) q) < gIdx So n (gCn (gnE F) p)
    rw [← i2, ← j2, gIdx_eq n i (by omega) (fun k hk y => o2 k i hk (by omega) y), gIdx_eq n j j1 (fun k hk y => o2 k j hk j1 y)]
    exact i1
end geZ
section gfA
variable {M : gM} {c n : Nat} {r : Nat → Nat → Prop}
theorem gOI.ord (h : gOI M c n r 0 0 n n) (hn : n ≤ 400) : gOrd2 n r (gAy M (c + 1049)) (fun e => M (c + 1050) e = 1) ∧ (∀ k, k < n → M (c + 1049) k = (gAy M (c + 1049) k : Int)) := by
  obtain ⟨_, o1, o2, o3, _, hz, hc, _⟩ := h
  have all : ∀ e, e < n → gIn (gAy M (c + 1049)) n e := fun e he => by
    have m : gArn M (c + 1051) n e ≠ 0 := fun y => by
      have := gCnt_lt (met := gArn M (c + 1051) n) he y
      omega
    rcases (o1.2.2.2.1 e he).mp m with ⟨k, hk, _⟩ | z
    · omega
    · exact z
  exact ⟨⟨o1.2.2.2.2.2.1, o1.2.2.2.2.2.2, all, o3.2.1, fun e he => o3.2.2 e (all e he)⟩, fun k hk => hz.v (a := 1049) (by omega) (by omega)⟩
end gfA
