/-! The parser: tokens to a tree, and the refs on its way. -/
abbrev gRf : Type := Int × Int × Int
abbrev gPr : Type := Option (gEx × Nat × List gRf)
abbrev gPf : Type := Nat → Int → Nat → gEx → Nat → List gRf → gPr
def gTK (ts : List gTkn) (a : Nat) : Int := (gTs ts a).1
/-- the ref that a token is: place, fixed, corner -/
def gRfA (S : List Int) (ts : List gTkn) (a : Nat) (x : Int) : gRf := (gPl S (gTs ts a).2.1 (gTs ts a).2.2, gFx S (gTs ts a).2.1, x)
def gBd (x : gPr) (f : gEx → Nat → List gRf → gPr) : gPr := match x with
  | none => none
  | some (e, a, r) => f e a r
/-- a primary -/
def gPp (S : List Int) (ts : List gTkn) (f : gPf) (D a : Nat) (rs : List gRf) : gPr :=
  if gTK ts a = 17 then some (.num ((gNum (gSbs S (gTs ts a).2.1 (gTs ts a).2.2)).getD 0), a + 1, rs)
  else if gTK ts a = 18 then some (.mulL ((gTs ts a).2.1 + 1 : Nat) (.num ((gTs ts a).2.2 - 1 : Nat)), a + 1, rs)
  else if gTK ts a = 19 then some (.var rs.length, a + 1, rs ++ [gRfA S ts a 0])
  else if gTK ts a = 21 then some (.mulL 1 (.var 0), a + 1, rs)
  else if gTK ts a = 22 then some (.mulL 0 (.var 0), a + 1, rs)
  else if gTK ts a = 20 then f 5 (gNmW (gSbs S (gTs ts a).2.1 (gTs ts a).2.2)) D (.num 0) (a + 1) rs
  else if gTK ts a = 13 then gBd (f 3 1 (D + 1) (.num 0) (a + 1) rs) (fun x b r => if gTK ts b = 14 then some (.mulR x 0, b + 1, r) else none)
  else none
/-- an operand -/
def gPo (ts : List gTkn) (f : gPf) (D a : Nat) (rs : List gRf) : gPr :=
  if 20 < D then none else if gTK ts a = 8 then gBd (f 1 0 (D + 1) (.num 0) (a + 1) rs) (fun x b r => some (.neg x, b, r))
  else gBd (f 0 0 D (.num 0) a rs) (fun x b r => f 2 0 D x b r)
/-- percents behind it -/
def gPpc (ts : List gTkn) (f : gPf) (D : Nat) (e : gEx) (a : Nat) (rs : List gRf) : gPr :=
  if gTK ts a = 12 then f 2 0 D (.mulR e 1) (a + 1) rs else some (e, a, rs)
/-- an expression -/
def gPe (f : gPf) (w : Int) (D a : Nat) (rs : List gRf) : gPr := gBd (f 1 0 D (.num 0) a rs) (fun x b r => f 4 w D x b r)
/-- its operators -/
def gPl2 (ts : List gTkn) (f : gPf) (w : Int) (D : Nat) (e : gEx) (a : Nat) (rs : List gRf) : gPr :=
  if gTg (gTK ts a).toNat < w then some (e, a, rs) else gBd (f 3 (gTg (gTK ts a).toNat + 1) D (.num 0) (a + 1) rs) (fun y b r => f 4 w D (.mulL (gTK ts a) (.add e y)) b r)
/-- a call behind its name -/
def gPca (ts : List gTkn) (f : gPf) (w : Int) (D a : Nat) (rs : List gRf) : gPr :=
  if gTK ts a = 13 then (if gTK ts (a + 1) = 14 then some (.sub (.num w) (.num 0), a + 2, rs) else gBd (f 6 w (D + 1) (.num 0) (a + 1) rs) (fun x b r => if gTK ts b = 14 then some (.sub (.num w) x, b + 1, r) else none)) else none
/-- arguments -/
def gPas (ts : List gTkn) (f : gPf) (w : Int) (D a : Nat) (rs : List gRf) : gPr :=
  gBd (f 7 w D (.num 0) a rs) (fun x b r => if gTK ts b = 15 then gBd (f 6 w D (.num 0) (b + 1) r) (fun y b2 r2 => some (.add x y, b2, r2)) else some (.add x (.num 0), b, r))
/-- an argument -/
def gPar (S : List Int) (ts : List gTkn) (f : gPf) (D a : Nat) (rs : List gRf) : gPr :=
  if 20 < D then none else if gTK ts a = 19 ∧ gTK ts (a + 1) = 16 ∧ gTK ts (a + 2) = 19 then
    (if gTK ts (a + 3) = 15 ∨ gTK ts (a + 3) = 14 then some (.mulL rs.length (.neg (.num 0)), a + 3, rs ++ [gRfA S ts a 1, gRfA S ts (a + 2) 2]) else none)
  else f 3 1 D (.num 0) a rs
def gPs (S : List Int) (ts : List gTkn) : Nat → gPf
  | 0 => fun _ _ _ _ _ _ => none
  | n + 1 => fun m w D e a rs => match m with
    | 0 => gPp S ts (gPs S ts n) D a rs
    | 1 => gPo ts (gPs S ts n) D a rs
    | 2 => gPpc ts (gPs S ts n) D e a rs
    | 3 => gPe (gPs S ts n) w D a rs
    | 4 => gPl2 ts (gPs S ts n) w D e a rs
    | 5 => gPca ts (gPs S ts n) w D a rs
    | 6 => gPas ts (gPs S ts n) w D a rs
    | 7 => gPar S ts (gPs S ts n) D a rs
    | _ => none
theorem gBd_some {x : gPr} {f : gEx → Nat → List gRf → gPr} {q : gEx × Nat × List gRf} (h : gBd x f = some q) : ∃ e a r, x = some (e, a, r) ∧ f e a r = some q := by
  cases x with
  | none => cases h
  | some p => exact ⟨p.1, p.2.1, p.2.2, rfl, h⟩
theorem gTK_lt {ts : List gTkn} {a : Nat} (h : gTK ts a ≠ 23) : a < ts.length := by
  refine Decidable.byContradiction fun q => h ?_
  unfold gTK
  rw [gTs_o (by omega)]
def gPP (rs : List gRf) : Int → Prop := fun i => 0 ≤ i ∧ i < (rs.length : Int)
def gRR (rs : List gRf) : Int → Prop := fun i => 0 ≤ i ∧ i + 1 < (rs.length : Int) ∧ (rs.getD i.toNat (0, 0, 0)).2.2 = 1 ∧ (rs.getD (i + 1).toNat (0, 0, 0)).2.2 = 2
theorem gxWf_mono {P R P2 R2 : Int → Prop} {n : Nat} (hP : ∀ i, P i → P2 i) (hR : ∀ i, R i → R2 i) : ∀ e : gEx, ((gxWf P R n e).1 → (gxWf P2 R2 n e).1) ∧ ((gxWf P R n e).2 → (gxWf P2 R2 n e).2) ∧ (∀ a b, e = .add a b → ((gxWf P R n a).1 → (gxWf P2 R2 n a).1) ∧ ((gxWf P R n b).1 → (gxWf P2 R2 n b).1)) := by
  intro e
  induction e with
  | num x => exact ⟨fun h => h, fun h => h, fun a b h => by cases h⟩
  | var i => exact ⟨hP _, fun h => h, fun a b h => by cases h⟩
  | neg a ih => exact ⟨fun h => ⟨ih.1 h.1, h.2⟩, fun h => h, fun a b h => by cases h⟩
  | mulR a k ih => exact ⟨fun h => ⟨ih.1 h.1, h.2⟩, fun h => h, fun a b h => by cases h⟩
  | mulL k a ih => cases a with
    | num q => exact ⟨fun h => h, fun h => h, fun a b h => by cases h⟩
    | var q => exact ⟨fun h => h, fun h => h, fun a b h => by cases h⟩
    | add x y =>
      have := ih.2.2 x y rfl
      exact ⟨fun h => ⟨h.1, h.2.1, ⟨this.1 h.2.2.1.1, h.2.2.1.2⟩, ⟨this.2 h.2.2.2.1, h.2.2.2.2⟩⟩, fun h => h, fun a b h => by cases h⟩
    | neg q => exact ⟨hR _, fun h => h, fun a b h => by cases h⟩
    | sub q r => exact ⟨fun h => h, fun h => h, fun a b h => by cases h⟩
    | mulL q r => exact ⟨fun h => h, fun h => h, fun a b h => by cases h⟩
    | mulR q r => exact ⟨fun h => h, fun h => h, fun a b h => by cases h⟩
  | sub f a _ ih => cases f with
    | num w => exact ⟨fun h => ⟨h.1, ih.2.1 h.2⟩, fun h => h, fun a b h => by cases h⟩
    | _ => exact ⟨fun h => h, fun h => h, fun a b h => by cases h⟩
  | add x y ihx ihy => exact ⟨fun h => h, fun h => ⟨ihx.1 h.1, ihy.2.1 h.2⟩, fun a b h => by cases h; exact ⟨ihx.1, ihy.1⟩⟩
theorem gPP_app {rs us : List gRf} {i : Int} (h : gPP rs i) : gPP (rs ++ us) i := by
  unfold gPP at h ⊢
  rw [List.length_append]
  omega
theorem gRR_app {rs us : List gRf} {i : Int} (h : gRR rs i) : gRR (rs ++ us) i := by
  unfold gRR at h ⊢
  rw [List.length_append, List.getD_eq_getElem?_getD, List.getD_eq_getElem?_getD, List.getElem?_append_left (by omega), List.getElem?_append_left (by omega), ← List.getD_eq_getElem?_getD, ← List.getD_eq_getElem?_getD]
  exact ⟨h.1, by omega, h.2.2⟩
theorem gxWf_app {rs us : List gRf} {n : Nat} {e : gEx} (h : (gxWf (gPP rs) (gRR rs) n e).1) : (gxWf (gPP (rs ++ us)) (gRR (rs ++ us)) n e).1 := (gxWf_mono (fun _ => gPP_app) (fun _ => gRR_app) e).1 h
theorem gNmF_rng (b : List Int) : ∀ n i : Nat, gNmF b n i = -1 ∨ ((i : Int) ≤ gNmF b n i ∧ gNmF b n i < ((i + n : Nat) : Int)) := by
  intro n
  induction n with
  | zero => intro i; exact Or.inl rfl
  | succ n ih =>
    intro i
    unfold gNmF
    split
    · exact Or.inr ⟨Int.le_refl _, by omega⟩
    · rcases ih (i + 1) with q | q
      · exact Or.inl q
      · exact Or.inr ⟨by omega, by omega⟩
theorem gNmW_rng (b : List Int) : gNmW b = -1 ∨ (14 ≤ gNmW b ∧ gNmW b < 52) := gNmF_rng b 38 14
