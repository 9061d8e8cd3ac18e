/-! Formulas as trees; what they are worth; the code that works them out. A tree is written with the hands of Int.Internal.Linear.Expr:
  num x a number; var i the ref number i; neg a; mulR a 0 in brackets, mulR a 1 percent; mulL k (num q) the text of bytes k to q; mulL k (var _) the truth k; mulL i (neg _) the range whose corners are i and i + 1; mulL w (add a b) the work w of two; sub (num w) as the call of w (-1: of no name), its arguments as one list: add x xs, and num at its end. -/
abbrev gEx : Type := Int.Internal.Linear.Expr
def gxAL : gEx → List gEx
  | .add x xs => x :: gxAL xs
  | _ => []
def gxR : gEx → Bool
  | .mulL _ (.neg _) => true
  | _ => false
def gxV : gEx → Bool
  | .var _ => true
  | _ => false
/-- may these stand where the letters ask -/
def gxRt : List Int → List gEx → Bool
  | [], [] => true
  | c :: cs, e :: es => (if c = 114 then gxR e || gxV e else !gxR e) && gxRt cs es
  | _, _ => false
def gTks (w : Nat) : List Int := gSby.getD (gWta w) []
/-- as a range -/
def gxBx (T : Int → Int) (e : gEx) : gVl := match e with
  | .var i => if T (i : Int) < 0 then gE 2 else ⟨5, T (i : Int) * 5200 + T (i : Int), []⟩
  | .mulL i (.neg _) => if T i < 0 then gE 2 else ⟨5, T i * 5200 + T (i + 1), []⟩
  | _ => gE 2
/-- which argument is taken (some n, the first one being what it was made), or the outcome at once -/
def gxWt (w : Nat) (v : gVl) : Option Int × gVl :=
  if w = 25 then (if v.kd = 4 then (some 1, v) else (none, v))
  else if v.kd = 4 then (none, v)
  else if w = 24 then (match gToB v with | none => (none, gE 4) | some u => (some (2 - u.nm), u))
  else (match gToN v with | none => (none, gE 4) | some u => if u.nm < 1 ∨ 3 < u.nm then (none, gE 4) else (some u.nm, u))
def gxPi (w : Nat) (vs : List gVl) : gVl := match gxWt w (vs.getD 0 (gE 4)) with
  | (none, v) => v
  | (some n, _) => vs.getD n.toNat (gE 4)
/-- a call -/
def gxCv (E : Int → gVl) (T : Int → Int) (w : Int) (as : List gEx) (vs : List gVl) : gVl :=
  if w < 0 then gE 3 else if gxRt (gTks w.toNat) as = false then gE 4 else if gWgr w.toNat = 5 then gxPi w.toNat vs
  else gApp E w.toNat (fun i => if gSc (gWta w.toNat) i = 114 then gxBx T (as.getD i (.num 0)) else vs.getD i (gE 4))
/-- the value, E: of places, T: where refs are, S: the formula's bytes -/
def gxEv (E : Int → gVl) (T : Int → Int) (S : List Int) : gEx → gVl × List gVl
  | .num x => (gN x, [])
  | .var i => (if T (i : Int) < 0 then gE 2 else E (T (i : Int)), [])
  | .neg a => (gApp E 13 (fun _ => (gxEv E T S a).1), [])
  | .mulR a k => (if k = 0 then (gxEv E T S a).1 else gApp E 12 (fun _ => (gxEv E T S a).1), [])
  | .mulL k (.num q) => (gTxt ((S.drop k.toNat).take (q - k).toNat), [])
  | .mulL k (.var _) => (gB k, [])
  | .mulL k (.add a b) => (gApp E k.toNat (fun i => if i = 0 then (gxEv E T S a).1 else (gxEv E T S b).1), [])
  | .mulL _ (.neg _) => (gE 2, [])
  | .mulL _ (.sub _ _) => (gE 2, [])
  | .mulL _ (.mulL _ _) => (gE 2, [])
  | .mulL _ (.mulR _ _) => (gE 2, [])
  | .sub f as => (match f with | .num w => gxCv E T w (gxAL as) (gxEv E T S as).2 | _ => gE 2, [])
  | .add x xs => (gE 2, (gxEv E T S x).1 :: (gxEv E T S xs).2)
/-- a tree that may stand (the first: as an argument; the second: as arguments); P: ref numbers, R: those of ranges, n: how many bytes -/
def gxWf (P R : Int → Prop) (n : Nat) : gEx → Prop × Prop
  | .num x => (g64 x, True)
  | .var i => (P (i : Int), False)
  | .neg a => ((gxWf P R n a).1 ∧ gxR a = false, False)
  | .mulR a _ => ((gxWf P R n a).1 ∧ gxR a = false, False)
  | .mulL k (.num q) => (0 ≤ k ∧ k ≤ q ∧ q ≤ (n : Int) ∧ q - k ≤ 64, False)
  | .mulL k (.var _) => (0 ≤ k ∧ k ≤ 1, False)
  | .mulL k (.add a b) => (0 ≤ k ∧ k < 12 ∧ ((gxWf P R n a).1 ∧ gxR a = false) ∧ ((gxWf P R n b).1 ∧ gxR b = false), False)
  | .mulL k (.neg _) => (R k, False)
  | .mulL _ (.sub _ _) => (False, False)
  | .mulL _ (.mulL _ _) => (False, False)
  | .mulL _ (.mulR _ _) => (False, False)
  | .sub f as => (match f with | .num w => (w = -1 ∨ 14 ≤ w ∧ w < 52) ∧ (gxWf P R n as).2 | _ => False, False)
  | .add x xs => (False, (gxWf P R n x).1 ∧ (gxWf P R n xs).2)
/-- how long the code is -/
def gxCl (w : Int) (as : List gEx) (ns : List Nat) : Nat := if w < 0 then 1 else if gxRt (gTks w.toNat) as = false then 1 else if gWgr w.toNat = 5 then ns.sum + 2 * ns.length - 3 else ns.sum + 1
def gxLn : gEx → Nat × List Nat
  | .num _ => (1, [])
  | .var _ => (1, [])
  | .neg a => ((gxLn a).1 + 1, [])
  | .mulR a k => (if k = 0 then (gxLn a).1 else (gxLn a).1 + 1, [])
  | .mulL _ (.add a b) => ((gxLn a).1 + (gxLn b).1 + 1, [])
  | .mulL _ (.num _) => (1, [])
  | .mulL _ (.var _) => (1, [])
  | .mulL _ (.neg _) => (1, [])
  | .mulL _ (.sub _ _) => (1, [])
  | .mulL _ (.mulL _ _) => (1, [])
  | .mulL _ (.mulR _ _) => (1, [])
  | .sub f as => (match f with | .num w => gxCl w (gxAL as) (gxLn as).2 | _ => 1, [])
  | .add x xs => (0, (gxLn x).1 :: (gxLn xs).2)
/-- a step of the code -/
def gAt2 (M : gM) (c a : Nat) (op x : Int) : Prop := M (c + 9) a = op ∧ M (c + 10) a = x
def gxBc (M : gM) (c : Nat) (e : gEx) (a : Nat) : Prop := match e with
  | .var i => gAt2 M c a 5 (i : Int)
  | .mulL i (.neg _) => gAt2 M c a 6 i
  | _ => False
/-- arguments one behind the other -/
def gxSq (M : gM) (c : Nat) : List Int → List gEx → List (Nat → Prop) → List Nat → Nat → Prop
  | l :: ls, e :: es, f :: fs, n :: ns, a => (if l = 114 then gxBc M c e a else f a) ∧ gxSq M c ls es fs ns (a + n)
  | _, _, _, _, _ => True
/-- arguments of which one is picked: number k's pick stands at m, all ends at z -/
def gxPk (M : gM) (c : Nat) (op : Int) (z : Nat) : List (Nat → Prop) → List Nat → Nat → Nat → Prop
  | f :: fs, n :: ns, k, m => gAt2 M c m op (gEnc (k : Int) (if fs.isEmpty = true then (z : Int) else ((m + n + 2 : Nat) : Int)) (z : Int)) ∧ f (m + 1) ∧ (fs.isEmpty = false → gAt2 M c (m + 1 + n) 10 (z : Int)) ∧ gxPk M c op z fs ns (k + 1) (m + n + 2)
  | _, _, _, _ => True
def gxOp (w : Nat) : Int := if w = 24 then 7 else if w = 26 then 8 else 9
def gxCc (M : gM) (c : Nat) (w : Int) (as : List gEx) (fs : List (Nat → Prop)) (ns : List Nat) (a : Nat) : Prop :=
  if w < 0 then gAt2 M c a 3 3 else if gxRt (gTks w.toNat) as = false then gAt2 M c a 3 4
  else if gWgr w.toNat = 5 then (fs.headD (fun _ => False)) a ∧ gxPk M c (gxOp w.toNat) (a + gxCl w as ns) fs.tail ns.tail 1 (a + ns.headD 0)
  else gxSq M c (gTks w.toNat) as fs ns a ∧ gAt2 M c (a + ns.sum) 11 w
/-- the code of a tree stands at a; B: how many bytes of texts are used -/
def gxCo (M : gM) (c : Nat) (S : List Int) (B : Nat) : gEx → (Nat → Prop) × List (Nat → Prop)
  | .num x => (fun a => gAt2 M c a 0 x, [])
  | .var i => (fun a => gAt2 M c a 4 (i : Int), [])
  | .neg x => (fun a => (gxCo M c S B x).1 a ∧ gAt2 M c (a + (gxLn x).1) 11 13, [])
  | .mulR x k => (fun a => if k = 0 then (gxCo M c S B x).1 a else (gxCo M c S B x).1 a ∧ gAt2 M c (a + (gxLn x).1) 11 12, [])
  | .mulL k (.num q) => (fun a => ∃ p : Nat, gAt2 M c a 1 ((p : Int) * 240 + (q - k)) ∧ (p : Int) + (q - k) ≤ (B : Int) ∧ gBy M (c + 13) p (q - k).toNat = (S.drop k.toNat).take (q - k).toNat, [])
  | .mulL k (.var _) => (fun a => gAt2 M c a 2 k, [])
  | .mulL k (.add x y) => (fun a => (gxCo M c S B x).1 a ∧ (gxCo M c S B y).1 (a + (gxLn x).1) ∧ gAt2 M c (a + (gxLn x).1 + (gxLn y).1) 11 k, [])
  | .mulL _ (.neg _) => (fun _ => True, [])
  | .mulL _ (.sub _ _) => (fun _ => True, [])
  | .mulL _ (.mulL _ _) => (fun _ => True, [])
  | .mulL _ (.mulR _ _) => (fun _ => True, [])
  | .sub f as => (match f with | .num w => gxCc M c w (gxAL as) (gxCo M c S B as).2 (gxLn as).2 | _ => fun _ => True, [])
  | .add x xs => (fun _ => True, (gxCo M c S B x).1 :: (gxCo M c S B xs).2)
theorem gxAL_len : ∀ e : gEx, (gxLn e).2.length = (gxAL e).length := by
  intro e
  induction e with
  | add x xs _ ih => show (gxLn xs).2.length + 1 = (gxAL xs).length + 1; rw [ih]
  | mulL k a _ => cases a <;> rfl
  | _ => rfl
theorem gxEv_len (E : Int → gVl) (T : Int → Int) (S : List Int) : ∀ e : gEx, (gxEv E T S e).2.length = (gxAL e).length := by
  intro e
  induction e with
  | add x xs _ ih => show (gxEv E T S xs).2.length + 1 = (gxAL xs).length + 1; rw [ih]
  | mulL k a _ => cases a <;> rfl
  | _ => rfl
theorem gxCo_len (M : gM) (c : Nat) (S : List Int) (B : Nat) : ∀ e : gEx, (gxCo M c S B e).2.length = (gxAL e).length := by
  intro e
  induction e with
  | add x xs _ ih => show (gxCo M c S B xs).2.length + 1 = (gxAL xs).length + 1; rw [ih]
  | mulL k a _ => cases a <;> rfl
  | _ => rfl
theorem gxRt_len : ∀ (ls : List Int) (es : List gEx), gxRt ls es = true → ls.length = es.length := by
  intro ls
  induction ls with
  | nil => intro es h; cases es with
    | nil => rfl
    | cons e es => cases h
  | cons l ls ih => intro es h; cases es with
    | nil => cases h
    | cons e es =>
      unfold gxRt at h
      rw [Bool.and_eq_true] at h
      rw [List.length_cons, List.length_cons, ih es h.2]
theorem gxRt_at : ∀ (ls : List Int) (es : List gEx) (i : Nat), gxRt ls es = true → i < ls.length → (if ls.getD i 0 = 114 then gxR (es.getD i (.num 0)) || gxV (es.getD i (.num 0)) else !gxR (es.getD i (.num 0))) = true := by
  intro ls
  induction ls with
  | nil => intro es i _ h; exact absurd h (Nat.not_lt_zero _)
  | cons l ls ih => intro es i h hi; cases es with
    | nil => cases h
    | cons e es =>
      unfold gxRt at h
      rw [Bool.and_eq_true] at h
      cases i with
      | zero => exact h.1
      | succ i => exact ih es i h.2 (Nat.lt_of_succ_lt_succ hi)
