/-! What operators and functions make of values. -/
def gDec64 (x : Int) : Decidable (g64 x) := inferInstanceAs (Decidable (_ ∧ _))
def gE (n : Int) : gVl := ⟨4, n, []⟩
def gN (x : Int) : gVl := ⟨1, x, []⟩
def gB (x : Int) : gVl := ⟨3, x, []⟩
def gBi (p : Prop) [Decidable p] : gVl := gB (if p then 1 else 0)
/-- a number that is a long, or else the error -/
def gFit (x : Int) : gVl := @ite gVl (g64 x) (gDec64 x) (gN x) (gE 6)
theorem gFit_ok (x : Int) : gvOk (gFit x) := by
  unfold gFit
  split
  · rename_i h; exact gvN_ok h
  · exact gvE_ok (by decide)
theorem gBi_ok (p : Prop) [Decidable p] : gvOk (gBi p) := gvB_ok (by split <;> decide)
/-- letters: lower ones become capitals, and the other way -/
def gUpc (b : Int) : Int := if 97 ≤ b ∧ b < 123 then b - 32 else b
def gLoc (b : Int) : Int := if 65 ≤ b ∧ b < 91 then b + 32 else b
/-- does a stand at the front of b -/
def gPfx : List Int → List Int → Bool
  | [], _ => true
  | _ :: _, [] => false
  | x :: a, y :: b => x == y && gPfx a b
/-- the first place from p on where a stands in b; n: how many places are tried -/
def gFnd (a b : List Int) : Nat → Nat → Option Nat
  | 0, _ => none
  | n + 1, p => if gPfx a (b.drop p) = true then some p else gFnd a b n (p + 1)
def gFind (a b : List Int) (p : Nat) : Option Nat := gFnd a b (b.length + 1 - a.length - p) p
/-- b with each a that is found from the left replaced by r -/
def gRep1 (a r : List Int) : Nat → List Int → List Int
  | 0, b => b
  | n + 1, b => match b with
    | [] => []
    | x :: t => if a ≠ [] ∧ gPfx a (x :: t) = true then r ++ gRep1 a r n ((x :: t).drop a.length) else x :: gRep1 a r n t
def gRepl (a r b : List Int) : List Int := gRep1 a r b.length b
/-- places of n columns from column c on, in row r; then m rows -/
def gCol : Nat → Int → Int → List Int
  | 0, _, _ => []
  | n + 1, c, r => (c + 26 * r) :: gCol n (c + 1) r
def gRow : Nat → Nat → Int → Int → List Int
  | 0, _, _, _ => []
  | m + 1, n, c, r => gCol n c r ++ gRow m n c (r + 1)
/-- a range's first and last column, first and last row -/
abbrev gBx : Type := Int × Int × Int × Int
abbrev gBx.c (b : gBx) : Int := b.1
abbrev gBx.r (b : gBx) : Int := b.2.1
abbrev gBx.d (b : gBx) : Int := b.2.2.1
abbrev gBx.s (b : gBx) : Int := b.2.2.2
def gBox (x : Int) : gBx := ⟨min (x / 5200 % 26) (x % 5200 % 26), min (x / 5200 / 26) (x % 5200 / 26), max (x / 5200 % 26) (x % 5200 % 26), max (x / 5200 / 26) (x % 5200 / 26)⟩
def gBx.cells (b : gBx) : List Int := gRow (b.s - b.r + 1).toNat (b.d - b.c + 1).toNat b.c b.r
/-- the first error -/
def gErr1 : List gVl → Option Int
  | [] => none
  | v :: t => if v.kd = 4 then some v.nm else gErr1 t
def gNms : List gVl → List Int
  | [] => []
  | v :: t => if v.kd = 1 then v.nm :: gNms t else gNms t
/-- sums (products) that are longs all the way -/
def gSum : List Int → Int → Option Int
  | [], a => some a
  | x :: t, a => @ite (Option Int) (g64 (a + x)) (gDec64 _) (gSum t (a + x)) none
def gPrd : List Int → Int → Option Int
  | [], a => some a
  | x :: t, a => @ite (Option Int) (g64 (a * x)) (gDec64 _) (gPrd t (a * x)) none
def gMin : List Int → Int
  | [] => 0
  | x :: t => t.foldl min x
def gMax : List Int → Int
  | [] => 0
  | x :: t => t.foldl max x
def gOpt (o : Option Int) : gVl := match o with | some x => gN x | none => gE 6
/-- is the value v the sought x -/
def gIs1 (x v : gVl) : Prop := v.kd ≠ 4 ∧ gVc v x = 0
def gDIs1 (x v : gVl) : Decidable (gIs1 x v) := inferInstanceAs (Decidable (_ ∧ _))
/-- the number of the first value that is x, from n on -/
def gMat (x : gVl) : List gVl → Int → Option Int
  | [], _ => none
  | v :: t, n => @ite (Option Int) (gIs1 x v) (gDIs1 x v) (some n) (gMat x t (n + 1))
/-- sum and number of those that are x -/
def gSif (x : gVl) : List gVl → Int → Option Int
  | [], a => some a
  | v :: t, a => @ite (Option Int) (gIs1 x v) (gDIs1 x v) (let y := if v.kd = 1 then v.nm else 0; @ite (Option Int) (g64 (a + y)) (gDec64 _) (gSif x t (a + y)) none) (gSif x t a)
def gCif (x : gVl) : List gVl → Int
  | [] => 0
  | v :: t => (@ite Int (gIs1 x v) (gDIs1 x v) 1 0) + gCif x t
def gKds (p : Int → Bool) : List gVl → Int
  | [] => 0
  | v :: t => (if p v.kd then 1 else 0) + gKds p t
/-- the value in row i and column j of a range -/
def gShw (E : Int → gVl) (b : gBx) (i j : Int) : gVl := if 1 ≤ i ∧ i ≤ b.s - b.r + 1 ∧ 1 ≤ j ∧ j ≤ b.d - b.c + 1 then E ((b.c + j - 1) + 26 * (b.r + i - 1)) else gE 2
/-- row by row: the first row (from i on, of n) whose first place is x -/
def gLkp (E : Int → gVl) (x : gVl) (c : Int) : Nat → Int → Option Int
  | 0, _ => none
  | n + 1, r => @ite (Option Int) (gIs1 x (E (c + 26 * r))) (gDIs1 _ _) (some r) (gLkp E x c n (r + 1))
def gSgn (x : Int) : Int := if x < 0 then -1 else if 0 < x then 1 else 0
def gAbs (x : Int) : Int := if x < 0 then -x else x
/-- the work w of the values a, b, c: all that are asked for are there, and are what is asked -/
def gWk (E : Int → gVl) (w : Nat) (a b c : gVl) : gVl := match w with
  | 0 => gBi (gVc a b = 0)
  | 1 => gBi (gVc a b ≠ 0)
  | 2 => gBi (gVc a b < 0)
  | 3 => gBi (gVc a b ≤ 0)
  | 4 => gBi (0 < gVc a b)
  | 5 => gBi (0 ≤ gVc a b)
  | 6 => if 64 < a.tx.length + b.tx.length then gE 4 else gTxt (a.tx ++ b.tx)
  | 7 => gFit (a.nm + b.nm)
  | 8 => gFit (a.nm - b.nm)
  | 9 => gFit (a.nm * b.nm)
  | 10 => if b.nm = 0 then gE 5 else gFit (a.nm.tdiv b.nm)
  | 11 => if b.nm < 0 then gE 6 else gFit (a.nm ^ b.nm.toNat)
  | 12 => gN (a.nm.tdiv 100)
  | 13 => gFit (-a.nm)
  | 14 => let vs := (gBox a.nm).cells.map E; match gErr1 vs with | some e => gE e | none => gOpt (gSum (gNms vs) 0)
  | 15 => let vs := (gBox a.nm).cells.map E; match gErr1 vs with | some e => gE e | none => gOpt (gPrd (gNms vs) 1)
  | 16 => let vs := (gBox a.nm).cells.map E; match gErr1 vs with | some e => gE e | none => gN (gMin (gNms vs))
  | 17 => let vs := (gBox a.nm).cells.map E; match gErr1 vs with | some e => gE e | none => gN (gMax (gNms vs))
  | 18 => let vs := (gBox a.nm).cells.map E; match gErr1 vs with | some e => gE e | none => (match gSum (gNms vs) 0 with | none => gE 6 | some x => if (gNms vs).length = 0 then gE 5 else gN (x.tdiv ((gNms vs).length : Int)))
  | 19 => gN (gKds (fun k => k == 1) ((gBox a.nm).cells.map E))
  | 20 => gN (gKds (fun k => k != 0) ((gBox a.nm).cells.map E))
  | 21 => gBi (a.nm ≠ 0 ∧ b.nm ≠ 0)
  | 22 => gBi (a.nm ≠ 0 ∨ b.nm ≠ 0)
  | 23 => gBi (a.nm = 0)
  | 27 => gBi (a.kd = 4)
  | 28 => gBi (a.kd = 1)
  | 29 => gBi (a.kd = 2)
  | 30 => gBi (a.kd = 0)
  | 31 => gFit (gAbs a.nm)
  | 32 => gN (gSgn a.nm)
  | 33 => if b.nm = 0 then gE 5 else gN (a.nm.fmod b.nm)
  | 34 => gN a.nm
  | 35 => gTxt (a.tx.map gUpc)
  | 36 => gTxt (a.tx.map gLoc)
  | 37 => if b.nm < 0 then gE 4 else gTxt (a.tx.take b.nm.toNat)
  | 38 => if b.nm < 0 then gE 4 else gTxt (a.tx.drop (a.tx.length - b.nm.toNat))
  | 39 => if b.nm < 1 ∨ c.nm < 0 then gE 4 else gTxt ((a.tx.drop (b.nm - 1).toNat).take c.nm.toNat)
  | 40 => match gFind a.tx b.tx 0 with | some p => gN ((p : Int) + 1) | none => gE 4
  | 41 => if 64 < (gRepl b.tx c.tx a.tx).length then gE 4 else gTxt (gRepl b.tx c.tx a.tx)
  | 42 => gN ((gBox a.nm).r + 1)
  | 43 => gN ((gBox a.nm).c + 1)
  | 44 => gN ((gBox a.nm).s - (gBox a.nm).r + 1)
  | 45 => gN ((gBox a.nm).d - (gBox a.nm).c + 1)
  | 46 => gE 7
  | 47 => gShw E (gBox a.nm) b.nm c.nm
  | 48 => match gMat a ((gBox b.nm).cells.map E) 1 with | some n => gN n | none => gE 7
  | 49 => match gLkp E a (gBox b.nm).c ((gBox b.nm).s - (gBox b.nm).r + 1).toNat (gBox b.nm).r with | some r => gShw E (gBox b.nm) (r - (gBox b.nm).r + 1) c.nm | none => gE 7
  | 50 => gOpt (gSif b ((gBox a.nm).cells.map E) 0)
  | _ => gN (gCif b ((gBox a.nm).cells.map E))
