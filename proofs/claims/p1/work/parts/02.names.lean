/-! names: the classes whose objects the program makes (fields in the order of their declaration), and its methods -/
def gTb : List Cond := lw_tbl.filter goodWord
theorem gTb_mem {w : Cond} (h : w ∈ tables_1) (hg : goodWord w = true) : w ∈ gTb := List.mem_filter.mpr ⟨List.mem_append_right _ h, hg⟩
theorem gTb_sel {w : Cond} (h : w ∈ lw_tbl) (hg : goodWord w = true) : w ∈ gTb := List.mem_filter.mpr ⟨h, hg⟩
def gIsN : Cond → Bool
  | .methodLinkNest .. => true
  | .fieldLinkNest .. => true
  | _ => false
def gNst : List Cond := tables_1.filter gIsN
def gT_GL : u_T := fun k => match k with
  | 0 => ("GridLedger", "input", "[B", true)
  | 1 => ("GridLedger", "inputLength", "I", false)
  | 2 => ("GridLedger", "contents", "LGridLedger$Contents;", true)
  | 3 => ("GridLedger", "reader", "LGridLedger$Reader;", true)
  | 4 => ("GridLedger", "edits", "LGridLedger$Edits;", true)
  | 5 => ("GridLedger", "results", "LGridLedger$Results;", true)
  | 6 => ("GridLedger", "ring", "[LGridLedger$State;", true)
  | 7 => ("GridLedger", "draft", "LGridLedger$State;", false)
  | 8 => ("GridLedger", "now", "I", false)
  | 9 => ("GridLedger", "back", "I", false)
  | 10 => ("GridLedger", "ahead", "I", false)
  | _ => ("GridLedger", "done", "I", false)
def gY_GL : Nat → FieldType := fun k => match k with
  | 0 => .array .byte
  | 1 => .int
  | 2 => .object "GridLedger$Contents"
  | 3 => .object "GridLedger$Reader"
  | 4 => .object "GridLedger$Edits"
  | 5 => .object "GridLedger$Results"
  | 6 => .array (.object "GridLedger$State")
  | 7 => .object "GridLedger$State"
  | 8 => .int
  | 9 => .int
  | 10 => .int
  | _ => .int
def gT_GM : u_T := fun k => match k with
  | 0 => ("GridLedgerModel", "thrown", "I", false)
  | 1 => ("GridLedgerModel", "letters", "[B", true)
  | 2 => ("GridLedgerModel", "lettersEnd", "I", false)
  | 3 => ("GridLedgerModel", "read", "J", false)
  | 4 => ("GridLedgerModel", "sort", "[I", true)
  | 5 => ("GridLedgerModel", "first", "[I", true)
  | 6 => ("GridLedgerModel", "second", "[I", true)
  | 7 => ("GridLedgerModel", "next", "[I", true)
  | 8 => ("GridLedgerModel", "number", "[J", true)
  | 9 => ("GridLedgerModel", "nodes", "I", false)
  | 10 => ("GridLedgerModel", "formRoot", "[I", true)
  | 11 => ("GridLedgerModel", "formRef", "[I", true)
  | 12 => ("GridLedgerModel", "formMany", "[I", true)
  | 13 => ("GridLedgerModel", "forms", "I", false)
  | 14 => ("GridLedgerModel", "refPlace", "[I", true)
  | 15 => ("GridLedgerModel", "refFixed", "[I", true)
  | 16 => ("GridLedgerModel", "refCorner", "[I", true)
  | 17 => ("GridLedgerModel", "refEnd", "I", false)
  | 18 => ("GridLedgerModel", "kind", "[I", true)
  | 19 => ("GridLedgerModel", "from", "[I", true)
  | 20 => ("GridLedgerModel", "to", "[I", true)
  | 21 => ("GridLedgerModel", "place", "[I", true)
  | 22 => ("GridLedgerModel", "fixed", "[I", true)
  | 23 => ("GridLedgerModel", "value", "[J", true)
  | 24 => ("GridLedgerModel", "many", "I", false)
  | 25 => ("GridLedgerModel", "at", "I", false)
  | 26 => ("GridLedgerModel", "deep", "I", false)
  | 27 => ("GridLedgerModel", "bad", "Z", false)
  | 28 => ("GridLedgerModel", "what", "[I", true)
  | 29 => ("GridLedgerModel", "textFrom", "[I", true)
  | 30 => ("GridLedgerModel", "textTo", "[I", true)
  | 31 => ("GridLedgerModel", "refAt", "[I", true)
  | 32 => ("GridLedgerModel", "digits", "[J", true)
  | 33 => ("GridLedgerModel", "refs", "[I", true)
  | 34 => ("GridLedgerModel", "refsEnd", "[I", true)
  | 35 => ("GridLedgerModel", "early", "I", false)
  | 36 => ("GridLedgerModel", "now", "I", false)
  | 37 => ("GridLedgerModel", "late", "I", false)
  | 38 => ("GridLedgerModel", "sortOf", "[I", true)
  | 39 => ("GridLedgerModel", "lengthOf", "[I", true)
  | 40 => ("GridLedgerModel", "sortWas", "[I", true)
  | 41 => ("GridLedgerModel", "lengthWas", "[I", true)
  | 42 => ("GridLedgerModel", "longOf", "[J", true)
  | 43 => ("GridLedgerModel", "longWas", "[J", true)
  | 44 => ("GridLedgerModel", "textOf", "[B", true)
  | 45 => ("GridLedgerModel", "textWas", "[B", true)
  | 46 => ("GridLedgerModel", "pSort", "[I", true)
  | 47 => ("GridLedgerModel", "pLength", "[I", true)
  | 48 => ("GridLedgerModel", "pLong", "[J", true)
  | 49 => ("GridLedgerModel", "pText", "[B", true)
  | 50 => ("GridLedgerModel", "top", "I", false)
  | 51 => ("GridLedgerModel", "state", "I", false)
  | 52 => ("GridLedgerModel", "cell", "I", false)
  | 53 => ("GridLedgerModel", "line", "[B", true)
  | 54 => ("GridLedgerModel", "outcome", "J", false)
  | 55 => ("GridLedgerModel", "which", "I", false)
  | 56 => ("GridLedgerModel", "boxC", "I", false)
  | 57 => ("GridLedgerModel", "boxR", "I", false)
  | 58 => ("GridLedgerModel", "boxD", "I", false)
  | 59 => ("GridLedgerModel", "boxS", "I", false)
  | 60 => ("GridLedgerModel", "made", "[B", true)
  | 61 => ("GridLedgerModel", "list", "[I", true)
  | 62 => ("GridLedgerModel", "index", "[I", true)
  | 63 => ("GridLedgerModel", "reach", "[J", true)
  | 64 => ("GridLedgerModel", "done", "[Z", true)
  | 65 => ("GridLedgerModel", "cycles", "I", false)
  | 66 => ("GridLedgerModel", "formulas", "I", false)
  | 67 => ("GridLedgerModel", "direct", "[J", true)
  | 68 => ("GridLedgerModel", "changed", "[I", true)
  | 69 => ("GridLedgerModel", "changes", "I", false)
  | 70 => ("GridLedgerModel", "edits", "I", false)
  | 71 => ("GridLedgerModel", "input", "[B", true)
  | _ => ("GridLedgerModel", "inputEnd", "I", false)
def gY_GM : Nat → FieldType := fun k => match k with
  | 0 => .int
  | 1 => .array .byte
  | 2 => .int
  | 3 => .long
  | 4 => .array .int
  | 5 => .array .int
  | 6 => .array .int
  | 7 => .array .int
  | 8 => .array .long
  | 9 => .int
  | 10 => .array .int
  | 11 => .array .int
  | 12 => .array .int
  | 13 => .int
  | 14 => .array .int
  | 15 => .array .int
  | 16 => .array .int
  | 17 => .int
  | 18 => .array .int
  | 19 => .array .int
  | 20 => .array .int
  | 21 => .array .int
  | 22 => .array .int
  | 23 => .array .long
  | 24 => .int
  | 25 => .int
  | 26 => .int
  | 27 => .boolean
  | 28 => .array .int
  | 29 => .array .int
  | 30 => .array .int
  | 31 => .array .int
  | 32 => .array .long
  | 33 => .array .int
  | 34 => .array .int
  | 35 => .int
  | 36 => .int
  | 37 => .int
  | 38 => .array .int
  | 39 => .array .int
  | 40 => .array .int
  | 41 => .array .int
  | 42 => .array .long
  | 43 => .array .long
  | 44 => .array .byte
  | 45 => .array .byte
  | 46 => .array .int
  | 47 => .array .int
  | 48 => .array .long
  | 49 => .array .byte
  | 50 => .int
  | 51 => .int
  | 52 => .int
  | 53 => .array .byte
  | 54 => .long
  | 55 => .int
  | 56 => .int
  | 57 => .int
  | 58 => .int
  | 59 => .int
  | 60 => .array .byte
  | 61 => .array .int
  | 62 => .array .int
  | 63 => .array .long
  | 64 => .array .boolean
  | 65 => .int
  | 66 => .int
  | 67 => .array .long
  | 68 => .array .int
  | 69 => .int
  | 70 => .int
  | 71 => .array .byte
  | _ => .int
def gT_Bx : u_T := fun k => match k with
  | 0 => ("GridLedger$Boxes", "stack", "LGridLedger$Values;", true)
  | 1 => ("GridLedger$Boxes", "at", "[I", true)
  | 2 => ("GridLedger$Boxes", "cells", "LGridLedger$Values;", false)
  | 3 => ("GridLedger$Boxes", "firstColumn", "I", false)
  | 4 => ("GridLedger$Boxes", "lastColumn", "I", false)
  | 5 => ("GridLedger$Boxes", "firstRow", "I", false)
  | _ => ("GridLedger$Boxes", "lastRow", "I", false)
def gY_Bx : Nat → FieldType := fun k => match k with
  | 0 => .object "GridLedger$Values"
  | 1 => .array .int
  | 2 => .object "GridLedger$Values"
  | 3 => .int
  | 4 => .int
  | 5 => .int
  | _ => .int
def gT_Cn : u_T := fun k => match k with
  | 0 => ("GridLedger$Contents", "kind", "[I", true)
  | 1 => ("GridLedger$Contents", "codeStart", "[I", true)
  | 2 => ("GridLedger$Contents", "codeEnd", "[I", true)
  | 3 => ("GridLedger$Contents", "refStart", "[I", true)
  | 4 => ("GridLedger$Contents", "refs", "[I", true)
  | 5 => ("GridLedger$Contents", "ranges", "[I", true)
  | 6 => ("GridLedger$Contents", "op", "[I", true)
  | 7 => ("GridLedger$Contents", "operand", "[J", true)
  | 8 => ("GridLedger$Contents", "target", "[I", true)
  | 9 => ("GridLedger$Contents", "shape", "[I", true)
  | 10 => ("GridLedger$Contents", "bytes", "[B", true)
  | 11 => ("GridLedger$Contents", "made", "I", false)
  | 12 => ("GridLedger$Contents", "codeSize", "I", false)
  | 13 => ("GridLedger$Contents", "refSize", "I", false)
  | _ => ("GridLedger$Contents", "byteSize", "I", false)
def gY_Cn : Nat → FieldType := fun k => match k with
  | 0 => .array .int
  | 1 => .array .int
  | 2 => .array .int
  | 3 => .array .int
  | 4 => .array .int
  | 5 => .array .int
  | 6 => .array .int
  | 7 => .array .long
  | 8 => .array .int
  | 9 => .array .int
  | 10 => .array .byte
  | 11 => .int
  | 12 => .int
  | 13 => .int
  | _ => .int
def gT_Ed : u_T := fun k => match k with
  | 0 => ("GridLedger$Edits", "contents", "LGridLedger$Contents;", true)
  | 1 => ("GridLedger$Edits", "moving", "[I", true)
  | 2 => ("GridLedger$Edits", "now", "LGridLedger$State;", false)
  | 3 => ("GridLedger$Edits", "draft", "LGridLedger$State;", false)
  | 4 => ("GridLedger$Edits", "columns", "Z", false)
  | 5 => ("GridLedger$Edits", "inserting", "Z", false)
  | 6 => ("GridLedger$Edits", "line", "I", false)
  | _ => ("GridLedger$Edits", "lines", "I", false)
def gY_Ed : Nat → FieldType := fun k => match k with
  | 0 => .object "GridLedger$Contents"
  | 1 => .array .int
  | 2 => .object "GridLedger$State"
  | 3 => .object "GridLedger$State"
  | 4 => .boolean
  | 5 => .boolean
  | 6 => .int
  | _ => .int
def gT_Ma : u_T := fun k => match k with
  | 0 => ("GridLedger$Machine", "stack", "LGridLedger$Values;", true)
  | 1 => ("GridLedger$Machine", "scratch", "[B", true)
  | 2 => ("GridLedger$Machine", "contents", "LGridLedger$Contents;", true)
  | 3 => ("GridLedger$Machine", "boxes", "LGridLedger$Boxes;", true)
  | 4 => ("GridLedger$Machine", "state", "LGridLedger$State;", false)
  | 5 => ("GridLedger$Machine", "firstTarget", "I", false)
  | _ => ("GridLedger$Machine", "top", "I", false)
def gY_Ma : Nat → FieldType := fun k => match k with
  | 0 => .object "GridLedger$Values"
  | 1 => .array .byte
  | 2 => .object "GridLedger$Contents"
  | 3 => .object "GridLedger$Boxes"
  | 4 => .object "GridLedger$State"
  | 5 => .int
  | _ => .int
def gT_Or : u_T := fun k => match k with
  | 0 => ("GridLedger$Order", "contents", "LGridLedger$Contents;", true)
  | 1 => ("GridLedger$Order", "reads", "[J", true)
  | 2 => ("GridLedger$Order", "sorted", "[I", true)
  | 3 => ("GridLedger$Order", "circular", "[Z", true)
  | 4 => ("GridLedger$Order", "met", "[I", true)
  | 5 => ("GridLedger$Order", "earliest", "[I", true)
  | 6 => ("GridLedger$Order", "waiting", "[I", true)
  | 7 => ("GridLedger$Order", "waits", "[Z", true)
  | 8 => ("GridLedger$Order", "path", "[I", true)
  | 9 => ("GridLedger$Order", "nextRead", "[I", true)
  | 10 => ("GridLedger$Order", "meetings", "I", false)
  | 11 => ("GridLedger$Order", "waitingSize", "I", false)
  | _ => ("GridLedger$Order", "sortedSize", "I", false)
def gY_Or : Nat → FieldType := fun k => match k with
  | 0 => .object "GridLedger$Contents"
  | 1 => .array .long
  | 2 => .array .int
  | 3 => .array .boolean
  | 4 => .array .int
  | 5 => .array .int
  | 6 => .array .int
  | 7 => .array .boolean
  | 8 => .array .int
  | 9 => .array .int
  | 10 => .int
  | 11 => .int
  | _ => .int
def gT_Rd : u_T := fun k => match k with
  | 0 => ("GridLedger$Reader", "input", "[B", true)
  | 1 => ("GridLedger$Reader", "contents", "LGridLedger$Contents;", true)
  | 2 => ("GridLedger$Reader", "tokens", "LGridLedger$Tokens;", true)
  | 3 => ("GridLedger$Reader", "mark", "[I", true)
  | 4 => ("GridLedger$Reader", "at", "I", false)
  | _ => ("GridLedger$Reader", "failed", "Z", false)
def gY_Rd : Nat → FieldType := fun k => match k with
  | 0 => .array .byte
  | 1 => .object "GridLedger$Contents"
  | 2 => .object "GridLedger$Tokens"
  | 3 => .array .int
  | 4 => .int
  | _ => .boolean
def gT_Rs : u_T := fun k => match k with
  | 0 => ("GridLedger$Results", "at", "[I", true)
  | 1 => ("GridLedger$Results", "change", "[I", true)
  | 2 => ("GridLedger$Results", "order", "LGridLedger$Order;", true)
  | 3 => ("GridLedger$Results", "machine", "LGridLedger$Machine;", true)
  | 4 => ("GridLedger$Results", "values", "LGridLedger$Values;", false)
  | 5 => ("GridLedger$Results", "before", "LGridLedger$Values;", false)
  | 6 => ("GridLedger$Results", "shown", "LGridLedger$State;", false)
  | _ => ("GridLedger$Results", "changes", "I", false)
def gY_Rs : Nat → FieldType := fun k => match k with
  | 0 => .array .int
  | 1 => .array .int
  | 2 => .object "GridLedger$Order"
  | 3 => .object "GridLedger$Machine"
  | 4 => .object "GridLedger$Values"
  | 5 => .object "GridLedger$Values"
  | 6 => .object "GridLedger$State"
  | _ => .int
def gT_St : u_T := fun k => match k with
  | 0 => ("GridLedger$State", "cells", "I", false)
  | 1 => ("GridLedger$State", "place", "[I", true)
  | 2 => ("GridLedger$State", "content", "[I", true)
  | 3 => ("GridLedger$State", "start", "[I", true)
  | _ => ("GridLedger$State", "target", "[I", true)
def gY_St : Nat → FieldType := fun k => match k with
  | 0 => .int
  | 1 => .array .int
  | 2 => .array .int
  | 3 => .array .int
  | _ => .array .int
def gT_Tk : u_T := fun k => match k with
  | 0 => ("GridLedger$Tokens", "bytes", "[B", true)
  | 1 => ("GridLedger$Tokens", "kind", "[I", true)
  | 2 => ("GridLedger$Tokens", "from", "[I", true)
  | 3 => ("GridLedger$Tokens", "to", "[I", true)
  | 4 => ("GridLedger$Tokens", "place", "[I", true)
  | _ => ("GridLedger$Tokens", "size", "I", false)
def gY_Tk : Nat → FieldType := fun k => match k with
  | 0 => .array .byte
  | 1 => .array .int
  | 2 => .array .int
  | 3 => .array .int
  | 4 => .array .int
  | _ => .int
def gT_Vl : u_T := fun k => match k with
  | 0 => ("GridLedger$Values", "kind", "[I", true)
  | 1 => ("GridLedger$Values", "number", "[J", true)
  | _ => ("GridLedger$Values", "text", "[[B", true)
def gY_Vl : Nat → FieldType := fun k => match k with
  | 0 => .array .int
  | 1 => .array .long
  | _ => .array (.array .byte)
def gT_E : u_T := fun _ => ("", "", "", false)
def gCl : List vw_C := [("GridLedger", gT_GL, 12), ("GridLedgerModel", gT_GM, 73), ("GridLedger$Boxes", gT_Bx, 7), ("GridLedger$Contents", gT_Cn, 15), ("GridLedger$Edits", gT_Ed, 8), ("GridLedger$Machine", gT_Ma, 7), ("GridLedger$Order", gT_Or, 13), ("GridLedger$Reader", gT_Rd, 6), ("GridLedger$Results", gT_Rs, 8), ("GridLedger$State", gT_St, 5), ("GridLedger$Tokens", gT_Tk, 6), ("GridLedger$Values", gT_Vl, 3), ("java/lang/IndexOutOfBoundsException", gT_E, 0), ("java/lang/IllegalArgumentException", gT_E, 0), ("java/lang/IllegalStateException", gT_E, 0), ("java/util/NoSuchElementException", gT_E, 0)]
def gFk : Nat → Nat → Nat := fun c k => match c with
  | 0 => ([2, 0, 2, 2, 2, 2, 2, 2, 0, 0, 0, 0] : List Nat).getD k 0
  | 1 => ([0, 2, 0, 1, 2, 2, 2, 2, 2, 0, 2, 2, 2, 0, 2, 2, 2, 0, 2, 2, 2, 2, 2, 2, 0, 0, 0, 4, 2, 2, 2, 2, 2, 2, 2, 0, 0, 0, 2, 2, 2, 2, 2, 2, 2, 2, 2, 2, 2, 2, 0, 0, 0, 2, 1, 0, 0, 0, 0, 0, 2, 2, 2, 2, 2, 0, 0, 2, 2, 0, 0, 2, 0] : List Nat).getD k 0
  | 2 => ([2, 2, 2, 0, 0, 0, 0] : List Nat).getD k 0
  | 3 => ([2, 2, 2, 2, 2, 2, 2, 2, 2, 2, 2, 0, 0, 0, 0] : List Nat).getD k 0
  | 4 => ([2, 2, 2, 2, 4, 4, 0, 0] : List Nat).getD k 0
  | 5 => ([2, 2, 2, 2, 2, 0, 0] : List Nat).getD k 0
  | 6 => ([2, 2, 2, 2, 2, 2, 2, 2, 2, 2, 0, 0, 0] : List Nat).getD k 0
  | 7 => ([2, 2, 2, 2, 0, 4] : List Nat).getD k 0
  | 8 => ([2, 2, 2, 2, 2, 2, 2, 0] : List Nat).getD k 0
  | 9 => ([0, 2, 2, 2, 2] : List Nat).getD k 0
  | 10 => ([2, 2, 2, 2, 2, 0] : List Nat).getD k 0
  | _ => ([2, 2, 2] : List Nat).getD k 0
def gFy : Nat → Nat → FieldType := fun c => match c with
  | 0 => gY_GL
  | 1 => gY_GM
  | 2 => gY_Bx
  | 3 => gY_Cn
  | 4 => gY_Ed
  | 5 => gY_Ma
  | 6 => gY_Or
  | 7 => gY_Rd
  | 8 => gY_Rs
  | 9 => gY_St
  | 10 => gY_Tk
  | _ => gY_Vl
theorem gNm_GL : ∀ a, a < 12 → ∀ b, b < 12 → a ≠ b → (gT_GL a).2.1 ≠ (gT_GL b).2.1 := by decide +kernel
theorem gTy_GL : ∀ k, k < 12 → parseFieldDescriptor (gT_GL k).2.2.1 = some (gY_GL k) := by decide +kernel
theorem gKy_GL : ∀ k, k < 12 → defaultValue (gY_GL k) = (match gFk 0 k with | 1 => Value.long 0 | 2 => Value.null | _ => Value.int 0) := by decide +kernel
set_option maxRecDepth 20000 in
theorem gIn_GL : ∀ w ∈ u_ws "GridLedger" gT_GL 12, w ∈ gTb := by
  have h : (u_ws "GridLedger" gT_GL 12).all (fun w => decide (w ∈ tables_1) && goodWord w) = true := by decide +kernel
  intro w hw
  have h1 := List.all_eq_true.mp h w hw
  simp only [Bool.and_eq_true, decide_eq_true_eq] at h1
  exact gTb_mem h1.1 h1.2
theorem gNm_GM : ∀ a, a < 73 → ∀ b, b < 73 → a ≠ b → (gT_GM a).2.1 ≠ (gT_GM b).2.1 := by decide +kernel
theorem gTy_GM : ∀ k, k < 73 → parseFieldDescriptor (gT_GM k).2.2.1 = some (gY_GM k) := by decide +kernel
theorem gKy_GM : ∀ k, k < 73 → defaultValue (gY_GM k) = (match gFk 1 k with | 1 => Value.long 0 | 2 => Value.null | _ => Value.int 0) := by decide +kernel
set_option maxRecDepth 20000 in
theorem gIn_GM : ∀ w ∈ u_ws "GridLedgerModel" gT_GM 73, w ∈ gTb := by
  have h : (u_ws "GridLedgerModel" gT_GM 73).all (fun w => decide (w ∈ tables_1) && goodWord w) = true := by decide +kernel
  intro w hw
  have h1 := List.all_eq_true.mp h w hw
  simp only [Bool.and_eq_true, decide_eq_true_eq] at h1
  exact gTb_mem h1.1 h1.2
theorem gNm_Bx : ∀ a, a < 7 → ∀ b, b < 7 → a ≠ b → (gT_Bx a).2.1 ≠ (gT_Bx b).2.1 := by decide +kernel
theorem gTy_Bx : ∀ k, k < 7 → parseFieldDescriptor (gT_Bx k).2.2.1 = some (gY_Bx k) := by decide +kernel
theorem gKy_Bx : ∀ k, k < 7 → defaultValue (gY_Bx k) = (match gFk 2 k with | 1 => Value.long 0 | 2 => Value.null | _ => Value.int 0) := by decide +kernel
set_option maxRecDepth 20000 in
theorem gIn_Bx : ∀ w ∈ u_ws "GridLedger$Boxes" gT_Bx 7, w ∈ gTb := by
  have h : (u_ws "GridLedger$Boxes" gT_Bx 7).all (fun w => decide (w ∈ tables_1) && goodWord w) = true := by decide +kernel
  intro w hw
  have h1 := List.all_eq_true.mp h w hw
  simp only [Bool.and_eq_true, decide_eq_true_eq] at h1
  exact gTb_mem h1.1 h1.2
theorem gNm_Cn : ∀ a, a < 15 → ∀ b, b < 15 → a ≠ b → (gT_Cn a).2.1 ≠ (gT_Cn b).2.1 := by decide +kernel
theorem gTy_Cn : ∀ k, k < 15 → parseFieldDescriptor (gT_Cn k).2.2.1 = some (gY_Cn k) := by decide +kernel
theorem gKy_Cn : ∀ k, k < 15 → defaultValue (gY_Cn k) = (match gFk 3 k with | 1 => Value.long 0 | 2 => Value.null | _ => Value.int 0) := by decide +kernel
set_option maxRecDepth 20000 in
theorem gIn_Cn : ∀ w ∈ u_ws "GridLedger$Contents" gT_Cn 15, w ∈ gTb := by
  have h : (u_ws "GridLedger$Contents" gT_Cn 15).all (fun w => decide (w ∈ tables_1) && goodWord w) = true := by decide +kernel
  intro w hw
  have h1 := List.all_eq_true.mp h w hw
  simp only [Bool.and_eq_true, decide_eq_true_eq] at h1
  exact gTb_mem h1.1 h1.2
theorem gNm_Ed : ∀ a, a < 8 → ∀ b, b < 8 → a ≠ b → (gT_Ed a).2.1 ≠ (gT_Ed b).2.1 := by decide +kernel
theorem gTy_Ed : ∀ k, k < 8 → parseFieldDescriptor (gT_Ed k).2.2.1 = some (gY_Ed k) := by decide +kernel
theorem gKy_Ed : ∀ k, k < 8 → defaultValue (gY_Ed k) = (match gFk 4 k with | 1 => Value.long 0 | 2 => Value.null | _ => Value.int 0) := by decide +kernel
set_option maxRecDepth 20000 in
theorem gIn_Ed : ∀ w ∈ u_ws "GridLedger$Edits" gT_Ed 8, w ∈ gTb := by
  have h : (u_ws "GridLedger$Edits" gT_Ed 8).all (fun w => decide (w ∈ tables_1) && goodWord w) = true := by decide +kernel
  intro w hw
  have h1 := List.all_eq_true.mp h w hw
  simp only [Bool.and_eq_true, decide_eq_true_eq] at h1
  exact gTb_mem h1.1 h1.2
theorem gNm_Ma : ∀ a, a < 7 → ∀ b, b < 7 → a ≠ b → (gT_Ma a).2.1 ≠ (gT_Ma b).2.1 := by decide +kernel
theorem gTy_Ma : ∀ k, k < 7 → parseFieldDescriptor (gT_Ma k).2.2.1 = some (gY_Ma k) := by decide +kernel
theorem gKy_Ma : ∀ k, k < 7 → defaultValue (gY_Ma k) = (match gFk 5 k with | 1 => Value.long 0 | 2 => Value.null | _ => Value.int 0) := by decide +kernel
set_option maxRecDepth 20000 in
theorem gIn_Ma : ∀ w ∈ u_ws "GridLedger$Machine" gT_Ma 7, w ∈ gTb := by
  have h : (u_ws "GridLedger$Machine" gT_Ma 7).all (fun w => decide (w ∈ tables_1) && goodWord w) = true := by decide +kernel
  intro w hw
  have h1 := List.all_eq_true.mp h w hw
  simp only [Bool.and_eq_true, decide_eq_true_eq] at h1
  exact gTb_mem h1.1 h1.2
theorem gNm_Or : ∀ a, a < 13 → ∀ b, b < 13 → a ≠ b → (gT_Or a).2.1 ≠ (gT_Or b).2.1 := by decide +kernel
theorem gTy_Or : ∀ k, k < 13 → parseFieldDescriptor (gT_Or k).2.2.1 = some (gY_Or k) := by decide +kernel
theorem gKy_Or : ∀ k, k < 13 → defaultValue (gY_Or k) = (match gFk 6 k with | 1 => Value.long 0 | 2 => Value.null | _ => Value.int 0) := by decide +kernel
set_option maxRecDepth 20000 in
theorem gIn_Or : ∀ w ∈ u_ws "GridLedger$Order" gT_Or 13, w ∈ gTb := by
  have h : (u_ws "GridLedger$Order" gT_Or 13).all (fun w => decide (w ∈ tables_1) && goodWord w) = true := by decide +kernel
  intro w hw
  have h1 := List.all_eq_true.mp h w hw
  simp only [Bool.and_eq_true, decide_eq_true_eq] at h1
  exact gTb_mem h1.1 h1.2
theorem gNm_Rd : ∀ a, a < 6 → ∀ b, b < 6 → a ≠ b → (gT_Rd a).2.1 ≠ (gT_Rd b).2.1 := by decide +kernel
theorem gTy_Rd : ∀ k, k < 6 → parseFieldDescriptor (gT_Rd k).2.2.1 = some (gY_Rd k) := by decide +kernel
theorem gKy_Rd : ∀ k, k < 6 → defaultValue (gY_Rd k) = (match gFk 7 k with | 1 => Value.long 0 | 2 => Value.null | _ => Value.int 0) := by decide +kernel
set_option maxRecDepth 20000 in
theorem gIn_Rd : ∀ w ∈ u_ws "GridLedger$Reader" gT_Rd 6, w ∈ gTb := by
  have h : (u_ws "GridLedger$Reader" gT_Rd 6).all (fun w => decide (w ∈ tables_1) && goodWord w) = true := by decide +kernel
  intro w hw
  have h1 := List.all_eq_true.mp h w hw
  simp only [Bool.and_eq_true, decide_eq_true_eq] at h1
  exact gTb_mem h1.1 h1.2
theorem gNm_Rs : ∀ a, a < 8 → ∀ b, b < 8 → a ≠ b → (gT_Rs a).2.1 ≠ (gT_Rs b).2.1 := by decide +kernel
theorem gTy_Rs : ∀ k, k < 8 → parseFieldDescriptor (gT_Rs k).2.2.1 = some (gY_Rs k) := by decide +kernel
theorem gKy_Rs : ∀ k, k < 8 → defaultValue (gY_Rs k) = (match gFk 8 k with | 1 => Value.long 0 | 2 => Value.null | _ => Value.int 0) := by decide +kernel
set_option maxRecDepth 20000 in
theorem gIn_Rs : ∀ w ∈ u_ws "GridLedger$Results" gT_Rs 8, w ∈ gTb := by
  have h : (u_ws "GridLedger$Results" gT_Rs 8).all (fun w => decide (w ∈ tables_1) && goodWord w) = true := by decide +kernel
  intro w hw
  have h1 := List.all_eq_true.mp h w hw
  simp only [Bool.and_eq_true, decide_eq_true_eq] at h1
  exact gTb_mem h1.1 h1.2
theorem gNm_St : ∀ a, a < 5 → ∀ b, b < 5 → a ≠ b → (gT_St a).2.1 ≠ (gT_St b).2.1 := by decide +kernel
theorem gTy_St : ∀ k, k < 5 → parseFieldDescriptor (gT_St k).2.2.1 = some (gY_St k) := by decide +kernel
theorem gKy_St : ∀ k, k < 5 → defaultValue (gY_St k) = (match gFk 9 k with | 1 => Value.long 0 | 2 => Value.null | _ => Value.int 0) := by decide +kernel
set_option maxRecDepth 20000 in
theorem gIn_St : ∀ w ∈ u_ws "GridLedger$State" gT_St 5, w ∈ gTb := by
  have h : (u_ws "GridLedger$State" gT_St 5).all (fun w => decide (w ∈ tables_1) && goodWord w) = true := by decide +kernel
  intro w hw
  have h1 := List.all_eq_true.mp h w hw
  simp only [Bool.and_eq_true, decide_eq_true_eq] at h1
  exact gTb_mem h1.1 h1.2
theorem gNm_Tk : ∀ a, a < 6 → ∀ b, b < 6 → a ≠ b → (gT_Tk a).2.1 ≠ (gT_Tk b).2.1 := by decide +kernel
theorem gTy_Tk : ∀ k, k < 6 → parseFieldDescriptor (gT_Tk k).2.2.1 = some (gY_Tk k) := by decide +kernel
theorem gKy_Tk : ∀ k, k < 6 → defaultValue (gY_Tk k) = (match gFk 10 k with | 1 => Value.long 0 | 2 => Value.null | _ => Value.int 0) := by decide +kernel
set_option maxRecDepth 20000 in
theorem gIn_Tk : ∀ w ∈ u_ws "GridLedger$Tokens" gT_Tk 6, w ∈ gTb := by
  have h : (u_ws "GridLedger$Tokens" gT_Tk 6).all (fun w => decide (w ∈ tables_1) && goodWord w) = true := by decide +kernel
  intro w hw
  have h1 := List.all_eq_true.mp h w hw
  simp only [Bool.and_eq_true, decide_eq_true_eq] at h1
  exact gTb_mem h1.1 h1.2
theorem gNm_Vl : ∀ a, a < 3 → ∀ b, b < 3 → a ≠ b → (gT_Vl a).2.1 ≠ (gT_Vl b).2.1 := by decide +kernel
theorem gTy_Vl : ∀ k, k < 3 → parseFieldDescriptor (gT_Vl k).2.2.1 = some (gY_Vl k) := by decide +kernel
theorem gKy_Vl : ∀ k, k < 3 → defaultValue (gY_Vl k) = (match gFk 11 k with | 1 => Value.long 0 | 2 => Value.null | _ => Value.int 0) := by decide +kernel
set_option maxRecDepth 20000 in
theorem gIn_Vl : ∀ w ∈ u_ws "GridLedger$Values" gT_Vl 3, w ∈ gTb := by
  have h : (u_ws "GridLedger$Values" gT_Vl 3).all (fun w => decide (w ∈ tables_1) && goodWord w) = true := by decide +kernel
  intro w hw
  have h1 := List.all_eq_true.mp h w hw
  simp only [Bool.and_eq_true, decide_eq_true_eq] at h1
  exact gTb_mem h1.1 h1.2
theorem gCl_all : ∀ (ci : Nat) (q : vw_C), gCl[ci]? = some q → (∀ a, a < q.2.2 → ∀ b, b < q.2.2 → a ≠ b → (q.2.1 a).2.1 ≠ (q.2.1 b).2.1) ∧ (∀ k, k < q.2.2 → parseFieldDescriptor (q.2.1 k).2.2.1 = some (gFy ci k)) ∧ (∀ w ∈ u_ws q.1 q.2.1 q.2.2, w ∈ gTb) ∧ (∀ k, k < q.2.2 → defaultValue (gFy ci k) = (match gFk ci k with | 1 => Value.long 0 | 2 => Value.null | _ => Value.int 0)) := by
  intro ci q h
  match ci, h with
  | 0, h => cases h; exact ⟨gNm_GL, gTy_GL, gIn_GL, gKy_GL⟩
  | 1, h => cases h; exact ⟨gNm_GM, gTy_GM, gIn_GM, gKy_GM⟩
  | 2, h => cases h; exact ⟨gNm_Bx, gTy_Bx, gIn_Bx, gKy_Bx⟩
  | 3, h => cases h; exact ⟨gNm_Cn, gTy_Cn, gIn_Cn, gKy_Cn⟩
  | 4, h => cases h; exact ⟨gNm_Ed, gTy_Ed, gIn_Ed, gKy_Ed⟩
  | 5, h => cases h; exact ⟨gNm_Ma, gTy_Ma, gIn_Ma, gKy_Ma⟩
  | 6, h => cases h; exact ⟨gNm_Or, gTy_Or, gIn_Or, gKy_Or⟩
  | 7, h => cases h; exact ⟨gNm_Rd, gTy_Rd, gIn_Rd, gKy_Rd⟩
  | 8, h => cases h; exact ⟨gNm_Rs, gTy_Rs, gIn_Rs, gKy_Rs⟩
  | 9, h => cases h; exact ⟨gNm_St, gTy_St, gIn_St, gKy_St⟩
  | 10, h => cases h; exact ⟨gNm_Tk, gTy_Tk, gIn_Tk, gKy_Tk⟩
  | 11, h => cases h; exact ⟨gNm_Vl, gTy_Vl, gIn_Vl, gKy_Vl⟩
  | 12, h => cases h; exact ⟨fun a ha => absurd ha (Nat.not_lt_zero a), fun k hk => absurd hk (Nat.not_lt_zero k), fun w hw => by simp [u_ws] at hw, fun k hk => absurd hk (Nat.not_lt_zero k)⟩
  | 13, h => cases h; exact ⟨fun a ha => absurd ha (Nat.not_lt_zero a), fun k hk => absurd hk (Nat.not_lt_zero k), fun w hw => by simp [u_ws] at hw, fun k hk => absurd hk (Nat.not_lt_zero k)⟩
  | 14, h => cases h; exact ⟨fun a ha => absurd ha (Nat.not_lt_zero a), fun k hk => absurd hk (Nat.not_lt_zero k), fun w hw => by simp [u_ws] at hw, fun k hk => absurd hk (Nat.not_lt_zero k)⟩
  | 15, h => cases h; exact ⟨fun a ha => absurd ha (Nat.not_lt_zero a), fun k hk => absurd hk (Nat.not_lt_zero k), fun w hw => by simp [u_ws] at hw, fun k hk => absurd hk (Nat.not_lt_zero k)⟩
  | (n + 16), h => simp [gCl] at h
abbrev gMt : Type := MethodName × ByteArray × Nat × Option FieldType
abbrev y_GL_init : gMt := (⟨"GridLedger", "<init>", "()V"⟩, prog_1_method_1_code, 2, (Option.none : Option Jvm.ClassFile.FieldType))
abbrev y_Cn_init : gMt := (⟨"GridLedger$Contents", "<init>", "()V"⟩, prog_4_method_1_code, 1, (Option.none : Option Jvm.ClassFile.FieldType))
abbrev y_Rd_init : gMt := (⟨"GridLedger$Reader", "<init>", "([BLGridLedger$Contents;)V"⟩, prog_8_method_1_code, 3, (Option.none : Option Jvm.ClassFile.FieldType))
abbrev y_Tk_init : gMt := (⟨"GridLedger$Tokens", "<init>", "([B)V"⟩, prog_11_method_1_code, 2, (Option.none : Option Jvm.ClassFile.FieldType))
abbrev y_Ed_init : gMt := (⟨"GridLedger$Edits", "<init>", "(LGridLedger$Contents;)V"⟩, prog_5_method_1_code, 2, (Option.none : Option Jvm.ClassFile.FieldType))
abbrev y_St_init : gMt := (⟨"GridLedger$State", "<init>", "()V"⟩, prog_10_method_1_code, 1, (Option.none : Option Jvm.ClassFile.FieldType))
abbrev y_Rs_init : gMt := (⟨"GridLedger$Results", "<init>", "(LGridLedger$Contents;LGridLedger$State;)V"⟩, prog_9_method_1_code, 4, (Option.none : Option Jvm.ClassFile.FieldType))
abbrev y_Vl_init : gMt := (⟨"GridLedger$Values", "<init>", "(I)V"⟩, prog_12_method_1_code, 2, (Option.none : Option Jvm.ClassFile.FieldType))
abbrev y_Or_init : gMt := (⟨"GridLedger$Order", "<init>", "(LGridLedger$Contents;)V"⟩, prog_7_method_1_code, 2, (Option.none : Option Jvm.ClassFile.FieldType))
abbrev y_Ma_init : gMt := (⟨"GridLedger$Machine", "<init>", "(LGridLedger$Contents;[ILGridLedger$State;LGridLedger$Values;)V"⟩, prog_6_method_1_code, 5, (Option.none : Option Jvm.ClassFile.FieldType))
abbrev y_Bx_init : gMt := (⟨"GridLedger$Boxes", "<init>", "(LGridLedger$Values;[ILGridLedger$Values;)V"⟩, prog_3_method_1_code, 4, (Option.none : Option Jvm.ClassFile.FieldType))
abbrev y_GL_count : gMt := (⟨"GridLedger", "count", "(I)I"⟩, prog_1_method_15_code, 2, (Option.some Jvm.ClassFile.FieldType.int))
abbrev y_GL_formulas : gMt := (⟨"GridLedger", "formulas", "()I"⟩, prog_1_method_22_code, 3, (Option.some Jvm.ClassFile.FieldType.int))
abbrev y_Rs_cycles : gMt := (⟨"GridLedger$Results", "cycles", "(I)I"⟩, prog_9_method_4_code, 4, (Option.some Jvm.ClassFile.FieldType.int))
def tb_Lw_feed : List (Nat × Nat × Nat × Nat) := [((0 : Nat), (16 : Nat), (19 : Nat), (13 : Nat))]
abbrev y_Lw_feed : gMt := (⟨"GridLedgerLaw", "feed", "(LGridLedger;IIIII[J)I"⟩, method_3_code, 8, (Option.some Jvm.ClassFile.FieldType.int))
abbrev y_GL_feed : gMt := (⟨"GridLedger", "feed", "(IIIII)I"⟩, prog_1_method_2_code, 6, (Option.some Jvm.ClassFile.FieldType.int))
abbrev y_GL_take : gMt := (⟨"GridLedger", "take", "(I)V"⟩, prog_1_method_16_code, 3, (Option.none : Option Jvm.ClassFile.FieldType))
def tb_Lw_end : List (Nat × Nat × Nat × Nat) := [((0 : Nat), (9 : Nat), (12 : Nat), (19 : Nat))]
abbrev y_Lw_end : gMt := (⟨"GridLedgerLaw", "end", "(LGridLedger;I[J)I"⟩, method_4_code, 4, (Option.some Jvm.ClassFile.FieldType.int))
abbrev y_GL_end : gMt := (⟨"GridLedger", "end", "(I)I"⟩, prog_1_method_3_code, 2, (Option.some Jvm.ClassFile.FieldType.int))
abbrev y_GL_need : gMt := (⟨"GridLedger", "need", "(Z)V"⟩, prog_1_method_17_code, 1, (Option.none : Option Jvm.ClassFile.FieldType))
def tb_Lw_put : List (Nat × Nat × Nat × Nat) := [((0 : Nat), (10 : Nat), (13 : Nat), (19 : Nat)), ((0 : Nat), (10 : Nat), (17 : Nat), (25 : Nat))]
abbrev y_Lw_put : gMt := (⟨"GridLedgerLaw", "put", "(LGridLedger;II[J)I"⟩, method_5_code, 5, (Option.some Jvm.ClassFile.FieldType.int))
abbrev y_GL_put : gMt := (⟨"GridLedger", "put", "(II)I"⟩, prog_1_method_4_code, 5, (Option.some Jvm.ClassFile.FieldType.int))
abbrev y_GL_needCell : gMt := (⟨"GridLedger", "needCell", "(II)V"⟩, prog_1_method_18_code, 2, (Option.none : Option Jvm.ClassFile.FieldType))
abbrev y_Rd_typed : gMt := (⟨"GridLedger$Reader", "typed", "(I)I"⟩, prog_8_method_2_code, 5, (Option.some Jvm.ClassFile.FieldType.int))
abbrev y_Rd_isPrintable : gMt := (⟨"GridLedger$Reader", "isPrintable", "(I)Z"⟩, prog_8_method_3_code, 3, (Option.some Jvm.ClassFile.FieldType.boolean))
abbrev y_Vl_isNumber : gMt := (⟨"GridLedger$Values", "isNumber", "([BII)Z"⟩, prog_12_method_14_code, 11, (Option.some Jvm.ClassFile.FieldType.boolean))
abbrev y_GL_place : gMt := (⟨"GridLedger", "place", "(II)I"⟩, prog_1_method_19_code, 2, (Option.some Jvm.ClassFile.FieldType.int))
abbrev y_Ed_open : gMt := (⟨"GridLedger$Edits", "open", "(LGridLedger$State;LGridLedger$State;)V"⟩, prog_5_method_2_code, 3, (Option.none : Option Jvm.ClassFile.FieldType))
abbrev y_Ed_replaced : gMt := (⟨"GridLedger$Edits", "replaced", "(II)Z"⟩, prog_5_method_3_code, 5, (Option.some Jvm.ClassFile.FieldType.boolean))
abbrev y_Ed_written : gMt := (⟨"GridLedger$Edits", "written", "(IIIIII)Z"⟩, prog_5_method_5_code, 10, (Option.some Jvm.ClassFile.FieldType.boolean))
abbrev y_St_entryFrom : gMt := (⟨"GridLedger$State", "entryFrom", "(I)I"⟩, prog_10_method_4_code, 6, (Option.some Jvm.ClassFile.FieldType.int))
abbrev y_St_addRun : gMt := (⟨"GridLedger$State", "addRun", "(LGridLedger$State;II)Z"⟩, prog_10_method_7_code, 7, (Option.some Jvm.ClassFile.FieldType.boolean))
abbrev y_Ed_addMoved : gMt := (⟨"GridLedger$Edits", "addMoved", "(IIII)V"⟩, prog_5_method_6_code, 11, (Option.none : Option Jvm.ClassFile.FieldType))
abbrev y_St_addEntry : gMt := (⟨"GridLedger$State", "addEntry", "(II)V"⟩, prog_10_method_5_code, 3, (Option.none : Option Jvm.ClassFile.FieldType))
abbrev y_Ed_rangesFit : gMt := (⟨"GridLedger$Edits", "rangesFit", "()Z"⟩, prog_5_method_16_code, 3, (Option.some Jvm.ClassFile.FieldType.boolean))
abbrev y_Ed_rangeCells : gMt := (⟨"GridLedger$Edits", "rangeCells", "(I)I"⟩, prog_5_method_17_code, 9, (Option.some Jvm.ClassFile.FieldType.int))
abbrev y_GL_land : gMt := (⟨"GridLedger", "land", "(Z)V"⟩, prog_1_method_21_code, 3, (Option.none : Option Jvm.ClassFile.FieldType))
abbrev y_jMath_min : gMt := (⟨"java/lang/Math", "min", "(II)I"⟩, prog_23_method_69_code, 2, (Option.some Jvm.ClassFile.FieldType.int))
abbrev y_Rs_follow : gMt := (⟨"GridLedger$Results", "follow", "(LGridLedger$State;)I"⟩, prog_9_method_2_code, 6, (Option.some Jvm.ClassFile.FieldType.int))
abbrev y_Or_arrange : gMt := (⟨"GridLedger$Order", "arrange", "(LGridLedger$State;[I)V"⟩, prog_7_method_2_code, 4, (Option.none : Option Jvm.ClassFile.FieldType))
abbrev y_Or_markReads : gMt := (⟨"GridLedger$Order", "markReads", "(LGridLedger$State;[II)V"⟩, prog_7_method_3_code, 7, (Option.none : Option Jvm.ClassFile.FieldType))
abbrev y_Or_search : gMt := (⟨"GridLedger$Order", "search", "(I)V"⟩, prog_7_method_6_code, 6, (Option.none : Option Jvm.ClassFile.FieldType))
abbrev y_Ma_open : gMt := (⟨"GridLedger$Machine", "open", "(LGridLedger$State;LGridLedger$Values;)V"⟩, prog_6_method_2_code, 3, (Option.none : Option Jvm.ClassFile.FieldType))
abbrev y_Vl_set : gMt := (⟨"GridLedger$Values", "set", "(IIJ)V"⟩, prog_12_method_2_code, 5, (Option.none : Option Jvm.ClassFile.FieldType))
abbrev y_Ma_run : gMt := (⟨"GridLedger$Machine", "run", "(I)V"⟩, prog_6_method_3_code, 10, (Option.none : Option Jvm.ClassFile.FieldType))
abbrev y_Vl_setFrom : gMt := (⟨"GridLedger$Values", "setFrom", "(ILGridLedger$Values;I)V"⟩, prog_12_method_5_code, 4, (Option.none : Option Jvm.ClassFile.FieldType))
abbrev y_Rs_compareWith : gMt := (⟨"GridLedger$Results", "compareWith", "(LGridLedger$State;)V"⟩, prog_9_method_3_code, 7, (Option.none : Option Jvm.ClassFile.FieldType))
def tb_Lw_fill : List (Nat × Nat × Nat × Nat) := [((0 : Nat), (18 : Nat), (21 : Nat), (19 : Nat)), ((0 : Nat), (18 : Nat), (25 : Nat), (25 : Nat))]
abbrev y_Lw_fill : gMt := (⟨"GridLedgerLaw", "fill", "(LGridLedger;IIIIII[J)I"⟩, method_6_code, 9, (Option.some Jvm.ClassFile.FieldType.int))
abbrev y_GL_fill : gMt := (⟨"GridLedger", "fill", "(IIIIII)I"⟩, prog_1_method_5_code, 7, (Option.some Jvm.ClassFile.FieldType.int))
abbrev y_Ed_filled : gMt := (⟨"GridLedger$Edits", "filled", "(IIIII)Z"⟩, prog_5_method_4_code, 8, (Option.some Jvm.ClassFile.FieldType.boolean))
abbrev y_St_refs : gMt := (⟨"GridLedger$State", "refs", "(I)I"⟩, prog_10_method_2_code, 2, (Option.some Jvm.ClassFile.FieldType.int))
def tb_Lw_insert : List (Nat × Nat × Nat × Nat) := [((0 : Nat), (12 : Nat), (15 : Nat), (19 : Nat)), ((0 : Nat), (12 : Nat), (19 : Nat), (25 : Nat))]
abbrev y_Lw_insert : gMt := (⟨"GridLedgerLaw", "insert", "(LGridLedger;ZII[J)I"⟩, method_7_code, 6, (Option.some Jvm.ClassFile.FieldType.int))
abbrev y_GL_insert : gMt := (⟨"GridLedger", "insert", "(ZII)I"⟩, prog_1_method_6_code, 4, (Option.some Jvm.ClassFile.FieldType.int))
abbrev y_GL_lines : gMt := (⟨"GridLedger", "lines", "(Z)I"⟩, prog_1_method_20_code, 1, (Option.some Jvm.ClassFile.FieldType.int))
abbrev y_Ed_shifted : gMt := (⟨"GridLedger$Edits", "shifted", "(ZZII)Z"⟩, prog_5_method_8_code, 7, (Option.some Jvm.ClassFile.FieldType.boolean))
abbrev y_Ed_followed : gMt := (⟨"GridLedger$Edits", "followed", "(I)I"⟩, prog_5_method_13_code, 4, (Option.some Jvm.ClassFile.FieldType.int))
abbrev y_Ed_addFollowed : gMt := (⟨"GridLedger$Edits", "addFollowed", "(I)V"⟩, prog_5_method_9_code, 5, (Option.none : Option Jvm.ClassFile.FieldType))
def tb_Lw_erase : List (Nat × Nat × Nat × Nat) := [((0 : Nat), (12 : Nat), (15 : Nat), (19 : Nat)), ((0 : Nat), (12 : Nat), (19 : Nat), (25 : Nat))]
abbrev y_Lw_erase : gMt := (⟨"GridLedgerLaw", "erase", "(LGridLedger;ZII[J)I"⟩, method_8_code, 6, (Option.some Jvm.ClassFile.FieldType.int))
abbrev y_GL_erase : gMt := (⟨"GridLedger", "erase", "(ZII)I"⟩, prog_1_method_7_code, 4, (Option.some Jvm.ClassFile.FieldType.int))
def tb_Lw_undo : List (Nat × Nat × Nat × Nat) := [((0 : Nat), (8 : Nat), (11 : Nat), (25 : Nat))]
abbrev y_Lw_undo : gMt := (⟨"GridLedgerLaw", "undo", "(LGridLedger;[J)I"⟩, method_9_code, 3, (Option.some Jvm.ClassFile.FieldType.int))
abbrev y_GL_undo : gMt := (⟨"GridLedger", "undo", "()I"⟩, prog_1_method_8_code, 1, (Option.some Jvm.ClassFile.FieldType.int))
def tb_Lw_redo : List (Nat × Nat × Nat × Nat) := [((0 : Nat), (8 : Nat), (11 : Nat), (25 : Nat))]
abbrev y_Lw_redo : gMt := (⟨"GridLedgerLaw", "redo", "(LGridLedger;[J)I"⟩, method_10_code, 3, (Option.some Jvm.ClassFile.FieldType.int))
abbrev y_GL_redo : gMt := (⟨"GridLedger", "redo", "()I"⟩, prog_1_method_9_code, 1, (Option.some Jvm.ClassFile.FieldType.int))
def tb_Lw_value : List (Nat × Nat × Nat × Nat) := [((0 : Nat), (11 : Nat), (14 : Nat), (19 : Nat))]
abbrev y_Lw_value : gMt := (⟨"GridLedgerLaw", "value", "(LGridLedger;III[J)I"⟩, method_11_code, 6, (Option.some Jvm.ClassFile.FieldType.int))
abbrev y_GL_value : gMt := (⟨"GridLedger", "value", "(III)J"⟩, prog_1_method_10_code, 5, (Option.some Jvm.ClassFile.FieldType.long))
def tb_Lw_letter : List (Nat × Nat × Nat × Nat) := [((0 : Nat), (12 : Nat), (15 : Nat), (19 : Nat)), ((0 : Nat), (12 : Nat), (19 : Nat), (53 : Nat))]
abbrev y_Lw_letter : gMt := (⟨"GridLedgerLaw", "letter", "(LGridLedger;III[J)I"⟩, method_12_code, 6, (Option.some Jvm.ClassFile.FieldType.int))
abbrev y_GL_letter : gMt := (⟨"GridLedger", "letter", "(III)I"⟩, prog_1_method_11_code, 6, (Option.some Jvm.ClassFile.FieldType.int))
def tb_Lw_content : List (Nat × Nat × Nat × Nat) := [((0 : Nat), (12 : Nat), (15 : Nat), (19 : Nat))]
abbrev y_Lw_content : gMt := (⟨"GridLedgerLaw", "content", "(LGridLedger;III[J)I"⟩, method_13_code, 6, (Option.some Jvm.ClassFile.FieldType.int))
abbrev y_GL_content : gMt := (⟨"GridLedger", "content", "(III)I"⟩, prog_1_method_12_code, 5, (Option.some Jvm.ClassFile.FieldType.int))
abbrev y_St_gone : gMt := (⟨"GridLedger$State", "gone", "(I)I"⟩, prog_10_method_3_code, 4, (Option.some Jvm.ClassFile.FieldType.int))
def tb_Lw_reference : List (Nat × Nat × Nat × Nat) := [((0 : Nat), (12 : Nat), (15 : Nat), (19 : Nat)), ((0 : Nat), (12 : Nat), (19 : Nat), (53 : Nat))]
abbrev y_Lw_reference : gMt := (⟨"GridLedgerLaw", "reference", "(LGridLedger;III[J)I"⟩, method_14_code, 6, (Option.some Jvm.ClassFile.FieldType.int))
abbrev y_GL_reference : gMt := (⟨"GridLedger", "reference", "(III)I"⟩, prog_1_method_13_code, 5, (Option.some Jvm.ClassFile.FieldType.int))
def tb_Lw_changed : List (Nat × Nat × Nat × Nat) := [((0 : Nat), (9 : Nat), (12 : Nat), (53 : Nat))]
abbrev y_Lw_changed : gMt := (⟨"GridLedgerLaw", "changed", "(LGridLedger;I[J)I"⟩, method_15_code, 4, (Option.some Jvm.ClassFile.FieldType.int))
abbrev y_GL_changed : gMt := (⟨"GridLedger", "changed", "(I)I"⟩, prog_1_method_14_code, 2, (Option.some Jvm.ClassFile.FieldType.int))
abbrev y_GM_init : gMt := (⟨"GridLedgerModel", "<init>", "()V"⟩, prog_15_method_1_code, 1, (Option.none : Option Jvm.ClassFile.FieldType))
abbrev y_GM_thrown : gMt := (⟨"GridLedgerModel", "thrown", "()I"⟩, prog_15_method_2_code, 1, (Option.some Jvm.ClassFile.FieldType.int))
abbrev y_GM_feed : gMt := (⟨"GridLedgerModel", "feed", "(IIIII)I"⟩, prog_15_method_80_code, 8, (Option.some Jvm.ClassFile.FieldType.int))
abbrev y_GM_no : gMt := (⟨"GridLedgerModel", "no", "(I)I"⟩, prog_15_method_3_code, 2, (Option.some Jvm.ClassFile.FieldType.int))
abbrev y_GM_end : gMt := (⟨"GridLedgerModel", "end", "(I)I"⟩, prog_15_method_81_code, 2, (Option.some Jvm.ClassFile.FieldType.int))
abbrev y_GM_put : gMt := (⟨"GridLedgerModel", "put", "(II)I"⟩, prog_15_method_83_code, 11, (Option.some Jvm.ClassFile.FieldType.int))
abbrev y_GM_inSheet : gMt := (⟨"GridLedgerModel", "inSheet", "(II)Z"⟩, prog_15_method_82_code, 2, (Option.some Jvm.ClassFile.FieldType.boolean))
abbrev y_GM_isNumber : gMt := (⟨"GridLedgerModel", "isNumber", "([BII)Z"⟩, prog_15_method_7_code, 9, (Option.some Jvm.ClassFile.FieldType.boolean))
abbrev y_GM_slot : gMt := (⟨"GridLedgerModel", "slot", "(I)I"⟩, prog_15_method_24_code, 1, (Option.some Jvm.ClassFile.FieldType.int))
abbrev y_GM_copyAll : gMt := (⟨"GridLedgerModel", "copyAll", "(II)V"⟩, prog_15_method_27_code, 4, (Option.none : Option Jvm.ClassFile.FieldType))
abbrev y_GM_clear : gMt := (⟨"GridLedgerModel", "clear", "(I)V"⟩, prog_15_method_25_code, 3, (Option.none : Option Jvm.ClassFile.FieldType))
abbrev y_GM_copy : gMt := (⟨"GridLedgerModel", "copy", "(IIII)V"⟩, prog_15_method_26_code, 9, (Option.none : Option Jvm.ClassFile.FieldType))
abbrev y_GM_accept : gMt := (⟨"GridLedgerModel", "accept", "()I"⟩, prog_15_method_79_code, 1, (Option.some Jvm.ClassFile.FieldType.int))
abbrev y_GM_contents : gMt := (⟨"GridLedgerModel", "contents", "(I)I"⟩, prog_15_method_28_code, 4, (Option.some Jvm.ClassFile.FieldType.int))
abbrev y_GM_ranges : gMt := (⟨"GridLedgerModel", "ranges", "(I)I"⟩, prog_15_method_35_code, 5, (Option.some Jvm.ClassFile.FieldType.int))
abbrev y_GM_ref_2 : gMt := (⟨"GridLedgerModel", "ref", "(III)I"⟩, prog_15_method_29_code, 4, (Option.some Jvm.ClassFile.FieldType.int))
abbrev y_GM_show : gMt := (⟨"GridLedgerModel", "show", "()I"⟩, prog_15_method_78_code, 2, (Option.some Jvm.ClassFile.FieldType.int))
abbrev y_GM_remember : gMt := (⟨"GridLedgerModel", "remember", "()V"⟩, prog_15_method_76_code, 3, (Option.none : Option Jvm.ClassFile.FieldType))
abbrev y_GM_evaluate : gMt := (⟨"GridLedgerModel", "evaluate", "(I)V"⟩, prog_15_method_72_code, 5, (Option.none : Option Jvm.ClassFile.FieldType))
abbrev y_GM_readsOf : gMt := (⟨"GridLedgerModel", "readsOf", "(I)V"⟩, prog_15_method_74_code, 9, (Option.none : Option Jvm.ClassFile.FieldType))
abbrev y_GM_reaches : gMt := (⟨"GridLedgerModel", "reaches", "(II)Z"⟩, prog_15_method_70_code, 3, (Option.some Jvm.ClassFile.FieldType.boolean))
abbrev y_GM_ready : gMt := (⟨"GridLedgerModel", "ready", "(I)Z"⟩, prog_15_method_73_code, 3, (Option.some Jvm.ClassFile.FieldType.boolean))
abbrev y_GM_workOut : gMt := (⟨"GridLedgerModel", "workOut", "(I)V"⟩, prog_15_method_75_code, 4, (Option.none : Option Jvm.ClassFile.FieldType))
abbrev y_GM_isChanged : gMt := (⟨"GridLedgerModel", "isChanged", "(I)Z"⟩, prog_15_method_77_code, 3, (Option.some Jvm.ClassFile.FieldType.boolean))
abbrev y_GM_fill : gMt := (⟨"GridLedgerModel", "fill", "(IIIIII)I"⟩, prog_15_method_84_code, 13, (Option.some Jvm.ClassFile.FieldType.int))
abbrev y_GM_move : gMt := (⟨"GridLedgerModel", "move", "(III)V"⟩, prog_15_method_85_code, 10, (Option.none : Option Jvm.ClassFile.FieldType))
abbrev y_GM_insert : gMt := (⟨"GridLedgerModel", "insert", "(ZII)I"⟩, prog_15_method_90_code, 4, (Option.some Jvm.ClassFile.FieldType.int))
abbrev y_GM_shift : gMt := (⟨"GridLedgerModel", "shift", "(ZII)I"⟩, prog_15_method_87_code, 11, (Option.some Jvm.ClassFile.FieldType.int))
abbrev y_GM_moved : gMt := (⟨"GridLedgerModel", "moved", "(IIII)I"⟩, prog_15_method_86_code, 4, (Option.some Jvm.ClassFile.FieldType.int))
abbrev y_GM_erase : gMt := (⟨"GridLedgerModel", "erase", "(ZII)I"⟩, prog_15_method_91_code, 4, (Option.some Jvm.ClassFile.FieldType.int))
abbrev y_GM_undo : gMt := (⟨"GridLedgerModel", "undo", "()I"⟩, prog_15_method_92_code, 1, (Option.some Jvm.ClassFile.FieldType.int))
abbrev y_GM_redo : gMt := (⟨"GridLedgerModel", "redo", "()I"⟩, prog_15_method_93_code, 1, (Option.some Jvm.ClassFile.FieldType.int))
abbrev y_GM_value : gMt := (⟨"GridLedgerModel", "value", "(III)J"⟩, prog_15_method_94_code, 5, (Option.some Jvm.ClassFile.FieldType.long))
abbrev y_GM_letter_2 : gMt := (⟨"GridLedgerModel", "letter", "(III)I"⟩, prog_15_method_95_code, 5, (Option.some Jvm.ClassFile.FieldType.int))
abbrev y_GM_content : gMt := (⟨"GridLedgerModel", "content", "(III)I"⟩, prog_15_method_96_code, 9, (Option.some Jvm.ClassFile.FieldType.int))
abbrev y_GM_reference : gMt := (⟨"GridLedgerModel", "reference", "(III)I"⟩, prog_15_method_97_code, 6, (Option.some Jvm.ClassFile.FieldType.int))
abbrev y_GM_changed : gMt := (⟨"GridLedgerModel", "changed", "(I)I"⟩, prog_15_method_98_code, 2, (Option.some Jvm.ClassFile.FieldType.int))
abbrev y_GM_count : gMt := (⟨"GridLedgerModel", "count", "(I)I"⟩, prog_15_method_99_code, 2, (Option.some Jvm.ClassFile.FieldType.int))
abbrev y_Lw_law : gMt := (⟨"GridLedgerLaw", "law", "([I)Z"⟩, code, maxLocals, ret)
