/-! What was there before the run: Work's constants, the strings, WORKS, TIGHTNESS, the switch map: one hypothesis gOld G Q, and rules over it. Written by wip/whole/gen_old.py -/
/-- addresses: works, strings, their bytes, WORKS, TIGHTNESS, the switch map -/
abbrev gQ : Type := (Nat → Nat) × (Nat → Nat) × (Nat → Nat) × Nat × Nat × Nat
def gWn : List String := ["EQUAL", "UNEQUAL", "BELOW", "NOT_ABOVE", "ABOVE", "NOT_BELOW", "JOIN", "PLUS", "MINUS", "TIMES", "DIVIDE", "POWER", "PERCENT", "NEGATE", "SUM", "PRODUCT", "MIN", "MAX", "AVERAGE", "COUNT", "COUNTA", "AND", "OR", "NOT", "IF", "IFERROR", "CHOOSE", "ISERROR", "ISNUMBER", "ISTEXT", "ISBLANK", "ABS", "SIGN", "MOD", "LEN", "UPPER", "LOWER", "LEFT", "RIGHT", "MID", "FIND", "REPLACE", "ROW", "COLUMN", "ROWS", "COLUMNS", "NA", "INDEX", "MATCH", "LOOKUP", "SUMIF", "COUNTIF"]
def gWti (i : Nat) : Nat := ([13, 13, 13, 13, 13, 13, 13, 13, 13, 13, 13, 13, 13, 13, 18, 8, 19, 20, 10, 21, 22, 23, 25, 26, 28, 30, 32, 34, 36, 37, 38, 39, 40, 41, 42, 44, 45, 46, 48, 49, 51, 52, 54, 55, 56, 57, 58, 59, 61, 63, 11, 65] : List Nat).getD i 0
def gWta (i : Nat) : Nat := ([14, 14, 14, 14, 14, 14, 15, 16, 16, 16, 16, 16, 17, 17, 9, 9, 9, 9, 9, 9, 9, 24, 24, 27, 29, 31, 33, 35, 35, 35, 35, 17, 17, 16, 43, 43, 43, 47, 47, 50, 15, 53, 9, 9, 9, 9, 13, 60, 62, 64, 12, 12] : List Nat).getD i 0
def gWgr (i : Nat) : Int := ([0, 0, 0, 0, 0, 0, 4, 1, 1, 1, 1, 1, 1, 1, 6, 6, 6, 6, 6, 7, 7, 2, 2, 2, 5, 5, 5, 3, 3, 3, 3, 1, 1, 1, 4, 4, 4, 4, 4, 4, 4, 4, 7, 7, 7, 7, 3, 8, 8, 8, 8, 8] : List Int).getD i 0
def gTg (i : Nat) : Int := ([1, 1, 1, 1, 1, 1, 2, 3, 3, 4, 4, 5, 0, 0, 0, 0, 0, 0, 0, 0, 0, 0, 0, 0, 0] : List Int).getD i 0
def gSw (i : Nat) : Int := ([3, 4, 5, 6, 7, 0, 23, 8, 9, 10, 11, 12, 13, 14, 31, 33, 34, 35, 32, 40, 0, 17, 18, 0, 1, 0, 2, 19, 20, 21, 22, 15, 16, 0, 24, 25, 26, 27, 28, 29, 30, 0, 36, 37, 38, 39, 0, 41, 42, 43, 0, 0] : List Int).getD i 0
def gSrc : List (String × Nat × String) := [("GridLedger$Tokens", 62, "TRUE"), ("GridLedger$Tokens", 68, "FALSE"), ("GridLedger$Reader", 140, ""), ("GridLedger$Values", 75, "TRUE"), ("GridLedger$Values", 77, "FALSE"), ("GridLedgerModel", 193, "TRUE"), ("GridLedgerModel", 199, "FALSE"), ("GridLedgerModel", 393, "SUM:r PRODUCT:r MIN:r MAX:r AVERAGE:r COUNT:r COUNTA:r AND:bb OR:bb NOT:b IF:bxx IFERROR:xx CHOOSE:nxxx ISERROR:x ISNUMBER:x ISTEXT:x ISBLANK:x ABS:n SIGN:n MOD:nn LEN:t UPPER:t LOWER:t LEFT:tn RIGHT:tn MID:tnn FIND:tt REPLACE:ttt ROW:r COLUMN:r ROWS:r COLUMNS:r NA: INDEX:rnn MATCH:xr LOOKUP:xrn SUMIF:rx COUNTIF:rx "), ("GridLedger$Work", 222, "PRODUCT"), ("GridLedger$Work", 220, "\x72"), ("GridLedger$Work", 225, "AVERAGE"), ("GridLedger$Work", 283, "SUMIF"), ("GridLedger$Work", 284, "rx"), ("GridLedger$Work", 193, ""), ("GridLedger$Work", 195, "xx"), ("GridLedger$Work", 206, "tt"), ("GridLedger$Work", 209, "nn"), ("GridLedger$Work", 216, "n"), ("GridLedger$Work", 219, "SUM"), ("GridLedger$Work", 223, "MIN"), ("GridLedger$Work", 224, "MAX"), ("GridLedger$Work", 226, "COUNT"), ("GridLedger$Work", 227, "COUNTA"), ("GridLedger$Work", 228, "AND"), ("GridLedger$Work", 229, "bb"), ("GridLedger$Work", 231, "OR"), ("GridLedger$Work", 232, "NOT"), ("GridLedger$Work", 233, "b"), ("GridLedger$Work", 235, "IF"), ("GridLedger$Work", 236, "bxx"), ("GridLedger$Work", 238, "IFERROR"), ("GridLedger$Work", 239, "vx"), ("GridLedger$Work", 241, "CHOOSE"), ("GridLedger$Work", 242, "nxxx"), ("GridLedger$Work", 244, "ISERROR"), ("GridLedger$Work", 245, "v"), ("GridLedger$Work", 247, "ISNUMBER"), ("GridLedger$Work", 248, "ISTEXT"), ("GridLedger$Work", 249, "ISBLANK"), ("GridLedger$Work", 250, "ABS"), ("GridLedger$Work", 251, "SIGN"), ("GridLedger$Work", 252, "MOD"), ("GridLedger$Work", 253, "LEN"), ("GridLedger$Work", 254, "t"), ("GridLedger$Work", 256, "UPPER"), ("GridLedger$Work", 257, "LOWER"), ("GridLedger$Work", 258, "LEFT"), ("GridLedger$Work", 259, "tn"), ("GridLedger$Work", 261, "RIGHT"), ("GridLedger$Work", 262, "MID"), ("GridLedger$Work", 263, "tnn"), ("GridLedger$Work", 265, "FIND"), ("GridLedger$Work", 266, "REPLACE"), ("GridLedger$Work", 267, "ttt"), ("GridLedger$Work", 269, "ROW"), ("GridLedger$Work", 270, "COLUMN"), ("GridLedger$Work", 271, "ROWS"), ("GridLedger$Work", 272, "COLUMNS"), ("GridLedger$Work", 273, "NA"), ("GridLedger$Work", 274, "INDEX"), ("GridLedger$Work", 275, "rnn"), ("GridLedger$Work", 277, "MATCH"), ("GridLedger$Work", 278, "xr"), ("GridLedger$Work", 280, "LOOKUP"), ("GridLedger$Work", 281, "xrn"), ("GridLedger$Work", 286, "COUNTIF")]
def gSby : List (List Int) := [[84, 82, 85, 69], [70, 65, 76, 83, 69], [], [84, 82, 85, 69], [70, 65, 76, 83, 69], [84, 82, 85, 69], [70, 65, 76, 83, 69], [83, 85, 77, 58, 114, 32, 80, 82, 79, 68, 85, 67, 84, 58, 114, 32, 77, 73, 78, 58, 114, 32, 77, 65, 88, 58, 114, 32, 65, 86, 69, 82, 65, 71, 69, 58, 114, 32, 67, 79, 85, 78, 84, 58, 114, 32, 67, 79, 85, 78, 84, 65, 58, 114, 32, 65, 78, 68, 58, 98, 98, 32, 79, 82, 58, 98, 98, 32, 78, 79, 84, 58, 98, 32, 73, 70, 58, 98, 120, 120, 32, 73, 70, 69, 82, 82, 79, 82, 58, 120, 120, 32, 67, 72, 79, 79, 83, 69, 58, 110, 120, 120, 120, 32, 73, 83, 69, 82, 82, 79, 82, 58, 120, 32, 73, 83, 78, 85, 77, 66, 69, 82, 58, 120, 32, 73, 83, 84, 69, 88, 84, 58, 120, 32, 73, 83, 66, 76, 65, 78, 75, 58, 120, 32, 65, 66, 83, 58, 110, 32, 83, 73, 71, 78, 58, 110, 32, 77, 79, 68, 58, 110, 110, 32, 76, 69, 78, 58, 116, 32, 85, 80, 80, 69, 82, 58, 116, 32, 76, 79, 87, 69, 82, 58, 116, 32, 76, 69, 70, 84, 58, 116, 110, 32, 82, 73, 71, 72, 84, 58, 116, 110, 32, 77, 73, 68, 58, 116, 110, 110, 32, 70, 73, 78, 68, 58, 116, 116, 32, 82, 69, 80, 76, 65, 67, 69, 58, 116, 116, 116, 32, 82, 79, 87, 58, 114, 32, 67, 79, 76, 85, 77, 78, 58, 114, 32, 82, 79, 87, 83, 58, 114, 32, 67, 79, 76, 85, 77, 78, 83, 58, 114, 32, 78, 65, 58, 32, 73, 78, 68, 69, 88, 58, 114, 110, 110, 32, 77, 65, 84, 67, 72, 58, 120, 114, 32, 76, 79, 79, 75, 85, 80, 58, 120, 114, 110, 32, 83, 85, 77, 73, 70, 58, 114, 120, 32, 67, 79, 85, 78, 84, 73, 70, 58, 114, 120, 32], [80, 82, 79, 68, 85, 67, 84], [114], [65, 86, 69, 82, 65, 71, 69], [83, 85, 77, 73, 70], [114, 120], [], [120, 120], [116, 116], [110, 110], [110], [83, 85, 77], [77, 73, 78], [77, 65, 88], [67, 79, 85, 78, 84], [67, 79, 85, 78, 84, 65], [65, 78, 68], [98, 98], [79, 82], [78, 79, 84], [98], [73, 70], [98, 120, 120], [73, 70, 69, 82, 82, 79, 82], [118, 120], [67, 72, 79, 79, 83, 69], [110, 120, 120, 120], [73, 83, 69, 82, 82, 79, 82], [118], [73, 83, 78, 85, 77, 66, 69, 82], [73, 83, 84, 69, 88, 84], [73, 83, 66, 76, 65, 78, 75], [65, 66, 83], [83, 73, 71, 78], [77, 79, 68], [76, 69, 78], [116], [85, 80, 80, 69, 82], [76, 79, 87, 69, 82], [76, 69, 70, 84], [116, 110], [82, 73, 71, 72, 84], [77, 73, 68], [116, 110, 110], [70, 73, 78, 68], [82, 69, 80, 76, 65, 67, 69], [116, 116, 116], [82, 79, 87], [67, 79, 76, 85, 77, 78], [82, 79, 87, 83], [67, 79, 76, 85, 77, 78, 83], [78, 65], [73, 78, 68, 69, 88], [114, 110, 110], [77, 65, 84, 67, 72], [120, 114], [76, 79, 79, 75, 85, 80], [120, 114, 110], [67, 79, 85, 78, 84, 73, 70]]
def gSl (t : Nat) : Nat := (gSby.getD t []).length
def gSc (t j : Nat) : Int := (gSby.getD t []).getD j 0
theorem gWti_lt : ∀ i, i < 52 → gWti i < 66 := by decide +kernel
theorem gWta_lt : ∀ i, i < 52 → gWta i < 66 := by decide +kernel
theorem gWgr_ok : ∀ i, i < 52 → 0 ≤ gWgr i ∧ gWgr i ≤ 8 := by decide +kernel
theorem gTg_ok : ∀ i, i < 25 → 0 ≤ gTg i ∧ gTg i ≤ 5 := by decide +kernel
theorem gSw_ok : ∀ i, i < 52 → 0 ≤ gSw i ∧ gSw i ≤ 60 := by decide +kernel
theorem gSb_all : ∀ t, t < 66 → (gSby.getD t []).length ≤ 400 ∧ ∀ b ∈ gSby.getD t [], 0 ≤ b ∧ b < 128 := by decide +kernel
theorem gSl_ok {t : Nat} (h : t < 66) : (0 : Int) ≤ (gSl t : Int) ∧ (gSl t : Int) ≤ 400 := ⟨by omega, by have := (gSb_all t h).1; unfold gSl; omega⟩
theorem gSc_ok {t : Nat} (h : t < 66) (j : Nat) : 0 ≤ gSc t j ∧ gSc t j < 128 := by
  unfold gSc
  rw [List.getD_eq_getElem?_getD]
  cases hb : (gSby.getD t [])[j]? with
  | none => exact ⟨by decide, by decide⟩
  | some b => exact (gSb_all t h).2 b (List.mem_of_getElem? hb)
def gOw (G : gG) (Q : gQ) (U : State) (i : Nat) : Prop := va_Z "GridLedger$Work" (gWn.getD i "") "LGridLedger$Work;" (.ref (Q.1 i)) (gA G true) U U.heap ∧ va_O "GridLedger$Work" (Q.1 i) (gA G true) U U.heap ∧ va_OF "java/lang/Enum" "ordinal" "I" (gI (i : Int)) (Q.1 i) (gA G true) U U.heap ∧ va_OF "GridLedger$Work" "title" "Ljava/lang/String;" (.ref (Q.2.1 (gWti i))) (Q.1 i) (gA G true) U U.heap ∧ va_OF "GridLedger$Work" "takes" "Ljava/lang/String;" (.ref (Q.2.1 (gWta i))) (Q.1 i) (gA G true) U U.heap ∧ va_OF "GridLedger$Work" "group" "I" (gI (gWgr i)) (Q.1 i) (gA G true) U U.heap
def gOs (G : gG) (Q : gQ) (U : State) (t : Nat) : Prop := va_O "java/lang/String" (Q.2.1 t) (gA G true) U U.heap ∧ va_OF "java/lang/String" "coder" "B" (gI 0) (Q.2.1 t) (gA G true) U U.heap ∧ va_OF "java/lang/String" "value" "[B" (.ref (Q.2.2.1 t)) (Q.2.1 t) (gA G true) U U.heap ∧ va_T .byte (Q.2.2.1 t) (gSl t) (fun j => gI (gSc t j)) (gA G true) U U.heap ∧ ∀ q, gSrc[t]? = some q → vk_R q.1 q.2.1 q.2.2 (Q.2.1 t) U
def gOa (G : gG) (Q : gQ) (U : State) : Prop := (va_Z "GridLedger" "WORKS" "[LGridLedger$Work;" (.ref Q.2.2.2.1) (gA G true) U U.heap ∧ va_T (.object "GridLedger$Work") Q.2.2.2.1 52 (fun j => .ref (Q.1 j)) (gA G true) U U.heap) ∧ (va_Z "GridLedger" "TIGHTNESS" "[I" (.ref Q.2.2.2.2.1) (gA G true) U U.heap ∧ va_T .int Q.2.2.2.2.1 25 (fun j => gI (gTg j)) (gA G true) U U.heap) ∧ (va_Z "GridLedger$1" "$SwitchMap$GridLedger$Work" "[I" (.ref Q.2.2.2.2.2) (gA G true) U U.heap ∧ va_T .int Q.2.2.2.2.2 52 (fun j => gI (gSw j)) (gA G true) U U.heap) ∧ va_Z "java/lang/String" "COMPACT_STRINGS" "Z" (gI 1) (gA G true) U U.heap ∧ va_Zq "jdk/internal/util/Preconditions" "SIOOBE_FORMATTER" "Ljava/util/function/BiFunction;" (gA G true) U U.heap
def gOld (G : gG) (Q : gQ) : Prop := ∀ U, gSP G U → (∀ i, i < 52 → gOw G Q U i) ∧ (∀ t, t < 66 → gOs G Q U t) ∧ gOa G Q U
section gOldR
variable {l : Launch} {G : gG} {y z : gMt} {rm rm' : Room} {fr fz md : Bool} {K Kz : Outcome → gX → gM → Prop} {pc : Nat} {L L' : List Slot} {st : List Value} {X : gX} {M : gM} {cs ss : Nat} {Q : gQ}
/-- two constants are one only if they are the same -/
theorem gOld.inj (hO : gOld G Q) {U : State} (hU : gSP G U) {i j : Nat} (hi : i < 52) (hj : j < 52) (e : Q.1 i = Q.1 j) : i = j := by
  obtain ⟨cf, k, n, f, cell, h1, -, h3, -, h5, -⟩ := ((hO U hU).1 i hi).2.2.1
  obtain ⟨cf', k', n', f', cell', g1, -, g3, -, g5, -⟩ := ((hO U hU).1 j hj).2.2.1
  rw [h1] at g1
  cases g1
  rw [e, g3] at h3
  cases h3
  rw [h5] at g5
  have e2 := Value.int.inj (Option.some.inj g5)
  have e3 : (Int32.ofInt (i : Int)).toInt = (Int32.ofInt (j : Int)).toInt := by rw [e2]
  rw [Int32.toInt_ofInt_of_le (by omega) (by omega), Int32.toInt_ofInt_of_le (by omega) (by omega)] at e3
  omega
theorem xo_ne {i j : Nat} {off : Int} {tgt : Nat} (hO : gOld G Q) (hd : decode y.2.1 pc = .ok (.if_acmp .ne off, 3)) (ht : (pc : Int) + off = (tgt : Int)) (hi : i < 52) (hj : j < 52) (kt : ¬ i = j → wp l G y rm fr K md tgt L st X M cs ss) (kf : i = j → wp l G y rm fr K md (pc + 3) L st X M cs ss) : wp l G y rm fr K md pc L (.ref (Q.1 j) :: .ref (Q.1 i) :: st) X M cs ss := by
  intro p e s m args below meth c H locs ls hC hS hR hL
  exact wp_acmp_ne hd ht (fun h => kt (fun e => h (by rw [e]))) (fun h => kf (hO.inj (gNow hC) hi hj h)) p e s m args below meth c H locs ls hC hS hR hL
theorem xo_eq {i j : Nat} {off : Int} {tgt : Nat} (hO : gOld G Q) (hd : decode y.2.1 pc = .ok (.if_acmp .eq off, 3)) (ht : (pc : Int) + off = (tgt : Int)) (hi : i < 52) (hj : j < 52) (kt : i = j → wp l G y rm fr K md tgt L st X M cs ss) (kf : ¬ i = j → wp l G y rm fr K md (pc + 3) L st X M cs ss) : wp l G y rm fr K md pc L (.ref (Q.1 j) :: .ref (Q.1 i) :: st) X M cs ss := by
  intro p e s m args below meth c H locs ls hC hS hR hL
  exact wp_acmp_eq hd ht (fun h => kt (hO.inj (gNow hC) hi hj h)) (fun h => kf (fun e => h (by rw [e]))) p e s m args below meth c H locs ls hC hS hR hL
theorem xo_aald {i i' : Int} (hO : gOld G Q) (hd : decode y.2.1 pc = .ok (.aaload, 1)) (hi : w32 i = i') (h : 0 ≤ i' ∧ i' < 52) (kk : wp l G y rm fr K md (pc + 1) L (.ref (Q.1 i'.toNat) :: st) X M cs ss) : wp l G y rm fr K md pc L (gI i :: .ref Q.2.2.2.1 :: st) X M cs ss := by
  subst hi
  exact wp_st (st' := gI (w32 i) :: .ref Q.2.2.2.1 :: st) (by rw [gI_w]) (wp_oaald hd (fun U hU => (hO U hU).2.2.1.2) (w32_ok _) h.1 h.2 kk)
theorem xo_tg {i i' : Int} (hO : gOld G Q) (hd : decode y.2.1 pc = .ok (.iaload, 1)) (hi : w32 i = i') (h : 0 ≤ i' ∧ i' < 25) (kk : wp l G y rm fr K md (pc + 1) L (gI (gTg i'.toNat) :: st) X M cs ss) : wp l G y rm fr K md pc L (gI i :: .ref Q.2.2.2.2.1 :: st) X M cs ss := by
  subst hi
  exact wp_st (st' := gI (w32 i) :: .ref Q.2.2.2.2.1 :: st) (by rw [gI_w]) (wp_oiald hd (fun U hU => (hO U hU).2.2.2.1.2) (w32_ok _) h.1 h.2 kk)
theorem xo_sw {i : Nat} (hO : gOld G Q) (hd : decode y.2.1 pc = .ok (.iaload, 1)) (h : i < 52) (kk : wp l G y rm fr K md (pc + 1) L (gI (gSw i) :: st) X M cs ss) : wp l G y rm fr K md pc L (gI (i : Int) :: .ref Q.2.2.2.2.2 :: st) X M cs ss :=
  wp_oiald hd (fun U hU => (hO U hU).2.2.2.2.1.2) ⟨by omega, by omega⟩ (Int.natCast_nonneg i) (show (i : Int) < ((52 : Nat) : Int) by omega) (by rw [Int.toNat_natCast]; exact kk)
theorem gT32 {i : Int} (h : 0 ≤ i ∧ i < 25) : g32 (gTg i.toNat) := by
  have := gTg_ok i.toNat (by omega)
  exact ⟨by omega, by omega⟩
theorem gS32 {i : Nat} (h : i < 52) : g32 (gSw i) := by
  have := gSw_ok i h
  exact ⟨by omega, by omega⟩
theorem gG32 {i : Nat} (h : i < 52) : g32 (gWgr i) := by
  have := gWgr_ok i h
  exact ⟨by omega, by omega⟩
theorem g52 {i : Int} (h : 0 ≤ i ∧ i < 52) : i.toNat < 52 := by omega
/-- an inherited method, called on a constant -/
theorem wp_callOU {As : List Value} {index n q : Nat} {C owner : String} {x : MethodName} (hd : decode y.2.1 pc = .ok (.invokevirtual index, 3)) (hc : Cond.code z.1 z.2.1 z.2.2.1 z.2.2.2 ∈ gTb) (hws : GoodIn gTb (va_wsU y.1.cls index C owner x z.1 (gW z))) (hyx : z.1 = ⟨owner, x.name, x.desc⟩) (hno : owner ≠ "java/lang/invoke/MethodHandle" ∧ owner ≠ "java/lang/invoke/VarHandle" ∧ (parseMethodDescriptor x.desc).map (fun d => d.parameters.length) = some n)
    (hOb : ∀ U, gSP G U → va_O C q (gA G true) U U.heap) (hM : gCt l G z rm' fz (.ref q :: As) X M Kz) (hret : ∀ o X' M', Kz o X' M' → ∃ v, o = .returned v) {md' : Bool} (hm1 : md = true → md' = true) (hm2 : fz = true → md' = true) (hn : As.length = n)
    (hRm : rm'.frames + 1 ≤ rm.frames ∧ 8 + (z.2.2.1 + 11) + rm'.locals ≤ rm.locals) (hW : (st.map fun v => v.category).sum ≤ 8) (hf : cs + rm'.cells ≤ rm.cells ∧ ss + rm'.slots ≤ rm.slots) {st0 : List Value} (h0 : st0 = As.reverse ++ .ref q :: st)
    (kk : ∀ (v : Option Value) (X' : gX) (M' : gM), Kz (.returned v) X' M' → wp l G y rm fr K md' (pc + 3) L (v.toList ++ st) X' M' (cs + rm'.cells) (ss + rm'.slots)) : wp l G y rm fr K md pc L st0 X M cs ss := by
  subst h0
  intro p e s m args below meth c H locs ls hC hS hR hL
  obtain ⟨cell, h1, h2, h3, -⟩ := (hOb s (gNow hC)).kept (gS_t hS).2.1
  exact gAfter hm1 hm2 (va_runU (gFix hC) (hM.met hret) (va_cwU n hC.2.2.2.2.2.1 hws rfl rfl rfl hyx hno hRm) ⟨(gPre hC hR).1, ⟨cell, h1, h2, h3⟩, (gPre hC hR).2⟩ rfl hn hL.1 rfl (lv_room hW) hd hf) hC hS hL kk
theorem lg_sl_O (q : Nat) (vs : List Value) : lg_sl (.ref q :: vs) = .val (.ref q) :: lg_sl vs := rfl
theorem g_rcat (q : Nat) : (Value.ref q).category = 1 := rfl
theorem g32_52 {i : Nat} (h : i < 52) : g32 (i : Int) := ⟨by omega, by omega⟩
theorem g32_h {x : Int} (h : 0 ≤ x ∧ x < 128) : g32 x := ⟨by omega, by omega⟩
theorem g32_h4 {x : Int} (h : 0 ≤ x ∧ x ≤ 400) : g32 x := ⟨by omega, by omega⟩
theorem wp_i2c {a : Int} (hd : decode y.2.1 pc = .ok (.i2c, 1)) (ha : 0 ≤ a ∧ a < 65536) (k : wp l G y rm fr K md (pc + 1) L (gI a :: st) X M cs ss) : wp l G y rm fr K md pc L (gI a :: st) X M cs ss :=
  fun p e s m args below meth c H locs ls hC hS hR hL => lv_i2c hC.1 hC.2.1 hd (lg_i2c_word (by rw [Int32.toInt_ofInt_of_le (by omega) (by omega)]; exact ha.1) (by rw [Int32.toInt_ofInt_of_le (by omega) (by omega)]; exact ha.2)) (k p e s m args below meth c H locs ls hC hS hR hL)
theorem g_narc {a : Int} (h : 0 ≤ a ∧ a < 128) : narrow .char (gI a) = gI a := by
  have key : ∀ n : Nat, n < 128 → narrow .char (gI (n : Int)) = gI (n : Int) := by decide +kernel
  have := key a.toNat (by omega)
  rw [Int.toNat_of_nonneg h.1] at this
  exact this
theorem gShr_0 {a : Int} (h : 0 ≤ a ∧ a ≤ 400) : gShr a 0 = a := by
  have key : ∀ n : Nat, n < 401 → gShr (n : Int) 0 = (n : Int) := by decide +kernel
  have := key a.toNat (by omega)
  rw [Int.toNat_of_nonneg h.1] at this
  exact this
theorem g_and255 {a : Int} (h : 0 ≤ a ∧ a < 128) : gAnd a 255 = a := by
  have key : ∀ n : Nat, n < 128 → gAnd (n : Int) 255 = (n : Int) := by decide +kernel
  have := key a.toNat (by omega)
  rw [Int.toNat_of_nonneg h.1] at this
  exact this
end gOldR
theorem ca_jStr_length : gCal y_jStr_length 0 := ⟨(tc_3 (List.mem_of_getElem? (i := 166) rfl) rfl), (tc_1 (List.mem_of_getElem? (i := 19) rfl) rfl), by decide, by decide, by decide +kernel⟩
theorem ca_jStr_coder : gCal y_jStr_coder 0 := ⟨(tc_3 (List.mem_of_getElem? (i := 170) rfl) rfl), (tc_1 (List.mem_of_getElem? (i := 19) rfl) rfl), by decide, by decide, by decide +kernel⟩
theorem ca_jStr_charAt : gCal y_jStr_charAt 1 := ⟨(tc_3 (List.mem_of_getElem? (i := 176) rfl) rfl), (tc_1 (List.mem_of_getElem? (i := 19) rfl) rfl), by decide, by decide, by decide +kernel⟩
theorem ca_jStr_isLatin1 : gCal y_jStr_isLatin1 0 := ⟨(tc_3 (List.mem_of_getElem? (i := 180) rfl) rfl), (tc_1 (List.mem_of_getElem? (i := 19) rfl) rfl), by decide, by decide, by decide +kernel⟩
theorem ca_jLat_charAt : gCal y_jLat_charAt 2 := ⟨(tc_3 (List.mem_of_getElem? (i := 183) rfl) rfl), (tc_1 (List.mem_of_getElem? (i := 20) rfl) rfl), by decide, by decide, by decide +kernel⟩
theorem ca_jStr_checkIndex : gCal y_jStr_checkIndex 2 := ⟨(tc_3 (List.mem_of_getElem? (i := 186) rfl) rfl), (tc_1 (List.mem_of_getElem? (i := 19) rfl) rfl), by decide, by decide, by decide +kernel⟩
theorem ca_jPre_checkIndex : gCal y_jPre_checkIndex 3 := ⟨(tc_3 (List.mem_of_getElem? (i := 191) rfl) rfl), (tc_1 (List.mem_of_getElem? (i := 21) rfl) rfl), by decide, by decide, by decide +kernel⟩
theorem ca_jEnum_ordinal : gCal y_jEnum_ordinal 0 := ⟨(tc_4 (List.mem_of_getElem? (i := 62) rfl) rfl), (tc_1 (List.mem_of_getElem? (i := 28) rfl) rfl), by decide, by decide, by decide +kernel⟩
theorem d_jEnum_ordinal_0 : decode prog_16_method_2_code 0 = .ok (.aload_n 0, 1) := by decide +kernel
theorem d_jEnum_ordinal_1 : decode prog_16_method_2_code 1 = .ok (.getfield 7, 3) := by decide +kernel
theorem d_jEnum_ordinal_4 : decode prog_16_method_2_code 4 = .ok (.ireturn, 1) := by decide +kernel
theorem d_jStr_length_0 : decode prog_25_method_54_code 0 = .ok (.aload_n 0, 1) := by decide +kernel
theorem d_jStr_length_1 : decode prog_25_method_54_code 1 = .ok (.getfield 9, 3) := by decide +kernel
theorem d_jStr_length_4 : decode prog_25_method_54_code 4 = .ok (.arraylength, 1) := by decide +kernel
theorem d_jStr_length_5 : decode prog_25_method_54_code 5 = .ok (.aload_n 0, 1) := by decide +kernel
theorem d_jStr_length_6 : decode prog_25_method_54_code 6 = .ok (.invokevirtual 335, 3) := by decide +kernel
theorem d_jStr_length_9 : decode prog_25_method_54_code 9 = .ok (.ishr, 1) := by decide +kernel
theorem d_jStr_length_10 : decode prog_25_method_54_code 10 = .ok (.ireturn, 1) := by decide +kernel
theorem d_jStr_coder_0 : decode prog_25_method_152_code 0 = .ok (.getstatic 38, 3) := by decide +kernel
theorem d_jStr_coder_3 : decode prog_25_method_152_code 3 = .ok (.ifCond .eq 10, 3) := by decide +kernel
theorem d_jStr_coder_6 : decode prog_25_method_152_code 6 = .ok (.aload_n 0, 1) := by decide +kernel
theorem d_jStr_coder_7 : decode prog_25_method_152_code 7 = .ok (.getfield 15, 3) := by decide +kernel
theorem d_jStr_coder_10 : decode prog_25_method_152_code 10 = .ok (.goto 4, 3) := by decide +kernel
theorem d_jStr_coder_14 : decode prog_25_method_152_code 14 = .ok (.ireturn, 1) := by decide +kernel
theorem d_jStr_charAt_0 : decode prog_25_method_56_code 0 = .ok (.aload_n 0, 1) := by decide +kernel
theorem d_jStr_charAt_1 : decode prog_25_method_56_code 1 = .ok (.invokevirtual 492, 3) := by decide +kernel
theorem d_jStr_charAt_4 : decode prog_25_method_56_code 4 = .ok (.ifCond .eq 12, 3) := by decide +kernel
theorem d_jStr_charAt_7 : decode prog_25_method_56_code 7 = .ok (.aload_n 0, 1) := by decide +kernel
theorem d_jStr_charAt_8 : decode prog_25_method_56_code 8 = .ok (.getfield 9, 3) := by decide +kernel
theorem d_jStr_charAt_11 : decode prog_25_method_56_code 11 = .ok (.iload_n 1, 1) := by decide +kernel
theorem d_jStr_charAt_12 : decode prog_25_method_56_code 12 = .ok (.invokestatic 495, 3) := by decide +kernel
theorem d_jStr_charAt_15 : decode prog_25_method_56_code 15 = .ok (.ireturn, 1) := by decide +kernel
theorem d_jStr_isLatin1_0 : decode prog_25_method_154_code 0 = .ok (.getstatic 38, 3) := by decide +kernel
theorem d_jStr_isLatin1_3 : decode prog_25_method_154_code 3 = .ok (.ifCond .eq 14, 3) := by decide +kernel
theorem d_jStr_isLatin1_6 : decode prog_25_method_154_code 6 = .ok (.aload_n 0, 1) := by decide +kernel
theorem d_jStr_isLatin1_7 : decode prog_25_method_154_code 7 = .ok (.getfield 15, 3) := by decide +kernel
theorem d_jStr_isLatin1_10 : decode prog_25_method_154_code 10 = .ok (.ifCond .ne 7, 3) := by decide +kernel
theorem d_jStr_isLatin1_13 : decode prog_25_method_154_code 13 = .ok (.iconst 1, 1) := by decide +kernel
theorem d_jStr_isLatin1_14 : decode prog_25_method_154_code 14 = .ok (.goto 4, 3) := by decide +kernel
theorem d_jStr_isLatin1_18 : decode prog_25_method_154_code 18 = .ok (.ireturn, 1) := by decide +kernel
theorem d_jLat_charAt_0 : decode prog_26_method_2_code 0 = .ok (.iload_n 1, 1) := by decide +kernel
theorem d_jLat_charAt_1 : decode prog_26_method_2_code 1 = .ok (.aload_n 0, 1) := by decide +kernel
theorem d_jLat_charAt_2 : decode prog_26_method_2_code 2 = .ok (.arraylength, 1) := by decide +kernel
theorem d_jLat_charAt_3 : decode prog_26_method_2_code 3 = .ok (.invokestatic 9, 3) := by decide +kernel
theorem d_jLat_charAt_6 : decode prog_26_method_2_code 6 = .ok (.aload_n 0, 1) := by decide +kernel
theorem d_jLat_charAt_7 : decode prog_26_method_2_code 7 = .ok (.iload_n 1, 1) := by decide +kernel
theorem d_jLat_charAt_8 : decode prog_26_method_2_code 8 = .ok (.baload, 1) := by decide +kernel
theorem d_jLat_charAt_9 : decode prog_26_method_2_code 9 = .ok (.sipush 255, 3) := by decide +kernel
theorem d_jLat_charAt_12 : decode prog_26_method_2_code 12 = .ok (.iand, 1) := by decide +kernel
theorem d_jLat_charAt_13 : decode prog_26_method_2_code 13 = .ok (.i2c, 1) := by decide +kernel
theorem d_jLat_charAt_14 : decode prog_26_method_2_code 14 = .ok (.ireturn, 1) := by decide +kernel
theorem d_jStr_checkIndex_0 : decode prog_25_method_155_code 0 = .ok (.iload_n 0, 1) := by decide +kernel
theorem d_jStr_checkIndex_1 : decode prog_25_method_155_code 1 = .ok (.iload_n 1, 1) := by decide +kernel
theorem d_jStr_checkIndex_2 : decode prog_25_method_155_code 2 = .ok (.getstatic 1053, 3) := by decide +kernel
theorem d_jStr_checkIndex_5 : decode prog_25_method_155_code 5 = .ok (.invokestatic 1059, 3) := by decide +kernel
theorem d_jStr_checkIndex_8 : decode prog_25_method_155_code 8 = .ok (.pop, 1) := by decide +kernel
theorem d_jStr_checkIndex_9 : decode prog_25_method_155_code 9 = .ok (.return_, 1) := by decide +kernel
theorem d_jPre_checkIndex_0 : decode prog_31_method_11_code 0 = .ok (.iload_n 0, 1) := by decide +kernel
theorem d_jPre_checkIndex_1 : decode prog_31_method_11_code 1 = .ok (.ifCond .lt 8, 3) := by decide +kernel
theorem d_jPre_checkIndex_4 : decode prog_31_method_11_code 4 = .ok (.iload_n 0, 1) := by decide +kernel
theorem d_jPre_checkIndex_5 : decode prog_31_method_11_code 5 = .ok (.iload_n 1, 1) := by decide +kernel
theorem d_jPre_checkIndex_6 : decode prog_31_method_11_code 6 = .ok (.if_icmp .lt 10, 3) := by decide +kernel
theorem d_jPre_checkIndex_16 : decode prog_31_method_11_code 16 = .ok (.iload_n 0, 1) := by decide +kernel
theorem d_jPre_checkIndex_17 : decode prog_31_method_11_code 17 = .ok (.ireturn, 1) := by decide +kernel
theorem f_jEnum_7 : Cond.fieldLink "java/lang/Enum" (7 : Nat) "java/lang/Enum" "ordinal" "I" ∈ gTb := (tc_9 (List.mem_of_getElem? (i := 74) rfl) rfl)
theorem f_jStr_9 : Cond.fieldLink "java/lang/String" (9 : Nat) "java/lang/String" "value" "[B" ∈ gTb := (tc_9 (List.mem_of_getElem? (i := 69) rfl) rfl)
theorem f_jStr_15 : Cond.fieldLink "java/lang/String" (15 : Nat) "java/lang/String" "coder" "B" ∈ gTb := (tc_9 (List.mem_of_getElem? (i := 70) rfl) rfl)
theorem f_jStr_38 : Cond.fieldLink "java/lang/String" (38 : Nat) "java/lang/String" "COMPACT_STRINGS" "Z" ∈ gTb := (tc_3 (List.mem_of_getElem? (i := 171) rfl) rfl)
theorem f_jStr_1053 : Cond.fieldLink "java/lang/String" (1053 : Nat) "jdk/internal/util/Preconditions" "SIOOBE_FORMATTER" "Ljava/util/function/BiFunction;" ∈ gTb := (tc_3 (List.mem_of_getElem? (i := 187) rfl) rfl)
theorem ml_jStr_335 : Cond.methodLink "java/lang/String" (335 : Nat) ({ cls := "java/lang/String", name := "coder", desc := "()B" } : MethodName) ∈ gTb := (tc_3 (List.mem_of_getElem? (i := 167) rfl) rfl)
theorem ml_jStr_492 : Cond.methodLink "java/lang/String" (492 : Nat) ({ cls := "java/lang/String", name := "isLatin1", desc := "()Z" } : MethodName) ∈ gTb := (tc_3 (List.mem_of_getElem? (i := 177) rfl) rfl)
theorem ml_jStr_495 : Cond.methodLink "java/lang/String" (495 : Nat) ({ cls := "java/lang/StringLatin1", name := "charAt", desc := "([BI)C" } : MethodName) ∈ gTb := (tc_3 (List.mem_of_getElem? (i := 181) rfl) rfl)
theorem ml_jLat_9 : Cond.methodLink "java/lang/StringLatin1" (9 : Nat) ({ cls := "java/lang/String", name := "checkIndex", desc := "(II)V" } : MethodName) ∈ gTb := (tc_3 (List.mem_of_getElem? (i := 184) rfl) rfl)
theorem ml_jStr_1059 : Cond.methodLink "java/lang/String" (1059 : Nat) ({ cls := "jdk/internal/util/Preconditions", name := "checkIndex", desc := "(IILjava/util/function/BiFunction;)I" } : MethodName) ∈ gTb := (tc_3 (List.mem_of_getElem? (i := 189) rfl) rfl)
theorem im_jStr_coder : Cond.instanceMethod ({ cls := "java/lang/String", name := "coder", desc := "()B" } : MethodName) ∈ gTb := (tc_3 (List.mem_of_getElem? (i := 168) rfl) rfl)
theorem im_jStr_isLatin1 : Cond.instanceMethod ({ cls := "java/lang/String", name := "isLatin1", desc := "()Z" } : MethodName) ∈ gTb := (tc_3 (List.mem_of_getElem? (i := 178) rfl) rfl)
theorem im_jStr_length : Cond.instanceMethod ({ cls := "java/lang/String", name := "length", desc := "()I" } : MethodName) ∈ gTb := (tc_3 (List.mem_of_getElem? (i := 164) rfl) rfl)
theorem im_jStr_charAt : Cond.instanceMethod ({ cls := "java/lang/String", name := "charAt", desc := "(I)C" } : MethodName) ∈ gTb := (tc_3 (List.mem_of_getElem? (i := 174) rfl) rfl)
theorem im_jEnum_ordinal : Cond.instanceMethod ({ cls := "java/lang/Enum", name := "ordinal", desc := "()I" } : MethodName) ∈ gTb := (tc_4 (List.mem_of_getElem? (i := 61) rfl) rfl)
theorem sm_jLat_charAt : Cond.static ({ cls := "java/lang/StringLatin1", name := "charAt", desc := "([BI)C" } : MethodName) ∈ gTb := (tc_3 (List.mem_of_getElem? (i := 182) rfl) rfl)
theorem sm_jStr_checkIndex : Cond.static ({ cls := "java/lang/String", name := "checkIndex", desc := "(II)V" } : MethodName) ∈ gTb := (tc_3 (List.mem_of_getElem? (i := 185) rfl) rfl)
theorem sm_jPre_checkIndex : Cond.static ({ cls := "jdk/internal/util/Preconditions", name := "checkIndex", desc := "(IILjava/util/function/BiFunction;)I" } : MethodName) ∈ gTb := (tc_3 (List.mem_of_getElem? (i := 190) rfl) rfl)
theorem se_jStr_coder : Cond.selects "java/lang/String" ({ cls := "java/lang/String", name := "coder", desc := "()B" } : MethodName) ({ cls := "java/lang/String", name := "coder", desc := "()B" } : MethodName) ∈ gTb := (tc_3 (List.mem_of_getElem? (i := 169) rfl) rfl)
theorem se_jStr_isLatin1 : Cond.selects "java/lang/String" ({ cls := "java/lang/String", name := "isLatin1", desc := "()Z" } : MethodName) ({ cls := "java/lang/String", name := "isLatin1", desc := "()Z" } : MethodName) ∈ gTb := (tc_3 (List.mem_of_getElem? (i := 179) rfl) rfl)
theorem se_jStr_length : Cond.selects "java/lang/String" ({ cls := "java/lang/String", name := "length", desc := "()I" } : MethodName) ({ cls := "java/lang/String", name := "length", desc := "()I" } : MethodName) ∈ gTb := (tc_3 (List.mem_of_getElem? (i := 165) rfl) rfl)
theorem se_jStr_charAt : Cond.selects "java/lang/String" ({ cls := "java/lang/String", name := "charAt", desc := "(I)C" } : MethodName) ({ cls := "java/lang/String", name := "charAt", desc := "(I)C" } : MethodName) ∈ gTb := (tc_3 (List.mem_of_getElem? (i := 175) rfl) rfl)
section gJdk
variable {l : Launch} {G : gG} {d : Nat} {X : gX} {M : gM} {Q : gQ} {t w : Nat}
theorem c_jEnum_ordinal {k : Int → gM → Prop} (hO : gOld G Q) (hw : w < 52) (h : k (w : Int) M) : cI l G y_jEnum_ordinal (gRm d) false [.ref (Q.1 w)] X M k :=
  cen_I (by decide +kernel) (show 1 ≤ 1 by decide) (show wp l G y_jEnum_ordinal (gRm d) false (kkI X k) false 0 [.val (.ref (Q.1 w))] [] X M 0 0 from
    wp_aloadO_n d_jEnum_ordinal_0 rfl rfl (wp_oget d_jEnum_ordinal_1 f_jEnum_7 (fun U hU => ((hO U hU).1 w hw).2.2.1) (wp_ireturn d_jEnum_ordinal_4 rfl id (Nat.zero_le _) (Nat.zero_le _) (kI_mk ⟨by omega, by omega⟩ h))))
theorem c_jStr_coder {k : Int → gM → Prop} (hO : gOld G Q) (ht : t < 66) (h : k 0 M) : cI l G y_jStr_coder (gRm d) false [.ref (Q.2.1 t)] X M k :=
  cen_I (by decide +kernel) (show 1 ≤ 1 by decide) (show wp l G y_jStr_coder (gRm d) false (kkI X k) false 0 [.val (.ref (Q.2.1 t))] [] X M 0 0 from
    wp_gets d_jStr_coder_0 f_jStr_38 (fun U hU => (hO U hU).2.2.2.2.2.1) (xz_eq (tgt := 13) d_jStr_coder_3 (by decide) rfl (fun h => absurd h (by decide)) (fun _ => wp_aloadO_n d_jStr_coder_6 rfl rfl (wp_oget d_jStr_coder_7 f_jStr_15 (fun U hU => ((hO U hU).2.1 t ht).2.1) (wp_goto (tgt := 14) d_jStr_coder_10 (by decide) (wp_zreturn d_jStr_coder_14 rfl (g_narb ⟨by decide, by decide⟩) id (Nat.zero_le _) (Nat.zero_le _) (kI_mk (g32_c (x := 0) rfl) h)))))))
theorem c_jStr_isLatin1 {k : Int → gM → Prop} (hO : gOld G Q) (ht : t < 66) (h : k 1 M) : cZ l G y_jStr_isLatin1 (gRm d) false [.ref (Q.2.1 t)] X M k :=
  cen_Z (by decide +kernel) (show 1 ≤ 1 by decide) (show wp l G y_jStr_isLatin1 (gRm d) false (kkZ X k) false 0 [.val (.ref (Q.2.1 t))] [] X M 0 0 from
    wp_gets d_jStr_isLatin1_0 f_jStr_38 (fun U hU => (hO U hU).2.2.2.2.2.1) (xz_eq (tgt := 17) d_jStr_isLatin1_3 (by decide) rfl (fun h => absurd h (by decide)) (fun _ => wp_aloadO_n d_jStr_isLatin1_6 rfl rfl (wp_oget d_jStr_isLatin1_7 f_jStr_15 (fun U hU => ((hO U hU).2.1 t ht).2.1) (xz_ne (tgt := 17) d_jStr_isLatin1_10 (by decide) rfl (fun h => absurd rfl h) (fun _ => wp_iconst d_jStr_isLatin1_13 (wp_goto (tgt := 18) d_jStr_isLatin1_14 (by decide) (wp_zreturn d_jStr_isLatin1_18 rfl (g_narz (by decide)) id (Nat.zero_le _) (Nat.zero_le _) (kZ_mk (by decide) h)))))))))
/-- calls on strings -/
theorem xo_cI {y z : gMt} {fr md : Bool} {K : Outcome → gX → gM → Prop} {pc index n q : Nat} {C : String} {L : List Slot} {st st0 As : List Value} {k : Int → gM → Prop} (hOb : ∀ U, gSP G U → va_O C q (gA G true) U U.heap) (hd : decode y.2.1 pc = .ok (.invokevirtual index, 3)) (hz : gCal z n) (hl : Cond.methodLink y.1.cls index z.1 ∈ gTb) (hin : Cond.instanceMethod z.1 ∈ gTb) (hse : Cond.selects C z.1 z.1 ∈ gTb) (hM : cI l G z (gRm d) false (.ref q :: As) X M k) (hn : As.length = n) (hm : z.2.2.1 ≤ 81) (hW : (st.map fun v => v.category).sum ≤ 8) (h0 : st0 = As.reverse ++ .ref q :: st)
    (kk : ∀ (v : Int) (M' : gM), k v M' → wp l G y (gRm (d + 1)) fr K md (pc + 3) L (gI v :: st) X M' 0 0) : wp l G y (gRm (d + 1)) fr K md pc L st0 X M 0 0 :=
  wp_callO hd hz hl hin hse hOb hM (fun o X' M' h => by obtain ⟨w, h1, -⟩ := h; exact ⟨_, h1⟩) (md' := md) id (fun h => by cases h) hn (gRm_call d _ hm) hW ⟨Nat.le_refl _, Nat.le_refl _⟩ h0 (fun v X' M' h => by
    obtain ⟨w, h1, h2, h3, h4⟩ := h
    cases h1
    subst h3
    exact kk w M' h4)
theorem xo_cZ {y z : gMt} {fr md : Bool} {K : Outcome → gX → gM → Prop} {pc index n q : Nat} {C : String} {L : List Slot} {st st0 As : List Value} {k : Int → gM → Prop} (hOb : ∀ U, gSP G U → va_O C q (gA G true) U U.heap) (hd : decode y.2.1 pc = .ok (.invokevirtual index, 3)) (hz : gCal z n) (hl : Cond.methodLink y.1.cls index z.1 ∈ gTb) (hin : Cond.instanceMethod z.1 ∈ gTb) (hse : Cond.selects C z.1 z.1 ∈ gTb) (hM : cZ l G z (gRm d) false (.ref q :: As) X M k) (hn : As.length = n) (hm : z.2.2.1 ≤ 81) (hW : (st.map fun v => v.category).sum ≤ 8) (h0 : st0 = As.reverse ++ .ref q :: st)
    (kk : ∀ (v : Int) (M' : gM), k v M' → wp l G y (gRm (d + 1)) fr K md (pc + 3) L (gI v :: st) X M' 0 0) : wp l G y (gRm (d + 1)) fr K md pc L st0 X M 0 0 :=
  wp_callO hd hz hl hin hse hOb hM (fun o X' M' h => by obtain ⟨w, h1, -⟩ := h; exact ⟨_, h1⟩) (md' := md) id (fun h => by cases h) hn (gRm_call d _ hm) hW ⟨Nat.le_refl _, Nat.le_refl _⟩ h0 (fun v X' M' h => by
    obtain ⟨w, h1, h2, h3, h4⟩ := h
    cases h1
    subst h3
    exact kk w M' h4)
theorem c_jStr_length {k : Int → gM → Prop} (hO : gOld G Q) (ht : t < 66) (h : k (gSl t : Int) M) : cI l G y_jStr_length (gRm (d + 1)) false [.ref (Q.2.1 t)] X M k :=
  cen_I (by decide +kernel) (show 1 ≤ 1 by decide) (show wp l G y_jStr_length (gRm (d + 1)) false (kkI X k) false 0 [.val (.ref (Q.2.1 t))] [] X M 0 0 from
    wp_aloadO_n d_jStr_length_0 rfl rfl (wp_oget d_jStr_length_1 f_jStr_9 (fun U hU => ((hO U hU).2.1 t ht).2.2.1) (wp_olen d_jStr_length_4 (fun U hU => ((hO U hU).2.1 t ht).2.2.2.1) (wp_aloadO_n d_jStr_length_5 rfl rfl
      (xo_cI (As := []) (k := fun v M' => v = 0 ∧ M' = M) (fun U hU => ((hO U hU).2.1 t ht).1) d_jStr_length_6 ca_jStr_coder ml_jStr_335 im_jStr_coder se_jStr_coder (c_jStr_coder hO ht ⟨rfl, rfl⟩) rfl (by decide) (by simp only [List.map, gI_cat, List.sum_cons, List.sum_nil]; decide) rfl (fun v M' hv => by
        obtain ⟨rfl, rfl⟩ := hv
        have hs := gSl_ok ht
        refine wp_ishr d_jStr_length_9 ?_
        rw [gShr_0 hs]
        exact wp_ireturn d_jStr_length_10 rfl id (Nat.zero_le _) (Nat.zero_le _) (kI_mk ⟨by omega, by omega⟩ h)))))))
theorem c_jPre_checkIndex {k : Int → gM → Prop} {x n : Int} {f : Nat} (hx : 0 ≤ x ∧ x < n) (hn : n < 2147483648) (h : k x M) : cI l G y_jPre_checkIndex (gRm d) false [gI x, gI n, .ref f] X M k :=
  cen_I (by decide +kernel) (show 3 ≤ 3 by decide) (show wp l G y_jPre_checkIndex (gRm d) false (kkI X k) false 0 [.val (gI x), .val (gI n), .val (.ref f)] [] X M 0 0 from
    wp_iload_n d_jPre_checkIndex_0 rfl rfl (xz_lt (tgt := 9) d_jPre_checkIndex_1 (by decide) (w32_id ⟨by omega, by omega⟩) (fun h => absurd h (by omega)) (fun _ => wp_iload_n d_jPre_checkIndex_4 rfl rfl (wp_iload_n d_jPre_checkIndex_5 rfl rfl
      (xi_lt (tgt := 16) d_jPre_checkIndex_6 (by decide) (w32_id ⟨by omega, by omega⟩) (w32_id ⟨by omega, by omega⟩) (fun _ => wp_iload_n d_jPre_checkIndex_16 rfl rfl (wp_ireturn d_jPre_checkIndex_17 rfl id (Nat.zero_le _) (Nat.zero_le _) (kI_mk ⟨by omega, by omega⟩ h))) (fun h => absurd hx.2 h))))))
theorem c_jPre_checkIndexN {k : Int → gM → Prop} {x n : Int} (hx : 0 ≤ x ∧ x < n) (hn : n < 2147483648) (h : k x M) : cI l G y_jPre_checkIndex (gRm d) false [gI x, gI n, .null] X M k :=
  cen_I (by decide +kernel) (show 3 ≤ 3 by decide) (show wp l G y_jPre_checkIndex (gRm d) false (kkI X k) false 0 [.val (gI x), .val (gI n), .val (.null)] [] X M 0 0 from
    wp_iload_n d_jPre_checkIndex_0 rfl rfl (xz_lt (tgt := 9) d_jPre_checkIndex_1 (by decide) (w32_id ⟨by omega, by omega⟩) (fun h => absurd h (by omega)) (fun _ => wp_iload_n d_jPre_checkIndex_4 rfl rfl (wp_iload_n d_jPre_checkIndex_5 rfl rfl
      (xi_lt (tgt := 16) d_jPre_checkIndex_6 (by decide) (w32_id ⟨by omega, by omega⟩) (w32_id ⟨by omega, by omega⟩) (fun _ => wp_iload_n d_jPre_checkIndex_16 rfl rfl (wp_ireturn d_jPre_checkIndex_17 rfl id (Nat.zero_le _) (Nat.zero_le _) (kI_mk ⟨by omega, by omega⟩ h))) (fun h => absurd hx.2 h))))))
theorem c_jStr_checkIndex {k : gM → Prop} {x n : Int} (hO : gOld G Q) (hx : 0 ≤ x ∧ x < n) (hn : n < 2147483648) (h : k M) : cV l G y_jStr_checkIndex (gRm (d + 1)) false [gI x, gI n] X M k := by
  refine cen_V (by decide +kernel) (show 2 ≤ 2 by decide) (show wp l G y_jStr_checkIndex (gRm (d + 1)) false (kkV X k) false 0 [.val (gI x), .val (gI n)] [] X M 0 0 from ?_)
  intro p e s m args below meth c H locs ls hC hS hR hL
  have hts : ∀ w ∈ gTb, w.before args s = true := fun w h => hC.2.2.2.2.2.1 w h
  refine wp_iload_n d_jStr_checkIndex_0 rfl rfl (wp_iload_n d_jStr_checkIndex_1 rfl rfl ?_) p e s m args below meth c H locs ls hC hS hR hL
  intro p e s' m args below meth c H locs ls hC hS hR hL
  rcases (hO s' (gNow hC)).2.2.2.2.2.2 with hf | ⟨f, hf⟩
  · have hts : ∀ w ∈ gTb, w.before args s' = true := fun w h => hC.2.2.2.2.2.1 w h
    refine va_gets hC.1 hC.2.1 hf (gS_t hS) hC.2.2.2.2.1 (hts _ f_jStr_1053) (fun _ h => h) d_jStr_checkIndex_2 ?_
    exact xcS_I (As := [gI x, gI n, .null]) (st := []) (k := fun v M' => M' = M) (md' := false) d_jStr_checkIndex_5 ca_jPre_checkIndex ml_jStr_1059 sm_jPre_checkIndex rfl (by decide) (by decide) rfl id id (c_jPre_checkIndexN hx hn rfl) (fun v M' _ hv => by
      subst hv
      exact wp_pop d_jStr_checkIndex_8 (gI_cat _) (wp_return d_jStr_checkIndex_9 rfl id (Nat.zero_le _) (Nat.zero_le _) (kV_mk h))) p e s' m args below meth c H locs ls hC hS hR hL
  · have hts : ∀ w ∈ gTb, w.before args s' = true := fun w h => hC.2.2.2.2.2.1 w h
    refine va_gets hC.1 hC.2.1 hf (gS_t hS) hC.2.2.2.2.1 (hts _ f_jStr_1053) (fun _ h => h) d_jStr_checkIndex_2 ?_
    exact xcS_I (As := [gI x, gI n, .ref f]) (st := []) (k := fun v M' => M' = M) (md' := false) d_jStr_checkIndex_5 ca_jPre_checkIndex ml_jStr_1059 sm_jPre_checkIndex rfl (by decide) (by decide) rfl id id (c_jPre_checkIndex hx hn rfl) (fun v M' _ hv => by
      subst hv
      exact wp_pop d_jStr_checkIndex_8 (gI_cat _) (wp_return d_jStr_checkIndex_9 rfl id (Nat.zero_le _) (Nat.zero_le _) (kV_mk h))) p e s' m args below meth c H locs ls hC hS hR hL
theorem c_jLat_charAt {k : Int → gM → Prop} {x : Int} (hO : gOld G Q) (ht : t < 66) (hx : 0 ≤ x ∧ x < (gSl t : Int)) (h : k (gSc t x.toNat) M) : cI l G y_jLat_charAt (gRm (d + 1 + 1)) false [.ref (Q.2.2.1 t), gI x] X M k := by
  have hs := gSl_ok ht
  have hc := gSc_ok ht x.toNat
  refine cen_I (by decide +kernel) (show 2 ≤ 2 by decide) (show wp l G y_jLat_charAt (gRm (d + 1 + 1)) false (kkI X k) false 0 [.val (.ref (Q.2.2.1 t)), .val (gI x)] [] X M 0 0 from ?_)
  refine wp_iload_n d_jLat_charAt_0 rfl rfl (wp_aloadO_n d_jLat_charAt_1 rfl rfl (wp_olen d_jLat_charAt_2 (fun U hU => ((hO U hU).2.1 t ht).2.2.2.1) ?_))
  refine xcS_V (As := [gI x, gI (gSl t : Int)]) (st := []) (k := fun M' => M' = M) (md' := false) d_jLat_charAt_3 ca_jStr_checkIndex ml_jLat_9 sm_jStr_checkIndex rfl (by decide) (by decide) rfl id id (c_jStr_checkIndex hO hx (by omega) rfl) (fun M' hv => ?_)
  subst hv
  refine wp_aloadO_n d_jLat_charAt_6 rfl rfl (wp_iload_n d_jLat_charAt_7 rfl rfl (wp_obald d_jLat_charAt_8 (fun U hU => ((hO U hU).2.1 t ht).2.2.2.1) ⟨by omega, by omega⟩ hx.1 hx.2 (wp_sipush d_jLat_charAt_9 ⟨by decide, by decide⟩ (wp_iand d_jLat_charAt_12 ?_))))
  rw [g_and255 hc]
  exact wp_i2c d_jLat_charAt_13 ⟨hc.1, by omega⟩ (wp_zreturn d_jLat_charAt_14 rfl (g_narc hc) id (Nat.zero_le _) (Nat.zero_le _) (kI_mk ⟨by omega, by omega⟩ h))
theorem c_jStr_charAt {k : Int → gM → Prop} {x : Int} (hO : gOld G Q) (ht : t < 66) (hx : 0 ≤ x ∧ x < (gSl t : Int)) (h : k (gSc t x.toNat) M) : cI l G y_jStr_charAt (gRm (d + 1 + 1 + 1)) false [.ref (Q.2.1 t), gI x] X M k := by
  have hc := gSc_ok ht x.toNat
  refine cen_I (by decide +kernel) (show 2 ≤ 2 by decide) (show wp l G y_jStr_charAt (gRm (d + 1 + 1 + 1)) false (kkI X k) false 0 [.val (.ref (Q.2.1 t)), .val (gI x)] [] X M 0 0 from ?_)
  refine wp_aloadO_n d_jStr_charAt_0 rfl rfl (xo_cZ (As := []) (st := []) (k := fun v M' => v = 1 ∧ M' = M) (fun U hU => ((hO U hU).2.1 t ht).1) d_jStr_charAt_1 ca_jStr_isLatin1 ml_jStr_492 im_jStr_isLatin1 se_jStr_isLatin1 (c_jStr_isLatin1 hO ht ⟨rfl, rfl⟩) rfl (by decide) (by decide) rfl (fun v M' hv => ?_))
  obtain ⟨rfl, rfl⟩ := hv
  refine xz_eq (tgt := 16) d_jStr_charAt_4 (by decide) rfl (fun h => absurd h (by decide)) (fun _ => wp_aloadO_n d_jStr_charAt_7 rfl rfl (wp_oget d_jStr_charAt_8 f_jStr_9 (fun U hU => ((hO U hU).2.1 t ht).2.2.1) (wp_iload_n d_jStr_charAt_11 rfl rfl ?_)))
  refine xcS_I (As := [.ref (Q.2.2.1 t), gI x]) (st := []) (k := fun v M'' => v = gSc t x.toNat ∧ M'' = M') (md' := false) d_jStr_charAt_12 ca_jLat_charAt ml_jStr_495 sm_jLat_charAt rfl (by decide) (by decide) rfl id id (c_jLat_charAt hO ht hx ⟨rfl, rfl⟩) (fun v M'' _ hv => ?_)
  obtain ⟨rfl, rfl⟩ := hv
  exact wp_zreturn d_jStr_charAt_15 rfl (g_narc hc) id (Nat.zero_le _) (Nat.zero_le _) (kI_mk ⟨by omega, by omega⟩ h)
end gJdk
section gOldC
variable {l : Launch} {G : gG} {d : Nat} {X : gX} {M : gM} {Q : gQ} {t w : Nat} {y : gMt} {fr md : Bool} {K : Outcome → gX → gM → Prop} {pc index : Nat} {L : List Slot} {st : List Value}
/-- s.length() -/
theorem xo_len (hO : gOld G Q) (ht : t < 66) (hd : decode y.2.1 pc = .ok (.invokevirtual index, 3)) (hl : Cond.methodLink y.1.cls index y_jStr_length.1 ∈ gTb) (hW : (st.map fun v => v.category).sum ≤ 8) (kk : wp l G y (gRm (d + 5)) fr K md (pc + 3) L (gI (gSl t : Int) :: st) X M 0 0) : wp l G y (gRm (d + 5)) fr K md pc L (.ref (Q.2.1 t) :: st) X M 0 0 :=
  xo_cI (d := d + 4) (As := []) (st := st) (k := fun v M' => v = (gSl t : Int) ∧ M' = M) (fun U hU => ((hO U hU).2.1 t ht).1) hd ca_jStr_length hl im_jStr_length se_jStr_length (c_jStr_length (d := d + 3) hO ht ⟨rfl, rfl⟩) rfl (by decide) hW rfl (fun v M' hv => by
    obtain ⟨rfl, rfl⟩ := hv
    exact kk)
/-- s.charAt(x) -/
theorem xo_chr {x x' : Int} (hO : gOld G Q) (ht : t < 66) (hd : decode y.2.1 pc = .ok (.invokevirtual index, 3)) (hl : Cond.methodLink y.1.cls index y_jStr_charAt.1 ∈ gTb) (hW : (st.map fun v => v.category).sum ≤ 8) (hx : w32 x = x') (hb : 0 ≤ x' ∧ x' < (gSl t : Int)) (kk : wp l G y (gRm (d + 5)) fr K md (pc + 3) L (gI (gSc t x'.toNat) :: st) X M 0 0) : wp l G y (gRm (d + 5)) fr K md pc L (gI x :: .ref (Q.2.1 t) :: st) X M 0 0 := by
  subst hx
  refine wp_st (st' := gI (w32 x) :: .ref (Q.2.1 t) :: st) (by rw [gI_w]) ?_
  exact xo_cI (d := d + 4) (As := [gI (w32 x)]) (st := st) (k := fun v M' => v = gSc t (w32 x).toNat ∧ M' = M) (fun U hU => ((hO U hU).2.1 t ht).1) hd ca_jStr_charAt hl im_jStr_charAt se_jStr_charAt (c_jStr_charAt (d := d + 1) hO ht hb ⟨rfl, rfl⟩) rfl (by decide) hW rfl (fun v M' hv => by
    obtain ⟨rfl, rfl⟩ := hv
    exact kk)
/-- w.ordinal() -/
theorem xo_ord (hO : gOld G Q) (hw : w < 52) (hd : decode y.2.1 pc = .ok (.invokevirtual index, 3)) (hws : GoodIn gTb (va_wsU y.1.cls index "GridLedger$Work" "java/lang/Enum" ⟨"GridLedger$Work", "ordinal", "()I"⟩ y_jEnum_ordinal.1 (gW y_jEnum_ordinal))) (hW : (st.map fun v => v.category).sum ≤ 8) (kk : wp l G y (gRm (d + 1)) fr K md (pc + 3) L (gI (w : Int) :: st) X M 0 0) : wp l G y (gRm (d + 1)) fr K md pc L (.ref (Q.1 w) :: st) X M 0 0 :=
  wp_callOU (As := []) (rm' := gRm d) (Kz := fun o X' M' => ∃ v, o = .returned (some (gI v)) ∧ g32 v ∧ X' = X ∧ (v = (w : Int) ∧ M' = M)) hd ca_jEnum_ordinal.1 hws rfl ⟨by decide, by decide, by decide +kernel⟩ (fun U hU => ((hO U hU).1 w hw).2.1) (c_jEnum_ordinal hO hw ⟨rfl, rfl⟩) (fun o X' M' h => by obtain ⟨w, h1, -⟩ := h; exact ⟨_, h1⟩) (md' := md) id (fun h => by cases h) rfl (gRm_call d _ (by decide)) hW ⟨Nat.le_refl _, Nat.le_refl _⟩ rfl (fun v X' M' h => by
    obtain ⟨w, h1, h2, h3, rfl, rfl⟩ := h
    cases h1
    subst h3
    exact kk)
end gOldC
theorem gWs_ord {own : String} {index : Nat} (h : Cond.methodLink own index ⟨"GridLedger$Work", "ordinal", "()I"⟩ ∈ gTb) : GoodIn gTb (va_wsU own index "GridLedger$Work" "java/lang/Enum" ⟨"GridLedger$Work", "ordinal", "()I"⟩ y_jEnum_ordinal.1 (gW y_jEnum_ordinal)) := by
  intro w hw
  unfold va_wsU at hw
  rcases List.mem_append.mp hw with hw | hw
  · have hin : w ∈ gTb := by
      simp only [List.mem_cons, List.not_mem_nil, or_false] at hw
      rcases hw with rfl | rfl | rfl | rfl | rfl
      · exact h
      · exact (tc_4 (List.mem_of_getElem? (i := 58) rfl) rfl)
      · exact (tc_4 (List.mem_of_getElem? (i := 60) rfl) rfl)
      · exact im_jEnum_ordinal
      · exact (tc_1 (List.mem_of_getElem? (i := 28) rfl) rfl)
    exact ⟨hin, good_of_word (List.mem_filter.mp hin).2⟩
  · exact gGood ca_jEnum_ordinal.1 w hw
