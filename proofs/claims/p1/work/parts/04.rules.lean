/-! One row an instruction over wp, numbers as integers: gI x, gL x. -/
theorem g32_toInt {x : Int} (h : g32 x) : (Int32.ofInt x).toInt = x := Int32.toInt_ofInt_of_le (by have := h.1; omega) (by have := h.2; omega)
theorem g64_toInt {x : Int} (h : g64 x) : (Int64.ofInt x).toInt = x := Int64.toInt_ofInt_of_le (by have := h.1; omega) (by have := h.2; omega)
theorem g32_of (x : Int32) : g32 x.toInt := ⟨by have := x.le_toInt; omega, by have := x.toInt_lt; omega⟩
theorem g64_of (x : Int64) : g64 x.toInt := ⟨by have := x.le_toInt; omega, by have := x.toInt_lt; omega⟩
def w32 (x : Int) : Int := (Int32.ofInt x).toInt
def w64 (x : Int) : Int := (Int64.ofInt x).toInt
theorem w32_id {x : Int} (h : g32 x) : w32 x = x := g32_toInt h
theorem w64_id {x : Int} (h : g64 x) : w64 x = x := g64_toInt h
theorem w32_ok (x : Int) : g32 (w32 x) := g32_of _
theorem w64_ok (x : Int) : g64 (w64 x) := g64_of _
theorem gI_w (x : Int) : gI (w32 x) = gI x := by unfold gI w32; rw [Int32.ofInt_toInt]
theorem gL_w (x : Int) : gL (w64 x) = gL x := by unfold gL w64; rw [Int64.ofInt_toInt]
theorem g32_eq {a b : Int} (ha : g32 a) (hb : g32 b) : (Int32.ofInt a = Int32.ofInt b) ↔ a = b := by rw [← Int32.toInt_inj, g32_toInt ha, g32_toInt hb]
theorem g32_lt {a b : Int} (ha : g32 a) (hb : g32 b) : (Int32.ofInt a < Int32.ofInt b) ↔ a < b := by rw [Int32.lt_iff_toInt_lt, g32_toInt ha, g32_toInt hb]
theorem g32_le {a b : Int} (ha : g32 a) (hb : g32 b) : (Int32.ofInt a ≤ Int32.ofInt b) ↔ a ≤ b := by rw [Int32.le_iff_toInt_le, g32_toInt ha, g32_toInt hb]
theorem g64_eq {a b : Int} (ha : g64 a) (hb : g64 b) : (Int64.ofInt a = Int64.ofInt b) ↔ a = b := by rw [← Int64.toInt_inj, g64_toInt ha, g64_toInt hb]
theorem g64_lt {a b : Int} (ha : g64 a) (hb : g64 b) : (Int64.ofInt a < Int64.ofInt b) ↔ a < b := by rw [Int64.lt_iff_toInt_lt, g64_toInt ha, g64_toInt hb]
theorem g32_0 : g32 0 := by unfold g32; omega
theorem gz32 : (0 : Int32) = Int32.ofInt 0 := rfl
def gAnd (a b : Int) : Int := (Int32.ofInt a &&& Int32.ofInt b).toInt
def gShr (a b : Int) : Int := (Int32.ofInt a >>> (Int32.ofInt b &&& 31)).toInt
def gByte (a : Int) : Int := (Int32.ofInt a).toInt8.toInt
theorem gByte_ok (a : Int) : -128 ≤ gByte a ∧ gByte a < 128 := by
  unfold gByte
  have h1 := ((Int32.ofInt a).toInt8).le_toInt
  have h2 := ((Int32.ofInt a).toInt8).toInt_lt
  omega
theorem gByte_id {a : Int} (h : -128 ≤ a ∧ a < 128) : gByte a = a := by
  unfold gByte
  rw [Int32.toInt_toInt8, g32_toInt ⟨by omega, by omega⟩]
  exact Int.bmod_eq_of_le (by omega) (by omega)
def gCmp (a b : Int) : Int := if b < a then 1 else if a = b then 0 else -1
theorem gCmp_ok (a b : Int) : g32 (gCmp a b) := by unfold gCmp g32; (repeat' split) <;> omega
theorem gCmp_eq {a b : Int} (ha : g64 a) (hb : g64 b) : lg_cmp (Int64.ofInt a) (Int64.ofInt b) = Int32.ofInt (gCmp a b) := by
  unfold lg_cmp gCmp
  simp only [gt_iff_lt, g64_lt hb ha, g64_eq ha hb]
  split
  · rfl
  · split <;> rfl
section gRules
variable {l : Launch} {G : gG} {y : gMt} {rm : Room} {fr md : Bool} {K : Outcome → gX → gM → Prop} {pc : Nat} {L L' : List Slot} {st : List Value} {X : gX} {M : gM} {cs ss : Nat}
theorem wp_sub (h : ∀ (i : Nat) (v : Value), L'[i]? = some (.val v) → L[i]? = some (.val v)) (k : wp l G y rm fr K md pc L' st X M cs ss) : wp l G y rm fr K md pc L st X M cs ss :=
  fun p e s m args below meth c H locs ls hC hS hR hL => k p e s m args below meth c H locs ls hC hS hR (hL.of h)
theorem wp_md (k : wp l G y rm fr K true pc L st X M cs ss) : wp l G y rm fr K md pc L st X M cs ss :=
  fun p e s m args below meth c H locs ls hC hS hR hL => k p e s m args below meth c H locs ls hC (gS_t hS) hR hL
theorem wp_iconst {n : Int} (hd : decode y.2.1 pc = .ok (.iconst n, 1)) (k : wp l G y rm fr K md (pc + 1) L (gI n :: st) X M cs ss) : wp l G y rm fr K md pc L st X M cs ss :=
  fun p e s m args below meth c H locs ls hC hS hR hL => lv_iconst hC.1 hC.2.1 hd rfl (k p e s m args below meth c H locs ls hC hS hR hL)
theorem wp_bipush {n : Int} (hd : decode y.2.1 pc = .ok (.bipush n, 2)) (hn : -128 ≤ n ∧ n < 128) (k : wp l G y rm fr K md (pc + 2) L (gI n :: st) X M cs ss) : wp l G y rm fr K md pc L st X M cs ss :=
  fun p e s m args below meth c H locs ls hC hS hR hL => lv_bipush hC.1 hC.2.1 hd (by rw [Int8.toInt32_ofInt (by have : Int8.minValue.toInt = -128 := rfl; omega) (by have : Int8.maxValue.toInt = 127 := rfl; omega)]) (k p e s m args below meth c H locs ls hC hS hR hL)
theorem wp_sipush {n : Int} (hd : decode y.2.1 pc = .ok (.sipush n, 3)) (hn : -32768 ≤ n ∧ n < 32768) (k : wp l G y rm fr K md (pc + 3) L (gI n :: st) X M cs ss) : wp l G y rm fr K md pc L st X M cs ss :=
  fun p e s m args below meth c H locs ls hC hS hR hL => lv_sipush hC.1 hC.2.1 hd (by rw [Int16.toInt32_ofInt (by have : Int16.minValue.toInt = -32768 := rfl; omega) (by have : Int16.maxValue.toInt = 32767 := rfl; omega)]) (k p e s m args below meth c H locs ls hC hS hR hL)
theorem wp_lconst0 (hd : decode y.2.1 pc = .ok (.lconst 0, 1)) (k : wp l G y rm fr K md (pc + 1) L (gL 0 :: st) X M cs ss) : wp l G y rm fr K md pc L st X M cs ss :=
  fun p e s m args below meth c H locs ls hC hS hR hL => lv_lconst hC.1 hC.2.1 hd rfl (k p e s m args below meth c H locs ls hC hS hR hL)
theorem wp_ldc {index : Nat} {n : Int} {v : Int32} (hd : decode y.2.1 pc = .ok (.ldc index, 2)) (hw : Cond.constant y.1.cls index v ∈ gTb) (hv : v = Int32.ofInt n) (k : wp l G y rm fr K md (pc + 2) L (gI n :: st) X M cs ss) : wp l G y rm fr K md pc L st X M cs ss :=
  fun p e s m args below meth c H locs ls hC hS hR hL => lv_ldc hC.1 hC.2.1 hC.2.2.2.2.1 (hC.2.2.2.2.2.1 _ hw) hd (by rw [hv]; exact k p e s m args below meth c H locs ls hC hS hR hL)
theorem wp_ldcw {index : Nat} {n : Int} {v : Int32} (hd : decode y.2.1 pc = .ok (.ldc_w index, 3)) (hw : Cond.constant y.1.cls index v ∈ gTb) (hv : v = Int32.ofInt n) (k : wp l G y rm fr K md (pc + 3) L (gI n :: st) X M cs ss) : wp l G y rm fr K md pc L st X M cs ss :=
  fun p e s m args below meth c H locs ls hC hS hR hL => lv_ldcw hC.1 hC.2.1 hC.2.2.2.2.1 (hC.2.2.2.2.2.1 _ hw) hd (by rw [hv]; exact k p e s m args below meth c H locs ls hC hS hR hL)
theorem wp_ldc2 {index : Nat} {n : Int} {v : Int64} (hd : decode y.2.1 pc = .ok (.ldc2_w index, 3)) (hw : Cond.constantLong y.1.cls index v ∈ gTb) (hv : v = Int64.ofInt n) (k : wp l G y rm fr K md (pc + 3) L (gL n :: st) X M cs ss) : wp l G y rm fr K md pc L st X M cs ss :=
  fun p e s m args below meth c H locs ls hC hS hR hL => lv_ldc2 hC.1 hC.2.1 hC.2.2.2.2.1 (hC.2.2.2.2.2.1 _ hw) hd (by rw [hv]; exact k p e s m args below meth c H locs ls hC hS hR hL)
theorem wp_iload_n {j : Fin 4} {i : Nat} {x : Int} (hd : decode y.2.1 pc = .ok (.iload_n j, 1)) (hi : (j : Nat) = i) (hl : L[i]? = some (.val (gI x))) (k : wp l G y rm fr K md (pc + 1) L (gI x :: st) X M cs ss) : wp l G y rm fr K md pc L st X M cs ss :=
  fun p e s m args below meth c H locs ls hC hS hR hL => lv_iload_n hC.1 hC.2.1 hd hi (hL.2.2 _ _ hl) (k p e s m args below meth c H locs ls hC hS hR hL)
theorem wp_iload {i : Nat} {x : Int} (hd : decode y.2.1 pc = .ok (.iload i, 2)) (hl : L[i]? = some (.val (gI x))) (k : wp l G y rm fr K md (pc + 2) L (gI x :: st) X M cs ss) : wp l G y rm fr K md pc L st X M cs ss :=
  fun p e s m args below meth c H locs ls hC hS hR hL => lv_iload hC.1 hC.2.1 hd (hL.2.2 _ _ hl) (k p e s m args below meth c H locs ls hC hS hR hL)
theorem wp_lload {i : Nat} {x : Int} (hd : decode y.2.1 pc = .ok (.lload i, 2)) (hl : L[i]? = some (.val (gL x))) (k : wp l G y rm fr K md (pc + 2) L (gL x :: st) X M cs ss) : wp l G y rm fr K md pc L st X M cs ss :=
  fun p e s m args below meth c H locs ls hC hS hR hL => lv_lload hC.1 hC.2.1 hd (hL.2.2 _ _ hl) (k p e s m args below meth c H locs ls hC hS hR hL)
theorem wp_aload_n {j : Fin 4} {i r : Nat} (hd : decode y.2.1 pc = .ok (.aload_n j, 1)) (hi : (j : Nat) = i) (hl : L[i]? = some (.val (gR G r))) (hr : r ≠ 0) (k : wp l G y rm fr K md (pc + 1) L (gR G r :: st) X M cs ss) : wp l G y rm fr K md pc L st X M cs ss := by
  intro p e s m args below meth c H locs ls hC hS hR hL
  rw [gR_ref G hr] at hl
  have k' := k p e s m args below meth c H locs ls hC hS hR hL
  rw [gR_ref G hr] at k'
  exact lv_aload_n hC.1 hC.2.1 hd hi (hL.2.2 _ _ hl) k'
theorem wp_aload {i r : Nat} (hd : decode y.2.1 pc = .ok (.aload i, 2)) (hl : L[i]? = some (.val (gR G r))) (hr : r ≠ 0) (k : wp l G y rm fr K md (pc + 2) L (gR G r :: st) X M cs ss) : wp l G y rm fr K md pc L st X M cs ss := by
  intro p e s m args below meth c H locs ls hC hS hR hL
  rw [gR_ref G hr] at hl
  have k' := k p e s m args below meth c H locs ls hC hS hR hL
  rw [gR_ref G hr] at k'
  exact lv_aload hC.1 hC.2.1 hd (hL.2.2 _ _ hl) k'
theorem wp_istore_n {j : Fin 4} {i : Nat} {x : Int} (hd : decode y.2.1 pc = .ok (.istore_n j, 1)) (hi : (j : Nat) = i) (hn : i < y.2.2.1) (hL' : gS1 L i (gI x) = L') (k : wp l G y rm fr K md (pc + 1) L' st X M cs ss) : wp l G y rm fr K md pc L (gI x :: st) X M cs ss :=
  fun p e s m args below meth c H locs ls hC hS hR hL => lv_istore_n hC.1 hC.2.1 hd hi hL.lv hn rfl (fun ls' h' => k p e s m args below meth c H locs ls' hC hS hR (hL' ▸ gHas.st1 (ls := ls) h'))
theorem wp_istore {i : Nat} {x : Int} (hd : decode y.2.1 pc = .ok (.istore i, 2)) (hn : i < y.2.2.1) (hL' : gS1 L i (gI x) = L') (k : wp l G y rm fr K md (pc + 2) L' st X M cs ss) : wp l G y rm fr K md pc L (gI x :: st) X M cs ss :=
  fun p e s m args below meth c H locs ls hC hS hR hL => lv_istore hC.1 hC.2.1 hd hL.lv hn rfl (fun ls' h' => k p e s m args below meth c H locs ls' hC hS hR (hL' ▸ gHas.st1 (ls := ls) h'))
theorem wp_lstore {i : Nat} {x : Int} (hd : decode y.2.1 pc = .ok (.lstore i, 2)) (hn : i + 1 < y.2.2.1) (hL' : gS2 L i (gL x) = L') (k : wp l G y rm fr K md (pc + 2) L' st X M cs ss) : wp l G y rm fr K md pc L (gL x :: st) X M cs ss :=
  fun p e s m args below meth c H locs ls hC hS hR hL => lv_lstore hC.1 hC.2.1 hd hL.lv hn rfl (fun ls' h' => k p e s m args below meth c H locs ls' hC hS hR (hL' ▸ gHas.st2 (ls := ls) h'))
theorem wp_astore_n {j : Fin 4} {i r : Nat} (hd : decode y.2.1 pc = .ok (.astore_n j, 1)) (hi : (j : Nat) = i) (hr : r ≠ 0) (hn : i < y.2.2.1) (hL' : gS1 L i (gR G r) = L') (k : wp l G y rm fr K md (pc + 1) L' st X M cs ss) : wp l G y rm fr K md pc L (gR G r :: st) X M cs ss := by
  intro p e s m args below meth c H locs ls hC hS hR hL
  rw [gR_ref G hr] at hL' ⊢
  exact lv_astore_n hC.1 hC.2.1 hd hi hL.lv hn rfl (fun ls' h' => k p e s m args below meth c H locs ls' hC hS hR (hL' ▸ gHas.st1 (ls := ls) h'))
theorem wp_astore {i r : Nat} (hd : decode y.2.1 pc = .ok (.astore i, 2)) (hr : r ≠ 0) (hn : i < y.2.2.1) (hL' : gS1 L i (gR G r) = L') (k : wp l G y rm fr K md (pc + 2) L' st X M cs ss) : wp l G y rm fr K md pc L (gR G r :: st) X M cs ss := by
  intro p e s m args below meth c H locs ls hC hS hR hL
  rw [gR_ref G hr] at hL' ⊢
  exact lv_astore hC.1 hC.2.1 hd hL.lv hn rfl (fun ls' h' => k p e s m args below meth c H locs ls' hC hS hR (hL' ▸ gHas.st1 (ls := ls) h'))
theorem wp_iinc {i : Nat} {x n : Int} (hd : decode y.2.1 pc = .ok (.iinc i n, 3)) (hl : L[i]? = some (.val (gI x))) (hn : i < y.2.2.1) (hL' : gS1 L i (gI (x + n)) = L') (k : wp l G y rm fr K md (pc + 3) L' st X M cs ss) : wp l G y rm fr K md pc L st X M cs ss := by
  intro p e s m args below meth c H locs ls hC hS hR hL
  obtain ⟨j, hj⟩ := List.getElem?_of_mem (gLs_mem (q := (i, gI x)) |>.mpr hl)
  exact lv_iinc hC.1 hC.2.1 hd hL.lv hj (Int32.ofInt_add x n).symm hn rfl (fun ls' h' => k p e s m args below meth c H locs ls' hC hS hR (hL' ▸ gHas.st1 (ls := ls) h'))
theorem wp_iadd {a b : Int} (hd : decode y.2.1 pc = .ok (.iadd, 1)) (k : wp l G y rm fr K md (pc + 1) L (gI (a + b) :: st) X M cs ss) : wp l G y rm fr K md pc L (gI b :: gI a :: st) X M cs ss := by
  intro p e s m args below meth c H locs ls hC hS hR hL
  have k' := k p e s m args below meth c H locs ls hC hS hR hL
  rw [show gI (a + b) = .int (Int32.ofInt a + Int32.ofInt b) from congrArg _ (Int32.ofInt_add a b)] at k'
  exact lv_iadd hC.1 hC.2.1 hd k'
theorem wp_isub {a b : Int} (hd : decode y.2.1 pc = .ok (.isub, 1)) (k : wp l G y rm fr K md (pc + 1) L (gI (a - b) :: st) X M cs ss) : wp l G y rm fr K md pc L (gI b :: gI a :: st) X M cs ss := by
  intro p e s m args below meth c H locs ls hC hS hR hL
  have k' := k p e s m args below meth c H locs ls hC hS hR hL
  rw [show gI (a - b) = .int (Int32.ofInt a - Int32.ofInt b) from congrArg _ (Int32.ofInt_sub a b)] at k'
  exact lv_isub hC.1 hC.2.1 hd k'
theorem wp_imul {a b : Int} (hd : decode y.2.1 pc = .ok (.imul, 1)) (k : wp l G y rm fr K md (pc + 1) L (gI (a * b) :: st) X M cs ss) : wp l G y rm fr K md pc L (gI b :: gI a :: st) X M cs ss := by
  intro p e s m args below meth c H locs ls hC hS hR hL
  have k' := k p e s m args below meth c H locs ls hC hS hR hL
  rw [show gI (a * b) = .int (Int32.ofInt a * Int32.ofInt b) from congrArg _ (Int32.ofInt_mul a b)] at k'
  exact lv_imul hC.1 hC.2.1 hd k'
theorem wp_ineg {a : Int} (hd : decode y.2.1 pc = .ok (.ineg, 1)) (k : wp l G y rm fr K md (pc + 1) L (gI (-a) :: st) X M cs ss) : wp l G y rm fr K md pc L (gI a :: st) X M cs ss := by
  intro p e s m args below meth c H locs ls hC hS hR hL
  have k' := k p e s m args below meth c H locs ls hC hS hR hL
  rw [show gI (-a) = .int (-Int32.ofInt a) from congrArg _ (Int32.ofInt_neg a)] at k'
  exact lv_ineg hC.1 hC.2.1 hd k'
theorem g_idiv {a b : Int} (ha : g32 a) (hb : g32 b) : Int32.ofInt (a.tdiv b) = Int32.ofInt a / Int32.ofInt b := Int32.ofInt_tdiv (by have : Int32.minValue.toInt = -2147483648 := rfl; have := ha.1; omega) (by have : Int32.maxValue.toInt = 2147483647 := rfl; have := ha.2; omega) (by have : Int32.minValue.toInt = -2147483648 := rfl; have := hb.1; omega) (by have : Int32.maxValue.toInt = 2147483647 := rfl; have := hb.2; omega)
theorem wp_idiv {a b : Int} (hd : decode y.2.1 pc = .ok (.idiv, 1)) (ha : g32 a) (hb : g32 b) (h0 : b ≠ 0) (k : wp l G y rm fr K md (pc + 1) L (gI (a.tdiv b) :: st) X M cs ss) : wp l G y rm fr K md pc L (gI b :: gI a :: st) X M cs ss := by
  intro p e s m args below meth c H locs ls hC hS hR hL
  have k' := k p e s m args below meth c H locs ls hC hS hR hL
  rw [show gI (a.tdiv b) = .int (Int32.ofInt a / Int32.ofInt b) from congrArg _ (g_idiv ha hb)] at k'
  exact lv_idiv hC.1 hC.2.1 hd (by rw [gz32]; exact fun h => h0 ((g32_eq hb g32_0).mp h)) k'
theorem wp_irem {a b : Int} (hd : decode y.2.1 pc = .ok (.irem, 1)) (ha : g32 a) (hb : g32 b) (h0 : b ≠ 0) (k : wp l G y rm fr K md (pc + 1) L (gI (a.tmod b) :: st) X M cs ss) : wp l G y rm fr K md pc L (gI b :: gI a :: st) X M cs ss := by
  intro p e s m args below meth c H locs ls hC hS hR hL
  have k' := k p e s m args below meth c H locs ls hC hS hR hL
  have e9 : Int32.ofInt (a.tmod b) = Int32.ofInt a - Int32.ofInt a / Int32.ofInt b * Int32.ofInt b := by rw [← g_idiv ha hb, ← Int32.ofInt_mul, ← Int32.ofInt_sub, Int.tmod_def, Int.mul_comm]
  unfold gI at k'
  rw [e9] at k'
  exact lv_irem hC.1 hC.2.1 hd (by rw [gz32]; exact fun h => h0 ((g32_eq hb g32_0).mp h)) k'
theorem wp_iand {a b : Int} (hd : decode y.2.1 pc = .ok (.iand, 1)) (k : wp l G y rm fr K md (pc + 1) L (gI (gAnd a b) :: st) X M cs ss) : wp l G y rm fr K md pc L (gI b :: gI a :: st) X M cs ss := by
  intro p e s m args below meth c H locs ls hC hS hR hL
  have k' := k p e s m args below meth c H locs ls hC hS hR hL
  unfold gI gAnd at k'
  rw [Int32.ofInt_toInt] at k'
  exact lv_iand hC.1 hC.2.1 hd k'
theorem wp_ishr {a b : Int} (hd : decode y.2.1 pc = .ok (.ishr, 1)) (k : wp l G y rm fr K md (pc + 1) L (gI (gShr a b) :: st) X M cs ss) : wp l G y rm fr K md pc L (gI b :: gI a :: st) X M cs ss := by
  intro p e s m args below meth c H locs ls hC hS hR hL
  have k' := k p e s m args below meth c H locs ls hC hS hR hL
  unfold gI gShr at k'
  rw [Int32.ofInt_toInt] at k'
  exact lv_ishr hC.1 hC.2.1 hd k'
theorem wp_i2l {a : Int} (hd : decode y.2.1 pc = .ok (.i2l, 1)) (ha : g32 a) (k : wp l G y rm fr K md (pc + 1) L (gL a :: st) X M cs ss) : wp l G y rm fr K md pc L (gI a :: st) X M cs ss :=
  fun p e s m args below meth c H locs ls hC hS hR hL => lv_i2l hC.1 hC.2.1 hd (Int64.toInt_inj.mp (by rw [Int32.toInt_toInt64, g32_toInt ha, g64_toInt ⟨by have := ha.1; omega, by have := ha.2; omega⟩])) (k p e s m args below meth c H locs ls hC hS hR hL)
theorem gByte_val (a : Int) : (Int32.ofInt a).toInt8.toInt32 = Int32.ofInt (gByte a) := by
  apply Int32.toInt_inj.mp
  rw [Int8.toInt_toInt32, g32_toInt ⟨by have := gByte_ok a; omega, by have := gByte_ok a; omega⟩]
  rfl
theorem wp_i2b {a : Int} (hd : decode y.2.1 pc = .ok (.i2b, 1)) (k : wp l G y rm fr K md (pc + 1) L (gI (gByte a) :: st) X M cs ss) : wp l G y rm fr K md pc L (gI a :: st) X M cs ss :=
  fun p e s m args below meth c H locs ls hC hS hR hL => lv_i2b hC.1 hC.2.1 hd (gByte_val a) (k p e s m args below meth c H locs ls hC hS hR hL)
theorem wp_lcmp {a b : Int} (hd : decode y.2.1 pc = .ok (.lcmp, 1)) (ha : g64 a) (hb : g64 b) (k : wp l G y rm fr K md (pc + 1) L (gI (gCmp a b) :: st) X M cs ss) : wp l G y rm fr K md pc L (gL b :: gL a :: st) X M cs ss :=
  fun p e s m args below meth c H locs ls hC hS hR hL => W.lcmp hC.1 hC.2.1 hd (by rw [gCmp_eq ha hb]; exact k p e s m args below meth c H locs ls hC hS hR hL)
theorem wp_dup {v : Value} (hd : decode y.2.1 pc = .ok (.dup, 1)) (hv : v.category = 1) (k : wp l G y rm fr K md (pc + 1) L (v :: v :: st) X M cs ss) : wp l G y rm fr K md pc L (v :: st) X M cs ss :=
  fun p e s m args below meth c H locs ls hC hS hR hL => lv_dup hC.1 hC.2.1 hd hv (k p e s m args below meth c H locs ls hC hS hR hL)
theorem gR_cat (r : Nat) : (gR G r).category = 1 := by unfold gR; split <;> rfl
theorem wp_goto {off : Int} {tgt : Nat} (hd : decode y.2.1 pc = .ok (.goto off, 3)) (ht : (pc : Int) + off = (tgt : Int)) (k : wp l G y rm fr K md tgt L st X M cs ss) : wp l G y rm fr K md pc L st X M cs ss :=
  fun p e s m args below meth c H locs ls hC hS hR hL => lv_goto hC.1 hC.2.1 hd ht (k p e s m args below meth c H locs ls hC hS hR hL)
theorem wp_icmp_eq {a b off : Int} {tgt : Nat} (hd : decode y.2.1 pc = .ok (.if_icmp .eq off, 3)) (ht : (pc : Int) + off = (tgt : Int)) (ha : g32 a) (hb : g32 b) (kt : a = b → wp l G y rm fr K md tgt L st X M cs ss) (kf : ¬ a = b → wp l G y rm fr K md (pc + 3) L st X M cs ss) : wp l G y rm fr K md pc L (gI b :: gI a :: st) X M cs ss :=
  fun p e s m args below meth c H locs ls hC hS hR hL => lv_icmp_eq hC.1 hC.2.1 hd ht (fun h => (fun h => kt ((g32_eq ha hb).mp h)) h p e s m args below meth c H locs ls hC hS hR hL) (fun h => (fun h => kf (fun h2 => h ((g32_eq ha hb).mpr h2))) h p e s m args below meth c H locs ls hC hS hR hL)
theorem wp_icmp_ne {a b off : Int} {tgt : Nat} (hd : decode y.2.1 pc = .ok (.if_icmp .ne off, 3)) (ht : (pc : Int) + off = (tgt : Int)) (ha : g32 a) (hb : g32 b) (kt : ¬ a = b → wp l G y rm fr K md tgt L st X M cs ss) (kf : a = b → wp l G y rm fr K md (pc + 3) L st X M cs ss) : wp l G y rm fr K md pc L (gI b :: gI a :: st) X M cs ss :=
  fun p e s m args below meth c H locs ls hC hS hR hL => lv_icmp_ne hC.1 hC.2.1 hd ht (fun h => (fun h => kt (fun h2 => h ((g32_eq ha hb).mpr h2))) h p e s m args below meth c H locs ls hC hS hR hL) (fun h => (fun h => kf ((g32_eq ha hb).mp h)) h p e s m args below meth c H locs ls hC hS hR hL)
theorem wp_icmp_lt {a b off : Int} {tgt : Nat} (hd : decode y.2.1 pc = .ok (.if_icmp .lt off, 3)) (ht : (pc : Int) + off = (tgt : Int)) (ha : g32 a) (hb : g32 b) (kt : a < b → wp l G y rm fr K md tgt L st X M cs ss) (kf : ¬ a < b → wp l G y rm fr K md (pc + 3) L st X M cs ss) : wp l G y rm fr K md pc L (gI b :: gI a :: st) X M cs ss :=
  fun p e s m args below meth c H locs ls hC hS hR hL => lv_icmp_lt hC.1 hC.2.1 hd ht (fun h => (fun h => kt ((g32_lt ha hb).mp h)) h p e s m args below meth c H locs ls hC hS hR hL) (fun h => (fun h => kf (fun h2 => h ((g32_lt ha hb).mpr h2))) h p e s m args below meth c H locs ls hC hS hR hL)
theorem wp_icmp_ge {a b off : Int} {tgt : Nat} (hd : decode y.2.1 pc = .ok (.if_icmp .ge off, 3)) (ht : (pc : Int) + off = (tgt : Int)) (ha : g32 a) (hb : g32 b) (kt : b ≤ a → wp l G y rm fr K md tgt L st X M cs ss) (kf : ¬ b ≤ a → wp l G y rm fr K md (pc + 3) L st X M cs ss) : wp l G y rm fr K md pc L (gI b :: gI a :: st) X M cs ss :=
  fun p e s m args below meth c H locs ls hC hS hR hL => lv_icmp_ge hC.1 hC.2.1 hd ht (fun h => (fun h => kt ((g32_le hb ha).mp h)) h p e s m args below meth c H locs ls hC hS hR hL) (fun h => (fun h => kf (fun h2 => h ((g32_le hb ha).mpr h2))) h p e s m args below meth c H locs ls hC hS hR hL)
theorem wp_icmp_gt {a b off : Int} {tgt : Nat} (hd : decode y.2.1 pc = .ok (.if_icmp .gt off, 3)) (ht : (pc : Int) + off = (tgt : Int)) (ha : g32 a) (hb : g32 b) (kt : b < a → wp l G y rm fr K md tgt L st X M cs ss) (kf : ¬ b < a → wp l G y rm fr K md (pc + 3) L st X M cs ss) : wp l G y rm fr K md pc L (gI b :: gI a :: st) X M cs ss :=
  fun p e s m args below meth c H locs ls hC hS hR hL => lv_icmp_gt hC.1 hC.2.1 hd ht (fun h => (fun h => kt ((g32_lt hb ha).mp h)) h p e s m args below meth c H locs ls hC hS hR hL) (fun h => (fun h => kf (fun h2 => h ((g32_lt hb ha).mpr h2))) h p e s m args below meth c H locs ls hC hS hR hL)
theorem wp_icmp_le {a b off : Int} {tgt : Nat} (hd : decode y.2.1 pc = .ok (.if_icmp .le off, 3)) (ht : (pc : Int) + off = (tgt : Int)) (ha : g32 a) (hb : g32 b) (kt : a ≤ b → wp l G y rm fr K md tgt L st X M cs ss) (kf : ¬ a ≤ b → wp l G y rm fr K md (pc + 3) L st X M cs ss) : wp l G y rm fr K md pc L (gI b :: gI a :: st) X M cs ss :=
  fun p e s m args below meth c H locs ls hC hS hR hL => lv_icmp_le hC.1 hC.2.1 hd ht (fun h => (fun h => kt ((g32_le ha hb).mp h)) h p e s m args below meth c H locs ls hC hS hR hL) (fun h => (fun h => kf (fun h2 => h ((g32_le ha hb).mpr h2))) h p e s m args below meth c H locs ls hC hS hR hL)
theorem wp_if_eq {a off : Int} {tgt : Nat} (hd : decode y.2.1 pc = .ok (.ifCond .eq off, 3)) (ht : (pc : Int) + off = (tgt : Int)) (ha : g32 a) (kt : a = 0 → wp l G y rm fr K md tgt L st X M cs ss) (kf : ¬ a = 0 → wp l G y rm fr K md (pc + 3) L st X M cs ss) : wp l G y rm fr K md pc L (gI a :: st) X M cs ss :=
  fun p e s m args below meth c H locs ls hC hS hR hL => lv_if_eq hC.1 hC.2.1 hd ht (fun h => (fun h => kt ((g32_eq ha g32_0).mp h)) h p e s m args below meth c H locs ls hC hS hR hL) (fun h => (fun h => kf (fun h2 => h ((g32_eq ha g32_0).mpr h2))) h p e s m args below meth c H locs ls hC hS hR hL)
theorem wp_if_ne {a off : Int} {tgt : Nat} (hd : decode y.2.1 pc = .ok (.ifCond .ne off, 3)) (ht : (pc : Int) + off = (tgt : Int)) (ha : g32 a) (kt : ¬ a = 0 → wp l G y rm fr K md tgt L st X M cs ss) (kf : a = 0 → wp l G y rm fr K md (pc + 3) L st X M cs ss) : wp l G y rm fr K md pc L (gI a :: st) X M cs ss :=
  fun p e s m args below meth c H locs ls hC hS hR hL => lv_if_ne hC.1 hC.2.1 hd ht (fun h => (fun h => kt (fun h2 => h ((g32_eq ha g32_0).mpr h2))) h p e s m args below meth c H locs ls hC hS hR hL) (fun h => (fun h => kf ((g32_eq ha g32_0).mp h)) h p e s m args below meth c H locs ls hC hS hR hL)
theorem wp_if_lt {a off : Int} {tgt : Nat} (hd : decode y.2.1 pc = .ok (.ifCond .lt off, 3)) (ht : (pc : Int) + off = (tgt : Int)) (ha : g32 a) (kt : a < 0 → wp l G y rm fr K md tgt L st X M cs ss) (kf : ¬ a < 0 → wp l G y rm fr K md (pc + 3) L st X M cs ss) : wp l G y rm fr K md pc L (gI a :: st) X M cs ss :=
  fun p e s m args below meth c H locs ls hC hS hR hL => lv_if_lt hC.1 hC.2.1 hd ht (fun h => (fun h => kt ((g32_lt ha g32_0).mp h)) h p e s m args below meth c H locs ls hC hS hR hL) (fun h => (fun h => kf (fun h2 => h ((g32_lt ha g32_0).mpr h2))) h p e s m args below meth c H locs ls hC hS hR hL)
theorem wp_if_ge {a off : Int} {tgt : Nat} (hd : decode y.2.1 pc = .ok (.ifCond .ge off, 3)) (ht : (pc : Int) + off = (tgt : Int)) (ha : g32 a) (kt : 0 ≤ a → wp l G y rm fr K md tgt L st X M cs ss) (kf : ¬ 0 ≤ a → wp l G y rm fr K md (pc + 3) L st X M cs ss) : wp l G y rm fr K md pc L (gI a :: st) X M cs ss :=
  fun p e s m args below meth c H locs ls hC hS hR hL => lv_if_ge hC.1 hC.2.1 hd ht (fun h => (fun h => kt ((g32_le g32_0 ha).mp h)) h p e s m args below meth c H locs ls hC hS hR hL) (fun h => (fun h => kf (fun h2 => h ((g32_le g32_0 ha).mpr h2))) h p e s m args below meth c H locs ls hC hS hR hL)
theorem wp_if_le {a off : Int} {tgt : Nat} (hd : decode y.2.1 pc = .ok (.ifCond .le off, 3)) (ht : (pc : Int) + off = (tgt : Int)) (ha : g32 a) (kt : a ≤ 0 → wp l G y rm fr K md tgt L st X M cs ss) (kf : ¬ a ≤ 0 → wp l G y rm fr K md (pc + 3) L st X M cs ss) : wp l G y rm fr K md pc L (gI a :: st) X M cs ss :=
  fun p e s m args below meth c H locs ls hC hS hR hL => lv_if_le hC.1 hC.2.1 hd ht (fun h => (fun h => kt ((g32_le ha g32_0).mp h)) h p e s m args below meth c H locs ls hC hS hR hL) (fun h => (fun h => kf (fun h2 => h ((g32_le ha g32_0).mpr h2))) h p e s m args below meth c H locs ls hC hS hR hL)
theorem wp_lcmp_eq {a b off : Int} {tgt : Nat} (hd : decode y.2.1 pc = .ok (.lcmp, 1)) (hd2 : decode y.2.1 (pc + 1) = .ok (.ifCond .eq off, 3)) (ht : ((pc + 1 : Nat) : Int) + off = (tgt : Int)) (ha : g64 a) (hb : g64 b) (kt : a = b → wp l G y rm fr K md tgt L st X M cs ss) (kf : ¬ a = b → wp l G y rm fr K md (pc + 1 + 3) L st X M cs ss) : wp l G y rm fr K md pc L (gL b :: gL a :: st) X M cs ss := by
  have hq : (gCmp a b = 0) ↔ (a = b) := by unfold gCmp; (repeat' split) <;> omega
  exact wp_lcmp hd ha hb (wp_if_eq hd2 ht (gCmp_ok a b) (fun h => kt (hq.mp h)) (fun h => kf (by exact fun h2 => h (hq.mpr h2))))
theorem wp_lcmp_ne {a b off : Int} {tgt : Nat} (hd : decode y.2.1 pc = .ok (.lcmp, 1)) (hd2 : decode y.2.1 (pc + 1) = .ok (.ifCond .ne off, 3)) (ht : ((pc + 1 : Nat) : Int) + off = (tgt : Int)) (ha : g64 a) (hb : g64 b) (kt : ¬ a = b → wp l G y rm fr K md tgt L st X M cs ss) (kf : a = b → wp l G y rm fr K md (pc + 1 + 3) L st X M cs ss) : wp l G y rm fr K md pc L (gL b :: gL a :: st) X M cs ss := by
  have hq : (¬ gCmp a b = 0) ↔ (¬ a = b) := by unfold gCmp; (repeat' split) <;> omega
  exact wp_lcmp hd ha hb (wp_if_ne hd2 ht (gCmp_ok a b) (fun h => kt (hq.mp h)) (fun h => kf (by exact Decidable.byContradiction fun h2 => (hq.mpr h2) h)))
theorem wp_lcmp_lt {a b off : Int} {tgt : Nat} (hd : decode y.2.1 pc = .ok (.lcmp, 1)) (hd2 : decode y.2.1 (pc + 1) = .ok (.ifCond .lt off, 3)) (ht : ((pc + 1 : Nat) : Int) + off = (tgt : Int)) (ha : g64 a) (hb : g64 b) (kt : a < b → wp l G y rm fr K md tgt L st X M cs ss) (kf : ¬ a < b → wp l G y rm fr K md (pc + 1 + 3) L st X M cs ss) : wp l G y rm fr K md pc L (gL b :: gL a :: st) X M cs ss := by
  have hq : (gCmp a b < 0) ↔ (a < b) := by unfold gCmp; (repeat' split) <;> omega
  exact wp_lcmp hd ha hb (wp_if_lt hd2 ht (gCmp_ok a b) (fun h => kt (hq.mp h)) (fun h => kf (by exact fun h2 => h (hq.mpr h2))))
theorem wp_tableIn {a dflt lo hi off : Int} {offs : Array Int} {len tgt : Nat} (hd : decode y.2.1 pc = .ok (.tableswitch dflt lo hi offs, len)) (ha : g32 a) (h1 : lo ≤ a) (h2 : a ≤ hi) (ho : offs[(a - lo).toNat]? = some off) (ht : (pc : Int) + off = (tgt : Int)) (k : wp l G y rm fr K md tgt L st X M cs ss) : wp l G y rm fr K md pc L (gI a :: st) X M cs ss :=
  fun p e s m args below meth c H locs ls hC hS hR hL => lv_tableIn hC.1 hC.2.1 hd (by rw [g32_toInt ha]; omega) (by rw [g32_toInt ha]; omega) (by rw [g32_toInt ha]; exact ho) ht (k p e s m args below meth c H locs ls hC hS hR hL)
theorem wp_tableOut {a dflt lo hi : Int} {offs : Array Int} {len tgt : Nat} (hd : decode y.2.1 pc = .ok (.tableswitch dflt lo hi offs, len)) (ha : g32 a) (h : a < lo ∨ hi < a) (ht : (pc : Int) + dflt = (tgt : Int)) (k : wp l G y rm fr K md tgt L st X M cs ss) : wp l G y rm fr K md pc L (gI a :: st) X M cs ss :=
  fun p e s m args below meth c H locs ls hC hS hR hL => lv_tableOut hC.1 hC.2.1 hd (by rw [g32_toInt ha]; exact h) ht (k p e s m args below meth c H locs ls hC hS hR hL)
theorem wp_lookup {a dflt off : Int} {ps : Array (Int × Int)} {len tgt : Nat} (hd : decode y.2.1 pc = .ok (.lookupswitch dflt ps, len)) (ha : g32 a) (hp : (ps.toList.zip (ps.toList.drop 1)).all (fun (a, next) => a.1 < next.1) = true) (ho : Op.lookupswitch.offset ps.toList dflt a = off) (ht : (pc : Int) + off = (tgt : Int)) (k : wp l G y rm fr K md tgt L st X M cs ss) : wp l G y rm fr K md pc L (gI a :: st) X M cs ss :=
  fun p e s m args below meth c H locs ls hC hS hR hL => lv_lookup hC.1 hC.2.1 hd hp (by rw [g32_toInt ha]; exact ho) ht (k p e s m args below meth c H locs ls hC hS hR hL)
theorem wp_ireturn {a : Int} (hd : decode y.2.1 pc = .ok (.ireturn, 1)) (hr : y.2.2.2 = some .int) (hm : md = true → fr = true) (hc : cs ≤ rm.cells) (hs : ss ≤ rm.slots) (k : K (.returned (some (gI a))) X M) : wp l G y rm fr K md pc L [gI a] X M cs ss := by
  intro p e s m args below meth c H locs ls hC hS hR hL
  have hlocks : meth.locks = false := hC.2.2.2.2.2.2.1
  exact W.post (fun t h => gMQ.of h) (W.widen hc hs (W.iret hC.1 hC.2.1 (hC.2.2.1.trans hr) (fun t ht hW => ⟨⟨X, M, k, by rw [ht]; exact hR⟩, gF_le hm (hS.F ht)⟩) (fun q hq => gA_le hm (hS.2.2 q hq)) hd))
theorem wp_zreturn {a : Int} {ty : FieldType} (hd : decode y.2.1 pc = .ok (.ireturn, 1)) (hr : y.2.2.2 = some ty) (hn : narrow ty (gI a) = gI a) (hm : md = true → fr = true) (hc : cs ≤ rm.cells) (hs : ss ≤ rm.slots) (k : K (.returned (some (gI a))) X M) : wp l G y rm fr K md pc L [gI a] X M cs ss := by
  intro p e s m args below meth c H locs ls hC hS hR hL
  have hlocks : meth.locks = false := hC.2.2.2.2.2.2.1
  exact W.post (fun t h => gMQ.of h) (W.widen hc hs (W.zret hC.1 hC.2.1 (hC.2.2.1.trans hr) hn (fun t ht hW => ⟨⟨X, M, k, by rw [ht]; exact hR⟩, gF_le hm (hS.F ht)⟩) (fun q hq => gA_le hm (hS.2.2 q hq)) hd))
theorem wp_lreturn {a : Int} (hd : decode y.2.1 pc = .ok (.lreturn, 1)) (hr : y.2.2.2 = some .long) (hm : md = true → fr = true) (hc : cs ≤ rm.cells) (hs : ss ≤ rm.slots) (k : K (.returned (some (gL a))) X M) : wp l G y rm fr K md pc L [gL a] X M cs ss := by
  intro p e s m args below meth c H locs ls hC hS hR hL
  have hlocks : meth.locks = false := hC.2.2.2.2.2.2.1
  exact W.post (fun t h => gMQ.of h) (W.widen hc hs (W.lret hC.1 hC.2.1 (hC.2.2.1.trans hr) (fun t ht hW => ⟨⟨X, M, k, by rw [ht]; exact hR⟩, gF_le hm (hS.F ht)⟩) (fun q hq => gA_le hm (hS.2.2 q hq)) hd))
theorem wp_return (hd : decode y.2.1 pc = .ok (.return_, 1)) (hr : y.2.2.2 = none) (hm : md = true → fr = true) (hc : cs ≤ rm.cells) (hs : ss ≤ rm.slots) (k : K (.returned none) X M) : wp l G y rm fr K md pc L [] X M cs ss := by
  intro p e s m args below meth c H locs ls hC hS hR hL
  have hlocks : meth.locks = false := hC.2.2.2.2.2.2.1
  exact W.post (fun t h => gMQ.of h) (W.widen hc hs (W.vret hC.1 hC.2.1 (hC.2.2.1.trans hr) (fun t ht hW => ⟨⟨X, M, k, by rw [ht]; exact hR⟩, gF_le hm (hS.F ht)⟩) (fun q hq => gA_le hm (hS.2.2 q hq)) hd))
theorem g_narz {a : Int} (h : 0 ≤ a ∧ a ≤ 1) : narrow .boolean (gI a) = gI a := by
  have h2 : a = 0 ∨ a = 1 := by omega
  rcases h2 with rfl | rfl <;> rfl
end gRules
