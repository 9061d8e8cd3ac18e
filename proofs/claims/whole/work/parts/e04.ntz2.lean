/-! Long.numberOfTrailingZeros: the lowest bit that is set. -/
theorem gNt_x {Y i : Nat} (hi : Y.testBit i = true) (hl : ∀ j, j < i → Y.testBit j = false) : Y = 2 ^ (i + 1) * (Y / 2 ^ (i + 1)) + 2 ^ i := by
  have e : Y % 2 ^ (i + 1) = 2 ^ i := by
    apply Nat.eq_of_testBit_eq
    intro j
    rw [Nat.testBit_mod_two_pow, Nat.testBit_two_pow]
    by_cases h1 : j < i
    · rw [hl j h1, Bool.and_false]
      exact (decide_eq_false (by omega)).symm
    · by_cases h2 : j = i
      · subst h2
        rw [hi, Bool.and_true, decide_eq_true (by omega), decide_eq_true rfl]
      · rw [decide_eq_false (by omega : ¬ j < i + 1), Bool.false_and]
        exact (decide_eq_false (by omega)).symm
  have := Nat.div_add_mod Y (2 ^ (i + 1))
  rw [e] at this
  exact this.symm
theorem gNt_m {Y i : Nat} (hY : Y < 2 ^ 32) (hi : Y.testBit i = true) (hl : ∀ j, j < i → Y.testBit j = false) : (Y ^^^ 4294967295) &&& (Y - 1) = 2 ^ i - 1 := by
  have eY := gNt_x hi hl
  have p := Nat.two_pow_pos i
  have e1 : Y - 1 = 2 ^ (i + 1) * (Y / 2 ^ (i + 1)) + (2 ^ i - 1) := by omega
  have b1 : 2 ^ i < 2 ^ (i + 1) := Nat.pow_lt_pow_right (by decide) (by omega)
  apply Nat.eq_of_testBit_eq
  intro j
  rw [Nat.testBit_and, Nat.testBit_xor, Nat.testBit_two_pow_sub_one, show (4294967295 : Nat) = 2 ^ 32 - 1 from rfl, Nat.testBit_two_pow_sub_one, e1, Nat.testBit_two_pow_mul_add (2 ^ i - 1 |> fun _ => Y / 2 ^ (i + 1)) (by omega : 2 ^ i - 1 < 2 ^ (i + 1)) j, Nat.testBit_two_pow_sub_one]
  have f1 : Y.testBit j = if j < i + 1 then (2 ^ i).testBit j else (Y / 2 ^ (i + 1)).testBit (j - (i + 1)) := by
    have := Nat.testBit_two_pow_mul_add (Y / 2 ^ (i + 1)) b1 j
    rw [← eY] at this
    exact this
  have i32 : i < 32 := by
    refine Decidable.byContradiction fun q => ?_
    have := Nat.testBit_lt_two_pow (Nat.lt_of_lt_of_le hY (Nat.pow_le_pow_right (by decide) (by omega : 32 ≤ i)))
    rw [hi] at this
    cases this
  rw [f1, Nat.testBit_two_pow]
  by_cases h1 : j < i
  · rw [if_pos (by omega), if_pos (by omega), decide_eq_false (by omega : ¬ i = j), decide_eq_true (by omega : j < 32), decide_eq_true h1]; rfl
  · by_cases h2 : j = i
    · subst h2
      rw [if_pos (by omega), if_pos (by omega), decide_eq_false (by omega : ¬ j < j), Bool.and_false]
    · rw [if_neg (by omega), if_neg (by omega), decide_eq_false (by omega : ¬ j < i)]
      by_cases h3 : j < 32
      · rw [decide_eq_true h3]
        cases (Y / 2 ^ (i + 1)).testBit (j - (i + 1)) <;> rfl
      · have : (Y / 2 ^ (i + 1)).testBit (j - (i + 1)) = false := by
          have q := Nat.testBit_lt_two_pow (Nat.lt_of_lt_of_le hY (Nat.pow_le_pow_right (by decide) (by omega : 32 ≤ j)))
          rw [f1, if_neg (by omega)] at q
          exact q
        rw [this, Bool.and_false]
/-- what the method reckons -/
def gNz34 (x0 x1 : Int) : Int := if x0 ≤ 256 then (if x0 ≤ 16 then (if x0 ≤ 4 then w32 (x1 + gUshr x0 1) else w32 (x1 + 2 + gUshr (gUshr x0 2) 1)) else (if gUshr x0 4 ≤ 4 then w32 (x1 + 4 + gUshr (gUshr x0 4) 1) else w32 (x1 + 4 + 2 + gUshr (gUshr (gUshr x0 4) 2) 1))) else (if gUshr x0 8 ≤ 16 then (if gUshr x0 8 ≤ 4 then w32 (x1 + 8 + gUshr (gUshr x0 8) 1) else w32 (x1 + 8 + 2 + gUshr (gUshr (gUshr x0 8) 2) 1)) else (if gUshr (gUshr x0 8) 4 ≤ 4 then w32 (x1 + 8 + 4 + gUshr (gUshr (gUshr x0 8) 4) 1) else w32 (x1 + 8 + 4 + 2 + gUshr (gUshr (gUshr (gUshr x0 8) 4) 2) 1)))
def gNz (m : Int) : Int := if 0 < m then (if m ≤ 65536 then gNz34 m 1 else gNz34 (gUshr m 16) (w32 (1 + 16))) else gAnd m 32
theorem gNz_all : ∀ i : Fin 32, gNz ((2 ^ i.val - 1 : Nat) : Int) = ((i.val : Nat) : Int) := by decide +kernel
section geD
variable {l : Launch} {G : gG} {d : Nat} {X : gX} {M : gM}
theorem c_jInt_ntz {y : Int} {i : Nat} {k : Int → gM → Prop} (hi32 : i < 32) (hi : (y % 4294967296).toNat.testBit i = true) (hl : ∀ j, j < i → (y % 4294967296).toNat.testBit j = false) (h : k (i : Int) M) : cI l G y_jInt_numberOfTrailingZeros (gRm d) false [gI y] X M k := by
  have s34 : ∀ x0 x1 : Int, g32 x0 → g32 x1 → k (gNz34 x0 x1) M → wp l G y_jInt_numberOfTrailingZeros (gRm d) false (kkI X k) false 34 [.val (gI x0), .val (gI x1)] [] X M 0 0 := by
    intro x0 x1 g0 g1 hk
    refine w_jInt_numberOfTrailingZeros_34 g0 g1 ?_
    unfold gNz34 at hk
    (repeat' with_reducible first | (refine And.intro ?_ ?_) | intro _) <;> simp_all only [if_true, if_false, not_true_eq_false, not_false_eq_true]
  rw [← gI_w]
  have eo : Int32.ofInt (w32 y) = Int32.ofInt y := Int32.ofInt_toInt _
  have em : gAnd (gXor (w32 y) (-1)) (w32 y - 1) = ((2 ^ i - 1 : Nat) : Int) := by
    have hY : (y % 4294967296).toNat < 2 ^ 32 := by omega
    have key := gNt_m hY hi hl
    have e1 : (BitVec.ofInt 32 y).toNat = (y % 4294967296).toNat := BitVec.toNat_ofInt ..
    have e2 : (Int32.ofInt (w32 y - 1)).toBitVec.toNat = (y % 4294967296).toNat - 1 := by
      have e3 : (Int32.ofInt (w32 y - 1)).toBitVec.toNat = ((w32 y - 1) % 4294967296).toNat := BitVec.toNat_ofInt ..
      have e4 : w32 y % 4294967296 = y % 4294967296 := by
        have h1 : (BitVec.ofInt 32 (w32 y)).toNat = (w32 y % 4294967296).toNat := BitVec.toNat_ofInt ..
        have h2 : BitVec.ofInt 32 (w32 y) = BitVec.ofInt 32 y := congrArg Int32.toBitVec eo
        rw [h2, e1] at h1
        omega
      have hp : 1 ≤ (y % 4294967296).toNat := by
        refine Decidable.byContradiction fun q => ?_
        have : (y % 4294967296).toNat = 0 := by omega
        rw [this, Nat.zero_testBit] at hi
        cases hi
      rw [e3]
      omega
    have e5 : gAnd (gXor (w32 y) (-1)) (w32 y - 1) = ((BitVec.ofInt 32 y ^^^ BitVec.ofInt 32 (-1)) &&& (Int32.ofInt (w32 y - 1)).toBitVec).toInt := by
      unfold gAnd gXor
      rw [Int32.ofInt_toInt, eo]
      rfl
    have e6 : ((BitVec.ofInt 32 y ^^^ BitVec.ofInt 32 (-1)) &&& (Int32.ofInt (w32 y - 1)).toBitVec).toNat = 2 ^ i - 1 := by
      rw [BitVec.toNat_and, BitVec.toNat_xor, e1, e2, ← key]
      rfl
    have p31 : 2 ^ i ≤ 2 ^ 31 := Nat.pow_le_pow_right (by decide) (by omega)
    rw [e5, BitVec.toInt_eq_toNat_of_lt (by rw [e6]; omega), e6]
  have hz := gNz_all ⟨i, hi32⟩
  dsimp only at hz
  rw [← hz] at h
  have gm : g32 ((2 ^ i - 1 : Nat) : Int) := by
    have p31 : 2 ^ i ≤ 2 ^ 31 := Nat.pow_le_pow_right (by decide) (by omega)
    exact ⟨by omega, by omega⟩
  refine e_jInt_numberOfTrailingZeros (w_jInt_numberOfTrailingZeros_0 (w32_ok _) ?_)
  rw [em]
  unfold gNz at h
  refine ⟨fun z => ?_, fun z => ?_⟩
  · rw [if_pos z] at h
    refine ⟨fun z2 => ?_, fun z2 => ?_⟩
    · rw [if_pos z2] at h
      exact s34 _ _ gm (g32_c rfl) h
    · rw [if_neg z2] at h
      exact s34 _ _ (gUshr_ok _ _) (w32_ok _) h
  · rw [if_neg z] at h
    exact h
theorem c_jLong_ntz {x : Int} {i : Nat} {k : Int → gM → Prop} (gx : g64 x) (hi64 : i < 64) (hi : gBt x i = true) (hl : ∀ j, j < i → gBt x j = false) (h : k (i : Int) M) : cI l G y_jLong_numberOfTrailingZeros (gRm (d + 1)) false [gL x] X M k := by
  have eX : (gBv x).toNat = (x % 18446744073709551616).toNat := BitVec.toNat_ofInt ..
  have hi : (x % 18446744073709551616).toNat.testBit i = true := by rw [← eX]; exact hi
  have hl : ∀ j, j < i → (x % 18446744073709551616).toNat.testBit j = false := fun j hj => by rw [← eX]; exact hl j hj
  have low : ∀ j, j < 32 → (x % 4294967296).toNat.testBit j = (x % 18446744073709551616).toNat.testBit j := by
    intro j hj
    have e : (x % 4294967296).toNat = (x % 18446744073709551616).toNat % 2 ^ 32 := by omega
    rw [e, Nat.testBit_mod_two_pow, decide_eq_true hj, Bool.true_and]
  have w0 : w32 x = 0 ↔ x % 4294967296 = 0 := by
    have h1 : (BitVec.ofInt 32 x).toNat = (x % 4294967296).toNat := BitVec.toNat_ofInt ..
    constructor
    · intro z
      have h2 : Int32.ofInt (w32 x) = Int32.ofInt x := Int32.ofInt_toInt _
      rw [z] at h2
      have h3 : (BitVec.ofInt 32 (0 : Int)).toNat = (BitVec.ofInt 32 x).toNat := congrArg (fun v => v.toBitVec.toNat) h2
      rw [h1] at h3
      have h3 : 0 = (x % 4294967296).toNat := h3
      omega
    · intro z
      rw [z] at h1
      have h2 : BitVec.ofInt 32 x = 0#32 := BitVec.eq_of_toNat_eq (by rw [h1]; rfl)
      show (BitVec.ofInt 32 x).toInt = 0
      rw [h2]
      rfl
  refine e_jLong_numberOfTrailingZeros (w_jLong_numberOfTrailingZeros_0 gx ⟨fun z => ?_, fun z => ?_⟩)
  · by_cases q : i < 32
    · exact c_jInt_ntz q (by rw [low i q]; exact hi) (fun j hj => by rw [low j (by omega)]; exact hl j hj) h
    · exfalso
      refine z (w0.mpr ?_)
      have e : (x % 4294967296).toNat = 0 := by
        apply Nat.eq_of_testBit_eq
        intro j
        rw [Nat.zero_testBit]
        by_cases q2 : j < 32
        · rw [low j q2]; exact hl j (by omega)
        · exact Nat.testBit_lt_two_pow (Nat.lt_of_lt_of_le (by omega : (x % 4294967296).toNat < 2 ^ 32) (Nat.pow_le_pow_right (by decide) (by omega)))
      omega
  · have z := w0.mp z
    have q : ¬ i < 32 := by
      intro q
      have := low i q
      rw [z, hi] at this
      rw [show (0 : Int).toNat = 0 from rfl, Nat.zero_testBit] at this
      cases this
    have eu : gLushr x 32 = (((x % 18446744073709551616).toNat / 2 ^ 32 : Nat) : Int) := by
      show (gBv x >>> (((Int32.ofInt ((32 : Nat) : Int)).toInt64.toUInt64 &&& Int64.toUInt64 63).toBitVec % 64)).toInt = _
      rw [show (gBv x >>> (((Int32.ofInt ((32 : Nat) : Int)).toInt64.toUInt64 &&& Int64.toUInt64 63).toBitVec % 64)) = gBv x >>> (((Int32.ofInt ((32 : Nat) : Int)).toInt64.toUInt64 &&& Int64.toUInt64 63).toBitVec % 64).toNat from rfl, gShu (by decide)]
      have e : (gBv x >>> 32).toNat = (x % 18446744073709551616).toNat / 2 ^ 32 := by
        rw [BitVec.toNat_ushiftRight, eX, Nat.shiftRight_eq_div_pow]
      rw [BitVec.toInt_eq_toNat_of_lt (by rw [e]; omega), e]
    have eh : (gLushr x 32 % 4294967296).toNat = (x % 18446744073709551616).toNat / 2 ^ 32 := by rw [eu]; omega
    have tb : ∀ j, (gLushr x 32 % 4294967296).toNat.testBit j = (x % 18446744073709551616).toNat.testBit (32 + j) := by
      intro j
      rw [eh, ← Nat.shiftRight_eq_div_pow, Nat.testBit_shiftRight]
    refine c_jInt_ntz (i := i - 32) (by omega) (by rw [tb, show 32 + (i - 32) = i by omega]; exact hi) (fun j hj => by rw [tb]; exact hl _ (by omega)) ?_
    rw [w32_id (x := 32 + ((i - 32 : Nat) : Int)) ⟨by omega, by omega⟩, show (32 : Int) + ((i - 32 : Nat) : Int) = (i : Int) by omega]
    exact h
end geD
