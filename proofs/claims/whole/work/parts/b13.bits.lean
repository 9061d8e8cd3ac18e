/-! Bits of longs. -/
def gBv (x : Int) : BitVec 64 := (Int64.ofInt x).toBitVec
theorem gBv_int {x : Int} (h : g64 x) : (gBv x).toInt = x := g64_toInt h
theorem gBv_of (v : BitVec 64) : gBv v.toInt = v := BitVec.ofInt_toInt
theorem gBv_nn {x : Int} (h : 0 ≤ x) (hx : g64 x) : (gBv x).toNat = x.toNat := by
  have e : (gBv x).toNat = (x % ((2 ^ 64 : Nat) : Int)).toNat := BitVec.toNat_ofInt x
  rw [e, Int.emod_eq_of_lt h (by unfold g64 at hx; omega)]
theorem gLand_nn {x y : Int} (hx : 0 ≤ x) (gx : g64 x) (hy : 0 ≤ y) (gy : g64 y) : gLand x y = ((x.toNat &&& y.toNat : Nat) : Int) := by
  show (gBv x &&& gBv y).toInt = _
  have e : (gBv x &&& gBv y).toNat = x.toNat &&& y.toNat := by rw [BitVec.toNat_and, gBv_nn hx gx, gBv_nn hy gy]
  have l : x.toNat &&& y.toNat ≤ x.toNat := Nat.and_le_left
  rw [BitVec.toInt_eq_toNat_of_lt (by rw [e]; unfold g64 at gx; omega), e]
theorem gLand_16 {x : Int} (hx : 0 ≤ x) (gx : g64 x) : gLand x 65535 = x % 65536 := by
  rw [gLand_nn hx gx (by decide) ⟨by decide, by decide⟩]
  have e : x.toNat &&& (65535 : Int).toNat = x.toNat % 65536 := Nat.and_two_pow_sub_one_eq_mod x.toNat 16
  rw [e]
  omega
theorem gSh_f : ∀ n : Fin 64, (((Int32.ofInt ((n.val : Nat) : Int)).toInt64 &&& 63).toBitVec.smod 64).toNat = n.val := by decide +kernel
theorem gSh {n : Nat} (h : n < 64) : (((Int32.ofInt ((n : Nat) : Int)).toInt64 &&& 63).toBitVec.smod 64).toNat = n := gSh_f ⟨n, h⟩
theorem gShu_f : ∀ n : Fin 64, (((Int32.ofInt ((n.val : Nat) : Int)).toInt64.toUInt64 &&& Int64.toUInt64 63).toBitVec % 64).toNat = n.val := by decide +kernel
theorem gShu {n : Nat} (h : n < 64) : (((Int32.ofInt ((n : Nat) : Int)).toInt64.toUInt64 &&& Int64.toUInt64 63).toBitVec % 64).toNat = n := gShu_f ⟨n, h⟩
theorem gLshr_div {x : Int} {n : Nat} (hx : g64 x) (hn : n < 64) : gLshr x (n : Int) = x / ((2 ^ n : Nat) : Int) := by
  show ((gBv x).sshiftRight' (((Int32.ofInt (n : Int)).toInt64 &&& 63).toBitVec.smod 64)).toInt = _
  rw [BitVec.toInt_sshiftRight', gSh hn, gBv_int hx, Int.shiftRight_eq_div_pow]
theorem gLshr_32 {x : Int} (hx : g64 x) : gLshr x 32 = x / 4294967296 := gLshr_div (n := 32) hx (by decide)
theorem gLshr_16 {x : Int} (hx : g64 x) : gLshr x 16 = x / 65536 := gLshr_div (n := 16) hx (by decide)
theorem gLshl_mul {x : Int} {n : Nat} (hx : 0 ≤ x) (hn : n < 64) (h : x * ((2 ^ n : Nat) : Int) < 9223372036854775808) : gLshl x (n : Int) = x * ((2 ^ n : Nat) : Int) := by
  have h1 : x ≤ x * ((2 ^ n : Nat) : Int) := by
    have : (1 : Int) ≤ ((2 ^ n : Nat) : Int) := by have := Nat.two_pow_pos n; omega
    have := Int.mul_le_mul_of_nonneg_left this hx
    omega
  have gx : g64 x := ⟨by omega, by omega⟩
  show ((gBv x) <<< (((Int32.ofInt (n : Int)).toInt64 &&& 63).toBitVec.smod 64)).toInt = _
  rw [BitVec.shiftLeft_eq', gSh hn]
  have e : ((gBv x) <<< n).toNat = x.toNat * 2 ^ n := by
    rw [BitVec.toNat_shiftLeft, gBv_nn hx gx, Nat.shiftLeft_eq, Nat.mod_eq_of_lt]
    have : ((x.toNat * 2 ^ n : Nat) : Int) = x * ((2 ^ n : Nat) : Int) := by rw [Int.natCast_mul, Int.toNat_of_nonneg hx]
    omega
  have e2 : ((x.toNat * 2 ^ n : Nat) : Int) = x * ((2 ^ n : Nat) : Int) := by rw [Int.natCast_mul, Int.toNat_of_nonneg hx]
  rw [BitVec.toInt_eq_toNat_of_lt (by rw [e]; omega), e, e2]
/-- a higher piece and a lower one -/
theorem gLor_add {a b : Int} {n : Nat} (ha : 0 ≤ a) (hb : 0 ≤ b ∧ b < ((2 ^ n : Nat) : Int)) (hs : a * ((2 ^ n : Nat) : Int) + b < 9223372036854775808) : gLor (a * ((2 ^ n : Nat) : Int)) b = a * ((2 ^ n : Nat) : Int) + b := by
  have h0 : 0 ≤ a * ((2 ^ n : Nat) : Int) := Int.mul_nonneg ha (Int.natCast_nonneg _)
  show (gBv (a * ((2 ^ n : Nat) : Int)) ||| gBv b).toInt = _
  have e1 : (a * ((2 ^ n : Nat) : Int)).toNat = 2 ^ n * a.toNat := by
    have : ((2 ^ n * a.toNat : Nat) : Int) = a * ((2 ^ n : Nat) : Int) := by rw [Int.natCast_mul, Int.toNat_of_nonneg ha, Int.mul_comm]
    omega
  have e : (gBv (a * ((2 ^ n : Nat) : Int)) ||| gBv b).toNat = 2 ^ n * a.toNat + b.toNat := by
    rw [BitVec.toNat_or, gBv_nn h0 ⟨by omega, by omega⟩, gBv_nn hb.1 ⟨by omega, by omega⟩, e1, Nat.two_pow_add_eq_or_of_lt (by omega)]
  rw [BitVec.toInt_eq_toNat_of_lt (by rw [e]; omega), e]
  omega
/-- bit j of a long -/
def gBt (x : Int) (j : Nat) : Bool := (gBv x).getLsbD j
theorem gBt_or (a b : Int) (j : Nat) : gBt (gLor a b) j = (gBt a j || gBt b j) := by
  show (gBv ((gBv a ||| gBv b).toInt)).getLsbD j = _
  rw [gBv_of, BitVec.getLsbD_or]
  rfl
theorem gBt_and (a b : Int) (j : Nat) : gBt (gLand a b) j = (gBt a j && gBt b j) := by
  show (gBv ((gBv a &&& gBv b).toInt)).getLsbD j = _
  rw [gBv_of, BitVec.getLsbD_and]
  rfl
theorem gBt_0 (j : Nat) : gBt 0 j = false := by
  show (0#64).getLsbD j = false
  exact BitVec.getLsbD_zero
theorem gBt_shl {n j : Nat} (hn : n < 64) (hj : j < 64) : gBt (gLshl 1 (n : Int)) j = decide (j = n) := by
  show (gBv (((gBv 1) <<< (((Int32.ofInt (n : Int)).toInt64 &&& 63).toBitVec.smod 64)).toInt)).getLsbD j = _
  rw [gBv_of, BitVec.shiftLeft_eq', gSh hn, BitVec.getLsbD_shiftLeft, show gBv 1 = 1#64 from rfl, BitVec.getLsbD_one]
  by_cases h1 : j = n
  · subst h1
    simp [hj]
  · by_cases h2 : j < n
    · simp [h1, h2]
    · simp [h1, h2]
      omega
theorem gAnd_1 (w : BitVec 64) : w &&& 1#64 = if w.getLsbD 0 = true then 1#64 else 0#64 := by
  apply BitVec.eq_of_getLsbD_eq
  intro i hi
  rw [BitVec.getLsbD_and, BitVec.getLsbD_one]
  by_cases h : i = 0
  · subst h
    cases w.getLsbD 0 <;> decide
  · have e : decide (i = 0) = false := decide_eq_false h
    rw [e]
    split
    · rw [BitVec.getLsbD_one, e]; simp
    · rw [BitVec.getLsbD_zero]; simp
theorem gBt_ushr {x : Int} {n : Nat} (hn : n < 64) : gLand (gLushr x (n : Int)) 1 = if gBt x n = true then 1 else 0 := by
  show (gBv ((gBv x >>> (((Int32.ofInt (n : Int)).toInt64.toUInt64 &&& Int64.toUInt64 63).toBitVec % 64)).toInt) &&& 1#64).toInt = _
  rw [gBv_of, gAnd_1, show (gBv x >>> (((Int32.ofInt (n : Int)).toInt64.toUInt64 &&& Int64.toUInt64 63).toBitVec % 64)) = gBv x >>> (((Int32.ofInt (n : Int)).toInt64.toUInt64 &&& Int64.toUInt64 63).toBitVec % 64).toNat from rfl, gShu hn, BitVec.getLsbD_ushiftRight, Nat.add_zero]
  unfold gBt
  split <;> decide
theorem gBt_shr {x : Int} {n : Nat} (hn : n < 64) : gLand (gLshr x (n : Int)) 1 = if gBt x n = true then 1 else 0 := by
  show (gBv ((gBv x).sshiftRight' (((Int32.ofInt (n : Int)).toInt64 &&& 63).toBitVec.smod 64)).toInt &&& 1#64).toInt = _
  rw [gBv_of, gAnd_1, BitVec.getLsbD_sshiftRight', gSh hn, Nat.add_zero, if_pos hn]
  unfold gBt
  have e : (!decide (64 ≤ 0)) = true := by decide
  rw [e, Bool.true_and]
  split <;> decide
theorem gAnd_63f : ∀ n : Fin 401, gAnd ((n.val : Nat) : Int) 63 = ((n.val % 64 : Nat) : Int) := by decide +kernel
theorem gAnd_63 {n : Nat} (h : n < 401) : gAnd (n : Int) 63 = ((n % 64 : Nat) : Int) := gAnd_63f ⟨n, h⟩
theorem gShr_6f : ∀ n : Fin 401, gShr ((n.val : Nat) : Int) 6 = ((n.val / 64 : Nat) : Int) := by decide +kernel
theorem gShr_6 {n : Nat} (h : n < 401) : gShr (n : Int) 6 = ((n / 64 : Nat) : Int) := gShr_6f ⟨n, h⟩
/-- what a pick's and a jump's detail hold -/
def gEnc (k nx z : Int) : Int := k * 4294967296 + nx * 65536 + z
theorem gEnc_dec {k nx z : Int} (hk : 0 ≤ k ∧ k ≤ 3) (hn : 0 ≤ nx ∧ nx < 65536) (hz : 0 ≤ z ∧ z < 65536) : g64 (gEnc k nx z) ∧ gLshr (gEnc k nx z) 32 = k ∧ gLand (gLshr (gEnc k nx z) 16) 65535 = nx ∧ gLand (gEnc k nx z) 65535 = z := by
  have g : g64 (gEnc k nx z) := by unfold gEnc g64; omega
  refine ⟨g, ?_, ?_, ?_⟩
  · rw [gLshr_32 g]; unfold gEnc; omega
  · rw [gLshr_16 g, gLand_16 (by unfold gEnc; omega) (by unfold gEnc g64; omega)]; unfold gEnc; omega
  · rw [gLand_16 (by unfold gEnc; omega) g]; unfold gEnc; omega
theorem gEnc_enc {k nx z : Int} (hk : 0 ≤ k ∧ k ≤ 3) (hn : 0 ≤ nx ∧ nx < 65536) (hz : 0 ≤ z ∧ z < 65536) : gLor (gLor (gLshl k 32) (gLshl nx 16)) z = gEnc k nx z := by
  have e1 : gLshl k 32 = k * 4294967296 := gLshl_mul (n := 32) hk.1 (by decide) (by show k * 4294967296 < _; omega)
  have e2 : gLshl nx 16 = nx * 65536 := gLshl_mul (n := 16) hn.1 (by decide) (by show nx * 65536 < _; omega)
  have e3 : gLor (k * 4294967296) (nx * 65536) = k * 4294967296 + nx * 65536 := gLor_add (n := 32) hk.1 ⟨by omega, by show _ < (4294967296 : Int); omega⟩ (by show k * 4294967296 + _ < _; omega)
  have e4 : gLor ((k * 65536 + nx) * 65536) z = (k * 65536 + nx) * 65536 + z := gLor_add (n := 16) (by omega) ⟨by omega, by show _ < (65536 : Int); omega⟩ (by show (k * 65536 + nx) * 65536 + _ < _; omega)
  rw [e1, e2, e3, show k * 4294967296 + nx * 65536 = (k * 65536 + nx) * 65536 by omega, e4]
  unfold gEnc
  omega
