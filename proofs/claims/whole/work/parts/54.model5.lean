/-! Sums, differences, products that are no long: the reference's reckon. -/
theorem g_msb (v : BitVec 64) : v.toInt < 0 ↔ v.msb = true := by
  rw [BitVec.msb_eq_toInt]; simp
theorem gLand_neg {a b : Int} (ha : g64 a) (hb : g64 b) : gLand a b < 0 ↔ a < 0 ∧ b < 0 := by
  have e1 : (Int64.ofInt a).toBitVec.toInt = a := g64_toInt ha
  have e2 : (Int64.ofInt b).toBitVec.toInt = b := g64_toInt hb
  show ((Int64.ofInt a).toBitVec &&& (Int64.ofInt b).toBitVec).toInt < 0 ↔ _
  rw [g_msb, BitVec.msb_and, Bool.and_eq_true, ← g_msb, ← g_msb, e1, e2]
theorem gLxor_neg {a b : Int} (ha : g64 a) (hb : g64 b) : gLxor a b < 0 ↔ ¬ (a < 0 ↔ b < 0) := by
  have e1 : (Int64.ofInt a).toBitVec.toInt = a := g64_toInt ha
  have e2 : (Int64.ofInt b).toBitVec.toInt = b := g64_toInt hb
  show ((Int64.ofInt a).toBitVec ^^^ (Int64.ofInt b).toBitVec).toInt < 0 ↔ _
  have h1 := g_msb (Int64.ofInt a).toBitVec
  have h2 := g_msb (Int64.ofInt b).toBitVec
  rw [e1] at h1
  rw [e2] at h2
  rw [g_msb, BitVec.msb_xor, h1, h2]
  cases (Int64.ofInt a).toBitVec.msb <;> cases (Int64.ofInt b).toBitVec.msb <;> decide
theorem w64_mod (x : Int) : ∃ q : Int, w64 x = x + 18446744073709551616 * q := by
  refine ⟨-((x - w64 x) / 18446744073709551616), ?_⟩
  have h : w64 x = x.bmod (2 ^ 64) := Int64.toInt_ofInt
  have h2 : (x - x.bmod (2 ^ 64)) % 18446744073709551616 = 0 := by
    have := Int.emod_emod_of_dvd
    have h3 : x.bmod (2 ^ 64) % ((2 ^ 64 : Nat) : Int) = x % ((2 ^ 64 : Nat) : Int) := Int.bmod_emod
    have h4 : ((2 ^ 64 : Nat) : Int) = 18446744073709551616 := rfl
    rw [h4] at h3
    omega
  rw [h]
  omega
theorem gSum_neg {x y : Int} (hx : g64 x) (hy : g64 y) : gLand (gLxor x (w64 (x + y))) (gLxor y (w64 (x + y))) < 0 ↔ ¬ g64 (x + y) := by
  obtain ⟨q, hq⟩ := w64_mod (x + y)
  have ho := w64_ok (x + y)
  have a1 : g64 (gLxor x (w64 (x + y))) := gLxor_ok _ _
  have a2 : g64 (gLxor y (w64 (x + y))) := gLxor_ok _ _
  rw [gLand_neg a1 a2, gLxor_neg hx ho, gLxor_neg hy ho]
  unfold g64 at *
  omega
theorem gDif_neg {x y : Int} (hx : g64 x) (hy : g64 y) : gLand (gLxor x y) (gLxor x (w64 (x - y))) < 0 ↔ ¬ g64 (x - y) := by
  obtain ⟨q, hq⟩ := w64_mod (x - y)
  have ho := w64_ok (x - y)
  have a1 : g64 (gLxor x y) := gLxor_ok _ _
  have a2 : g64 (gLxor x (w64 (x - y))) := gLxor_ok _ _
  rw [gLand_neg a1 a2, gLxor_neg hx hy, gLxor_neg hx ho]
  unfold g64 at *
  omega
theorem g64_tdiv {r x : Int} (hr : g64 r) (h : ¬ (r = -9223372036854775808 ∧ x = -1)) : g64 (r.tdiv x) := by
  by_cases h0 : x = 0
  · subst h0
    rw [Int.tdiv_zero]
    exact ⟨by decide, by decide⟩
  by_cases h1 : x = 1
  · subst h1
    rw [Int.tdiv_one]
    exact hr
  by_cases h2 : x = -1
  · subst h2
    rw [Int.tdiv_neg, Int.tdiv_one]
    unfold g64 at *
    omega
  have e : (r.tdiv x).natAbs = r.natAbs / x.natAbs := Int.natAbs_tdiv r x
  have e2 : r.natAbs / x.natAbs ≤ r.natAbs / 2 := Nat.div_le_div_left (by omega) (by decide)
  unfold g64 at *
  omega
theorem gMul_eq {x y : Int} (hx : g64 x) (hy : g64 y) (h0 : x ≠ 0) (hm : ¬ (x = -1 ∧ y = -9223372036854775808)) : w64 ((w64 (x * y)).tdiv x) = y ↔ g64 (x * y) := by
  constructor
  · intro h
    obtain ⟨q, hq⟩ := w64_mod (x * y)
    have hr := w64_ok (x * y)
    have h1 : ¬ (w64 (x * y) = -9223372036854775808 ∧ x = -1) := by
      rintro ⟨a, b⟩
      subst b
      unfold g64 at *
      omega
    rw [w64_id (g64_tdiv hr h1)] at h
    have e1 := Int.tmod_add_mul_tdiv (w64 (x * y)) x
    have e2 := Int.natAbs_tmod (w64 (x * y)) x
    have e3 : (w64 (x * y)).natAbs % x.natAbs < x.natAbs := Nat.mod_lt _ (by omega)
    rw [h] at e1
    generalize hP : x * y = P at *
    unfold g64 at *
    omega
  · intro h
    rw [w64_id h, Int.mul_tdiv_cancel_left y h0, w64_id hy]
section gmC5
variable {l : Launch} {G : gG} {d : Nat} {X : gX} {M : gM} {o : Nat} {x y1 s v i n p t : Int}
/-- the sum (43), difference (45), product -/
def gmOp (op x y : Int) : Int := if op = 43 then x + y else if op = 45 then x - y else x * y
theorem c_GM_reckon {k : Int → gM → Prop} (hX : gmX X o) (hs : g32 s) (hx : g64 x) (hy : g64 y1) (h1 : g64 (gmOp s x y1) → k 1 (gUp M o 54 (gmOp s x y1))) (h0 : ¬ g64 (gmOp s x y1) → k 0 (gUp M o 54 (w64 (gmOp s x y1)))) : cZ l G y_GM_reckon (gRm d) true [gR G o, gI s, gL x, gL y1] X M k := by
  have key : ∀ r, r = gmOp s x y1 → wp l G y_GM_reckon (gRm d) true (kkZ X k) true 31 [.val (gR G o), .val (gI s), .val (gL x), .unset, .val (gL y1), .unset] [gL (w64 r), gR G o] X M 0 0 := by
    intro r hr
    refine w_GM_reckon_31 hX hs hx hy (w64_ok r) ?_
    simp only [gUp_eq]
    rw [← hr] at h1 h0
    have g1 : g64 r → k 1 (gUp M o 54 (w64 r)) := fun a => by rw [w64_id a]; exact h1 a
    refine ⟨fun a => ⟨fun b => ⟨fun c => ?_, fun c => ?_⟩, fun b => fun _ => ?_⟩, fun a => fun _ _ => ?_⟩
    · have e : r = x * y1 := by rw [hr]; unfold gmOp; rw [if_neg a, if_neg b]
      exact g1 (by rw [e, c, Int.zero_mul]; exact ⟨by decide, by decide⟩)
    · have e : r = x * y1 := by rw [hr]; unfold gmOp; rw [if_neg a, if_neg b]
      have last : ¬ (x = -1 ∧ y1 = -9223372036854775808) → wp l G y_GM_reckon (gRm d) true (kkZ X k) true 116 [.val (gR G o), .unset, .val (gL x), .unset, .val (gL y1), .unset] [] X (gUp M o 54 (w64 r)) 0 0 := by
        intro hm
        refine w_GM_reckon_116 hX hx hy ?_
        rw [gUp_eq]
        have m := gMul_eq hx hy c hm
        rw [← e] at m
        exact fun _ => ⟨c, fun f => h0 (fun g => f (m.mpr g)), fun f => g1 (m.mp f)⟩
      refine ⟨fun f => last (fun g => f g.1), fun f => ⟨fun g => h0 (fun q => ?_), fun g => last (fun q => g q.2)⟩⟩
      rw [e, f, g] at q
      exact absurd q.2 (by decide)
    · have e : r = x - y1 := by rw [hr]; unfold gmOp; rw [if_neg a, if_pos b]
      have m := gDif_neg hx hy
      rw [← e] at m
      exact ⟨fun f => h0 (m.mp f), fun f => g1 (Classical.not_not.mp fun g => f (m.mpr g))⟩
    · have e : r = x + y1 := by rw [hr]; unfold gmOp; rw [if_pos a]
      have m := gSum_neg hx hy
      rw [← e] at m
      exact ⟨fun f => h0 (m.mp f), fun f => g1 (Classical.not_not.mp fun g => f (m.mpr g))⟩
  refine e_GM_reckon (w_GM_reckon_0 hX hs hx hy ⟨fun a => ⟨fun b => key (x * y1) ?_, fun b => key (x - y1) ?_⟩, fun a => key (x + y1) ?_⟩)
  · unfold gmOp; rw [if_neg a, if_neg b]
  · unfold gmOp; rw [if_neg a, if_pos b]
  · unfold gmOp; rw [if_pos a]
theorem c_GM_divide {k : gM → Prop} (hX : gmX X o) (hx : g64 x) (hy : g64 y1) (ht : 2 ≤ M o 50 ∧ M o 50 ≤ 1200) (h1 : y1 = 0 → k (gmPush (gUp M o 50 (M o 50 - 2)) o 4 5)) (h2 : x = -9223372036854775808 ∧ y1 = -1 → k (gmPush (gUp M o 50 (M o 50 - 2)) o 4 6))
    (h3 : y1 ≠ 0 → ¬ (x = -9223372036854775808 ∧ y1 = -1) → k (gmPush (gUp M o 50 (M o 50 - 2)) o 1 (x.tdiv y1))) : cV l G y_GM_divide (gRm (d + 1 + 1)) true [gR G o, gL x, gL y1] X M k := by
  have be : ∀ {s v : Int}, g32 s → g64 v → k (gmPush (gUp M o 50 (M o 50 - 2)) o s v) → cV l G y_GM_become (gRm (d + 1)) true [gR G o, gI 2, gI s, gL v] X M k := fun a b c => c_GM_become hX ⟨by decide, by omega⟩ (by omega) (by omega) a b c
  refine e_GM_divide (w_GM_divide_0 hX hx hy ⟨fun a => ⟨fun b => ⟨a, ?_⟩, fun b => ⟨fun c => ⟨a, ?_⟩, fun c => ?_⟩⟩, fun a => ?_⟩)
  · exact be (g32_c (x := 1) rfl) (g64_tdiv hx fun q => b q.1) (h3 a fun q => b q.1)
  · exact be (g32_c (x := 1) rfl) (g64_tdiv hx fun q => c q.2) (h3 a fun q => c q.2)
  · exact be (g32_c (x := 4) rfl) (g64_c (x := 6) rfl) (h2 ⟨b, c⟩)
  · exact be (g32_c (x := 4) rfl) (g64_c (x := 5) rfl) (h1 a)
end gmC5
