/-! The class's Order: bits of reads; small methods. -/
/-- entry i reads entry j -/
def gRdB (M : gM) (c i j : Nat) : Prop := gBt (M (c + 1048) (7 * i + j / 64)) (j % 64) = true
theorem gBt_m1 {j : Nat} (hj : j < 64) : gBt (-1) j = true := by
  show (BitVec.allOnes 64).getLsbD j = true
  rw [BitVec.getLsbD_allOnes]
  exact decide_eq_true hj
theorem gBt_shm {n j : Nat} (hn : n < 64) (hj : j < 64) : gBt (gLshl (-1) (n : Int)) j = decide (n ≤ j) := by
  show (gBv (((gBv (-1)) <<< (((Int32.ofInt (n : Int)).toInt64 &&& 63).toBitVec.smod 64)).toInt)).getLsbD j = _
  rw [gBv_of, BitVec.shiftLeft_eq', gSh hn, BitVec.getLsbD_shiftLeft, show gBv (-1) = BitVec.allOnes 64 from rfl, BitVec.getLsbD_allOnes]
  by_cases h : n ≤ j
  · rw [decide_eq_true hj, decide_eq_false (by omega : ¬ j < n), decide_eq_true (by omega : j - n < 64), decide_eq_true h]; rfl
  · rw [decide_eq_true (by omega : j < n), decide_eq_false h]
    simp
theorem gLeast (p : Nat → Bool) : ∀ n, (∃ b, b < n ∧ p b = true) → ∃ i, i < n ∧ p i = true ∧ ∀ j, j < i → p j = false := by
  intro n
  induction n with
  | zero => rintro ⟨b, hb, _⟩; omega
  | succ n ih =>
    rintro ⟨b, hb, h⟩
    by_cases q : ∃ b, b < n ∧ p b = true
    · obtain ⟨i, a1, a2, a3⟩ := ih q
      exact ⟨i, by omega, a2, a3⟩
    · refine ⟨b, hb, h, fun j hj => ?_⟩
      cases hp : p j with
      | false => rfl
      | true => exact absurd ⟨j, by omega, hp⟩ q
theorem gBt_nz {x : Int} (gx : g64 x) (h : x ≠ 0) : ∃ b, b < 64 ∧ gBt x b = true := by
  refine Classical.byContradiction fun q => h ?_
  have e : gBv x = 0#64 := by
    apply BitVec.eq_of_getLsbD_eq
    intro i hi
    rw [BitVec.getLsbD_zero]
    cases hp : (gBv x).getLsbD i with
    | false => rfl
    | true => exact absurd ⟨i, hi, hp⟩ q
  have := gBv_int gx
  rw [e] at this
  exact this.symm
section geE
variable {l : Launch} {G : gG} {d : Nat} {X : gX} {M : gM} {c : Nat}
theorem gRdB_up {i j i2 j2 : Nat} (hi : j < 448) (hj : j2 < 448) : gRdB (gUp M (c + 1048) (7 * i + j / 64) (gLor (M (c + 1048) (7 * i + j / 64)) (gLshl 1 ((j % 64 : Nat) : Int)))) c i2 j2 ↔ gRdB M c i2 j2 ∨ (i2 = i ∧ j2 = j) := by
  unfold gRdB
  by_cases q : 7 * i2 + j2 / 64 = 7 * i + j / 64
  · have e1 : i2 = i := by omega
    have e2 : j2 / 64 = j / 64 := by omega
    rw [q, gUp_eq, gBt_or, gBt_shl (Nat.mod_lt _ (by decide)) (Nat.mod_lt _ (by decide)), Bool.or_eq_true, decide_eq_true_eq]
    constructor
    · rintro (z | z)
      · exact Or.inl z
      · exact Or.inr ⟨e1, by omega⟩
    · rintro (z | z)
      · exact Or.inl z
      · exact Or.inr (by rw [z.2])
  · rw [gUp_k q]
    constructor
    · exact fun z => Or.inl z
    · rintro (z | z)
      · exact z
      · exact absurd (by rw [z.1, z.2]) q
theorem c_Or_mark {i : Nat} {x2 : Int} {k : gM → Prop} (hX : glX X c) (hi : i < 400) (hx : 0 ≤ x2 ∧ x2 ≤ 400) (h0 : x2 = 400 → k M) (h1 : ∀ j : Nat, x2 = (j : Int) → j < 400 → k (gUp M (c + 1048) (7 * i + j / 64) (gLor (M (c + 1048) (7 * i + j / 64)) (gLshl 1 ((j % 64 : Nat) : Int))))) : cV l G y_Or_mark (gRm d) true [gR G (c + 1047), gI (i : Int), gI x2] X M k := by
  refine e_Or_mark (w_Or_mark_0 hX ⟨by omega, by omega⟩ ⟨by omega, by omega⟩ ⟨h0, fun z => ?_⟩)
  obtain ⟨j, e⟩ : ∃ j : Nat, x2 = (j : Int) := ⟨x2.toNat, by omega⟩
  have h1 := h1 j e (by omega)
  rw [e, gShr_6 (by omega), gAnd_63 (by omega), show ((i : Int) * 7 + ((j / 64 : Nat) : Int)).toNat = 7 * i + j / 64 by omega]
  exact ⟨⟨by omega, by omega⟩, fun _ => ⟨⟨by omega, by omega⟩, h1⟩⟩
theorem c_Or_takeRead {e u : Nat} {k : Int → gM → Prop} (hX : glX X c) (he : e < 400) (hu : M (c + 1056) e = (u : Int)) (hu2 : u ≤ 400) (hb : ∀ j, j < 448 → gRdB M c e j → j < 400) (h0 : (∀ j, j < 400 → gRdB M c e j → j < u) → k 400 M) (h1 : ∀ j, j < 400 → gRdB M c e j → u ≤ j → (∀ y, y < 400 → gRdB M c e y → y < j + 1 → y < u ∨ y = j) → k (j : Int) (gUp M (c + 1056) e ((j + 1 : Nat) : Int))) : cI l G y_Or_takeRead (gRm (d + 1 + 1)) true [gR G (c + 1047), gI (e : Int)] X M k := by
  have ge : g32 (e : Int) := ⟨by omega, by omega⟩
  have key : ∀ (m w : Nat) (x3 : Int), w + m = 7 → u < 64 * (w + 1) → g64 x3 → (∀ b, b < 64 → gBt x3 b = decide (u ≤ 64 * w + b)) → (∀ j, j < 64 * w → gRdB M c e j → j < u) → wp l G y_Or_takeRead (gRm (d + 1 + 1)) true (kkI X k) true 22 [.val (gR G (c + 1047)), .val (gI (e : Int)), .unset, .val (gL x3), .unset, .val (gI (w : Int)), .unset, .unset, .unset] [] X M 0 0 := by
    intro m
    induction m with
    | zero =>
      intro w x3 hw huw g3 hm hlow
      exact w_Or_takeRead_22 hX ge g3 ⟨by omega, by omega⟩ ⟨fun _ => h0 (fun j hj hr => hlow j (by omega) hr), fun z => absurd (by omega) z⟩
    | succ m ih =>
      intro w x3 hw huw g3 hm hlow
      refine w_Or_takeRead_22 hX ge g3 ⟨by omega, by omega⟩ ⟨fun z => absurd z (by omega), fun _ => ⟨⟨by omega, by omega⟩, fun _ => ?_⟩⟩
      rw [show ((e : Int) * 7 + (w : Int)).toNat = 7 * e + w by omega]
      have bt : ∀ b, b < 64 → gBt (gLand (M (c + 1048) (7 * e + w)) x3) b = (decide (u ≤ 64 * w + b) && gBt (M (c + 1048) (7 * e + w)) b) := fun b hb2 => by rw [gBt_and, hm b hb2, Bool.and_comm]
      have rb : ∀ b, b < 64 → (gRdB M c e (64 * w + b) ↔ gBt (M (c + 1048) (7 * e + w)) b = true) := fun b hb2 => by
        unfold gRdB
        rw [show (64 * w + b) / 64 = w by omega, show (64 * w + b) % 64 = b by omega]
      refine ⟨fun z => ?_, fun z => ?_⟩
      · rw [w32_id (x := (w : Int) + 1) ⟨by omega, by omega⟩, show (w : Int) + 1 = ((w + 1 : Nat) : Int) by omega]
        have nx : ∀ j, j < 64 * (w + 1) → gRdB M c e j → j < u := by
          intro j hj hr
          by_cases q : j < 64 * w
          · exact hlow j q hr
          · refine Decidable.byContradiction fun q2 => ?_
            have e1 := bt (j - 64 * w) (by omega)
            have e2 := (rb (j - 64 * w) (by omega)).mp (by rw [show 64 * w + (j - 64 * w) = j by omega]; exact hr)
            rw [z, gBt_0, e2, decide_eq_true (by omega)] at e1
            cases e1
        exact ih (w + 1) (-1) (by omega) (by omega) (g64_c rfl) (fun b hb2 => by rw [gBt_m1 hb2, decide_eq_true (by omega)]) nx
      · obtain ⟨i, i1, i2, i3⟩ := gLeast (fun b => gBt (gLand (M (c + 1048) (7 * e + w)) x3) b) 64 (gBt_nz (gLand_ok _ _) z)
        have t := bt i i1
        rw [i2] at t
        have t := t.symm
        rw [Bool.and_eq_true, decide_eq_true_eq] at t
        have ri := (rb i i1).mpr t.2
        have r400 := hb _ (by omega) ri
        refine c_jLong_ntz (gLand_ok _ _) i1 i2 i3 ?_
        rw [w32_id (x := (w : Int) * 64 + (i : Int)) ⟨by omega, by omega⟩, w32_id (x := (w : Int) * 64 + (i : Int) + 1) ⟨by omega, by omega⟩, show (w : Int) * 64 + (i : Int) = ((64 * w + i : Nat) : Int) by omega, Int.toNat_natCast, show ((64 * w + i : Nat) : Int) + 1 = ((64 * w + i + 1 : Nat) : Int) by omega]
        refine ⟨⟨by omega, by omega⟩, h1 _ r400 ri t.1 (fun y hy hr hlt => ?_)⟩
        by_cases q : y < 64 * w
        · exact Or.inl (hlow y q hr)
        · by_cases q2 : y = 64 * w + i
          · exact Or.inr q2
          · refine Or.inl (Decidable.byContradiction fun q3 => ?_)
            have e1 := i3 (y - 64 * w) (by omega)
            have e2 := bt (y - 64 * w) (by omega)
            have e3 := (rb (y - 64 * w) (by omega)).mp (by rw [show 64 * w + (y - 64 * w) = y by omega]; exact hr)
            have e1 : gBt (gLand (M (c + 1048) (7 * e + w)) x3) (y - 64 * w) = false := e1
            rw [e1, e3, decide_eq_true (by omega)] at e2
            cases e2
  refine e_Or_takeRead (w_Or_takeRead_0 hX ge ⟨⟨by omega, by omega⟩, fun _ => ?_⟩)
  rw [Int.toNat_natCast, hu, gAnd_63 (by omega), gShr_6 (by omega)]
  refine key (7 - u / 64) (u / 64) _ (by omega) (by omega) (gLshl_ok _ _) (fun b hb2 => ?_) (fun j hj _ => by omega)
  rw [gBt_shm (Nat.mod_lt _ (by decide)) hb2]
  by_cases q : u % 64 ≤ b
  · rw [decide_eq_true q, decide_eq_true (by omega)]
  · rw [decide_eq_false q, decide_eq_false (by omega)]
/-- memory behind meet -/
def gMtM (M : gM) (c e ws mt : Nat) : gM := gUp (gUp (gUp (gUp (gUp (gUp (gUp M (c + 1047) 10 ((mt + 1 : Nat) : Int)) (c + 1051) e ((mt + 1 : Nat) : Int)) (c + 1052) e ((mt + 1 : Nat) : Int)) (c + 1056) e ((0 : Nat) : Int)) (c + 1053) ws (e : Int)) (c + 1054) e 1) (c + 1047) 11 ((ws + 1 : Nat) : Int)
theorem c_Or_meet {e ws mt : Nat} {k : gM → Prop} (hX : glX X c) (he : e < 400) (hm : M (c + 1047) 10 = (mt : Int)) (hm2 : mt ≤ 400) (hw : M (c + 1047) 11 = (ws : Int)) (hw2 : ws < 400) (h : k (gMtM M c e ws mt)) : cV l G y_Or_meet (gRm d) true [gR G (c + 1047), gI (e : Int)] X M k := by
  refine e_Or_meet (w_Or_meet_0 hX ⟨by omega, by omega⟩ ?_)
  simp (disch := decide) only [gUp_oo, gUp_k, gUp_eq, hm, hw, Int.toNat_natCast]
  rw [w32_id (x := (mt : Int) + 1) ⟨by omega, by omega⟩, w32_id (x := (ws : Int) + 1) ⟨by omega, by omega⟩]
  exact fun _ _ => ⟨⟨by omega, by omega⟩, fun _ => ⟨⟨by omega, by omega⟩, ⟨by omega, by omega⟩, fun _ => ⟨⟨by omega, by omega⟩, ⟨by omega, by omega⟩, fun _ => h⟩⟩⟩
theorem c_Or_leadBack {e a b : Nat} {k : gM → Prop} (hX : glX X c) (he : e < 400) (ha : M (c + 1052) e = (a : Int)) (ha2 : a ≤ 1000) (hb : b ≤ 1000) (h : k (gUp M (c + 1052) e ((min a b : Nat) : Int))) : cV l G y_Or_leadBack (gRm (d + 1)) true [gR G (c + 1047), gI (e : Int), gI (b : Int)] X M k := by
  refine e_Or_leadBack (w_Or_leadBack_0 hX ⟨by omega, by omega⟩ ⟨by omega, by omega⟩ ⟨⟨by omega, by omega⟩, fun _ => c_min ?_ ⟨by omega, by omega⟩ ⟨⟨by omega, by omega⟩, ?_⟩⟩)
  · rw [Int.toNat_natCast, ha]; exact ⟨by omega, by omega⟩
  · rw [Int.toNat_natCast, ha, show min (a : Int) (b : Int) = ((min a b : Nat) : Int) by omega]
    exact h
/-- what leave writes -/
def gLvR (c k ws ss : Nat) (w : Nat → Nat) : Nat → Nat → Prop := fun x j => (x = c + 1047 ∧ (j = 11 ∨ j = 12)) ∨ ((x = c + 1054 ∨ x = c + 1050) ∧ ∃ i, k ≤ i ∧ i < ws ∧ w i = j) ∨ (x = c + 1049 ∧ ss ≤ j ∧ j < ss + (ws - k))
theorem c_Or_leave72 {q ws ss : Nat} {w : Nat → Nat} {x1 x2 x3 b : Int} {k : gM → Prop} (hX : glX X c) (hb : b = if x2 = 0 ∧ x3 = 0 then 0 else 1) (g2 : g32 x2) (g3 : g32 x3) (hx1 : x1 = (w q : Int)) (hq : q < ws) (hws : ws ≤ 400) (hw : ∀ j, j < ws → w j < 400) (hinj : ∀ i j, i < ws → j < ws → w i = w j → i = j) (M0 : gM) (hss : ss + (ws - q) ≤ 400)
    (h : ∀ M2, gOff (gLvR c q ws ss w) M0 M2 → M2 (c + 1047) 11 = (q : Int) → M2 (c + 1047) 12 = ((ss + (ws - q) : Nat) : Int) → (∀ j, j < ws - q → M2 (c + 1049) (ss + j) = (w (ws - 1 - j) : Int)) → (∀ j, q ≤ j → j < ws → M2 (c + 1054) (w j) = 0 ∧ M2 (c + 1050) (w j) = b) → k M2) :
    ∀ (m : Nat) (M : gM), q + m < ws → gOff (gLvR c q ws ss w) M0 M → (∀ j, j < ws → M (c + 1053) j = (w j : Int)) → M (c + 1047) 11 = ((q + m + 1 : Nat) : Int) → M (c + 1047) 12 = ((ss + (ws - (q + m + 1)) : Nat) : Int) → (∀ j, j < ws - (q + m + 1) → M (c + 1049) (ss + j) = (w (ws - 1 - j) : Int)) → (∀ j, q + m + 1 ≤ j → j < ws → M (c + 1054) (w j) = 0 ∧ M (c + 1050) (w j) = b) → wp l G y_Or_leave (gRm d) true (kkV X k) true 72 [.val (gR G (c + 1047)), .val (gI x1), .val (gI x2), .val (gI x3), .val (gI 1), .unset] [] X M 0 0 := by
  have wq := hw q hq
  have g1 : g32 x1 := by rw [hx1]; exact ⟨by omega, by omega⟩
  intro m
  induction m with
  | zero =>
    intro M hm o0 hW h11 h12 hS hC
    refine w_Or_leave_72 hX g1 g2 g3 (g32_c rfl) ⟨fun z => absurd z (by decide), fun _ _ => ?_⟩
    have wv := hW q hq
    have z0 : w32 (((q + 0 + 1 : Nat) : Int) - 1) = (q : Int) := (w32_id ⟨by omega, by omega⟩).trans (by omega)
    have z1 : w32 (((ss + (ws - (q + 0 + 1)) : Nat) : Int) + 1) = ((ss + (ws - q) : Nat) : Int) := (w32_id ⟨by omega, by omega⟩).trans (by omega)
    simp (disch := decide) only [gUp_oo, gUp_k, gUp_eq, h11, h12, z0, z1, Int.toNat_natCast, wv]
    have fin : ∀ bb : Int, bb = b → k (gUp (gUp (gUp (gUp (gUp M (c + 1047) 11 (q : Int)) (c + 1054) (w q) 0) (c + 1050) (w q) bb) (c + 1049) (ss + (ws - (q + 0 + 1))) (w q : Int)) (c + 1047) 12 ((ss + (ws - q) : Nat) : Int)) := by
      intro bb ebb
      refine h _ (((((o0.up ?_).up ?_).up ?_).up ?_).up ?_) ?_ (gUp_eq _ _ _ _) (fun j hj => ?_) (fun j hj hj2 => ?_)
      · exact Or.inl ⟨rfl, Or.inl rfl⟩
      · exact Or.inr (Or.inl ⟨Or.inl rfl, q, Nat.le_refl _, hq, rfl⟩)
      · exact Or.inr (Or.inl ⟨Or.inr rfl, q, Nat.le_refl _, hq, rfl⟩)
      · exact Or.inr (Or.inr ⟨rfl, by omega, by omega⟩)
      · exact Or.inl ⟨rfl, Or.inr rfl⟩
      · rw [gUp_k (by decide), gUp_a (by omega), gUp_a (by omega), gUp_a (by omega), gUp_eq]
      · rw [gUp_a (by omega)]
        by_cases e : j = ws - (q + 0 + 1)
        · rw [e, gUp_eq, show ws - 1 - (ws - (q + 0 + 1)) = q by omega]
        · rw [gUp_k (by omega), gUp_a (by omega), gUp_a (by omega), gUp_a (by omega)]
          exact hS j (by omega)
      · by_cases e : j = q
        · rw [e, gUp_a (by omega), gUp_a (by omega), gUp_a (by omega), gUp_eq]
          refine ⟨rfl, ?_⟩
          rw [gUp_a (by omega), gUp_a (by omega), gUp_eq]
          exact ebb
        · have ne : w j ≠ w q := fun y => e (hinj j q hj2 hq y)
          have p1 : ∀ x, x = c + 1054 ∨ x = c + 1050 → gUp (gUp (gUp (gUp (gUp M (c + 1047) 11 ((q : Nat) : Int)) (c + 1054) (w q) 0) (c + 1050) (w q) bb) (c + 1049) (ss + (ws - (q + 0 + 1))) ((w q : Nat) : Int)) (c + 1047) 12 ((ss + (ws - q) : Nat) : Int) x (w j) = M x (w j) := by
            intro x hx
            unfold gUp
            rw [if_neg (by omega), if_neg (by omega), if_neg (fun y => ne y.2), if_neg (fun y => ne y.2), if_neg (by omega)]
          rw [p1 _ (Or.inl rfl), p1 _ (Or.inr rfl)]
          exact hC j (by omega) hj2
    have lst : ∀ (bb : Int), bb = b → wp l G y_Or_leave (gRm d) true (kkV X k) true 72 [.val (gR G (c + 1047)), .val (gI x1), .val (gI x2), .val (gI x3), .val (gI 0), .unset] [] X (gUp (gUp (gUp (gUp (gUp M (c + 1047) 11 (q : Int)) (c + 1054) (w q) 0) (c + 1050) (w q) bb) (c + 1049) (ss + (ws - (q + 0 + 1))) (w q : Int)) (c + 1047) 12 ((ss + (ws - q) : Nat) : Int)) 0 0 := fun bb e => w_Or_leave_72 hX g1 g2 g3 (g32_c rfl) ⟨fun _ => fin bb e, fun y => absurd rfl y⟩
    refine ⟨fun y => absurd y (by omega), fun _ _ _ => ⟨⟨by omega, by omega⟩, fun _ => ⟨⟨by omega, by omega⟩, fun y2 => ⟨⟨by omega, by omega⟩, fun _ => ⟨⟨by omega, by omega⟩, fun _ => ⟨fun _ => lst 1 ?_, fun y => absurd hx1.symm y⟩⟩⟩, fun y2 => ⟨fun y3 => ⟨⟨by omega, by omega⟩, fun _ => ⟨⟨by omega, by omega⟩, fun _ => ⟨fun _ => lst 0 ?_, fun y => absurd hx1.symm y⟩⟩⟩, fun y3 => ⟨⟨by omega, by omega⟩, fun _ => ⟨⟨by omega, by omega⟩, fun _ => ⟨fun _ => lst 1 ?_, fun y => absurd hx1.symm y⟩⟩⟩⟩⟩⟩⟩
    · rw [hb, if_neg (fun y => y2 y.1)]
    · rw [hb, if_pos ⟨y2, y3⟩]
    · rw [hb, if_neg (fun y => y3 y.2)]
  | succ m ih =>
    intro M hm o0 hW h11 h12 hS hC
    refine w_Or_leave_72 hX g1 g2 g3 (g32_c rfl) ⟨fun z => absurd z (by decide), fun _ _ => ?_⟩
    have wv := hW (q + m + 1) (by omega)
    have wl := hw (q + m + 1) (by omega)
    have wn : ¬ (w (q + m + 1) : Int) = x1 := by
      rw [hx1]
      intro y
      have := hinj (q + m + 1) q (by omega) hq (by omega)
      omega
    have z0 : w32 (((q + (m + 1) + 1 : Nat) : Int) - 1) = ((q + m + 1 : Nat) : Int) := (w32_id ⟨by omega, by omega⟩).trans (by omega)
    have z1 : w32 (((ss + (ws - (q + (m + 1) + 1)) : Nat) : Int) + 1) = ((ss + (ws - (q + m + 1)) : Nat) : Int) := (w32_id ⟨by omega, by omega⟩).trans (by omega)
    simp (disch := decide) only [gUp_oo, gUp_k, gUp_eq, h11, h12, z0, z1, Int.toNat_natCast, wv]
    have nxt : ∀ bb : Int, bb = b → wp l G y_Or_leave (gRm d) true (kkV X k) true 72 [.val (gR G (c + 1047)), .val (gI x1), .val (gI x2), .val (gI x3), .val (gI 1), .unset] [] X (gUp (gUp (gUp (gUp (gUp M (c + 1047) 11 ((q + m + 1 : Nat) : Int)) (c + 1054) (w (q + m + 1)) 0) (c + 1050) (w (q + m + 1)) bb) (c + 1049) (ss + (ws - (q + (m + 1) + 1))) (w (q + m + 1) : Int)) (c + 1047) 12 ((ss + (ws - (q + m + 1)) : Nat) : Int)) 0 0 := by
      intro bb ebb
      refine ih _ (by omega) (((((o0.up ?_).up ?_).up ?_).up ?_).up ?_) (fun j hj => ?_) ?_ (gUp_eq _ _ _ _) (fun j hj => ?_) (fun j hj hj2 => ?_)
      · exact Or.inl ⟨rfl, Or.inl rfl⟩
      · exact Or.inr (Or.inl ⟨Or.inl rfl, q + m + 1, by omega, by omega, rfl⟩)
      · exact Or.inr (Or.inl ⟨Or.inr rfl, q + m + 1, by omega, by omega, rfl⟩)
      · exact Or.inr (Or.inr ⟨rfl, by omega, by omega⟩)
      · exact Or.inl ⟨rfl, Or.inr rfl⟩
      · rw [gUp_a (by omega), gUp_a (by omega), gUp_a (by omega), gUp_a (by omega), gUp_a (by omega)]
        exact hW j hj
      · rw [gUp_k (by decide), gUp_a (by omega), gUp_a (by omega), gUp_a (by omega), gUp_eq]
      · rw [gUp_a (by omega)]
        by_cases e : j = ws - (q + (m + 1) + 1)
        · rw [e, gUp_eq, show ws - 1 - (ws - (q + (m + 1) + 1)) = q + m + 1 by omega]
        · rw [gUp_k (by omega), gUp_a (by omega), gUp_a (by omega), gUp_a (by omega)]
          exact hS j (by omega)
      · by_cases e : j = q + m + 1
        · rw [e, gUp_a (by omega), gUp_a (by omega), gUp_a (by omega), gUp_eq]
          refine ⟨rfl, ?_⟩
          rw [gUp_a (by omega), gUp_a (by omega), gUp_eq]
          exact ebb
        · have ne : w j ≠ w (q + m + 1) := fun y => e (hinj j (q + m + 1) hj2 (by omega) y)
          have p1 : ∀ x, x = c + 1054 ∨ x = c + 1050 → gUp (gUp (gUp (gUp (gUp M (c + 1047) 11 ((q + m + 1 : Nat) : Int)) (c + 1054) (w (q + m + 1)) 0) (c + 1050) (w (q + m + 1)) bb) (c + 1049) (ss + (ws - (q + (m + 1) + 1))) ((w (q + m + 1) : Nat) : Int)) (c + 1047) 12 ((ss + (ws - (q + m + 1)) : Nat) : Int) x (w j) = M x (w j) := by
            intro x hx
            unfold gUp
            rw [if_neg (by omega), if_neg (by omega), if_neg (fun y => ne y.2), if_neg (fun y => ne y.2), if_neg (by omega)]
          rw [p1 _ (Or.inl rfl), p1 _ (Or.inr rfl)]
          exact hC j (by omega) hj2
    refine ⟨fun y => absurd y (by omega), fun _ _ _ => ⟨⟨by omega, by omega⟩, fun _ => ⟨⟨by omega, by omega⟩, fun y2 => ⟨⟨by omega, by omega⟩, fun _ => ⟨⟨by omega, by omega⟩, fun _ => ⟨fun y => absurd y wn, fun _ => nxt 1 ?_⟩⟩⟩, fun y2 => ⟨fun y3 => ⟨⟨by omega, by omega⟩, fun _ => ⟨⟨by omega, by omega⟩, fun _ => ⟨fun y => absurd y wn, fun _ => nxt 0 ?_⟩⟩⟩, fun y3 => ⟨⟨by omega, by omega⟩, fun _ => ⟨⟨by omega, by omega⟩, fun _ => ⟨fun y => absurd y wn, fun _ => nxt 1 ?_⟩⟩⟩⟩⟩⟩⟩
    · rw [hb, if_neg (fun y => y2 y.1)]
    · rw [hb, if_pos ⟨y2, y3⟩]
    · rw [hb, if_neg (fun y => y3 y.2)]
end geE
