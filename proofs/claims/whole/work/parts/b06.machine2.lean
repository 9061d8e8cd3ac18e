/-! The class's Machine: works of values alone, chosen by their numbers. -/
/-- what an argument's letter asks, is there: n 110, t 116, b 98, x 120, v 118, r 114 -/
def gSuit (c : Int) (w : gVl) : Prop := if c = 110 then w.kd = 1 else if c = 116 then w.kd = 2 else if c = 98 then w.kd = 3 else if c = 118 then w.kd ≤ 4 else if c = 114 then w.kd = 5 ∧ 0 ≤ w.nm ∧ w.nm < 27040000 else w.kd ≤ 3
/-- the arguments of work w stand from slot n on -/
def gArgs (M : gM) (c n w : Nat) (as : Nat → gVl) : Prop := ∀ i : Nat, i < gSl (gWta w) → gvAt M (c + 1058) (n + i) (as i) ∧ gvOk (as i) ∧ gSuit (gSc (gWta w) i) (as i)
theorem gT0 (n : Nat) : ((n : Int)).toNat = n := rfl
theorem gT1 (n : Nat) : ((n : Int) + 1).toNat = n + 1 := by omega
theorem gT2 (n : Nat) : ((n : Int) + 2).toNat = n + 2 := by omega
theorem gSg_0 {z x : Int} (h : gSg z = x) : (z = 0 ↔ x = 0) ∧ (z < 0 ↔ x < 0) ∧ (0 < z ↔ 0 < x) := by
  unfold gSg at h
  split at h
  · omega
  · split at h <;> omega
theorem gGr0 : ∀ w, w < 6 → gSl (gWta w) = 2 := by decide +kernel
theorem gGr1 : ∀ w, w < 52 → gWgr w = 1 → 1 ≤ gSl (gWta w) ∧ (w = 7 ∨ w = 8 ∨ w = 9 ∨ w = 10 ∨ w = 11 ∨ w = 12 ∨ w = 13 ∨ w = 31 ∨ w = 32 ∨ w = 33) := by decide +kernel
theorem gGr2 : ∀ w, w < 52 → gWgr w = 2 → 1 ≤ gSl (gWta w) ∧ (w = 21 ∨ w = 22 ∨ w = 23) := by decide +kernel
theorem gGr3 : ∀ w, w < 52 → gWgr w = 3 → (w = 27 ∨ w = 28 ∨ w = 29 ∨ w = 30 ∨ w = 46) := by decide +kernel
section gbN
variable {l : Launch} {G : gG} {d : Nat} {X : gX} {M : gM} {c n w : Nat} {Q : gQ} {k : gM → Prop} {E : Int → gVl} {as : Nat → gVl}
theorem c_putBi {p : Prop} [Decidable p] {x : Int} (hX : glX X c) (hs : n < 104) (hx : 0 ≤ x ∧ x ≤ 1) (e : x = 1 ↔ p) (h : gPost M c n (gBi p) k) : cV l G y_Vl_setTruth (gRm (d + 1)) true [gR G (c + 1058), gI (n : Int), gI x] X M k := by
  refine c_putB hX ⟨by omega, by omega⟩ hx ?_ h
  unfold gBi
  by_cases q : p
  · rw [if_pos q, e.mpr q]
  · rw [if_neg q]
    have : ¬ x = 1 := fun z => q (e.mp z)
    rw [show x = 0 by omega]
theorem c_Ma_decideOrder (hX : glX X c) (hO : gOld G Q) (hn : n + 2 < 104) (hw : w < 6) (hA : gArgs M c n w as) (h : gPost M c n (gWk E w (as 0) (as 1) (as 2)) k) : cV l G y_Ma_decideOrder (gRm (d + 1 + 1)) true [gR G (c + 1057), .ref (Q.1 w), gI (n : Int)] X M k := by
  have gn : g32 (n : Int) := ⟨by omega, by omega⟩
  have l2 : gSl (gWta w) = 2 := gGr0 w hw
  obtain ⟨a1, a2, -⟩ := hA 0 (by omega)
  obtain ⟨b1, b2, -⟩ := hA 1 (by omega)
  refine e_Ma_decideOrder (w_Ma_decideOrder_0 hX hO (by omega) gn (c_Vl_compare (gl_stk hX) (i := (n : Int)) ⟨by omega, by omega⟩ (gl_stk hX) (j := (n : Int) + 1) ⟨by omega, by omega⟩ (w := as 0) a1 a2 (u := as 1) (by rw [gT1]; exact b1) b2 (fun z hz => ?_)))
  have f := gSg_0 hz
  have hn2 : n < 104 := by omega
  match w, hw with
  | 0, _ => simp only [(show gSw 0 = 3 from rfl), Int.reduceEq, Int.reduceNeg, not_true_eq_false, not_false_eq_true, true_and, and_true, false_and, and_false, true_implies, false_implies, implies_true, and_self]; exact ⟨fun e => c_putBi hX hn2 (by decide) (by omega) h, fun e => c_putBi hX hn2 (by decide) (by omega) h⟩
  | 1, _ => simp only [(show gSw 1 = 4 from rfl), Int.reduceEq, Int.reduceNeg, not_true_eq_false, not_false_eq_true, true_and, and_true, false_and, and_false, true_implies, false_implies, implies_true, and_self]; exact ⟨fun e => c_putBi hX hn2 (by decide) (by omega) h, fun e => c_putBi hX hn2 (by decide) (by omega) h⟩
  | 2, _ => simp only [(show gSw 2 = 5 from rfl), Int.reduceEq, Int.reduceNeg, not_true_eq_false, not_false_eq_true, true_and, and_true, false_and, and_false, true_implies, false_implies, implies_true, and_self]; exact ⟨fun e => c_putBi hX hn2 (by decide) (by omega) h, fun e => c_putBi hX hn2 (by decide) (by omega) h⟩
  | 3, _ => simp only [(show gSw 3 = 6 from rfl), Int.reduceEq, Int.reduceNeg, not_true_eq_false, not_false_eq_true, true_and, and_true, false_and, and_false, true_implies, false_implies, implies_true, and_self]; exact ⟨fun e => c_putBi hX hn2 (by decide) (by omega) h, fun e => c_putBi hX hn2 (by decide) (by omega) h⟩
  | 4, _ => simp only [(show gSw 4 = 7 from rfl), Int.reduceEq, Int.reduceNeg, not_true_eq_false, not_false_eq_true, true_and, and_true, false_and, and_false, true_implies, false_implies, implies_true, and_self]; exact ⟨fun e => c_putBi hX hn2 (by decide) (by omega) h, fun e => c_putBi hX hn2 (by decide) (by omega) h⟩
  | 5, _ => simp only [(show gSw 5 = 0 from rfl), Int.reduceEq, Int.reduceNeg, not_true_eq_false, not_false_eq_true, true_and, and_true, false_and, and_false, true_implies, false_implies, implies_true, and_self]; exact ⟨fun e => c_putBi hX hn2 (by decide) (by omega) h, fun e => c_putBi hX hn2 (by decide) (by omega) h⟩
theorem c_Ma_reckon (hX : glX X c) (hO : gOld G Q) (hn : n + 2 < 104) (hw : w < 52) (hg : gWgr w = 1) (hA : gArgs M c n w as) (h : gPost M c n (gWk E w (as 0) (as 1) (as 2)) k) : cV l G y_Ma_reckon (gRm (d + 1 + 1 + 1)) true [gR G (c + 1057), .ref (Q.1 w), gI (n : Int)] X M k := by
  have gn : g32 (n : Int) := ⟨by omega, by omega⟩
  have hs : (0 : Int) ≤ (n : Int) ∧ (n : Int) < 104 := ⟨by omega, by omega⟩
  have hp : gPost M c n (gWk E w (as 0) (as 1) (as 2)) (fun M6 => (wp l G y_Ma_reckon (gRm (d + 1 + 1 + 1)) true (kkV X k) true 252 [.unset, .unset, .unset, .unset, .unset, .unset, .unset] [] X M6 0 0)) := fun M2 o v => w_Ma_reckon_252 hX hO (h M2 o v)
  obtain ⟨l1, hw2⟩ := gGr1 w hw hg
  obtain ⟨a1, a2, -⟩ := hA 0 (by omega)
  have ea : M (c + 1058 + 2) n = (as 0).nm := a1.2.1
  have ga := a2.2.2.1
  refine e_Ma_reckon (w_Ma_reckon_0 hX hO hw gn ?_)
  simp only [gT0, gT1, ea]
  refine ⟨hs, fun _ => ⟨⟨by omega, by omega⟩, fun gy => ?_⟩⟩
  have eb : gSl (gWta w) = 2 → M (c + 1058 + 2) (n + 1) = (as 1).nm := fun q => (hA 1 (by omega)).1.2.1
  rcases hw2 with rfl | rfl | rfl | rfl | rfl | rfl | rfl | rfl | rfl | rfl
  · rw [eb rfl] at gy ⊢
    simp only [(show gSw 7 = 8 from rfl), Int.reduceEq, Int.reduceNeg, not_true_eq_false, not_false_eq_true, true_and, and_true, false_and, and_false, true_implies, false_implies, implies_true, and_self]
    exact c_Vl_plusFits ga gy (fun u => c_Ma_settleF hX hs (by decide) rfl (fun _ => u) (fun q => absurd q (by decide)) hp) (fun u => c_Ma_settleF hX hs (by decide) rfl (fun q => absurd q (by decide)) (fun _ => u) hp)
  · rw [eb rfl] at gy ⊢
    simp only [(show gSw 8 = 9 from rfl), Int.reduceEq, Int.reduceNeg, not_true_eq_false, not_false_eq_true, true_and, and_true, false_and, and_false, true_implies, false_implies, implies_true, and_self]
    rw [← gL_w ((as 0).nm - (as 1).nm)]
    obtain ⟨q, hq⟩ := w64_mod ((as 0).nm - (as 1).nm)
    have fit : g64 (w64 ((as 0).nm - (as 1).nm) + (as 1).nm) ↔ g64 ((as 0).nm - (as 1).nm) := by
      have ok := w64_ok ((as 0).nm - (as 1).nm)
      unfold g64 at *
      omega
    exact c_Vl_plusFits (w64_ok _) gy (fun u => c_Ma_settleF hX hs (by decide) (w64_id (w64_ok _)) (fun _ => fit.mp u) (fun q => absurd q (by decide)) hp) (fun u => c_Ma_settleF hX hs (by decide) (w64_id (w64_ok _)) (fun q => absurd q (by decide)) (fun _ q => u (fit.mpr q)) hp)
  · rw [eb rfl] at gy ⊢
    simp only [(show gSw 9 = 10 from rfl), Int.reduceEq, Int.reduceNeg, not_true_eq_false, not_false_eq_true, true_and, and_true, false_and, and_false, true_implies, false_implies, implies_true, and_self]
    exact c_Vl_timesFits ga gy (fun u => c_Ma_settleF hX hs (by decide) rfl (fun _ => u) (fun q => absurd q (by decide)) hp) (fun u => c_Ma_settleF hX hs (by decide) rfl (fun q => absurd q (by decide)) (fun _ => u) hp)
  · rw [eb rfl] at gy ⊢
    simp only [(show gSw 10 = 11 from rfl), Int.reduceEq, Int.reduceNeg, not_true_eq_false, not_false_eq_true, true_and, and_true, false_and, and_false, true_implies, false_implies, implies_true, and_self]
    exact c_Ma_divide hX hs ga gy hp
  · rw [eb rfl] at gy ⊢
    simp only [(show gSw 11 = 12 from rfl), Int.reduceEq, Int.reduceNeg, not_true_eq_false, not_false_eq_true, true_and, and_true, false_and, and_false, true_implies, false_implies, implies_true, and_self]
    exact c_Ma_raise hX hs ga gy hp
  · simp only [(show gSw 12 = 13 from rfl), Int.reduceEq, Int.reduceNeg, not_true_eq_false, not_false_eq_true, true_and, and_true, false_and, and_false, true_implies, false_implies, implies_true, and_self]
    exact c_Ma_settle hX hs (by decide) (fun _ => ⟨g64_tdiv ga (by omega), rfl⟩) (fun q => absurd q (by decide)) hp
  · simp only [(show gSw 13 = 14 from rfl), Int.reduceEq, Int.reduceNeg, not_true_eq_false, not_false_eq_true, true_and, and_true, false_and, and_false, true_implies, false_implies, implies_true, and_self]
    refine ⟨fun e => c_Ma_settleF hX hs (by decide) rfl (fun q => absurd q (by decide)) (fun _ => ?_) hp, fun e => c_Ma_settleF hX hs (by decide) rfl (fun _ => ?_) (fun q => absurd q (by decide)) hp⟩
    · rw [e]; unfold g64; decide
    · unfold g64 at *; omega
  · simp only [(show gSw 31 = 15 from rfl), Int.reduceEq, Int.reduceNeg, not_true_eq_false, not_false_eq_true, true_and, and_true, false_and, and_false, true_implies, false_implies, implies_true, and_self]
    have fin : ∀ x : Int, g64 x → ((as 0).nm ≠ -9223372036854775808 → x = (gAbs (as 0).nm)) → wp l G y_Ma_reckon (gRm (d + 1 + 1 + 1)) true (kkV X k) true 210 [.unset, .unset, .unset, .val (gL (as 0).nm), .unset, .unset, .unset] [gL x, gI (n : Int), gR G (c + 1057)] X M 0 0 := by
      intro x gx hx
      refine w_Ma_reckon_210 hX hO ga gx gn ⟨fun e => ?_, fun e => ?_⟩
      · have nb : ¬ g64 (gAbs (as 0).nm) := by unfold g64 gAbs; rw [e]; decide
        exact c_Ma_settle (V := gFit (gAbs (as 0).nm)) hX hs (by decide) (fun q => absurd q (by decide)) (fun _ => if_neg nb) hp
      · rw [hx e]
        refine c_Ma_settleF hX hs (by decide) rfl (fun _ => ?_) (fun q => absurd q (by decide)) hp
        unfold g64 at *; unfold gAbs; split <;> omega
    refine ⟨fun e => fin _ ga (fun _ => (if_neg (by omega)).symm), fun e => fin _ (w64_ok _) (fun q => ?_)⟩
    rw [w64_id (by unfold g64 at *; omega)]
    exact (if_pos (by omega)).symm
  · simp only [(show gSw 32 = 16 from rfl), Int.reduceEq, Int.reduceNeg, not_true_eq_false, not_false_eq_true, true_and, and_true, false_and, and_false, true_implies, false_implies, implies_true, and_self]
    refine c_jLong_compare ga ⟨by decide, by decide⟩ (c_Ma_settle hX hs (by decide) (fun _ => ⟨?_, ?_⟩) (fun q => absurd q (by decide)) hp)
    · unfold gOrd; unfold g64; split
      · decide
      · split <;> decide
    · rfl
  · rw [eb rfl] at gy ⊢
    simp only [(show gSw 33 = 0 from rfl), Int.reduceEq, Int.reduceNeg, not_true_eq_false, not_false_eq_true, true_and, and_true, false_and, and_false, true_implies, false_implies, implies_true, and_self]
    exact c_Ma_modulo hX hs ga gy hp
theorem c_Ma_decide (hX : glX X c) (hO : gOld G Q) (hn : n + 2 < 104) (hw : w < 52) (hg : gWgr w = 2) (hA : gArgs M c n w as) (h : gPost M c n (gWk E w (as 0) (as 1) (as 2)) k) : cV l G y_Ma_decide (gRm (d + 1 + 1)) true [gR G (c + 1057), .ref (Q.1 w), gI (n : Int)] X M k := by
  have gn : g32 (n : Int) := ⟨by omega, by omega⟩
  have hn2 : n < 104 := by omega
  have hp : gPost M c n (gWk E w (as 0) (as 1) (as 2)) (fun M6 => (wp l G y_Ma_decide (gRm (d + 1 + 1)) true (kkV X k) true 143 [.unset, .unset, .unset, .unset, .unset] [] X M6 0 0)) := fun M2 o v => w_Ma_decide_143 hX hO (h M2 o v)
  obtain ⟨l1, hw2⟩ := gGr2 w hw hg
  obtain ⟨a1, a2, -⟩ := hA 0 (by omega)
  have ea : M (c + 1058 + 2) n = (as 0).nm := a1.2.1
  have eb : gSl (gWta w) = 2 → M (c + 1058 + 2) (n + 1) = (as 1).nm := fun q => (hA 1 (by omega)).1.2.1
  have three : ∀ x y : Int, g32 x → g32 y → (x = 0 ↔ (as 0).nm = 0) → (y = 0 ↔ M (c + 1058 + 2) (n + 1) = 0) → wp l G y_Ma_decide (gRm (d + 1 + 1)) true (kkV X k) true 41 [.val (gR G (c + 1057)), .val (.ref (Q.1 w)), .val (gI (n : Int)), .val (gI x), .unset] [gI y] X M 0 0 := by
    intro x y gx gy ex ey
    refine w_Ma_decide_41 hX hO gn gx gy hw ?_
    rcases hw2 with rfl | rfl | rfl
    · rw [eb rfl] at ey
      simp only [(show gSw 21 = 17 from rfl), Int.reduceEq, Int.reduceNeg, not_true_eq_false, not_false_eq_true, true_and, and_true, false_and, and_false, true_implies, false_implies, implies_true, and_self]
      exact ⟨fun e => c_putBi hX hn2 (by decide) (by omega) hp, fun e => ⟨fun e2 => c_putBi hX hn2 (by decide) (by omega) hp, fun e2 => c_putBi hX hn2 (by decide) (by omega) hp⟩⟩
    · rw [eb rfl] at ey
      simp only [(show gSw 22 = 18 from rfl), Int.reduceEq, Int.reduceNeg, not_true_eq_false, not_false_eq_true, true_and, and_true, false_and, and_false, true_implies, false_implies, implies_true, and_self]
      exact ⟨fun e => c_putBi hX hn2 (by decide) (by omega) hp, fun e => ⟨fun e2 => c_putBi hX hn2 (by decide) (by omega) hp, fun e2 => c_putBi hX hn2 (by decide) (by omega) hp⟩⟩
    · simp only [(show gSw 23 = 0 from rfl), Int.reduceEq, Int.reduceNeg, not_true_eq_false, not_false_eq_true, true_and, and_true, false_and, and_false, true_implies, false_implies, implies_true, and_self]
      exact ⟨fun e => c_putBi hX hn2 (by decide) (by omega) hp, fun e => c_putBi hX hn2 (by decide) (by omega) hp⟩
  have two : ∀ x : Int, g32 x → (x = 0 ↔ (as 0).nm = 0) → wp l G y_Ma_decide (gRm (d + 1 + 1)) true (kkV X k) true 19 [.val (gR G (c + 1057)), .val (.ref (Q.1 w)), .val (gI (n : Int)), .unset, .unset] [gI x] X M 0 0 := by
    intro x gx ex
    refine w_Ma_decide_19 hX hO gn gx hw ?_
    simp only [gT1]
    exact ⟨⟨by omega, by omega⟩, fun _ => ⟨fun e => three x 0 gx ⟨by decide, by decide⟩ ex (by omega), fun e => three x 1 gx ⟨by decide, by decide⟩ ex (by omega)⟩⟩
  refine e_Ma_decide (w_Ma_decide_0 hX hO hw gn ?_)
  simp only [gT0, ea]
  exact ⟨⟨by omega, by omega⟩, fun _ => ⟨fun e => two 0 ⟨by decide, by decide⟩ (by omega), fun e => two 1 ⟨by decide, by decide⟩ (by omega)⟩⟩
theorem c_Ma_ask (hX : glX X c) (hO : gOld G Q) (hn : n + 2 < 104) (hw : w < 52) (hg : gWgr w = 3) (hA : gArgs M c n w as) (h : gPost M c n (gWk E w (as 0) (as 1) (as 2)) k) : cV l G y_Ma_ask (gRm (d + 1 + 1)) true [gR G (c + 1057), .ref (Q.1 w), gI (n : Int)] X M k := by
  have gn : g32 (n : Int) := ⟨by omega, by omega⟩
  have hn2 : n < 104 := by omega
  have ea : 1 ≤ gSl (gWta w) → M (c + 1058 + 1) n = (as 0).kd := fun q => (hA 0 (by omega)).1.1
  have hw2 := gGr3 w hw hg
  refine e_Ma_ask (w_Ma_ask_0 hX hO hw gn ?_)
  simp only [gT0]
  refine ⟨⟨by omega, by omega⟩, fun _ => ?_⟩
  rcases hw2 with rfl | rfl | rfl | rfl | rfl
  · rw [ea (by decide)]
    simp only [(show gSw 27 = 19 from rfl), Int.reduceEq, Int.reduceNeg, not_true_eq_false, not_false_eq_true, true_and, and_true, false_and, and_false, true_implies, false_implies, implies_true, and_self]
    exact ⟨fun e => c_putBi hX hn2 (by decide) (by omega) h, fun e => c_putBi hX hn2 (by decide) (by omega) h⟩
  · rw [ea (by decide)]
    simp only [(show gSw 28 = 20 from rfl), Int.reduceEq, Int.reduceNeg, not_true_eq_false, not_false_eq_true, true_and, and_true, false_and, and_false, true_implies, false_implies, implies_true, and_self]
    exact ⟨fun e => c_putBi hX hn2 (by decide) (by omega) h, fun e => c_putBi hX hn2 (by decide) (by omega) h⟩
  · rw [ea (by decide)]
    simp only [(show gSw 29 = 21 from rfl), Int.reduceEq, Int.reduceNeg, not_true_eq_false, not_false_eq_true, true_and, and_true, false_and, and_false, true_implies, false_implies, implies_true, and_self]
    exact ⟨fun e => c_putBi hX hn2 (by decide) (by omega) h, fun e => c_putBi hX hn2 (by decide) (by omega) h⟩
  · rw [ea (by decide)]
    simp only [(show gSw 30 = 22 from rfl), Int.reduceEq, Int.reduceNeg, not_true_eq_false, not_false_eq_true, true_and, and_true, false_and, and_false, true_implies, false_implies, implies_true, and_self]
    exact ⟨fun e => c_putBi hX hn2 (by decide) (by omega) h, fun e => c_putBi hX hn2 (by decide) (by omega) h⟩
  · simp only [(show gSw 46 = 0 from rfl), Int.reduceEq, Int.reduceNeg, not_true_eq_false, not_false_eq_true, true_and, and_true, false_and, and_false, true_implies, false_implies, implies_true, and_self]
    exact c_putE hX ⟨by omega, by omega⟩ (by decide) rfl h
theorem gSuit_t {w : gVl} {c : Int} (h : gSuit c w) (e : c = 116) : w.kd = 2 := by
  subst e; exact h
theorem c_Ma_join {a b : gVl} (hX : glX X c) (hn : n + 2 < 104) (ha : gvAt M (c + 1058) n a) (oa : gvOk a) (ka : a.kd = 2) (hb : gvAt M (c + 1058) (n + 1) b) (ob : gvOk b) (kb : b.kd = 2) (h : gPost M c n (if 64 < a.tx.length + b.tx.length then gE 4 else gTxt (a.tx ++ b.tx)) k) : cV l G y_Ma_join (gRm (d + 1)) true [gR G (c + 1057), gI (n : Int)] X M k := by
  have gn : g32 (n : Int) := ⟨by omega, by omega⟩
  obtain ⟨na, la⟩ := oa.2.2.2.1 ka
  obtain ⟨nb, lb⟩ := ob.2.2.2.1 kb
  refine e_Ma_join (w_Ma_join_0 hX gn ?_)
  simp only [gT0, gT1, ha.2.1, hb.2.1, na, nb]
  rw [w32_id (x := (a.tx.length : Int) + (b.tx.length : Int)) ⟨by omega, by omega⟩]
  refine ⟨⟨by omega, by omega⟩, fun _ => ⟨⟨by omega, by omega⟩, fun _ => ⟨fun e => ⟨⟨by omega, by omega⟩, ⟨by omega, by omega⟩, ⟨by omega, by omega, by omega, by omega, by omega⟩, ⟨by omega, by omega⟩, ?_⟩, fun e => ?_⟩⟩⟩
  · rw [if_neg (by omega)] at h
    refine h _ (((gOff.rf _ M).cp (fun j _ _ => Or.inl (gVs3 _ _ _))).up (Or.inl (gVs2 _ _))) ⟨?_, ?_, ?_⟩
    · rw [gUp_a (by omega), gCp_a (by omega)]
      exact ha.1.trans ka
    · rw [gUp_eq]
      show _ = ((a.tx ++ b.tx).length : Int)
      rw [List.length_append]
      omega
    · refine gBy_of _ _ (fun j hj => ?_)
      rw [gUp_a (by omega)]
      have hj2 : j < a.tx.length + b.tx.length := by rw [← List.length_append]; exact hj
      show _ = (a.tx ++ b.tx).getD j 0
      rw [Nat.zero_add, List.getD_eq_getElem?_getD]
      by_cases q : j < a.tx.length
      · rw [gCp_out (by omega), List.getElem?_append_left q, ← List.getD_eq_getElem?_getD]
        have := gBy_at ha.2.2 q
        rw [Nat.zero_add] at this
        exact this
      · rw [gCp_in (by omega) (by omega), List.getElem?_append_right (by omega), ← List.getD_eq_getElem?_getD]
        have := gBy_at hb.2.2 (j := j - a.tx.length) (by omega)
        rw [← this]
        congr 1
  · rw [if_pos (by omega)] at h
    exact c_putE hX ⟨by omega, by omega⟩ (by decide) rfl h
theorem c_Ma_changeCase {a : gVl} {x y : Int} (hX : glX X c) (hn : n + 2 < 104) (ha : gvAt M (c + 1058) n a) (oa : gvOk a) (ka : a.kd = 2) (hx : x = 97 ∧ y = 65 ∨ x = 65 ∧ y = 97) (h : gPost M c n (gTxt (a.tx.map (fun b => if x ≤ b ∧ b < x + 26 then b + (y - x) else b))) k) : cV l G y_Ma_changeCase (gRm d) true [gR G (c + 1057), gI (n : Int), gI x, gI y] X M k := by
  have gn : g32 (n : Int) := ⟨by omega, by omega⟩
  have gx : g32 x := ⟨by omega, by omega⟩
  have gy : g32 y := ⟨by omega, by omega⟩
  obtain ⟨na, la⟩ := oa.2.2.2.1 ka
  have hr := gv_row (gl_stk hX) (i := (n : Int)) ⟨by omega, by omega⟩
  have hr2 : 1 ≤ c + 1058 + 4 + n ∧ c + 1058 + 4 + n ≤ X.1 ∧ X.2.1 (c + 1058 + 4 + n) = (2, 64) := ⟨hr.2.2.1, hr.2.2.2, hr.2.1⟩
  have by1 : ∀ j, j < a.tx.length → M (c + 1058 + 4 + n) j = a.tx.getD j 0 ∧ 32 ≤ a.tx.getD j 0 ∧ a.tx.getD j 0 ≤ 126 := by
    intro j hj
    have := gBy_at ha.2.2 hj
    rw [Nat.zero_add] at this
    refine ⟨this, ?_⟩
    rw [List.getD_eq_getElem?_getD, List.getElem?_eq_getElem hj]
    exact oa.2.2.2.2.2.2.2.2 _ (List.getElem_mem hj)
  have key : ∀ (m q : Nat), q + m = a.tx.length → wp l G y_Ma_changeCase (gRm d) true (kkV X k) true 14 [.val (gR G (c + 1057)), .val (gI (n : Int)), .val (gI x), .val (gI y), .val (gR G (c + 1058 + 4 + n)), .val (gI (q : Int))] [] X (gFl M (c + 1058 + 4 + n) 0 (fun j => (a.tx.map (fun b => if x ≤ b ∧ b < x + 26 then b + (y - x) else b)).getD j 0) q) 0 0 := by
    intro m
    induction m with
    | zero =>
      intro q hq
      refine w_Ma_changeCase_14 hX gn gx gy hr2 ⟨by omega, by omega⟩ ⟨⟨by omega, by omega⟩, ?_⟩
      rw [gT0, gFl_a (by omega), ha.2.1, na]
      refine fun _ => ⟨fun _ => h _ ((gOff.rf _ M).fl (fun j _ _ => Or.inl (gVs3 _ _ _))) ⟨?_, ?_, ?_⟩, fun e => absurd (by omega) e⟩
      · rw [gFl_a (by omega)]; exact ha.1.trans ka
      · rw [gFl_a (by omega), ha.2.1, na]
        show _ = ((a.tx.map _).length : Int)
        rw [List.length_map]
      · refine gBy_of _ _ (fun j hj => ?_)
        have hj2 : j < a.tx.length := by rw [← List.length_map]; exact hj
        rw [gFl_in (by omega) (by omega), Nat.zero_add, Nat.sub_zero]
        rfl
    | succ m ih =>
      intro q hq
      have i1 := ih (q + 1) (by omega)
      obtain ⟨b1, b2, b3⟩ := by1 q (by omega)
      have bs : (0 : Int) ≤ (q : Int) ∧ (q : Int) < 64 := ⟨by omega, by omega⟩
      have em : (a.tx.map (fun b => if x ≤ b ∧ b < x + 26 then b + (y - x) else b)).getD q 0 = (if x ≤ a.tx.getD q 0 ∧ a.tx.getD q 0 < x + 26 then a.tx.getD q 0 + (y - x) else a.tx.getD q 0) := by
        have hq2 : q < a.tx.length := by omega
        rw [List.getD_eq_getElem?_getD, List.getElem?_map, List.getElem?_eq_getElem hq2, List.getD_eq_getElem?_getD, List.getElem?_eq_getElem hq2]
        rfl
      have same : (gFl M (c + 1058 + 4 + n) 0 (fun j => (a.tx.map (fun b => if x ≤ b ∧ b < x + 26 then b + (y - x) else b)).getD j 0) q) (c + 1058 + 4 + n) q = a.tx.getD q 0 := by rw [gFl_out (by omega)]; exact b1
      rw [← gFl_s, Nat.zero_add, em] at i1
      refine w_Ma_changeCase_14 hX gn gx gy hr2 ⟨by omega, by omega⟩ ⟨⟨by omega, by omega⟩, ?_⟩
      rw [gT0, gT0, gFl_a (by omega), ha.2.1, na, same, gI_w, w32_id (x := x + 26) ⟨by omega, by omega⟩]
      have keep : ¬ (x ≤ a.tx.getD q 0 ∧ a.tx.getD q 0 < x + 26) → wp l G y_Ma_changeCase (gRm d) true (kkV X k) true 14 [.val (gR G (c + 1057)), .val (gI (n : Int)), .val (gI x), .val (gI y), .val (gR G (c + 1058 + 4 + n)), .val (gI ((q : Int) + 1))] [] X (gFl M (c + 1058 + 4 + n) 0 (fun j => (a.tx.map (fun b => if x ≤ b ∧ b < x + 26 then b + (y - x) else b)).getD j 0) q) 0 0 := by
        intro e
        rw [if_neg e] at i1
        have e2 : gUp (gFl M (c + 1058 + 4 + n) 0 (fun j => (a.tx.map (fun b => if x ≤ b ∧ b < x + 26 then b + (y - x) else b)).getD j 0) q) (c + 1058 + 4 + n) q (a.tx.getD q 0) = gFl M (c + 1058 + 4 + n) 0 (fun j => (a.tx.map (fun b => if x ≤ b ∧ b < x + 26 then b + (y - x) else b)).getD j 0) q := gUp_id same
        rw [e2] at i1
        exact i1
      refine fun _ => ⟨fun e => absurd e (by omega), fun _ => ⟨bs, fun _ => ⟨fun e => keep (by omega), fun e => ⟨bs, fun _ => ⟨fun e2 => keep (by omega), fun e2 => ⟨bs, fun _ => ⟨bs, ?_⟩⟩⟩⟩⟩⟩⟩
      rw [if_pos ⟨by omega, by omega⟩] at i1
      rw [gByte_id (gByte_ok _), gByte_id ⟨by omega, by omega⟩]
      exact i1
  refine e_Ma_changeCase (w_Ma_changeCase_0 hX gn gx gy ⟨⟨by omega, by omega⟩, ?_⟩)
  have k0 := key a.tx.length 0 (by omega)
  rw [gFl_0] at k0
  exact k0
theorem c_Ma_cutOut {a : gVl} {x y : Int} (hX : glX X c) (hn : n + 2 < 104) (ha : gvAt M (c + 1058) n a) (oa : gvOk a) (ka : a.kd = 2) (hx : g64 x) (hy : g64 y) (h : gPost M c n (if x < 0 ∨ y < 0 then gE 4 else gTxt ((a.tx.drop x.toNat).take y.toNat)) k) : cV l G y_Ma_cutOut (gRm (d + 1 + 1)) true [gR G (c + 1057), gI (n : Int), gL x, gL y] X M k := by
  have gn : g32 (n : Int) := ⟨by omega, by omega⟩
  have hs : (0 : Int) ≤ (n : Int) ∧ (n : Int) < 104 := ⟨by omega, by omega⟩
  obtain ⟨na, la⟩ := oa.2.2.2.1 ka
  have hr := gv_row (gl_stk hX) (i := (n : Int)) hs
  have hr2 : 1 ≤ c + 1058 + 4 + n ∧ c + 1058 + 4 + n ≤ X.1 ∧ X.2.1 (c + 1058 + 4 + n) = (2, 64) ∧ 64 ≤ 2147483647 := ⟨hr.2.2.1, hr.2.2.2, hr.2.1, by decide⟩
  refine e_Ma_cutOut (w_Ma_cutOut_0 hX gn hx hy ?_)
  simp only [gT0, ha.2.1, na]
  refine ⟨fun e => ?_, fun e => ⟨fun e2 => ⟨hs, fun _ => c_minL hx ⟨by omega, by omega⟩ ?_⟩, fun e2 => ?_⟩⟩
  · rw [if_pos (Or.inl e)] at h
    exact c_putE hX hs (by decide) rfl h
  · rw [w32_id (x := min x (a.tx.length : Int)) ⟨by omega, by omega⟩, ha.2.1, na]
    refine ⟨hs, fun _ => c_minL hy ⟨by omega, by omega⟩ ⟨hs, ?_⟩⟩
    rw [if_neg (by omega)] at h
    refine c_Vl_setText (gl_stk hX) hs hr2 ⟨by omega, by omega, by omega, by omega⟩ (fun M2 o v => h M2 (o.mono gMr_vs) ?_)
    have eT : (a.tx.drop x.toNat).take y.toNat = gBy M (c + 1058 + 4 + n) (min x (a.tx.length : Int)).toNat (min y ((a.tx.length : Int) - min x (a.tx.length : Int))).toNat := by
      apply List.ext_getElem?
      intro j
      by_cases hj : j < (min y ((a.tx.length : Int) - min x (a.tx.length : Int))).toNat
      · rw [gBy_get _ _ _ hj, List.getElem?_take, if_pos (by omega), List.getElem?_drop]
        have := gBy_at ha.2.2 (j := x.toNat + j) (by omega)
        rw [Nat.zero_add, List.getD_eq_getElem?_getD, List.getElem?_eq_getElem (by omega)] at this
        rw [List.getElem?_eq_getElem (by omega), show (min x (a.tx.length : Int)).toNat = x.toNat by omega, this]
        rfl
      · rw [List.getElem?_eq_none (by rw [List.length_take, List.length_drop]; omega), List.getElem?_eq_none (by rw [gBy_len]; omega)]
    rw [eT]
    unfold gTxt
    rw [gBy_len]
    rw [show (((min y ((a.tx.length : Int) - min x (a.tx.length : Int))).toNat : Nat) : Int) = min y ((a.tx.length : Int) - min x (a.tx.length : Int)) by omega]
    exact v
  · rw [if_pos (by omega)] at h
    exact c_putE hX hs (by decide) rfl h
end gbN
