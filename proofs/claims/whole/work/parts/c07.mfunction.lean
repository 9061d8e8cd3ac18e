/-! The reference: a function of arguments that are ready; names looked up. -/
/-- the title of work w -/
def gTi (w : Nat) : List Int := gSby.getD (gWti w) []
/-- the work that bytes name, from number i on (n are left); -1: none -/
def gNmF (b : List Int) : Nat → Nat → Int
  | 0, _ => -1
  | n + 1, i => if gTi i = b then (i : Int) else gNmF b n (i + 1)
def gNmW (b : List Int) : Int := gNmF b 38 14
def gNk (i : Nat) : Nat := ([0, 6, 16, 22, 28, 38, 46, 55, 62, 68, 74, 81, 92, 104, 114, 125, 134, 144, 150, 157, 164, 170, 178, 186, 194, 203, 211, 219, 231, 237, 246, 253, 263, 267, 277, 286, 297, 306, 317] : List Nat).getD i 0
theorem gNk_1 : ∀ i, i < 38 → gNk i + (gTi (i + 14)).length + 1 ≤ gNk (i + 1) ∧ gNk (i + 1) ≤ 317 ∧ gSc 7 (gNk i + (gTi (i + 14)).length) = 58 ∧ gSc 7 (gNk (i + 1) - 1) = 32 := by decide +kernel
theorem gNk_2 : ∀ i, i < 38 → ∀ j, j < (gTi (i + 14)).length → gSc 7 (gNk i + j) = (gTi (i + 14)).getD j 0 ∧ gSc 7 (gNk i + j) ≠ 58 := by decide +kernel
theorem gNk_3 : ∀ i, i < 38 → ∀ j, j < gNk (i + 1) - 1 - gNk i → gSc 7 (gNk i + j) ≠ 32 := by decide +kernel
/-- the letters behind a name, as the reference has them -/
theorem gNk_4 : ∀ i, i < 38 → gNk i + (gTi (i + 14)).length + 1 + gSl (gWta (i + 14)) + 1 = gNk (i + 1) := by decide +kernel
theorem gNk_5 : ∀ i, i < 38 → ∀ j, j < gSl (gWta (i + 14)) → (gSc 7 (gNk i + (gTi (i + 14)).length + 1 + j) = 114 ↔ gSc (gWta (i + 14)) j = 114) ∧ (gSc 7 (gNk i + (gTi (i + 14)).length + 1 + j) = 110 ↔ gSc (gWta (i + 14)) j = 110) ∧ (gSc 7 (gNk i + (gTi (i + 14)).length + 1 + j) = 98 ↔ gSc (gWta (i + 14)) j = 98) ∧ (gSc 7 (gNk i + (gTi (i + 14)).length + 1 + j) = 116 ↔ gSc (gWta (i + 14)) j = 116) ∧ gSc 7 (gNk i + (gTi (i + 14)).length + 1 + j) ≠ 32 := by decide +kernel
section gcG
variable {l : Launch} {G : gG} {d : Nat} {X : gX} {M : gM} {o t w : Nat} {Q : gQ} {E : Int → gVl} {k : gM → Prop} {as : Nat → gVl}
theorem c_signum {x : Int} {k : Int → gM → Prop} (hx : g64 x) (h : k (gSgn x) M) : cI l G y_jLong_signum (gRm d) false [gL x] X M k := by
  refine e_jLong_signum (w_jLong_signum_0 hx ?_)
  rw [gSgn_bits hx]
  exact h
/-- arguments that are ready: on the stack, a range in the box -/
def gmArgs (M : gM) (o s w : Nat) (as : Nat → gVl) : Prop := ∀ i, i < gSl (gWta w) → gvOk (as i) ∧ gSuit (gSc (gWta w) i) (as i) ∧ (gSc (gWta w) i ≠ 114 → gmAt M o (s + i) (as i)) ∧ (gSc (gWta w) i = 114 → gmBb M o (gBox (as i).nm))
theorem r_function {f : Int} {s : Nat} (hX : gmX X o) (hw : 14 ≤ w ∧ w < 52) (h5 : gWgr w ≠ 5) (hf : f = (w : Int) - 14) (hst : s + gSl (gWta w) = t) (hn : t < 1199) (ht : M o 50 = (t : Int)) (hE : gmEnv M o E) (hA : gmArgs M o s w as) (h : gmPost M o t (gWk E w (as 0) (as 1) (as 2)) k) : cV l G y_GM_function (gRm (d + 4)) true [gR G o, gI f, gI (s : Int), gI (gSl (gWta w) : Int)] X M k := by
  have gs : g32 (s : Int) := ⟨by omega, by omega⟩
  have gf : g32 f := ⟨by omega, by omega⟩
  have gl4 := (gGl w hw.2).1
  have gm : g32 (gSl (gWta w) : Int) := ⟨by omega, by omega⟩
  have hn2 : t < 1200 := by omega
  have b0 : (0 : Int) ≤ (s : Int) ∧ (s : Int) < 1200 := ⟨by omega, by omega⟩
  have fin : ∀ {V : gVl}, gmPost M o t V k → gmPost M o t V (fun M4 => wp l G y_GM_function (gRm (d + 3 + 1)) true (kkV X k) true 546 [.unset, .unset, .unset, .unset, .unset, .unset, .unset, .unset] [] X M4 0 0) := fun hh M2 o2 a2 t2 => w_GM_function_546 (d := d + 3) hX (hh M2 o2 a2 t2)
  have g1 : g32 1 := g32_c (x := 1) rfl
  have g0 : g32 0 := g32_c (x := 0) rfl
  have yes : ∀ (p : Prop) [Decidable p] (x : Int), (0 ≤ x ∧ x ≤ 1) → (x = 1 ↔ p) → gWk E w (as 0) (as 1) (as 2) = gBi p → cV l G y_GM_yes (gRm (d + 3)) true [gR G o, gI x] X M (fun M90 => (wp l G y_GM_function (gRm (d + 3 + 1)) true (kkV X k) true 546 [.unset, .unset, .unset, .unset, .unset, .unset, .unset, .unset] [] X M90 0 0)) := fun p _ x bx ex ew => by
    rw [ew] at h
    exact r_yes hX bx ex hn2 ht (fin h)
  have psh : ∀ x : Int, g64 x → gWk E w (as 0) (as 1) (as 2) = gN x → cV l G y_GM_push (gRm (d + 3)) true [gR G o, gI 1, gL x] X M (fun M90 => (wp l G y_GM_function (gRm (d + 3 + 1)) true (kkV X k) true 546 [.unset, .unset, .unset, .unset, .unset, .unset, .unset, .unset] [] X M90 0 0)) := fun x gx ew => by
    rw [ew] at h
    exact r_push hX g1 gx hn2 ht (fin h)
  have flt : ∀ x : Int, (1 ≤ x ∧ x ≤ 8) → gWk E w (as 0) (as 1) (as 2) = gE x → cV l G y_GM_fault (gRm (d + 3)) true [gR G o, gI x] X M (fun M90 => (wp l G y_GM_function (gRm (d + 3 + 1)) true (kkV X k) true 546 [.unset, .unset, .unset, .unset, .unset, .unset, .unset, .unset] [] X M90 0 0)) := fun x bx ew => by
    rw [ew] at h
    exact r_fault hX bx hn2 ht (fin h)
  have main : ∀ x4 s0 : Int, g64 x4 → g64 s0 → (1 ≤ gSl (gWta w) → x4 = M (o + 36) s) → (2 ≤ gSl (gWta w) → s0 = M (o + 36) (s + 1)) → wp l G y_GM_function (gRm (d + 3 + 1)) true (kkV X k) true 33 [.val (gR G o), .val (gI f), .val (gI (s : Int)), .unset, .val (gL x4), .unset, .unset, .unset] [gL s0] X M 0 0 := by
    intro x4 s0 g4 gs0 e4 e0
    refine w_GM_function_33 (d := d + 3) hX gf gs g4 gs0 ?_
    -- a number or a truth as the first, the second
    have first : 1 ≤ gSl (gWta w) → (gSc (gWta w) 0 = 110 ∨ gSc (gWta w) 0 = 98) → x4 = (as 0).nm := fun l1 c0 => by
      obtain ⟨o1, s1, a1, -⟩ := hA 0 (by omega)
      rw [e4 l1]
      refine (a1 (by omega)).2.2.1 ?_
      unfold gSuit at s1
      rcases c0 with c0 | c0
      · rw [if_pos c0] at s1; omega
      · rw [if_neg (by omega), if_neg (by omega), if_pos c0] at s1; omega
    have second : 2 ≤ gSl (gWta w) → (gSc (gWta w) 1 = 110 ∨ gSc (gWta w) 1 = 98) → s0 = (as 1).nm := fun l1 c0 => by
      obtain ⟨o1, s1, a1, -⟩ := hA 1 (by omega)
      rw [e0 l1]
      refine (a1 (by omega)).2.2.1 ?_
      unfold gSuit at s1
      rcases c0 with c0 | c0
      · rw [if_pos c0] at s1; omega
      · rw [if_neg (by omega), if_neg (by omega), if_pos c0] at s1; omega
    have tru : ∀ i, i < gSl (gWta w) → gSc (gWta w) i = 98 → 0 ≤ (as i).nm ∧ (as i).nm ≤ 1 := fun i hi c0 => by
      obtain ⟨o1, s1, -⟩ := hA i hi
      unfold gSuit at s1
      rw [if_neg (by omega), if_neg (by omega), if_pos c0] at s1
      exact o1.2.2.2.2.2.2.1 s1
    have tot : ∀ ff : Int, ff = f → (0 ≤ ff ∧ ff < 7) → cV l G y_GM_total (gRm (d + 3)) true [gR G o, gI ff] X M (fun M5 => (wp l G y_GM_function (gRm (d + 3 + 1)) true (kkV X k) true 546 [.unset, .unset, .unset, .unset, .unset, .unset, .unset, .unset] [] X M5 0 0)) := fun ff eff bf => by
      have l1 : 1 ≤ gSl (gWta w) ∧ gSc (gWta w) 0 = 114 := by
        have : ∀ w, w < 21 → 14 ≤ w → 1 ≤ gSl (gWta w) ∧ gSc (gWta w) 0 = 114 := by decide +kernel
        exact this w (by omega) hw.1
      obtain ⟨o1, s1, -, b1⟩ := hA 0 (by omega)
      refine r_total (d := d + 1) (a := as 0) (b' := as 1) (c' := as 2) hX bf hE (b1 l1.2) (gSuit_r s1 l1.2).2 hn2 ht (fin ?_)
      rw [show ff.toNat + 14 = w by omega]
      exact h
    have tex : ∀ ff : Int, ff = f → (34 ≤ w ∧ w ≤ 41) → cV l G y_GM_text (gRm (d + 3)) true [gR G o, gI ff, gI (s : Int)] X M (fun M5 => (wp l G y_GM_function (gRm (d + 3 + 1)) true (kkV X k) true 546 [.unset, .unset, .unset, .unset, .unset, .unset, .unset, .unset] [] X M5 0 0)) := fun ff eff bw => by
      refine r_text (d := d) (w := w) (as := as) (E := E) hX bw (eff.trans hf) hst hn2 ht (fun i hi => ?_) (fin h)
      obtain ⟨o1, s1, a1, -⟩ := hA i hi
      refine ⟨o1, s1, a1 ?_⟩
      have : ∀ w, w < 42 → 34 ≤ w → ∀ i, i < gSl (gWta w) → gSc (gWta w) i ≠ 114 := by decide +kernel
      exact this w (by omega) bw.1 i hi
    have hw2 : w = 14 ∨ w = 15 ∨ w = 16 ∨ w = 17 ∨ w = 18 ∨ w = 19 ∨ w = 20 ∨ w = 21 ∨ w = 22 ∨ w = 23 ∨ w = 27 ∨ w = 28 ∨ w = 29 ∨ w = 30 ∨ w = 31 ∨ w = 32 ∨ w = 33 ∨ w = 34 ∨ w = 35 ∨ w = 36 ∨ w = 37 ∨ w = 38 ∨ w = 39 ∨ w = 40 ∨ w = 41 ∨ w = 42 ∨ w = 43 ∨ w = 44 ∨ w = 45 ∨ w = 46 ∨ w = 47 ∨ w = 48 ∨ w = 49 ∨ w = 50 ∨ w = 51 := by
      have : ∀ w, w < 52 → 14 ≤ w → gWgr w ≠ 5 → w ≠ 24 ∧ w ≠ 25 ∧ w ≠ 26 := by decide +kernel
      have := this w hw.2 hw.1 h5
      omega
    rcases hw2 with rfl | rfl | rfl | rfl | rfl | rfl | rfl | rfl | rfl | rfl | rfl | rfl | rfl | rfl | rfl | rfl | rfl | rfl | rfl | rfl | rfl | rfl | rfl | rfl | rfl | rfl | rfl | rfl | rfl | rfl | rfl | rfl | rfl | rfl | rfl
    · have hf : f = 0 := hf
      simp only [hf, Int.reduceEq, Int.reduceNeg, not_true_eq_false, not_false_eq_true, true_and, and_true, false_and, and_false, true_implies, false_implies, implies_true, and_self]
      exact tot 0 hf.symm (by decide)
    · have hf : f = 1 := hf
      simp only [hf, Int.reduceEq, Int.reduceNeg, not_true_eq_false, not_false_eq_true, true_and, and_true, false_and, and_false, true_implies, false_implies, implies_true, and_self]
      exact tot 1 hf.symm (by decide)
    · have hf : f = 2 := hf
      simp only [hf, Int.reduceEq, Int.reduceNeg, not_true_eq_false, not_false_eq_true, true_and, and_true, false_and, and_false, true_implies, false_implies, implies_true, and_self]
      exact tot 2 hf.symm (by decide)
    · have hf : f = 3 := hf
      simp only [hf, Int.reduceEq, Int.reduceNeg, not_true_eq_false, not_false_eq_true, true_and, and_true, false_and, and_false, true_implies, false_implies, implies_true, and_self]
      exact tot 3 hf.symm (by decide)
    · have hf : f = 4 := hf
      simp only [hf, Int.reduceEq, Int.reduceNeg, not_true_eq_false, not_false_eq_true, true_and, and_true, false_and, and_false, true_implies, false_implies, implies_true, and_self]
      exact tot 4 hf.symm (by decide)
    · have hf : f = 5 := hf
      simp only [hf, Int.reduceEq, Int.reduceNeg, not_true_eq_false, not_false_eq_true, true_and, and_true, false_and, and_false, true_implies, false_implies, implies_true, and_self]
      exact tot 5 hf.symm (by decide)
    · have hf : f = 6 := hf
      simp only [hf, Int.reduceEq, Int.reduceNeg, not_true_eq_false, not_false_eq_true, true_and, and_true, false_and, and_false, true_implies, false_implies, implies_true, and_self]
      exact tot 6 hf.symm (by decide)
    · have hf : f = 7 := hf
      simp only [hf, Int.reduceEq, Int.reduceNeg, not_true_eq_false, not_false_eq_true, true_and, and_true, false_and, and_false, true_implies, false_implies, implies_true, and_self]
      have t0 := tru 0 (by decide) (by decide)
      have t1 := tru 1 (by decide) (by decide)
      rw [first (by decide) (Or.inr (by decide)), second (by decide) (Or.inr (by decide))]
      exact ⟨fun z => w_GM_function_215 (d := d + 3) hX (w_GM_function_216 (d := d + 3) hX g0 (yes ((as 0).nm ≠ 0 ∧ (as 1).nm ≠ 0) 0 (by decide) (by omega) rfl)), fun z => ⟨fun z2 => w_GM_function_215 (d := d + 3) hX (w_GM_function_216 (d := d + 3) hX g0 (yes ((as 0).nm ≠ 0 ∧ (as 1).nm ≠ 0) 0 (by decide) (by omega) rfl)), fun z2 => w_GM_function_216 (d := d + 3) hX g1 (yes ((as 0).nm ≠ 0 ∧ (as 1).nm ≠ 0) 1 (by decide) (by omega) rfl)⟩⟩
    · have hf : f = 8 := hf
      simp only [hf, Int.reduceEq, Int.reduceNeg, not_true_eq_false, not_false_eq_true, true_and, and_true, false_and, and_false, true_implies, false_implies, implies_true, and_self]
      have t0 := tru 0 (by decide) (by decide)
      have t1 := tru 1 (by decide) (by decide)
      rw [first (by decide) (Or.inr (by decide)), second (by decide) (Or.inr (by decide))]
      exact ⟨fun z => w_GM_function_237 (d := d + 3) hX (w_GM_function_242 (d := d + 3) hX g1 (yes ((as 0).nm ≠ 0 ∨ (as 1).nm ≠ 0) 1 (by decide) (by omega) rfl)), fun z => ⟨fun z2 => w_GM_function_242 (d := d + 3) hX g0 (yes ((as 0).nm ≠ 0 ∨ (as 1).nm ≠ 0) 0 (by decide) (by omega) rfl), fun z2 => w_GM_function_237 (d := d + 3) hX (w_GM_function_242 (d := d + 3) hX g1 (yes ((as 0).nm ≠ 0 ∨ (as 1).nm ≠ 0) 1 (by decide) (by omega) rfl))⟩⟩
    · have hf : f = 9 := hf
      simp only [hf, Int.reduceEq, Int.reduceNeg, not_true_eq_false, not_false_eq_true, true_and, and_true, false_and, and_false, true_implies, false_implies, implies_true, and_self]
      rw [first (by decide) (Or.inr (by decide))]
      exact ⟨fun z => w_GM_function_261 (d := d + 3) hX g0 (yes ((as 0).nm = 0) 0 (by decide) (by omega) rfl), fun z => w_GM_function_261 (d := d + 3) hX g1 (yes ((as 0).nm = 0) 1 (by decide) (by omega) rfl)⟩
    · have hf : f = 13 := hf
      simp only [hf, Int.reduceEq, Int.reduceNeg, not_true_eq_false, not_false_eq_true, true_and, and_true, false_and, and_false, true_implies, false_implies, implies_true, and_self]
      have ka : M (o + 34) s = (as 0).kd := ((hA 0 (by decide)).2.2.1 (by decide)).1
      rw [Int.toNat_natCast, ka]
      exact ⟨b0, fun _ => ⟨fun z => w_GM_function_283 (d := d + 3) hX g0 (yes ((as 0).kd = 4) 0 (by decide) (by omega) rfl), fun z => w_GM_function_283 (d := d + 3) hX g1 (yes ((as 0).kd = 4) 1 (by decide) (by omega) rfl)⟩⟩
    · have hf : f = 14 := hf
      simp only [hf, Int.reduceEq, Int.reduceNeg, not_true_eq_false, not_false_eq_true, true_and, and_true, false_and, and_false, true_implies, false_implies, implies_true, and_self]
      have ka : M (o + 34) s = (as 0).kd := ((hA 0 (by decide)).2.2.1 (by decide)).1
      rw [Int.toNat_natCast, ka]
      exact ⟨b0, fun _ => ⟨fun z => w_GM_function_305 (d := d + 3) hX g0 (yes ((as 0).kd = 1) 0 (by decide) (by omega) rfl), fun z => w_GM_function_305 (d := d + 3) hX g1 (yes ((as 0).kd = 1) 1 (by decide) (by omega) rfl)⟩⟩
    · have hf : f = 15 := hf
      simp only [hf, Int.reduceEq, Int.reduceNeg, not_true_eq_false, not_false_eq_true, true_and, and_true, false_and, and_false, true_implies, false_implies, implies_true, and_self]
      have ka : M (o + 34) s = (as 0).kd := ((hA 0 (by decide)).2.2.1 (by decide)).1
      rw [Int.toNat_natCast, ka]
      exact ⟨b0, fun _ => ⟨fun z => w_GM_function_327 (d := d + 3) hX g0 (yes ((as 0).kd = 2) 0 (by decide) (by omega) rfl), fun z => w_GM_function_327 (d := d + 3) hX g1 (yes ((as 0).kd = 2) 1 (by decide) (by omega) rfl)⟩⟩
    · have hf : f = 16 := hf
      simp only [hf, Int.reduceEq, Int.reduceNeg, not_true_eq_false, not_false_eq_true, true_and, and_true, false_and, and_false, true_implies, false_implies, implies_true, and_self]
      have ka : M (o + 34) s = (as 0).kd := ((hA 0 (by decide)).2.2.1 (by decide)).1
      rw [Int.toNat_natCast, ka]
      exact ⟨b0, fun _ => ⟨fun z => w_GM_function_348 (d := d + 3) hX g0 (yes ((as 0).kd = 0) 0 (by decide) (by omega) rfl), fun z => w_GM_function_348 (d := d + 3) hX g1 (yes ((as 0).kd = 0) 1 (by decide) (by omega) rfl)⟩⟩
    · have hf : f = 17 := hf
      simp only [hf, Int.reduceEq, Int.reduceNeg, not_true_eq_false, not_false_eq_true, true_and, and_true, false_and, and_false, true_implies, false_implies, implies_true, and_self]
      have e1 := first (by decide) (Or.inl (by decide))
      rw [e1] at g4 ⊢
      have g4' := g4
      unfold g64 at g4'
      refine ⟨fun z => c_jMath_abs_2 ⟨by omega, by omega⟩ (psh _ ⟨by omega, by omega⟩ ?_), fun z => flt 6 (by decide) ?_⟩
      · show gFit (gAbs (as 0).nm) = _
        have e2 : gAbs (as 0).nm = ((as 0).nm.natAbs : Int) := by unfold gAbs; split <;> omega
        rw [e2]
        unfold gFit
        rw [if_pos ⟨by omega, by omega⟩]
      · show gFit (gAbs (as 0).nm) = _
        rw [z]
        unfold gFit
        rw [if_neg (by unfold g64; decide)]
    · have hf : f = 18 := hf
      simp only [hf, Int.reduceEq, Int.reduceNeg, not_true_eq_false, not_false_eq_true, true_and, and_true, false_and, and_false, true_implies, false_implies, implies_true, and_self]
      have e1 := first (by decide) (Or.inl (by decide))
      rw [e1] at g4 ⊢
      refine c_signum g4 (psh _ ?_ rfl)
      unfold gSgn
      split
      · exact ⟨by decide, by decide⟩
      · split <;> exact ⟨by decide, by decide⟩
    · have hf : f = 19 := hf
      simp only [hf, Int.reduceEq, Int.reduceNeg, not_true_eq_false, not_false_eq_true, true_and, and_true, false_and, and_false, true_implies, false_implies, implies_true, and_self]
      have e1 := first (by decide) (Or.inl (by decide))
      have e2 := second (by decide) (Or.inl (by decide))
      rw [e1] at g4 ⊢
      rw [e2] at gs0 ⊢
      refine ⟨fun z => c_jMath_floorMod g4 gs0 z (fun gq => psh _ gq ?_), fun z => flt 5 (by decide) ?_⟩
      · show (if (as 1).nm = 0 then gE 5 else gN ((as 0).nm.fmod (as 1).nm)) = _
        rw [if_neg z]
      · show (if (as 1).nm = 0 then gE 5 else gN ((as 0).nm.fmod (as 1).nm)) = _
        rw [if_pos z]
    · have hf : f = 20 := hf
      simp only [hf, Int.reduceEq, Int.reduceNeg, not_true_eq_false, not_false_eq_true, true_and, and_true, false_and, and_false, true_implies, false_implies, implies_true, and_self]
      exact ⟨fun z => absurd z (by decide), fun _ => tex 20 hf.symm (by decide)⟩
    · have hf : f = 21 := hf
      simp only [hf, Int.reduceEq, Int.reduceNeg, not_true_eq_false, not_false_eq_true, true_and, and_true, false_and, and_false, true_implies, false_implies, implies_true, and_self]
      exact ⟨fun z => absurd z (by decide), fun _ => tex 21 hf.symm (by decide)⟩
    · have hf : f = 22 := hf
      simp only [hf, Int.reduceEq, Int.reduceNeg, not_true_eq_false, not_false_eq_true, true_and, and_true, false_and, and_false, true_implies, false_implies, implies_true, and_self]
      exact ⟨fun z => absurd z (by decide), fun _ => tex 22 hf.symm (by decide)⟩
    · have hf : f = 23 := hf
      simp only [hf, Int.reduceEq, Int.reduceNeg, not_true_eq_false, not_false_eq_true, true_and, and_true, false_and, and_false, true_implies, false_implies, implies_true, and_self]
      exact ⟨fun z => absurd z (by decide), fun _ => tex 23 hf.symm (by decide)⟩
    · have hf : f = 24 := hf
      simp only [hf, Int.reduceEq, Int.reduceNeg, not_true_eq_false, not_false_eq_true, true_and, and_true, false_and, and_false, true_implies, false_implies, implies_true, and_self]
      exact ⟨fun z => absurd z (by decide), fun _ => tex 24 hf.symm (by decide)⟩
    · have hf : f = 25 := hf
      simp only [hf, Int.reduceEq, Int.reduceNeg, not_true_eq_false, not_false_eq_true, true_and, and_true, false_and, and_false, true_implies, false_implies, implies_true, and_self]
      exact ⟨fun z => absurd z (by decide), fun _ => tex 25 hf.symm (by decide)⟩
    · have hf : f = 26 := hf
      simp only [hf, Int.reduceEq, Int.reduceNeg, not_true_eq_false, not_false_eq_true, true_and, and_true, false_and, and_false, true_implies, false_implies, implies_true, and_self]
      exact ⟨fun z => absurd z (by decide), fun _ => tex 26 hf.symm (by decide)⟩
    · have hf : f = 27 := hf
      simp only [hf, Int.reduceEq, Int.reduceNeg, not_true_eq_false, not_false_eq_true, true_and, and_true, false_and, and_false, true_implies, false_implies, implies_true, and_self]
      exact ⟨fun z => absurd z (by decide), fun _ => tex 27 hf.symm (by decide)⟩
    · have hf : f = 28 := hf
      simp only [hf, Int.reduceEq, Int.reduceNeg, not_true_eq_false, not_false_eq_true, true_and, and_true, false_and, and_false, true_implies, false_implies, implies_true, and_self]
      obtain ⟨-, s1, -, b1⟩ := hA 0 (by decide)
      have ob := gBox_ok (gSuit_r s1 (by decide)).2
      unfold gBxOk at ob
      rw [(b1 (by decide)).2.2.1, w32_id (x := (gBox (as 0).nm).r + 1) ⟨by omega, by omega⟩]
      exact fun _ => psh _ ⟨by omega, by omega⟩ rfl
    · have hf : f = 29 := hf
      simp only [hf, Int.reduceEq, Int.reduceNeg, not_true_eq_false, not_false_eq_true, true_and, and_true, false_and, and_false, true_implies, false_implies, implies_true, and_self]
      obtain ⟨-, s1, -, b1⟩ := hA 0 (by decide)
      have ob := gBox_ok (gSuit_r s1 (by decide)).2
      unfold gBxOk at ob
      rw [(b1 (by decide)).1, w32_id (x := (gBox (as 0).nm).c + 1) ⟨by omega, by omega⟩]
      exact fun _ => psh _ ⟨by omega, by omega⟩ rfl
    · have hf : f = 30 := hf
      simp only [hf, Int.reduceEq, Int.reduceNeg, not_true_eq_false, not_false_eq_true, true_and, and_true, false_and, and_false, true_implies, false_implies, implies_true, and_self]
      obtain ⟨-, s1, -, b1⟩ := hA 0 (by decide)
      have ob := gBox_ok (gSuit_r s1 (by decide)).2
      unfold gBxOk at ob
      rw [(b1 (by decide)).2.2.1, (b1 (by decide)).2.2.2, w32_id (x := (gBox (as 0).nm).s - (gBox (as 0).nm).r + 1) ⟨by omega, by omega⟩]
      exact fun _ _ => psh _ ⟨by omega, by omega⟩ rfl
    · have hf : f = 31 := hf
      simp only [hf, Int.reduceEq, Int.reduceNeg, not_true_eq_false, not_false_eq_true, true_and, and_true, false_and, and_false, true_implies, false_implies, implies_true, and_self]
      obtain ⟨-, s1, -, b1⟩ := hA 0 (by decide)
      have ob := gBox_ok (gSuit_r s1 (by decide)).2
      unfold gBxOk at ob
      rw [(b1 (by decide)).1, (b1 (by decide)).2.1, w32_id (x := (gBox (as 0).nm).d - (gBox (as 0).nm).c + 1) ⟨by omega, by omega⟩]
      exact fun _ _ => psh _ ⟨by omega, by omega⟩ rfl
    · have hf : f = 32 := hf
      simp only [hf, Int.reduceEq, Int.reduceNeg, not_true_eq_false, not_false_eq_true, true_and, and_true, false_and, and_false, true_implies, false_implies, implies_true, and_self]
      exact flt 7 (by decide) rfl
    · have hf : f = 33 := hf
      simp only [hf, Int.reduceEq, Int.reduceNeg, not_true_eq_false, not_false_eq_true, true_and, and_true, false_and, and_false, true_implies, false_implies, implies_true, and_self]
      obtain ⟨-, s1, -, b1⟩ := hA 0 (by decide)
      obtain ⟨-, s3, a3, -⟩ := hA 2 (by decide)
      have k3 : (as 2).kd = 1 := s3
      have e2 := second (by decide) (Or.inl (by decide))
      have e3 : M (o + 36) ((s : Int) + 2).toNat = (as 2).nm := by rw [show ((s : Int) + 2).toNat = s + 2 by omega]; exact (a3 (by decide)).2.2.1 (by omega)
      rw [e2] at gs0 ⊢
      rw [e3]
      have sl : gSl (gWta 47) = 3 := by decide
      exact ⟨⟨by omega, by omega⟩, fun g3 => r_at (d := d + 1) hX gs0 g3 (b1 (by decide)) (gBox_ok (gSuit_r s1 (by decide)).2) hE hn2 ht (fin h)⟩
    · have hf : f = 34 := hf
      simp only [hf, Int.reduceEq, Int.reduceNeg, not_true_eq_false, not_false_eq_true, true_and, and_true, false_and, and_false, true_implies, false_implies, implies_true, and_self]
      obtain ⟨o0, -, a0, -⟩ := hA 0 (by decide)
      obtain ⟨-, s1, -, b1⟩ := hA 1 (by decide)
      have sl : gSl (gWta 48) = 2 := by decide
      refine ⟨fun _ => r_search (d := d) (xs := s) (w := as 0) (a := as 0) (b' := as 0) (c' := as 0) (y := as 0) hX (by decide) (by rw [if_pos (Or.inl rfl)]) hE (b1 (by decide)) (gBox_ok (gSuit_r s1 (by decide)).2) hn2 ht (by omega) (a0 (by decide)) o0 (fun q => absurd q (by decide)) (fun V e34 _ _ _ => fin (by rw [e34 rfl]; exact h)), fun z => absurd (by decide) z⟩
    · have hf : f = 35 := hf
      simp only [hf, Int.reduceEq, Int.reduceNeg, not_true_eq_false, not_false_eq_true, true_and, and_true, false_and, and_false, true_implies, false_implies, implies_true, and_self]
      obtain ⟨o0, -, a0, -⟩ := hA 0 (by decide)
      obtain ⟨-, s1, -, b1⟩ := hA 1 (by decide)
      obtain ⟨o2, s2, a2, -⟩ := hA 2 (by decide)
      have sl : gSl (gWta 49) = 3 := by decide
      refine ⟨fun _ => r_search (d := d) (xs := s) (w := as 0) (a := as 0) (b' := as 0) (c' := as 0) (y := as 2) hX (by decide) (by rw [if_pos (Or.inr rfl)]) hE (b1 (by decide)) (gBox_ok (gSuit_r s1 (by decide)).2) hn2 ht (by omega) (a0 (by decide)) o0 (fun q => ⟨by omega, a2 (by decide), o2, s2⟩) (fun V _ e35 _ _ => fin (by rw [e35 rfl]; exact h)), fun z => absurd (by decide) z⟩
    · have hf : f = 36 := hf
      simp only [hf, Int.reduceEq, Int.reduceNeg, not_true_eq_false, not_false_eq_true, true_and, and_true, false_and, and_false, true_implies, false_implies, implies_true, and_self]
      obtain ⟨o1, -, a1, -⟩ := hA 1 (by decide)
      obtain ⟨-, s0', -, b0'⟩ := hA 0 (by decide)
      have sl : gSl (gWta 50) = 2 := by decide
      refine ⟨fun _ => r_search (d := d) (xs := s + 1) (w := as 1) (a := as 0) (b' := as 0) (c' := as 0) (y := as 0) hX (by decide) (by rw [if_neg (by decide)]) hE (b0' (by decide)) (gBox_ok (gSuit_r s0' (by decide)).2) hn2 ht (by omega) (a1 (by decide)) o1 (fun q => absurd q (by decide)) (fun V _ _ e36 _ => fin (by rw [e36 rfl]; exact h)), fun z => absurd (by decide) z⟩
    · have hf : f = 37 := hf
      simp only [hf, Int.reduceEq, Int.reduceNeg, not_true_eq_false, not_false_eq_true, true_and, and_true, false_and, and_false, true_implies, false_implies, implies_true, and_self]
      obtain ⟨o1, -, a1, -⟩ := hA 1 (by decide)
      obtain ⟨-, s0', -, b0'⟩ := hA 0 (by decide)
      have sl : gSl (gWta 51) = 2 := by decide
      refine ⟨fun _ => r_search (d := d) (xs := s + 1) (w := as 1) (a := as 0) (b' := as 0) (c' := as 0) (y := as 0) hX (by decide) (by rw [if_neg (by decide)]) hE (b0' (by decide)) (gBox_ok (gSuit_r s0' (by decide)).2) hn2 ht (by omega) (a1 (by decide)) o1 (fun q => absurd q (by decide)) (fun V _ _ _ e37 => fin (by rw [e37 rfl]; exact h)), fun z => absurd (by decide) z⟩
  have gz : g64 0 := g64_c (x := 0) rfl
  refine e_GM_function (d := d + 3) (w_GM_function_0 (d := d + 3) hX gf gs gm ⟨fun z => w_GM_function_14 (d := d + 3) hX gf gs gm gz ⟨fun _ => main 0 0 gz gz (fun q => by omega) (fun q => by omega), fun z2 => by omega⟩, fun z => ⟨b0, ?_⟩⟩)
  rw [Int.toNat_natCast]
  refine fun ga => w_GM_function_14 (d := d + 3) hX gf gs gm ga ⟨fun z2 => main _ 0 ga gz (fun _ => rfl) (fun q => by omega), fun z2 => ⟨⟨by omega, by omega⟩, ?_⟩⟩
  rw [show ((s : Int) + 1).toNat = s + 1 by omega]
  exact fun gb => main _ _ ga gb (fun _ => rfl) (fun _ => rfl)
end gcG
