/-! The reference's parser: states, tokens looked at, nodes. -/
/-- what the parser writes: nodes from N on, refs from R on -/
def gPaR (o N R : Nat) : Nat → Nat → Prop := fun x j => (x = o ∧ (j = 9 ∨ j = 17 ∨ j = 25 ∨ j = 26 ∨ j = 27)) ∨ (o + 2 ≤ x ∧ x ≤ o + 6 ∧ N ≤ j) ∨ (o + 10 ≤ x ∧ x ≤ o + 12 ∧ R ≤ j)
/-- the tokens lie there -/
def gPtk (M : gM) (o L : Nat) (S : List Int) (ts : List gTkn) : Prop := gInm M o L S ∧ M o 24 = (ts.length : Int) ∧ ∀ i, i < ts.length → gTkm M o L S i (gTs ts i)
/-- refs so far -/
def gPrf (M : gM) (o F R0 : Nat) (rs : List gRf) : Prop := M o 13 = (F : Int) ∧ M (o + 8) F = (R0 : Int) ∧ F < 4200 ∧ ∀ i, i < rs.length → M (o + 10) (R0 + i) = (rs.getD i (0, 0, 0)).1 ∧ M (o + 11) (R0 + i) = (rs.getD i (0, 0, 0)).2.1 ∧ M (o + 12) (R0 + i) = (rs.getD i (0, 0, 0)).2.2
/-- the counters -/
def gPct (M : gM) (o : Nat) (b : Int) (D a N R : Nat) : Prop := M o 27 = b ∧ M o 26 = (D : Int) ∧ M o 25 = (a : Int) ∧ M o 9 = (N : Int) ∧ M o 17 = (R : Int)
def gPcp (a N R : Nat) : Prop := N ≤ 89800 + a ∧ R ≤ 44800 + a
/-- a good state -/
def gPst (M : gM) (o L : Nat) (S : List Int) (ts : List gTkn) (F R0 D a N : Nat) (rs : List gRf) : Prop := gPtk M o L S ts ∧ gPrf M o F R0 rs ∧ gPct M o 0 D a N (R0 + rs.length) ∧ gPcp a N (R0 + rs.length) ∧ a ≤ ts.length
/-- how far the counters may have come -/
def gPbd (ab Nb Rb a N R : Nat) : Prop := ab ≤ a ∧ Nb ≤ N ∧ N + ab ≤ Nb + a ∧ Rb ≤ R ∧ R + ab ≤ Rb + a
theorem gPbd.rf (a N R : Nat) : gPbd a N R a N R := ⟨Nat.le_refl _, Nat.le_refl _, Nat.le_refl _, Nat.le_refl _, Nat.le_refl _⟩
theorem gPbd.tr {a b c N N1 N2 R R1 R2 : Nat} (h : gPbd a N R b N1 R1) (k : gPbd b N1 R1 c N2 R2) : gPbd a N R c N2 R2 := by
  unfold gPbd at h k ⊢
  omega
theorem gPaR_le {o N R N2 R2 : Nat} (h : N2 ≤ N ∧ R2 ≤ R) : ∀ x j, gPaR o N R x j → gPaR o N2 R2 x j := by
  intro x j q
  unfold gPaR at q ⊢
  omega
/-- a tree in the nodes lo to hi; the next of its own node is free -/
def gxNs (M : gM) (o L B lo hi : Nat) (e : gEx) (n : Int) : Prop := (lo : Int) ≤ n ∧ n < (hi : Int) ∧ ∀ M2 : gM, (∀ i j, 2 ≤ i → i ≤ 6 → lo ≤ j → j < hi → ¬ (i = 5 ∧ j = n.toNat) → M2 (o + i) j = M (o + i) j) → (∀ j, j < B → M2 (o + 1) j = M (o + 1) j) → (gxNd M2 o L e).1 n
section gdAB
variable {M M2 : gM} {o L : Nat} {S : List Int} {ts : List gTkn} {F R0 D a N : Nat} {rs : List gRf} {e : gEx} {n : Int} {lo hi B : Nat}
theorem gxNs.kp (h : gxNs M o L B lo hi e n) (k : ∀ i j, 2 ≤ i → i ≤ 6 → lo ≤ j → j < hi → ¬ (i = 5 ∧ j = n.toNat) → M2 (o + i) j = M (o + i) j) (k1 : ∀ j, M2 (o + 1) j = M (o + 1) j) : gxNs M2 o L B lo hi e n := ⟨h.1, h.2.1, fun M3 q q1 => h.2.2 M3 (fun i j a1 a2 a3 a4 a5 => (q i j a1 a2 a3 a4 a5).trans (k i j a1 a2 a3 a4 a5)) (fun j hj => (q1 j hj).trans (k1 j))⟩
theorem gxNs.kpB (h : gxNs M o L B lo hi e n) (k : ∀ i j, 2 ≤ i → i ≤ 6 → lo ≤ j → j < hi → ¬ (i = 5 ∧ j = n.toNat) → M2 (o + i) j = M (o + i) j) (k1 : ∀ j, j < B → M2 (o + 1) j = M (o + 1) j) : gxNs M2 o L B lo hi e n := ⟨h.1, h.2.1, fun M3 q q1 => h.2.2 M3 (fun i j a1 a2 a3 a4 a5 => (q i j a1 a2 a3 a4 a5).trans (k i j a1 a2 a3 a4 a5)) (fun j hj => (q1 j hj).trans (k1 j hj))⟩
theorem gxNs.wd {lo2 hi2 : Nat} (h : gxNs M o L B lo hi e n) (k : lo2 ≤ lo ∧ hi ≤ hi2) : gxNs M o L B lo2 hi2 e n := ⟨by have := h.1; omega, by have := h.2.1; omega, fun M3 q q1 => h.2.2 M3 (fun i j a1 a2 a3 a4 a5 => q i j a1 a2 (by omega) (by omega) a5) q1⟩
theorem gxNs.nd (h : gxNs M o L B lo hi e n) : (gxNd M o L e).1 n := h.2.2 M (fun _ _ _ _ _ _ _ => rfl) (fun _ _ => rfl)
/-- kept by what is written behind it -/
theorem gxNs.of {R : Nat} (h : gxNs M o L B lo hi e n) (q : gOff (gPaR o hi R) M M2) : gxNs M2 o L B lo hi e n := h.kp (fun i j a1 a2 a3 a4 _ => q _ _ (by unfold gPaR; omega)) (fun j => q _ _ (by unfold gPaR; omega))
theorem gPtk.kp {N R : Nat} (h : gPtk M o L S ts) (q : gOff (gPaR o N R) M M2) : gPtk M2 o L S ts := ⟨h.1.kp (fun j => q _ _ (by unfold gPaR; omega)), (q _ _ (by unfold gPaR; omega)).trans h.2.1, fun i hi => (h.2.2 i hi).kp (fun x h1 h2 => q _ _ (by unfold gPaR; omega))⟩
theorem gPrf.kp (h : gPrf M o F R0 rs) {R : Nat} (q : gOff (gPaR o N R) M M2) (hR : R0 + rs.length ≤ R) : gPrf M2 o F R0 rs := by
  refine ⟨(q _ _ (by unfold gPaR; omega)).trans h.1, (q _ _ (by unfold gPaR; omega)).trans h.2.1, h.2.2.1, fun i hi => ?_⟩
  rw [q (o + 10) (R0 + i) (by unfold gPaR; omega), q (o + 11) (R0 + i) (by unfold gPaR; omega), q (o + 12) (R0 + i) (by unfold gPaR; omega)]
  exact h.2.2.2 i hi
theorem gKm_of {x : Int} (h : 0 ≤ x ∧ x ≤ 23) : (gKm x = 1 ↔ x = 17) ∧ (gKm x = 2 ↔ x = 18) ∧ (gKm x = 3 ↔ x = 19) ∧ (gKm x = 4 ↔ x = 20) ∧ (gKm x = 5 ↔ x = 21) ∧ (gKm x = 6 ↔ x = 22) ∧ (gKm x = 45 ↔ x = 8) ∧ (gKm x = 37 ↔ x = 12) ∧ (gKm x = 40 ↔ x = 13) ∧ (gKm x = 41 ↔ x = 14) ∧ (gKm x = 44 ↔ x = 15) ∧ (gKm x = 58 ↔ x = 16) ∧ g32 (gKm x) ∧ gmLevel (gKm x) = gTg x.toNat ∧ (x < 12 → gKm x = gOpc x.toNat) := by
  obtain ⟨j, e⟩ : ∃ j : Nat, x = (j : Int) := ⟨x.toNat, by omega⟩
  subst e
  have hj : j ≤ 23 := by omega
  have key : ∀ i : Nat, i < 24 → (gKm (i : Int) = 1 ↔ (i : Int) = 17) ∧ (gKm (i : Int) = 2 ↔ (i : Int) = 18) ∧ (gKm (i : Int) = 3 ↔ (i : Int) = 19) ∧ (gKm (i : Int) = 4 ↔ (i : Int) = 20) ∧ (gKm (i : Int) = 5 ↔ (i : Int) = 21) ∧ (gKm (i : Int) = 6 ↔ (i : Int) = 22) ∧ (gKm (i : Int) = 45 ↔ (i : Int) = 8) ∧ (gKm (i : Int) = 37 ↔ (i : Int) = 12) ∧ (gKm (i : Int) = 40 ↔ (i : Int) = 13) ∧ (gKm (i : Int) = 41 ↔ (i : Int) = 14) ∧ (gKm (i : Int) = 44 ↔ (i : Int) = 15) ∧ (gKm (i : Int) = 58 ↔ (i : Int) = 16) ∧ (-2147483648 ≤ gKm (i : Int) ∧ gKm (i : Int) < 2147483648) ∧ gmLevel (gKm (i : Int)) = gTg i ∧ ((i : Int) < 12 → gKm (i : Int) = gOpc i) := by decide +kernel
  obtain ⟨k1, k2, k3, k4, k5, k6, k7, k8, k9, k10, k11, k12, k13, k14, k15⟩ := key j (by omega)
  rw [Int.toNat_natCast]
  exact ⟨k1, k2, k3, k4, k5, k6, k7, k8, k9, k10, k11, k12, ⟨by omega, by omega⟩, k14, k15⟩
theorem gTK_rng (hts : ∀ t ∈ ts, gTkO S t ∧ 1 ≤ t.2.1) (a : Nat) : 0 ≤ gTK ts a ∧ gTK ts a ≤ 23 := by
  by_cases h : a < ts.length
  · have := gTkO_k (hts _ (gTs_mem h)).1
    unfold gTK
    omega
  · unfold gTK
    rw [gTs_o (by omega)]
    decide
theorem gPtk.look (h : gPtk M o L S ts) (ha : M o 25 = (a : Int)) (i : Nat) : gmLook M o (i : Int) = gKm (gTK ts (a + i)) := by
  unfold gmLook
  rw [ha, h.2.1]
  by_cases q : a + i < ts.length
  · rw [if_pos (by omega), show ((a : Int) + (i : Int)).toNat = a + i by omega]
    exact (h.2.2 _ q).1
  · rw [if_neg (by omega)]
    unfold gTK
    rw [gTs_o (by omega)]
    rfl
/-- at one further -/
def gPas1 (o : Nat) : Nat → Nat → Prop := fun x j => x = o ∧ (j = 25 ∨ j = 27)
theorem gPas1_R {N R : Nat} : ∀ x j, gPas1 o x j → gPaR o N R x j := by
  intro x j h
  unfold gPas1 at h
  unfold gPaR
  omega
end gdAB
section gdAC
variable {l : Launch} {G : gG} {d : Nat} {X : gX} {M M2 : gM} {o L : Nat} {S : List Int} {ts : List gTkn} {F R0 D a N : Nat} {rs : List gRf}
theorem r_look {i : Nat} {x : Int} {k : Int → gM → Prop} (hX : gmX X o) (h : gPtk M o L S ts) (hts : ts.length ≤ 100) (ha : M o 25 = (a : Int)) (ha2 : a ≤ 900) (hi : i ≤ 3) (hx : x = (i : Int)) (hk : k (gKm (gTK ts (a + i))) M) : cI l G y_GM_look (gRm d) false [gR G o, gI x] X M k := by
  refine c_GM_look hX (by omega) (by rw [h.2.1]; omega) (by omega) ?_
  rw [hx, h.look ha]
  exact hk
/-- pass where it is good -/
theorem r_pass {k : gM → Prop} (hX : gmX X o) (h : gPtk M o L S ts) (hts : ts.length ≤ 100) (ha : M o 25 = (a : Int)) (hl : a < ts.length) (hD : M o 26 = (D : Int)) (hb : M o 27 = 0) (h1 : D ≤ 20 → k (gUp M o 25 ((a + 1 : Nat) : Int))) (h0 : 20 < D → ∀ M2, gOff (gPas1 o) M M2 → M2 o 27 = 1 → M2 o 25 = ((a + 1 : Nat) : Int) → k M2) : cV l G y_GM_pass (gRm d) true [gR G o] X M k := by
  refine c_GM_pass hX (by omega) ?_
  unfold gmPass
  rw [hD, h.2.1, ha]
  by_cases q : 20 < D
  · rw [if_pos (by omega)]
    refine h0 q _ (((gOff.rf _ _).up (by unfold gPas1; omega)).up (by unfold gPas1; omega)) ?_ ?_
    · rw [gUp_k (by decide), gUp_eq]
    · rw [gUp_eq]; rfl
  · rw [if_neg (by omega)]
    exact h1 (by omega)
/-- pass where all is lost -/
theorem r_passB {k : gM → Prop} (hX : gmX X o) (ha : M o 25 = (a : Int)) (ha2 : a ≤ 900) (hb : M o 27 = 1) (h0 : ∀ M2, gOff (gPas1 o) M M2 → M2 o 27 = 1 → M2 o 25 = ((a + 1 : Nat) : Int) → k M2) : cV l G y_GM_pass (gRm d) true [gR G o] X M k := by
  refine c_GM_pass hX (by omega) ?_
  unfold gmPass
  rw [ha]
  split
  · refine h0 _ (((gOff.rf _ _).up (by unfold gPas1; omega)).up (by unfold gPas1; omega)) ?_ ?_
    · rw [gUp_k (by decide), gUp_eq]
    · rw [gUp_eq]; rfl
  · refine h0 _ ((gOff.rf _ _).up (by unfold gPas1; omega)) ?_ ?_
    · rw [gUp_k (by decide)]; exact hb
    · rw [gUp_eq]; rfl
theorem gmPass_b {b : Int} (h : b = 1 ∨ 20 < M o 26 ∨ M o 24 ≤ M o 25) (hb : M o 27 = b) (ha : M o 25 = (a : Int)) : gOff (gPas1 o) M (gmPass M o) ∧ gmPass M o o 27 = 1 ∧ gmPass M o o 25 = ((a + 1 : Nat) : Int) := by
  unfold gmPass
  rw [ha]
  split
  · refine ⟨((gOff.rf _ _).up (by unfold gPas1; omega)).up (by unfold gPas1; omega), ?_, ?_⟩
    · rw [gUp_k (by decide), gUp_eq]
    · rw [gUp_eq]; rfl
  · rename_i q
    refine ⟨(gOff.rf _ _).up (by unfold gPas1; omega), ?_, ?_⟩
    · rw [gUp_k (by decide), hb]
      rcases h with y | y | y
      · exact y
      · exact absurd (Or.inl y) q
      · rw [ha] at y; exact absurd (Or.inr y) q
    · rw [gUp_eq]; rfl
/-- a token that must stand there -/
theorem r_need {x y : Int} {k : gM → Prop} (hX : gmX X o) (h : gPtk M o L S ts) (hts : ts.length ≤ 100) (hto : ∀ t ∈ ts, gTkO S t ∧ 1 ≤ t.2.1) (ha : M o 25 = (a : Int)) (ha2 : a ≤ 900) (hD : M o 26 = (D : Int)) (hb : M o 27 = 0) (hx : g32 x) (hy : gKm (gTK ts a) = x ↔ gTK ts a = y) (hy2 : y ≠ 23) (h1 : gTK ts a = y → D ≤ 20 → k (gUp M o 25 ((a + 1 : Nat) : Int))) (h0 : gTK ts a ≠ y ∨ 20 < D → ∀ M2, gOff (gPas1 o) M M2 → M2 o 27 = 1 → M2 o 25 = ((a + 1 : Nat) : Int) → k M2) : cV l G y_GM_need (gRm (d + 1)) true [gR G o, gI x] X M k := by
  refine c_GM_need hX (by omega) (by rw [h.2.1]; omega) hx ?_
  unfold gmNeed
  rw [show (0 : Int) = ((0 : Nat) : Int) from rfl, h.look ha, Nat.add_zero]
  by_cases q : gTK ts a = y
  · rw [if_pos (hy.mpr q)]
    by_cases q2 : D ≤ 20
    · have l1 := gTK_lt (ts := ts) (a := a) (by rw [q]; exact hy2)
      have e : gmPass M o = gUp M o 25 ((a + 1 : Nat) : Int) := by
        unfold gmPass
        rw [if_neg (by rw [hD, h.2.1, ha]; omega), ha]
        rfl
      rw [e]
      exact h1 q q2
    · obtain ⟨e1, e2, e3⟩ := gmPass_b (M := M) (o := o) (b := 0) (a := a) (Or.inr (Or.inl (by omega))) hb ha
      exact h0 (Or.inr (by omega)) _ e1 e2 e3
  · rw [if_neg (fun y => q (hy.mp y))]
    obtain ⟨e1, e2, e3⟩ := gmPass_b (M := gUp M o 27 1) (o := o) (b := 1) (a := a) (Or.inl rfl) (gUp_eq _ _ _ _) (by rw [gUp_k (by decide)]; exact ha)
    exact h0 (Or.inl q) _ (((gOff.rf _ _).up (by unfold gPas1; omega)).tr e1) e2 e3
/-- the same where all is lost -/
theorem r_needB {x : Int} {k : gM → Prop} (hX : gmX X o) (hm : M o 24 ≤ 100) (ha : M o 25 = (a : Int)) (ha2 : a ≤ 900) (hb : M o 27 = 1) (hx : g32 x) (h0 : ∀ M2, gOff (gPas1 o) M M2 → M2 o 27 = 1 → M2 o 25 = ((a + 1 : Nat) : Int) → k M2) : cV l G y_GM_need (gRm (d + 1)) true [gR G o, gI x] X M k := by
  refine c_GM_need hX (by omega) hm hx ?_
  unfold gmNeed
  split
  · obtain ⟨e1, e2, e3⟩ := gmPass_b (M := M) (o := o) (b := 1) (a := a) (Or.inl rfl) hb ha
    exact h0 _ e1 e2 e3
  · obtain ⟨e1, e2, e3⟩ := gmPass_b (M := gUp M o 27 1) (o := o) (b := 1) (a := a) (Or.inl rfl) (gUp_eq _ _ _ _) (by rw [gUp_k (by decide)]; exact ha)
    exact h0 _ (((gOff.rf _ _).up (by unfold gPas1; omega)).tr e1) e2 e3
/-- a node -/
theorem r_node {s x y v : Int} {k : Int → gM → Prop} (hX : gmX X o) (hN : M o 9 = (N : Int)) (hN2 : N < 90000) (hs : g32 s) (hx : g32 x) (hy : g32 y) (hv : g64 v) (h : ∀ M2, (∀ R, gOff (gPaR o N R) M M2) → M2 o 9 = ((N + 1 : Nat) : Int) → (∀ j, j ≠ 9 → M2 o j = M o j) → M2 (o + 2) N = s → M2 (o + 3) N = x → M2 (o + 4) N = y → M2 (o + 6) N = v → k (N : Int) M2) : cI l G y_GM_node (gRm d) true [gR G o, gI s, gI x, gI y, gL v] X M k := by
  refine c_GM_node hX (by omega) hs hx hy hv ?_
  rw [hN]
  refine h _ (fun R => ?_) ?_ (fun j hj => ?_) ?_ ?_ ?_ ?_
  · unfold gmNode
    rw [hN, Int.toNat_natCast]
    refine ((((((gOff.rf _ M).up ?_).up ?_).up ?_).up ?_).up ?_).up ?_ <;> unfold gPaR <;> omega
  · unfold gmNode
    rw [gUp_eq, hN]
    rfl
  · unfold gmNode
    rw [gUp_k hj, gUp_a (by omega), gUp_a (by omega), gUp_a (by omega), gUp_a (by omega), gUp_a (by omega)]
  · unfold gmNode
    rw [hN, Int.toNat_natCast, gUp_a (by omega), gUp_a (by omega), gUp_a (by omega), gUp_a (by omega), gUp_a (by omega), gUp_eq]
  · unfold gmNode
    rw [hN, Int.toNat_natCast, gUp_a (by omega), gUp_a (by omega), gUp_a (by omega), gUp_a (by omega), gUp_eq]
  · unfold gmNode
    rw [hN, Int.toNat_natCast, gUp_a (by omega), gUp_a (by omega), gUp_a (by omega), gUp_eq]
  · unfold gmNode
    rw [hN, Int.toNat_natCast, gUp_a (by omega), gUp_a (by omega), gUp_eq]
end gdAC
