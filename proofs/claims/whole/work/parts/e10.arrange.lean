/-! The class's Order: arrange. -/
/-- entry i of the state at r1: its targets are s to e, its refs in the tables begin at rf -/
def gStE (M : gM) (c r1 i s e rf : Nat) : Prop := M (r1 + 3) i = (s : Int) ∧ M (r1 + 3) (i + 1) = (e : Int) ∧ s ≤ e ∧ e ≤ 20000 ∧ 0 ≤ M (r1 + 2) i ∧ M (r1 + 2) i < 513 ∧ M (c + 6) (M (r1 + 2) i).toNat = (rf : Int) ∧ rf + (e - s) ≤ 10480 ∧ ∀ k, s ≤ k → k < e → (M (r1 + 4) k = -1 ∨ 0 ≤ M (r1 + 4) k ∧ M (r1 + 4) k < 5200) ∧ (gAnd (M (c + 12) (rf + (k - s))) 4 ≠ 0 → M (r1 + 4) k ≠ -1 → k + 1 < e ∧ M (r1 + 4) (k + 1) ≠ -1)
/-- its target k, ref j of the tables, covers the place q -/
def gCvK (M : gM) (c r1 k j q : Nat) : Prop := M (r1 + 4) k ≠ -1 ∧ ((gAnd (M (c + 12) j) 4 = 0 ∧ M (r1 + 4) k = (q : Int)) ∨ (gAnd (M (c + 12) j) 4 ≠ 0 ∧ gInB q (M (r1 + 4) k) (M (r1 + 4) (k + 1))))
def gMcv (M : gM) (c r1 i q : Nat) : Prop := ∃ s e rf k, gStE M c r1 i s e rf ∧ s ≤ k ∧ k < e ∧ gCvK M c r1 k (rf + (k - s)) q
theorem gStE.uq {M : gM} {c r1 i s e rf s2 e2 rf2 : Nat} (h : gStE M c r1 i s e rf) (k : gStE M c r1 i s2 e2 rf2) : s = s2 ∧ e = e2 ∧ rf = rf2 := by
  obtain ⟨a1, a2, _, _, _, _, a3, _⟩ := h
  obtain ⟨b1, b2, _, _, _, _, b3, _⟩ := k
  rw [a1] at b1
  rw [a2] at b2
  rw [a3] at b3
  omega
section geK
variable {l : Launch} {G : gG} {d : Nat} {X : gX} {M M2 : gM} {c r1 r2 i n : Nat} {Z : Nat → Prop}
theorem gs_ne (hX : glX X c) (hs : gsX X r1) {j : Nat} (hj : j ≤ 4) : r1 + j ≠ c + 1048 := by
  have e := gl_s hX 28 (a := 1048) (t := 1) (n := 2800) rfl
  intro h
  rw [← h] at e
  have k : ∀ i, i < 4 → X.2.1 (r1 + (i + 1)) = (0, ([400, 400, 401, 20000] : List Nat).getD i 0) := by
    intro i hi
    match i, hi with
    | 0, _ => exact (gs_r hs 0 (j := 1) rfl).2.1
    | 1, _ => exact (gs_r hs 1 (j := 2) rfl).2.1
    | 2, _ => exact (gs_r hs 2 (j := 3) rfl).2.1
    | 3, _ => exact (gs_r hs 3 (j := 4) rfl).2.1
  cases j with
  | zero =>
    have z := hs.2.2.1
    rw [Nat.add_zero, z] at e
    have := congrArg Prod.fst e
    exact absurd this (by decide)
  | succ j =>
    have z := k j (by omega)
    rw [z] at e
    have this : (0 : Nat) = 1 := congrArg Prod.fst e
    exact absurd this (by decide)
theorem c_Or_markReads {s e rf : Nat} {k : gM → Prop} (hX : glX X c) (hs : gsX X r1) (hi : i < 400) (hr2 : 1 ≤ r2 ∧ r2 ≤ X.1 ∧ X.2.1 r2 = (0, 5200)) (hr : r2 ≠ c + 1048) (hat : ∀ p, p < 5200 → 0 ≤ M r2 p ∧ M r2 p ≤ 400) (hE : gStE M c r1 i s e rf) (h : gBits M M2 c r2 i Z) (hk : ∀ M3, gBits M M3 c r2 i (fun q => Z q ∨ gMcv M c r1 i q) → k M3) : cV l G y_Or_markReads (gRm (d + 2)) true [gR G (c + 1047), gR G r1, gR G r2, gI (i : Int)] X M2 k := by
  have hr3 : 1 ≤ r2 ∧ r2 ≤ X.1 ∧ X.2.1 r2 = (0, 5200) ∧ 5200 ≤ 2147483647 := ⟨hr2.1, hr2.2.1, hr2.2.2, by decide⟩
  have n2 := gs_ne hX hs (j := 2) (by decide)
  have n3 := gs_ne hX hs (j := 3) (by decide)
  have n4 := gs_ne hX hs (j := 4) (by decide)
  obtain ⟨e1, e2, e3, e4, e5, e6, e7, e8, e9⟩ := id hE
  have hk : ∀ M3, gBits M M3 c r2 i (fun q => Z q ∨ ∃ k, s ≤ k ∧ k < e ∧ gCvK M c r1 k (rf + (k - s)) q) → k M3 := fun M3 h3 => hk M3 (h3.iff (fun q => ⟨fun z => z.imp id (fun ⟨k, k1, k2, k3⟩ => ⟨s, e, rf, k, hE, k1, k2, k3⟩), fun z => z.imp id (fun ⟨s2, e2, rf2, k, a1, k1, k2, k3⟩ => by
    obtain ⟨u1, u2, u3⟩ := a1.uq hE
    subst u1; subst u2; subst u3
    exact ⟨k, k1, k2, k3⟩)⟩))
  have key : ∀ (m x : Nat) (M3 : gM), x + m = e → s ≤ x → gBits M M3 c r2 i (fun q => Z q ∨ ∃ k, s ≤ k ∧ k < x ∧ gCvK M c r1 k (rf + (k - s)) q) → wp l G y_Or_markReads (gRm (d + 2)) true (kkV X k) true 31 [.val (gR G (c + 1047)), .val (gR G r1), .val (gR G r2), .val (gI (i : Int)), .val (gI ((rf : Int) - (s : Int))), .val (gI (x : Int)), .unset] [] X M3 0 0 := by
    intro m
    induction m with
    | zero =>
      intro x M3 hx hsx h3
      have v3 : M3 (r1 + 3) (i + 1) = (e : Int) := (h3.1 _ _ (by unfold gRdR2; exact n3)).trans e2
      refine w_Or_markReads_31 hX ⟨by omega, by omega⟩ ⟨by omega, by omega⟩ ⟨by omega, by omega⟩ hs hr3 ⟨⟨by omega, by omega⟩, fun _ => ?_⟩
      rw [show ((i : Int) + 1).toNat = i + 1 by omega, v3]
      exact ⟨fun _ => hk M3 (by rw [show e = x by omega]; exact h3), fun z => absurd (by omega) z⟩
    | succ m ih =>
      intro x M3 hx hsx h3
      have v3 : M3 (r1 + 3) (i + 1) = (e : Int) := (h3.1 _ _ (by unfold gRdR2; exact n3)).trans e2
      have v4 : ∀ j, M3 (r1 + 4) j = M (r1 + 4) j := fun j => h3.1 _ _ (by unfold gRdR2; exact n4)
      have v12 : ∀ j, M3 (c + 12) j = M (c + 12) j := fun j => h3.1 _ _ (by unfold gRdR2; omega)
      obtain ⟨t1, t2⟩ := e9 x hsx (by omega)
      -- what the next index adds
      have add : ∀ (M4 : gM) (Y : Nat → Prop), (∀ q, Y q ↔ gCvK M c r1 x (rf + (x - s)) q) → gBits M M4 c r2 i (fun q => (Z q ∨ ∃ k, s ≤ k ∧ k < x ∧ gCvK M c r1 k (rf + (k - s)) q) ∨ Y q) → wp l G y_Or_markReads (gRm (d + 2)) true (kkV X k) true 31 [.val (gR G (c + 1047)), .val (gR G r1), .val (gR G r2), .val (gI (i : Int)), .val (gI ((rf : Int) - (s : Int))), .val (gI ((x + 1 : Nat) : Int)), .unset] [] X M4 0 0 := by
        intro M4 Y hY h4
        refine ih (x + 1) M4 (by omega) (by omega) (h4.iff (fun q => ?_))
        rw [hY q]
        constructor
        · rintro ((z | ⟨k, k1, k2, k3⟩) | z)
          · exact Or.inl z
          · exact Or.inr ⟨k, k1, by omega, k3⟩
          · exact Or.inr ⟨x, hsx, by omega, z⟩
        · rintro (z | ⟨k, k1, k2, k3⟩)
          · exact Or.inl (Or.inl z)
          · by_cases u : k = x
            · rw [u] at k3; exact Or.inr k3
            · exact Or.inl (Or.inr ⟨k, k1, by omega, k3⟩)
      refine w_Or_markReads_31 hX ⟨by omega, by omega⟩ ⟨by omega, by omega⟩ ⟨by omega, by omega⟩ hs hr3 ⟨⟨by omega, by omega⟩, fun _ => ?_⟩
      rw [show ((i : Int) + 1).toNat = i + 1 by omega, v3, Int.toNat_natCast, v4, w32_id (x := (x : Int) + 1) ⟨by omega, by omega⟩, show ((rf : Int) - (s : Int) + (x : Int)).toNat = rf + (x - s) by omega, v12, show ((x : Int) + 1).toNat = x + 1 by omega, v4, show (x : Int) + 1 = ((x + 1 : Nat) : Int) by omega]
      refine ⟨fun z => absurd z (by omega), fun _ => ⟨⟨by omega, by omega⟩, fun _ => ⟨fun z => ⟨fun _ => add M3 (fun _ => False) (fun q => ⟨fun y => y.elim, fun y => absurd z y.1⟩) (h3.iff (fun q => ⟨fun y => Or.inl y, fun y => y.elim id (fun y => y.elim)⟩)), fun y => absurd z y⟩, fun z => ⟨⟨by omega, by omega⟩, fun _ => ⟨fun z2 => ⟨fun y => absurd y z, fun _ => ?_⟩, fun z2 => ⟨⟨by omega, by omega⟩, fun _ => ?_⟩⟩⟩⟩⟩⟩
      · have t3 : 0 ≤ M (r1 + 4) x ∧ M (r1 + 4) x < 5200 := t1.resolve_left z
        refine ⟨⟨by omega, by omega⟩, fun _ => h3.mark hX hi hr (hat (M (r1 + 4) x).toNat (by omega)) rfl (fun M4 h4 => add M4 (fun q => q = (M (r1 + 4) x).toNat) (fun q => ?_) h4)⟩
        constructor
        · intro y
          exact ⟨z, Or.inl ⟨z2, by omega⟩⟩
        · rintro ⟨_, y | y⟩
          · have := y.2
            omega
          · exact absurd z2 y.1
      · have t3 : 0 ≤ M (r1 + 4) x ∧ M (r1 + 4) x < 5200 := t1.resolve_left z
        obtain ⟨t4, t5⟩ := t2 z2 z
        have t6 := ((e9 (x + 1) (by omega) t4).1).resolve_left t5
        refine c_Or_markRange (d := d) hX hi hr2 hr hat t3 t6 h3 (fun M4 h4 => add M4 (fun q => gInB q (M (r1 + 4) x) (M (r1 + 4) (x + 1))) (fun q => ?_) h4)
        constructor
        · intro y
          exact ⟨z, Or.inr ⟨z2, y⟩⟩
        · rintro ⟨_, y | y⟩
          · exact absurd y.1 z2
          · exact y.2
  have w2 : M2 (r1 + 2) i = M (r1 + 2) i := h.1 _ _ (by unfold gRdR2; exact n2)
  have w3 : M2 (r1 + 3) i = (s : Int) := (h.1 _ _ (by unfold gRdR2; exact n3)).trans e1
  have w6 : M2 (c + 6) (M (r1 + 2) i).toNat = (rf : Int) := (h.1 _ _ (by unfold gRdR2; omega)).trans e7
  refine e_Or_markReads (w_Or_markReads_0 hX hs hr3 ⟨by omega, by omega⟩ ⟨⟨by omega, by omega⟩, fun _ => ?_⟩)
  rw [Int.toNat_natCast, w2, w3, w6, w32_id (x := (rf : Int) - (s : Int)) ⟨by omega, by omega⟩]
  refine ⟨⟨by omega, by omega⟩, fun _ => ⟨⟨by omega, by omega⟩, fun _ => ⟨⟨by omega, by omega⟩, fun _ => key (e - s) s M2 (by omega) (Nat.le_refl _) (h.iff (fun q => ⟨fun z => Or.inl z, fun z => z.elim id (fun ⟨k, k1, k2, _⟩ => by omega)⟩))⟩⟩⟩
/-- entry i reads entry j -/
def gRel (M : gM) (c r1 r2 n i j : Nat) : Prop := i < n ∧ j < 400 ∧ ∃ q, gMcv M c r1 i q ∧ M r2 q = (j : Int)
theorem c_Or_search {k : gM → Prop} {r : Nat → Nat → Prop} {x ss mt : Nat} (hX : glX X c) (hn : n ≤ 400) (hrn : ∀ i j, r i j → j < n) (hr : ∀ i j, i < n → j < 448 → (gRdB M c i j ↔ r i j)) (h : gOI M c n r 0 0 ss mt) (hx : x < n) (h0 : gArn M (c + 1051) n x = 0) (hk : ∀ M2 ss mt, gOff (gOrR c) M M2 → gOI M2 c n r 0 0 ss mt → (∀ e, gArn M (c + 1051) n e ≠ 0 ∨ e = x → gArn M2 (c + 1051) n e ≠ 0) → k M2) : cV l G y_Or_search (gRm (d + 3)) true [gR G (c + 1047), gI (x : Int)] X M k := by
  have cnt := gCnt_lt (met := gArn M (c + 1051) n) hx h0
  have hc := h.2.2.2.2.2.2.1
  have h3 := gOI_root h hn hx h0
  have o3 : gOff (gOrR c) M (gMtM (gUp M (c + 1055) 0 (x : Int)) c x 0 mt) := by
    unfold gMtM
    refine ((((((((gOff.rf _ M).up ?_).up ?_).up ?_).up ?_).up ?_).up ?_).up ?_).up ?_ <;> unfold gOrR <;> omega
  have e51 : gArn (gMtM (gUp M (c + 1055) 0 (x : Int)) c x 0 mt) (c + 1051) n = gUf (gArn M (c + 1051) n) x (mt + 1) := by
    unfold gMtM
    rw [gArn_ne (by omega), gArn_ne (by omega), gArn_ne (by omega), gArn_ne (by omega), gArn_ne (by omega), gArn_up hx, gArn_ne (by omega), gArn_ne (by omega)]
  refine e_Or_search (w_Or_search_0 hX ⟨by omega, by omega⟩ ⟨⟨by decide, by decide⟩, c_Or_meet hX (by omega) (by rw [gUp_a (by omega)]; exact h.1.1) (by omega) (by rw [gUp_a (by omega)]; exact h.1.2.1) (by decide) ?_⟩)
  refine c_Or_search17 (dd := d) (M0 := gMtM (gUp M (c + 1055) 0 (x : Int)) c x 0 mt) hX hn hrn (fun i j hi hj => ?_) (fun M2 ss2 mt2 o2 h2 hm => hk M2 ss2 mt2 (o3.tr o2) h2 (fun e he => hm e ?_)) 160800 _ 1 1 ss (mt + 1) h3 (gOff.rf _ _) (Nat.le_refl _) ?_ (fun e he => he)
  · unfold gRdB
    rw [o3 _ _ (by unfold gOrR; omega)]
    exact hr i j hi hj
  · rw [e51]
    unfold gUf
    split
    · omega
    · exact he.resolve_right (by assumption)
  · refine Nat.le_trans (gSu_le (g := fun _ => 401) n (fun e _ => ?_)) ?_
    · unfold gPhi
      split
      · exact Nat.le_refl _
      · split
        · omega
        · omega
    · rw [gSu_c]
      omega
def gArR (c : Nat) : Nat → Nat → Prop := fun x j => gOrR c x j ∨ x = c + 1048
theorem c_Or_arrange {k : gM → Prop} (hX : glX X c) (hs : gsX X r1) (hr2 : 1 ≤ r2 ∧ r2 ≤ X.1 ∧ X.2.1 r2 = (0, 5200)) (hr : ∀ a, 1047 ≤ a → a ≤ 1056 → r2 ≠ c + a ∧ ∀ j, j ≤ 4 → r1 + j ≠ c + a) (hn : M r1 0 = (n : Int)) (hn2 : n ≤ 400) (hat : ∀ p, p < 5200 → 0 ≤ M r2 p ∧ M r2 p ≤ 400) (hE : ∀ i, i < n → ∃ s e rf, gStE M c r1 i s e rf) (hrn : ∀ i j, gRel M c r1 r2 n i j → j < n) (hz : gOz M c) (hw0 : M (c + 1047) 11 = 0) (hw1 : ∀ e, e < 400 → M (c + 1054) e = 0)
    (hk : ∀ M2, gOff (gArR c) M M2 → gOI M2 c n (gRel M c r1 r2 n) 0 0 n n → k M2) : cV l G y_Or_arrange (gRm (d + 4)) true [gR G (c + 1047), gR G r1, gR G r2] X M k := by
  have hr3 : 1 ≤ r2 ∧ r2 ≤ X.1 ∧ X.2.1 r2 = (0, 5200) ∧ 5200 ≤ 2147483647 := ⟨hr2.1, hr2.2.1, hr2.2.2, by decide⟩
  have nr : ∀ M2, gOff (gArR c) M M2 → M2 r1 0 = (n : Int) := fun M2 o => (o _ _ (by
    unfold gArR gOrR
    intro y
    have z := (hr (r1 - c) (by omega) (by omega)).2 0 (by decide)
    omega)).trans hn
  have sep : ∀ M2, gOff (gArR c) M M2 → ∀ x, (x = r2 ∨ (∃ j, j ≤ 4 ∧ x = r1 + j) ∨ x = c + 6 ∨ x = c + 12) → ∀ j, M2 x j = M x j := fun M2 o x hx j => o _ _ (by
    unfold gArR gOrR
    intro y
    rcases hx with z | ⟨i, i1, i2⟩ | z | z
    · have := (hr (x - c) (by omega) (by omega)).1
      omega
    · have := (hr (x - c) (by omega) (by omega)).2 i i1
      omega
    · omega
    · omega)
  -- the searches
  have l68 : ∀ (m x : Nat) (M3 : gM) (ss mt : Nat), x + m = n → gOff (gArR c) M M3 → gOI M3 c n (gRel M c r1 r2 n) 0 0 ss mt → (∀ i j, i < n → j < 448 → (gRdB M3 c i j ↔ gRel M c r1 r2 n i j)) → (∀ e, e < x → gArn M3 (c + 1051) n e ≠ 0) → wp l G y_Or_arrange (gRm (d + 3 + 1)) true (kkV X k) true 68 [.val (gR G (c + 1047)), .val (gR G r1), .unset, .val (gI (x : Int))] [] X M3 0 0 := by
    intro m
    induction m with
    | zero =>
      intro x M3 ss mt hx o3 h3 hb hm
      refine w_Or_arrange_68 hX ⟨by omega, by omega⟩ hs fun _ => ?_
      rw [nr M3 o3]
      refine ⟨fun _ => ?_, fun z => absurd (by omega) z⟩
      have hc := h3.2.2.2.2.2.2.1
      have all : gSu (gCnt (gArn M3 (c + 1051) n)) n = n := by
        have h1 := gCnt_le (gArn M3 (c + 1051) n) n
        have h2 := gSu_le (f := fun _ => 1) (g := gCnt (gArn M3 (c + 1051) n)) n (fun e he => by unfold gCnt; rw [if_neg (hm e (by omega))]; exact Nat.le_refl _)
        rw [gSu_c] at h2
        omega
      have e1 : mt = n := by omega
      have e2 : ss = n := by omega
      rw [e1, e2] at h3
      exact hk M3 o3 h3
    | succ m ih =>
      intro x M3 ss mt hx o3 h3 hb hm
      refine w_Or_arrange_68 hX ⟨by omega, by omega⟩ hs fun _ => ?_
      rw [nr M3 o3, Int.toNat_natCast, w32_id (x := (x : Int) + 1) ⟨by omega, by omega⟩, show (x : Int) + 1 = ((x + 1 : Nat) : Int) by omega]
      have v : M3 (c + 1051) x = (gArn M3 (c + 1051) n x : Int) := by
        have := h3.2.2.2.2.2.1.v (a := 1051) (k := x) (by omega) (by omega)
        rw [this]
        unfold gArn
        rw [if_pos (by omega)]
        rfl
      refine ⟨fun z => absurd z (by omega), fun _ => ⟨⟨by omega, by omega⟩, fun _ => ⟨fun z => ih (x + 1) M3 ss mt (by omega) o3 h3 hb (fun e he => ?_), fun z => ?_⟩⟩⟩
      · by_cases q : e = x
        · rw [q]; omega
        · exact hm e (by omega)
      · refine c_Or_search (d := d) hX hn2 hrn hb h3 (by omega) (by omega) (fun M4 ss4 mt4 o4 h4 hm4 => ih (x + 1) M4 ss4 mt4 (by omega) (o3.tr (o4.mono (fun x j h => Or.inl h))) h4 (fun i j hi hj => ?_) (fun e he => hm4 e ?_))
        · unfold gRdB
          rw [o4 _ _ (by unfold gOrR; omega)]
          exact hb i j hi hj
        · by_cases q : e = x
          · exact Or.inr q
          · exact Or.inl (hm e (by omega))
  -- the reads
  have l28 : ∀ (m x : Nat) (M3 : gM), x + m = n → gOff (gArR c) M M3 → (∀ i j, i < n → j < 448 → (gRdB M3 c i j ↔ i < x ∧ gRel M c r1 r2 n i j)) → (∀ e, e < x → M3 (c + 1051) e = 0) → (∀ a j, 1049 ≤ a → a ≤ 1056 → a ≠ 1051 → M3 (c + a) j = M (c + a) j) → (∀ e, x ≤ e → M3 (c + 1051) e = M (c + 1051) e) → (∀ j, M3 (c + 1047) j = M (c + 1047) j) → wp l G y_Or_arrange (gRm (d + 3 + 1)) true (kkV X k) true 28 [.val (gR G (c + 1047)), .val (gR G r1), .val (gR G r2), .val (gI (x : Int))] [] X M3 0 0 := by
    intro m
    induction m with
    | zero =>
      intro x M3 hx o3 hb hm hs3 hm2 hf
      refine w_Or_arrange_28 hX ⟨by omega, by omega⟩ hs hr3 fun _ => ?_
      rw [nr M3 o3]
      refine ⟨fun _ => ?_, fun z => absurd (by omega) z⟩
      have o4 : gOff (gArR c) M (gUp (gUp M3 (c + 1047) 10 0) (c + 1047) 12 0) := (o3.up (by unfold gArR gOrR; omega)).up (by unfold gArR gOrR; omega)
      have f4 : ∀ a j, 1048 ≤ a → gUp (gUp M3 (c + 1047) 10 0) (c + 1047) 12 0 (c + a) j = M3 (c + a) j := fun a j ha => by rw [gUp_a (by omega), gUp_a (by omega)]
      have g10 : gUp (gUp M3 (c + 1047) 10 0) (c + 1047) 12 0 (c + 1047) 10 = 0 := by rw [gUp_k (by decide), gUp_eq]
      have g11 : gUp (gUp M3 (c + 1047) 10 0) (c + 1047) 12 0 (c + 1047) 11 = 0 := by rw [gUp_k (by decide), gUp_k (by decide), hf]; exact hw0
      have g12 : gUp (gUp M3 (c + 1047) 10 0) (c + 1047) 12 0 (c + 1047) 12 = 0 := gUp_eq _ _ _ _
      generalize gUp (gUp M3 (c + 1047) 10 0) (c + 1047) 12 0 = M4 at o4 f4 g10 g11 g12 ⊢
      have met0 : gArn M4 (c + 1051) n = fun _ => 0 := by
        funext e
        unfold gArn
        split
        · rw [f4 _ _ (by decide), hm e (by omega)]; rfl
        · rfl
      refine l68 n 0 M4 0 0 (by omega) o4 ?_ (fun i j hi hj => ?_) (fun e he => absurd he (Nat.not_lt_zero _))
      · unfold gOI
        rw [met0]
        refine ⟨⟨g10, g11, g12⟩, ⟨fun k hk => by omega, fun j k hj hk => by omega, fun e => Nat.le_refl _, fun e he => ⟨fun y => absurd rfl y, fun y => ?_⟩, fun e he => ?_, fun k hk => by omega, fun j k hj => by omega⟩, ⟨fun i hi => by omega, fun i hi => by omega, fun i hi => by omega, fun i hi => by omega, fun i hi => by omega, fun i hi => by omega, fun w hw => ?_⟩, ⟨fun e x he => ?_, fun k hk => by omega, fun e he => ?_⟩, fun e he => ?_, ⟨fun a ha k hk => ?_, fun k hk => ?_⟩, ⟨rfl, ?_⟩, fun i hi => by omega⟩
        · rcases y with ⟨k, hk, _⟩ | ⟨k, hk, _⟩ <;> omega
        · obtain ⟨k, hk, _⟩ := he; omega
        · obtain ⟨k, hk, _⟩ := hw; omega
        · obtain ⟨k, hk, _⟩ := he; omega
        · obtain ⟨k, hk, _⟩ := he; omega
        · rw [f4 _ _ (by decide), hs3 1054 e (by decide) (by decide) (by decide), hw1 e he]
          exact ⟨fun y => absurd y (by decide), fun ⟨k, hk, _⟩ => by omega⟩
        · rw [f4 _ _ (by omega)]
          by_cases q : a = 1051
          · rw [q]
            by_cases q2 : k < x
            · rw [hm k q2]; exact Int.le_refl _
            · rw [hm2 k (by omega)]; exact hz.1 1051 (by omega) k hk
          · rw [hs3 a k (by omega) (by omega) q]
            exact hz.1 a ha k hk
        · rw [f4 _ _ (by decide), hs3 1054 k (by decide) (by decide) (by decide)]
          exact hz.2 k hk
        · have := gSu_le (f := gCnt (fun _ => 0)) (g := fun _ => 0) n (fun e _ => by unfold gCnt; rw [if_pos rfl]; exact Nat.le_refl _)
          rw [gSu_c] at this
          omega
      · unfold gRdB
        rw [f4 _ _ (by decide)]
        have := hb i j hi hj
        unfold gRdB at this
        rw [this]
        exact ⟨fun y => y.2, fun y => ⟨by omega, y⟩⟩
    | succ m ih =>
      intro x M3 hx o3 hb hm hs3 hm2 hf
      refine w_Or_arrange_28 hX ⟨by omega, by omega⟩ hs hr3 fun _ => ?_
      rw [nr M3 o3, Int.toNat_natCast, w32_id (x := (x : Int) + 1) ⟨by omega, by omega⟩, show (x : Int) + 1 = ((x + 1 : Nat) : Int) by omega]
      obtain ⟨s, e, rf, hSE⟩ := hE x (by omega)
      have sp := sep M3 o3
      have q2 : ∀ j, M3 (r1 + 2) j = M (r1 + 2) j := sp _ (Or.inr (Or.inl ⟨2, by decide, rfl⟩))
      have q3 : ∀ j, M3 (r1 + 3) j = M (r1 + 3) j := sp _ (Or.inr (Or.inl ⟨3, by decide, rfl⟩))
      have q4 : ∀ j, M3 (r1 + 4) j = M (r1 + 4) j := sp _ (Or.inr (Or.inl ⟨4, by decide, rfl⟩))
      have q6 : ∀ j, M3 (c + 6) j = M (c + 6) j := sp _ (Or.inr (Or.inr (Or.inl rfl)))
      have q12 : ∀ j, M3 (c + 12) j = M (c + 12) j := sp _ (Or.inr (Or.inr (Or.inr rfl)))
      have qr : ∀ j, M3 r2 j = M r2 j := sp _ (Or.inl rfl)
      have eqE : ∀ s e rf, gStE M3 c r1 x s e rf ↔ gStE M c r1 x s e rf := fun s e rf => by
        unfold gStE
        simp only [q2, q3, q4, q6, q12]
      have eqC : ∀ q, gMcv M3 c r1 x q ↔ gMcv M c r1 x q := fun q => by
        unfold gMcv gCvK
        simp only [eqE, q4, q12]
      refine ⟨fun z => absurd z (by omega), fun _ => c_Or_markReads (d := d + 1) (Z := fun _ => False) hX hs (by omega) hr2 (hr 1048 (by decide) (by decide)).1 (fun p hp => by rw [qr]; exact hat p hp) ((eqE s e rf).mpr hSE) gBits.rf (fun M4 h4 => ⟨⟨by omega, by omega⟩, ?_⟩)⟩
      have o4 : ∀ a j, a ≠ c + 1048 → M4 a j = M3 a j := fun a j ha => h4.1 _ _ (by unfold gRdR2; exact ha)
      refine ih (x + 1) _ (by omega) ((o3.tr (h4.1.mono (fun a j h => Or.inr h))).up (by unfold gArR gOrR; omega)) (fun i j hi hj => ?_) (fun e he => ?_) (fun a j h1 h2 h3 => ?_) (fun e he => ?_) (fun j => ?_)
      · have u : gRdB (gUp M4 (c + 1051) x 0) c i j ↔ gRdB M4 c i j := by
          unfold gRdB
          rw [gUp_a (by omega)]
        rw [u, h4.2 i j hj, hb i j hi hj]
        constructor
        · rintro (y | ⟨y1, y2, q, y3, y4⟩)
          · exact ⟨by omega, y.2⟩
          · rw [y1]
            refine ⟨by omega, by omega, y2, q, ?_, by rw [← qr]; exact y4⟩
            exact (eqC q).mp (y3.resolve_left (fun z => z))
        · rintro ⟨y1, y2⟩
          by_cases z : i = x
          · right
            obtain ⟨a1, a2, q, a3, a4⟩ := y2
            refine ⟨z, a2, q, Or.inr ((eqC q).mpr (by rw [← z]; exact a3)), by rw [qr]; exact a4⟩
          · exact Or.inl ⟨by omega, y2⟩
      · by_cases z : e = x
        · rw [z, gUp_eq]
        · rw [gUp_k z, o4 _ _ (by omega)]; exact hm e (by omega)
      · rw [gUp_a (by omega), o4 _ _ (by omega)]; exact hs3 a j h1 h2 h3
      · rw [gUp_k (by omega), o4 _ _ (by omega)]; exact hm2 e (by omega)
      · rw [gUp_a (by omega), o4 _ _ (by omega)]; exact hf j
  -- all bits gone
  have l2 : ∀ (m x : Nat) (M3 : gM), x + m = 7 * n → gOff (gRdR2 c) M M3 → (∀ j, j < x → M3 (c + 1048) j = 0) → wp l G y_Or_arrange (gRm (d + 3 + 1)) true (kkV X k) true 2 [.val (gR G (c + 1047)), .val (gR G r1), .val (gR G r2), .val (gI (x : Int))] [] X M3 0 0 := by
    intro m
    induction m with
    | zero =>
      intro x M3 hx o3 hm
      have o3' := o3.mono (fun a j h => Or.inr h : ∀ a j, gRdR2 c a j → gArR c a j)
      refine w_Or_arrange_2 hX ⟨by omega, by omega⟩ hs hr3 fun _ => ?_
      rw [nr M3 o3', w32_id (x := (n : Int) * 7) ⟨by omega, by omega⟩]
      refine ⟨fun _ => ?_, fun z => absurd (by omega) z⟩
      have oo : ∀ a j, a ≠ c + 1048 → M3 a j = M a j := fun a j ha => o3 _ _ (by unfold gRdR2; exact ha)
      refine l28 n 0 M3 (by omega) o3' (fun i j hi hj => ?_) (fun e he => absurd he (Nat.not_lt_zero _)) (fun a j h1 _ _ => oo _ _ (by omega)) (fun e _ => oo _ _ (by omega)) (fun j => oo _ _ (by omega))
      unfold gRdB
      rw [hm _ (by omega), gBt_0]
      exact ⟨fun y => absurd y (by decide), fun y => by omega⟩
    | succ m ih =>
      intro x M3 hx o3 hm
      have o3' := o3.mono (fun a j h => Or.inr h : ∀ a j, gRdR2 c a j → gArR c a j)
      refine w_Or_arrange_2 hX ⟨by omega, by omega⟩ hs hr3 fun _ => ?_
      rw [nr M3 o3', w32_id (x := (n : Int) * 7) ⟨by omega, by omega⟩, w32_id (x := (x : Int) + 1) ⟨by omega, by omega⟩, Int.toNat_natCast, show (x : Int) + 1 = ((x + 1 : Nat) : Int) by omega]
      refine ⟨fun z => absurd z (by omega), fun _ => ⟨⟨by omega, by omega⟩, ih (x + 1) _ (by omega) (o3.up rfl) (fun j hj => ?_)⟩⟩
      by_cases z : j = x
      · rw [z, gUp_eq]
      · rw [gUp_k z]; exact hm j (by omega)
  exact e_Or_arrange (w_Or_arrange_0 hX hs hr3 (l2 (7 * n) 0 M (by omega) (gOff.rf _ _) (fun j hj => absurd hj (Nat.not_lt_zero _))))
end geK
