/-! The reference's copy: a cell from slot to slot. -/
/-- as gmCl, the stretch of its refs between lo and hi -/
def gmClR (M : gM) (o s p : Nat) (x : Option (List Int × List Int)) (lo hi : Nat) : Prop := (x = none → M (o + 19) (s * 5200 + p) = 0) ∧ ∀ S tg, x = some (S, tg) → M (o + 19) (s * 5200 + p) = gSrt S ∧ (gSrt S = 1 → gNum S = some (M (o + 23) (s * 5200 + p))) ∧ (gSrt S = 2 → ∃ L : Nat, M (o + 20) (s * 5200 + p) = (L : Int) ∧ M (o + 21) (s * 5200 + p) = ((L + S.length : Nat) : Int) ∧ gInm M o L S ∧ ((L + S.length : Nat) : Int) ≤ M o 2) ∧ (gSrt S = 3 → ∃ f ra : Nat, M (o + 20) (s * 5200 + p) = (f : Int) ∧ gFrm M o f S ∧ M (o + 22) (s * 5200 + p) = (ra : Int) ∧ (lo ≤ ra ∧ ra + tg.length ≤ hi) ∧ ∀ i, i < tg.length → M (o + 24) (s * 20800 + ra + i) = gTt tg i)
def gLnX (x : Option (List Int × List Int)) : Nat := match x with
  | none => 0
  | some y => y.2.length
/-- what of the reference its edits leave as it is -/
def gmBs (M M2 : gM) (o : Nat) : Prop := (∀ i j, 1 ≤ i → i ≤ 18 → M2 (o + i) j = M (o + i) j) ∧ ∀ j, j = 2 ∨ j = 9 ∨ j = 13 ∨ j = 17 → M2 o j = M o j
def gCyR (o t q E : Nat) : Nat → Nat → Prop := fun a j => ((a = o + 19 ∨ a = o + 20 ∨ a = o + 21 ∨ a = o + 22 ∨ a = o + 23) ∧ j = t * 5200 + q) ∨ (a = o + 24 ∧ t * 20800 + E ≤ j ∧ j < t * 20800 + 20800) ∨ (a = o + 25 ∧ j = t)
section gfV
variable {l : Launch} {G : gG} {d : Nat} {X : gX} {M M2 : gM} {o s p t q lo hi E : Nat} {x : Option (List Int × List Int)} {F : gSht}
theorem gmBs.tr {M3 : gM} (h : gmBs M M2 o) (h2 : gmBs M2 M3 o) : gmBs M M3 o := ⟨fun i j a b => (h2.1 i j a b).trans (h.1 i j a b), fun j a => (h2.2 j a).trans (h.2 j a)⟩
theorem gFrm.bs {f : Nat} {S : List Int} (h : gFrm M o f S) (b : gmBs M M2 o) : gFrm M2 o f S := by
  obtain ⟨h1, h0⟩ := b
  obtain ⟨L, R, a1, a2, a3, a4, a5, a6, a7, a8, a9, a10, a11⟩ := h
  refine ⟨L, R, a1.kp (fun j => h1 1 j (by decide) (by decide)), by rw [h0 2 (by omega)]; exact a2, a3, by rw [h0 13 (by omega)]; exact a4, by rw [h1 8 _ (by decide) (by decide)]; exact a5, by rw [h1 9 _ (by decide) (by decide)]; exact a6, by rw [h0 17 (by omega)]; exact a7, a8, fun i hi => ?_, fun q => by rw [h1 7 _ (by decide) (by decide)]; exact a10 q, fun e rs q => ?_⟩
  · rw [h1 10 _ (by decide) (by decide), h1 11 _ (by decide) (by decide), h1 12 _ (by decide) (by decide)]
    exact a9 i hi
  · obtain ⟨lo, hi, v, b1, b2, b3⟩ := a11 e rs q
    exact ⟨lo, hi, v, by rw [h1 7 _ (by decide) (by decide)]; exact b1, b2.kp (fun i j c1 c2 _ _ _ => h1 i j (by omega) (by omega)) (fun j => h1 1 j (by decide) (by decide)), by rw [h0 9 (by omega)]; exact b3⟩
theorem gmCl.R (h : gmCl M o s p x) (e : M (o + 25) s = (hi : Int)) : gmClR M o s p x 0 hi := by
  refine ⟨h.1, fun S tg ex => ?_⟩
  obtain ⟨a1, a2, a3, a4⟩ := h.2 S tg ex
  refine ⟨a1, a2, a3, fun y => ?_⟩
  obtain ⟨f, ra, b1, b2, b3, b4, b5⟩ := a4 y
  exact ⟨f, ra, b1, b2, b3, ⟨Nat.zero_le _, by omega⟩, b5⟩
theorem gmClR.cl (h : gmClR M o s p x lo hi) (e : M (o + 25) s = (E : Int)) (hE : hi ≤ E) : gmCl M o s p x := by
  refine ⟨h.1, fun S tg ex => ?_⟩
  obtain ⟨a1, a2, a3, a4⟩ := h.2 S tg ex
  refine ⟨a1, a2, a3, fun y => ?_⟩
  obtain ⟨f, ra, b1, b2, b3, b4, b5⟩ := a4 y
  exact ⟨f, ra, b1, b2, b3, by omega, b5⟩
theorem gmClR.wd {lo2 hi2 : Nat} (h : gmClR M o s p x lo hi) (h1 : lo2 ≤ lo) (h2 : hi ≤ hi2) : gmClR M o s p x lo2 hi2 := by
  refine ⟨h.1, fun S tg ex => ?_⟩
  obtain ⟨a1, a2, a3, a4⟩ := h.2 S tg ex
  refine ⟨a1, a2, a3, fun y => ?_⟩
  obtain ⟨f, ra, b1, b2, b3, b4, b5⟩ := a4 y
  exact ⟨f, ra, b1, b2, b3, by omega, b5⟩
theorem gmClR.kp (h : gmClR M o s p x lo hi) (b : gmBs M M2 o) (k : ∀ i, 19 ≤ i → i ≤ 23 → M2 (o + i) (s * 5200 + p) = M (o + i) (s * 5200 + p)) (k24 : ∀ j, lo ≤ j → j < hi → M2 (o + 24) (s * 20800 + j) = M (o + 24) (s * 20800 + j)) : gmClR M2 o s p x lo hi := by
  refine ⟨fun e => by rw [k 19 (by decide) (by decide)]; exact h.1 e, fun S tg ex => ?_⟩
  obtain ⟨a1, a2, a3, a4⟩ := h.2 S tg ex
  refine ⟨by rw [k 19 (by decide) (by decide)]; exact a1, fun q => by rw [k 23 (by decide) (by decide)]; exact a2 q, fun q => ?_, fun q => ?_⟩
  · obtain ⟨L, b1, b2, b3, b4⟩ := a3 q
    exact ⟨L, by rw [k 20 (by decide) (by decide)]; exact b1, by rw [k 21 (by decide) (by decide)]; exact b2, b3.kp (fun j => b.1 1 j (by decide) (by decide)), by rw [b.2 2 (by omega)]; exact b4⟩
  · obtain ⟨f, ra, b1, b2, b3, b4, b5⟩ := a4 q
    exact ⟨f, ra, by rw [k 20 (by decide) (by decide)]; exact b1, b2.bs b, by rw [k 22 (by decide) (by decide)]; exact b3, b4, fun i hi => by rw [show s * 20800 + ra + i = s * 20800 + (ra + i) by omega, k24 _ (by omega) (by omega), show s * 20800 + (ra + i) = s * 20800 + ra + i by omega]; exact b5 i hi⟩
/-- a cell copied -/
theorem gmCl.cp (h : gmCl M o s p x) (hok : ∀ S tg, x = some (S, tg) → gCok S tg) (b : gmBs M M2 o) (k : ∀ i, 19 ≤ i → i ≤ 23 → i ≠ 22 → M2 (o + i) (t * 5200 + q) = M (o + i) (s * 5200 + p)) (k22 : M (o + 19) (s * 5200 + p) = 3 → M2 (o + 22) (t * 5200 + q) = (E : Int)) (k24 : ∀ ra : Nat, M (o + 19) (s * 5200 + p) = 3 → M (o + 22) (s * 5200 + p) = (ra : Int) → ∀ i, i < gLnX x → M2 (o + 24) (t * 20800 + E + i) = M (o + 24) (s * 20800 + ra + i)) : gmClR M2 o t q x E (E + gLnX x) := by
  refine ⟨fun e => by rw [k 19 (by decide) (by decide) (by decide)]; exact h.1 e, fun S tg ex => ?_⟩
  obtain ⟨a1, a2, a3, a4⟩ := h.2 S tg ex
  have ln : gLnX x = tg.length := by rw [ex]; rfl
  refine ⟨by rw [k 19 (by decide) (by decide) (by decide)]; exact a1, fun q => by rw [k 23 (by decide) (by decide) (by decide)]; exact a2 q, fun q => ?_, fun q => ?_⟩
  · obtain ⟨L, b1, b2, b3, b4⟩ := a3 q
    exact ⟨L, by rw [k 20 (by decide) (by decide) (by decide)]; exact b1, by rw [k 21 (by decide) (by decide) (by decide)]; exact b2, b3.kp (fun j => b.1 1 j (by decide) (by decide)), by rw [b.2 2 (by omega)]; exact b4⟩
  · obtain ⟨f, ra, b1, b2, b3, b4, b5⟩ := a4 q
    have w := a1.trans q
    exact ⟨f, E, by rw [k 20 (by decide) (by decide) (by decide)]; exact b1, b2.bs b, k22 w, by omega, fun i hi => by rw [k24 ra w b3 i (by omega)]; exact b5 i hi⟩
theorem gCyR.bs (h : gOff (gCyR o t q E) M M2) : gmBs M M2 o := ⟨fun i j a b => h _ _ (by unfold gCyR; omega), fun j a => h _ _ (by unfold gCyR; omega)⟩
theorem r_copy {k : gM → Prop} (hX : gmX X o) (hst : s ≠ t) (hs : s < 42) (ht : t < 42) (hp : p < 5200) (hq : q < 5200) (h : gmCl M o s p x) (hok : ∀ S tg, x = some (S, tg) → gCok S tg) (hsE : M (o + 25) s ≤ 20750) (hE : M (o + 25) t = (E : Int)) (hE2 : E + gLnX x ≤ 20750)
    (hk : ∀ M2, gOff (gCyR o t q E) M M2 → gmClR M2 o t q x E (E + gLnX x) → M2 (o + 25) t = ((E + gLnX x : Nat) : Int) → k M2) : cV l G y_GM_copy (gRm d) true [gR G o, gI (s : Int), gI (p : Int), gI (t : Int), gI (q : Int)] X M k := by
  have eA : ((s : Int) * 5200 + (p : Int)).toNat = s * 5200 + p := by omega
  have eB : ((t : Int) * 5200 + (q : Int)).toNat = t * 5200 + q := by omega
  have ne : s * 5200 + p ≠ t * 5200 + q := by omega
  have nk : ∀ (N : gM) (D : Nat) (v : Int), gUp N D (t * 5200 + q) v D (s * 5200 + p) = N D (s * 5200 + p) := fun N D v => gUp_k ne
  refine e_GM_copy (w_GM_copy_0 hX ⟨by omega, by omega⟩ ⟨by omega, by omega⟩ ⟨by omega, by omega⟩ ⟨by omega, by omega⟩ ?_)
  rw [eA, eB]
  simp (disch := decide) only [gUp_oo, nk, Int.toNat_natCast, hE]
  have o4 : gOff (gCyR o t q E) M (gUp (gUp (gUp (gUp M (o + 19) (t * 5200 + q) (M (o + 19) (s * 5200 + p))) (o + 23) (t * 5200 + q) (M (o + 23) (s * 5200 + p))) (o + 20) (t * 5200 + q) (M (o + 20) (s * 5200 + p))) (o + 21) (t * 5200 + q) (M (o + 21) (s * 5200 + p))) := by
    refine ((((gOff.rf _ M).up ?_).up ?_).up ?_).up ?_ <;> unfold gCyR <;> omega
  have k4 : ∀ i, 19 ≤ i → i ≤ 23 → i ≠ 22 → gUp (gUp (gUp (gUp M (o + 19) (t * 5200 + q) (M (o + 19) (s * 5200 + p))) (o + 23) (t * 5200 + q) (M (o + 23) (s * 5200 + p))) (o + 20) (t * 5200 + q) (M (o + 20) (s * 5200 + p))) (o + 21) (t * 5200 + q) (M (o + 21) (s * 5200 + p)) (o + i) (t * 5200 + q) = M (o + i) (s * 5200 + p) := fun i i1 i2 i3 => by
    rcases (show i = 19 ∨ i = 20 ∨ i = 21 ∨ i = 23 by omega) with y | y | y | y <;> subst y <;> simp (disch := decide) only [gUp_oo, gUp_eq]
  have k24 : ∀ j, gUp (gUp (gUp (gUp M (o + 19) (t * 5200 + q) (M (o + 19) (s * 5200 + p))) (o + 23) (t * 5200 + q) (M (o + 23) (s * 5200 + p))) (o + 20) (t * 5200 + q) (M (o + 20) (s * 5200 + p))) (o + 21) (t * 5200 + q) (M (o + 21) (s * 5200 + p)) (o + 24) j = M (o + 24) j := fun j => by simp (disch := decide) only [gUp_oo]
  have k22 : gUp (gUp (gUp (gUp M (o + 19) (t * 5200 + q) (M (o + 19) (s * 5200 + p))) (o + 23) (t * 5200 + q) (M (o + 23) (s * 5200 + p))) (o + 20) (t * 5200 + q) (M (o + 20) (s * 5200 + p))) (o + 21) (t * 5200 + q) (M (o + 21) (s * 5200 + p)) (o + 22) (s * 5200 + p) = M (o + 22) (s * 5200 + p) := by simp (disch := decide) only [gUp_oo]
  have k25 : ∀ j, gUp (gUp (gUp (gUp M (o + 19) (t * 5200 + q) (M (o + 19) (s * 5200 + p))) (o + 23) (t * 5200 + q) (M (o + 23) (s * 5200 + p))) (o + 20) (t * 5200 + q) (M (o + 20) (s * 5200 + p))) (o + 21) (t * 5200 + q) (M (o + 21) (s * 5200 + p)) (o + 25) j = M (o + 25) j := fun j => by simp (disch := decide) only [gUp_oo]
  generalize gUp (gUp (gUp (gUp M (o + 19) (t * 5200 + q) (M (o + 19) (s * 5200 + p))) (o + 23) (t * 5200 + q) (M (o + 23) (s * 5200 + p))) (o + 20) (t * 5200 + q) (M (o + 20) (s * 5200 + p))) (o + 21) (t * 5200 + q) (M (o + 21) (s * 5200 + p)) = N at o4 k4 k24 k22 k25 ⊢
  have rest : M (o + 19) (s * 5200 + p) ≠ 3 → gLnX x = 0 := fun y => by
    cases ex : x with
    | none => rfl
    | some w =>
      have a := (h.2 w.1 w.2 ex).1
      have := (gSrt_rf (S := w.1) (fun z => y (a.trans z))).1
      have l := (hok w.1 w.2 ex).2.2.2.1
      rw [this] at l
      exact l
  refine ⟨⟨by omega, by omega⟩, fun _ => ⟨⟨by omega, by omega⟩, ⟨by omega, by omega⟩, fun _ => ⟨⟨by omega, by omega⟩, ⟨by omega, by omega⟩, fun _ => ⟨⟨by omega, by omega⟩, ⟨by omega, by omega⟩, fun _ => ⟨⟨by omega, by omega⟩, ⟨by omega, by omega⟩, fun _ => ⟨fun y => ?_, fun y => ?_⟩⟩⟩⟩⟩⟩
  · obtain ⟨S, tg, ex⟩ : ∃ S tg, x = some (S, tg) := by
      cases ex : x with
      | none => have := h.1 ex; omega
      | some w => exact ⟨w.1, w.2, rfl⟩
    obtain ⟨a1, a2, a3, a4⟩ := h.2 S tg ex
    have ok := hok S tg ex
    obtain ⟨f, ra, b1, b2, b3, b4, b5⟩ := a4 (a1.symm.trans y)
    have ln : gLnX x = tg.length := by rw [ex]; rfl
    have l50 := (gRefs_ok ok.1).2
    have l4 := ok.2.2.2.1
    obtain ⟨L, R, g1, g2, g3, g4, g5, g6, g7⟩ := b2
    have f20 : N (o + 9) f = M (o + 9) f := o4 _ _ (by unfold gCyR; omega)
    have key : ∀ (u j : Nat), j + u = tg.length → wp l G y_GM_copy (gRm d) true (kkV X k) true 117 [.val (gR G o), .val (gI (s : Int)), .unset, .val (gI (t : Int)), .unset, .val (gI ((s * 5200 + p : Nat) : Int)), .unset, .val (gI (tg.length : Int)), .val (gI (j : Int))] [] X (gFl (gUp N (o + 22) (t * 5200 + q) (E : Int)) (o + 24) (t * 20800 + E) (fun i => M (o + 24) (s * 20800 + ra + i)) j) 0 0 := by
      intro u
      induction u with
      | zero =>
        intro j hj
        have e : j = tg.length := by omega
        subst e
        refine w_GM_copy_117 hX ⟨by omega, by omega⟩ ⟨by omega, by omega⟩ ⟨by omega, by omega⟩ ⟨by omega, by omega⟩ ⟨by omega, by omega⟩ ⟨fun _ => ⟨⟨by omega, by omega⟩, fun _ => ⟨⟨by omega, by omega⟩, ?_⟩⟩, fun z => absurd (Int.le_refl _) z⟩
        rw [Int.toNat_natCast, gFl_a (by omega), gUp_a (by omega), k25, hE, w32_id (x := (E : Int) + (tg.length : Int)) ⟨by omega, by omega⟩]
        have oF : gOff (gCyR o t q E) M (gUp (gFl (gUp N (o + 22) (t * 5200 + q) (E : Int)) (o + 24) (t * 20800 + E) (fun i => M (o + 24) (s * 20800 + ra + i)) tg.length) (o + 25) t ((E : Int) + (tg.length : Int))) := fun a j na => by
          have nb := na
          unfold gCyR at na
          by_cases z : a = o + 24
          · subst z
            rw [gUp_a (by omega), gFl_out (by omega), gUp_a (by omega)]
            exact o4 _ _ nb
          · by_cases w : a = o + 25
            · subst w
              rw [gUp_k (by omega), gFl_a (by omega), gUp_a (by omega)]
              exact o4 _ _ nb
            · rw [gUp_a w, gFl_a z]
              by_cases v : a = o + 22
              · subst v
                rw [gUp_k (by omega)]
                exact o4 _ _ nb
              · rw [gUp_a v]
                exact o4 _ _ nb
        refine hk _ oF (h.cp hok (gCyR.bs oF) (fun i i1 i2 i3 => ?_) (fun _ => ?_) (fun ra2 _ e2 i hi => ?_)) (by rw [gUp_eq]; omega)
        · rw [gUp_a (by omega), gFl_a (by omega), gUp_a (by omega)]; exact k4 i i1 i2 i3
        · rw [gUp_a (by omega), gFl_a (by omega), gUp_eq]
        · rw [b3] at e2
          have e3 : ra = ra2 := by omega
          subst e3
          rw [gUp_a (by omega), gFl_in (by omega) (by omega), show t * 20800 + E + i - (t * 20800 + E) = i by omega]
      | succ u ih =>
        intro j hj
        have i1 := ih (j + 1) (by omega)
        refine w_GM_copy_117 hX ⟨by omega, by omega⟩ ⟨by omega, by omega⟩ ⟨by omega, by omega⟩ ⟨by omega, by omega⟩ ⟨by omega, by omega⟩ ⟨fun z => absurd z (by omega), fun _ => ?_⟩
        have r25 : gFl (gUp N (o + 22) (t * 5200 + q) (E : Int)) (o + 24) (t * 20800 + E) (fun i => M (o + 24) (s * 20800 + ra + i)) j (o + 25) t = (E : Int) := by rw [gFl_a (by omega), gUp_a (by omega), k25, hE]
        have r22 : gFl (gUp N (o + 22) (t * 5200 + q) (E : Int)) (o + 24) (t * 20800 + E) (fun i => M (o + 24) (s * 20800 + ra + i)) j (o + 22) (s * 5200 + p) = (ra : Int) := by rw [gFl_a (by omega), gUp_k ne, k22, b3]
        have r24 : gFl (gUp N (o + 22) (t * 5200 + q) (E : Int)) (o + 24) (t * 20800 + E) (fun i => M (o + 24) (s * 20800 + ra + i)) j (o + 24) (s * 20800 + ra + j) = M (o + 24) (s * 20800 + ra + j) := by rw [gFl_out (by omega), gUp_a (by omega), k24]
        rw [Int.toNat_natCast, r25, Int.toNat_natCast, r22, show ((s : Int) * 20800 + (ra : Int) + (j : Int)).toNat = s * 20800 + ra + j by omega, r24, show ((t : Int) * 20800 + (E : Int) + (j : Int)).toNat = t * 20800 + E + j by omega, w32_id (x := (j : Int) + 1) ⟨by omega, by omega⟩, show (j : Int) + 1 = ((j + 1 : Nat) : Int) by omega, gFl_s]
        exact ⟨⟨by omega, by omega⟩, fun _ => ⟨⟨by omega, by omega⟩, fun _ => ⟨⟨by omega, by omega⟩, fun _ => ⟨⟨by omega, by omega⟩, i1⟩⟩⟩⟩
    have k0 := key tg.length 0 (by omega)
    rw [gFl_0] at k0
    rw [b1, Int.toNat_natCast, g6, ← l4, w32_id (x := (s : Int) * 5200 + (p : Int)) ⟨by omega, by omega⟩, show (s : Int) * 5200 + (p : Int) = ((s * 5200 + p : Nat) : Int) by omega]
    exact ⟨⟨by omega, by omega⟩, fun _ => ⟨⟨by omega, by omega⟩, fun _ => ⟨⟨by omega, by omega⟩, fun _ => ⟨⟨by omega, by omega⟩, k0⟩⟩⟩⟩
  · have z := rest y
    refine hk N o4 (h.cp hok (gCyR.bs o4) k4 (fun w => absurd w y) (fun _ w => absurd w y)) ?_
    rw [z, k25, hE]
    rfl
end gfV
