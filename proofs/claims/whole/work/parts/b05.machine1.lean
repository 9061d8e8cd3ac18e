/-! The class's Machine: works of values alone. -/
/-- what a work may change: its slot, the scratch, the range's corners -/
def gMr (c s : Nat) : Nat → Nat → Prop := fun a k => gVs (c + 1058) s a k ∨ a = c + 1166 ∨ a = c + 1167
/-- behind a work: its slot holds V, all else but what it may change is as it was -/
def gPost (M : gM) (c s : Nat) (V : gVl) (k : gM → Prop) : Prop := ∀ M2, gOff (gMr c s) M M2 → gvAt M2 (c + 1058) s V → k M2
section gbM
variable {l : Launch} {G : gG} {d : Nat} {X : gX} {M : gM} {c : Nat} {s : Int} {Q : gQ} {V a b e : gVl} {k : gM → Prop} {E : Int → gVl}
theorem gMr_vs {c s : Nat} : ∀ a k, gVs (c + 1058) s a k → gMr c s a k := fun _ _ h => Or.inl h
theorem gMr_ne {c s t : Nat} (h : t ≠ s) (hs : s < 104) (ht : t < 104) {w : gVl} {M M2 : gM} (o : gOff (gMr c s) M M2) (hw : gvAt M (c + 1058) t w) : gvAt M2 (c + 1058) t w := by
  refine hw.keep o ?_ ?_ (fun j _ => ?_) <;> unfold gMr gVs <;> omega
theorem c_put {kd nm : Int} (hX : glX X c) (hs : 0 ≤ s ∧ s < 104) (hk : g32 kd) (hn : g64 nm) (e : V = ⟨kd, nm, []⟩) (h : gPost M c s.toNat V k) : cV l G y_Vl_set (gRm d) true [gR G (c + 1058), gI s, gI kd, gL nm] X M k :=
  c_Vl_set (gl_stk hX) hs hk hn (h _ ((gVset_off _ _ _ _ _).mono gMr_vs) (by rw [e]; exact gVset_at _ _ _ _ _))
theorem c_putB {x : Int} (hX : glX X c) (hs : 0 ≤ s ∧ s < 104) (hx : 0 ≤ x ∧ x ≤ 1) (e : V = gB x) (h : gPost M c s.toNat V k) : cV l G y_Vl_setTruth (gRm (d + 1)) true [gR G (c + 1058), gI s, gI x] X M k :=
  c_Vl_setTruth (gl_stk hX) hs hx (h _ ((gVset_off _ _ _ _ _).mono gMr_vs) (by rw [e]; exact gVset_at _ _ _ _ _))
theorem c_putE {x : Int} (hX : glX X c) (hs : 0 ≤ s ∧ s < 104) (hx : 0 ≤ x ∧ x ≤ 8) (e : V = gE x) (h : gPost M c s.toNat V k) : cV l G y_Vl_set (gRm d) true [gR G (c + 1058), gI s, gI 4, gL x] X M k :=
  c_put hX hs (g32_c (x := 4) rfl) ⟨by omega, by omega⟩ e h
theorem c_Ma_settle {x f : Int} (hX : glX X c) (hs : 0 ≤ s ∧ s < 104) (hf : 0 ≤ f ∧ f ≤ 1) (h1 : f = 1 → g64 x ∧ V = gN x) (h0 : f = 0 → V = gE 6) (h : gPost M c s.toNat V k) : cV l G y_Ma_settle (gRm (d + 1)) true [gR G (c + 1057), gI s, gL x, gI f] X M k := by
  rw [← gL_w x]
  refine e_Ma_settle (w_Ma_settle_0 hX ⟨by omega, by omega⟩ (w64_ok x) hf ⟨fun e => ⟨fun _ => c_putE hX hs (by decide) (h0 e) h, fun q => absurd e q⟩, fun e => ⟨fun q => absurd q e, fun _ => ?_⟩⟩)
  obtain ⟨g, eV⟩ := h1 (by omega)
  rw [w64_id g]
  exact c_put hX hs (g32_c (x := 1) rfl) g eV h
theorem c_Ma_settleF {x y f : Int} (hX : glX X c) (hs : 0 ≤ s ∧ s < 104) (hf : 0 ≤ f ∧ f ≤ 1) (hy : w64 y = w64 x) (h1 : f = 1 → g64 x) (h0 : f = 0 → ¬ g64 x) (h : gPost M c s.toNat (gFit x) k) : cV l G y_Ma_settle (gRm (d + 1)) true [gR G (c + 1057), gI s, gL y, gI f] X M k := by
  rw [← gL_w y, hy, gL_w x]
  exact c_Ma_settle hX hs hf (fun e => ⟨h1 e, if_pos (h1 e)⟩) (fun e => if_neg (h0 e)) h
theorem c_Ma_divide {x y : Int} (hX : glX X c) (hs : 0 ≤ s ∧ s < 104) (hx : g64 x) (hy : g64 y) (h : gPost M c s.toNat (if y = 0 then gE 5 else gFit (x.tdiv y)) k) : cV l G y_Ma_divide (gRm (d + 1 + 1)) true [gR G (c + 1057), gI s, gL x, gL y] X M k := by
  refine e_Ma_divide (w_Ma_divide_0 hX ⟨by omega, by omega⟩ hx hy ⟨fun e => ⟨e, ?_⟩, fun e => ?_⟩)
  · rw [if_neg e] at h
    refine ⟨fun e2 => c_Ma_settleF hX hs (by decide) rfl (fun _ => g64_tdiv hx (fun q => e2 q.1)) (fun q => absurd q (by decide)) h, fun e2 => ⟨fun e3 => c_Ma_settleF hX hs (by decide) rfl (fun q => absurd q (by decide)) (fun _ => ?_) h, fun e3 => c_Ma_settleF hX hs (by decide) rfl (fun _ => g64_tdiv hx (fun q => e3 q.2)) (fun q => absurd q (by decide)) h⟩⟩
    rw [e2, e3]
    unfold g64
    decide
  · rw [if_pos e] at h
    exact c_putE hX hs (by decide) rfl h
theorem c_jMath_floorMod {x y : Int} {k : Int → gM → Prop} (hx : g64 x) (hy : g64 y) (h0 : y ≠ 0) (h : g64 (x.fmod y) → k (x.fmod y) M) : cL l G y_jMath_floorMod (gRm d) false [gL x, gL y] X M k := by
  have e1 := Int.fmod_eq_tmod (a := x) (b := y)
  have n1 : (x.tmod y).natAbs = x.natAbs % y.natAbs := Int.natAbs_tmod x y
  have n2 : x.natAbs % y.natAbs < y.natAbs := Nat.mod_lt _ (by omega)
  have sg : 0 ≤ gLxor x y ↔ (x < 0 ↔ y < 0) := by
    have := gLxor_neg hx hy
    omega
  have dv : y ∣ x ↔ x.tmod y = 0 := Int.dvd_iff_tmod_eq_zero
  have s1 : 0 ≤ x → 0 ≤ x.tmod y := fun q => Int.tmod_nonneg y q
  have s2 : x ≤ 0 → x.tmod y ≤ 0 := fun q => by have := Int.tmod_nonneg y (a := -x) (by omega); rw [Int.neg_tmod] at this; omega
  unfold g64 at hx hy
  have g : g64 (x.tmod y) := ⟨by omega, by omega⟩
  refine e_jMath_floorMod (w_jMath_floorMod_0 hx hy ⟨h0, fun a => ?_, fun a => ⟨fun b => ?_, fun b => ?_⟩⟩)
  · rw [w64_id g]
    have e : x.fmod y = x.tmod y := by
      rw [e1]
      have := sg.mp a
      split
      · rename_i q; omega
      · omega
    rw [← e]
    rw [← e] at g
    exact h g
  · rw [w64_id g] at b ⊢
    have e : x.fmod y = x.tmod y := by
      rw [e1, if_pos (dv.mpr b)]
      omega
    rw [← e]
    rw [← e] at g
    exact h g
  · rw [w64_id g] at b
    have na : ¬ (x < 0 ↔ y < 0) := fun q => a (sg.mpr q)
    have e : x.fmod y = x.tmod y + y := by
      rw [e1]
      have := mt dv.mp b
      split
      · rename_i q; omega
      · split <;> omega
    have g2 : g64 (x.tmod y + y) := ⟨by omega, by omega⟩
    rw [w64_id g2, ← e]
    rw [← e] at g2
    exact h g2
theorem c_Ma_modulo {x y : Int} (hX : glX X c) (hs : 0 ≤ s ∧ s < 104) (hx : g64 x) (hy : g64 y) (h : gPost M c s.toNat (if y = 0 then gE 5 else gN (x.fmod y)) k) : cV l G y_Ma_modulo (gRm (d + 1)) true [gR G (c + 1057), gI s, gL x, gL y] X M k := by
  refine e_Ma_modulo (w_Ma_modulo_0 hX ⟨by omega, by omega⟩ hx hy ⟨fun e => ?_, fun e => ?_⟩)
  · rw [if_neg e] at h
    exact c_jMath_floorMod hx hy e (fun g => c_put hX hs (g32_c (x := 1) rfl) g rfl h)
  · rw [if_pos e] at h
    exact c_putE hX hs (by decide) rfl h
theorem c_Ma_raise {x y : Int} (hX : glX X c) (hs : 0 ≤ s ∧ s < 104) (hx : g64 x) (hy : g64 y) (h : gPost M c s.toNat (if y < 0 then gE 6 else gFit (x ^ y.toNat)) k) : cV l G y_Ma_raise (gRm (d + 1 + 1)) true [gR G (c + 1057), gI s, gL x, gL y] X M k := by
  have gs : g32 s := ⟨by omega, by omega⟩
  -- the loop: times t, so far x ^ q
  have key : ∀ (t : Nat) (m q : Nat), q + m = t → t ≤ 64 → g64 (x ^ q) → (0 ≤ y) → (g64 (x ^ t) ↔ g64 (x ^ y.toNat)) → (g64 (x ^ t) → x ^ t = x ^ y.toNat) → (∀ j, j ≤ t → ¬ g64 (x ^ j) → ¬ g64 (x ^ t)) →
      wp l G y_Ma_raise (gRm (d + 1 + 1)) true (kkV X k) true 78 [.val (gR G (c + 1057)), .val (gI s), .val (gL x), .unset, .unset, .unset, .unset, .val (gL (t : Int)), .unset, .val (gI 1), .val (gL (x ^ q)), .unset, .val (gI (q : Int))] [] X M 0 0 := by
    intro t m
    induction m with
    | zero =>
      intro q hq ht g hy0 e1 e2 e3
      have eq : q = t := by omega
      subst eq
      rw [if_neg (by omega)] at h
      refine w_Ma_raise_78 hX gs hx ⟨by omega, by omega⟩ ⟨by decide, by decide⟩ g ⟨by omega, by omega⟩ ⟨fun a => absurd a (by decide), fun _ => ⟨fun _ => ?_, fun a => absurd (by omega) a⟩⟩
      rw [e2 g]
      exact c_Ma_settleF hX hs (by decide) rfl (fun _ => e1.mp g) (fun a => absurd a (by decide)) h
    | succ m ih =>
      intro q hq ht g hy0 e1 e2 e3
      refine w_Ma_raise_78 hX gs hx ⟨by omega, by omega⟩ ⟨by decide, by decide⟩ g ⟨by omega, by omega⟩ ⟨fun a => absurd a (by decide), fun _ => ⟨fun a => absurd a (by omega), fun _ => c_Vl_timesFits g hx (fun u => ?_) (fun u => ?_)⟩⟩
      · rw [← Int.pow_succ] at u ⊢
        rw [gI_w, w64_id u]
        exact ih (q + 1) (by omega) ht u hy0 e1 e2 e3
      · rw [← Int.pow_succ] at u
        rw [if_neg (by omega)] at h
        refine w_Ma_raise_78 hX gs hx ⟨by omega, by omega⟩ ⟨by decide, by decide⟩ (w64_ok _) (w32_ok _) ⟨fun _ => ?_, fun a => absurd rfl a⟩
        have nb : ¬ g64 (x ^ y.toNat) := fun q2 => e3 (q + 1) (by omega) u (e1.mpr q2)
        exact c_Ma_settle hX hs (by decide) (fun a => absurd a (by decide)) (fun _ => if_neg nb) h
  have neg : ∀ z : Int, g64 z → y < 0 → wp l G y_Ma_raise (gRm (d + 1 + 1)) true (kkV X k) true 78 [.val (gR G (c + 1057)), .val (gI s), .val (gL x), .unset, .unset, .unset, .unset, .val (gL z), .unset, .val (gI 0), .val (gL 1), .unset, .val (gI 0)] [] X M 0 0 := by
    intro z gz q
    rw [if_pos q] at h
    exact w_Ma_raise_78 hX gs hx gz ⟨by decide, by decide⟩ ⟨by decide, by decide⟩ ⟨by decide, by decide⟩ ⟨fun _ => c_Ma_settle hX hs (by decide) (fun a => absurd a (by decide)) (fun _ => rfl) h, fun a => absurd rfl a⟩
  have big : ∀ (t : Nat), (t : Int) = min y 64 → ¬ y < 0 → ((¬ x = 0 ∧ ¬ x = 1 ∧ ¬ x = -1) ∨ y ≤ 64) → (∀ j, j ≤ t → ¬ g64 (x ^ j) → ¬ g64 (x ^ t)) → wp l G y_Ma_raise (gRm (d + 1 + 1)) true (kkV X k) true 78 [.val (gR G (c + 1057)), .val (gI s), .val (gL x), .unset, .unset, .unset, .unset, .val (gL (t : Int)), .unset, .val (gI 1), .val (gL 1), .unset, .val (gI 0)] [] X M 0 0 := by
    intro t ht hy0 hc hm
    have h1 : x ^ 0 = 1 := Int.pow_zero x
    have kk := key t t 0 (by omega) (by omega) (by rw [h1]; exact ⟨by decide, by decide⟩) (by omega)
    rw [h1] at kk
    by_cases c64 : y ≤ 64
    · have et : t = y.toNat := by omega
      exact kk (by rw [et]) (fun _ => by rw [et]) hm
    · have hb : ¬ x = 0 ∧ ¬ x = 1 ∧ ¬ x = -1 := by rcases hc with q | q; exact q; omega
      have et : t = 64 := by omega
      have nb : ¬ g64 (x ^ 64) := by
        intro q
        have p1 : (x ^ 64).natAbs = x.natAbs ^ 64 := Int.natAbs_pow x 64
        have p2 : 2 ^ 64 ≤ x.natAbs ^ 64 := Nat.pow_le_pow_left (by omega) 64
        have p3 : (2 : Nat) ^ 64 = 18446744073709551616 := by decide
        unfold g64 at q
        omega
      have nb2 := gPow_big hb (m := 64) (n := y.toNat) (by omega) nb
      rw [et] at kk hm ⊢
      exact kk ⟨fun q => absurd q nb, fun q => absurd q nb2⟩ (fun q => absurd q nb) hm
  have mono : (¬ x = 0 ∧ ¬ x = 1 ∧ ¬ x = -1) → ∀ t j, j ≤ t → ¬ g64 (x ^ j) → ¬ g64 (x ^ t) := fun hb t j hj q => gPow_big hb hj q
  have small : (x = 0 ∨ x = 1 ∨ x = -1) → ∀ j, g64 (x ^ j) := by
    intro hb j
    have p1 : (x ^ j).natAbs = x.natAbs ^ j := Int.natAbs_pow x j
    have p2 : x.natAbs ^ j ≤ 1 := by
      calc x.natAbs ^ j ≤ 1 ^ j := Nat.pow_le_pow_left (by omega) j
        _ = 1 := Nat.one_pow j
    unfold g64
    omega
  have minT : ∀ (hc : (¬ x = 0 ∧ ¬ x = 1 ∧ ¬ x = -1) ∨ y ≤ 64), cL l G y_jMath_min_2 (gRm (d + 1)) false [gL y, gL 64] X M (fun v2 M1 => ((y < 0 → (wp l G y_Ma_raise (gRm (d + 1 + 1)) true (kkV X k) true 78 [.val (gR G (c + 1057)), .val (gI s), .val (gL x), .unset, .unset, .unset, .unset, .val (gL v2), .unset, .val (gI 0), .val (gL 1), .unset, .val (gI 0)] [] X M1 0 0)) ∧ (¬ y < 0 → (wp l G y_Ma_raise (gRm (d + 1 + 1)) true (kkV X k) true 78 [.val (gR G (c + 1057)), .val (gI s), .val (gL x), .unset, .unset, .unset, .unset, .val (gL v2), .unset, .val (gI 1), .val (gL 1), .unset, .val (gI 0)] [] X M1 0 0)))) := by
    intro hc
    refine c_minL hy ⟨by decide, by decide⟩ ⟨fun q => neg _ ?_ q, fun q => ?_⟩
    · unfold g64 at *; omega
    · have bb := big (min y 64).toNat (by omega) q hc (by
        by_cases hb : ¬ x = 0 ∧ ¬ x = 1 ∧ ¬ x = -1
        · exact mono hb _
        · exact fun j _ u => absurd (small (by omega) j) u)
      rw [show (((min y 64).toNat : Nat) : Int) = min y 64 by omega] at bb
      exact bb
  refine e_Ma_raise (w_Ma_raise_0 hX gs hx hy ⟨fun a => w_Ma_raise_18 hX gs hx hy ⟨fun _ => minT (Or.inl (by omega)), fun q => absurd rfl q⟩, fun a => ⟨fun b => w_Ma_raise_18 hX gs hx hy ⟨fun _ => minT (Or.inl (by omega)), fun q => absurd rfl q⟩, fun b => ⟨fun q => absurd q (by decide), fun _ => ⟨fun e => minT (Or.inr (by omega)), fun e => ⟨fun q => absurd q (by omega), fun _ => ?_⟩⟩⟩⟩⟩)
  have sm : x = 0 ∨ x = 1 ∨ x = -1 := by omega
  have h1 : x ^ 0 = 1 := Int.pow_zero x
  have em : y.tmod 2 = y % 2 := Int.tmod_eq_emod_of_nonneg (by omega)
  rw [em, w64_id ⟨by omega, by omega⟩]
  have kk := key (2 - y % 2).toNat (2 - y % 2).toNat 0 (by omega) (by omega) (by rw [h1]; exact ⟨by decide, by decide⟩) (by omega) ⟨fun _ => small sm _, fun _ => small sm _⟩ (fun _ => ?_) (fun j _ u => absurd (small sm j) u)
  · rw [h1, show (((2 - y % 2).toNat : Nat) : Int) = 2 - y % 2 by omega] at kk
    exact kk
  · rcases sm with q | q | q
    · rw [q, Int.zero_pow (by omega), Int.zero_pow (by omega)]
    · rw [q, Int.one_pow, Int.one_pow]
    · rw [q]
      by_cases u : y % 2 = 0
      · rw [show (2 - y % 2).toNat = 2 by omega, show y.toNat = 2 * (y.toNat / 2) by omega, Int.pow_mul, show (-1 : Int) ^ 2 = 1 by decide, Int.one_pow]
      · rw [show (2 - y % 2).toNat = 1 by omega, show y.toNat = 2 * (y.toNat / 2) + 1 by omega, Int.pow_succ (-1) (2 * (y.toNat / 2)), Int.pow_mul, show (-1 : Int) ^ 2 = 1 by decide, Int.one_pow]
        decide
end gbM
