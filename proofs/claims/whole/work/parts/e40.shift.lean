/-! The reference's shift, up to accept. -/
section ggD
variable {l : Launch} {G : gG} {d : Nat} {X : gX} {M M2 : gM} {o nw s : Nat} {F : gSht} {cs i n : Int}
theorem gMoR.sl {E m : Nat} (h : gOff (gMoR o E m) M M2) (hE : E + m ≤ 20800) : gOff (gSlR o 41) M M2 := h.mono (fun a j y => by unfold gMoR at y; unfold gSlR; omega)
theorem r_shift {k : Int → gM → Prop} (hX : gmX X o) (h36 : M o 36 = (nw : Int)) (hnw : nw < 99999) (es : s = nw % 41) (hst : gmSt M o s F) (hF : gSok F) (hc4 : gCn (gnE F) 5200 ≤ 400) (hL : gLin cs i n)
    (hk0 : 0 < n ∧ (∃ p : Nat, F p ≠ none ∧ gFp cs i n p = -1) → ∀ M3, gOff (gSlR o 41) M M3 → k 0 (gUp M3 o 0 2))
    (hk1 : (0 < n → ∀ p : Nat, F p ≠ none → gFp cs i n p ≠ -1) → ∀ M3, gOff (gSlR o 41) M M3 → gmSt M3 o 41 (gShft F cs i n) → cI l G y_GM_accept (gRm (d + 1 + 1)) true [gR G o] X M3 k) :
    cI l G y_GM_shift (gRm (d + 1 + 1 + 1)) true [gR G o, gI cs, gI i, gI n] X M k := by
  have hm := gFm_c hL.1
  have hs : 0 ≤ cs ∧ cs ≤ 1 := by rcases hL.1 with w | w <;> omega
  have hi2 : 0 ≤ i ∧ i < gFm cs := ⟨hL.2.1, hL.2.2.1⟩
  have hn1 : 0 < n ∨ n < 0 := by have := hL.2.2.2; omega
  have hn2 : -50 ≤ n ∧ n ≤ 50 := by have := hL.2.2.2; omega
  have s50 := gSp_50 hF.r50 5200
  have s41 : s < 41 := by omega
  have key : ∀ (u p E : Nat) (M3 : gM), p + u = 5200 → gOff (gSlR o 41) M M3 → M3 (o + 25) 41 = (E : Int) → E ≤ gSp F p → (∀ q : Nat, q < 5200 → (∃ x : Nat, x < p ∧ F x ≠ none ∧ gFp cs i n x = (q : Int)) → gmClR M3 o 41 q (gShft F cs i n q) 0 E) → (∀ q : Nat, q < 5200 → (¬ ∃ x : Nat, x < p ∧ F x ≠ none ∧ gFp cs i n x = (q : Int)) → M3 (o + 19) (41 * 5200 + q) = 0) → (0 < n → ∀ x : Nat, x < p → F x ≠ none → gFp cs i n x ≠ -1) →
      wp l G y_GM_shift (gRm (d + 1 + 1 + 1)) true (kkI X k) true 32 [.val (gR G o), .val (gI cs), .val (gI i), .val (gI n), .val (gI (gFm cs)), .val (gI (s : Int)), .val (gI (p : Int)), .unset, .unset, .unset, .unset] [] X M3 0 0 := by
    intro u
    induction u with
    | zero =>
      intro p E M3 hp o3 e3 l3 c3 z3 g3
      have e : p = 5200 := by omega
      subst e
      have lt : ∀ x : Nat, F x ≠ none → x < 5200 := fun x hx => by
        cases ex : F x with
        | none => exact absurd ex hx
        | some y => exact (hF x y.1 y.2 ex).1
      refine w_GM_shift_32 hX ⟨by omega, by omega⟩ ⟨by omega, by omega⟩ ⟨by omega, by omega⟩ ⟨by omega, by omega⟩ ⟨by omega, by omega⟩ ⟨by omega, by omega⟩ ⟨fun _ => hk1 (fun w x hx => g3 w x (lt x hx) hx) M3 o3 ⟨by decide, fun q hq => ?_, by rw [e3]; omega, by rw [e3]; omega⟩, fun y => absurd (by decide) y⟩
      by_cases y : ∃ x : Nat, x < 5200 ∧ F x ≠ none ∧ gFp cs i n x = (q : Int)
      · exact (c3 q hq y).cl e3 (Nat.le_refl _)
      · have no : gShft F cs i n q = none := Classical.byContradiction fun w => by
          obtain ⟨x, x1, x2⟩ := gShft_ex w
          exact y ⟨x, lt x x1, x1, x2⟩
        rw [no]
        exact ⟨fun _ => z3 q hq y, fun S tg e => absurd e (fun y => nomatch y)⟩
    | succ u ih =>
      intro p E M3 hp o3 e3 l3 c3 z3 g3
      have st3 := hst.sl (t := 41) (by omega) o3
      have cl := st3.2.1 p (by omega)
      have n0 := gmCl.n0 (F := F) cl
      have eA : ((s : Int) * 5200 + (p : Int)).toNat = s * 5200 + p := by omega
      have sle := gSp_le (F := F) (show p + 1 ≤ 5200 by omega)
      have sx := gSp_x F p
      have pp : 0 ≤ (p : Int) ∧ (p : Int) < 5200 := by omega
      -- nothing came
      have stay : (F p = none ∨ gFp cs i n p = -1) → (0 < n → F p = none) → wp l G y_GM_shift (gRm (d + 1 + 1 + 1)) true (kkI X k) true 32 [.val (gR G o), .val (gI cs), .val (gI i), .val (gI n), .val (gI (gFm cs)), .val (gI (s : Int)), .val (gI ((p + 1 : Nat) : Int)), .unset, .unset, .unset, .unset] [] X M3 0 0 := fun hno hno2 => by
        have iff : ∀ q : Nat, (∃ x : Nat, x < p + 1 ∧ F x ≠ none ∧ gFp cs i n x = (q : Int)) → ∃ x : Nat, x < p ∧ F x ≠ none ∧ gFp cs i n x = (q : Int) := fun q ⟨x, x1, x2, x3⟩ => by
          refine ⟨x, ?_, x2, x3⟩
          rcases Nat.lt_or_ge x p with w | w
          · exact w
          · have e : x = p := by omega
            subst e
            rcases hno with w2 | w2
            · exact absurd w2 x2
            · omega
        refine ih (p + 1) E M3 (by omega) o3 e3 (by omega) (fun q hq y => c3 q hq (iff q y)) (fun q hq y => z3 q hq (fun ⟨x, x1, x2, x3⟩ => y ⟨x, by omega, x2, x3⟩)) (fun w x hx hy => ?_)
        rcases Nat.lt_or_ge x p with w2 | w2
        · exact g3 w x w2 hy
        · rw [show x = p by omega] at hy; exact absurd (hno2 w) hy
      -- it comes to q
      have come : ∀ (q : Nat) (S tg : List Int), F p = some (S, tg) → gFp cs i n p = (q : Int) → cV l G y_GM_copy (gRm (d + 1 + 1)) true [gR G o, gI (s : Int), gI (p : Int), gI 41, gI (q : Int)] X M3 (fun M35 => ((0 : Int) ≤ 213200 + (q : Int) ∧ 213200 + (q : Int) < 218400) ∧ (g32 (M35 (o + 19) (Int.toNat (213200 + (q : Int)))) → ((¬ M35 (o + 19) (Int.toNat (213200 + (q : Int))) = 3 → (wp l G y_GM_shift (gRm (d + 1 + 1 + 1)) true (kkI X k) true 32 [.val (gR G o), .val (gI cs), .val (gI i), .val (gI n), .val (gI (gFm cs)), .val (gI (s : Int)), .val (gI ((p + 1 : Nat) : Int)), .unset, .unset, .unset, .unset] [] X M35 0 0)) ∧ (M35 (o + 19) (Int.toNat (213200 + (q : Int))) = 3 → (cV l G y_GM_follow (gRm (d + 1 + 1)) true [gR G o, gI (q : Int), gI cs, gI i, gI n, gI (gFm cs)] X M35 (fun M37 => wp l G y_GM_shift (gRm (d + 1 + 1 + 1)) true (kkI X k) true 32 [.val (gR G o), .val (gI cs), .val (gI i), .val (gI n), .val (gI (gFm cs)), .val (gI (s : Int)), .val (gI ((p + 1 : Nat) : Int)), .unset, .unset, .unset, .unset] [] X M37 0 0)))))) := by
        intro q S tg ex hq
        have ok := (hF p S tg ex).2
        have l50 := (gRefs_ok ok.1).2
        have bq := gFp_bd hL (p := (p : Int)) (by omega)
        have q5 : q < 5200 := by omega
        have ln : gLnX (F p) = tg.length := by rw [ex]; rfl
        have e2 := gShft_s hL hF ex hq
        have cl2 : gmCl M3 o s p (some (S, tg)) := by rw [← ex]; exact cl
        -- what holds behind it
        have fin : ∀ M5 : gM, gOff (gCyR o 41 q E) M3 M5 → M5 (o + 25) 41 = ((E + tg.length : Nat) : Int) → gmClR M5 o 41 q (gShft F cs i n q) E (E + tg.length) → wp l G y_GM_shift (gRm (d + 1 + 1 + 1)) true (kkI X k) true 32 [.val (gR G o), .val (gI cs), .val (gI i), .val (gI n), .val (gI (gFm cs)), .val (gI (s : Int)), .val (gI ((p + 1 : Nat) : Int)), .unset, .unset, .unset, .unset] [] X M5 0 0 := fun M5 o5 e5 c5 => by
          refine ih (p + 1) (E + tg.length) M5 (by omega) (o3.tr (gCyR.sl o5 q5)) e5 (by omega) (fun x hx y => ?_) (fun x hx y => ?_) (fun w x hx hy => ?_)
          · by_cases w : x = q
            · subst w
              exact c5.wd (Nat.zero_le _) (Nat.le_refl _)
            · have y2 : ∃ z : Nat, z < p ∧ F z ≠ none ∧ gFp cs i n z = (x : Int) := by
                obtain ⟨z, z1, z2, z3⟩ := y
                refine ⟨z, ?_, z2, z3⟩
                rcases Nat.lt_or_ge z p with v | v
                · exact v
                · rw [show z = p by omega, hq] at z3; exact absurd (by omega) w
              exact ((c3 x hx y2).kp (gCyR.bs o5) (fun i i1 i2 => o5 _ _ (by unfold gCyR; omega)) (fun j j1 j2 => o5 _ _ (by unfold gCyR; omega))).wd (Nat.le_refl _) (by omega)
          · have w : x ≠ q := fun w => y ⟨p, by omega, gnE_s ex, by rw [hq, w]⟩
            rw [o5 _ _ (by unfold gCyR; omega)]
            exact z3 x hx (fun ⟨z, z1, z2, z3⟩ => y ⟨z, by omega, z2, z3⟩)
          · rcases Nat.lt_or_ge x p with w2 | w2
            · exact g3 w x w2 hy
            · rw [show x = p by omega, hq]; omega
        refine r_copy (s := s) (t := 41) (p := p) (q := q) (E := E) (x := some (S, tg)) hX (by omega) (by omega) (by decide) (by omega) q5 cl2 (fun S2 tg2 e => by cases e; exact ok) st3.2.2.2 e3 (by show E + tg.length ≤ 20750; omega) (fun M4 o4 c4 e4 => ?_)
        have c4' : gmClR M4 o 41 q (some (S, tg)) E (E + tg.length) := c4
        have a19 := (c4'.2 S tg rfl).1
        rw [show (213200 + (q : Int)).toNat = 41 * 5200 + q by omega, a19]
        refine ⟨⟨by omega, by omega⟩, fun _ => ⟨fun w => ?_, fun w => ?_⟩⟩
        · have r0 := (gSrt_rf w).1
          have t0 : tg = [] := List.eq_nil_of_length_eq_zero (by rw [ok.2.2.2.1, r0]; rfl)
          refine fin M4 o4 e4 ?_
          rw [e2]
          have : gFoT S tg cs i n = tg := by rw [t0]; rfl
          rw [this]
          exact c4'
        · refine r_follow hX q5 c4' w ok (by omega) hL (fun M5 o5 c5 => fin M5 ?_ ?_ ?_)
          · exact o4.tr (o5.mono (fun a j h => by unfold gMoR at h; unfold gCyR; omega))
          · rw [o5 _ _ (by unfold gMoR; omega)]; exact e4
          · rw [e2]; exact c5
      have cb := gmCo_m hL.1 pp
      have mb := gmMv_bd (i := i) (m := gFm cs) (v := gmCo (p : Int) cs) hn1 cb hi2.1
      have ef : gFp cs i n p = gmWi (p : Int) cs (gmMv (gmCo (p : Int) cs) i n (gFm cs)) := by unfold gFp; rw [if_neg (by omega)]
      have cc : (cs = 0 → gmCo (p : Int) cs = (p : Int) / 26) ∧ (¬ cs = 0 → gmCo (p : Int) cs = (p : Int) % 26) := by unfold gmCo; exact ⟨fun w => if_pos w, fun w => if_neg w⟩
      refine w_GM_shift_32 hX ⟨by omega, by omega⟩ ⟨by omega, by omega⟩ ⟨by omega, by omega⟩ ⟨by omega, by omega⟩ ⟨by omega, by omega⟩ ⟨by omega, by omega⟩ ⟨fun y => absurd y (by omega), fun _ => ?_⟩
      rw [eA, Int.tdiv_eq_ediv_of_nonneg pp.1, Int.tmod_eq_emod_of_nonneg pp.1, w32_id (x := (p : Int) / 26) ⟨by omega, by omega⟩, w32_id (x := (p : Int) % 26) ⟨by omega, by omega⟩, w32_id (x := (p : Int) + 1) ⟨by omega, by omega⟩, show (p : Int) + 1 = ((p + 1 : Nat) : Int) by omega]
      refine ⟨⟨by omega, by omega⟩, fun _ => ⟨fun y => ?_, fun y => stay (Or.inl (Classical.byContradiction fun w => n0.mp y w)) (fun _ => Classical.byContradiction fun w => n0.mp y w)⟩⟩
      obtain ⟨S, tg, ex⟩ : ∃ S tg, F p = some (S, tg) := by
        cases ex : F p with
        | none => exact absurd (n0.mpr (fun w => w ex)) y
        | some w => exact ⟨w.1, w.2, rfl⟩
      have w109 : (0 ≤ gmMv (gmCo (p : Int) cs) i n (gFm cs) ∨ n < 0) → wp l G y_GM_shift (gRm (d + 1 + 1 + 1)) true (kkI X k) true 109 [.val (gR G o), .val (gI cs), .val (gI i), .val (gI n), .val (gI (gFm cs)), .val (gI (s : Int)), .val (gI (p : Int)), .val (gI ((p : Int) % 26)), .val (gI ((p : Int) / 26)), .val (gI (gmMv (gmCo (p : Int) cs) i n (gFm cs))), .unset] [] X M3 0 0 := by
        intro hg
        refine w_GM_shift_109 hX ⟨by omega, by omega⟩ ⟨by omega, by omega⟩ ⟨by omega, by omega⟩ ⟨by omega, by omega⟩ ⟨by omega, by omega⟩ ⟨by omega, by omega⟩ ⟨by omega, by omega⟩ ⟨by omega, by omega⟩ ⟨by omega, by omega⟩ ?_
        rw [w32_id (x := (p : Int) + 1) ⟨by omega, by omega⟩, show (p : Int) + 1 = ((p + 1 : Nat) : Int) by omega]
        refine ⟨fun w => ⟨fun z => ?_, fun z => ?_⟩, fun w => stay (Or.inr ?_) (fun v => absurd hg (by omega))⟩
        · have eq : gFp cs i n p = (p : Int) % 26 + 26 * gmMv (gmCo (p : Int) cs) i n (gFm cs) := by rw [ef]; unfold gmWi; rw [if_neg (by omega), if_pos z]
          have bq := gFp_bd hL (p := (p : Int)) (by omega)
          have := come (gFp cs i n p).toNat S tg ex (by omega)
          rw [show (((gFp cs i n p).toNat : Nat) : Int) = (p : Int) % 26 + 26 * gmMv (gmCo (p : Int) cs) i n (gFm cs) by omega] at this
          exact this
        · have eq : gFp cs i n p = gmMv (gmCo (p : Int) cs) i n (gFm cs) + 26 * ((p : Int) / 26) := by rw [ef]; unfold gmWi; rw [if_neg (by omega), if_neg z]
          have bq := gFp_bd hL (p := (p : Int)) (by omega)
          have := come (gFp cs i n p).toNat S tg ex (by omega)
          rw [show (((gFp cs i n p).toNat : Nat) : Int) = gmMv (gmCo (p : Int) cs) i n (gFm cs) + 26 * ((p : Int) / 26) by omega] at this
          exact this
        · rw [ef]; unfold gmWi; exact if_pos (by omega)
      have gone : ¬ 0 ≤ gmMv (gmCo (p : Int) cs) i n (gFm cs) → gFp cs i n p = -1 := fun w => by rw [ef]; unfold gmWi; exact if_pos (by omega)
      refine ⟨fun z => ?_, fun z => ?_⟩
      · rw [← cc.1 z]
        refine c_GM_moved ⟨by omega, by omega⟩ ⟨by omega, by omega⟩ hn2 ⟨by omega, by omega⟩ ?_
        rw [cc.1 z]
        rw [cc.1 z] at w109 gone
        exact ⟨fun w => w109 (Or.inl w), fun w => ⟨fun v => w109 (Or.inr (by omega)), fun v => c_GM_no hX ⟨by decide, by decide⟩ (hk0 ⟨by omega, p, gnE_s ex, gone w⟩ M3 o3)⟩⟩
      · rw [← cc.2 z]
        refine c_GM_moved ⟨by omega, by omega⟩ ⟨by omega, by omega⟩ hn2 ⟨by omega, by omega⟩ ?_
        rw [cc.2 z]
        rw [cc.2 z] at w109 gone
        exact ⟨fun w => w109 (Or.inl w), fun w => ⟨fun v => w109 (Or.inr (by omega)), fun v => c_GM_no hX ⟨by decide, by decide⟩ (hk0 ⟨by omega, p, gnE_s ex, gone w⟩ M3 o3)⟩⟩
  have oC : gOff (gSlR o 41) M (gmClear M o 41) := fun a j na => by
    unfold gmClear
    unfold gSlR at na
    by_cases y : a = o + 25
    · subst y
      rw [gUp_k (by omega), gFl_a (by omega)]
    · rw [gUp_a y]
      by_cases z : a = o + 19
      · subst z
        exact gFl_out (by omega)
      · exact gFl_a z
  have k0 := key 5200 0 0 (gmClear M o 41) (by omega) oC (by unfold gmClear; exact gUp_eq _ _ _ _) (Nat.zero_le _) (fun q hq y => by obtain ⟨x, x1, _⟩ := y; exact absurd x1 (Nat.not_lt_zero _)) (fun q hq y => by
    unfold gmClear
    rw [gUp_a (by omega), gFl_in (by omega) (by omega)]) (fun _ x hx => absurd hx (Nat.not_lt_zero _))
  have em : (nw : Int) % 41 = (s : Int) := by omega
  refine e_GM_shift (w_GM_shift_0 hX hs ⟨by omega, by omega⟩ ⟨by omega, by omega⟩ ?_)
  rw [h36]
  refine ⟨fun z _ => c_GM_slot (by omega) (by omega) (c_GM_clear hX (by decide) ?_), fun z _ => c_GM_slot (by omega) (by omega) (c_GM_clear hX (by decide) ?_)⟩
  · rw [em]
    rw [show gFm cs = 200 from if_pos z] at k0
    exact k0
  · rw [em]
    rw [show gFm cs = 26 from if_neg z] at k0
    exact k0
end ggD
