/-! The reference's fill, up to accept. -/
theorem gCn_bd {Q : Nat → Prop} : ∀ n, gCn Q n ≤ n := by
  intro n
  induction n with
  | zero => exact Nat.le_refl _
  | succ n ih =>
    by_cases y : Q n
    · rw [gCn_y y]; omega
    · rw [gCn_n y]; omega
section ggE
variable {l : Launch} {G : gG} {d : Nat} {X : gX} {M M2 : gM} {o nw s : Nat} {F : gSht}
theorem gMvC_l (x : Option (List Int × List Int)) (a b : Int) : gLnX (gMvC x a b) = gLnX x := by
  cases x with
  | none => rfl
  | some y => exact gMvT_l
theorem gMvC_n (x : Option (List Int × List Int)) (a b : Int) : gMvC x a b = none ↔ x = none := by
  cases x with
  | none => exact ⟨fun _ => rfl, fun _ => rfl⟩
  | some y => exact ⟨fun h => absurd h (fun w => nomatch w), fun h => absurd h (fun w => nomatch w)⟩
/-- a place behind: copied, and moved if it is a formula -/
theorem r_fill {k : Int → gM → Prop} {x y c r e f : Nat} (hX : gmX X o) (h36 : M o 36 = (nw : Int)) (hnw : nw < 99999) (es : s = nw % 41) (hst : gmSt M o s F) (hF : gSok F) (hx : x < 26) (hy : y < 200) (hc : c ≤ e ∧ e < 26) (hr : r ≤ f ∧ f < 200)
    (hk0 : 400 < gCn (gnE (gWrt F (F (x + 26 * y)) (x + 26 * y) c r e f)) 5200 → k 0 (gUp M o 0 2))
    (hk1 : gCn (gnE (gWrt F (F (x + 26 * y)) (x + 26 * y) c r e f)) 5200 ≤ 400 → ∀ M3, gOff (gSlR o 41) M M3 → gmSt M3 o 41 (gWrt F (F (x + 26 * y)) (x + 26 * y) c r e f) → cI l G y_GM_accept (gRm (d + 1)) true [gR G o] X M3 k) :
    cI l G y_GM_fill (gRm (d + 1 + 1)) true [gR G o, gI (x : Int), gI (y : Int), gI (c : Int), gI (r : Int), gI (e : Int), gI (f : Int)] X M k := by
  obtain ⟨p, hp⟩ : ∃ p, p = x + 26 * y := ⟨_, rfl⟩
  rw [← hp] at hk0 hk1
  have p5 : p < 5200 := by omega
  have xok : ∀ S tg, F p = some (S, tg) → gCok S tg := fun S tg e => (hF p S tg e).2
  have hF2 : gSok (gWrt F (F p) p c r e f) := hF.wrt hc.2 hr.2 xok
  obtain ⟨F2, eF2⟩ : ∃ F2, F2 = gWrt F (F p) p c r e f := ⟨_, rfl⟩
  have fi : ∀ q, gIn4 c r e f q → F2 q = gMvC (F p) ((q % 26 : Nat) - (p % 26 : Nat) : Int) ((q / 26 : Nat) - (p / 26 : Nat) : Int) := fun q h => by rw [eF2]; exact gWrt_i h
  have fo : ∀ q, ¬ gIn4 c r e f q → F2 q = F q := fun q h => by rw [eF2]; exact gWrt_o h
  rw [← eF2] at hk0 hk1 hF2
  clear eF2
  have s41 : s < 41 := by omega
  have ep : ((s : Int) * 5200 + ((x : Int) + 26 * (y : Int))).toNat = s * 5200 + p := by omega
  have np := gmCl.n0 (F := F) (hst.2.1 p p5)
  -- the second loop
  have two : gCn (gnE F2) 5200 ≤ 400 → ∀ (fu : Int), (fu = 0 ∨ fu = 1) → (fu = 0 ↔ F p = none) → ∀ (u q : Nat) (M3 : gM), q + u = 5200 → gOff (gSlR o 41) M M3 → M3 (o + 25) 41 = (gSp F2 q : Int) → (∀ z, z < q → gmClR M3 o 41 z (F2 z) 0 (gSp F2 q)) → wp l G y_GM_fill (gRm (d + 1 + 1)) true (kkI X k) true 209 [.val (gR G o), .val (gI (x : Int)), .val (gI (y : Int)), .val (gI (c : Int)), .val (gI (r : Int)), .val (gI (e : Int)), .val (gI (f : Int)), .val (gI (p : Int)), .val (gI (s : Int)), .val (gI fu), .unset, .val (gI (q : Int)), .unset] [] X M3 0 0 := by
    intro n4 fu f01 ff u
    have s50 := gSp_50 hF2.r50 5200
    induction u with
    | zero =>
      intro q M3 hq o3 e3 c3
      have e : q = 5200 := by omega
      subst e
      exact w_GM_fill_209 hX ⟨by omega, by omega⟩ ⟨by omega, by omega⟩ ⟨by omega, by omega⟩ ⟨by omega, by omega⟩ ⟨by omega, by omega⟩ ⟨by omega, by omega⟩ ⟨by omega, by omega⟩ ⟨by omega, by omega⟩ ⟨by omega, by omega⟩ ⟨by omega, by omega⟩ ⟨fun _ => hk1 n4 M3 o3 ⟨by decide, fun z hz => (c3 z hz).cl e3 (Nat.le_refl _), by rw [e3]; omega, by rw [e3]; omega⟩, fun w => absurd (by decide) w⟩
    | succ u ih =>
      intro q M3 hq o3 e3 c3
      have st3 := hst.sl (t := 41) (by omega) o3
      have sle := gSp_le (F := F2) (show q + 1 ≤ 5200 by omega)
      have sx := gSp_x F2 q
      have nx : ∀ M5 : gM, gOff (gCyR o 41 q (gSp F2 q)) M3 M5 → M5 (o + 25) 41 = ((gSp F2 q + gLnX (F2 q) : Nat) : Int) → gmClR M5 o 41 q (F2 q) (gSp F2 q) (gSp F2 q + gLnX (F2 q)) → wp l G y_GM_fill (gRm (d + 1 + 1)) true (kkI X k) true 330 [.val (gR G o), .val (gI (x : Int)), .val (gI (y : Int)), .val (gI (c : Int)), .val (gI (r : Int)), .val (gI (e : Int)), .val (gI (f : Int)), .val (gI (p : Int)), .val (gI (s : Int)), .val (gI fu), .unset, .val (gI (q : Int)), .unset] [] X M5 0 0 := fun M5 o5 e5 c5 => by
        refine w_GM_fill_330 hX ⟨by omega, by omega⟩ ⟨by omega, by omega⟩ ⟨by omega, by omega⟩ ⟨by omega, by omega⟩ ⟨by omega, by omega⟩ ⟨by omega, by omega⟩ ⟨by omega, by omega⟩ ⟨by omega, by omega⟩ ⟨by omega, by omega⟩ ⟨by omega, by omega⟩ ?_
        rw [w32_id (x := (q : Int) + 1) ⟨by omega, by omega⟩, show (q : Int) + 1 = ((q + 1 : Nat) : Int) by omega]
        refine ih (q + 1) M5 (by omega) (o3.tr (gCyR.sl o5 (by omega))) (by rw [e5, sx]) (fun z hz => ?_)
        rw [sx]
        by_cases w : z = q
        · subst w
          exact c5.wd (Nat.zero_le _) (Nat.le_refl _)
        · exact ((c3 z (by omega)).kp (gCyR.bs o5) (fun i i1 i2 => o5 _ _ (by unfold gCyR; omega)) (fun j j1 j2 => o5 _ _ (by unfold gCyR; omega))).wd (Nat.le_refl _) (by omega)
      have out : ¬ gIn4 c r e f q → wp l G y_GM_fill (gRm (d + 1 + 1)) true (kkI X k) true 260 [.val (gR G o), .val (gI (x : Int)), .val (gI (y : Int)), .val (gI (c : Int)), .val (gI (r : Int)), .val (gI (e : Int)), .val (gI (f : Int)), .val (gI (p : Int)), .val (gI (s : Int)), .val (gI fu), .unset, .val (gI (q : Int)), .unset] [] X M3 0 0 := fun w => by
        refine w_GM_fill_260 hX ⟨by omega, by omega⟩ ⟨by omega, by omega⟩ ⟨by omega, by omega⟩ ⟨by omega, by omega⟩ ⟨by omega, by omega⟩ ⟨by omega, by omega⟩ ⟨by omega, by omega⟩ ⟨by omega, by omega⟩ ⟨by omega, by omega⟩ ⟨by omega, by omega⟩ (w_GM_fill_261 hX ⟨by omega, by omega⟩ ⟨by omega, by omega⟩ ⟨by omega, by omega⟩ ⟨by omega, by omega⟩ ⟨by omega, by omega⟩ ⟨by omega, by omega⟩ ⟨by omega, by omega⟩ ⟨by omega, by omega⟩ ⟨by omega, by omega⟩ ⟨by omega, by omega⟩ (g32_c rfl) ⟨fun _ => ?_, fun v => absurd rfl v⟩)
        have e2 := fo q w
        refine r_copy (s := s) (t := 41) (p := q) (q := q) (E := gSp F2 q) (x := F q) hX (by omega) (by omega) (by decide) (by omega) (by omega) (st3.2.1 q (by omega)) (fun S tg ex => (hF q S tg ex).2) st3.2.2.2 e3 (by rw [← e2]; omega) (fun M4 o4 c4 e4 => ⟨fun _ => nx M4 o4 ?_ ?_, fun v => absurd rfl v⟩)
        · rw [e2]; exact e4
        · rw [e2]; exact c4
      have ins : gIn4 c r e f q → wp l G y_GM_fill (gRm (d + 1 + 1)) true (kkI X k) true 261 [.val (gR G o), .val (gI (x : Int)), .val (gI (y : Int)), .val (gI (c : Int)), .val (gI (r : Int)), .val (gI (e : Int)), .val (gI (f : Int)), .val (gI (p : Int)), .val (gI (s : Int)), .val (gI fu), .unset, .val (gI (q : Int)), .unset] [gI 1] X M3 0 0 := fun w => by
        have e2 := fi q w
        have ln : gLnX (F2 q) = gLnX (F p) := by rw [e2]; exact gMvC_l _ _ _
        refine w_GM_fill_261 hX ⟨by omega, by omega⟩ ⟨by omega, by omega⟩ ⟨by omega, by omega⟩ ⟨by omega, by omega⟩ ⟨by omega, by omega⟩ ⟨by omega, by omega⟩ ⟨by omega, by omega⟩ ⟨by omega, by omega⟩ ⟨by omega, by omega⟩ ⟨by omega, by omega⟩ (g32_c rfl) ⟨fun v => absurd v (by decide), fun _ => ?_⟩
        refine r_copy (s := s) (t := 41) (p := p) (q := q) (E := gSp F2 q) (x := F p) hX (by omega) (by omega) (by decide) (by omega) (by omega) (st3.2.1 p p5) (fun S tg ex => (hF p S tg ex).2) st3.2.2.2 e3 (by omega) (fun M4 o4 c4 e4 => ⟨fun v => absurd v (by decide), fun _ => ⟨fun v => ?_, fun v => ?_⟩⟩)
        · have z := ff.mp v
          have e5 : F2 q = F p := by rw [e2, z]; rfl
          exact nx M4 o4 (by rw [ln]; exact e4) (by rw [e5]; exact c4)
        · have z : F p ≠ none := fun z => v (ff.mpr z)
          cases ex : F p with
          | none => exact absurd ex z
          | some wv =>
            obtain ⟨S, tg⟩ := wv
            have ok := xok S tg ex
            rw [ex] at c4 e4 ln
            have c4' : gmClR M4 o 41 q (some (S, tg)) (gSp F2 q) (gSp F2 q + tg.length) := c4
            have a19 := (c4'.2 S tg rfl).1
            have e6 : F2 q = some (S, gMvT S tg ((q % 26 : Nat) - (p % 26 : Nat) : Int) ((q / 26 : Nat) - (p / 26 : Nat) : Int)) := by rw [e2, ex]; rfl
            have lt : gLnX (F2 q) = tg.length := ln
            rw [show (213200 + (q : Int)).toNat = 41 * 5200 + q by omega, a19]
            refine ⟨⟨by omega, by omega⟩, fun _ => ⟨fun h3 => ?_, fun h3 => ?_⟩⟩
            · have r0 := (gSrt_rf h3).1
              have t0 : tg = [] := List.eq_nil_of_length_eq_zero (by rw [ok.2.2.2.1, r0]; rfl)
              refine nx M4 o4 (by rw [ln]; exact e4) ?_
              rw [lt, e6]
              have : gMvT S tg ((q % 26 : Nat) - (p % 26 : Nat) : Int) ((q / 26 : Nat) - (p / 26 : Nat) : Int) = tg := by rw [t0]; rfl
              rw [this]
              exact c4'
            · rw [Int.tmod_eq_emod_of_nonneg (show 0 ≤ (q : Int) by omega), Int.tdiv_eq_ediv_of_nonneg (show 0 ≤ (q : Int) by omega), show (q : Int) % 26 - (x : Int) = ((q % 26 : Nat) - (p % 26 : Nat) : Int) by omega, show (q : Int) / 26 - (y : Int) = ((q / 26 : Nat) - (p / 26 : Nat) : Int) by omega]
              refine r_move hX (by omega) c4' h3 ok (by omega) (by omega) (by omega) (fun M5 o5 c5 => nx M5 ?_ ?_ ?_)
              · exact o4.tr (o5.mono (fun a j h => by unfold gMoR at h; unfold gCyR; omega))
              · rw [o5 _ _ (by unfold gMoR; omega), ln]; exact e4
              · rw [lt, e6]; exact c5
      refine w_GM_fill_209 hX ⟨by omega, by omega⟩ ⟨by omega, by omega⟩ ⟨by omega, by omega⟩ ⟨by omega, by omega⟩ ⟨by omega, by omega⟩ ⟨by omega, by omega⟩ ⟨by omega, by omega⟩ ⟨by omega, by omega⟩ ⟨by omega, by omega⟩ ⟨by omega, by omega⟩ ⟨fun w => absurd w (by omega), fun _ => ?_⟩
      rw [Int.tmod_eq_emod_of_nonneg (show 0 ≤ (q : Int) by omega), Int.tdiv_eq_ediv_of_nonneg (show 0 ≤ (q : Int) by omega), w32_id (x := (q : Int) % 26) ⟨by omega, by omega⟩, w32_id (x := (q : Int) / 26) ⟨by omega, by omega⟩]
      exact ⟨fun w => out (by unfold gIn4; omega), fun w1 => ⟨fun w => out (by unfold gIn4; omega), fun w2 => ⟨fun w => out (by unfold gIn4; omega), fun w3 => ⟨fun w => out (by unfold gIn4; omega), fun w4 => ins (by unfold gIn4; omega)⟩⟩⟩⟩
  -- the count
  have one : ∀ (fu : Int), (fu = 0 ∨ fu = 1) → (fu = 0 ↔ F p = none) → ∀ (u q : Nat), q + u = 5200 → wp l G y_GM_fill (gRm (d + 1 + 1)) true (kkI X k) true 93 [.val (gR G o), .val (gI (x : Int)), .val (gI (y : Int)), .val (gI (c : Int)), .val (gI (r : Int)), .val (gI (e : Int)), .val (gI (f : Int)), .val (gI (p : Int)), .val (gI (s : Int)), .val (gI fu), .val (gI (gCn (gnE F2) q : Int)), .val (gI (q : Int)), .unset] [] X M 0 0 := by
    intro fu f01 ff u
    induction u with
    | zero =>
      intro q hq
      have e : q = 5200 := by omega
      subst e
      have cb := gCn_bd (Q := gnE F2) 5200
      refine w_GM_fill_93 hX ⟨by omega, by omega⟩ ⟨by omega, by omega⟩ ⟨by omega, by omega⟩ ⟨by omega, by omega⟩ ⟨by omega, by omega⟩ ⟨by omega, by omega⟩ ⟨by omega, by omega⟩ ⟨by omega, by omega⟩ ⟨by omega, by omega⟩ ⟨by omega, by omega⟩ ⟨by omega, by omega⟩ ⟨fun _ => ⟨fun w => c_GM_clear hX (by decide) ?_, fun w => c_GM_no hX ⟨by decide, by decide⟩ (hk0 (by omega))⟩, fun w => absurd (by decide) w⟩
      refine two (by omega) fu f01 ff 5200 0 (gmClear M o 41) (by omega) (fun a j na => ?_) (by unfold gmClear; exact gUp_eq _ _ _ _) (fun z hz => absurd hz (Nat.not_lt_zero _))
      unfold gmClear
      unfold gSlR at na
      by_cases y : a = o + 25
      · subst y
        rw [gUp_k (by omega), gFl_a (by omega)]
      · rw [gUp_a y]
        by_cases z : a = o + 19
        · subst z
          exact gFl_out (by omega)
        · exact gFl_a z
    | succ u ih =>
      intro q hq
      have cb := gCn_bd (Q := gnE F2) q
      have i1 := ih (q + 1) (by omega)
      have nq := gmCl.n0 (F := F) (hst.2.1 q (by omega))
      have eA : ((s : Int) * 5200 + (q : Int)).toNat = s * 5200 + q := by omega
      have nx : ∀ v : Int, v = (gCn (gnE F2) (q + 1) : Int) → wp l G y_GM_fill (gRm (d + 1 + 1)) true (kkI X k) true 180 [.val (gR G o), .val (gI (x : Int)), .val (gI (y : Int)), .val (gI (c : Int)), .val (gI (r : Int)), .val (gI (e : Int)), .val (gI (f : Int)), .val (gI (p : Int)), .val (gI (s : Int)), .val (gI fu), .val (gI v), .val (gI (q : Int)), .unset] [] X M 0 0 := fun v ev => by
        subst ev
        have cb2 := gCn_bd (Q := gnE F2) (q + 1)
        refine w_GM_fill_180 hX ⟨by omega, by omega⟩ ⟨by omega, by omega⟩ ⟨by omega, by omega⟩ ⟨by omega, by omega⟩ ⟨by omega, by omega⟩ ⟨by omega, by omega⟩ ⟨by omega, by omega⟩ ⟨by omega, by omega⟩ ⟨by omega, by omega⟩ ⟨by omega, by omega⟩ ⟨by omega, by omega⟩ ?_
        rw [w32_id (x := (q : Int) + 1) ⟨by omega, by omega⟩, show (q : Int) + 1 = ((q + 1 : Nat) : Int) by omega]
        exact i1
      have up : w32 ((gCn (gnE F2) q : Int) + 1) = (gCn (gnE F2) q : Int) + 1 := w32_id ⟨by omega, by omega⟩
      have out : ¬ gIn4 c r e f q → wp l G y_GM_fill (gRm (d + 1 + 1)) true (kkI X k) true 144 [.val (gR G o), .val (gI (x : Int)), .val (gI (y : Int)), .val (gI (c : Int)), .val (gI (r : Int)), .val (gI (e : Int)), .val (gI (f : Int)), .val (gI (p : Int)), .val (gI (s : Int)), .val (gI fu), .val (gI (gCn (gnE F2) q : Int)), .val (gI (q : Int)), .unset] [] X M 0 0 := fun w => by
        have e2 : gnE F2 q ↔ gnE F q := by unfold gnE; rw [fo q w]
        refine w_GM_fill_144 hX ⟨by omega, by omega⟩ ⟨by omega, by omega⟩ ⟨by omega, by omega⟩ ⟨by omega, by omega⟩ ⟨by omega, by omega⟩ ⟨by omega, by omega⟩ ⟨by omega, by omega⟩ ⟨by omega, by omega⟩ ⟨by omega, by omega⟩ ⟨by omega, by omega⟩ ⟨by omega, by omega⟩ ⟨fun _ => ?_, fun v => absurd rfl v⟩
        rw [eA, up]
        refine ⟨⟨by omega, by omega⟩, fun _ => ⟨fun v => nx _ ?_, fun v => nx _ ?_⟩⟩
        · rw [gCn_n (fun z => nq.mp v (e2.mp z))]
        · rw [gCn_y (e2.mpr (Classical.byContradiction fun z => v (nq.mpr z)))]; omega
      refine w_GM_fill_93 hX ⟨by omega, by omega⟩ ⟨by omega, by omega⟩ ⟨by omega, by omega⟩ ⟨by omega, by omega⟩ ⟨by omega, by omega⟩ ⟨by omega, by omega⟩ ⟨by omega, by omega⟩ ⟨by omega, by omega⟩ ⟨by omega, by omega⟩ ⟨by omega, by omega⟩ ⟨by omega, by omega⟩ ⟨fun w => absurd w (by omega), fun _ => ?_⟩
      rw [Int.tmod_eq_emod_of_nonneg (show 0 ≤ (q : Int) by omega), Int.tdiv_eq_ediv_of_nonneg (show 0 ≤ (q : Int) by omega), w32_id (x := (q : Int) % 26) ⟨by omega, by omega⟩, w32_id (x := (q : Int) / 26) ⟨by omega, by omega⟩, up]
      refine ⟨fun w => out (by unfold gIn4; omega), fun w1 => ⟨fun w => out (by unfold gIn4; omega), fun w2 => ⟨fun w => out (by unfold gIn4; omega), fun w3 => ⟨fun w => out (by unfold gIn4; omega), fun w4 => ⟨fun v => absurd v (by decide), fun _ => ⟨fun v => nx _ ?_, fun v => nx _ ?_⟩⟩⟩⟩⟩⟩
      · have e2 := fi q (by unfold gIn4; omega)
        rw [gCn_n (fun z => z (by rw [e2]; exact (gMvC_n _ _ _).mpr (ff.mp v)))]
      · have e2 := fi q (by unfold gIn4; omega)
        rw [gCn_y (fun z => v (ff.mpr ((gMvC_n _ _ _).mp (e2 ▸ z))))]; omega
  have em : (nw : Int) % 41 = (s : Int) := by omega
  refine e_GM_fill (w_GM_fill_0 hX ⟨by omega, by omega⟩ ⟨by omega, by omega⟩ ⟨by omega, by omega⟩ ⟨by omega, by omega⟩ ⟨by omega, by omega⟩ ⟨by omega, by omega⟩ (c_GM_inSheet ⟨by omega, by omega⟩ ⟨by omega, by omega⟩ ?_))
  rw [if_pos (by omega)]
  refine ⟨fun w => absurd w (by decide), fun _ => c_GM_inSheet ⟨by omega, by omega⟩ ⟨by omega, by omega⟩ ?_⟩
  rw [if_pos (by omega)]
  refine ⟨fun w => absurd w (by decide), fun _ => c_GM_inSheet ⟨by omega, by omega⟩ ⟨by omega, by omega⟩ ?_⟩
  rw [if_pos (by omega)]
  refine ⟨fun w => absurd w (by decide), fun _ => ⟨fun w => absurd w (by omega), fun _ => ⟨fun _ => ?_, fun w => absurd (by omega) w⟩⟩⟩
  rw [h36]
  refine fun _ => c_GM_slot (by omega) (by omega) ?_
  rw [em, ep, w32_id (x := (x : Int) + 26 * (y : Int)) ⟨by omega, by omega⟩, show (x : Int) + 26 * (y : Int) = (p : Int) by omega]
  refine ⟨⟨by omega, by omega⟩, fun _ => ⟨fun w => one 0 (Or.inl rfl) ⟨fun _ => Classical.byContradiction fun z => np.mp w z, fun _ => rfl⟩ 5200 0 (by omega), fun w => one 1 (Or.inr rfl) ⟨fun v => absurd v (by decide), fun v => absurd (np.mpr (fun z => z v)) w⟩ 5200 0 (by omega)⟩⟩
end ggE
