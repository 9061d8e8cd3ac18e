/-! The reference's copyAll, contents, ranges. -/
def gSlR (o t : Nat) : Nat → Nat → Prop := fun a j => ((a = o + 19 ∨ a = o + 20 ∨ a = o + 21 ∨ a = o + 22 ∨ a = o + 23) ∧ t * 5200 ≤ j ∧ j < t * 5200 + 5200) ∨ (a = o + 24 ∧ t * 20800 ≤ j ∧ j < t * 20800 + 20800) ∨ (a = o + 25 ∧ j = t)
theorem gSp_x (F : gSht) (p : Nat) : gSp F (p + 1) = gSp F p + gLnX (F p) := by
  cases e : F p with
  | none => rw [gSp_n e]; rfl
  | some y => rw [gSp_s (S := y.1) (tg := y.2) e]; rfl
section gfW
variable {l : Launch} {G : gG} {d : Nat} {X : gX} {M M2 : gM} {o s p t q lo hi E : Nat} {x : Option (List Int × List Int)} {F : gSht}
theorem gCyR.sl (h : gOff (gCyR o t q E) M M2) (hq : q < 5200) : gOff (gSlR o t) M M2 := h.mono (fun a j y => by unfold gCyR at y; unfold gSlR; omega)
theorem gSlR.bs (h : gOff (gSlR o t) M M2) : gmBs M M2 o := ⟨fun i j a b => h _ _ (by unfold gSlR; omega), fun j a => h _ _ (by unfold gSlR; omega)⟩
theorem gmSt.sl (h : gmSt M o s F) (hst : s ≠ t) (k : gOff (gSlR o t) M M2) : gmSt M2 o s F := by
  obtain ⟨h1, h2, h3, h4⟩ := h
  have e : M2 (o + 25) s = M (o + 25) s := k _ _ (by unfold gSlR; omega)
  obtain ⟨E, hE⟩ : ∃ E : Nat, M (o + 25) s = (E : Int) := ⟨(M (o + 25) s).toNat, by omega⟩
  refine ⟨h1, fun p hp => ?_, by rw [e]; exact h3, by rw [e]; exact h4⟩
  exact (((h2 p hp).R hE).kp (gSlR.bs k) (fun i i1 i2 => k _ _ (by unfold gSlR; omega)) (fun j j1 j2 => k _ _ (by unfold gSlR; omega))).cl (e.trans hE) (Nat.le_refl _)
theorem r_copyAll {k : gM → Prop} (hX : gmX X o) (hst : s ≠ t) (ht : t < 42) (h : gmSt M o s F) (hF : gSok F) (hsp : gSp F 5200 ≤ 20750)
    (hk : ∀ M2, gOff (gSlR o t) M M2 → M2 (o + 25) t = (gSp F 5200 : Int) → (∀ p, p < 5200 → gmClR M2 o t p (F p) 0 (gSp F 5200)) → k M2) : cV l G y_GM_copyAll (gRm (d + 1)) true [gR G o, gI (s : Int), gI (t : Int)] X M k := by
  have hs := h.1
  have key : ∀ (u p : Nat) (M3 : gM), p + u = 5200 → gOff (gSlR o t) M M3 → M3 (o + 25) t = (gSp F p : Int) → (∀ q, q < p → gmClR M3 o t q (F q) 0 (gSp F p)) → wp l G y_GM_copyAll (gRm (d + 1)) true (kkV X k) true 7 [.val (gR G o), .val (gI (s : Int)), .val (gI (t : Int)), .val (gI (p : Int))] [] X M3 0 0 := by
    intro u
    induction u with
    | zero =>
      intro p M3 hp o3 e3 c3
      have e : p = 5200 := by omega
      subst e
      exact w_GM_copyAll_7 hX ⟨by omega, by omega⟩ ⟨by omega, by omega⟩ ⟨by omega, by omega⟩ ⟨fun _ => hk M3 o3 e3 c3, fun y => absurd (by decide) y⟩
    | succ u ih =>
      intro p M3 hp o3 e3 c3
      have st3 := h.sl hst o3
      have le := gSp_le (F := F) (show p + 1 ≤ 5200 by omega)
      have sx := gSp_x F p
      refine w_GM_copyAll_7 hX ⟨by omega, by omega⟩ ⟨by omega, by omega⟩ ⟨by omega, by omega⟩ ⟨fun y => absurd y (by omega), fun _ => ?_⟩
      rw [w32_id (x := (p : Int) + 1) ⟨by omega, by omega⟩, show (p : Int) + 1 = ((p + 1 : Nat) : Int) by omega]
      refine r_copy hX hst hs ht (by omega) (by omega) (st3.2.1 p (by omega)) (fun S tg e => (hF p S tg e).2) st3.2.2.2 e3 (by omega) (fun M4 o4 c4 e4 => ?_)
      refine ih (p + 1) M4 (by omega) (o3.tr (gCyR.sl o4 (by omega))) (by rw [e4, sx]) (fun q hq => ?_)
      by_cases y : q = p
      · subst y
        exact c4.wd (Nat.zero_le _) (by omega)
      · exact ((c3 q (by omega)).kp (gCyR.bs o4) (fun i i1 i2 => o4 _ _ (by unfold gCyR; omega)) (fun j j1 j2 => o4 _ _ (by unfold gCyR; omega))).wd (Nat.le_refl _) (by omega)
  refine e_GM_copyAll (w_GM_copyAll_0 hX ⟨by omega, by omega⟩ ⟨by omega, by omega⟩ (c_GM_clear hX ⟨by omega, by omega⟩ ?_))
  refine key 5200 0 _ (by omega) (fun a j na => ?_) ?_ (fun q hq => absurd hq (Nat.not_lt_zero _))
  · unfold gmClear
    unfold gSlR at na
    by_cases y : a = o + 25
    · subst y
      rw [gUp_k (by omega), gFl_a (by omega)]
    · rw [gUp_a y]
      by_cases z : a = o + 19
      · subst z
        exact gFl_out (by omega)
      · exact gFl_a z
  · unfold gmClear
    rw [Int.toNat_natCast, gUp_eq]
    rfl
theorem gmCl.n0 (h : gmCl M o s p (F p)) : M (o + 19) (s * 5200 + p) = 0 ↔ ¬ gnE F p := by
  constructor
  · intro y z
    cases e : F p with
    | none => exact z e
    | some w =>
      have := (h.2 w.1 w.2 e).1
      rcases gSrt_c w.1 with v | v | v <;> omega
  · intro y
    exact h.1 (Classical.byContradiction y)
theorem gmCnt_F (h : ∀ p, p < 5200 → gmCl M o s p (F p)) : ∀ p, p ≤ 5200 → gmCnt M o (s : Int) p = (gCn (gnE F) p : Int) := by
  intro p
  induction p with
  | zero => intro _; rfl
  | succ p ih =>
    intro hp
    have n := gmCl.n0 (F := F) (h p (by omega))
    have e : ((s : Int) * 5200 + (p : Int)).toNat = s * 5200 + p := by omega
    rw [gmCnt, e, ih (by omega)]
    by_cases y : gnE F p
    · rw [if_neg (fun z => n.mp z y), gCn_y y]; omega
    · rw [if_pos (n.mpr y), gCn_n y]; omega
theorem r_ranges {k : Int → gM → Prop} (hX : gmX X o) (h : gmSt M o s F) (hF : gSok F) (hsp : gSp F 5200 ≤ 20750) (hk : k (gRsF F 5200) M) : cI l G y_GM_ranges (gRm (d + 1 + 1 + 1)) false [gR G o, gI (s : Int)] X M k := by
  obtain ⟨hs, hc, he0, he1⟩ := h
  have bdF : ∀ p, p ≤ 5200 → 0 ≤ gRsF F p ∧ gRsF F p ≤ 830000000 := fun p hp => by
    have a := gRsF_bd hF p
    have b := gSp_le (F := F) hp
    omega
  have key : ∀ (u p : Nat), p + u = 5200 → wp l G y_GM_ranges (gRm (d + 1 + 1 + 1)) false (kkI X k) false 4 [.val (gR G o), .val (gI (s : Int)), .val (gI (gRsF F p)), .val (gI (p : Int)), .unset] [] X M 0 0 := by
    intro u
    induction u with
    | zero =>
      intro p hp
      have e : p = 5200 := by omega
      subst e
      have := bdF 5200 (Nat.le_refl _)
      exact w_GM_ranges_4 hX ⟨by omega, by omega⟩ ⟨by omega, by omega⟩ ⟨by omega, by omega⟩ ⟨fun _ => hk, fun y => absurd (by decide) y⟩
    | succ u ih =>
      intro p hp
      have i1 := ih (p + 1) (by omega)
      have bp := bdF p (by omega)
      have bp1 := bdF (p + 1) (by omega)
      have cl := hc p (by omega)
      have eA : ((s : Int) * 5200 + (p : Int)).toNat = s * 5200 + p := by omega
      refine w_GM_ranges_4 hX ⟨by omega, by omega⟩ ⟨by omega, by omega⟩ ⟨by omega, by omega⟩ ⟨fun y => absurd y (by omega), fun _ => ?_⟩
      rw [eA, w32_id (x := (p : Int) + 1) ⟨by omega, by omega⟩, show (p : Int) + 1 = ((p + 1 : Nat) : Int) by omega]
      refine ⟨⟨by omega, by omega⟩, fun _ => ⟨fun y => ?_, fun y => ?_⟩⟩
      · obtain ⟨S, tg, ex⟩ : ∃ S tg, F p = some (S, tg) := by
          cases ex : F p with
          | none => have := cl.1 ex; omega
          | some w => exact ⟨w.1, w.2, rfl⟩
        obtain ⟨a1, a2, a3, a4⟩ := cl.2 S tg ex
        have ok := (hF p S tg ex).2
        have rb := gRs1_bd ok
        obtain ⟨k1, k2, k3, k4, k5, k6⟩ := ok
        have l50 := (gRefs_ok k1).2
        obtain ⟨f, ra, b1, b2, b3, b4, b5⟩ := a4 (a1.symm.trans y)
        obtain ⟨L, R, g1, g2, g3, g4, g5, g6, g7, g8, g9, g10⟩ := b2
        rw [gRsF_s ex] at i1 bp1
        have lp : ∀ (v j : Nat), j + v = tg.length → wp l G y_GM_ranges (gRm (d + 1 + 1 + 1)) false (kkI X k) false 33 [.val (gR G o), .val (gI (s : Int)), .val (gI (gRsF F p + gRs1 S tg j)), .val (gI (p : Int)), .val (gI (j : Int))] [] X M 0 0 := by
          intro v
          induction v with
          | zero =>
            intro j hj
            have e : j = tg.length := by omega
            subst e
            refine w_GM_ranges_33 hX ⟨by omega, by omega⟩ ⟨by omega, by omega⟩ ⟨by omega, by omega⟩ ⟨by omega, by omega⟩ ⟨⟨by omega, by omega⟩, fun _ => ?_⟩
            rw [eA, b1, Int.toNat_natCast, g6, w32_id (x := (p : Int) + 1) ⟨by omega, by omega⟩, show (p : Int) + 1 = ((p + 1 : Nat) : Int) by omega]
            exact ⟨⟨by omega, by omega⟩, fun _ => ⟨fun _ => i1, fun z => absurd (by omega) z⟩⟩
          | succ v ihv =>
            intro j hj
            have iv := ihv (j + 1) (by omega)
            have r1 := rb j (by omega)
            have r2 := rb (j + 1) (by omega)
            rw [gRs1] at iv r2
            have c12 : M (o + 12) (R + j) = gCor S j := (g9 j (by omega)).2.2
            have r24 : ∀ m, m < tg.length → gmRa M o (s : Int) (p : Int) (m : Int) = ((s * 20800 + ra + m : Nat) : Int) := fun m _ => by unfold gmRa; rw [eA, b3]; omega
            refine w_GM_ranges_33 hX ⟨by omega, by omega⟩ ⟨by omega, by omega⟩ ⟨by omega, by omega⟩ ⟨by omega, by omega⟩ ⟨⟨by omega, by omega⟩, fun _ => ?_⟩
            rw [eA, b1, Int.toNat_natCast, g6, w32_id (x := (j : Int) + 1) ⟨by omega, by omega⟩]
            refine ⟨⟨by omega, by omega⟩, fun _ => ⟨fun z => absurd z (by omega), fun _ => c_GM_corner hX ⟨by omega, by omega⟩ ⟨by omega, by omega⟩ ⟨by omega, by omega⟩ (by rw [eA, b1]; omega) (by rw [eA, b1, Int.toNat_natCast, g5]; omega) ?_⟩⟩
            rw [eA, b1, Int.toNat_natCast, g5, show ((R : Int) + (j : Int)).toNat = R + j by omega, c12]
            refine ⟨fun z => ?_, fun z => c_GM_ref_2 hX ⟨by omega, by omega⟩ ⟨by omega, by omega⟩ ⟨by omega, by omega⟩ (by rw [r24 j (by omega)]; omega) ?_⟩
            · rw [if_neg (fun w => z w.1), Int.add_zero] at iv
              exact iv
            · rw [r24 j (by omega), Int.toNat_natCast, b5 j (by omega)]
              have v5 := k5 j (by omega)
              refine ⟨fun w => ?_, fun w => ?_⟩
              · rw [if_neg (fun q => q.2 (by omega)), Int.add_zero] at iv
                exact iv
              · obtain ⟨q2, q4⟩ : j + 1 < tg.length ∧ (gTt tg j = -1 ↔ gTt tg (j + 1) = -1) := by
                  rcases k6 j (by omega) with q | ⟨_, w2, _, w4⟩ | ⟨q, _⟩
                  · omega
                  · exact ⟨w2, w4⟩
                  · omega
                have w1 : gTt tg j ≠ -1 := by omega
                have w2 : gTt tg (j + 1) ≠ -1 := fun q => w1 (q4.mpr q)
                have v6 := k5 (j + 1) q2
                rw [if_pos ⟨z, w1⟩] at iv r2
                refine c_GM_ref_2 hX ⟨by omega, by omega⟩ ⟨by omega, by omega⟩ ⟨by omega, by omega⟩ (by rw [r24 j (by omega)]; omega) ?_
                rw [show (j : Int) + 1 = ((j + 1 : Nat) : Int) by omega]
                refine c_GM_ref_2 hX ⟨by omega, by omega⟩ ⟨by omega, by omega⟩ ⟨by omega, by omega⟩ (by rw [r24 (j + 1) q2]; omega) ?_
                rw [r24 j (by omega), r24 (j + 1) q2, Int.toNat_natCast, Int.toNat_natCast, b5 j (by omega), b5 (j + 1) q2]
                refine c_GM_size hX (by omega) (by omega) ?_
                have t := rb tg.length (Nat.le_refl _)
                rw [w32_id (x := gRsF F p + gRs1 S tg j + gmSz (gTt tg j) (gTt tg (j + 1))) ⟨by omega, by omega⟩, Int.add_assoc]
                exact iv
        have l0 := lp tg.length 0 (by omega)
        rw [gRs1, Int.add_zero] at l0
        exact l0
      · cases ex : F p with
        | none => rw [gRsF_n ex] at i1; exact i1
        | some w =>
          have a := (cl.2 w.1 w.2 ex).1
          have r0 := (gSrt_rf (S := w.1) (fun z => y (a.trans z))).1
          have ln := (hF p w.1 w.2 ex).2.2.2.2.1
          rw [r0] at ln
          rw [gRsF_s (S := w.1) (tg := w.2) ex, ln, show ([] : List gRf).length = 0 from rfl, gRs1, Int.add_zero] at i1
          exact i1
  exact e_GM_ranges (w_GM_ranges_0 hX ⟨by omega, by omega⟩ (key 5200 0 (by omega)))
end gfW
