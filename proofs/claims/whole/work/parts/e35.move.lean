/-! The reference's move. -/
section gfY
variable {l : Launch} {G : gG} {d : Nat} {X : gX} {M M2 : gM} {o q E : Nat} {F : gSht} {S tg : List Int} {a b : Int}
def gMoR (o E n : Nat) : Nat → Nat → Prop := fun x j => x = o + 24 ∧ 852800 + E ≤ j ∧ j < 852800 + E + n
theorem r_move {k : gM → Prop} (hX : gmX X o) (hq : q < 5200) (h : gmClR M o 41 q (some (S, tg)) E (E + tg.length)) (h3 : gSrt S = 3) (ok : gCok S tg) (hE : E + tg.length ≤ 20750) (ha : -30 ≤ a ∧ a ≤ 30) (hb : -200 ≤ b ∧ b ≤ 200)
    (hk : ∀ M2, gOff (gMoR o E tg.length) M M2 → gmClR M2 o 41 q (some (S, gMvT S tg a b)) E (E + tg.length) → k M2) : cV l G y_GM_move (gRm (d + 1)) true [gR G o, gI (q : Int), gI a, gI b] X M k := by
  obtain ⟨a1, a2, a3, a4⟩ := h.2 S tg rfl
  obtain ⟨f, ra, b1, b2, b3, b4, b5⟩ := a4 h3
  obtain ⟨k1, k2, k3, k4, k5, k6⟩ := _root_.id ok
  have l50 := (gRefs_ok k1)
  have era : ra = E := by omega
  subst era
  obtain ⟨L, R, g1, g2, g3, g4, g5, g6, g7, g8, g9, g10⟩ := _root_.id b2
  have eq0 : (213200 + (q : Int)).toNat = 41 * 5200 + q := by omega
  have eq1 : ((41 : Int) * 5200 + (q : Int)).toNat = 41 * 5200 + q := by omega
  have kp : ∀ {M3 : gM}, gOff (gMoR o ra tg.length) M M3 → ∀ x j, x ≠ o + 24 → M3 x j = M x j := fun o3 x j hx => o3 x j (fun y => hx y.1)
  have ra3 : ∀ {M3 : gM}, gOff (gMoR o ra tg.length) M M3 → ∀ j : Nat, gmRa M3 o 41 (q : Int) (j : Int) = ((852800 + ra + j : Nat) : Int) := fun o3 j => by unfold gmRa; rw [eq1, kp o3 _ _ (by omega), b3]; omega
  have fxb : ∀ j, j < tg.length → 0 ≤ gFxd S j ∧ gFxd S j ≤ 3 := fun j hj => (l50.1 j (by omega)).1.2
  have fin : ∀ M3 : gM, gOff (gMoR o ra tg.length) M M3 → (∀ i, i < tg.length → M3 (o + 24) (852800 + ra + i) = gMvN S tg a b i) → k M3 := fun M3 o3 t3 => by
    refine hk M3 o3 ⟨fun e => absurd e (fun y => nomatch y), fun S2 tg2 e => ?_⟩
    cases e
    have bs : gmBs M M3 o := ⟨fun i j i1 i2 => kp o3 _ _ (by omega), fun j _ => kp o3 _ _ (by omega)⟩
    refine ⟨by rw [kp o3 _ _ (by omega)]; exact a1, fun y => absurd (y.symm.trans h3) (by decide), fun y => absurd (y.symm.trans h3) (by decide), fun _ => ⟨f, ra, by rw [kp o3 _ _ (by omega)]; exact b1, b2.bs bs, by rw [kp o3 _ _ (by omega)]; exact b3, by rw [gMvT_l]; exact b4, fun i hi => ?_⟩⟩
    rw [gMvT_l] at hi
    rw [gMvT_t hi]
    exact t3 i hi
  -- the corners
  have two : ∀ (u j : Nat) (M3 : gM), j + u = tg.length → gOff (gMoR o ra tg.length) M M3 → (∀ i, i < tg.length → M3 (o + 24) (852800 + ra + i) = (if i < j ∨ (gCor S i = 2 ∧ i ≤ j) then gMvN S tg a b i else gMvI S tg a b i)) → wp l G y_GM_move (gRm (d + 1)) true (kkV X k) true 143 [.val (gR G o), .val (gI (q : Int)), .unset, .unset, .val (gI (f : Int)), .val (gI (j : Int)), .unset, .unset, .unset, .unset] [] X M3 0 0 := by
    intro u
    induction u with
    | zero =>
      intro j M3 hj o3 t3
      refine w_GM_move_143 hX ⟨by omega, by omega⟩ ⟨by omega, by omega⟩ ⟨by omega, by omega⟩ ⟨⟨by omega, by omega⟩, fun _ => ?_⟩
      rw [Int.toNat_natCast, kp o3 _ _ (by omega), g6]
      exact ⟨fun _ => fin M3 o3 (fun i hi => by rw [t3 i hi, if_pos (Or.inl (by omega))]), fun y => absurd (by omega) y⟩
    | succ u ih =>
      intro j M3 hj o3 t3
      have jt : j < tg.length := by omega
      have c12 : M3 (o + 12) (R + j) = gCor S j := (kp o3 _ _ (by omega)).trans (g9 j (by omega)).2.2
      have e20 : M3 (o + 20) (41 * 5200 + q) = (f : Int) := (kp o3 _ _ (by omega)).trans b1
      have e8 : M3 (o + 8) f = (R : Int) := (kp o3 _ _ (by omega)).trans g5
      have bI : ∀ i, gMvI S tg a b i = -1 ∨ 0 ≤ gMvI S tg a b i ∧ gMvI S tg a b i < 5200 := fun i => gMv1_bd _ _ _ _
      refine w_GM_move_143 hX ⟨by omega, by omega⟩ ⟨by omega, by omega⟩ ⟨by omega, by omega⟩ ⟨⟨by omega, by omega⟩, fun _ => ?_⟩
      rw [Int.toNat_natCast, kp o3 (o + 9) _ (by omega), g6, w32_id (x := (j : Int) + 1) ⟨by omega, by omega⟩]
      refine ⟨fun y => absurd y (by omega), fun _ => c_GM_corner hX (by decide) ⟨by omega, by omega⟩ ⟨by omega, by omega⟩ (by rw [eq1, e20]; omega) (by rw [eq1, e20, Int.toNat_natCast, e8]; omega) ?_⟩
      rw [eq1, e20, Int.toNat_natCast, e8, show ((R : Int) + (j : Int)).toNat = R + j by omega, c12]
      refine ⟨fun y => ?_, fun y => ?_⟩
      · obtain ⟨q2, q3⟩ : j + 1 < tg.length ∧ gCor S (j + 1) = 2 := by
          rcases k6 j jt with w | ⟨_, w2, w3, _⟩ | ⟨w, _⟩
          · omega
          · exact ⟨w2, w3⟩
          · omega
        have v1 : M3 (o + 24) (852800 + ra + j) = gMvI S tg a b j := by rw [t3 j jt, if_neg (by omega)]
        have v2 : M3 (o + 24) (852800 + ra + (j + 1)) = gMvI S tg a b (j + 1) := by rw [t3 (j + 1) q2, if_neg (by omega)]
        have n1 : gMvN S tg a b j = if gMvI S tg a b (j + 1) = -1 then -1 else gMvI S tg a b j := by
          unfold gMvN
          rw [y]
          by_cases z : gMvI S tg a b (j + 1) = -1
          · rw [if_pos z, if_pos (Or.inl ⟨rfl, z⟩)]
          · rw [if_neg z, if_neg (fun w => w.elim (fun w => z w.2) (fun w => absurd w.1 (by decide)))]
        have n2 : gMvN S tg a b (j + 1) = if gMvI S tg a b j = -1 then -1 else gMvI S tg a b (j + 1) := by
          unfold gMvN
          rw [q3, Nat.add_sub_cancel]
          by_cases z : gMvI S tg a b j = -1
          · rw [if_pos z, if_pos (Or.inr ⟨rfl, z⟩)]
          · rw [if_neg z, if_neg (fun w => w.elim (fun w => absurd w.1 (by decide)) (fun w => z w.2))]
        have bj := bI j
        have bj1 := bI (j + 1)
        -- both are gone
        have gone : (gMvI S tg a b j = -1 ∨ gMvI S tg a b (j + 1) = -1) → cV l G y_GM_setRef (gRm d) true [gR G o, gI 41, gI (q : Int), gI (j : Int), gI (-1)] X M3 (fun M44 => cV l G y_GM_setRef (gRm d) true [gR G o, gI 41, gI (q : Int), gI ((j + 1 : Nat) : Int), gI (-1)] X M44 (fun M45 => wp l G y_GM_move (gRm (d + 1)) true (kkV X k) true 143 [.val (gR G o), .val (gI (q : Int)), .unset, .unset, .val (gI (f : Int)), .val (gI ((j + 1 : Nat) : Int)), .unset, .unset, .unset, .unset] [] X M45 0 0)) := by
          intro hg
          have m1 : gMvN S tg a b j = -1 := by
            rw [n1]
            by_cases z : gMvI S tg a b (j + 1) = -1
            · rw [if_pos z]
            · rw [if_neg z]; omega
          have m2 : gMvN S tg a b (j + 1) = -1 := by
            rw [n2]
            by_cases z : gMvI S tg a b j = -1
            · rw [if_pos z]
            · rw [if_neg z]; omega
          refine c_GM_setRef hX (by decide) ⟨by omega, by omega⟩ ⟨by omega, by omega⟩ ⟨by decide, by decide⟩ (by rw [ra3 o3 j]; omega) ?_
          rw [ra3 o3 j, Int.toNat_natCast]
          have o4 : gOff (gMoR o ra tg.length) M (gUp M3 (o + 24) (852800 + ra + j) (-1)) := o3.up (by unfold gMoR; omega)
          refine c_GM_setRef hX (by decide) ⟨by omega, by omega⟩ ⟨by omega, by omega⟩ ⟨by decide, by decide⟩ (by rw [ra3 o4 (j + 1)]; omega) ?_
          rw [ra3 o4 (j + 1), Int.toNat_natCast]
          refine ih (j + 1) _ (by omega) (o4.up (by unfold gMoR; omega)) (fun i hi => ?_)
          by_cases z : i = j + 1
          · rw [z, gUp_eq, if_pos (Or.inr ⟨q3, Nat.le_refl _⟩), m2]
          · rw [gUp_k (by omega)]
            by_cases w : i = j
            · rw [w, gUp_eq, if_pos (Or.inl (by omega)), m1]
            · rw [gUp_k (by omega), t3 i hi]
              by_cases v : i < j ∨ (gCor S i = 2 ∧ i ≤ j)
              · rw [if_pos v, if_pos (by omega)]
              · rw [if_neg v, if_neg (by omega)]
        rw [show (j : Int) + 1 = ((j + 1 : Nat) : Int) by omega]
        refine c_GM_ref_2 hX (by decide) ⟨by omega, by omega⟩ ⟨by omega, by omega⟩ (by rw [ra3 o3 j]; omega) ?_
        rw [ra3 o3 j, Int.toNat_natCast, v1]
        refine ⟨fun z => gone (by omega), fun z => c_GM_ref_2 hX (by decide) ⟨by omega, by omega⟩ ⟨by omega, by omega⟩ (by rw [ra3 o3 (j + 1)]; omega) ?_⟩
        rw [ra3 o3 (j + 1), Int.toNat_natCast, v2]
        refine ⟨fun w => gone (by omega), fun w => ih (j + 1) M3 (by omega) o3 (fun i hi => ?_)⟩
        rw [t3 i hi]
        by_cases v : i = j
        · rw [v, if_neg (by omega), if_pos (by omega), n1, if_neg (by omega)]
        · by_cases v2 : i = j + 1
          · rw [v2, if_neg (by omega), if_pos (Or.inr ⟨q3, Nat.le_refl _⟩), n2, if_neg (by omega)]
          · by_cases v3 : i < j ∨ (gCor S i = 2 ∧ i ≤ j)
            · rw [if_pos v3, if_pos (by omega)]
            · rw [if_neg v3, if_neg (by omega)]
      · rw [show (j : Int) + 1 = ((j + 1 : Nat) : Int) by omega]
        refine ih (j + 1) M3 (by omega) o3 (fun i hi => ?_)
        rw [t3 i hi]
        by_cases v : i = j
        · subst v
          by_cases z : gCor S i = 2
          · rw [if_pos (Or.inr ⟨z, Nat.le_refl _⟩), if_pos (by omega)]
          · rw [if_neg (by omega), if_pos (by omega)]
            unfold gMvN
            rw [if_neg (fun w => w.elim (fun w => y w.1) (fun w => z w.1))]
        · by_cases v2 : gCor S i = 2 ∧ i = j + 1
          · rcases k6 i hi with w | ⟨w, _⟩ | ⟨_, _, w⟩
            · omega
            · omega
            · rw [v2.2, Nat.add_sub_cancel] at w; exact absurd w y
          · by_cases v3 : i < j ∨ (gCor S i = 2 ∧ i ≤ j)
            · rw [if_pos v3, if_pos (by omega)]
            · rw [if_neg v3, if_neg (by omega)]
  -- each target
  have one : ∀ (u j : Nat) (M3 : gM), j + u = tg.length → gOff (gMoR o ra tg.length) M M3 → (∀ i, i < tg.length → M3 (o + 24) (852800 + ra + i) = (if i < j then gMvI S tg a b i else gTt tg i)) → wp l G y_GM_move (gRm (d + 1)) true (kkV X k) true 15 [.val (gR G o), .val (gI (q : Int)), .val (gI a), .val (gI b), .val (gI (f : Int)), .val (gI (j : Int)), .unset, .unset, .unset, .unset] [] X M3 0 0 := by
    intro u
    induction u with
    | zero =>
      intro j M3 hj o3 t3
      refine w_GM_move_15 hX ⟨by omega, by omega⟩ ⟨by omega, by omega⟩ ⟨by omega, by omega⟩ ⟨by omega, by omega⟩ ⟨by omega, by omega⟩ ⟨⟨by omega, by omega⟩, fun _ => ?_⟩
      rw [Int.toNat_natCast, kp o3 (o + 9) _ (by omega), g6]
      refine ⟨fun _ => two tg.length 0 M3 (by omega) o3 (fun i hi => ?_), fun y => absurd (by omega) y⟩
      rw [t3 i hi, if_pos (by omega), if_neg]
      intro y
      rcases k6 i hi with w | ⟨w, _⟩ | ⟨_, w, _⟩ <;> omega
    | succ u ih =>
      intro j M3 hj o3 t3
      have jt : j < tg.length := by omega
      have c11 : M3 (o + 11) (R + j) = gFxd S j := (kp o3 _ _ (by omega)).trans (g9 j (by omega)).2.1
      have e8 : M3 (o + 8) f = (R : Int) := (kp o3 _ _ (by omega)).trans g5
      have v1 : M3 (o + 24) (852800 + ra + j) = gTt tg j := by rw [t3 j jt, if_neg (by omega)]
      have tb := k5 j jt
      have fb := fxb j jt
      obtain ⟨s1, s2, _, _⟩ := gShp3 (k := 0) fb (by decide)
      rw [Int.mul_zero, Int.add_zero] at s1 s2
      refine w_GM_move_15 hX ⟨by omega, by omega⟩ ⟨by omega, by omega⟩ ⟨by omega, by omega⟩ ⟨by omega, by omega⟩ ⟨by omega, by omega⟩ ⟨⟨by omega, by omega⟩, fun _ => ?_⟩
      rw [Int.toNat_natCast, kp o3 (o + 9) _ (by omega), g6, w32_id (x := (j : Int) + 1) ⟨by omega, by omega⟩, show (j : Int) + 1 = ((j + 1 : Nat) : Int) by omega]
      refine ⟨fun y => absurd y (by omega), fun _ => c_GM_ref_2 hX (by decide) ⟨by omega, by omega⟩ ⟨by omega, by omega⟩ (by rw [ra3 o3 j]; omega) ?_⟩
      rw [ra3 o3 j, Int.toNat_natCast, v1, e8, show ((R : Int) + (j : Int)).toNat = R + j by omega, c11]
      -- one target written
      have go : ∀ v : Int, gMvI S tg a b j = v → cV l G y_GM_setRef (gRm d) true [gR G o, gI 41, gI (q : Int), gI (j : Int), gI v] X M3 (fun M11 => wp l G y_GM_move (gRm (d + 1)) true (kkV X k) true 15 [.val (gR G o), .val (gI (q : Int)), .val (gI a), .val (gI b), .val (gI (f : Int)), .val (gI ((j + 1 : Nat) : Int)), .unset, .unset, .unset, .unset] [] X M11 0 0) := by
        intro v ev
        have vb : gMvI S tg a b j = -1 ∨ 0 ≤ gMvI S tg a b j ∧ gMvI S tg a b j < 5200 := gMv1_bd _ _ _ _
        refine c_GM_setRef hX (by decide) ⟨by omega, by omega⟩ ⟨by omega, by omega⟩ ⟨by omega, by omega⟩ (by rw [ra3 o3 j]; omega) ?_
        rw [ra3 o3 j, Int.toNat_natCast]
        refine ih (j + 1) _ (by omega) (o3.up (by unfold gMoR; omega)) (fun i hi => ?_)
        by_cases z : i = j
        · rw [z, gUp_eq, if_pos (by omega), ev]
        · rw [gUp_k (by omega), t3 i hi]
          by_cases w : i < j
          · rw [if_pos w, if_pos (by omega)]
          · rw [if_neg w, if_neg (by omega)]
      have all : 0 ≤ gTt tg j → ∀ a2 b2 : Int, a2 = (if gFxd S j % 2 = 0 then a else 0) → b2 = (if gFxd S j < 2 then b else 0) → cZ l G y_GM_inSheet (gRm d) false [gI ((gTt tg j).tmod 26 + a2), gI ((gTt tg j).tdiv 26 + b2)] X M3 (fun v9 M8 => ((v9 = 0 → cV l G y_GM_setRef (gRm d) true [gR G o, gI 41, gI (q : Int), gI (j : Int), gI (-1)] X M8 (fun M11 => wp l G y_GM_move (gRm (d + 1)) true (kkV X k) true 15 [.val (gR G o), .val (gI (q : Int)), .val (gI a), .val (gI b), .val (gI (f : Int)), .val (gI ((j + 1 : Nat) : Int)), .unset, .unset, .unset, .unset] [] X M11 0 0)) ∧ (¬ v9 = 0 → cV l G y_GM_setRef (gRm d) true [gR G o, gI 41, gI (q : Int), gI (j : Int), gI (((gTt tg j).tmod 26 + a2) + (26 * ((gTt tg j).tdiv 26 + b2)))] X M8 (fun M12 => wp l G y_GM_move (gRm (d + 1)) true (kkV X k) true 15 [.val (gR G o), .val (gI (q : Int)), .val (gI a), .val (gI b), .val (gI (f : Int)), .val (gI ((j + 1 : Nat) : Int)), .unset, .unset, .unset, .unset] [] X M12 0 0)))) := by
        intro t0 a2 b2 ea eb
        have ba : -30 ≤ a2 ∧ a2 ≤ 30 := by rw [ea]; split <;> omega
        have bb : -200 ≤ b2 ∧ b2 ≤ 200 := by rw [eb]; split <;> omega
        have ev : gMvI S tg a b j = if 0 ≤ gTt tg j % 26 + a2 ∧ gTt tg j % 26 + a2 < 26 ∧ 0 ≤ gTt tg j / 26 + b2 ∧ gTt tg j / 26 + b2 < 200 then gTt tg j % 26 + a2 + 26 * (gTt tg j / 26 + b2) else -1 := by
          unfold gMvI gMv1
          rw [if_neg (by omega), ← ea, ← eb]
        rw [Int.tmod_eq_emod_of_nonneg t0, Int.tdiv_eq_ediv_of_nonneg t0]
        refine c_GM_inSheet ⟨by omega, by omega⟩ ⟨by omega, by omega⟩ ?_
        by_cases z : 0 ≤ gTt tg j % 26 + a2 ∧ gTt tg j % 26 + a2 < 26 ∧ 0 ≤ gTt tg j / 26 + b2 ∧ gTt tg j / 26 + b2 < 200
        · rw [if_pos z] at ev ⊢
          exact ⟨fun w => absurd w (by decide), fun _ => go _ ev⟩
        · rw [if_neg z] at ev ⊢
          exact ⟨fun _ => go _ ev, fun w => absurd rfl w⟩
      refine ⟨⟨by omega, by omega⟩, fun _ => ⟨⟨by omega, by omega⟩, fun _ => ⟨fun y => ⟨fun z => ⟨fun w => all y 0 0 (if_neg (fun v => z (s1.mpr v))).symm (if_neg (fun v => w (s2.mpr v))).symm, fun w => all y 0 b (if_neg (fun v => z (s1.mpr v))).symm (if_pos (s2.mp w)).symm⟩, fun z => ⟨fun w => all y a 0 (if_pos (s1.mp z)).symm (if_neg (fun v => w (s2.mpr v))).symm, fun w => all y a b (if_pos (s1.mp z)).symm (if_pos (s2.mp w)).symm⟩⟩, fun y => ?_⟩⟩⟩
      refine ih (j + 1) M3 (by omega) o3 (fun i hi => ?_)
      rw [t3 i hi]
      by_cases z : i = j
      · rw [z, if_neg (by omega), if_pos (by omega)]
        unfold gMvI gMv1
        rw [if_pos (by omega)]
        omega
      · by_cases w : i < j
        · rw [if_pos w, if_pos (by omega)]
        · rw [if_neg w, if_neg (by omega)]
  refine e_GM_move (w_GM_move_0 hX ⟨by omega, by omega⟩ ⟨by omega, by omega⟩ ⟨by omega, by omega⟩ ⟨⟨by omega, by omega⟩, fun _ => ?_⟩)
  rw [eq0, b1]
  refine one tg.length 0 M (by omega) (gOff.rf _ _) (fun i hi => ?_)
  rw [if_neg (by omega)]
  exact b5 i hi
end gfY
