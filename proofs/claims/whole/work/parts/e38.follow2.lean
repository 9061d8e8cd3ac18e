/-! The reference's follow, whole. -/
section ggB
variable {l : Launch} {G : gG} {d : Nat} {X : gX} {M M2 : gM} {o q E : Nat} {F : gSht} {S tg : List Int} {cs i n : Int}
theorem r_follow {k : gM → Prop} (hX : gmX X o) (hq : q < 5200) (h : gmClR M o 41 q (some (S, tg)) E (E + tg.length)) (h3 : gSrt S = 3) (ok : gCok S tg) (hE : E + tg.length ≤ 20750) (hL : gLin cs i n)
    (hk : ∀ M2, gOff (gMoR o E tg.length) M M2 → gmClR M2 o 41 q (some (S, gFoT S tg cs i n)) E (E + tg.length) → k M2) : cV l G y_GM_follow (gRm (d + 1 + 1)) true [gR G o, gI (q : Int), gI cs, gI i, gI n, gI (gFm cs)] X M k := by
  obtain ⟨a1, a2, a3, a4⟩ := h.2 S tg rfl
  obtain ⟨f, ra, b1, b2, b3, b4, b5⟩ := a4 h3
  obtain ⟨k1, k2, k3, k4, k5, k6⟩ := _root_.id ok
  have l50 := (gRefs_ok k1)
  have era : ra = E := by omega
  subst era
  obtain ⟨L, R, g1, g2, g3, g4, g5, g6, g7, g8, g9, g10⟩ := _root_.id b2
  have eq0 : (213200 + (q : Int)).toNat = 41 * 5200 + q := by omega
  have eq1 : ((41 : Int) * 5200 + (q : Int)).toNat = 41 * 5200 + q := by omega
  have hm := gFm_c hL.1
  have hs : 0 ≤ cs ∧ cs ≤ 1 := by rcases hL.1 with w | w <;> omega
  have hi2 : 0 ≤ i ∧ i < gFm cs := ⟨hL.2.1, hL.2.2.1⟩
  have hn1 : 0 < n ∨ n < 0 := by have := hL.2.2.2; omega
  have hn2 : -50 ≤ n ∧ n ≤ 50 := by have := hL.2.2.2; omega
  have kp : ∀ {M3 : gM}, gOff (gMoR o ra tg.length) M M3 → ∀ x j, x ≠ o + 24 → M3 x j = M x j := fun o3 x j hx => o3 x j (fun y => hx y.1)
  have ra3 : ∀ {M3 : gM}, gOff (gMoR o ra tg.length) M M3 → ∀ j : Nat, gmRa M3 o 41 (q : Int) (j : Int) = ((852800 + ra + j : Nat) : Int) := fun o3 j => by unfold gmRa; rw [eq1, kp o3 _ _ (by omega), b3]; omega
  have fin : ∀ M3 : gM, gOff (gMoR o ra tg.length) M M3 → (∀ m, m < tg.length → M3 (o + 24) (852800 + ra + m) = gFoN S tg cs i n m) → k M3 := fun M3 o3 t3 => by
    refine hk M3 o3 ⟨fun e => absurd e (fun y => nomatch y), fun S2 tg2 e => ?_⟩
    cases e
    have bs : gmBs M M3 o := ⟨fun i j i1 i2 => kp o3 _ _ (by omega), fun j _ => kp o3 _ _ (by omega)⟩
    refine ⟨by rw [kp o3 _ _ (by omega)]; exact a1, fun y => absurd (y.symm.trans h3) (by decide), fun y => absurd (y.symm.trans h3) (by decide), fun _ => ⟨f, ra, by rw [kp o3 _ _ (by omega)]; exact b1, b2.bs bs, by rw [kp o3 _ _ (by omega)]; exact b3, by rw [gFoT_l]; exact b4, fun m hm => ?_⟩⟩
    rw [gFoT_l] at hm
    rw [gFoT_t hm]
    exact t3 m hm
  have key : ∀ (u j : Nat) (M3 : gM), j + u = tg.length → gOff (gMoR o ra tg.length) M M3 → (∀ m, m < tg.length → M3 (o + 24) (852800 + ra + m) = (if m < j ∨ (gCor S m = 2 ∧ m ≤ j) then gFoN S tg cs i n m else gTt tg m)) → wp l G y_GM_follow (gRm (d + 1 + 1)) true (kkV X k) true 15 [.val (gR G o), .val (gI (q : Int)), .val (gI cs), .val (gI i), .val (gI n), .val (gI (gFm cs)), .val (gI (f : Int)), .val (gI (j : Int)), .unset, .unset, .unset, .unset, .unset, .unset, .unset, .unset, .unset] [] X M3 0 0 := by
    intro u
    induction u with
    | zero =>
      intro j M3 hj o3 t3
      refine w_GM_follow_15 hX ⟨by omega, by omega⟩ ⟨by omega, by omega⟩ ⟨by omega, by omega⟩ ⟨by omega, by omega⟩ ⟨by omega, by omega⟩ ⟨by omega, by omega⟩ ⟨by omega, by omega⟩ ⟨⟨by omega, by omega⟩, fun _ => ?_⟩
      rw [Int.toNat_natCast, kp o3 (o + 9) _ (by omega), g6]
      exact ⟨fun _ => fin M3 o3 (fun m hm => by rw [t3 m hm, if_pos (Or.inl (by omega))]), fun y => absurd (by omega) y⟩
    | succ u ih =>
      intro j M3 hj o3 t3
      have jt : j < tg.length := by omega
      have c12 : M3 (o + 12) (R + j) = gCor S j := (kp o3 _ _ (by omega)).trans (g9 j (by omega)).2.2
      have e20 : M3 (o + 20) (41 * 5200 + q) = (f : Int) := (kp o3 _ _ (by omega)).trans b1
      have e8 : M3 (o + 8) f = (R : Int) := (kp o3 _ _ (by omega)).trans g5
      have tb := k5 j jt
      have nxt : ∀ M4 : gM, gOff (gMoR o ra tg.length) M M4 → (∀ m, m < tg.length → M4 (o + 24) (852800 + ra + m) = (if m < j + 1 ∨ (gCor S m = 2 ∧ m ≤ j + 1) then gFoN S tg cs i n m else gTt tg m)) → wp l G y_GM_follow (gRm (d + 1 + 1)) true (kkV X k) true 375 [.val (gR G o), .val (gI (q : Int)), .val (gI cs), .val (gI i), .val (gI n), .val (gI (gFm cs)), .val (gI (f : Int)), .val (gI (j : Int)), .unset, .unset, .unset, .unset, .unset, .unset, .unset, .unset, .unset] [] X M4 0 0 := fun M4 o4 t4 => by
        refine w_GM_follow_375 hX ⟨by omega, by omega⟩ ⟨by omega, by omega⟩ ⟨by omega, by omega⟩ ⟨by omega, by omega⟩ ⟨by omega, by omega⟩ ⟨by omega, by omega⟩ ⟨by omega, by omega⟩ ?_
        rw [w32_id (x := (j : Int) + 1) ⟨by omega, by omega⟩, show (j : Int) + 1 = ((j + 1 : Nat) : Int) by omega]
        exact ih (j + 1) M4 (by omega) o4 t4
      -- nothing written
      have same : ((gCor S j ≠ 2 → gTt tg j = gFoN S tg cs i n j) ∧ (gCor S j = 1 → gTt tg (j + 1) = gFoN S tg cs i n (j + 1))) → ∀ m, m < tg.length → M3 (o + 24) (852800 + ra + m) = (if m < j + 1 ∨ (gCor S m = 2 ∧ m ≤ j + 1) then gFoN S tg cs i n m else gTt tg m) := fun hs m hm => by
        rw [t3 m hm]
        by_cases y : m < j ∨ (gCor S m = 2 ∧ m ≤ j)
        · rw [if_pos y, if_pos (by omega)]
        · rw [if_neg y]
          by_cases z : m = j
          · subst z
            rw [if_pos (by omega)]
            exact hs.1 (fun w => y (Or.inr ⟨w, Nat.le_refl _⟩))
          · by_cases w : gCor S m = 2 ∧ m = j + 1
            · rw [if_pos (by omega)]
              rcases k6 m hm with v | ⟨v, _⟩ | ⟨_, _, v⟩
              · omega
              · omega
              · rw [w.2, Nat.add_sub_cancel] at v
                rw [w.2]; exact hs.2 v
            · rw [if_neg (by omega)]
      refine w_GM_follow_15 hX ⟨by omega, by omega⟩ ⟨by omega, by omega⟩ ⟨by omega, by omega⟩ ⟨by omega, by omega⟩ ⟨by omega, by omega⟩ ⟨by omega, by omega⟩ ⟨by omega, by omega⟩ ⟨⟨by omega, by omega⟩, fun _ => ?_⟩
      rw [Int.toNat_natCast, kp o3 (o + 9) _ (by omega), g6]
      refine ⟨fun y => absurd y (by omega), fun _ => c_GM_ref_2 hX (by decide) ⟨by omega, by omega⟩ ⟨by omega, by omega⟩ (by rw [ra3 o3 j]; omega) (c_GM_corner hX (by decide) ⟨by omega, by omega⟩ ⟨by omega, by omega⟩ (by rw [eq1, e20]; omega) (by rw [eq1, e20, Int.toNat_natCast, e8]; omega) ?_)⟩
      rw [eq1, e20, Int.toNat_natCast, e8, show ((R : Int) + (j : Int)).toNat = R + j by omega, c12, ra3 o3 j, Int.toNat_natCast]
      by_cases c2 : gCor S j = 2
      · have s := same ⟨fun w => absurd c2 w, fun w => by omega⟩
        exact ⟨fun _ => nxt M3 o3 s, fun _ => ⟨fun w => absurd c2 w, fun _ => nxt M3 o3 s⟩⟩
      have tv : M3 (o + 24) (852800 + ra + j) = gTt tg j := by rw [t3 j jt, if_neg (by omega)]
      rw [tv]
      refine ⟨fun y => nxt M3 o3 (same ⟨fun _ => ?_, fun w => ?_⟩), fun y => ⟨fun _ => ⟨fun z => ?_, fun z => ?_⟩, fun w => absurd w c2⟩⟩
      · have t1 : gTt tg j = -1 := by omega
        unfold gFoN
        rw [if_neg c2, t1]
        by_cases w : gCor S j = 1
        · rw [if_pos w]; unfold gFrg; exact (if_pos rfl).symm
        · rw [if_neg w]; unfold gFp; exact (if_pos rfl).symm
      · have t1 : gTt tg j = -1 := by omega
        rcases k6 j jt with v | ⟨_, v2, v3, v4⟩ | ⟨v, _⟩
        · omega
        · have t2 := v4.mp t1
          unfold gFoN gFrg
          rw [if_neg (by omega), if_pos v3, t2]
          exact (if_pos rfl).symm
        · omega
      · -- a range
        have y1 : gCor S j = 1 := by
          rcases k6 j jt with v | ⟨v, _⟩ | ⟨v, _⟩
          · exact absurd v z
          · exact v
          · exact absurd v c2
        obtain ⟨q2, q3, q4⟩ : j + 1 < tg.length ∧ gCor S (j + 1) = 2 ∧ (gTt tg j = -1 ↔ gTt tg (j + 1) = -1) := by
          rcases k6 j jt with w | ⟨_, w2, w3, w4⟩ | ⟨w, _⟩
          · omega
          · exact ⟨w2, w3, w4⟩
          · omega
        have v6 := k5 (j + 1) q2
        have v7 : gTt tg (j + 1) ≠ -1 := fun w => by have := q4.mpr w; omega
        have tv2 : M3 (o + 24) (852800 + ra + (j + 1)) = gTt tg (j + 1) := by rw [t3 (j + 1) q2, if_neg (by omega)]
        rw [show (j : Int) + 1 = ((j + 1 : Nat) : Int) by omega]
        refine c_GM_ref_2 hX (by decide) ⟨by omega, by omega⟩ ⟨by omega, by omega⟩ (by rw [ra3 o3 (j + 1)]; omega) ?_
        rw [ra3 o3 (j + 1), Int.toNat_natCast, tv2]
        have tt : 0 ≤ gTt tg j ∧ gTt tg j < 5200 := by omega
        have ty : 0 ≤ gTt tg (j + 1) ∧ gTt tg (j + 1) < 5200 := by omega
        refine c_GM_low hX tt ty hs (c_GM_high hX tt ty hs ?_)
        have co1 := gmCo_m hL.1 tt
        have co2 := gmCo_m hL.1 ty
        obtain ⟨low, hlo⟩ : ∃ low, low = min (gmCo (gTt tg j) cs) (gmCo (gTt tg (j + 1)) cs) := ⟨_, rfl⟩
        obtain ⟨high, hhi⟩ : ∃ high, high = max (gmCo (gTt tg j) cs) (gmCo (gTt tg (j + 1)) cs) := ⟨_, rfl⟩
        rw [← hlo, ← hhi]
        have lb : 0 ≤ low ∧ low ≤ high ∧ high < gFm cs := by omega
        have o5 : ∀ v1 v2, gOff (gMoR o ra tg.length) M (gUp (gUp M3 (o + 24) (852800 + ra + j) v1) (o + 24) (852800 + ra + (j + 1)) v2) := fun v1 v2 => (o3.up (by unfold gMoR; omega)).up (by unfold gMoR; omega)
        have n1 : gFoN S tg cs i n j = gFrg cs i n (gTt tg j) (gTt tg (j + 1)) true := by unfold gFoN; rw [if_pos y1]
        have n2 : gFoN S tg cs i n (j + 1) = gFrg cs i n (gTt tg (j + 1)) (gTt tg j) false := by unfold gFoN; rw [if_neg (by omega), if_pos q3, Nat.add_sub_cancel]
        have go := ih (j + 1) _ (by omega) (o5 (gFrg cs i n (gTt tg j) (gTt tg (j + 1)) true) (gFrg cs i n (gTt tg (j + 1)) (gTt tg j) false)) (fun m hm => by
          by_cases w : m = j + 1
          · rw [w, gUp_eq, if_pos (Or.inr ⟨q3, Nat.le_refl _⟩), n2]
          · rw [gUp_k (by omega)]
            by_cases w2 : m = j
            · rw [w2, gUp_eq, if_pos (by omega), n1]
            · rw [gUp_k (by omega), t3 m hm]
              by_cases w3 : m < j ∨ (gCor S m = 2 ∧ m ≤ j)
              · rw [if_pos w3, if_pos (by omega)]
              · rw [if_neg w3, if_neg (by omega)])
        have inner : ∀ (u : Nat) (v a b : Int), v + (u : Int) = high + 1 → low ≤ v → -1 ≤ a ∧ a < 200 → -1 ≤ b ∧ b < 200 → gFoA i n (gFm cs) low v a b → wp l G y_GM_follow (gRm (d + 1 + 1)) true (kkV X k) true 156 [.val (gR G o), .val (gI (q : Int)), .val (gI cs), .val (gI i), .val (gI n), .val (gI (gFm cs)), .val (gI (f : Int)), .val (gI (j : Int)), .val (gI (gTt tg j)), .unset, .val (gI (gTt tg (j + 1))), .val (gI low), .val (gI high), .val (gI a), .val (gI b), .val (gI v), .unset] [] X M3 0 0 := by
          intro u
          induction u with
          | zero =>
            intro v a b hv hlv ba bb hA
            rw [show v = high + 1 by omega] at hA
            have hz := gFoA_e hi2.1 hi2.2 hn1 lb.1 lb.2.1 lb.2.2 hA
            refine w_GM_follow_156 hX ⟨by omega, by omega⟩ ⟨by omega, by omega⟩ ⟨by omega, by omega⟩ ⟨by omega, by omega⟩ ⟨by omega, by omega⟩ ⟨by omega, by omega⟩ ⟨by omega, by omega⟩ ⟨by omega, by omega⟩ ⟨by omega, by omega⟩ ⟨by omega, by omega⟩ ⟨by omega, by omega⟩ ⟨by omega, by omega⟩ ⟨by omega, by omega⟩ ⟨by omega, by omega⟩ ⟨fun _ => ⟨fun w => ?_, fun w => ⟨fun w2 => ?_, fun w2 => c_GM_moved ⟨by omega, by omega⟩ ⟨by omega, by omega⟩ hn2 ⟨by omega, by omega⟩ ⟨fun w3 => ?_, fun w3 => ?_⟩⟩⟩, fun w => absurd (by omega) w⟩
            · refine r_follow231 hX hq (by omega) g3 hL (ra3 o3) (by omega) tt ty hlo hhi bb ?_ go
              rw [if_neg (fun w4 => absurd w4.1 (by omega))] at hz
              exact hz
            · refine r_follow231 hX hq (by omega) g3 hL (ra3 o3) (by omega) tt ty hlo hhi bb ?_ go
              exact hz.elim Or.inl (fun w4 => absurd w4.1 (by omega))
            · refine r_follow231 hX hq (by omega) g3 hL (ra3 o3) (by omega) tt ty hlo hhi bb ?_ go
              rw [if_neg (fun w4 => absurd w3 (by have := w4.2; omega))] at hz
              exact hz
            · rw [w32_id (x := gFm cs - 1) ⟨by omega, by omega⟩]
              refine r_follow231 hX hq (by omega) g3 hL (ra3 o3) (by omega) tt ty hlo hhi (by omega) ?_ go
              rw [if_pos ⟨by omega, by omega⟩] at hz
              exact hz
          | succ u ihu =>
            intro v a b hv hlv ba bb hA
            have mb := gmMv_bd (i := i) (m := gFm cs) (v := v) hn1 (by omega) hi2.1
            refine w_GM_follow_156 hX ⟨by omega, by omega⟩ ⟨by omega, by omega⟩ ⟨by omega, by omega⟩ ⟨by omega, by omega⟩ ⟨by omega, by omega⟩ ⟨by omega, by omega⟩ ⟨by omega, by omega⟩ ⟨by omega, by omega⟩ ⟨by omega, by omega⟩ ⟨by omega, by omega⟩ ⟨by omega, by omega⟩ ⟨by omega, by omega⟩ ⟨by omega, by omega⟩ ⟨by omega, by omega⟩ ⟨fun w => absurd w (by omega), fun _ => c_GM_moved ⟨by omega, by omega⟩ ⟨by omega, by omega⟩ hn2 ⟨by omega, by omega⟩ ?_⟩
            rw [w32_id (x := v + 1) ⟨by omega, by omega⟩]
            refine ⟨fun w => ?_, fun w => ihu (v + 1) a b (by omega) (by omega) ba bb (gFoA_n hA (by omega))⟩
            have st := gFoA_s hA hlv w
            refine ⟨fun w2 => ?_, fun w2 => ?_⟩
            · rw [if_pos w2] at st
              exact ihu (v + 1) a _ (by omega) (by omega) ba (by omega) st
            · rw [if_neg w2] at st
              exact ihu (v + 1) _ _ (by omega) (by omega) (by omega) (by omega) st
        exact inner (high + 1 - low).toNat low (-1) (-1) (by omega) (Int.le_refl _) (by omega) (by omega) gFoA_0
      · -- a single one
        have one : ∀ v : Int, gFoN S tg cs i n j = v → cV l G y_GM_setRef (gRm (d + 1)) true [gR G o, gI 41, gI (q : Int), gI (j : Int), gI v] X M3 (fun M24 => wp l G y_GM_follow (gRm (d + 1 + 1)) true (kkV X k) true 375 [.val (gR G o), .val (gI (q : Int)), .val (gI cs), .val (gI i), .val (gI n), .val (gI (gFm cs)), .val (gI (f : Int)), .val (gI (j : Int)), .unset, .unset, .unset, .unset, .unset, .unset, .unset, .unset, .unset] [] X M24 0 0) := by
          intro v ev
          have nb := gFoN_bd hL ok jt
          refine c_GM_setRef hX (by decide) ⟨by omega, by omega⟩ ⟨by omega, by omega⟩ ⟨by omega, by omega⟩ (by rw [ra3 o3 j]; omega) ?_
          rw [ra3 o3 j, Int.toNat_natCast]
          refine nxt _ (o3.up (by unfold gMoR; omega)) (fun m hm => ?_)
          by_cases w : m = j
          · rw [w, gUp_eq, if_pos (by omega), ev]
          · rw [gUp_k (by omega), t3 m hm]
            by_cases w2 : gCor S m = 2 ∧ m = j + 1
            · rcases k6 m hm with v | ⟨v, _⟩ | ⟨_, _, v⟩
              · omega
              · omega
              · rw [w2.2, Nat.add_sub_cancel] at v; omega
            · by_cases w3 : m < j ∨ (gCor S m = 2 ∧ m ≤ j)
              · rw [if_pos w3, if_pos (by omega)]
              · rw [if_neg w3, if_neg (by omega)]
        have tt : 0 ≤ gTt tg j ∧ gTt tg j < 5200 := by omega
        have co1 := gmCo_m hL.1 tt
        have mb := gmMv_bd (i := i) (m := gFm cs) (v := gmCo (gTt tg j) cs) hn1 co1 hi2.1
        have ev : gFoN S tg cs i n j = gmWi (gTt tg j) cs (gmMv (gmCo (gTt tg j) cs) i n (gFm cs)) := by
          unfold gFoN gFp
          rw [if_neg (by omega), if_neg (by omega), if_neg (by omega)]
        have cc : (cs = 0 → gmCo (gTt tg j) cs = gTt tg j / 26) ∧ (¬ cs = 0 → gmCo (gTt tg j) cs = gTt tg j % 26) := by unfold gmCo; exact ⟨fun w => if_pos w, fun w => if_neg w⟩
        rw [Int.tdiv_eq_ediv_of_nonneg tt.1, Int.tmod_eq_emod_of_nonneg tt.1]
        refine ⟨fun w => ?_, fun w => ?_⟩
        · rw [← cc.1 w]
          exact c_GM_moved ⟨by omega, by omega⟩ ⟨by omega, by omega⟩ hn2 ⟨by omega, by omega⟩ (c_GM_with tt hs ⟨by omega, by omega⟩ (one _ ev))
        · rw [← cc.2 w]
          exact c_GM_moved ⟨by omega, by omega⟩ ⟨by omega, by omega⟩ hn2 ⟨by omega, by omega⟩ (c_GM_with tt hs ⟨by omega, by omega⟩ (one _ ev))
  refine e_GM_follow (w_GM_follow_0 hX ⟨by omega, by omega⟩ hs ⟨by omega, by omega⟩ ⟨by omega, by omega⟩ ⟨by omega, by omega⟩ ⟨⟨by omega, by omega⟩, fun _ => ?_⟩)
  rw [eq0, b1]
  refine key tg.length 0 M (by omega) (gOff.rf _ _) (fun m hm => ?_)
  rw [if_neg]
  · exact b5 m hm
  · intro y
    rcases k6 m hm with w | ⟨w, _⟩ | ⟨_, w, _⟩ <;> omega
end ggB
