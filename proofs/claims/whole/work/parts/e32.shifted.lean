/-! The class's Edits: lines that come and go. -/
section gfU
variable {l : Launch} {G : gG} {d : Nat} {X : gX} {M M2 : gM} {c r r0 : Nat} {F F2 : gSht} {cs i n : Int}
theorem c_Ed_addFollowed {p q id : Nat} {S tg : List Int} {k : gM → Prop} (hX : glX X c) (hs3 : X.2.2 (c + 21) 3 = r ∧ gsX X r) (hs2 : X.2.2 (c + 21) 2 = r0 ∧ gsX X r0) (hcr : c + 22 < r) (hd : r + 4 < r0 ∨ r0 + 4 < r) (hL : gLin cs i n) (hf : gEdF M c cs i n) (hF : gSok F) (hF2 : gSok F2) (h0 : gcSt M c r0 F) (hp : p < 5200) (e : F p = some (S, tg)) (e2 : F2 q = some (S, gFoT S tg cs i n)) (hid : M (r + 2) (gCn (gnE F2) q) = (id : Int)) (hcn : gcCn M c id S) (h : gcPe M c r F2 q 0) (hn : gCn (gnE F2) q < 400)
    (hk : ∀ M2, gOff (gStR r) M M2 → gcPf M2 c r F2 (q + 1) → k M2) : cV l G y_Ed_addFollowed (gRm (d + 1 + 1 + 1)) true [gR G (c + 21), gI (gCn (gnE F) p : Int)] X M k := by
  obtain ⟨a1, ⟨ci, a2, a3⟩, a4⟩ := h0.2.2.2.2 p hp S tg e
  obtain ⟨⟨b2, b2'⟩, b3, b4, cs1, cz, rf, c1, c2, ⟨c3, c3'⟩, c4, c5, ⟨c6, c6'⟩, c7, c8, c9⟩ := _root_.id a3
  have ok := (hF p S tg e).2
  obtain ⟨k1, k2, k3, k4, k5, k6⟩ := _root_.id ok
  have l50 := (gRefs_ok k1).2
  have s50 := gSp_50 hF2.r50 q
  have hn0 := h0.2.1
  have s20 := h0.2.2.1
  have sle := gSp_le (F := F) (show p + 1 ≤ 5200 from hp)
  rw [gSp_s e] at sle
  have lt := gCn_lt (Q := gnE F) hp (gnE_s e)
  have st := h0.2.2.2.1 p (by omega)
  have nxt := h0.2.2.2.1 (p + 1) (by omega)
  rw [gSp_s e, gCn_y (Q := gnE F) (gnE_s e)] at nxt
  have cor : ∀ j, j < tg.length → 0 ≤ gCor S j ∧ gCor S j ≤ 2 := fun j hj => by
    rcases k6 j hj with y | y | y
    · omega
    · have := y.1; omega
    · have := y.1; omega
  have key : ∀ (u j : Nat) (M3 : gM), tg.length ≤ j + u → j ≤ tg.length → (gCor S j = 2 → j < tg.length → gTt tg j = -1) → gOff (gStR r) M M3 → M3 (r + 2) (gCn (gnE F2) q) = (id : Int) → gcPe M3 c r F2 q j → (∀ m, m < j → M3 (r + 4) (gSp F2 q + m) = gFoN S tg cs i n m) → wp l G y_Ed_addFollowed (gRm (d + 1 + 1 + 1)) true (kkV X k) true 38 [.val (gR G (c + 21)), .val (gI (gCn (gnE F) p : Int)), .val (gI ((rf : Int) - (gSp F p : Int))), .val (gI ((gSp F p + j : Nat) : Int)), .unset] [] X M3 0 0 := by
    intro u
    induction u with
    | zero =>
      intro j M3 hj hj2 hc2 o3 i3 p3 t3
      have f3 : M3 (r0 + 3) (gCn (gnE F) p + 1) = ((gSp F p + tg.length : Nat) : Int) := (o3 _ _ (by unfold gStR; omega)).trans nxt
      refine w_Ed_addFollowed_38 hX ⟨by omega, by omega⟩ ⟨by omega, by omega⟩ ⟨by omega, by omega⟩ hs3 hs2 ⟨⟨by omega, by omega⟩, fun _ => ?_⟩
      rw [show ((gCn (gnE F) p : Int) + 1).toNat = gCn (gnE F) p + 1 by omega, f3]
      refine ⟨fun _ => hk M3 o3 ?_, fun y => absurd (by omega) y⟩
      refine gcPe.end (tg := gFoT S tg cs i n) (by rw [gFoT_l, show tg.length = j by omega]; exact p3) e2 i3 (hcn.st k1 k3 o3 (by omega)) (fun m hm => ?_)
      rw [gFoT_l] at hm
      rw [gFoT_t hm]
      exact t3 m (by omega)
    | succ u ih =>
      intro j M3 hj hj2 hc2 o3 i3 p3 t3
      have f3 : M3 (r0 + 3) (gCn (gnE F) p + 1) = ((gSp F p + tg.length : Nat) : Int) := (o3 _ _ (by unfold gStR; omega)).trans nxt
      by_cases jl : j = tg.length
      · refine w_Ed_addFollowed_38 hX ⟨by omega, by omega⟩ ⟨by omega, by omega⟩ ⟨by omega, by omega⟩ hs3 hs2 ⟨⟨by omega, by omega⟩, fun _ => ?_⟩
        rw [show ((gCn (gnE F) p : Int) + 1).toNat = gCn (gnE F) p + 1 by omega, f3]
        refine ⟨fun _ => hk M3 o3 ?_, fun y => absurd (by omega) y⟩
        refine gcPe.end (tg := gFoT S tg cs i n) (by rw [gFoT_l, ← jl]; exact p3) e2 i3 (hcn.st k1 k3 o3 (by omega)) (fun m hm => ?_)
        rw [gFoT_l] at hm
        rw [gFoT_t hm]
        exact t3 m (by omega)
      have jt : j < tg.length := by omega
      have ef3 : gEdF M3 c cs i n := hf.kp (fun j => o3 _ _ (by unfold gStR; omega))
      have fs : M3 (c + 12) (rf + j) = gFxd S j + 4 * gCor S j := (o3 _ _ (by unfold gStR; omega)).trans (c7.1 j (by omega)).2
      have f4 : ∀ m, m < tg.length → M3 (r0 + 4) (gSp F p + m) = gTt tg m := fun m hm => (o3 _ _ (by unfold gStR; omega)).trans (a4 m hm)
      have co := cor j jt
      have fx : 0 ≤ gFxd S j ∧ gFxd S j ≤ 3 := b4 j (by omega)
      have sp := (gShp3 fx co).2.2.2
      have v5 := k5 j jt
      have nb := gFoN_bd hL ok jt
      -- one target added
      have one : gFoN S tg cs i n j = gFp cs i n (gTt tg j) → (gCor S j = 1 → gTt tg j = -1) → cI l G y_Ed_followed (gRm (d + 1 + 1)) false [gR G (c + 21), gI (gTt tg j)] X M3 (fun v9 M8 => cV l G y_St_addTarget (gRm (d + 1 + 1)) true [gR G r, gI v9] X M8 (fun M11 => wp l G y_Ed_addFollowed (gRm (d + 1 + 1 + 1)) true (kkV X k) true 38 [.val (gR G (c + 21)), .val (gI (gCn (gnE F) p : Int)), .val (gI ((rf : Int) - (gSp F p : Int))), .val (gI ((gSp F p + (j + 1) : Nat) : Int)), .unset] [] X M11 0 0)) := by
        intro e1 h1
        refine c_Ed_followed hX hL ef3 v5 ?_
        rw [← e1]
        refine c_St_addTarget hs3.2 (by omega) hF2 p3 hn (by omega) ⟨by omega, by omega⟩ (fun M4 o4 p4 t4 => ih (j + 1) M4 (by omega) (by omega) (fun z1 z2 => ?_) (o3.tr (o4.mono (fun x y h => by unfold gStR; omega))) ((o4 _ _ (by omega)).trans i3) p4 (fun m hm => ?_))
        · rcases k6 (j + 1) z2 with w | ⟨w, _⟩ | ⟨_, _, w⟩
          · omega
          · omega
          · rw [Nat.add_sub_cancel] at w
            rcases k6 j jt with v | ⟨_, _, _, v⟩ | ⟨v, _⟩
            · omega
            · exact v.mp (h1 w)
            · omega
        · by_cases y : m = j
          · rw [y]; exact t4
          · rw [o4 _ _ (by omega)]; exact t3 m (by omega)
      refine w_Ed_addFollowed_38 hX ⟨by omega, by omega⟩ ⟨by omega, by omega⟩ ⟨by omega, by omega⟩ hs3 hs2 ⟨⟨by omega, by omega⟩, fun _ => ?_⟩
      rw [show ((gCn (gnE F) p : Int) + 1).toNat = gCn (gnE F) p + 1 by omega, f3, show ((rf : Int) - (gSp F p : Int) + ((gSp F p + j : Nat) : Int)).toNat = rf + j by omega, fs, sp, Int.toNat_natCast, f4 j jt, w32_id (x := ((gSp F p + j : Nat) : Int) + 1) ⟨by omega, by omega⟩, show ((gSp F p + j : Nat) : Int) + 1 = ((gSp F p + (j + 1) : Nat) : Int) by omega]
      refine ⟨fun y => absurd y (by omega), fun _ => ⟨⟨by omega, by omega⟩, fun _ => ⟨fun y => ⟨fun _ => ⟨⟨by omega, by omega⟩, fun _ => one ?_ (fun z => absurd z y)⟩, fun z => absurd rfl z⟩, fun y => ⟨fun z => absurd z (by decide), fun _ => ⟨⟨by omega, by omega⟩, fun _ => ⟨fun z => ⟨⟨by omega, by omega⟩, fun _ => one ?_ (fun _ => z)⟩, fun z => ⟨⟨by omega, by omega⟩, fun _ => ?_⟩⟩⟩⟩⟩⟩⟩
      · unfold gFoN
        rw [if_neg y]
        by_cases w : gCor S j = 2
        · have t := hc2 w jt
          rw [if_pos w, t]
          unfold gFrg gFp
          rw [if_pos rfl, if_pos rfl]
        · rw [if_neg w]
      · unfold gFoN
        rw [if_pos (Decidable.byContradiction y), z]
        unfold gFrg gFp
        rw [if_pos rfl, if_pos rfl]
      · have y1 : gCor S j = 1 := Decidable.byContradiction y
        obtain ⟨q2, q3, q4⟩ : j + 1 < tg.length ∧ gCor S (j + 1) = 2 ∧ (gTt tg j = -1 ↔ gTt tg (j + 1) = -1) := by
          rcases k6 j jt with w | ⟨_, w2, w3, w4⟩ | ⟨w, _⟩
          · omega
          · exact ⟨w2, w3, w4⟩
          · omega
        have v6 := k5 (j + 1) q2
        have v7 : gTt tg (j + 1) ≠ -1 := fun w => z (q4.mpr w)
        rw [Int.toNat_natCast, f4 (j + 1) q2, w32_id (x := ((gSp F p + (j + 1) : Nat) : Int) + 1) ⟨by omega, by omega⟩, show ((gSp F p + (j + 1) : Nat) : Int) + 1 = ((gSp F p + (j + 1 + 1) : Nat) : Int) by omega]
        refine ⟨⟨by omega, by omega⟩, fun _ => c_Ed_addFollowedRange hX hs3 hcr hL ef3 hF2 (by omega) (by omega) p3 hn (by omega) (fun M4 o4 p4 t4 t5 => ih (j + 1 + 1) M4 (by omega) (by omega) (fun z1 z2 => ?_) (o3.tr (o4.mono (fun x y h => by unfold gStR; omega))) ((o4 _ _ (by omega)).trans i3) p4 (fun m hm => ?_))⟩
        · rcases k6 (j + 1 + 1) z2 with w | ⟨w, _⟩ | ⟨_, _, w⟩
          · omega
          · omega
          · rw [Nat.add_sub_cancel] at w; omega
        · by_cases y : m = j
          · rw [y, t4]
            unfold gFoN
            rw [if_pos y1]
          · by_cases y : m = j + 1
            · rw [y, t5]
              unfold gFoN
              rw [if_neg (by omega), if_pos q3, Nat.add_sub_cancel]
            · rw [o4 _ _ (by omega)]; exact t3 m (by omega)
  refine e_Ed_addFollowed (w_Ed_addFollowed_0 hX ⟨by omega, by omega⟩ hs2 ?_)
  rw [Int.toNat_natCast, a2, Int.toNat_natCast, c4, st, w32_id (x := (rf : Int) - (gSp F p : Int)) ⟨by omega, by omega⟩]
  refine ⟨⟨by omega, by omega⟩, fun _ => ⟨⟨by omega, by omega⟩, fun _ => ⟨⟨by omega, by omega⟩, fun _ => ⟨⟨by omega, by omega⟩, fun _ => key tg.length 0 M (by omega) (by omega) (fun y z => ?_) (gOff.rf _ _) hid h (fun m hm => absurd hm (Nat.not_lt_zero _))⟩⟩⟩⟩
  rcases k6 0 z with w | ⟨w, _⟩ | ⟨_, w, _⟩
  · omega
  · omega
  · omega
theorem c_Ed_shifted {x2 x4 : Int} {k : Int → gM → Prop} (hX : glX X c) (hs3 : X.2.2 (c + 21) 3 = r ∧ gsX X r) (hs2 : X.2.2 (c + 21) 2 = r0 ∧ gsX X r0) (hcr : c + 22 < r) (hcr0 : c + 22 < r0) (hd : r + 4 < r0 ∨ r0 + 4 < r) (hL : gLin cs i n) (hF : gSok F) (h0 : gcSt M c r0 F) (h1 : M r 0 = 0) (h3 : M (r + 3) 0 = 0) (hx : (0 < n ∧ x2 = 1 ∧ x4 = n) ∨ (n < 0 ∧ x2 = 0 ∧ x4 = -n))
    (hk1 : (0 < n → ∀ p : Nat, F p ≠ none → gFp cs i n p ≠ -1) → gRsF (gShft F cs i n) 5200 ≤ 20000 → ∀ M2, gOff (gEdR c r) M M2 → gcSt M2 c r (gShft F cs i n) → k 1 M2) (hk0 : (0 < n ∧ ∃ p : Nat, F p ≠ none ∧ gFp cs i n p = -1) ∨ 20000 < gRsF (gShft F cs i n) 5200 → ∀ M2, gOff (gEdR c r) M M2 → k 0 M2) :
    cZ l G y_Ed_shifted (gRm (d + 1 + 1 + 1 + 1)) true [gR G (c + 21), gI cs, gI x2, gI i, gI x4] X M k := by
  have st : ∀ M3, gOff (gEdR c r) M M3 → gcSt M3 c r0 F := by
    clear hx
    exact fun M3 o3 => h0.kp hF (fun a j _ _ => o3 _ _ (by unfold gEdR gStR; omega)) (fun a j _ => o3 _ _ (by unfold gEdR gStR; omega))
  have cb : 0 ≤ cs ∧ cs ≤ 1 := by rcases hL.1 with y | y <;> subst y <;> decide
  have hm := gFm_c hL.1
  have ib : 0 ≤ i ∧ i < 200 := by have := hL.2.1; have := hL.2.2.1; clear hx hd; omega
  have xb : (0 ≤ x2 ∧ x2 ≤ 1) ∧ -60 ≤ x4 ∧ x4 ≤ 60 := by
    have q := hL.2.2.2
    clear hd hm hk0 hk1 h1 h3 h0 hcr hcr0 ib cb st
    rcases hx with ⟨w1, w2, w3⟩ | ⟨w1, w2, w3⟩
    · rw [w2, w3]; exact ⟨by decide, by omega⟩
    · rw [w2, w3]; exact ⟨by decide, by omega⟩
  have xp : 0 < n → x2 = 1 ∧ x4 = n := fun z => (hx.resolve_right (fun w => Int.lt_asymm z w.1)).2
  have xn : n < 0 → x2 = 0 ∧ x4 = -n := fun z => (hx.resolve_left (fun w => Int.lt_asymm z w.1)).2
  clear hx
  have hL2 := hL
  obtain ⟨l1, l2, l3, l4⟩ := hL2
  have hF2 := hF.shft hL
  have key : ∀ (u p b : Nat) (M3 : gM), p + u = 5200 → gOff (gEdR c r) M M3 → gEdF M3 c cs i n → gShP F cs i n p b → gcPf M3 c r (gShft F cs i n) b → (0 < n → ∀ x : Nat, x < p → F x ≠ none → gFp cs i n x ≠ -1) → wp l G y_Ed_shifted (gRm (d + 1 + 1 + 1 + 1)) true (kkZ X k) true 24 [.val (gR G (c + 21)), .unset, .unset, .unset, .unset, .val (gI (gCn (gnE F) p : Int)), .unset] [] X M3 0 0 := by
    intro u
    induction u with
    | zero =>
      intro p b M3 hp o3 f3 s3 p3 g3
      have e : p = 5200 := by omega
      subst e
      have p4 := p3.skip s3.1 (fun x y1 y2 => gShP_e hF s3 x y1)
      have st4 := p4.st (Nat.le_trans (gShft_n hL hF) h0.2.1) hF2.r50
      have hn0 := h0.2.1
      refine w_Ed_shifted_24 hX ⟨by omega, by omega⟩ hs3 hs2 fun _ => ?_
      rw [(st M3 o3).1]
      refine ⟨fun _ => c_Ed_rangesFit hX hs3 hF2 st4 (fun y => hk1 (fun z x hx => g3 z x ?_ hx) y M3 o3 st4) (fun y => hk0 (Or.inr y) M3 o3), fun y => absurd (Int.le_refl _) y⟩
      cases ex : F x with
      | none => exact absurd ex hx
      | some w => exact (hF x w.1 w.2 ex).1
    | succ u ih =>
      intro p b M3 hp o3 f3 s3 p3 g3
      cases e : F p with
      | none =>
        have i := ih (p + 1) b M3 (by omega) o3 f3 (gShP_n s3 (Or.inl e)) p3 (fun z x hx hy => g3 z x (by
          rcases Nat.lt_or_ge x p with w | w
          · exact w
          · rw [show x = p by omega] at hy; exact absurd e hy) hy)
        rw [gCn_n (Q := gnE F) (fun y => y e)] at i
        exact i
      | some w =>
        obtain ⟨S, tg⟩ := w
        have st3 := st M3 o3
        have hn0 := h0.2.1
        have lt := gCn_lt (Q := gnE F) (show p < 5200 by omega) (gnE_s e)
        obtain ⟨a1, ⟨ci, a2, a3⟩, a4⟩ := st3.2.2.2.2 p (by omega) S tg e
        have bd := gFp_bd hL (p := (p : Int)) (by omega)
        refine w_Ed_shifted_24 hX ⟨by omega, by omega⟩ hs3 hs2 fun _ => ?_
        rw [st3.1, Int.toNat_natCast, a1]
        refine ⟨fun y => absurd y (by omega), fun _ => ⟨⟨by omega, by omega⟩, fun _ => c_Ed_followed hX hL f3 (by omega) ⟨fun y => ?_, fun y => ?_⟩⟩⟩
        · refine fun _ => ⟨fun z => ?_, fun z => ?_⟩
          · have n0 : n < 0 := by
              rcases l4 with w | w
              · have := (f3.2.2.1 w.1).1; omega
              · exact w.1
            rw [w32_id (x := (gCn (gnE F) p : Int) + 1) ⟨by omega, by omega⟩, show (gCn (gnE F) p : Int) + 1 = ((gCn (gnE F) p + 1 : Nat) : Int) by omega, ← gCn_y (Q := gnE F) (gnE_s e)]
            exact ih (p + 1) b M3 (by omega) o3 f3 (gShP_n s3 (Or.inr y)) p3 (fun z => absurd z (by omega))
          · have n0 : 0 < n := by
              rcases l4 with w | w
              · exact w.1
              · have := (f3.2.2.2 w.1).1; omega
            exact hk0 (Or.inl ⟨n0, p, gnE_s e, y⟩) M3 o3
        · obtain ⟨q, hq⟩ : ∃ q : Nat, gFp cs i n p = (q : Int) := ⟨(gFp cs i n p).toNat, by omega⟩
          obtain ⟨q1, q2, q3, q4⟩ := gShP_s hL hF s3 e hq
          have e2 := gShft_s hL hF e hq
          have p4 := p3.skip q1 q3
          have nq : gCn (gnE (gShft F cs i n)) q < 400 := by
            have w1 := q4.2.1
            rw [gCn_y (Q := gnE F) (gnE_s e), gCn_y (Q := gnE (gShft F cs i n)) (gnE_s e2)] at w1
            omega
          rw [a2, hq, w32_id (x := (gCn (gnE F) p : Int) + 1) ⟨by omega, by omega⟩, show (gCn (gnE F) p : Int) + 1 = ((gCn (gnE F) p + 1 : Nat) : Int) by omega, ← gCn_y (Q := gnE F) (gnE_s e)]
          have b2 := a3.1
          have ok := (hF p S tg e).2
          refine ⟨⟨by omega, by omega⟩, fun _ => c_St_addEntry hs3.2 (by omega) hF2 p4 nq q2 (by omega) (fun M4 o4 p5 i5 => ?_)⟩
          refine c_Ed_addFollowed hX hs3 hs2 hcr hd hL (f3.kp (fun j => o4 _ _ (by unfold gStR; omega))) hF hF2 (st3.st hF o4 (by omega) hd) (by omega) e e2 i5 (a3.st ok.1 ok.2.2.1 o4 (by omega)) p5 nq (fun M5 o5 p6 => ?_)
          refine ih (p + 1) (q + 1) M5 (by omega) ((o3.tr (o4.mono (fun a j h => Or.inr (Or.inr h)))).tr (o5.mono (fun a j h => Or.inr (Or.inr h)))) ((f3.kp (fun j => o4 _ _ (by unfold gStR; omega))).kp (fun j => o5 _ _ (by unfold gStR; omega))) q4 p6 (fun z x hx hy => ?_)
          rcases Nat.lt_or_ge x p with w | w
          · exact g3 z x w hy
          · rw [show x = p by omega]; exact y
  refine e_Ed_shifted (w_Ed_shifted_0 hX cb xb.1 ⟨by omega, by omega⟩ ⟨by omega, by omega⟩ ?_)
  refine key 5200 0 0 _ (by omega) ?_ ⟨?_, ?_, fun z => ⟨?_, ?_⟩, fun z => ⟨?_, ?_⟩⟩ (gShP_0 hL hF) (gcPf_0 ?_ ?_) (fun _ x hx => absurd hx (Nat.not_lt_zero _))
  · exact ((((gOff.rf _ M).up (Or.inl rfl)).up (Or.inl rfl)).up (Or.inl rfl)).up (Or.inl rfl)
  · rw [gUp_k (by decide), gUp_k (by decide), gUp_k (by decide), gUp_eq]
  · rw [gUp_k (by decide), gUp_eq]
  · rw [gUp_k (by decide), gUp_k (by decide), gUp_eq]; exact (xp z).1
  · rw [gUp_eq]; exact (xp z).2
  · rw [gUp_k (by decide), gUp_k (by decide), gUp_eq]; exact (xn z).1
  · rw [gUp_eq]; exact (xn z).2
  · rw [gUp_a (by omega), gUp_a (by omega), gUp_a (by omega), gUp_a (by omega)]; exact h1
  · rw [gUp_a (by omega), gUp_a (by omega), gUp_a (by omega), gUp_a (by omega)]; exact h3
end gfU
