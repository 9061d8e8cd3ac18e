/-! The class's Edits: contents written into a box. -/
theorem gSok.r50 {F : gSht} (h : gSok F) : g50 F := fun p S tg e => by
  obtain ⟨_, k1, k2, k3, k4, k5⟩ := h p S tg e
  have := (gRefs_ok k1).2
  omega
section gfP
variable {l : Launch} {G : gG} {d : Nat} {X : gX} {M M2 : gM} {c r r0 : Nat} {F F2 : gSht}
theorem gcPe.up {p j i : Nat} {v : Int} (hF : gSok F) (hcr : c + 13 < r) (h : gcPe M c r F p j) : gcPe (gUp M (r + 4) (gSp F p + i) v) c r F p j := by
  obtain ⟨h1, h2, h3, h4, h5⟩ := h
  have o : gOff (gStR r) M (gUp M (r + 4) (gSp F p + i) v) := (gOff.rf _ M).up (by unfold gStR; omega)
  refine ⟨by rw [gUp_a (by omega)]; exact h1, by rw [gUp_a (by omega)]; exact h2, fun q hq => by rw [gUp_a (by omega)]; exact h3 q hq, fun q hq S tg e => ?_, by rw [gUp_a (by omega)]; exact h5⟩
  obtain ⟨a1, ⟨ci, a2, a3⟩, a4⟩ := h4 q hq S tg e
  have ok := (hF q S tg e).2
  have sl := gSp_le (F := F) (show q + 1 ≤ p from hq)
  rw [gSp_s e] at sl
  exact ⟨by rw [gUp_a (by omega)]; exact a1, ⟨ci, by rw [gUp_a (by omega)]; exact a2, a3.st ok.1 ok.2.2.1 o hcr⟩, fun k hk => by rw [gUp_k (by omega)]; exact a4 k hk⟩
theorem c_Ed_addMoved {q id : Nat} {a b : Int} {S tg : List Int} {k : gM → Prop} (hX : glX X c) (hs3 : X.2.2 (c + 21) 3 = r ∧ gsX X r) (hcr : c + 22 < r) (hF : gSok F2) (h : gcPf M c r F2 q) (hq : q < 5200) (hn : gCn (gnE F2) q < 400) (hid : gcCn M c id S) (hok : gCok S tg) (hm : ∀ i, i < tg.length → M (c + 22) i = gTt tg i) (ha : -30 ≤ a ∧ a ≤ 30) (hb : -200 ≤ b ∧ b ≤ 200) (e : F2 q = some (S, gMvT S tg a b))
    (hk : ∀ M2, gOff (gStR r) M M2 → gcPf M2 c r F2 (q + 1) → k M2) : cV l G y_Ed_addMoved (gRm (d + 1 + 1)) true [gR G (c + 21), gI (id : Int), gI (q : Int), gI a, gI b] X M k := by
  obtain ⟨⟨b2, b2'⟩, b3, b4, cs, cz, rf, c1, c2, ⟨c3, c3'⟩, c4, c5, ⟨c6, c6'⟩, c7, c8, c9⟩ := _root_.id hid
  obtain ⟨k1, k2, k3, k4, k5, k6⟩ := _root_.id hok
  have l50 := (gRefs_ok k1).2
  have s50 := gSp_50 hF.r50 q
  have cor : ∀ j, j < tg.length → 0 ≤ gCor S j ∧ gCor S j ≤ 2 := fun j hj => by
    rcases k6 j hj with y | y | y
    · omega
    · have := y.1; omega
    · have := y.1; omega
  have key : ∀ (u j : Nat) (M3 : gM), j + u = tg.length → gOff (gStR r) M M3 → gcPe M3 c r F2 q j → M3 (r + 2) (gCn (gnE F2) q) = (id : Int) → (∀ i, i < j → M3 (r + 4) (gSp F2 q + i) = (if i + 1 = j ∧ gCor S i = 1 then gMvI S tg a b i else gMvN S tg a b i)) → wp l G y_Ed_addMoved (gRm (d + 1 + 1)) true (kkV X k) true 23 [.val (gR G (c + 21)), .val (gI (id : Int)), .unset, .val (gI a), .val (gI b), .val (gI (rf : Int)), .val (gI (j : Int)), .unset, .unset, .unset, .unset] [] X M3 0 0 := by
    intro u
    induction u with
    | zero =>
      intro j M3 hj o3 p3 i3 t3
      have f7 : M3 (c + 7) id = ((gRefs S).length : Int) := (o3 _ _ (by unfold gStR; omega)).trans c5
      refine w_Ed_addMoved_23 hX ⟨by omega, by omega⟩ ⟨by omega, by omega⟩ ⟨by omega, by omega⟩ ⟨by omega, by omega⟩ ⟨by omega, by omega⟩ hs3 ⟨⟨by omega, by omega⟩, fun _ => ?_⟩
      rw [Int.toNat_natCast, f7]
      refine ⟨fun _ => hk M3 o3 ?_, fun y => absurd (by omega) y⟩
      refine gcPe.end (tg := gMvT S tg a b) (by rw [gMvT_l, ← hj]; exact p3) e i3 (hid.st k1 k3 o3 (by omega)) (fun i hi => ?_)
      rw [gMvT_l] at hi
      rw [t3 i (by omega), gMvT_t hi, if_neg]
      intro y
      rcases k6 i hi with z | ⟨_, z, _⟩ | ⟨z, _⟩ <;> omega
    | succ u ih =>
      intro j M3 hj o3 p3 i3 t3
      have f7 : M3 (c + 7) id = ((gRefs S).length : Int) := (o3 _ _ (by unfold gStR; omega)).trans c5
      have fm : M3 (c + 22) j = gTt tg j := (o3 _ _ (by unfold gStR; omega)).trans (hm j (by omega))
      have fs : M3 (c + 12) (rf + j) = gFxd S j + 4 * gCor S j := (o3 _ _ (by unfold gStR; omega)).trans (c7.1 j (by omega)).2
      have f0 : M3 r 0 = ((gCn (gnE F2) q + 1 : Nat) : Int) := p3.1
      have f3 : M3 (r + 3) (gCn (gnE F2) q + 1) = ((gSp F2 q + j : Nat) : Int) := p3.2.1
      have co := cor j (by omega)
      have fx : 0 ≤ gFxd S j ∧ gFxd S j ≤ 3 := b4 j (by omega)
      have sp := (gShp3 fx co).2.2.1
      have vb : gMvI S tg a b j = -1 ∨ 0 ≤ gMvI S tg a b j ∧ gMvI S tg a b j < 5200 := gMv1_bd _ _ _ _
      -- the next round
      have go : ∀ (M4 : gM) (v : Int), g32 v → gOff (gStR r) M M4 → gcPe M4 c r F2 q j → M4 (r + 2) (gCn (gnE F2) q) = (id : Int) → (∀ i, i < j → M4 (r + 4) (gSp F2 q + i) = gMvN S tg a b i) → (if gCor S j = 1 then gMvI S tg a b j else gMvN S tg a b j) = v → cV l G y_St_addTarget (gRm (d + 1)) true [gR G r, gI v] X M4 (fun M12 => wp l G y_Ed_addMoved (gRm (d + 1 + 1)) true (kkV X k) true 23 [.val (gR G (c + 21)), .val (gI (id : Int)), .unset, .val (gI a), .val (gI b), .val (gI (rf : Int)), .val (gI ((j + 1 : Nat) : Int)), .unset, .unset, .unset, .unset] [] X M12 0 0) := by
        intro M4 v hv o4 p4 i4 t4 ev
        refine c_St_addTarget hs3.2 (by omega) hF p4 hn (by omega) hv (fun M5 o5 p5 e5 => ih (j + 1) M5 (by omega) (o4.tr (o5.mono (fun x y h => by unfold gStR; omega))) p5 ((o5 _ _ (by omega)).trans i4) (fun i hi => ?_))
        by_cases y : i = j
        · subst y
          rw [e5, ← ev]
          by_cases z : gCor S i = 1
          · rw [if_pos z, if_pos ⟨rfl, z⟩]
          · rw [if_neg z, if_neg (fun w => z w.2)]
        · rw [if_neg (fun w => y (by omega)), o5 _ _ (by omega)]
          exact t4 i (by omega)
      have nN : gCor S j = 0 → gMvN S tg a b j = gMvI S tg a b j := fun y => by unfold gMvN; rw [y]; exact if_neg (fun z => z.elim (fun w => absurd w.1 (by decide)) (fun w => absurd w.1 (by decide)))
      refine w_Ed_addMoved_23 hX ⟨by omega, by omega⟩ ⟨by omega, by omega⟩ ⟨by omega, by omega⟩ ⟨by omega, by omega⟩ ⟨by omega, by omega⟩ hs3 ⟨⟨by omega, by omega⟩, fun _ => ?_⟩
      rw [Int.toNat_natCast, f7, show ((rf : Int) + (j : Int)).toNat = rf + j by omega, Int.toNat_natCast, fs, fm]
      refine ⟨fun y => absurd y (by omega), fun _ => ⟨⟨by omega, by omega⟩, fun _ => ⟨⟨by omega, by omega⟩, fun _ => c_Ed_moved (k5 j (by omega)) fx co ha hb ?_⟩⟩⟩
      rw [show gMv1 (gTt tg j) (gFxd S j) a b = gMvI S tg a b j from rfl, f0, Int.toNat_natCast, f3, w32_id (x := (j : Int) + 1) ⟨by omega, by omega⟩, show (j : Int) + 1 = ((j + 1 : Nat) : Int) by omega]
      refine ⟨fun y => fun _ => ⟨⟨by omega, by omega⟩, fun _ => ⟨fun _ => ?_, fun y => absurd rfl y⟩⟩, fun y => fun _ => ⟨⟨by omega, by omega⟩, fun _ => ⟨fun y => absurd y (by decide), fun _ => ?_⟩⟩⟩
      · have y2 := sp.mp y
        refine w_Ed_addMoved_128 hX ⟨by omega, by omega⟩ ⟨by omega, by omega⟩ ⟨by omega, by omega⟩ ⟨by omega, by omega⟩ ⟨by omega, by omega⟩ ⟨by omega, by omega⟩ (g32_c rfl) (g32_of _) hs3 ⟨fun _ => ?_, fun y => absurd rfl y⟩
        rw [w32_id (x := (j : Int) + 1) ⟨by omega, by omega⟩, show (j : Int) + 1 = ((j + 1 : Nat) : Int) by omega]
        refine go M3 _ ⟨by omega, by omega⟩ o3 p3 i3 (fun i hi => ?_) ?_
        · rw [t3 i hi, if_neg]
          intro z
          rcases k6 i (by omega) with w | ⟨_, _, w, _⟩ | ⟨w, _⟩
          · omega
          · rw [z.1] at w; exact y2 w
          · omega
        · by_cases z : gCor S j = 1
          · rw [if_pos z]
          · rw [if_neg z]; exact nN (by omega)
      · have y2 : gCor S j = 2 := Decidable.byContradiction fun z => y (sp.mpr z)
        obtain ⟨j1, j2⟩ : 1 ≤ j ∧ gCor S (j - 1) = 1 := by
          rcases k6 j (by omega) with w | ⟨w, _⟩ | ⟨_, w1, w2⟩
          · omega
          · omega
          · exact ⟨w1, w2⟩
        have tv : M3 (r + 4) (gSp F2 q + (j - 1)) = gMvI S tg a b (j - 1) := by rw [t3 (j - 1) (by omega), if_pos ⟨by omega, j2⟩]
        have tN1 : gMvN S tg a b (j - 1) = if gMvI S tg a b j = -1 then -1 else gMvI S tg a b (j - 1) := by
          unfold gMvN
          rw [j2, show j - 1 + 1 = j by omega]
          by_cases z : gMvI S tg a b j = -1
          · rw [if_pos z, if_pos (Or.inl ⟨rfl, z⟩)]
          · rw [if_neg z, if_neg (fun w => w.elim (fun w => z w.2) (fun w => absurd w.1 (by decide)))]
        have tN2 : gMvN S tg a b j = if gMvI S tg a b (j - 1) = -1 then -1 else gMvI S tg a b j := by
          unfold gMvN
          rw [y2]
          by_cases z : gMvI S tg a b (j - 1) = -1
          · rw [if_pos z, if_pos (Or.inr ⟨rfl, z⟩)]
          · rw [if_neg z, if_neg (fun w => w.elim (fun w => absurd w.1 (by decide)) (fun w => z w.2))]
        have nJ : (if gCor S j = 1 then gMvI S tg a b j else gMvN S tg a b j) = gMvN S tg a b j := if_neg (by omega)
        have old : ∀ i, i < j → i ≠ j - 1 → M3 (r + 4) (gSp F2 q + i) = gMvN S tg a b i := fun i hi z => by rw [t3 i hi, if_neg (fun w => z (by omega))]
        rw [show (((gSp F2 q + j : Nat) : Int) - 1).toNat = gSp F2 q + (j - 1) by omega, tv, w32_id (x := ((gSp F2 q + j : Nat) : Int) - 1) ⟨by omega, by omega⟩]
        refine ⟨⟨by omega, by omega⟩, fun _ => ⟨fun z => ?_, fun z => ?_⟩⟩
        · refine w_Ed_addMoved_128 hX ⟨by omega, by omega⟩ ⟨by omega, by omega⟩ ⟨by omega, by omega⟩ ⟨by omega, by omega⟩ ⟨by omega, by omega⟩ ⟨by omega, by omega⟩ (g32_c rfl) ⟨by omega, by omega⟩ hs3 ⟨fun y => absurd y (by decide), fun _ => ⟨fun w => ?_, fun w => ⟨⟨by omega, by omega⟩, ?_⟩⟩⟩
          · rw [w32_id (x := (j : Int) + 1) ⟨by omega, by omega⟩, show (j : Int) + 1 = ((j + 1 : Nat) : Int) by omega]
            refine go M3 _ ⟨by omega, by omega⟩ o3 p3 i3 (fun i hi => ?_) (by rw [nJ, tN2, if_neg z])
            by_cases v : i = j - 1
            · rw [v, tv, tN1, if_neg w]
            · exact old i hi v
          · rw [w32_id (x := (j : Int) + 1) ⟨by omega, by omega⟩, show (j : Int) + 1 = ((j + 1 : Nat) : Int) by omega, show (((gSp F2 q + j : Nat) : Int) - 1).toNat = gSp F2 q + (j - 1) by omega]
            refine go _ _ ⟨by omega, by omega⟩ (o3.up (by unfold gStR; omega)) (gcPe.up hF (by omega) p3) (by rw [gUp_a (by omega)]; exact i3) (fun i hi => ?_) (by rw [nJ, tN2, if_neg z])
            by_cases v : i = j - 1
            · rw [v, gUp_eq, tN1, if_pos w]
            · rw [gUp_k (by omega)]; exact old i hi v
        · refine go M3 _ ⟨by decide, by decide⟩ o3 p3 i3 (fun i hi => ?_) (by rw [nJ, tN2, if_pos z])
          by_cases v : i = j - 1
          · rw [v, tv, tN1, z]; split <;> rfl
          · exact old i hi v
  refine e_Ed_addMoved (w_Ed_addMoved_0 hX ⟨by omega, by omega⟩ ⟨by omega, by omega⟩ ⟨by omega, by omega⟩ ⟨by omega, by omega⟩ hs3 (c_St_addEntry hs3.2 (by omega) hF h hn hq (by omega) (fun M3 o3 p3 i3 => ⟨⟨by omega, by omega⟩, fun _ => ?_⟩)))
  rw [Int.toNat_natCast, show M3 (c + 6) id = (rf : Int) from (o3 _ _ (by unfold gStR; omega)).trans c4]
  exact key tg.length 0 M3 (by omega) o3 p3 i3 (fun i hi => absurd hi (Nat.not_lt_zero _))
theorem gcSt.st (h : gcSt M c r0 F) (hF : gSok F) (o : gOff (gStR r) M M2) (hcr : c + 13 < r) (hd : r + 4 < r0 ∨ r0 + 4 < r) : gcSt M2 c r0 F := h.kp hF (fun a j _ _ => o _ _ (by unfold gStR; omega)) (fun a j _ => o _ _ (by unfold gStR; omega))
/-- what is written: nothing, or a content with its targets laid ready -/
def gcWx (M : gM) (c id : Nat) (x : Option (List Int × List Int)) : Prop := (x = none ∧ id = 0) ∨ ∃ S tg, x = some (S, tg) ∧ gCok S tg ∧ 0 < id ∧ gcCn M c id S ∧ ∀ i, i < tg.length → M (c + 22) i = gTt tg i
theorem gcWx.st {id : Nat} {x : Option (List Int × List Int)} (h : gcWx M c id x) (o : gOff (gStR r) M M2) (hcr : c + 22 < r) : gcWx M2 c id x := by
  rcases h with h | ⟨S, tg, h1, h2, h3, h4, h5⟩
  · exact Or.inl h
  · exact Or.inr ⟨S, tg, h1, h2, h3, h4.st h2.1 h2.2.2.1 o (by omega), fun i hi => (o _ _ (by unfold gStR; omega)).trans (h5 i hi)⟩
theorem c_Ed_written {p id c1 r1 d1 s1 : Nat} {x : Option (List Int × List Int)} {k : Int → gM → Prop} (hX : glX X c) (hs3 : X.2.2 (c + 21) 3 = r ∧ gsX X r) (hs2 : X.2.2 (c + 21) 2 = r0 ∧ gsX X r0) (hcr : c + 22 < r) (hd : r + 4 < r0 ∨ r0 + 4 < r) (hF : gSok F) (hF2 : gSok F2) (h0 : gcSt M c r0 F) (h : gcPf M c r F2 0) (hx : gcWx M c id x) (hp : p < 5200) (hid : id < 513) (hc : c1 ≤ d1 ∧ d1 < 26) (hr : r1 ≤ s1 ∧ s1 < 200)
    (hin : ∀ q, gIn4 c1 r1 d1 s1 q → F2 q = gMvC x ((q % 26 : Nat) - (p % 26 : Nat) : Int) ((q / 26 : Nat) - (p / 26 : Nat) : Int)) (hout : ∀ q, ¬ gIn4 c1 r1 d1 s1 q → F2 q = F q)
    (hk1 : gCn (gnE F2) 5200 ≤ 400 → gRsF F2 5200 ≤ 20000 → ∀ M2, gOff (gStR r) M M2 → gcSt M2 c r F2 → k 1 M2) (hk0 : 400 < gCn (gnE F2) 5200 ∨ 20000 < gRsF F2 5200 → ∀ M2, gOff (gStR r) M M2 → k 0 M2) :
    cZ l G y_Ed_written (gRm (d + 1 + 1 + 1)) true [gR G (c + 21), gI (id : Int), gI (p : Int), gI (c1 : Int), gI (r1 : Int), gI (d1 : Int), gI (s1 : Int)] X M k := by
  have hnF := h0.2.1
  have pm : (p : Int).tmod 26 = ((p % 26 : Nat) : Int) := by rw [Int.tmod_eq_emod_of_nonneg (by omega)]; omega
  have pd : (p : Int).tdiv 26 = ((p / 26 : Nat) : Int) := by rw [Int.tdiv_eq_ediv_of_nonneg (by omega)]; omega
  have rows : ∀ (u row b0 : Nat) (M3 : gM), row + u = s1 + 1 → r1 ≤ row → (b0 = 0 ∧ row = r1 ∨ r1 < row ∧ b0 = 26 * (row - 1) + d1 + 1) → gOff (gStR r) M M3 → gcPf M3 c r F2 b0 → gCn (gnE F2) b0 ≤ 400 → wp l G y_Ed_written (gRm (d + 1 + 1 + 1)) true (kkZ X k) true 7 [.val (gR G (c + 21)), .val (gI (id : Int)), .val (gI (p : Int)), .val (gI (c1 : Int)), .unset, .val (gI (d1 : Int)), .val (gI (s1 : Int)), .val (gI (gCn (gnE F) b0 : Int)), .val (gI (row : Int)), .unset] [] X M3 0 0 := by
    intro u
    induction u with
    | zero =>
      intro row b0 M3 hu hr0 hb o3 p3 n3
      have st3 := h0.st hF o3 (by omega) hd
      have nb := gCn_le (Q := gnE F) (show b0 ≤ 5200 by omega)
      refine w_Ed_written_7 hX ⟨by omega, by omega⟩ ⟨by omega, by omega⟩ ⟨by omega, by omega⟩ ⟨by omega, by omega⟩ ⟨by omega, by omega⟩ ⟨by omega, by omega⟩ ⟨by omega, by omega⟩ hs3 hs2 ⟨fun _ _ => ?_, fun y => absurd (by omega) y⟩
      rw [st3.1]
      refine c_St_addRun hs3.2 hs2.2 (by omega) hd hF2 hF2.r50 hF p3 st3 ⟨by omega, Nat.le_refl _⟩ n3 (fun q q1 q2 => hout q (fun z => by unfold gIn4 at z; omega)) (fun n4 M4 o4 p4 => ⟨fun y => absurd y (by decide), fun _ => ?_⟩) (fun n4 => ⟨fun _ => hk0 (Or.inl n4) M3 o3, fun y => absurd rfl y⟩)
      have st4 := p4.st n4 hF2.r50
      exact c_Ed_rangesFit hX hs3 hF2 st4 (fun y => ⟨fun z => absurd z (by decide), fun _ => hk1 n4 y M4 (o3.tr o4) st4⟩) (fun y => ⟨fun _ => hk0 (Or.inr y) M4 (o3.tr o4), fun z => absurd rfl z⟩)
    | succ u ih =>
      intro row b0 M3 hu hr0 hb o3 p3 n3
      have st3 := h0.st hF o3 (by omega) hd
      have nb := gCn_le (Q := gnE F) (show b0 ≤ 5200 by omega)
      have inn : ∀ col, c1 ≤ col → col ≤ d1 → gIn4 c1 r1 d1 s1 (26 * row + col) := fun col y1 y2 => by unfold gIn4; omega
      -- the row's own cells
      have cols : ∀ (v col : Nat) (M4 : gM), col + v = d1 + 1 → c1 ≤ col → gOff (gStR r) M M4 → gcPf M4 c r F2 (26 * row + col) → gCn (gnE F2) (26 * row + col) ≤ 400 → wp l G y_Ed_written (gRm (d + 1 + 1 + 1)) true (kkZ X k) true 66 [.val (gR G (c + 21)), .val (gI (id : Int)), .val (gI (p : Int)), .val (gI (c1 : Int)), .unset, .val (gI (d1 : Int)), .val (gI (s1 : Int)), .val (gI (gCn (gnE F) (26 * row + d1 + 1) : Int)), .val (gI (row : Int)), .val (gI (col : Int))] [] X M4 0 0 := by
        intro v
        have nd := gCn_le (Q := gnE F) (show 26 * row + d1 + 1 ≤ 5200 by omega)
        induction v with
        | zero =>
          intro col M4 hv hc4 o4 p4 n4
          refine w_Ed_written_66 hX ⟨by omega, by omega⟩ ⟨by omega, by omega⟩ ⟨by omega, by omega⟩ ⟨by omega, by omega⟩ ⟨by omega, by omega⟩ ⟨by omega, by omega⟩ ⟨by omega, by omega⟩ ⟨by omega, by omega⟩ hs3 hs2 ⟨fun _ => ?_, fun y => absurd (by omega) y⟩
          rw [w32_id (x := (row : Int) + 1) ⟨by omega, by omega⟩, show (row : Int) + 1 = ((row + 1 : Nat) : Int) by omega]
          refine ih (row + 1) (26 * row + d1 + 1) M4 (by omega) (by omega) (Or.inr ⟨by omega, by omega⟩) o4 ?_ ?_
          · rw [show 26 * row + d1 + 1 = 26 * row + col by omega]; exact p4
          · rw [show 26 * row + d1 + 1 = 26 * row + col by omega]; exact n4
        | succ v ihv =>
          intro col M4 hv hc4 o4 p4 n4
          have f0 : M4 r 0 = (gCn (gnE F2) (26 * row + col) : Int) := p4.1
          refine w_Ed_written_66 hX ⟨by omega, by omega⟩ ⟨by omega, by omega⟩ ⟨by omega, by omega⟩ ⟨by omega, by omega⟩ ⟨by omega, by omega⟩ ⟨by omega, by omega⟩ ⟨by omega, by omega⟩ ⟨by omega, by omega⟩ hs3 hs2 ⟨fun y => absurd y (by omega), fun _ => ⟨fun y => ?_, fun y => ?_⟩⟩
          · have xn : x = none := by
              rcases hx with z | ⟨S, tg, _, _, z, _⟩
              · exact z.1
              · omega
            have no : ∀ q, 26 * row + col ≤ q → q < 26 * row + d1 + 1 → F2 q = none := fun q q1 q2 => by
              have := hin q (by unfold gIn4; omega)
              rw [xn] at this
              exact this
            have ng : gCn (gnE F2) (26 * row + d1 + 1) = gCn (gnE F2) (26 * row + col) := gCn_gp (by omega) (fun q q1 q2 z => z (no q q1 q2))
            rw [w32_id (x := (row : Int) + 1) ⟨by omega, by omega⟩, show (row : Int) + 1 = ((row + 1 : Nat) : Int) by omega]
            exact ih (row + 1) (26 * row + d1 + 1) M4 (by omega) (by omega) (Or.inr ⟨by omega, by omega⟩) o4 (p4.skip (by omega) no) (by omega)
          · obtain ⟨S, tg, x1, x2, x3, x4, x5⟩ : ∃ S tg, x = some (S, tg) ∧ gCok S tg ∧ 0 < id ∧ gcCn M4 c id S ∧ ∀ i, i < tg.length → M4 (c + 22) i = gTt tg i := by
              rcases hx.st o4 hcr with z | z
              · exact absurd (by omega) y
              · exact z
            have e2 := hin (26 * row + col) (inn col hc4 (by omega))
            rw [x1] at e2
            have e3 : F2 (26 * row + col) = some (S, gMvT S tg (((26 * row + col) % 26 : Nat) - (p % 26 : Nat) : Int) (((26 * row + col) / 26 : Nat) - (p / 26 : Nat) : Int)) := e2
            have lt := gCn_lt (Q := gnE F2) (show 26 * row + col < 5200 by omega) (gnE_s e3)
            have ny := gCn_y (Q := gnE F2) (gnE_s e3)
            rw [f0]
            refine fun _ => ⟨fun z => c_GL_place (by unfold gIs; omega) ?_, fun z => hk0 (Or.inl (by omega)) M4 o4⟩
            rw [pm, pd, show (col : Int) + 26 * (row : Int) = ((26 * row + col : Nat) : Int) by omega, show (col : Int) - ((p % 26 : Nat) : Int) = (((26 * row + col) % 26 : Nat) : Int) - ((p % 26 : Nat) : Int) by omega, show (row : Int) - ((p / 26 : Nat) : Int) = (((26 * row + col) / 26 : Nat) : Int) - ((p / 26 : Nat) : Int) by omega]
            refine c_Ed_addMoved hX hs3 hcr hF2 p4 (by omega) (by omega) x4 x2 x5 (by omega) (by omega) e3 (fun M5 o5 p5 => ?_)
            rw [w32_id (x := (col : Int) + 1) ⟨by omega, by omega⟩, show (col : Int) + 1 = ((col + 1 : Nat) : Int) by omega]
            exact ihv (col + 1) M5 (by omega) (by omega) (o4.tr o5) p5 (by rw [show 26 * row + (col + 1) = 26 * row + col + 1 by omega]; omega)
      refine w_Ed_written_7 hX ⟨by omega, by omega⟩ ⟨by omega, by omega⟩ ⟨by omega, by omega⟩ ⟨by omega, by omega⟩ ⟨by omega, by omega⟩ ⟨by omega, by omega⟩ ⟨by omega, by omega⟩ hs3 hs2 ⟨fun y => absurd y (by omega), fun _ => c_GL_place (by unfold gIs; omega) ?_⟩
      rw [show (c1 : Int) + 26 * (row : Int) = ((26 * row + c1 : Nat) : Int) by omega]
      refine c_St_entryFrom hs2.2 st3 (by omega) ?_
      refine c_St_addRun hs3.2 hs2.2 (by omega) hd hF2 hF2.r50 hF p3 st3 ⟨by omega, by omega⟩ n3 (fun q q1 q2 => hout q (fun z => by unfold gIn4 at z; omega)) (fun n4 M4 o4 p4 => ⟨fun _ => c_GL_place (by unfold gIs; omega) ?_, fun y => absurd y (by decide)⟩) (fun n4 => ⟨fun y => absurd rfl y, fun _ => hk0 (Or.inl ?_) M3 o3⟩)
      · rw [show (d1 : Int) + 26 * (row : Int) + 1 = ((26 * row + d1 + 1 : Nat) : Int) by omega]
        refine c_St_entryFrom hs2.2 (st3.st hF o4 (by omega) hd) (by omega) ?_
        exact cols (d1 + 1 - c1) c1 M4 (by omega) (Nat.le_refl _) (o3.tr o4) p4 n4
      · have := gCn_le (Q := gnE F2) (show 26 * row + c1 ≤ 5200 by omega)
        omega
  exact e_Ed_written (w_Ed_written_0 hX ⟨by omega, by omega⟩ ⟨by omega, by omega⟩ ⟨by omega, by omega⟩ ⟨by omega, by omega⟩ ⟨by omega, by omega⟩ ⟨by omega, by omega⟩ (rows (s1 + 1 - r1) r1 0 M (by omega) (Nat.le_refl _) (Or.inl ⟨rfl, rfl⟩) (gOff.rf _ _) h (by show 0 ≤ 400; omega)))
end gfP
