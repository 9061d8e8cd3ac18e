/-! The class's Reader: an argument, read by one step more of the parser. -/
section gdO
variable {l : Launch} {G : gG} {X : gX} {c : Nat} {Q : gQ} {S : List Int} {ts : List gTkn} {id R0 : Nat}
theorem gC7_step {n : Nat} (hX : glX X c) (hO : gOld G Q) (hts : ts.length ≤ 100) (hto : ∀ t ∈ ts, gTkO S t ∧ 1 ≤ t.2.1) (hid : id < 513) (ih3 : gC3 l G X c S ts id R0 n) : gC7 l G X c S ts id R0 (n + 1) := by
  intro d M kk w i D1 ab cs bs rs k1 k2 k3 k4 k5 k6 hm hD hi hw hF hS
  obtain ⟨a, ha⟩ : ∃ a, a = ab + 1 := ⟨_, rfl⟩
  rw [← ha] at k2 k6 hm hF hS
  have hF : gPar S ts (gPs S ts n) D1 a rs = none → _ := hF
  have hS : ∀ x a' rs', gPar S ts (gPs S ts n) D1 a rs = some (x, a', rs') → _ := hS
  have b1 : gRbd ts ab cs (R0 + rs.length) bs a cs (R0 + rs.length) bs := by rw [ha]; exact gRbd.ad ts ab 1 _ _ _
  have c5 := k5
  unfold gRcap at c5
  have fl : gPar S ts (gPs S ts n) D1 a rs = none → ∀ v, 0 ≤ v ∧ v ≤ 1 → kk v (gUp M (c + 14) 5 1) := fun e => ((hF e).step (gOff.rf _ _) b1 (Nat.le_refl _)).fail k2 (by omega)
  have ek : ∀ j, j ≤ 3 → M (c + 17) (a + j) = gTK ts (a + j) := fun j hj => k1.2.1.kd (by omega)
  have ek0 : M (c + 17) a = gTK ts a := ek 0 (by decide)
  have tk66 := gTkx_ok hw
  have L4 := gLt_4 hw
  have gw : g32 w := ⟨by omega, by omega⟩
  have gi : g32 (i : Int) := ⟨by omega, by omega⟩
  have gD : g32 (D1 : Int) := ⟨by omega, by omega⟩
  rw [show d + (n + 1) + 8 = d + n + 4 + 5 by omega]
  refine e_Rd_readArgument (Q := Q) (w_Rd_readArgument_0 (Q := Q) (d := d + n + 4) hX hO gw gi gD ⟨fun hd => ?_, fun hd => fl (by unfold gPar; rw [if_pos (by omega)]) 0 ⟨by decide, by decide⟩⟩)
  have hpar : ¬ (gTK ts a = 19 ∧ gTK ts (a + 1) = 16 ∧ gTK ts (a + 2) = 19) → gPar S ts (gPs S ts n) D1 a rs = gPs S ts n 3 1 D1 (.num 0) a rs := fun q => by
    unfold gPar
    rw [if_neg (by omega), if_neg q]
  have sft2 : gSft w i ≤ 2 := by
    unfold gSft
    split
    · split <;> omega
    · omega
  -- the expression
  have s226 : ∀ (M1 : gM) (x6 : Int), ¬ (gTK ts a = 19 ∧ gTK ts (a + 1) = 16 ∧ gTK ts (a + 2) = 19) → (x6 = 0 ∧ ¬ (i < (gLt w).length ∧ (gLt w).getD i 0 = 114) ∨ x6 = 1 ∧ (i < (gLt w).length ∧ (gLt w).getD i 0 = 114) ∧ ¬ (gTK ts a = 19 ∧ (gTK ts (a + 1) = 15 ∨ gTK ts (a + 1) = 14))) → gOff (gRdR c id cs (R0 + rs.length) bs (D1 * 4 + min i 4)) M M1 → gRwh M1 c a (cs + gSft w i) (R0 + rs.length) bs → M1 (c + 14) 5 = 0 → gRfM M1 c id R0 rs → (1 ≤ gSft w i → M1 (c + 9) (cs + gSft w i - 1) = gxOp w.toNat ∧ M1 (c + 15) (D1 * 4 + i) = ((cs + gSft w i - 1 : Nat) : Int)) → (gSft w i = 2 → M1 (c + 9) cs = 10) → wp l G y_Rd_readArgument (gRm (d + n + 4 + 5)) true (kkZ X kk) true 226 [.val (gR G (c + 14)), .unset, .unset, .val (gI (D1 : Int)), .unset, .unset, .val (gI x6)] [] X M1 0 0 := by
    intro M1 x6 np hx6 o1 s1 f1 r1 op1 op2
    have b2 : gRbd ts ab cs (R0 + rs.length) bs a (cs + gSft w i) (R0 + rs.length) bs := by
      unfold gRbd at b1 ⊢
      omega
    have g6 : g32 x6 := by rcases hx6 with q | q <;> rw [q.1] <;> exact g32_c rfl
    have hq := hpar np
    refine w_Rd_readArgument_226 (Q := Q) (d := d + n + 4) hX hO gD g6 (ih3 d M1 _ 1 D1 a (cs + gSft w i) bs rs ⟨k1.kp o1, s1, f1, r1, k5.bd b2, k6⟩ (by omega) hD ⟨by decide, by decide⟩ ⟨fun e => ?_, fun x a' rs' e M2 bs' o f s bd rf co => ?_⟩)
    · rw [e] at hq
      intro M2 a' cs' rf' bs' o f s b l
      have := ((hF hq).step o1 b2 (mk1 := (D1 + 1) * 4) (by omega)) M2 a' cs' rf' bs' o f s b l
      exact ⟨fun _ => this 0 ⟨by decide, by decide⟩, fun _ => this 1 ⟨by decide, by decide⟩⟩
    · rw [e] at hq
      obtain ⟨p1, ⟨us, p2, p3⟩, p4⟩ := gPs_ok hto n 3 1 D1 _ a rs x a' rs' e k6 (fun _ => by decide) (fun y => by omega)
      have p4 : a < a' ∧ (gxWf (gPP rs') (gRR rs') S.length x).1 ∧ ((3 : Nat) ≠ 7 → gxR x = false) ∧ _ := p4
      have nr := p4.2.2.1 (by decide)
      have ot := o1.tr (o.mono (gRdR_le (mk := D1 * 4 + min i 4) (cs := cs) (rf := R0 + rs.length) (bs := bs) ⟨by omega, Nat.le_refl _, Nat.le_refl _, by omega⟩))
      have fin := hS x a' rs' hq M2
      rcases hx6 with ⟨q6, qb⟩ | ⟨q6, qb, qe⟩
      · refine ⟨fun y => absurd q6 y, fun _ => fin 1 (cs + gSft w i + (gxLn x).1) bs' ot f s (b2.tr bd) rf ⟨by decide, by decide⟩ (fun _ => ?_)⟩
        have ft : gFts (gLt w) i x = true := by
          unfold gFts
          rw [if_neg qb, nr]
          rfl
        rw [if_pos ft]
        refine ⟨rfl, fun _ => ?_⟩
        unfold gArE
        rw [if_neg qb]
        have i3 : 1 ≤ gSft w i → i ≤ 3 := fun y => by
          unfold gSft at y
          split at y
          · omega
          · omega
        refine ⟨co, rfl, fun y => ?_, fun y => ?_⟩
        · have h3 := i3 y
          rw [o _ _ (by unfold gRdR; omega), o _ _ (by unfold gRdR; omega)]
          exact op1 y
        · rw [o _ _ (by unfold gRdR; omega)]
          exact op2 y
      · refine ⟨fun _ => fin 0 (cs + gSft w i + (gxLn x).1) bs' ot f s (b2.tr bd) rf ⟨by decide, by decide⟩ (fun he => ?_), fun y => absurd y (by rw [q6]; decide)⟩
        have ft : gFts (gLt w) i x = false := by
          unfold gFts
          rw [if_pos qb, nr]
          cases hv : gxV x with
          | false => rfl
          | true =>
            have := gPs_var e hv
            rw [this.2] at he
            exact absurd ⟨this.1, he⟩ qe
        rw [ft]
        exact ⟨rfl, fun y => by cases y⟩
  have s198 : ∀ (x5 x6 : Int), ¬ (gTK ts a = 19 ∧ gTK ts (a + 1) = 16 ∧ gTK ts (a + 2) = 19) → (x5 = 0 ∧ (gLt w).length ≤ i ∨ x5 = 1 ∧ i < (gLt w).length) → (x6 = 0 ∧ ¬ (i < (gLt w).length ∧ (gLt w).getD i 0 = 114) ∨ x6 = 1 ∧ (i < (gLt w).length ∧ (gLt w).getD i 0 = 114) ∧ ¬ (gTK ts a = 19 ∧ (gTK ts (a + 1) = 15 ∨ gTK ts (a + 1) = 14))) → wp l G y_Rd_readArgument (gRm (d + n + 4 + 5)) true (kkZ X kk) true 198 [.val (gR G (c + 14)), .val (gI w), .val (gI (i : Int)), .val (gI (D1 : Int)), .unset, .val (gI x5), .val (gI x6)] [] X M 0 0 := by
    intro x5 x6 np h5 hx6
    have g5 : g32 x5 := by rcases h5 with q | q <;> rw [q.1] <;> exact g32_c rfl
    have g6 : g32 x6 := by rcases hx6 with q | q <;> rw [q.1] <;> exact g32_c rfl
    have plain : gSft w i = 0 → wp l G y_Rd_readArgument (gRm (d + n + 4 + 5)) true (kkZ X kk) true 226 [.val (gR G (c + 14)), .unset, .unset, .val (gI (D1 : Int)), .unset, .unset, .val (gI x6)] [] X M 0 0 := fun e0 => s226 M x6 np hx6 (gOff.rf _ _) (by rw [e0]; exact k2) k3 k4 (fun y => by omega) (fun y => by omega)
    refine w_Rd_readArgument_198 (Q := Q) (d := d + n + 4) hX hO gw gi gD g5 g6 ⟨fun z => plain ?_, fun z => ⟨fun z2 => plain ?_, fun z2 => ?_⟩⟩
    · unfold gSft
      rw [if_neg (by omega)]
    · unfold gSft
      rw [if_neg (by omega)]
    · have il : i < (gLt w).length := by omega
      have w0 : 0 ≤ w := Decidable.byContradiction fun y => by
        unfold gLt at il
        rw [if_pos (by omega)] at il
        exact absurd il (Nat.not_lt_zero _)
      refine ⟨⟨w0, by omega⟩, fun z3 => plain ?_, fun z3 => ?_⟩
      · unfold gSft
        rw [if_neg (fun y => z3 y.2.2.2)]
      · have e3 := gWgr_5 w.toNat (by omega) z3
        have es : gSft w i = if i = 1 then 1 else 2 := by
          unfold gSft
          rw [if_pos ⟨w0, il, by omega, z3⟩]
        have ew : w = ((w.toNat : Nat) : Int) := by omega
        have i3 : i ≤ 3 := by omega
        have key : ∀ W : Nat, W = w.toNat → cV l G y_Rd_openPick (gRm (d + n + 4 + 4)) true [gR G (c + 14), gI (W : Int), gI (i : Int), gI (D1 : Int)] X M (fun M57 => wp l G y_Rd_readArgument (gRm (d + n + 4 + 5)) true (kkZ X kk) true 226 [.val (gR G (c + 14)), .unset, .unset, .val (gI (D1 : Int)), .unset, .unset, .val (gI x6)] [] X M57 0 0) := by
          intro W eW
          rw [← eW] at e3
          refine c_Rd_openPick (d := d + n + 7) hX hO e3 ⟨by omega, i3⟩ (by omega) k2.2.1 (by omega) (fun i1 => ?_) (fun i2 => ?_)
          · rw [if_pos i1] at es
            have oM : gOff (gRdR c id cs (R0 + rs.length) bs (D1 * 4 + min i 4)) M (gUp M (c + 15) (D1 * 4 + i) (cs : Int)) := (gOff.rf _ _).up (by unfold gRdR; omega)
            have sM : gRwh (gUp M (c + 15) (D1 * 4 + i) (cs : Int)) c a cs (R0 + rs.length) bs := by
              unfold gRwh at k2 ⊢
              rw [gUp_a (by omega), gUp_a (by omega), gUp_a (by omega), gUp_a (by omega)]
              exact k2
            have rM : gRfM (gUp M (c + 15) (D1 * 4 + i) (cs : Int)) c id R0 rs := ⟨fun j hj => by rw [gUp_a (by omega), gUp_a (by omega)]; exact k4.1 j hj, by rw [gUp_a (by omega)]; exact k4.2⟩
            refine s226 _ x6 np hx6 (oM.tr gEm_off) (by rw [es]; exact gEm_st sM) (by rw [gEm_f, gUp_a (by omega)]; exact k3) rM.em (fun _ => ?_) (fun y => by omega)
            rw [es, show cs + 1 - 1 = cs by omega, ← eW]
            refine ⟨gEm_at.1, ?_⟩
            unfold gEm
            rw [gUp_a (by omega), gUp_a (by omega), gUp_a (by omega), gUp_eq]
          · rw [if_neg (by omega)] at es
            have oE : gOff (gRdR c id cs (R0 + rs.length) bs (D1 * 4 + min i 4)) M (gEm M c cs 10 0) := gEm_off
            have oM : gOff (gRdR c id cs (R0 + rs.length) bs (D1 * 4 + min i 4)) (gEm M c cs 10 0) (gUp (gEm M c cs 10 0) (c + 15) (D1 * 4 + i) ((cs + 1 : Nat) : Int)) := (gOff.rf _ _).up (by unfold gRdR; omega)
            have oF : gOff (gRdR c id (cs + 1) (R0 + rs.length) bs (D1 * 4 + min i 4)) (gUp (gEm M c cs 10 0) (c + 15) (D1 * 4 + i) ((cs + 1 : Nat) : Int)) (gEm (gUp (gEm M c cs 10 0) (c + 15) (D1 * 4 + i) ((cs + 1 : Nat) : Int)) c (cs + 1) (gxOp W) 0) := gEm_off
            have sE := gEm_st (op := 10) (x := 0) k2
            have sM : gRwh (gUp (gEm M c cs 10 0) (c + 15) (D1 * 4 + i) ((cs + 1 : Nat) : Int)) c a (cs + 1) (R0 + rs.length) bs := by
              unfold gRwh at sE ⊢
              rw [gUp_a (by omega), gUp_a (by omega), gUp_a (by omega), gUp_a (by omega)]
              exact sE
            have rE := k4.em (cs := cs) (op := 10) (x := 0)
            have rM : gRfM (gUp (gEm M c cs 10 0) (c + 15) (D1 * 4 + i) ((cs + 1 : Nat) : Int)) c id R0 rs := ⟨fun j hj => by rw [gUp_a (by omega), gUp_a (by omega)]; exact rE.1 j hj, by rw [gUp_a (by omega)]; exact rE.2⟩
            refine s226 _ x6 np hx6 ((oE.tr oM).tr (oF.mono (gRdR_le ⟨by omega, Nat.le_refl _, Nat.le_refl _, Nat.le_refl _⟩))) (by rw [es]; exact gEm_st sM) (by rw [gEm_f, gUp_a (by omega), gEm_f]; exact k3) rM.em (fun _ => ?_) (fun _ => ?_)
            · rw [es, show cs + 2 - 1 = cs + 1 by omega, ← eW]
              refine ⟨gEm_at.1, ?_⟩
              unfold gEm
              rw [gUp_a (by omega), gUp_a (by omega), gUp_a (by omega), gUp_eq]
            · rw [oF _ _ (by unfold gRdR; omega), gUp_a (by omega)]
              exact gEm_at.1
        have := key w.toNat rfl
        rw [← ew] at this
        exact this
  have s133 : ∀ (x5 x6 : Int), ¬ (gTK ts a = 19 ∧ gTK ts (a + 1) = 16 ∧ gTK ts (a + 2) = 19) → (x5 = 0 ∧ (gLt w).length ≤ i ∨ x5 = 1 ∧ i < (gLt w).length) → (x6 = 0 ∧ ¬ (i < (gLt w).length ∧ (gLt w).getD i 0 = 114) ∨ x6 = 1 ∧ (i < (gLt w).length ∧ (gLt w).getD i 0 = 114)) → wp l G y_Rd_readArgument (gRm (d + n + 4 + 5)) true (kkZ X kk) true 133 [.val (gR G (c + 14)), .val (gI w), .val (gI (i : Int)), .val (gI (D1 : Int)), .unset, .val (gI x5), .val (gI x6)] [] X M 0 0 := by
    intro x5 x6 np h5 hx6
    have g5 : g32 x5 := by rcases h5 with q | q <;> rw [q.1] <;> exact g32_c rfl
    have g6 : g32 x6 := by rcases hx6 with q | q <;> rw [q.1] <;> exact g32_c rfl
    refine w_Rd_readArgument_133 (Q := Q) (d := d + n + 4) hX hO gw gi gD g5 g6 ⟨fun z => s198 x5 x6 np h5 ?_, fun z => ?_⟩
    · rcases hx6 with q | q
      · exact Or.inl q
      · exact absurd (q.1.symm.trans z) (by decide)
    · have qb : x6 = 1 ∧ (i < (gLt w).length ∧ (gLt w).getD i 0 = 114) := by
        rcases hx6 with q | q
        · exact absurd q.1 z
        · exact q
      rw [k2.1, Int.toNat_natCast, ek0, show (a : Int) + 1 = ((a + 1 : Nat) : Int) by omega]
      refine fun _ => ⟨⟨by omega, by omega⟩, fun _ => ⟨fun z2 => s198 x5 x6 np h5 (Or.inr ⟨qb.1, qb.2, fun y => z2 y.1⟩), fun z2 _ => ?_⟩⟩
      have l1 := gTK_lt (ts := ts) (a := a) (by rw [z2]; decide)
      refine c_Rd_endsArgument hX k1.2.1 hts (by omega) (fun he => ⟨fun y => absurd y (by decide), fun _ _ => ?_⟩) (fun he => ⟨fun _ => s198 x5 x6 np h5 (Or.inr ⟨qb.1, qb.2, fun y => he y.2⟩), fun y => absurd rfl y⟩)
      have hq := (hpar np).trans (gPs_ref (S := S) (rs := rs) (by omega) (by omega) z2 he)
      rw [k2.1]
      refine gRd_ref (d := d + n + 7) (x := 0) (mk := D1 * 4 + min i 4) hX hts hto hid k1 k2 k4 (by omega) z2 (by decide) (fun M3 o s f rf => ?_)
      refine c_Cn_emit hX (g32_c rfl) ⟨by omega, by omega⟩ s.2.1 (by omega) ?_
      have s2 := gEm_st (op := 5) (x := (rs.length : Int)) s
      rw [s2.1, w32_id (x := (a : Int) + 1) ⟨by omega, by omega⟩, show (a : Int) + 1 = ((a + 1 : Nat) : Int) by omega]
      have em : gOff (gRdR c id cs (R0 + rs.length) bs (D1 * 4 + min i 4)) M3 (gEm M3 c cs 5 (rs.length : Int)) := gEm_off
      refine fun _ => hS _ _ _ hq _ 1 (cs + 1) bs ((o.tr em).tr gAd_off) (by rw [gUp_k (by decide), gEm_f, f]; exact k3) (gAd_st s2) ?_ rf.em.ad ⟨by decide, by decide⟩ (fun _ => ?_)
      · have := b1.tr (gRbd.ad ts a 1 cs (R0 + rs.length) bs)
        rw [List.length_append]
        show gRbd ts ab cs (R0 + rs.length) bs (a + 1) (cs + 1) (R0 + (rs.length + 1)) bs
        unfold gRbd at this ⊢
        omega
      · have ft : gFts (gLt w) i (.var rs.length) = true := by
          unfold gFts
          rw [if_pos qb.2]
          rfl
        rw [if_pos ft]
        refine ⟨rfl, fun _ => ?_⟩
        unfold gArE
        rw [if_pos qb.2]
        refine ⟨?_, rfl⟩
        have q : gAt2 (gEm M3 c cs 5 (rs.length : Int)) c cs 5 (rs.length : Int) := gEm_at
        show gAt2 _ c cs 5 _
        unfold gAt2 at q ⊢
        rw [gUp_a (by omega), gUp_a (by omega)]
        exact q
  -- a range
  have rng : ∀ (v : Int), (v = 0 ∧ ¬ (i < (gLt w).length ∧ (gLt w).getD i 0 = 114) ∨ v = 1 ∧ (i < (gLt w).length ∧ (gLt w).getD i 0 = 114)) → gTK ts a = 19 → gTK ts (a + 1) = 16 → gTK ts (a + 2) = 19 → cV l G y_Rd_readRange (gRm (d + n + 4 + 4)) true [gR G (c + 14)] X M (fun M11 => kk v M11) := by
    intro v hv h1 h2 h3
    have l2 := gTK_lt (ts := ts) (a := a + 2) (by rw [h3]; decide)
    have v01 : 0 ≤ v ∧ v ≤ 1 := by rcases hv with q | q <;> rw [q.1] <;> exact ⟨by decide, by decide⟩
    refine gRd_range (d := d + n + 6) (mk := D1 * 4 + min i 4) hX hts hto hid k1 k2 k3 k4 ⟨by omega, by omega⟩ h1 h3 (fun he => fl ?_ v v01) (fun he M2 o f s rf at2 => ?_)
    · unfold gPar
      rw [if_neg (by omega), if_pos ⟨h1, h2, h3⟩, if_neg he]
    · have hq : gPar S ts (gPs S ts n) D1 a rs = some (.mulL rs.length (.neg (.num 0)), a + 3, rs ++ [gRfA S ts a 1, gRfA S ts (a + 2) 2]) := by
        unfold gPar
        rw [if_neg (by omega), if_pos ⟨h1, h2, h3⟩, if_pos he]
      refine hS _ _ _ hq M2 v (cs + 1) bs o f s ?_ rf v01 (fun _ => ?_)
      · have := b1.tr (gRbd.ad ts a 3 cs (R0 + rs.length) bs)
        rw [List.length_append]
        show gRbd ts ab cs (R0 + rs.length) bs (a + 3) (cs + 1) (R0 + (rs.length + 2)) bs
        unfold gRbd at this ⊢
        omega
      · rcases hv with ⟨q1, q2⟩ | ⟨q1, q2⟩
        · have ft : gFts (gLt w) i (.mulL rs.length (.neg (.num 0))) = false := by
            unfold gFts
            rw [if_neg q2]
            rfl
          rw [ft]
          exact ⟨q1, fun y => by cases y⟩
        · have ft : gFts (gLt w) i (.mulL rs.length (.neg (.num 0))) = true := by
            unfold gFts
            rw [if_pos q2]
            rfl
          rw [if_pos ft]
          refine ⟨q1, fun _ => ?_⟩
          unfold gArE
          rw [if_pos q2]
          exact ⟨at2, rfl⟩
  have s68 : ∀ (x5 : Int), (x5 = 0 ∧ (gLt w).length ≤ i ∨ x5 = 1 ∧ i < (gLt w).length) → ¬ (i < (gLt w).length ∧ (gLt w).getD i 0 = 114) → wp l G y_Rd_readArgument (gRm (d + n + 4 + 5)) true (kkZ X kk) true 68 [.val (gR G (c + 14)), .val (gI w), .val (gI (i : Int)), .val (gI (D1 : Int)), .unset, .val (gI x5), .unset] [] X M 0 0 := by
    intro x5 h5 nb
    have g5 : g32 x5 := by rcases h5 with q | q <;> rw [q.1] <;> exact g32_c rfl
    refine w_Rd_readArgument_68 (Q := Q) (d := d + n + 4) hX hO gw gi gD g5 ?_
    rw [k2.1, Int.toNat_natCast, ek0, show ((a : Int) + 1).toNat = a + 1 by omega, show ((a : Int) + 2).toNat = a + 2 by omega, ek 1 (by decide), ek 2 (by decide)]
    exact fun _ => ⟨⟨by omega, by omega⟩, fun _ => ⟨fun z => s133 x5 0 (fun y => z y.1) h5 (Or.inl ⟨rfl, nb⟩), fun z _ => ⟨⟨by omega, by omega⟩, fun _ => ⟨fun z2 => s133 x5 0 (fun y => z2 y.2.1) h5 (Or.inl ⟨rfl, nb⟩), fun z2 _ => ⟨⟨by omega, by omega⟩, fun _ => ⟨fun z3 => s133 x5 0 (fun y => z3 y.2.2) h5 (Or.inl ⟨rfl, nb⟩), fun z3 => rng 0 (Or.inl ⟨rfl, nb⟩) z z2 z3⟩⟩⟩⟩⟩⟩
  have s30 : wp l G y_Rd_readArgument (gRm (d + n + 4 + 5)) true (kkZ X kk) true 30 [.val (gR G (c + 14)), .val (gI w), .val (gI (i : Int)), .val (gI (D1 : Int)), .unset, .unset, .unset] [.ref (Q.2.1 (gTkx w))] X M 0 0 := by
    refine w_Rd_readArgument_30 (Q := Q) (d := d + n + 4) hX hO gw gi gD tk66 ?_
    rw [gTkx_l, Int.toNat_natCast, gTkx_c, k2.1, Int.toNat_natCast, ek0, show ((a : Int) + 1).toNat = a + 1 by omega, show ((a : Int) + 2).toNat = a + 2 by omega, ek 1 (by decide), ek 2 (by decide)]
    refine ⟨fun z => ⟨fun _ => s68 0 (Or.inl ⟨rfl, by omega⟩) (fun y => by omega), fun y => absurd rfl y⟩, fun z => ⟨fun y => absurd y (by decide), fun _ => ⟨⟨by omega, by omega⟩, fun z2 => s68 1 (Or.inr ⟨rfl, by omega⟩) (fun y => z2 y.2), fun z2 => ?_⟩⟩⟩
    have bx : i < (gLt w).length ∧ (gLt w).getD i 0 = 114 := ⟨by omega, z2⟩
    have kn : (1 : Int) = 0 ∧ (gLt w).length ≤ i ∨ (1 : Int) = 1 ∧ i < (gLt w).length := Or.inr ⟨rfl, bx.1⟩
    exact fun _ => ⟨⟨by omega, by omega⟩, fun _ => ⟨fun z => s133 1 1 (fun y => z y.1) kn (Or.inr ⟨rfl, bx⟩), fun z _ => ⟨⟨by omega, by omega⟩, fun _ => ⟨fun z2 => s133 1 1 (fun y => z2 y.2.1) kn (Or.inr ⟨rfl, bx⟩), fun z2 _ => ⟨⟨by omega, by omega⟩, fun _ => ⟨fun z3 => s133 1 1 (fun y => z3 y.2.2) kn (Or.inr ⟨rfl, bx⟩), fun z3 => rng 1 (Or.inr ⟨rfl, bx⟩) z z2 z3⟩⟩⟩⟩⟩⟩
  refine ⟨fun w0 => ⟨⟨w0, by omega⟩, ?_⟩, fun w0 => ?_⟩
  · have e : gTkx w = gWta w.toNat := by unfold gTkx; rw [if_neg (by omega)]
    rw [← e]
    exact s30
  · have e : gTkx w = 2 := by unfold gTkx; rw [if_pos (by omega)]
    rw [← e]
    exact s30
end gdO
