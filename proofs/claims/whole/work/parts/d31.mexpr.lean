/-! The reference's parser: operands, percents, expressions. -/
section gdAH
variable {l : Launch} {G : gG} {X : gX} {o L : Nat} {S : List Int} {ts : List gTkn} {F R0 : Nat}
theorem gPs_1D {n : Nat} {w : Int} {D a : Nat} {e : gEx} {rs : List gRf} {q : gEx × Nat × List gRf} (h : gPs S ts n 1 w D e a rs = some q) : D ≤ 20 := by
  refine Decidable.byContradiction fun z => ?_
  cases n with
  | zero => cases h
  | succ n =>
    have h : gPo ts (gPs S ts n) D a rs = some q := h
    unfold gPo at h
    rw [if_pos (by omega)] at h
    cases h
theorem gR2_step {n : Nat} (hX : gmX X o) (hts : ts.length ≤ 100) (hto : ∀ t ∈ ts, gTkO S t ∧ 1 ≤ t.2.1) (ih2 : gR2 l G X o L S ts F R0 n) : gR2 l G X o L S ts F R0 (n + 1) := by
  intro d M k D a N ab Nb Rb rs e v hp hn hD hb hnd hk
  have hk : gPoF M o L S ts F R0 D ab Nb Rb k (gPpc ts (gPs S ts n) D e a rs) := hk
  obtain ⟨tk, rf, ct, cp, al⟩ := id hp
  obtain ⟨c27, c26, c25, c9, c17⟩ := id ct
  have b2 := hb
  unfold gPbd at b2
  have cp2 := cp
  unfold gPcp at cp2
  have hv1 := hnd.1
  have hv2 := hnd.2.1
  obtain ⟨k1, k2, k3, k4, k5, k6, k7, k8, k9, k10, k11, k12, kg, kl, ko⟩ := gKm_of (gTK_rng hto a)
  refine w_GM_minus_64 hX ⟨by omega, by omega⟩ fun _ => ⟨fun y => absurd c27 y, fun _ => r_look (i := 0) hX tk hts c25 (by omega) (by decide) rfl ?_⟩
  rw [Nat.add_zero]
  unfold gPpc at hk
  refine ⟨fun z => ?_, fun z => ?_⟩
  · rw [if_neg (fun y => z (k8.mpr y))] at hk
    exact hk.2 e a rs rfl v M N (gOff.rf _ _) hp hb hnd
  · have e1 := k8.mp z
    have l1 := gTK_lt (ts := ts) (a := a) (by rw [e1]; decide)
    rw [if_pos e1] at hk
    refine r_pass hX tk hts c25 l1 c26 c27 (fun q => ?_) (fun q => absurd q (by omega))
    obtain ⟨p1, q1⟩ := hp.at1 l1
    have n1 := hnd.of q1
    have q1b := q1.mono (gPaR_le (o := o) ⟨b2.2.1, b2.2.2.2.1⟩)
    generalize gUp M o 25 ((a + 1 : Nat) : Int) = M1 at p1 n1 q1b ⊢
    refine r_nodeG hX p1 (e := .mulR e 1) (ab := ab) (Nb := Nb) (Rb := Rb) (by unfold gPbd; omega) (by omega) (by omega) (fun e' a' rs' he v2 M2 N' q2 p2 bb2 n2 => ?_) (g32_c rfl) ⟨by omega, by omega⟩ (g32_c rfl) (g64_c rfl) hts (fun M6 o6 e2 e3 e4 e6 => ⟨by omega, by omega, fun M7 z z1 => ⟨⟨by omega, by omega, ?_⟩, ?_⟩⟩)
    · cases he
      rw [show d + (n + 1) + 8 + 1 = (d + 1) + n + 8 + 1 by omega]
      exact ih2 (d + 1) M2 k D (a + 1) N' ab Nb Rb rs (.mulR e 1) v2 p2 (by omega) hD bb2 n2 (hk.step (q1b.tr q2))
    · rw [Int.toNat_natCast, z 2 N (by omega) (by omega) (by omega) (by omega) (by omega)]; exact e2
    · rw [Int.toNat_natCast, z 3 N (by omega) (by omega) (by omega) (by omega) (by omega), e3]
      exact (n1.of o6).2.2 M7 (fun i j a1 a2 a3 a4 a5 => z i j a1 a2 a3 (by omega) (by omega)) z1
theorem gR1_step {n : Nat} (hX : gmX X o) (hts : ts.length ≤ 100) (hto : ∀ t ∈ ts, gTkO S t ∧ 1 ≤ t.2.1) (ih0 : gR0 l G X o L S ts F R0 n) (ih1 : gR1 l G X o L S ts F R0 n) (ih2 : gR2 l G X o L S ts F R0 n) : gR1 l G X o L S ts F R0 (n + 1) := by
  intro d M k D a N rs hp hn hD hk
  have hk : gPoF M o L S ts F R0 D a N (R0 + rs.length) k (gPo ts (gPs S ts n) D a rs) := hk
  obtain ⟨tk, rf, ct, cp, al⟩ := id hp
  obtain ⟨c27, c26, c25, c9, c17⟩ := id ct
  have cp2 := cp
  unfold gPcp at cp2
  obtain ⟨k1, k2, k3, k4, k5, k6, k7, k8, k9, k10, k11, k12, kg, kl, ko⟩ := gKm_of (gTK_rng hto a)
  rw [show d + (n + 1) + 8 = d + n + 8 + 1 by omega]
  refine e_GM_minus (w_GM_minus_0 hX (r_look (i := 0) hX tk hts c25 (by omega) (by decide) rfl ?_))
  rw [Nat.add_zero]
  unfold gPo at hk
  refine ⟨fun z => ?_, fun z => ?_⟩
  · rw [if_neg (c := gTK ts a = 8) (fun y => z (k7.mpr y))] at hk
    refine ih0 d M _ D a N rs hp (by omega) hD ⟨fun y => ?_, fun x b r y => ?_⟩
    · have hF : gPbF M o ts D a N (R0 + rs.length) k := by
        refine hk.1 ?_
        by_cases q : 20 < D
        · rw [if_pos q]
        · rw [if_neg q] at y ⊢
          rw [y]
          rfl
      intro v M2 a' N' R' q2 c2 b2 l2 hv
      exact w_GM_minus_64 hX ⟨by omega, by omega⟩ fun _ => ⟨fun _ => hF v M2 a' N' R' q2 c2 b2 l2 hv, fun y => absurd (c2.1.symm.trans y) (by decide)⟩
    · by_cases q : 20 < D
      · rw [if_pos q] at y; cases y
      · rw [if_neg q] at y hk
        rw [y] at hk
        have hk : gPoF M o L S ts F R0 D a N (R0 + rs.length) k (gPs S ts n 2 0 D x b r) := hk
        intro v M2 N' q2 p2 b2 n2
        have b3 := b2
        unfold gPbd at b3
        exact ih2 d M2 k D b N' a N (R0 + rs.length) r x v p2 (by omega) (by omega) b2 n2 (hk.step q2)
  · have e := k7.mp z
    have l1 := gTK_lt (ts := ts) (a := a) (by rw [e]; decide)
    rw [if_pos (c := gTK ts a = 8) e] at hk
    refine r_pass hX tk hts c25 l1 c26 c27 (fun q => ?_) (fun q M2 o2 f2 a2 => ?_)
    · rw [if_neg (by omega)] at hk
      obtain ⟨p1, q1⟩ := hp.at1 l1
      rw [gUp_k (by decide), c26, w32_id (x := (D : Int) + 1) ⟨by omega, by omega⟩, show (D : Int) + 1 = ((D + 1 : Nat) : Int) by omega]
      obtain ⟨p2, q2⟩ := p1.dp (E := D + 1)
      have q12 := q1.tr q2
      generalize gUp (gUp M o 25 ((a + 1 : Nat) : Int)) o 26 ((D + 1 : Nat) : Int) = M1 at p2 q2 q12 ⊢
      refine fun _ _ => ⟨fun _ => ih1 d M1 _ (D + 1) (a + 1) N rs p2 (by omega) (by omega) ⟨fun y => ?_, fun x b r y => ?_⟩, fun y => absurd p2.2.2.1.1 y⟩
      · rw [y] at hk
        have hF := hk.1 rfl
        intro v M3 a' N' R' q3 c3 b3 l3 hv _
        rw [c3.2.1, w32_id (x := ((D + 1 : Nat) : Int) - 1) ⟨by omega, by omega⟩, show ((D + 1 : Nat) : Int) - 1 = (D : Int) by omega]
        have c4 : gPct (gUp M3 o 26 (D : Int)) o 1 D a' N' R' := c3.dp
        have q4 : gOff (gPaR o N (R0 + rs.length)) M (gUp M3 o 26 (D : Int)) := (q12.tr q3).up (by unfold gPaR; omega)
        unfold gPbd at b3
        exact r_nodeB hX hF q4 c4 (by unfold gPbd; omega) (by omega) (by omega) (by omega) (g32_c rfl) ⟨by omega, by omega⟩ (g32_c rfl) (g64_c rfl)
      · rw [y] at hk
        have hk : gPoF M o L S ts F R0 D a N (R0 + rs.length) k (some (.neg x, b, r)) := hk
        intro v M3 N' q3 p3 b3 n3 _
        rw [p3.2.2.1.2.1, w32_id (x := ((D + 1 : Nat) : Int) - 1) ⟨by omega, by omega⟩, show ((D + 1 : Nat) : Int) - 1 = (D : Int) by omega]
        obtain ⟨p4, q4'⟩ := p3.dp (E := D)
        have hv1 := n3.1
        have hv2 := n3.2.1
        have n4 := n3.of q4'
        have q4 : gOff (gPaR o N (R0 + rs.length)) M (gUp M3 o 26 (D : Int)) := (q12.tr q3).up (by unfold gPaR; omega)
        clear q4'
        generalize gUp M3 o 26 (D : Int) = M4 at p4 q4 n4 ⊢
        unfold gPbd at b3
        have cp4 := p4.2.2.2.1
        unfold gPcp at cp4
        have al4 := p4.2.2.2.2
        refine r_nodeG hX p4 (by unfold gPbd; omega) (by omega) (by omega) (hk.2.step q4) (g32_c rfl) ⟨by omega, by omega⟩ (g32_c rfl) (g64_c rfl) hts (fun M6 o6 e2 e3 e4 e6 => ⟨by omega, by omega, fun M7 z z1 => ⟨⟨by omega, by omega, ?_⟩, ?_⟩⟩)
        · rw [Int.toNat_natCast, z 2 N' (by omega) (by omega) (by omega) (by omega) (by omega)]; exact e2
        · rw [Int.toNat_natCast, z 3 N' (by omega) (by omega) (by omega) (by omega) (by omega), e3]
          exact (n4.of o6).2.2 M7 (fun i j a1 a2 a3 a4 a5 => z i j a1 a2 a3 (by omega) (by omega)) z1
    · have hF : gPbF M o ts D a N (R0 + rs.length) k := hk.1 (if_pos q)
      have m26 : M2 o 26 = (D : Int) := (o2 _ _ (by unfold gPas1; omega)).trans c26
      have c2 := gPas1.ct ct o2 f2 a2
      rw [m26, w32_id (x := (D : Int) + 1) ⟨by omega, by omega⟩]
      refine fun _ _ => ⟨fun y => ?_, fun _ _ => ?_⟩
      · rw [gUp_k (by decide), f2] at y
        exact absurd y (by decide)
      rw [gUp_eq, w32_id (x := (D : Int) + 1 - 1) ⟨by omega, by omega⟩, show (D : Int) + 1 - 1 = (D : Int) by omega]
      have c3 : gPct (gUp (gUp M2 o 26 ((D : Int) + 1)) o 26 (D : Int)) o 1 D (a + 1) N (R0 + rs.length) := (show gPct (gUp M2 o 26 ((D + 1 : Nat) : Int)) o 1 (D + 1) (a + 1) N (R0 + rs.length) from c2.dp).dp
      have q3 : gOff (gPaR o N (R0 + rs.length)) M (gUp (gUp M2 o 26 ((D : Int) + 1)) o 26 (D : Int)) := ((o2.mono gPas1_R).up (by unfold gPaR; omega)).up (by unfold gPaR; omega)
      exact r_nodeB hX hF q3 c3 (by unfold gPbd; omega) (by omega) (by omega) (by omega) (g32_c rfl) (g32_c rfl) (g32_c rfl) (g64_c rfl)
theorem gR3_step {n : Nat} (hX : gmX X o) (ih1 : gR1 l G X o L S ts F R0 n) (ih4 : gR4 l G X o L S ts F R0 n) : gR3 l G X o L S ts F R0 (n + 1) := by
  intro d M k w x D a N rs hp hn hD hw hx hk
  have hk : gPoF M o L S ts F R0 D a N (R0 + rs.length) k (gPe (gPs S ts n) w D a rs) := hk
  have cp := hp.2.2.2.1
  unfold gPcp at cp
  have gx : g32 x := ⟨by omega, by omega⟩
  rw [show d + (n + 1) + 8 = d + n + 8 + 1 by omega]
  unfold gPe at hk
  refine e_GM_expr (w_GM_expr_0 hX gx (ih1 d M _ D a N rs hp (by omega) hD ⟨fun y => ?_, fun e b r y => ?_⟩))
  · rw [y] at hk
    have hF := hk.1 rfl
    intro v M2 a' N' R' q2 c2 b2 l2 hv
    exact w_GM_expr_5 hX gx ⟨by omega, by omega⟩ fun _ => ⟨fun _ => hF v M2 a' N' R' q2 c2 b2 l2 hv, fun y => absurd (c2.1.symm.trans y) (by decide)⟩
  · have hD2 := gPs_1D y
    rw [y] at hk
    have hk : gPoF M o L S ts F R0 D a N (R0 + rs.length) k (gPs S ts n 4 w D e b r) := hk
    intro v M2 N' q2 p2 b2 n2
    have b3 := b2
    unfold gPbd at b3
    have al := hp.2.2.2.2
    have ab : a < b := by
      refine Decidable.byContradiction fun z => ?_
      have : b = a := by omega
      have h1 := n2.1
      have h2 := n2.2.1
      omega
    have al2 := p2.2.2.2.2
    exact ih4 d M2 k w x D b N' a N (R0 + rs.length) r e v p2 (by omega) hD2 hw hx b2 n2 (hk.step q2)
theorem gR4_step {n : Nat} (hX : gmX X o) (hts : ts.length ≤ 100) (hto : ∀ t ∈ ts, gTkO S t ∧ 1 ≤ t.2.1) (ih3 : gR3 l G X o L S ts F R0 n) (ih4 : gR4 l G X o L S ts F R0 n) : gR4 l G X o L S ts F R0 (n + 1) := by
  intro d M k w x D a N ab Nb Rb rs e v hp hn hD hw hx hb hnd hk
  have hk : gPoF M o L S ts F R0 D ab Nb Rb k (gPl2 ts (gPs S ts n) w D e a rs) := hk
  obtain ⟨tk, rf, ct, cp, al⟩ := id hp
  obtain ⟨c27, c26, c25, c9, c17⟩ := id ct
  have b2 := hb
  unfold gPbd at b2
  have cp2 := cp
  unfold gPcp at cp2
  have hv1 := hnd.1
  have hv2 := hnd.2.1
  have gx : g32 x := ⟨by omega, by omega⟩
  have gv : g32 v := ⟨by omega, by omega⟩
  have kr := gTK_rng hto a
  obtain ⟨k1, k2, k3, k4, k5, k6, k7, k8, k9, k10, k11, k12, kg, kl, ko⟩ := gKm_of kr
  unfold gPl2 at hk
  refine w_GM_expr_5 hX gx gv fun _ => ⟨fun y => absurd c27 y, fun _ => r_look (i := 0) hX tk hts c25 (by omega) (by decide) rfl (c_GM_level hX (by rw [Nat.add_zero]; exact kg) ?_)⟩
  rw [Nat.add_zero, kl]
  refine ⟨fun z => ?_, fun z => ?_⟩
  · rw [if_pos (by omega)] at hk
    exact hk.2 e a rs rfl v M N (gOff.rf _ _) hp hb hnd
  · rw [if_neg (by omega)] at hk
    have t12 := gTg_12 (gTK ts a).toNat (by omega)
    have l1 := gTK_lt (ts := ts) (a := a) (by omega)
    have g5 : gTg (gTK ts a).toNat ≤ 5 := by
      have : ∀ j, j < 12 → gTg j ≤ 5 := by decide
      exact this _ t12
    refine r_look (i := 0) hX tk hts c25 (by omega) (by decide) rfl ?_
    rw [Nat.add_zero]
    refine r_pass hX tk hts c25 l1 c26 c27 (fun q => ?_) (fun q => absurd q (by omega))
    obtain ⟨p1, q1⟩ := hp.at1 l1
    have n1 := hnd.of q1
    generalize gUp M o 25 ((a + 1 : Nat) : Int) = M1 at p1 n1 q1 ⊢
    refine c_GM_level hX kg ?_
    simp only [Nat.add_zero]
    rw [kl, show d + (n + 1) + 8 = (d + 1) + n + 8 by omega]
    refine ih3 (d + 1) M1 _ (gTg (gTK ts a).toNat + 1) _ D (a + 1) N rs p1 (by omega) (by omega) (by omega) (by omega) ⟨fun y => ?_, fun x2 b r y => ?_⟩
    · rw [y] at hk
      have hF := hk.1 rfl
      intro v2 M3 a' N' R' q3 c3 b3 l3 hv
      unfold gPbd at b3
      have hF2 : gPbF M o ts D ab Nb Rb (fun v M => wp l G y_GM_expr (gRm (d + 1 + n + 8 + 1)) true (kkI X k) true 5 [.val (gR G o), .val (gI x), .val (gI v), .unset, .unset] [] X M 0 0) := fun v M2 a' N' R' q2 c2 b2 l2 hv => w_GM_expr_5 hX gx ⟨by omega, by omega⟩ fun _ => ⟨fun _ => hF v M2 a' N' R' q2 c2 b2 l2 hv, fun y => absurd (c2.1.symm.trans y) (by decide)⟩
      exact r_nodeB hX hF2 ((q1.tr q3).mono (gPaR_le ⟨b2.2.1, b2.2.2.2.1⟩)) c3 (by unfold gPbd; omega) (by omega) (by omega) (by omega) (g32_c rfl) gv ⟨by omega, by omega⟩ (by unfold g32 at kg; exact ⟨by omega, by omega⟩)
    · rw [y] at hk
      have hk : gPoF M o L S ts F R0 D ab Nb Rb k (gPs S ts n 4 w D (.mulL (gTK ts a) (.add e x2)) b r) := hk
      intro v2 M3 N' q3 p3 b3 n3
      have n1b := n1.of q3
      have hv3 := n3.1
      have hv4 := n3.2.1
      have q13 := (q1.tr q3).mono (gPaR_le (o := o) ⟨b2.2.1, b2.2.2.2.1⟩)
      unfold gPbd at b3
      have cp4 := p3.2.2.2.1
      unfold gPcp at cp4
      have al4 := p3.2.2.2.2
      refine r_nodeG hX p3 (e := .mulL (gTK ts a) (.add e x2)) (ab := ab) (Nb := Nb) (Rb := Rb) (by unfold gPbd; omega) (by omega) (by omega) (fun e' a' rs' he v4 M4 N4 q4 p4 bb4 n4 => ?_) (g32_c rfl) gv ⟨by omega, by omega⟩ (by unfold g32 at kg; exact ⟨by omega, by omega⟩) hts (fun M6 o6 e2 e3 e4 e6 => ⟨by omega, by omega, fun M7 z z1 => ⟨⟨by omega, by omega, ?_⟩, ?_, ?_, ?_⟩⟩)
      · cases he
        exact ih4 (d + 1) M4 k w x D b N4 ab Nb Rb r _ v4 p4 (by omega) hD hw hx bb4 n4 (hk.step (q13.tr q4))
      · rw [Int.toNat_natCast, z 2 N' (by omega) (by omega) (by omega) (by omega) (by omega)]; exact e2
      · rw [Int.toNat_natCast, z 6 N' (by omega) (by omega) (by omega) (by omega) (by omega), e6]
        exact ko (by omega)
      · rw [Int.toNat_natCast, z 3 N' (by omega) (by omega) (by omega) (by omega) (by omega), e3]
        exact (n1b.kp (fun i j a1 a2 a3 a4 _ => o6 _ _ (by unfold gPaR; omega)) (fun j => o6 _ _ (by unfold gPaR; omega))).2.2 M7 (fun i j a1 a2 a3 a4 a5 => z i j a1 a2 a3 (by omega) (by omega)) z1
      · rw [Int.toNat_natCast, z 4 N' (by omega) (by omega) (by omega) (by omega) (by omega), e4]
        exact (n3.of o6).2.2 M7 (fun i j a1 a2 a3 a4 a5 => z i j a1 a2 (by omega) (by omega) (by omega)) z1
end gdAH
