/-! The reference's parser: an argument. -/
section gdAI
variable {l : Launch} {G : gG} {X : gX} {o L : Nat} {S : List Int} {ts : List gTkn} {F R0 : Nat}
theorem gPs_3D {n : Nat} {w : Int} {D a : Nat} {e : gEx} {rs : List gRf} {q : gEx × Nat × List gRf} (h : gPs S ts n 3 w D e a rs = some q) : D ≤ 20 := by
  cases n with
  | zero => cases h
  | succ n =>
    have h : gPe (gPs S ts n) w D a rs = some q := h
    obtain ⟨y, b, r, h1, h2⟩ := gBd_some h
    exact gPs_1D h1
theorem gPs_r16 {n D a : Nat} {rs : List gRf} (hn : 3 ≤ n) (hD : D ≤ 20) (h1 : gTK ts a = 19) (h2 : gTK ts (a + 1) = 16) : gPs S ts n 3 1 D (.num 0) a rs = some (.var rs.length, a + 1, rs ++ [gRfA S ts a 0]) := by
  obtain ⟨m, hm⟩ : ∃ m, n = m + 3 := ⟨n - 3, by omega⟩
  subst hm
  have e0 : gPs S ts (m + 1) 0 0 D (.num 0) a rs = some (.var rs.length, a + 1, rs ++ [gRfA S ts a 0]) := by
    show gPp S ts (gPs S ts m) D a rs = _
    unfold gPp
    rw [h1]
    rfl
  have e2 : gPs S ts (m + 1) 2 0 D (.var rs.length) (a + 1) (rs ++ [gRfA S ts a 0]) = some (.var rs.length, a + 1, rs ++ [gRfA S ts a 0]) := by
    show gPpc ts (gPs S ts m) D _ (a + 1) _ = _
    unfold gPpc
    rw [if_neg (by rw [h2]; decide)]
  have e1 : gPs S ts (m + 2) 1 0 D (.num 0) a rs = some (.var rs.length, a + 1, rs ++ [gRfA S ts a 0]) := by
    show gPo ts (gPs S ts (m + 1)) D a rs = _
    unfold gPo
    rw [if_neg (by omega), if_neg (by rw [h1]; decide), e0]
    exact e2
  have e4 : gPs S ts (m + 2) 4 1 D (.var rs.length) (a + 1) (rs ++ [gRfA S ts a 0]) = some (.var rs.length, a + 1, rs ++ [gRfA S ts a 0]) := by
    show gPl2 ts (gPs S ts (m + 1)) 1 D _ (a + 1) _ = _
    unfold gPl2
    rw [if_pos (by rw [h2]; decide)]
  show gPe (gPs S ts (m + 2)) 1 D a rs = _
  unfold gPe
  rw [e1]
  exact e4
/-- a ref noted where all is lost -/
theorem r_refB {d D a N R : Nat} {M : gM} {c : Int} {kk : Int → gM → Prop} (hX : gmX X o) (hf : M o 13 = (F : Int) ∧ M (o + 8) F = (R0 : Int) ∧ F < 4200) (ct : gPct M o 1 D a N R) (ha : a ≤ 100) (hR : R0 ≤ R ∧ R < 45000) (hc : g32 c) (h0 : ∀ M2 x, gOff (gPaR o N R) M M2 → gPct M2 o 1 D (a + 1) N (R + 1) → 0 ≤ x ∧ x < 90000 → kk x M2) : cI l G y_GM_ref (gRm (d + 1)) true [gR G o, gI c] X M kk := by
  obtain ⟨c27, c26, c25, c9, c17⟩ := ct
  refine c_GM_ref hX hc (by omega) (by omega) (by rw [hf.1]; have := hf.2.2; omega) (by rw [hf.1, Int.toNat_natCast, hf.2.1]; omega) ?_
  rw [hf.1, Int.toNat_natCast, hf.2.1, c17]
  have q1 : gOff (gPaR o N R) M (gmRefD M o c) := by
    unfold gmRefD
    rw [c17, Int.toNat_natCast]
    refine (((gOff.rf _ M).up ?_).up ?_).up ?_ <;> unfold gPaR <;> omega
  have oj : ∀ j, gmRefD M o c o j = M o j := fun j => gmRefD_f
  generalize gmRefD M o c = M1 at q1 oj ⊢
  obtain ⟨e1, e2, e3⟩ := gmPass_b (M := M1) (o := o) (b := 1) (a := a) (Or.inl rfl) (by rw [oj]; exact c27) (by rw [oj]; exact c25)
  have k1 := fun j (h : j ≠ 25 ∧ j ≠ 27) => e1 o j (by unfold gPas1; omega)
  refine h0 _ _ ((q1.tr (e1.mono gPas1_R)).up (by unfold gPaR; omega)) ⟨?_, ?_, ?_, ?_, ?_⟩ ⟨by omega, by omega⟩
  · rw [gUp_k (by decide)]; exact e2
  · rw [gUp_k (by decide), k1 _ (by decide), oj]; exact c26
  · rw [gUp_k (by decide)]; exact e3
  · rw [gUp_k (by decide), k1 _ (by decide), oj]; exact c9
  · rw [gUp_eq]; omega
theorem gR7_step {n : Nat} (hX : gmX X o) (hts : ts.length ≤ 100) (hto : ∀ t ∈ ts, gTkO S t ∧ 1 ≤ t.2.1) (ih3 : gR3 l G X o L S ts F R0 n) : gR7 l G X o L S ts F R0 (n + 1) := by
  intro d M k w D a N rs hp hn hD hk hodd
  have hk : gPoF M o L S ts F R0 D a N (R0 + rs.length) k (gPar S ts (gPs S ts n) D a rs) := hk
  have hodd : gPar S ts (gPs S ts n) D a rs = none → _ := hodd
  obtain ⟨tk, rf, ct, cp, al⟩ := id hp
  obtain ⟨c27, c26, c25, c9, c17⟩ := id ct
  have cp2 := cp
  unfold gPcp at cp2
  rw [show d + (n + 1) + 8 = d + n + 8 + 1 by omega]
  obtain ⟨k1, k2, k3, k4, k5, k6, k7, k8, k9, k10, k11, k12, kg, kl, ko⟩ := gKm_of (gTK_rng hto a)
  have km1 := gKm_of (gTK_rng hto (a + 1))
  have km2 := gKm_of (gTK_rng hto (a + 2))
  have km3 := gKm_of (gTK_rng hto (a + 3))
  have EX : (gPs S ts n 3 1 D (.num 0) a rs = none → gPbF M o ts D a N (R0 + rs.length) k) → gPgF M o L S ts F R0 D a N (R0 + rs.length) k (gPs S ts n 3 1 D (.num 0) a rs) → cI l G y_GM_expr (gRm (d + n + 8)) true [gR G o, gI 0] X M (fun v5 M4 => ((0 ≤ M4 o 27 ∧ M4 o 27 ≤ 1) → ((M4 o 27 = 0 → (k v5 M4)) ∧ (¬ M4 o 27 = 0 → (k 0 M4))))) := by
    intro hF hS
    refine ih3 d M _ 1 0 D a N rs hp (by omega) hD (by decide) rfl ⟨fun y => ?_, fun e b r y => ?_⟩
    · have hF := hF y
      intro v M2 a' N' R' q2 c2 b2 l2 hv _
      exact ⟨fun z => absurd (c2.1.symm.trans z) (by decide), fun _ => hF 0 M2 a' N' R' q2 c2 b2 l2 (by decide)⟩
    · intro v M2 N' q2 p2 b2 n2 _
      exact ⟨fun _ => hS e b r y v M2 N' q2 p2 b2 n2, fun z => absurd p2.2.2.1.1 z⟩
  have EX1 : ¬ (gTK ts a = 19 ∧ gTK ts (a + 1) = 16 ∧ gTK ts (a + 2) = 19) → cI l G y_GM_expr (gRm (d + n + 8)) true [gR G o, gI 0] X M (fun v5 M4 => ((0 ≤ M4 o 27 ∧ M4 o 27 ≤ 1) → ((M4 o 27 = 0 → (k v5 M4)) ∧ (¬ M4 o 27 = 0 → (k 0 M4))))) := by
    intro z
    unfold gPar at hk
    rw [if_neg (c := gTK ts a = 19 ∧ gTK ts (a + 1) = 16 ∧ gTK ts (a + 2) = 19) z] at hk
    refine EX (fun y => hk.1 ?_) (fun e b r y => ?_)
    · rw [y]
      split <;> rfl
    · have hD2 := gPs_3D y
      rw [if_neg (by omega)] at hk
      exact hk.2 e b r y
  have EX2 : gTK ts a = 19 → gTK ts (a + 1) = 16 → gTK ts (a + 2) = 19 → ¬ (gTK ts (a + 3) = 15 ∨ gTK ts (a + 3) = 14) → cI l G y_GM_expr (gRm (d + n + 8)) true [gR G o, gI 0] X M (fun v5 M4 => ((0 ≤ M4 o 27 ∧ M4 o 27 ≤ 1) → ((M4 o 27 = 0 → (k v5 M4)) ∧ (¬ M4 o 27 = 0 → (k 0 M4))))) := by
    intro z1 z2 z3 z4
    have l1 := gTK_lt (ts := ts) (a := a) (by rw [z1]; decide)
    have none7 : gPar S ts (gPs S ts n) D a rs = none := by
      unfold gPar
      rw [if_pos (c := gTK ts a = 19 ∧ gTK ts (a + 1) = 16 ∧ gTK ts (a + 2) = 19) ⟨z1, z2, z3⟩, if_neg z4]
      split <;> rfl
    refine EX (fun y => hk.1 none7) (fun e b r y => ?_)
    have hD2 := gPs_3D y
    rw [gPs_r16 (by omega) hD2 z1 z2] at y
    cases y
    intro v M2 N' q2 p2 b2 n2
    have h1 := n2.1
    have h2 := n2.2.1
    have cp3 := p2.2.2.2.1
    unfold gPcp at cp3
    have := p2.2.2.2.2
    exact hodd none7 v M2 (a + 1) N' _ q2 p2 b2 z2 ⟨by omega, by omega⟩
  have RG : gTK ts a = 19 → gTK ts (a + 1) = 16 → gTK ts (a + 2) = 19 → (gTK ts (a + 3) = 15 ∨ gTK ts (a + 3) = 14) → cI l G y_GM_ref (gRm (d + n + 7 + 1)) true [gR G o, gI 1] X M (fun v29 M28 => (cV l G y_GM_need (gRm (d + n + 7 + 1)) true [gR G o, gI 58] X M28 (fun M31 => (cI l G y_GM_ref (gRm (d + n + 7 + 1)) true [gR G o, gI 2] X M31 (fun _ M32 => (cI l G y_GM_node (gRm (d + n + 8)) true [gR G o, gI 3, gI v29, gI 0, gL 0] X M32 (fun v36 M35 => (k v36 M35)))))))) := by
    intro z1 z2 z3 z4
    have l1 := gTK_lt (ts := ts) (a := a) (by rw [z1]; decide)
    have l2 := gTK_lt (ts := ts) (a := a + 1) (by rw [z2]; decide)
    have l3 := gTK_lt (ts := ts) (a := a + 2) (by rw [z3]; decide)
    unfold gPar at hk
    rw [if_pos (c := gTK ts a = 19 ∧ gTK ts (a + 1) = 16 ∧ gTK ts (a + 2) = 19) ⟨z1, z2, z3⟩, if_pos z4] at hk
    refine r_refN hX hts hto hp z1 (g32_c rfl) (fun q M2 o2 p2 => ?_) (fun q M2 o2 c2 => ?_)
    · rw [if_neg (by omega)] at hk
      refine r_need (y := 16) hX p2.1 hts hto p2.2.2.1.2.2.1 (by omega) p2.2.2.1.2.1 p2.2.2.1.1 (g32_c rfl) km1.2.2.2.2.2.2.2.2.2.2.2.1 (by decide) (fun _ _ => ?_) (fun hq => by omega)
      obtain ⟨p3, q3⟩ := p2.at1 l2
      have q3b : gOff (gPaR o N (R0 + rs.length)) M2 (gUp M2 o 25 ((a + 1 + 1 : Nat) : Int)) := (gOff.rf _ _).up (by unfold gPaR; omega)
      generalize gUp M2 o 25 ((a + 1 + 1 : Nat) : Int) = M3 at p3 q3b ⊢
      refine r_refN hX hts hto p3 z3 (g32_c rfl) (fun _ M4 o4 p4 => ?_) (fun q => absurd q (by omega))
      rw [List.append_assoc] at p4
      have p4 : gPst M4 o L S ts F R0 D (a + 3) N (rs ++ [gRfA S ts a 1, gRfA S ts (a + 2) 2]) := p4
      have o4b : gOff (gPaR o N (R0 + rs.length)) M3 M4 := o4.mono (gPaR_le ⟨Nat.le_refl _, by rw [List.length_append]; omega⟩)
      have b4 : gPbd a N (R0 + rs.length) (a + 3) N (R0 + (rs ++ [gRfA S ts a 1, gRfA S ts (a + 2) 2]).length) := by
        rw [List.length_append]
        show gPbd a N (R0 + rs.length) (a + 3) N (R0 + (rs.length + 2))
        unfold gPbd
        omega
      refine r_nodeG hX p4 b4 (by omega) (by omega) (hk.2.step ((o2.tr q3b).tr o4b)) (g32_c rfl) ⟨by omega, by omega⟩ (g32_c rfl) (g64_c rfl) hts (fun M6 o6 e2 e3 e4 e6 => ⟨by omega, by omega, fun M7 z z1 => ⟨⟨by omega, by omega, ?_⟩, ?_⟩⟩)
      · rw [Int.toNat_natCast, z 2 N (by omega) (by omega) (by omega) (by omega) (by omega)]; exact e2
      · rw [Int.toNat_natCast, z 3 N (by omega) (by omega) (by omega) (by omega) (by omega)]; exact e3
    · have hF : gPbF M o ts D a N (R0 + rs.length) k := hk.1 (if_pos q)
      refine r_needB hX (by rw [(tk.kp o2).2.1]; omega) c2.2.2.1 (by omega) c2.1 (g32_c rfl) (fun M3 o3 f3 a3 => ?_)
      have c3 := gPas1.ct c2 o3 f3 a3
      have q3 := o2.tr (o3.mono (gPas1_R (N := N) (R := R0 + rs.length)))
      refine r_refB (F := F) (R0 := R0) hX ⟨(q3 _ _ (by unfold gPaR; omega)).trans rf.1, (q3 _ _ (by unfold gPaR; omega)).trans rf.2.1, rf.2.2.1⟩ c3 (by omega) (by omega) (g32_c rfl) (fun M4 x o4 c4 _ => ?_)
      exact r_nodeB hX hF (q3.tr (o4.mono (gPaR_le ⟨Nat.le_refl _, by omega⟩))) c4 (by unfold gPbd; omega) (by omega) (by omega) (by omega) (g32_c rfl) ⟨by omega, by omega⟩ (g32_c rfl) (g64_c rfl)
  refine e_GM_argument (w_GM_argument_0 hX (r_look (i := 0) hX tk hts c25 (by omega) (by decide) rfl ⟨fun z => EX1 (fun y => z (k3.mpr y.1)), fun z => ?_⟩))
  have z1 := k3.mp z
  refine r_look (i := 1) hX tk hts c25 (by omega) (by decide) rfl ⟨fun z => EX1 (fun y => z (km1.2.2.2.2.2.2.2.2.2.2.2.1.mpr y.2.1)), fun z => ?_⟩
  have z2 := km1.2.2.2.2.2.2.2.2.2.2.2.1.mp z
  refine r_look (i := 2) hX tk hts c25 (by omega) (by decide) rfl ⟨fun z => EX1 (fun y => z (km2.2.2.1.mpr y.2.2)), fun z => ?_⟩
  have z3 := km2.2.2.1.mp z
  refine r_look (i := 3) hX tk hts c25 (by omega) (by decide) rfl ⟨fun z => RG z1 z2 z3 (Or.inl (km3.2.2.2.2.2.2.2.2.2.2.1.mp z)), fun y4 => r_look (i := 3) hX tk hts c25 (by omega) (by decide) rfl ⟨fun y5 => EX2 z1 z2 z3 (fun y => ?_), fun z => RG z1 z2 z3 (Or.inr (km3.2.2.2.2.2.2.2.2.2.1.mp z))⟩⟩
  rcases y with y | y
  · exact y4 (km3.2.2.2.2.2.2.2.2.2.2.1.mpr y)
  · exact y5 (km3.2.2.2.2.2.2.2.2.2.1.mpr y)
end gdAI
