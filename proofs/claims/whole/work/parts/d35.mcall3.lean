/-! The reference's parser: a call, and all of it. -/
def gCl5 (l : Launch) (G : gG) (d : Nat) (X : gX) (o : Nat) (k : Int → gM → Prop) (M M3 : gM) : Prop := (cI l G y_GM_node (gRm d) true [gR G o, gI 8, gI (-1), gI 0, gL 0] X M3 (fun v5 M4 => (((0 : Int) ≤ M o 25 ∧ M o 25 < 101) ∧ (g32 (M4 (o + 14) (Int.toNat (M o 25))) → (((0 : Int) ≤ M o 25 ∧ M o 25 < 101) ∧ (g32 (M4 (o + 15) (Int.toNat (M o 25))) → (((0 : Int) ≤ v5 ∧ v5 < 90000) ∧ (g32 ((gUp M4 (o + 6) (Int.toNat v5) (gLor (gLshl (M4 (o + 14) (Int.toNat (M o 25))) 20) (M4 (o + 15) (Int.toNat (M o 25))))) o 26) → ((0 ≤ (gUp (gUp M4 (o + 6) (Int.toNat v5) (gLor (gLshl (M4 (o + 14) (Int.toNat (M o 25))) 20) (M4 (o + 15) (Int.toNat (M o 25))))) o 26 (w32 (((gUp M4 (o + 6) (Int.toNat v5) (gLor (gLshl (M4 (o + 14) (Int.toNat (M o 25))) 20) (M4 (o + 15) (Int.toNat (M o 25))))) o 26) + 1))) o 27 ∧ (gUp (gUp M4 (o + 6) (Int.toNat v5) (gLor (gLshl (M4 (o + 14) (Int.toNat (M o 25))) 20) (M4 (o + 15) (Int.toNat (M o 25))))) o 26 (w32 (((gUp M4 (o + 6) (Int.toNat v5) (gLor (gLshl (M4 (o + 14) (Int.toNat (M o 25))) 20) (M4 (o + 15) (Int.toNat (M o 25))))) o 26) + 1))) o 27 ≤ 1) → ((¬ (gUp (gUp M4 (o + 6) (Int.toNat v5) (gLor (gLshl (M4 (o + 14) (Int.toNat (M o 25))) 20) (M4 (o + 15) (Int.toNat (M o 25))))) o 26 (w32 (((gUp M4 (o + 6) (Int.toNat v5) (gLor (gLshl (M4 (o + 14) (Int.toNat (M o 25))) 20) (M4 (o + 15) (Int.toNat (M o 25))))) o 26) + 1))) o 27 = 0 → (g32 ((gUp (gUp M4 (o + 6) (Int.toNat v5) (gLor (gLshl (M4 (o + 14) (Int.toNat (M o 25))) 20) (M4 (o + 15) (Int.toNat (M o 25))))) o 26 (w32 (((gUp M4 (o + 6) (Int.toNat v5) (gLor (gLshl (M4 (o + 14) (Int.toNat (M o 25))) 20) (M4 (o + 15) (Int.toNat (M o 25))))) o 26) + 1))) o 26) → (cV l G y_GM_need (gRm d) true [gR G o, gI 41] X (gUp (gUp (gUp M4 (o + 6) (Int.toNat v5) (gLor (gLshl (M4 (o + 14) (Int.toNat (M o 25))) 20) (M4 (o + 15) (Int.toNat (M o 25))))) o 26 (w32 (((gUp M4 (o + 6) (Int.toNat v5) (gLor (gLshl (M4 (o + 14) (Int.toNat (M o 25))) 20) (M4 (o + 15) (Int.toNat (M o 25))))) o 26) + 1))) o 26 (w32 (((gUp (gUp M4 (o + 6) (Int.toNat v5) (gLor (gLshl (M4 (o + 14) (Int.toNat (M o 25))) 20) (M4 (o + 15) (Int.toNat (M o 25))))) o 26 (w32 (((gUp M4 (o + 6) (Int.toNat v5) (gLor (gLshl (M4 (o + 14) (Int.toNat (M o 25))) 20) (M4 (o + 15) (Int.toNat (M o 25))))) o 26) + 1))) o 26) - 1))) (fun M12 => (k v5 M12))))) ∧ ((gUp (gUp M4 (o + 6) (Int.toNat v5) (gLor (gLshl (M4 (o + 14) (Int.toNat (M o 25))) 20) (M4 (o + 15) (Int.toNat (M o 25))))) o 26 (w32 (((gUp M4 (o + 6) (Int.toNat v5) (gLor (gLshl (M4 (o + 14) (Int.toNat (M o 25))) 20) (M4 (o + 15) (Int.toNat (M o 25))))) o 26) + 1))) o 27 = 0 → (cI l G y_GM_look (gRm d) false [gR G o, gI 0] X (gUp (gUp M4 (o + 6) (Int.toNat v5) (gLor (gLshl (M4 (o + 14) (Int.toNat (M o 25))) 20) (M4 (o + 15) (Int.toNat (M o 25))))) o 26 (w32 (((gUp M4 (o + 6) (Int.toNat v5) (gLor (gLshl (M4 (o + 14) (Int.toNat (M o 25))) 20) (M4 (o + 15) (Int.toNat (M o 25))))) o 26) + 1))) (fun v14 M13 => ((v14 = 41 → (g32 (M13 o 26) → (cV l G y_GM_need (gRm d) true [gR G o, gI 41] X (gUp M13 o 26 (w32 ((M13 o 26) - 1))) (fun M17 => (k v5 M17))))) ∧ (¬ v14 = 41 → (cI l G y_GM_argument (gRm d) true [gR G o] X M13 (fun v19 M18 => (((0 : Int) ≤ v5 ∧ v5 < 90000) ∧ (((0 : Int) ≤ v5 ∧ v5 < 90000) ∧ (wp l G y_GM_call (gRm (d + 1)) true (kkI X k) true 95 [.val (gR G o), .unset, .val (gI v5), .val (gI v19), .unset] [] X (gUp (gUp M18 (o + 3) (Int.toNat v5) v19) (o + 4) (Int.toNat v5) 1) 0 0))))))))))))))))))))
section gdAN
variable {l : Launch} {G : gG} {X : gX} {o L : Nat} {S : List Int} {ts : List gTkn} {F R0 : Nat}
theorem gPk20 {p q : Int} (hp : 0 ≤ p ∧ p < 1048576) (hq : 0 ≤ q ∧ q < 1048576) : gLor (gLshl p 20) q = p * 1048576 + q := by
  have e1 : gLshl p 20 = p * ((2 ^ 20 : Nat) : Int) := gLshl_mul (n := 20) hp.1 (by decide) (by show p * 1048576 < _; omega)
  rw [e1]
  exact gLor_add (n := 20) hp.1 ⟨hq.1, hq.2⟩ (by show p * 1048576 + q < _; omega)
theorem r_cl5B {d D a N : Nat} {M M3 : gM} {k : Int → gM → Prop} {rs : List gRf} (hX : gmX X o) (hts : ts.length ≤ 100) (hp : gPst M o L S ts F R0 D a N rs) (hl : a < ts.length) (hD : D ≤ 21) (hF : gPbF M o ts D a N (R0 + rs.length) k) (q : gOff (gPaR o N (R0 + rs.length)) M M3) (ct : gPct M3 o 1 D (a + 2) N (R0 + rs.length)) : gCl5 l G (d + 1) X o k M M3 := by
  have cp := hp.2.2.2.1
  unfold gPcp at cp
  unfold gCl5
  refine r_node hX ct.2.2.2.1 (by omega) (g32_c rfl) (g32_c rfl) (g32_c rfl) (g64_c rfl) (fun M4 oA n9 oj _ _ _ _ => ?_)
  rw [hp.2.2.1.2.2.1]
  have c4 : gPct M4 o 1 D (a + 2) (N + 1) (R0 + rs.length) := ⟨(oj _ (by decide)).trans ct.1, (oj _ (by decide)).trans ct.2.1, (oj _ (by decide)).trans ct.2.2.1, n9, (oj _ (by decide)).trans ct.2.2.2.2⟩
  generalize (gLor (gLshl (M4 (o + 14) (Int.toNat (a : Int))) 20) (M4 (o + 15) (Int.toNat (a : Int)))) = u
  have w0 : ∀ j, gUp M4 (o + 6) (Int.toNat (N : Int)) u o j = M4 o j := fun j => gUp_a (by omega)
  have qw : gOff (gPaR o N (R0 + rs.length)) M (gUp M4 (o + 6) (Int.toNat (N : Int)) u) := (q.tr (oA _)).up (by unfold gPaR; omega)
  generalize gUp M4 (o + 6) (Int.toNat (N : Int)) u = M5 at w0 qw ⊢
  have c5 : gPct M5 o 1 D (a + 2) (N + 1) (R0 + rs.length) := c4.of (fun j _ => w0 j)
  refine ⟨⟨by omega, by omega⟩, fun _ => ⟨⟨by omega, by omega⟩, fun _ => ⟨⟨by omega, by omega⟩, fun _ _ => ⟨fun _ _ => ?_, fun y => ?_⟩⟩⟩⟩
  · rw [c5.2.1, gUp_eq, w32_id (x := (D : Int) + 1) ⟨by omega, by omega⟩, w32_id (x := (D : Int) + 1 - 1) ⟨by omega, by omega⟩, show (D : Int) + 1 - 1 = (D : Int) by omega]
    have c6 : gPct (gUp (gUp M5 o 26 ((D : Int) + 1)) o 26 (D : Int)) o 1 D (a + 2) (N + 1) (R0 + rs.length) := (show gPct (gUp M5 o 26 ((D + 1 : Nat) : Int)) o 1 (D + 1) (a + 2) (N + 1) (R0 + rs.length) from c5.dp).dp
    have q6 : gOff (gPaR o N (R0 + rs.length)) M (gUp (gUp M5 o 26 ((D : Int) + 1)) o 26 (D : Int)) := (qw.up (by unfold gPaR; omega)).up (by unfold gPaR; omega)
    generalize gUp (gUp M5 o 26 ((D : Int) + 1)) o 26 (D : Int) = M6 at c6 q6 ⊢
    refine r_needB hX (by rw [(hp.1.kp q6).2.1]; omega) c6.2.2.1 (by omega) c6.1 (g32_c rfl) (fun M7 o7 f7 a7 => ?_)
    exact hF _ M7 (a + 3) (N + 1) _ (q6.tr (o7.mono gPas1_R)) (gPas1.ct c6 o7 f7 a7) (by unfold gPbd; omega) (by omega) ⟨by omega, by omega⟩
  · rw [gUp_k (by decide), c5.1] at y
    exact absurd y (by decide)
theorem r_cl5G {n d D a N : Nat} {M M3 : gM} {k : Int → gM → Prop} {w : Int} {rs : List gRf} (hX : gmX X o) (hts : ts.length ≤ 100) (hto : ∀ t ∈ ts, gTkO S t ∧ 1 ≤ t.2.1) (ih6 : gR6 l G X o L S ts F R0 n) (ih7 : gR7 l G X o L S ts F R0 n) (hp : gPst M o L S ts F R0 D a N rs) (hk20 : gTK ts a = 20) (hk13 : gTK ts (a + 1) = 13) (hn : 3 * (ts.length - (a + 1)) + 3 ≤ n + 2) (hD : D ≤ 20) (hw : w = gNmW (gSbs S (gTs ts a).2.1 (gTs ts a).2.2)) (hk : gPoF M o L S ts F R0 D a N (R0 + rs.length) k (gPca ts (gPs S ts (n + 1)) w D (a + 1) rs)) (q : gOff (gPaR o N (R0 + rs.length)) M M3) (hp3 : gPst M3 o L S ts F R0 D (a + 2) N rs) : gCl5 l G (d + 1 + n + 8) X o k M M3 := by
  have cp := hp.2.2.2.1
  unfold gPcp at cp
  have l1 := gTK_lt (ts := ts) (a := a) (by rw [hk20]; decide)
  have l2 := gTK_lt (ts := ts) (a := a + 1) (by rw [hk13]; decide)
  unfold gPca at hk
  rw [if_pos hk13] at hk
  have e20 : (gTs ts a).1 = 20 := hk20
  have tO := gTkO_k (hto _ (gTs_mem l1)).1
  have t14 := (hp3.1.2.2 a l1).2.1
  have t15 := (hp3.1.2.2 a l1).2.2.1
  rw [if_neg (by rw [e20]; decide)] at t14 t15
  have hl2 := hp3.1.1.2.2.1
  unfold gCl5
  refine r_node hX hp3.2.2.1.2.2.2.1 (by omega) (g32_c rfl) (g32_c rfl) (g32_c rfl) (g64_c rfl) (fun M4 oA n9 oj e2 e3 e4 _ => ?_)
  rw [hp.2.2.1.2.2.1]
  simp only [Int.toNat_natCast]
  have t14b : M4 (o + 14) a = ((L + (gTs ts a).2.1 : Nat) : Int) := (oA 0 _ _ (by unfold gPaR; omega)).trans t14
  have t15b : M4 (o + 15) a = ((L + (gTs ts a).2.2 : Nat) : Int) := (oA 0 _ _ (by unfold gPaR; omega)).trans t15
  rw [t14b, t15b, gPk20 ⟨by omega, by omega⟩ ⟨by omega, by omega⟩]
  have p4 : gPst M4 o L S ts F R0 D (a + 2) (N + 1) rs := by
    obtain ⟨tk, rf, ct, cp, al⟩ := hp3
    exact ⟨tk.kp (oA (R0 + rs.length)), rf.kp (oA (R0 + rs.length)) (Nat.le_refl _), ⟨(oj _ (by decide)).trans ct.1, (oj _ (by decide)).trans ct.2.1, (oj _ (by decide)).trans ct.2.2.1, n9, (oj _ (by decide)).trans ct.2.2.2.2⟩, by unfold gPcp at cp ⊢; omega, al⟩
  have w0 : ∀ j, gUp M4 (o + 6) N (((L + (gTs ts a).2.1 : Nat) : Int) * 1048576 + ((L + (gTs ts a).2.2 : Nat) : Int)) o j = M4 o j := fun j => gUp_a (by omega)
  have w1 : ∀ i j, i ≠ 6 → gUp M4 (o + 6) N (((L + (gTs ts a).2.1 : Nat) : Int) * 1048576 + ((L + (gTs ts a).2.2 : Nat) : Int)) (o + i) j = M4 (o + i) j := fun i j hi => gUp_a (by omega)
  have w6 : gUp M4 (o + 6) N (((L + (gTs ts a).2.1 : Nat) : Int) * 1048576 + ((L + (gTs ts a).2.2 : Nat) : Int)) (o + 6) N = ((L + (gTs ts a).2.1 : Nat) : Int) * 1048576 + ((L + (gTs ts a).2.2 : Nat) : Int) := gUp_eq _ _ _ _
  have qw : gOff (gPaR o N (R0 + rs.length)) M (gUp M4 (o + 6) N (((L + (gTs ts a).2.1 : Nat) : Int) * 1048576 + ((L + (gTs ts a).2.2 : Nat) : Int))) := (q.tr (oA _)).up (by unfold gPaR; omega)
  generalize gUp M4 (o + 6) N (((L + (gTs ts a).2.1 : Nat) : Int) * 1048576 + ((L + (gTs ts a).2.2 : Nat) : Int)) = M5 at w0 w1 w6 qw ⊢
  have p5 : gPst M5 o L S ts F R0 D (a + 2) (N + 1) rs := p4.wr w0 (fun i j hi => w1 i j (by omega))
  have cl5 : gClN M5 o L N S w := ⟨(w1 2 N (by decide)).trans e2, (gTs ts a).2.1, (gTs ts a).2.2, by omega, tO.2.2.2, w6, hw.symm⟩
  have h53 : M5 (o + 3) N = -1 := (w1 3 N (by decide)).trans e3
  have h54 : M5 (o + 4) N = 0 := (w1 4 N (by decide)).trans e4
  clear w0 w1 w6 e2 e3 e4 p4 t14b t15b n9 oj
  refine ⟨⟨by omega, by omega⟩, fun _ => ⟨⟨by omega, by omega⟩, fun _ => ⟨⟨by omega, by omega⟩, fun _ _ => ⟨fun y => ?_, fun _ => ?_⟩⟩⟩⟩
  · rw [gUp_k (by decide), p5.2.2.1.1] at y
    exact absurd rfl y
  rw [p5.2.2.1.2.1, w32_id (x := (D : Int) + 1) ⟨by omega, by omega⟩, show (D : Int) + 1 = ((D + 1 : Nat) : Int) by omega]
  obtain ⟨p6, q6'⟩ := p5.dp (E := D + 1)
  have q6 : gOff (gPaR o N (R0 + rs.length)) M (gUp M5 o 26 ((D + 1 : Nat) : Int)) := qw.up (by unfold gPaR; omega)
  have v1 : ∀ i j, 1 ≤ i → gUp M5 o 26 ((D + 1 : Nat) : Int) (o + i) j = M5 (o + i) j := fun i j hi => gUp_a (by omega)
  clear q6'
  generalize gUp M5 o 26 ((D + 1 : Nat) : Int) = M6 at p6 q6 v1 ⊢
  have cl6 : gClN M6 o L N S w := cl5.kp (v1 2 N (by omega)) (v1 6 N (by omega))
  have h63 : M6 (o + 3) N = -1 := (v1 3 N (by omega)).trans h53
  have h64 : M6 (o + 4) N = 0 := (v1 4 N (by omega)).trans h54
  clear v1 cl5 h53 h54
  have km := gKm_of (gTK_rng hto (a + 2))
  refine r_look (i := 0) hX p6.1 hts p6.2.2.1.2.2.1 (by omega) (by decide) rfl ⟨fun z _ => ?_, fun z => ?_⟩
  · have z := km.2.2.2.2.2.2.2.2.2.1.mp z
    rw [if_pos z] at hk
    rw [p6.2.2.1.2.1, w32_id (x := ((D + 1 : Nat) : Int) - 1) ⟨by omega, by omega⟩, show ((D + 1 : Nat) : Int) - 1 = (D : Int) by omega]
    obtain ⟨p7, _⟩ := p6.dp (E := D)
    have l3 := gTK_lt (ts := ts) (a := a + 2) (by rw [z]; decide)
    refine r_need (y := 14) hX p7.1 hts hto p7.2.2.1.2.2.1 (by omega) p7.2.2.1.2.1 p7.2.2.1.1 (g32_c rfl) km.2.2.2.2.2.2.2.2.2.1 (by decide) (fun e _ => ?_) (fun hq => by omega)
    obtain ⟨p8, _⟩ := p7.at1 l3
    have q8 : gOff (gPaR o N (R0 + rs.length)) M (gUp (gUp M6 o 26 (D : Int)) o 25 ((a + 2 + 1 : Nat) : Int)) := (q6.up (by unfold gPaR; omega)).up (by unfold gPaR; omega)
    have v1 : ∀ i j, 1 ≤ i → (gUp (gUp M6 o 26 (D : Int)) o 25 ((a + 2 + 1 : Nat) : Int)) (o + i) j = M6 (o + i) j := fun i j hi => by rw [gUp_a (by omega), gUp_a (by omega)]
    generalize gUp (gUp M6 o 26 (D : Int)) o 25 ((a + 2 + 1 : Nat) : Int) = M8 at p8 q8 v1 ⊢
    exact hk.2 _ _ _ rfl _ M8 (N + 1) q8 p8 (by unfold gPbd; omega) ((cl6.kp (v1 2 N (by omega)) (v1 6 N (by omega))).nd (es := []) (z := 0) (n0 := -1) p8.1.1 ⟨by omega, by omega⟩ ((v1 3 N (by omega)).trans h63) ((v1 4 N (by omega)).trans h64) (Or.inl rfl))
  · have z : gTK ts (a + 2) ≠ 14 := fun y => z (km.2.2.2.2.2.2.2.2.2.1.mpr y)
    rw [if_neg z] at hk
    have hk : gPoF M o L S ts F R0 D a N (R0 + rs.length) k (gY5 ts (gPas ts (gPs S ts n) w (D + 1) (a + 2) rs) w []) := hk
    have hF7 : gPs S ts n 7 w (D + 1) (.num 0) (a + 2) rs = none → gPbF M o ts D a N (R0 + rs.length) k := by
      intro y
      refine hk.1 ?_
      unfold gPas
      rw [y]
      rfl
    refine ih7 (d + 1) M6 _ w (D + 1) (a + 2) (N + 1) rs p6 (by omega) (by omega) ⟨fun y => ?_, fun x b1 r1 y => ?_⟩ (fun y => ?_)
    · have hF := hF7 y
      intro v M7 a' N' R' q7 c7 b7 l7 hv
      unfold gPbd at b7
      refine ⟨⟨by omega, by omega⟩, ⟨by omega, by omega⟩, ?_⟩
      exact r_lost95 (d := d + 1 + n + 7) hX hts hF hp.1 ((q6.tr (q7.mono (gPaR_le ⟨by omega, Nat.le_refl _⟩))).tr (((gOff.rf _ _).up (by unfold gPaR; omega)).up (by unfold gPaR; omega))) (c7.of (fun j _ => by rw [gUp_a (by omega), gUp_a (by omega)])) (by unfold gPbd; omega) l7 (by omega) ⟨by omega, by omega⟩
    · have hD2 := gPs_7D y
      have eN := gY_eq (ts := ts) (S := S) [] y
      rw [eN] at hk
      intro v M7 N' q7 p7 b7 n7
      have b8 := b7
      unfold gPbd at b8
      have v1 := n7.1
      have v2 := n7.2.1
      have cp7 := p7.2.2.2.1
      unfold gPcp at cp7
      have al7 := p7.2.2.2.2
      refine ⟨⟨by omega, by omega⟩, ⟨by omega, by omega⟩, ?_⟩
      have w0 : ∀ j, gUp (gUp M7 (o + 3) N v) (o + 4) N 1 o j = M7 o j := fun j => by rw [gUp_a (by omega), gUp_a (by omega)]
      have w1 : ∀ i j, ¬ (i = 3 ∧ j = N) → ¬ (i = 4 ∧ j = N) → gUp (gUp M7 (o + 3) N v) (o + 4) N 1 (o + i) j = M7 (o + i) j := by
        intro i j hi hj
        unfold gUp
        rw [if_neg (by omega), if_neg (by omega)]
      have w3 : gUp (gUp M7 (o + 3) N v) (o + 4) N 1 (o + 3) N = v := by rw [gUp_a (by omega), gUp_eq]
      have w4 : gUp (gUp M7 (o + 3) N v) (o + 4) N 1 (o + 4) N = 1 := gUp_eq _ _ _ _
      have qw7 : gOff (gPaR o N (R0 + rs.length)) M7 (gUp (gUp M7 (o + 3) N v) (o + 4) N 1) := ((gOff.rf _ _).up (by unfold gPaR; omega)).up (by unfold gPaR; omega)
      generalize gUp (gUp M7 (o + 3) N v) (o + 4) N 1 = M8 at w0 w1 w3 w4 qw7 ⊢
      have p8 : gPst M8 o L S ts F R0 (D + 1) b1 N' r1 := p7.wr w0 (fun i j hi => w1 i j (by omega) (by omega))
      have n8 : gxNs M8 o L (L + S.length) (N + 1) N' x v := n7.kp (fun i j a1 a2 a3 a4 _ => w1 i j (by omega) (by omega)) (fun j => w1 1 j (by omega) (by omega))
      have c8 : ∀ i, (i = 2 ∨ i = 6) → M8 (o + i) N = M6 (o + i) N := fun i hi => (w1 i N (by omega) (by omega)).trans (q7 _ _ (by unfold gPaR; omega))
      refine ih6 (d + 1) M8 k w D a b1 N' N (R0 + rs.length) r1 [x] v v p8 (fun y15 => ?_) (by omega) (by unfold gPbd; omega) (cl6.kp (c8 2 (by omega)) (c8 6 (by omega))) w3 w4 (by show 1 ≤ 1000 + b1; omega) (gxAz.one n8) (hk.step ((q6.tr (q7.mono (gPaR_le ⟨by omega, Nat.le_refl _⟩))).tr qw7))
      have l15 := gTK_lt (ts := ts) (a := b1) (by rw [y15]; decide)
      omega
    · have hF := hF7 y
      intro v M7 a' N' rs' q7 p7 b7 k16 hv
      have cp7 := p7.2.2.2.1
      unfold gPcp at cp7
      unfold gPbd at b7
      refine ⟨⟨by omega, by omega⟩, ⟨by omega, by omega⟩, ?_⟩
      have w0 : ∀ j, gUp (gUp M7 (o + 3) N v) (o + 4) N 1 o j = M7 o j := fun j => by rw [gUp_a (by omega), gUp_a (by omega)]
      have w1 : ∀ i j, i ≠ 3 → i ≠ 4 → gUp (gUp M7 (o + 3) N v) (o + 4) N 1 (o + i) j = M7 (o + i) j := fun i j h3 h4 => by rw [gUp_a (by omega), gUp_a (by omega)]
      have qw7 : gOff (gPaR o N (R0 + rs.length)) M7 (gUp (gUp M7 (o + 3) N v) (o + 4) N 1) := ((gOff.rf _ _).up (by unfold gPaR; omega)).up (by unfold gPaR; omega)
      generalize gUp (gUp M7 (o + 3) N v) (o + 4) N 1 = M8 at w0 w1 qw7 ⊢
      have p8 : gPst M8 o L S ts F R0 (D + 1) a' N' rs' := p7.wr w0 (fun i j hi => w1 i j (by omega) (by omega))
      exact r_end95 (d := d + 1 + n + 7) hX hts hto p8 hD ((q6.tr (q7.mono (gPaR_le ⟨by omega, Nat.le_refl _⟩))).tr qw7) (by unfold gPbd; omega) (by omega) ⟨by omega, by omega⟩ (by rw [k16]; decide) (fun _ => hF) (fun y => absurd (k16.symm.trans y) (by decide))
theorem gR5_step {n : Nat} (hX : gmX X o) (hts : ts.length ≤ 100) (hto : ∀ t ∈ ts, gTkO S t ∧ 1 ≤ t.2.1) (ih6 : gR6 l G X o L S ts F R0 n) (ih7 : gR7 l G X o L S ts F R0 n) : gR5 l G X o L S ts F R0 (n + 2) := by
  intro d M k D a N rs hp hk20 hn hD hk
  have hk : gPoF M o L S ts F R0 D a N (R0 + rs.length) k (if 20 < D then none else gPca ts (gPs S ts (n + 1)) (gNmW (gSbs S (gTs ts a).2.1 (gTs ts a).2.2)) D (a + 1) rs) := hk
  have l1 := gTK_lt (ts := ts) (a := a) (by rw [hk20]; decide)
  rw [show d + (n + 2) + 8 = d + 1 + n + 7 + 1 + 1 by omega]
  refine e_GM_call (w_GM_call_0 hX fun _ => r_pass hX hp.1 hts hp.2.2.1.2.2.1 l1 hp.2.2.1.2.1 hp.2.2.1.1 (fun q => ?_) (fun q M2 o2 f2 a2 => ?_))
  · rw [if_neg (by omega)] at hk
    obtain ⟨p1, q1⟩ := hp.at1 l1
    generalize gUp M o 25 ((a + 1 : Nat) : Int) = M1 at p1 q1 ⊢
    refine r_need (y := 13) hX p1.1 hts hto p1.2.2.1.2.2.1 (by omega) p1.2.2.1.2.1 p1.2.2.1.1 (g32_c rfl) (gKm_of (gTK_rng hto (a + 1))).2.2.2.2.2.2.2.2.1 (by decide) (fun e _ => ?_) (fun hq M2 o2 f2 a2 => ?_)
    · have l2 := gTK_lt (ts := ts) (a := a + 1) (by rw [e]; decide)
      obtain ⟨p2, q2⟩ := p1.at1 l2
      exact r_cl5G (d := d) hX hts hto ih6 ih7 hp hk20 e hn q rfl hk (q1.tr q2) p2
    · refine r_cl5B (d := d + 1 + n + 7) hX hts hp l1 hD (hk.1 ?_) (q1.tr (o2.mono gPas1_R)) (gPas1.ct p1.2.2.1 o2 f2 a2)
      unfold gPca
      rw [if_neg (by omega)]
  · have c2 := gPas1.ct hp.2.2.1 o2 f2 a2
    have q2 := o2.mono (gPas1_R (N := N) (R := R0 + rs.length))
    refine r_needB hX (by rw [(hp.1.kp q2).2.1]; omega) c2.2.2.1 (by omega) c2.1 (g32_c rfl) (fun M3 o3 f3 a3 => ?_)
    exact r_cl5B (d := d + 1 + n + 7) hX hts hp l1 hD (hk.1 (if_pos q)) (q2.tr (o3.mono gPas1_R)) (gPas1.ct c2 o3 f3 a3)
/-- all of the reference's parser -/
theorem gR_all (hX : gmX X o) (hts : ts.length ≤ 100) (hto : ∀ t ∈ ts, gTkO S t ∧ 1 ≤ t.2.1) : ∀ n m, m ≤ n → gR0 l G X o L S ts F R0 m ∧ gR1 l G X o L S ts F R0 m ∧ gR2 l G X o L S ts F R0 m ∧ gR3 l G X o L S ts F R0 m ∧ gR4 l G X o L S ts F R0 m ∧ gR5 l G X o L S ts F R0 m ∧ gR6 l G X o L S ts F R0 m ∧ gR7 l G X o L S ts F R0 m := by
  have zero : gR0 l G X o L S ts F R0 0 ∧ gR1 l G X o L S ts F R0 0 ∧ gR2 l G X o L S ts F R0 0 ∧ gR3 l G X o L S ts F R0 0 ∧ gR4 l G X o L S ts F R0 0 ∧ gR5 l G X o L S ts F R0 0 ∧ gR6 l G X o L S ts F R0 0 ∧ gR7 l G X o L S ts F R0 0 := by
    refine ⟨?_, ?_, ?_, ?_, ?_, ?_, ?_, ?_⟩
    · intro d M k D a N rs hp hn; omega
    · intro d M k D a N rs hp hn; omega
    · intro d M k D a N ab Nb Rb rs e v hp hn; omega
    · intro d M k w x D a N rs hp hn; omega
    · intro d M k w x D a N ab Nb Rb rs e v hp hn; omega
    · intro d M k D a N rs hp hk hn; omega
    · intro d M k w D a b N c Rb rs es n0 z hp hn hD hb hcl h3 h4 hes hA hk
      by_cases h15 : gTK ts b = 15
      · have := hn h15; omega
      · exact gR6_end (d := d + 7) hX hts hto hp h15 hD hb hcl h3 h4 hA hk
    · intro d M k w D a N rs hp hn; omega
  intro n
  induction n with
  | zero =>
    intro m hm
    have e : m = 0 := by omega
    subst e
    exact zero
  | succ n ih =>
    intro m hm
    by_cases e : m ≤ n
    · exact ih m e
    · have e : m = n + 1 := by omega
      subst e
      obtain ⟨i0, i1, i2, i3, i4, i5, i6, i7⟩ := ih n (Nat.le_refl _)
      refine ⟨gR0_step hX hts hto i3 i5, gR1_step hX hts hto i0 i1 i2, gR2_step hX hts hto i2, gR3_step hX i1 i4, gR4_step hX hts hto i3 i4, ?_, gR6_step hX hts hto i6 i7, gR7_step hX hts hto i3⟩
      cases n with
      | zero => intro d M k D a N rs hp hk hn; omega
      | succ n =>
        obtain ⟨_, _, _, _, _, _, j6, j7⟩ := ih n (by omega)
        exact gR5_step hX hts hto j6 j7
end gdAN
