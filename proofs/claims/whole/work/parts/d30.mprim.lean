/-! The reference's parser: contracts; primaries. -/
section gdAF
variable (l : Launch) (G : gG) (X : gX) (o L : Nat) (S : List Int) (ts : List gTkn) (F R0 : Nat)
def gR0 (n : Nat) : Prop := ∀ (d : Nat) (M : gM) (k : Int → gM → Prop) (D a N : Nat) (rs : List gRf), gPst M o L S ts F R0 D a N rs → 3 * (ts.length - a) + 1 ≤ n → D ≤ 21 → gPoF M o L S ts F R0 D a N (R0 + rs.length) k (if 20 < D then none else gPs S ts n 0 0 D (.num 0) a rs) → cI l G y_GM_primary (gRm (d + n + 8)) true [gR G o] X M k
def gR1 (n : Nat) : Prop := ∀ (d : Nat) (M : gM) (k : Int → gM → Prop) (D a N : Nat) (rs : List gRf), gPst M o L S ts F R0 D a N rs → 3 * (ts.length - a) + 2 ≤ n → D ≤ 21 → gPoF M o L S ts F R0 D a N (R0 + rs.length) k (gPs S ts n 1 0 D (.num 0) a rs) → cI l G y_GM_minus (gRm (d + n + 8)) true [gR G o] X M k
def gR2 (n : Nat) : Prop := ∀ (d : Nat) (M : gM) (k : Int → gM → Prop) (D a N ab Nb Rb : Nat) (rs : List gRf) (e : gEx) (v : Int), gPst M o L S ts F R0 D a N rs → 3 * (ts.length - a) + 1 ≤ n → D ≤ 20 → gPbd ab Nb Rb a N (R0 + rs.length) → gxNs M o L (L + S.length) Nb N e v → gPoF M o L S ts F R0 D ab Nb Rb k (gPs S ts n 2 0 D e a rs) → wp l G y_GM_minus (gRm (d + n + 8 + 1)) true (kkI X k) true 64 [.val (gR G o), .val (gI v)] [] X M 0 0
def gR3 (n : Nat) : Prop := ∀ (d : Nat) (M : gM) (k : Int → gM → Prop) (w x : Int) (D a N : Nat) (rs : List gRf), gPst M o L S ts F R0 D a N rs → 3 * (ts.length - a) + 3 ≤ n → D ≤ 21 → 1 ≤ w ∧ w ≤ 6 → x = w - 1 → gPoF M o L S ts F R0 D a N (R0 + rs.length) k (gPs S ts n 3 w D (.num 0) a rs) → cI l G y_GM_expr (gRm (d + n + 8)) true [gR G o, gI x] X M k
def gR4 (n : Nat) : Prop := ∀ (d : Nat) (M : gM) (k : Int → gM → Prop) (w x : Int) (D a N ab Nb Rb : Nat) (rs : List gRf) (e : gEx) (v : Int), gPst M o L S ts F R0 D a N rs → 3 * (ts.length - a) + 3 ≤ n → D ≤ 20 → 1 ≤ w ∧ w ≤ 6 → x = w - 1 → gPbd ab Nb Rb a N (R0 + rs.length) → gxNs M o L (L + S.length) Nb N e v → gPoF M o L S ts F R0 D ab Nb Rb k (gPs S ts n 4 w D e a rs) → wp l G y_GM_expr (gRm (d + n + 8 + 1)) true (kkI X k) true 5 [.val (gR G o), .val (gI x), .val (gI v), .unset, .unset] [] X M 0 0
def gR5 (n : Nat) : Prop := ∀ (d : Nat) (M : gM) (k : Int → gM → Prop) (D a N : Nat) (rs : List gRf), gPst M o L S ts F R0 D a N rs → gTK ts a = 20 → 3 * (ts.length - (a + 1)) + 3 ≤ n → D ≤ 21 → gPoF M o L S ts F R0 D a N (R0 + rs.length) k (if 20 < D then none else gPs S ts n 5 (gNmW (gSbs S (gTs ts a).2.1 (gTs ts a).2.2)) D (.num 0) (a + 1) rs) → cI l G y_GM_call (gRm (d + n + 8)) true [gR G o] X M k
/-- an argument; where a ref is followed by : and no range, the reference takes the ref and leaves the : -/
def gR7 (n : Nat) : Prop := ∀ (d : Nat) (M : gM) (k : Int → gM → Prop) (w : Int) (D a N : Nat) (rs : List gRf), gPst M o L S ts F R0 D a N rs → 3 * (ts.length - a) + 4 ≤ n → D ≤ 21 → gPoF M o L S ts F R0 D a N (R0 + rs.length) k (gPs S ts n 7 w D (.num 0) a rs) → (gPs S ts n 7 w D (.num 0) a rs = none → ∀ (v : Int) (M2 : gM) (a' N' : Nat) (rs' : List gRf), gOff (gPaR o N (R0 + rs.length)) M M2 → gPst M2 o L S ts F R0 D a' N' rs' → gPbd a N (R0 + rs.length) a' N' (R0 + rs'.length) → gTK ts a' = 16 → 0 ≤ v ∧ v < 90000 → k v M2) → cI l G y_GM_argument (gRm (d + n + 8)) true [gR G o] X M k
end gdAF
section gdAG
variable {l : Launch} {G : gG} {X : gX} {o L : Nat} {S : List Int} {ts : List gTkn} {F R0 : Nat}
theorem gR0_step {n : Nat} (hX : gmX X o) (hts : ts.length ≤ 100) (hto : ∀ t ∈ ts, gTkO S t ∧ 1 ≤ t.2.1) (ih3 : gR3 l G X o L S ts F R0 n) (ih5 : gR5 l G X o L S ts F R0 n) : gR0 l G X o L S ts F R0 (n + 1) := by
  intro d M k D a N rs hp hn hD hk
  have hk : gPoF M o L S ts F R0 D a N (R0 + rs.length) k (if 20 < D then none else gPp S ts (gPs S ts n) D a rs) := hk
  obtain ⟨tk, rf, ct, cp, al⟩ := id hp
  obtain ⟨c27, c26, c25, c9, c17⟩ := id ct
  have cp2 := cp
  unfold gPcp at cp2
  have kr := gTK_rng hto a
  obtain ⟨k1, k2, k3, k4, k5, k6, k7, k8, k9, k10, k11, k12, kg, kl, ko⟩ := gKm_of kr
  rw [show d + (n + 1) + 8 = (d + n + 8) + 1 by omega]
  refine e_GM_primary (w_GM_primary_0 hX fun _ => r_look (i := 0) hX tk hts c25 (by omega) (by decide) rfl ?_)
  rw [Nat.add_zero, c25, Int.toNat_natCast]
  unfold gPp at hk
  refine ⟨fun z => ?_, fun z => ?_, fun z => ?_, fun z => ?_, fun z => ?_, fun z => ?_, fun z => ?_⟩
  · -- a number
    have e := k1.mp z
    have l1 := gTK_lt (ts := ts) (a := a) (by rw [e]; decide)
    rw [if_pos (c := gTK ts a = 17) e] at hk
    have tv := (tk.2.2 a l1).2.2.2.1 e
    rw [tv, Option.getD_some] at hk
    have g := gNum_ok tv
    obtain ⟨A, B⟩ := r_lit (d := d + n + 8) (l := l) (G := G) (s := 0) (x := 0) (y := 0) (v := M (o + 18) a) hX hts hp l1 hD hk (g32_c rfl) (g32_c rfl) (g32_c rfl) g (fun M3 e2 _ _ e6 => ⟨⟨by omega, by omega, by rw [Int.toNat_natCast]; exact e2⟩, by rw [Int.toNat_natCast]; exact e6⟩)
    refine r_pass hX tk hts c25 l1 c26 c27 (fun q => ⟨⟨by omega, by omega⟩, fun _ => ?_⟩) (fun q M2 o2 f2 a2 => ⟨⟨by omega, by omega⟩, fun _ => ?_⟩)
    · rw [gUp_a (by omega)]; exact A q
    · rw [o2 _ _ (by unfold gPas1; omega)]; exact B q M2 o2 f2 a2
  · -- a text
    have e := k2.mp z
    have l1 := gTK_lt (ts := ts) (a := a) (by rw [e]; decide)
    rw [if_neg (c := gTK ts a = 17) (by omega), if_pos (c := gTK ts a = 18) e] at hk
    have e' : (gTs ts a).1 = 18 := e
    have t1 := (tk.2.2 a l1).2.1
    have t2 := (tk.2.2 a l1).2.2.1
    rw [if_pos e'] at t1 t2
    have tO := gTkO_k (hto _ (gTs_mem l1)).1
    have t18 := gTkO_18 (hto _ (gTs_mem l1)).1 e'
    have hl2 := tk.1.2.2.1
    obtain ⟨A, B⟩ := r_lit (d := d + n + 8) (l := l) (G := G) (s := 1) (x := M (o + 14) a) (y := M (o + 15) a) (v := 0) hX hts hp l1 hD hk (g32_c rfl) (by rw [t1]; exact ⟨by omega, by omega⟩) (by rw [t2]; exact ⟨by omega, by omega⟩) (g64_c rfl) (fun M3 e2 e3 e4 _ => ⟨⟨by omega, by omega, by rw [Int.toNat_natCast]; exact e2⟩, by rw [Int.toNat_natCast, e3, t1]; omega, by rw [Int.toNat_natCast, e4, t2]; omega⟩)
    refine r_pass hX tk hts c25 l1 c26 c27 (fun q => ⟨⟨by omega, by omega⟩, fun _ => ⟨⟨by omega, by omega⟩, fun _ => ?_⟩⟩) (fun q M2 o2 f2 a2 => ⟨⟨by omega, by omega⟩, fun _ => ⟨⟨by omega, by omega⟩, fun _ => ?_⟩⟩)
    · rw [gUp_a (by omega), gUp_a (by omega)]; exact A q
    · rw [o2 (o + 14) _ (by unfold gPas1; omega), o2 (o + 15) _ (by unfold gPas1; omega)]; exact B q M2 o2 f2 a2
  · -- a ref
    have e := k3.mp z
    have l1 := gTK_lt (ts := ts) (a := a) (by rw [e]; decide)
    rw [if_neg (c := gTK ts a = 17) (by omega), if_neg (c := gTK ts a = 18) (by omega), if_pos (c := gTK ts a = 19) e] at hk
    refine r_refN (d := d + n + 7) hX hts hto hp e (g32_c rfl) (fun q M2 o2 p2 => ?_) (fun q M2 o2 c2 => ?_)
    · rw [if_neg (by omega)] at hk
      have b2 : gPbd a N (R0 + rs.length) (a + 1) N (R0 + (rs ++ [gRfA S ts a 0]).length) := by
        rw [List.length_append]
        show gPbd a N (R0 + rs.length) (a + 1) N (R0 + (rs.length + 1))
        unfold gPbd
        omega
      refine r_nodeG hX p2 b2 (by omega) (by omega) (hk.2.step o2) (g32_c rfl) ⟨by omega, by omega⟩ (g32_c rfl) (g64_c rfl) hts (fun M3 o3 e2 e3 e4 e6 => ⟨by omega, by omega, fun M4 z z1 => ⟨⟨by omega, by omega, ?_⟩, ?_⟩⟩)
      · rw [Int.toNat_natCast, z 2 N (by omega) (by omega) (by omega) (by omega) (by omega)]; exact e2
      · rw [Int.toNat_natCast, z 3 N (by omega) (by omega) (by omega) (by omega) (by omega)]; exact e3
    · rw [if_pos q] at hk
      exact r_nodeB hX (hk.1 rfl) o2 c2 (by unfold gPbd; omega) (by omega) (by omega) (by omega) (g32_c rfl) ⟨by omega, by omega⟩ (g32_c rfl) (g64_c rfl)
  · -- a call
    have e := k4.mp z
    have l1 := gTK_lt (ts := ts) (a := a) (by rw [e]; decide)
    rw [if_neg (c := gTK ts a = 17) (by omega), if_neg (c := gTK ts a = 18) (by omega), if_neg (c := gTK ts a = 19) (by omega), if_neg (c := gTK ts a = 21) (by omega), if_neg (c := gTK ts a = 22) (by omega), if_pos (c := gTK ts a = 20) e] at hk
    exact ih5 d M k D a N rs hp e (by omega) hD hk
  · -- TRUE
    have e := k5.mp z
    have l1 := gTK_lt (ts := ts) (a := a) (by rw [e]; decide)
    rw [if_neg (c := gTK ts a = 17) (by omega), if_neg (c := gTK ts a = 18) (by omega), if_neg (c := gTK ts a = 19) (by omega), if_pos (c := gTK ts a = 21) e] at hk
    have t1 : M (o + 13) a = 5 := (tk.2.2 a l1).1.trans z
    obtain ⟨A, B⟩ := r_lit (d := d + n + 8) (l := l) (G := G) (s := 4) (x := 0) (y := 0) (v := 1) hX hts hp l1 hD hk (g32_c rfl) (g32_c rfl) (g32_c rfl) (g64_c rfl) (fun M3 e2 _ _ e6 => ⟨⟨by omega, by omega, by rw [Int.toNat_natCast]; exact e2⟩, by rw [Int.toNat_natCast]; exact e6⟩)
    refine r_pass hX tk hts c25 l1 c26 c27 (fun q => ⟨⟨by omega, by omega⟩, fun _ => ?_⟩) (fun q M2 o2 f2 a2 => ⟨⟨by omega, by omega⟩, fun _ => ?_⟩)
    · rw [gUp_a (by omega), t1]; exact ⟨fun y => absurd rfl y, fun _ => A q⟩
    · rw [o2 _ _ (by unfold gPas1; omega), t1]; exact ⟨fun y => absurd rfl y, fun _ => B q M2 o2 f2 a2⟩
  · -- FALSE
    have e := k6.mp z
    have l1 := gTK_lt (ts := ts) (a := a) (by rw [e]; decide)
    rw [if_neg (c := gTK ts a = 17) (by omega), if_neg (c := gTK ts a = 18) (by omega), if_neg (c := gTK ts a = 19) (by omega), if_neg (c := gTK ts a = 21) (by omega), if_pos (c := gTK ts a = 22) e] at hk
    have t1 : M (o + 13) a = 6 := (tk.2.2 a l1).1.trans z
    obtain ⟨A, B⟩ := r_lit (d := d + n + 8) (l := l) (G := G) (s := 4) (x := 0) (y := 0) (v := 0) hX hts hp l1 hD hk (g32_c rfl) (g32_c rfl) (g32_c rfl) (g64_c rfl) (fun M3 e2 _ _ e6 => ⟨⟨by omega, by omega, by rw [Int.toNat_natCast]; exact e2⟩, by rw [Int.toNat_natCast]; exact e6⟩)
    refine r_pass hX tk hts c25 l1 c26 c27 (fun q => ⟨⟨by omega, by omega⟩, fun _ => ?_⟩) (fun q M2 o2 f2 a2 => ⟨⟨by omega, by omega⟩, fun _ => ?_⟩)
    · rw [gUp_a (by omega), t1]; exact ⟨fun _ => A q, fun y => absurd y (by decide)⟩
    · rw [o2 _ _ (by unfold gPas1; omega), t1]; exact ⟨fun _ => B q M2 o2 f2 a2, fun y => absurd y (by decide)⟩
  · -- ( .. )
    obtain ⟨z1, z2, z3, z4, z5, z6⟩ := z
    rw [if_neg (c := gTK ts a = 17) (fun y => z1 (k1.mpr y)), if_neg (c := gTK ts a = 18) (fun y => z2 (k2.mpr y)), if_neg (c := gTK ts a = 19) (fun y => z3 (k3.mpr y)), if_neg (c := gTK ts a = 21) (fun y => z5 (k5.mpr y)), if_neg (c := gTK ts a = 22) (fun y => z6 (k6.mpr y)), if_neg (c := gTK ts a = 20) (fun y => z4 (k4.mpr y))] at hk
    -- bad behind the need for (
    have lost : (20 < D ∨ gTK ts a ≠ 13) → ∀ M2, gOff (gPas1 o) M M2 → M2 o 27 = 1 → M2 o 25 = ((a + 1 : Nat) : Int) → cV l G y_GM_need (gRm (d + n + 7 + 1)) true [gR G o, gI 41] X (gUp (gUp M2 o 26 (w32 ((M2 o 26) + 1))) o 26 (w32 (((gUp M2 o 26 (w32 ((M2 o 26) + 1))) o 26) - 1))) (fun M55 => cI l G y_GM_node (gRm (d + n + 8)) true [gR G o, gI 9, gI 0, gI 0, gL 0] X M55 (fun v57 M56 => k v57 M56)) := by
      intro hq M2 o2 f2 a2
      have hF : gPbF M o ts D a N (R0 + rs.length) k := by
        refine hk.1 ?_
        rcases hq with y | y
        · rw [if_pos y]
        · rw [if_neg y]
          split <;> rfl
      have m26 : M2 o 26 = (D : Int) := (o2 _ _ (by unfold gPas1; omega)).trans c26
      have c2 := gPas1.ct ct o2 f2 a2
      rw [m26, gUp_eq, w32_id (x := (D : Int) + 1) ⟨by omega, by omega⟩, w32_id (x := (D : Int) + 1 - 1) ⟨by omega, by omega⟩, show (D : Int) + 1 - 1 = (D : Int) by omega]
      have c3 : gPct (gUp (gUp M2 o 26 ((D : Int) + 1)) o 26 (D : Int)) o 1 D (a + 1) N (R0 + rs.length) := (show gPct (gUp M2 o 26 ((D + 1 : Nat) : Int)) o 1 (D + 1) (a + 1) N (R0 + rs.length) from c2.dp).dp
      have q3 : gOff (gPaR o N (R0 + rs.length)) M (gUp (gUp M2 o 26 ((D : Int) + 1)) o 26 (D : Int)) := ((o2.mono gPas1_R).up (by unfold gPaR; omega)).up (by unfold gPaR; omega)
      generalize gUp (gUp M2 o 26 ((D : Int) + 1)) o 26 (D : Int) = M3 at c3 q3 ⊢
      refine r_needB hX (by rw [(tk.kp q3).2.1]; omega) c3.2.2.1 (by omega) c3.1 (g32_c rfl) (fun M4 o4 f4 a4 => ?_)
      have c4 := gPas1.ct c3 o4 f4 a4
      exact r_nodeB hX hF (q3.tr (o4.mono gPas1_R)) c4 (by unfold gPbd; omega) (by omega) (by omega) (by omega) (g32_c rfl) (g32_c rfl) (g32_c rfl) (g64_c rfl)
    refine r_need (d := d + n + 7) (y := 13) hX tk hts hto c25 (by omega) c26 c27 (g32_c rfl) k9 (by decide) (fun e q => ?_) (fun hq M2 o2 f2 a2 => ?_)
    · have l1 := gTK_lt (ts := ts) (a := a) (by rw [e]; decide)
      rw [if_neg (c := 20 < D) (by omega), if_pos (c := gTK ts a = 13) e] at hk
      obtain ⟨p1, q1⟩ := hp.at1 l1
      rw [gUp_k (by decide), c26, w32_id (x := (D : Int) + 1) ⟨by omega, by omega⟩, show (D : Int) + 1 = ((D + 1 : Nat) : Int) by omega]
      obtain ⟨p2, q2⟩ := p1.dp (E := D + 1)
      have q12 := q1.tr q2
      generalize gUp (gUp M o 25 ((a + 1 : Nat) : Int)) o 26 ((D + 1 : Nat) : Int) = M1 at p2 q2 q12 ⊢
      refine fun _ _ => ⟨fun _ => ih3 d M1 _ 1 0 (D + 1) (a + 1) N rs p2 (by omega) (by omega) (by decide) rfl ⟨fun y => ?_, fun x b r y => ?_⟩, fun y => absurd p2.2.2.1.1 y⟩
      · rw [y] at hk
        have hF := hk.1 rfl
        intro v M3 a' N' R' q3 c3 b3 l3 hv _
        rw [c3.2.1, w32_id (x := ((D + 1 : Nat) : Int) - 1) ⟨by omega, by omega⟩, show ((D + 1 : Nat) : Int) - 1 = (D : Int) by omega]
        have c4 : gPct (gUp M3 o 26 (D : Int)) o 1 D a' N' R' := c3.dp
        have q4 : gOff (gPaR o N (R0 + rs.length)) M (gUp M3 o 26 (D : Int)) := (q12.tr q3).up (by unfold gPaR; omega)
        generalize gUp M3 o 26 (D : Int) = M4 at c4 q4 ⊢
        unfold gPbd at b3
        refine r_needB hX (by rw [(tk.kp q4).2.1]; omega) c4.2.2.1 (by omega) c4.1 (g32_c rfl) (fun M5 o5 f5 a5 => ?_)
        exact r_nodeB hX hF (q4.tr (o5.mono gPas1_R)) (gPas1.ct c4 o5 f5 a5) (by unfold gPbd; omega) (by omega) (by omega) (by omega) (g32_c rfl) ⟨by omega, by omega⟩ (g32_c rfl) (g64_c rfl)
      · rw [y] at hk
        have hk : gPoF M o L S ts F R0 D a N (R0 + rs.length) k (if gTK ts b = 14 then some (.mulR x 0, b + 1, r) else none) := hk
        intro v M3 N' q3 p3 b3 n3 _
        rw [p3.2.2.1.2.1, w32_id (x := ((D + 1 : Nat) : Int) - 1) ⟨by omega, by omega⟩, show ((D + 1 : Nat) : Int) - 1 = (D : Int) by omega]
        obtain ⟨p4, q4'⟩ := p3.dp (E := D)
        have hv1 := n3.1
        have hv2 := n3.2.1
        have n4 := n3.of q4'
        have q4 : gOff (gPaR o N (R0 + rs.length)) M (gUp M3 o 26 (D : Int)) := (q12.tr q3).up (by unfold gPaR; omega)
        clear q4'
        generalize gUp M3 o 26 (D : Int) = M4 at p4 q4 n4 ⊢
        unfold gPbd at b3
        have cp4 := p4.2.2.2.1
        unfold gPcp at cp4
        have al4 := p4.2.2.2.2
        refine r_need (d := d + n + 7) (y := 14) hX p4.1 hts hto p4.2.2.1.2.2.1 (by omega) p4.2.2.1.2.1 p4.2.2.1.1 (g32_c rfl) (gKm_of (gTK_rng hto b)).2.2.2.2.2.2.2.2.2.1 (by decide) (fun e2 _ => ?_) (fun hq M5 o5 f5 a5 => ?_)
        · rw [if_pos e2] at hk
          have l2 := gTK_lt (ts := ts) (a := b) (by rw [e2]; decide)
          obtain ⟨p5, q5⟩ := p4.at1 l2
          have n5 := n4.of q5
          have q45 : gOff (gPaR o N (R0 + rs.length)) M (gUp M4 o 25 ((b + 1 : Nat) : Int)) := q4.up (by unfold gPaR; omega)
          clear q5
          generalize gUp M4 o 25 ((b + 1 : Nat) : Int) = M5 at p5 n5 q45 ⊢
          refine r_nodeG hX p5 (by unfold gPbd; omega) (by omega) (by omega) (hk.2.step q45) (g32_c rfl) ⟨by omega, by omega⟩ (g32_c rfl) (g64_c rfl) hts (fun M6 o6 e2 e3 e4 e6 => ⟨by omega, by omega, fun M7 z z1 => ⟨⟨by omega, by omega, ?_⟩, ?_⟩⟩)
          · rw [Int.toNat_natCast, z 2 N' (by omega) (by omega) (by omega) (by omega) (by omega)]; exact e2
          · rw [Int.toNat_natCast, z 3 N' (by omega) (by omega) (by omega) (by omega) (by omega), e3]
            exact (n5.of o6).2.2 M7 (fun i j a1 a2 a3 a4 a5 => z i j a1 a2 a3 (by omega) (by omega)) z1
        · have hF : gPbF M o ts D a N (R0 + rs.length) k := hk.1 (if_neg (by omega))
          exact r_nodeB hX hF (q4.tr (o5.mono gPas1_R)) (gPas1.ct p4.2.2.1 o5 f5 a5) (by unfold gPbd; omega) (by omega) (by omega) (by omega) (g32_c rfl) ⟨by omega, by omega⟩ (g32_c rfl) (g64_c rfl)
    · have m26 : M2 o 26 = (D : Int) := (o2 _ _ (by unfold gPas1; omega)).trans c26
      refine fun _ _ => ⟨fun y => ?_, fun _ _ => lost (by omega) M2 o2 f2 a2⟩
      rw [gUp_k (by decide), f2] at y
      exact absurd y (by decide)
end gdAG
