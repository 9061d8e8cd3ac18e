/-! The reference: sums, products and counts over a range. -/
def gmBb (M : gM) (o : Nat) (b : gBx) : Prop := M o 56 = b.c ∧ M o 58 = b.d ∧ M o 57 = b.r ∧ M o 59 = b.s
theorem gmBb.keep {M M2 : gM} {o : Nat} {b : gBx} {A : Nat → Nat → Prop} (h : gmBb M o b) (q : gOff A M M2) (h1 : ∀ k, 56 ≤ k → k ≤ 59 → ¬ A o k) : gmBb M2 o b :=
  ⟨(q _ _ (h1 _ (by omega) (by omega))).trans h.1, (q _ _ (h1 _ (by omega) (by omega))).trans h.2.1, (q _ _ (h1 _ (by omega) (by omega))).trans h.2.2.1, (q _ _ (h1 _ (by omega) (by omega))).trans h.2.2.2⟩
theorem gKds_1 : ∀ vs : List gVl, gKds (fun k => k == 1) vs = ((gNms vs).length : Int) := by
  intro vs
  induction vs with
  | nil => rfl
  | cons v t ih =>
    unfold gKds gNms
    by_cases q : v.kd = 1
    · rw [if_pos (by rw [beq_iff_eq]; exact q), if_pos q, ih, List.length_cons]; omega
    · rw [if_neg (by rw [beq_iff_eq]; exact q), if_neg q, ih]; omega
/-- how far a sum over values has come -/
def gmTI (f : Int) (al rs : List gVl) (x2 x4 x6 x8 x10 x12 x14 : Int) : Prop :=
  (g64 x2 ∧ g64 x4 ∧ g64 x6) ∧ (x12 = 0 ∧ gErr1 al = gErr1 rs ∨ (1 ≤ x12 ∧ x12 ≤ 8) ∧ gErr1 al = some x12) ∧ gKds (fun k => k != 0) al = x10 + gKds (fun k => k != 0) rs ∧ ((gNms al).length : Int) = x8 + ((gNms rs).length : Int) ∧ gMin (gNms al) = (if x8 = 0 then gMin (gNms rs) else (gNms rs).foldl min x4) ∧ gMax (gNms al) = (if x8 = 0 then gMax (gNms rs) else (gNms rs).foldl max x6) ∧ (f = 1 → (x14 = 0 ∧ gPrd (gNms al) 1 = none ∨ x14 = 1 ∧ gPrd (gNms al) 1 = gPrd (gNms rs) x2)) ∧ (f = 0 ∨ f = 4 → (x14 = 0 ∧ gSum (gNms al) 0 = none ∨ x14 = 1 ∧ gSum (gNms al) 0 = gSum (gNms rs) x2)) ∧ (x14 = 0 ∨ x14 = 1) ∧ (x8 = 0 → x4 = 0 ∧ x6 = 0)
def gtA (l : Launch) (G : gG) (d : Nat) (X : gX) (k : gM → Prop) (o : Nat) (f x2 x4 x6 x8 x10 x12 x14 r : Int) (M : gM) : Prop := wp l G y_GM_total (gRm (d + 1 + 1)) true (kkV X k) true 35 [.val (gR G o), .val (gI f), .val (gL x2), .unset, .val (gL x4), .unset, .val (gL x6), .unset, .val (gL x8), .unset, .val (gL x10), .unset, .val (gL x12), .unset, .val (gI x14), .val (gI r), .unset, .unset, .unset, .unset] [] X M 0 0
def gtB (l : Launch) (G : gG) (d : Nat) (X : gX) (k : gM → Prop) (o : Nat) (f x2 x4 x6 x8 x10 x12 x14 r q : Int) (M : gM) : Prop := wp l G y_GM_total (gRm (d + 1 + 1)) true (kkV X k) true 50 [.val (gR G o), .val (gI f), .val (gL x2), .unset, .val (gL x4), .unset, .val (gL x6), .unset, .val (gL x8), .unset, .val (gL x10), .unset, .val (gL x12), .unset, .val (gI x14), .val (gI r), .val (gI q), .unset, .unset, .unset] [] X M 0 0
section gcC
variable {l : Launch} {G : gG} {d : Nat} {X : gX} {M : gM} {o t : Nat} {E : Int → gVl} {k : gM → Prop} {b : gBx}
/-- one place of the range -/
theorem gt_cell {f x2 x4 x6 x8 x10 x12 x14 r q : Int} {rs : List gVl} {al : List gVl} (hX : gmX X o) (hf : 0 ≤ f ∧ f < 7) (hE : gmEnv M o E) (hB : gmBb M o b) (hq : 0 ≤ q ∧ q ≤ b.d ∧ b.d < 26 ∧ 0 ≤ r ∧ r < 200) (h8 : 0 ≤ x8 ∧ x8 ≤ 26 * r + q) (h10 : 0 ≤ x10 ∧ x10 ≤ 26 * r + q) (hI : gmTI f al (E (q + 26 * r) :: rs) x2 x4 x6 x8 x10 x12 x14)
    (h : ∀ (x2' x4' x6' x8' x10' x12' x14' : Int) (M2 : gM), gOff (fun a k => a = o ∧ k = 54) M M2 → gmTI f al rs x2' x4' x6' x8' x10' x12' x14' → (0 ≤ x8' ∧ x8' ≤ 26 * r + (q + 1)) → (0 ≤ x10' ∧ x10' ≤ 26 * r + (q + 1)) → gtB l G d X k o f x2' x4' x6' x8' x10' x12' x14' r (q + 1) M2) : gtB l G d X k o f x2 x4 x6 x8 x10 x12 x14 r q M := by
  obtain ⟨p, hp⟩ : ∃ p : Nat, q + 26 * r = (p : Int) := ⟨(q + 26 * r).toNat, by omega⟩
  have hp2 : p < 5200 := by omega
  obtain ⟨e1, e2, e3, e4, e5⟩ := hE p hp2
  rw [hp] at hI
  generalize E (p : Int) = v at hI e1 e2 e4
  obtain ⟨⟨g2, g4, g6⟩, i12, i10, i8, i4, i6, i1, i0, i14, iz⟩ := hI
  have gf : g32 f := ⟨by omega, by omega⟩
  have gr : g32 r := ⟨by omega, by omega⟩
  have gq : g32 q := ⟨by omega, by omega⟩
  have gp : g32 (p : Int) := ⟨by omega, by omega⟩
  have b0 : (0 : Int) ≤ (p : Int) ∧ (p : Int) < 5200 := ⟨by omega, by omega⟩
  have g8 : g64 x8 := ⟨by omega, by omega⟩
  have g10 : g64 x10 := ⟨by omega, by omega⟩
  have g12 : g64 x12 := ⟨by omega, by omega⟩
  have g14 : g32 x14 := ⟨by omega, by omega⟩
  -- behind the count of full places
  have third : ∀ (x12' x10' : Int), g64 x12' → (0 ≤ x10' ∧ x10' ≤ 26 * r + (q + 1)) → (x12' = 0 ∧ gErr1 al = gErr1 rs ∨ (1 ≤ x12' ∧ x12' ≤ 8) ∧ gErr1 al = some x12') → gKds (fun k => k != 0) al = x10' + gKds (fun k => k != 0) rs → wp l G y_GM_total (gRm (d + 1 + 1)) true (kkV X k) true 112 [.val (gR G o), .val (gI f), .val (gL x2), .unset, .val (gL x4), .unset, .val (gL x6), .unset, .val (gL x8), .unset, .val (gL x10'), .unset, .val (gL x12'), .unset, .val (gI x14), .val (gI r), .val (gI q), .val (gI (p : Int)), .unset, .unset] [] X M 0 0 := by
    intro x12' x10' g12' b10 j12 j10
    have g10' : g64 x10' := ⟨by omega, by omega⟩
    refine w_GM_total_112 (d := d + 1) hX gf g2 g4 g6 g8 g10' g12' g14 gr gq gp ⟨b0, ?_⟩
    rw [Int.toNat_natCast, e2, e4, w32_id (x := q + 1) ⟨by omega, by omega⟩]
    refine fun _ => ⟨fun k1 => ⟨b0, fun gv => ?_⟩, fun k1 => ?_⟩
    · rw [if_neg (show ¬ v.kd = 2 by omega)] at gv ⊢
      have en : gNms (v :: rs) = v.nm :: gNms rs := by
        show (if v.kd = 1 then v.nm :: gNms rs else gNms rs) = _
        rw [if_pos k1]
      rw [en] at i8 i4 i6 i1 i0
      rw [List.length_cons] at i8
      have g8' : g64 (x8 + 1) := ⟨by omega, by omega⟩
      -- the sum
      have last : ∀ (x4' x6' : Int), g64 x4' → g64 x6' → gMin (gNms al) = (gNms rs).foldl min x4' → gMax (gNms al) = (gNms rs).foldl max x6' → wp l G y_GM_total (gRm (d + 1 + 1)) true (kkV X k) true 173 [.val (gR G o), .val (gI f), .val (gL x2), .unset, .val (gL x4'), .unset, .val (gL x6'), .unset, .val (gL x8), .unset, .val (gL x10'), .unset, .val (gL x12'), .unset, .val (gI x14), .val (gI r), .val (gI q), .unset, .val (gL v.nm), .unset] [] X M 0 0 := by
        intro x4' x6' g4' g6' m4 m6
        have fin : ∀ (x2' x14' : Int) (M2 : gM), gOff (fun a k => a = o ∧ k = 54) M M2 → g64 x2' → (f = 1 → (x14' = 0 ∧ gPrd (gNms al) 1 = none ∨ x14' = 1 ∧ gPrd (gNms al) 1 = gPrd (gNms rs) x2')) → (f = 0 ∨ f = 4 → (x14' = 0 ∧ gSum (gNms al) 0 = none ∨ x14' = 1 ∧ gSum (gNms al) 0 = gSum (gNms rs) x2')) → (x14' = 0 ∨ x14' = 1) → gtB l G d X k o f x2' x4' x6' (x8 + 1) x10' x12' x14' r (q + 1) M2 := by
          intro x2' x14' M2 o2 g2' j1 j0 j14
          refine h _ _ _ _ _ _ _ M2 o2 ⟨⟨g2', g4', g6'⟩, j12, j10, by omega, ?_, ?_, j1, j0, j14, fun z => by omega⟩ ⟨by omega, by omega⟩ b10
          · rw [if_neg (by omega)]; exact m4
          · rw [if_neg (by omega)]; exact m6
        have s193 : (f = 1 ∨ f = 0 ∨ f = 4) → wp l G y_GM_total (gRm (d + 1 + 1)) true (kkV X k) true 193 [.val (gR G o), .val (gI f), .val (gL x2), .unset, .val (gL x4'), .unset, .val (gL x6'), .unset, .val (gL (x8 + 1)), .unset, .val (gL x10'), .unset, .val (gL x12'), .unset, .val (gI x14), .val (gI r), .val (gI q), .unset, .val (gL v.nm), .unset] [] X M 0 0 := by
          intro hf3
          refine w_GM_total_193 (d := d + 1) hX gf g2 g4' g6' g8' g10' g12' g14 gr gq gv ?_
          rw [w32_id (x := q + 1) ⟨by omega, by omega⟩]
          refine ⟨fun z => ⟨fun _ => fin x2 0 M (gOff.rf _ _) g2 (fun e => ?_) (fun e => ?_) (Or.inl rfl), fun y => absurd rfl y⟩, fun z => ⟨fun n1 => ?_, fun y1 => ?_⟩⟩
          · rcases i1 e with u | u
            · exact Or.inl ⟨rfl, u.2⟩
            · omega
          · rcases i0 e with u | u
            · exact Or.inl ⟨rfl, u.2⟩
            · omega
          · have f04 : f = 0 ∨ f = 4 := by omega
            have ii := (i0 f04).resolve_left (fun u => z u.1)
            rw [show gSum (v.nm :: gNms rs) x2 = @ite (Option Int) (g64 (x2 + v.nm)) (gDec64 _) (gSum (gNms rs) (x2 + v.nm)) none from rfl] at ii
            refine c_GM_reckon hX (g32_c (x := 43) rfl) g2 gv (fun u => ⟨fun y => absurd y (by decide), fun _ => ⟨fun y => absurd y (by decide), fun _ => ?_⟩⟩) (fun u => ⟨fun _ => ⟨fun _ => ?_, fun y => absurd rfl y⟩, fun y => absurd rfl y⟩)
            · rw [gUp_eq]
              have u : g64 (x2 + v.nm) := u
              rw [if_pos u] at ii
              exact fun _ => fin (x2 + v.nm) 1 _ ((gOff.rf _ M).up ⟨rfl, rfl⟩) u (fun e => absurd e n1) (fun _ => Or.inr ⟨rfl, ii.2⟩) (Or.inr rfl)
            · have u : ¬ g64 (x2 + v.nm) := u
              rw [if_neg u] at ii
              exact fin x2 0 _ ((gOff.rf _ M).up ⟨rfl, rfl⟩) g2 (fun e => absurd e n1) (fun _ => Or.inl ⟨rfl, ii.2⟩) (Or.inl rfl)
          · have ii := (i1 y1).resolve_left (fun u => z u.1)
            rw [show gPrd (v.nm :: gNms rs) x2 = @ite (Option Int) (g64 (x2 * v.nm)) (gDec64 _) (gPrd (gNms rs) (x2 * v.nm)) none from rfl] at ii
            refine c_GM_reckon hX (g32_c (x := 42) rfl) g2 gv (fun u => ⟨fun y => absurd y (by decide), fun _ => ⟨fun y => absurd y (by decide), fun _ => ?_⟩⟩) (fun u => ⟨fun _ => ⟨fun _ => ?_, fun y => absurd rfl y⟩, fun y => absurd rfl y⟩)
            · rw [gUp_eq]
              have u : g64 (x2 * v.nm) := u
              rw [if_pos u] at ii
              exact fun _ => fin (x2 * v.nm) 1 _ ((gOff.rf _ M).up ⟨rfl, rfl⟩) u (fun _ => Or.inr ⟨rfl, ii.2⟩) (fun e => by omega) (Or.inr rfl)
            · have u : ¬ g64 (x2 * v.nm) := u
              rw [if_neg u] at ii
              exact fin x2 0 _ ((gOff.rf _ M).up ⟨rfl, rfl⟩) g2 (fun _ => Or.inl ⟨rfl, ii.2⟩) (fun e => by omega) (Or.inl rfl)
        refine w_GM_total_173 (d := d + 1) hX gf g2 g4' g6' g8 g10' g12' g14 gr gq gv ?_
        rw [w64_id g8', w32_id (x := q + 1) ⟨by omega, by omega⟩]
        exact ⟨fun e => s193 (Or.inl e), fun n1 => ⟨fun e => s193 (Or.inr (Or.inl e)), fun n0 => ⟨fun n4 => fin x2 x14 M (gOff.rf _ _) g2 (fun e => absurd e n1) (fun e => by omega) i14, fun e => s193 (Or.inr (Or.inr e))⟩⟩⟩
      -- the most
      have mid : ∀ (x4' : Int), g64 x4' → gMin (gNms al) = (gNms rs).foldl min x4' → wp l G y_GM_total (gRm (d + 1 + 1)) true (kkV X k) true 154 [.val (gR G o), .val (gI f), .val (gL x2), .unset, .val (gL x4'), .unset, .val (gL x6), .unset, .val (gL x8), .unset, .val (gL x10'), .unset, .val (gL x12'), .unset, .val (gI x14), .val (gI r), .val (gI q), .unset, .val (gL v.nm), .unset] [] X M 0 0 := by
        intro x4' g4' m4
        refine w_GM_total_154 (d := d + 1) hX gf g2 g4' g6 g8 g10' g12' g14 gr gq gv ⟨fun z => ?_, fun z => ⟨fun y => ?_, fun y => ?_⟩⟩
        · rw [if_pos z] at i6
          exact w_GM_total_169 (d := d + 1) hX gf g2 g4' g8 g10' g12' g14 gr gq gv (last x4' v.nm g4' gv m4 i6)
        · rw [if_neg z] at i6
          rw [show List.foldl max x6 (v.nm :: gNms rs) = (gNms rs).foldl max (max x6 v.nm) from rfl, show max x6 v.nm = x6 by omega] at i6
          exact last x4' x6 g4' g6 m4 i6
        · rw [if_neg z] at i6
          rw [show List.foldl max x6 (v.nm :: gNms rs) = (gNms rs).foldl max (max x6 v.nm) from rfl, show max x6 v.nm = v.nm by omega] at i6
          exact w_GM_total_169 (d := d + 1) hX gf g2 g4' g8 g10' g12' g14 gr gq gv (last x4' v.nm g4' gv m4 i6)
      refine ⟨fun z => ?_, fun z => ⟨fun y => ?_, fun y => ?_⟩⟩
      · rw [if_pos z] at i4
        exact w_GM_total_150 (d := d + 1) hX gf g2 g6 g8 g10' g12' g14 gr gq gv (mid v.nm gv i4)
      · rw [if_neg z] at i4
        rw [show List.foldl min x4 (v.nm :: gNms rs) = (gNms rs).foldl min (min x4 v.nm) from rfl, show min x4 v.nm = x4 by omega] at i4
        exact mid x4 g4 i4
      · rw [if_neg z] at i4
        rw [show List.foldl min x4 (v.nm :: gNms rs) = (gNms rs).foldl min (min x4 v.nm) from rfl, show min x4 v.nm = v.nm by omega] at i4
        exact w_GM_total_150 (d := d + 1) hX gf g2 g6 g8 g10' g12' g14 gr gq gv (mid v.nm gv i4)
    · have en : gNms (v :: rs) = gNms rs := by
        show (if v.kd = 1 then v.nm :: gNms rs else gNms rs) = _
        rw [if_neg k1]
      rw [en] at i8 i4 i6 i1 i0
      exact h _ _ _ _ _ _ _ M (gOff.rf _ _) ⟨⟨g2, g4, g6⟩, j12, j10, i8, i4, i6, i1, i0, i14, iz⟩ ⟨by omega, by omega⟩ b10
  have second : ∀ (x12' : Int), (x12' = 0 ∧ gErr1 al = gErr1 rs ∨ (1 ≤ x12' ∧ x12' ≤ 8) ∧ gErr1 al = some x12') → wp l G y_GM_total (gRm (d + 1 + 1)) true (kkV X k) true 96 [.val (gR G o), .val (gI f), .val (gL x2), .unset, .val (gL x4), .unset, .val (gL x6), .unset, .val (gL x8), .unset, .val (gL x10), .unset, .val (gL x12'), .unset, .val (gI x14), .val (gI r), .val (gI q), .val (gI (p : Int)), .unset, .unset] [] X M 0 0 := by
    intro x12' j12
    have g12' : g64 x12' := ⟨by omega, by omega⟩
    have kk : gKds (fun k => k != 0) (v :: rs) = (if (v.kd != 0) = true then 1 else 0) + gKds (fun k => k != 0) rs := rfl
    rw [kk] at i10
    refine w_GM_total_96 (d := d + 1) hX gf g2 g4 g6 g8 g10 g12' g14 gr gq gp ⟨b0, ?_⟩
    rw [Int.toNat_natCast, e2, w64_id (x := x10 + 1) ⟨by omega, by omega⟩]
    refine fun _ => ⟨fun z => third x12' x10 g12' ⟨by omega, by omega⟩ j12 ?_, fun z => third x12' (x10 + 1) g12' ⟨by omega, by omega⟩ j12 ?_⟩
    · rw [i10, if_neg (by rw [z]; decide)]; omega
    · rw [i10, if_pos (by simpa using z)]; omega
  refine w_GM_total_50 (d := d + 1) hX gf g2 g4 g6 g8 g10 g12 g14 gr gq ?_
  rw [hB.2.1, hp, Int.toNat_natCast, e2, e4, w32_id gp]
  have ge : gErr1 (v :: rs) = if v.kd = 4 then some v.nm else gErr1 rs := rfl
  rw [ge] at i12
  refine fun _ => ⟨fun z => absurd z (by omega), fun _ => ⟨b0, fun _ => ⟨fun z => second x12 ?_, fun z => ⟨fun y => second x12 ?_, fun y => ⟨b0, fun _ => ?_⟩⟩⟩⟩⟩
  · rw [if_neg z] at i12; exact i12
  · rw [if_pos z] at i12
    rcases i12 with u | u
    · exact absurd u.1 y
    · exact Or.inr u
  · rw [if_neg (show ¬ v.kd = 2 by omega)]
    rw [if_pos z] at i12
    have be := e1.1.2.2.2.2.2.2.2.1 z
    refine second v.nm (Or.inr ⟨be, ?_⟩)
    rcases i12 with u | u
    · exact u.2
    · omega
theorem r_total {f : Int} {a b' c' : gVl} (hX : gmX X o) (hf : 0 ≤ f ∧ f < 7) (hE : gmEnv M o E) (hB : gmBb M o (gBox a.nm)) (hx : 0 ≤ a.nm ∧ a.nm < 27040000) (hn : t < 1200) (ht : M o 50 = (t : Int)) (h : gmPost M o t (gWk E (f.toNat + 14) a b' c') k) : cV l G y_GM_total (gRm (d + 1 + 1)) true [gR G o, gI f] X M k := by
  have ob := gBox_ok hx
  have hwk : ∀ V, (f = 0 → V = (match gErr1 ((gBox a.nm).cells.map E) with | some e => gE e | none => gOpt (gSum (gNms ((gBox a.nm).cells.map E)) 0))) → (f = 1 → V = (match gErr1 ((gBox a.nm).cells.map E) with | some e => gE e | none => gOpt (gPrd (gNms ((gBox a.nm).cells.map E)) 1))) → (f = 2 → V = (match gErr1 ((gBox a.nm).cells.map E) with | some e => gE e | none => gN (gMin (gNms ((gBox a.nm).cells.map E))))) → (f = 3 → V = (match gErr1 ((gBox a.nm).cells.map E) with | some e => gE e | none => gN (gMax (gNms ((gBox a.nm).cells.map E))))) → (f = 4 → V = (match gErr1 ((gBox a.nm).cells.map E) with | some e => gE e | none => (match gSum (gNms ((gBox a.nm).cells.map E)) 0 with | none => gE 6 | some x => if (gNms ((gBox a.nm).cells.map E)).length = 0 then gE 5 else gN (x.tdiv ((gNms ((gBox a.nm).cells.map E)).length : Int))))) → (f = 5 → V = gN (gKds (fun k => k == 1) ((gBox a.nm).cells.map E))) → (f = 6 → V = gN (gKds (fun k => k != 0) ((gBox a.nm).cells.map E))) → gmPost M o t V k := by
    intro V h0 h1 h2 h3 h4 h5 h6
    have hf2 : f = 0 ∨ f = 1 ∨ f = 2 ∨ f = 3 ∨ f = 4 ∨ f = 5 ∨ f = 6 := by omega
    rcases hf2 with e | e | e | e | e | e | e
    · rw [h0 e]; subst e; exact h
    · rw [h1 e]; subst e; exact h
    · rw [h2 e]; subst e; exact h
    · rw [h3 e]; subst e; exact h
    · rw [h4 e]; subst e; exact h
    · rw [h5 e]; subst e; exact h
    · rw [h6 e]; subst e; exact h
  clear h
  generalize gBox a.nm = b at hB ob hwk
  have bc := ob
  unfold gBxOk at bc
  have gf : g32 f := ⟨by omega, by omega⟩
  have key : ∀ (m : Nat) (r : Int) (x2 x4 x6 x8 x10 x12 x14 : Int) (M1 : gM), r + m = b.s + 1 → b.r ≤ r → gOff (fun a k => a = o ∧ k = 54) M M1 → (0 ≤ x8 ∧ x8 ≤ 26 * r) → (0 ≤ x10 ∧ x10 ≤ 26 * r) → gmTI f (b.cells.map E) ((gRow m (b.d - b.c + 1).toNat b.c r).map E) x2 x4 x6 x8 x10 x12 x14 → gtA l G d X k o f x2 x4 x6 x8 x10 x12 x14 r M1 := by
    intro m
    induction m with
    | zero =>
      intro r x2 x4 x6 x8 x10 x12 x14 M1 hr hr2 o1 h8 h10 hI
      obtain ⟨⟨g2, g4, g6⟩, i12, i10, i8, i4, i6, i1, i0, i14, iz⟩ := hI
      have hB1 := hB.keep o1 (fun k _ _ => by omega)
      have o1F : gOff (gmF o t) M M1 := o1.mono (fun p q z => by unfold gmF; omega)
      have t1 : M1 o 50 = (t : Int) := (o1 _ _ (by omega)).trans ht
      have n0 : ((gNms (List.map E (gRow 0 (b.d - b.c + 1).toNat b.c r))).length : Int) = 0 := rfl
      rw [n0] at i8
      have i10' : gKds (fun k => k != 0) (b.cells.map E) = x10 := by
        rw [i10]
        show x10 + 0 = x10
        omega
      have i4' : gMin (gNms (b.cells.map E)) = (if x8 = 0 then 0 else x4) := i4
      have i6' : gMax (gNms (b.cells.map E)) = (if x8 = 0 then 0 else x6) := i6
      have gE0 : gErr1 (List.map E (gRow 0 (b.d - b.c + 1).toNat b.c r)) = none := rfl
      rw [gE0] at i12
      have e5 := gKds_1 (b.cells.map E)
      refine w_GM_total_35 (d := d + 1) hX gf g2 g4 g6 ⟨by omega, by omega⟩ ⟨by omega, by omega⟩ ⟨by omega, by omega⟩ ⟨by omega, by omega⟩ ⟨by omega, by omega⟩ ?_
      rw [hB1.2.2.2]
      have psh : ∀ {s v : Int}, g32 s → g64 v → gmPost M o t ⟨s, v, []⟩ k → cV l G y_GM_push (gRm (d + 1)) true [gR G o, gI s, gL v] X M1 (fun M5 => (k M5)) := fun gs gv hh => r_push hX gs gv hn t1 (hh.pre o1F)
      have flt : ∀ {s : Int}, 1 ≤ s ∧ s ≤ 8 → gmPost M o t (gE s) k → cV l G y_GM_fault (gRm (d + 1)) true [gR G o, gI s] X M1 (fun M5 => (k M5)) := fun bs hh => r_fault hX bs hn t1 (hh.pre o1F)
      have g1 : g32 1 := g32_c (x := 1) rfl
      have noerr : x12 ≤ 0 → gErr1 (b.cells.map E) = none := fun z => by
        rcases i12 with u | u
        · exact u.2
        · omega
      have sumv : x12 ≤ 0 → ¬ x14 = 0 → (f = 0 ∨ f = 4) → gErr1 (b.cells.map E) = none ∧ gSum (gNms (b.cells.map E)) 0 = some x2 := fun z z2 e => ⟨noerr z, ((i0 e).resolve_left (fun u => z2 u.1)).2⟩
      refine fun _ => ⟨fun _ => ⟨fun n5 => ⟨fun n6 => ⟨fun z => ⟨fun n2 => ⟨fun n3 => ⟨fun z14 => ⟨fun n4 => ⟨fun _ => ?_, fun q => absurd q n4⟩, fun y4 => ⟨fun n8 => ⟨fun q => absurd y4 q, fun _ => ⟨n8, ?_⟩⟩, fun y8 => ?_⟩⟩, fun z14 => ?_⟩, fun y3 => ?_⟩, fun y2 => ?_⟩, fun z => ?_⟩, fun y6 => ?_⟩, fun y5 => ?_⟩, fun u => absurd (by omega) u⟩
      · refine psh g1 g2 (hwk _ (fun e => ?_) (fun e => ?_) (fun e => absurd e n2) (fun e => absurd e n3) (fun e => absurd e n4) (fun e => absurd e n5) (fun e => absurd e n6))
        · obtain ⟨u1, u2⟩ := sumv z z14 (Or.inl e)
          rw [u1, u2]; rfl
        · rw [noerr z]
          rcases i1 e with u | u
          · exact absurd u.1 z14
          · rw [u.2]; rfl
      · have gd : g64 (x2.tdiv x8) := g64_tdiv g2 (by omega)
        refine psh g1 gd (hwk _ (fun e => by omega) (fun e => by omega) (fun e => absurd e n2) (fun e => absurd e n3) (fun e => ?_) (fun e => absurd e n5) (fun e => absurd e n6))
        obtain ⟨u1, u2⟩ := sumv z z14 (Or.inr e)
        rw [u1, u2]
        dsimp only
        rw [if_neg (by omega), show ((gNms (b.cells.map E)).length : Int) = x8 by omega]
        rfl
      · refine flt (by decide) (hwk _ (fun e => by omega) (fun e => by omega) (fun e => absurd e n2) (fun e => absurd e n3) (fun e => ?_) (fun e => absurd e n5) (fun e => absurd e n6))
        obtain ⟨u1, u2⟩ := sumv z z14 (Or.inr e)
        rw [u1, u2]
        dsimp only
        rw [if_pos (by omega)]
      · refine flt (by decide) (hwk _ (fun e => ?_) (fun e => ?_) (fun e => absurd e n2) (fun e => absurd e n3) (fun e => ?_) (fun e => absurd e n5) (fun e => absurd e n6))
        · rw [noerr z]
          rcases i0 (Or.inl e) with u | u
          · rw [u.2]; rfl
          · omega
        · rw [noerr z]
          rcases i1 e with u | u
          · rw [u.2]; rfl
          · omega
        · rw [noerr z]
          rcases i0 (Or.inr e) with u | u
          · rw [u.2]
          · omega
      · refine psh g1 g6 (hwk _ (fun e => by omega) (fun e => by omega) (fun e => by omega) (fun e => ?_) (fun e => by omega) (fun e => by omega) (fun e => by omega))
        rw [noerr z, i6']
        by_cases z8 : x8 = 0
        · rw [if_pos z8, (iz z8).2]; rfl
        · rw [if_neg z8]; rfl
      · refine psh g1 g4 (hwk _ (fun e => by omega) (fun e => by omega) (fun e => ?_) (fun e => by omega) (fun e => by omega) (fun e => by omega) (fun e => by omega))
        rw [noerr z, i4']
        by_cases z8 : x8 = 0
        · rw [if_pos z8, (iz z8).1]; rfl
        · rw [if_neg z8]; rfl
      · have be : 1 ≤ x12 ∧ x12 ≤ 8 := by omega
        have ee : gErr1 (b.cells.map E) = some x12 := by
          rcases i12 with u | u
          · omega
          · exact u.2
        refine flt be (hwk _ (fun e => by rw [ee]) (fun e => by rw [ee]) (fun e => by rw [ee]) (fun e => by rw [ee]) (fun e => by rw [ee]) (fun e => absurd e n5) (fun e => absurd e n6))
      · refine psh g1 ⟨by omega, by omega⟩ (hwk _ (fun e => by omega) (fun e => by omega) (fun e => by omega) (fun e => by omega) (fun e => by omega) (fun e => by omega) (fun e => ?_))
        rw [i10']; rfl
      · refine psh g1 ⟨by omega, by omega⟩ (hwk _ (fun e => by omega) (fun e => by omega) (fun e => by omega) (fun e => by omega) (fun e => by omega) (fun e => ?_) (fun e => by omega))
        rw [e5, show ((gNms (b.cells.map E)).length : Int) = x8 by omega]; rfl
    | succ m ih =>
      intro r x2 x4 x6 x8 x10 x12 x14 M1 hr hr2 o1 h8 h10 hI
      have inn : ∀ (p : Nat) (q x2 x4 x6 x8 x10 x12 x14 : Int) (M1 : gM), q + p = b.d + 1 → b.c ≤ q → gOff (fun a k => a = o ∧ k = 54) M M1 → (0 ≤ x8 ∧ x8 ≤ 26 * r + q) → (0 ≤ x10 ∧ x10 ≤ 26 * r + q) → gmTI f (b.cells.map E) ((gCol p q r ++ gRow m (b.d - b.c + 1).toNat b.c (r + 1)).map E) x2 x4 x6 x8 x10 x12 x14 → gtB l G d X k o f x2 x4 x6 x8 x10 x12 x14 r q M1 := by
        intro p
        induction p with
        | zero =>
          intro q x2 x4 x6 x8 x10 x12 x14 M1 hq hq2 o1 h8 h10 hI
          have hI2 := hI
          obtain ⟨⟨g2, g4, g6⟩, i12, i10, i8, i4, i6, i1, i0, i14, iz⟩ := hI
          have hB1 := hB.keep o1 (fun k _ _ => by omega)
          refine w_GM_total_50 (d := d + 1) hX gf g2 g4 g6 ⟨by omega, by omega⟩ ⟨by omega, by omega⟩ ⟨by omega, by omega⟩ ⟨by omega, by omega⟩ ⟨by omega, by omega⟩ ⟨by omega, by omega⟩ ?_
          rw [hB1.2.1, w32_id (x := r + 1) ⟨by omega, by omega⟩]
          exact fun _ => ⟨fun _ => ih (r + 1) _ _ _ _ _ _ _ M1 (by omega) (by omega) o1 ⟨by omega, by omega⟩ ⟨by omega, by omega⟩ hI2, fun u => absurd (by omega) u⟩
        | succ p ihp =>
          intro q x2 x4 x6 x8 x10 x12 x14 M1 hq hq2 o1 h8 h10 hI
          rw [show (gCol (p + 1) q r ++ gRow m (b.d - b.c + 1).toNat b.c (r + 1)).map E = E (q + 26 * r) :: (gCol p (q + 1) r ++ gRow m (b.d - b.c + 1).toNat b.c (r + 1)).map E from rfl] at hI
          exact gt_cell (b := b) hX hf (hE.keep o1 (fun k => by omega)) (hB.keep o1 (fun k _ _ => by omega)) ⟨by omega, by omega, by omega, by omega, by omega⟩ h8 h10 hI (fun _ _ _ _ _ _ _ M2 o2 hI2 h8' h10' => ihp (q + 1) _ _ _ _ _ _ _ M2 (by omega) (by omega) (o1.tr o2) h8' h10' hI2)
      have hI2 := hI
      obtain ⟨⟨g2, g4, g6⟩, i12, i10, i8, i4, i6, i1, i0, i14, iz⟩ := hI
      have hB1 := hB.keep o1 (fun k _ _ => by omega)
      refine w_GM_total_35 (d := d + 1) hX gf g2 g4 g6 ⟨by omega, by omega⟩ ⟨by omega, by omega⟩ ⟨by omega, by omega⟩ ⟨by omega, by omega⟩ ⟨by omega, by omega⟩ ?_
      rw [hB1.2.2.2, hB1.1]
      exact fun _ => ⟨fun u => absurd u (by omega), fun _ _ => inn (b.d - b.c + 1).toNat b.c _ _ _ _ _ _ _ M1 (by omega) (by omega) o1 ⟨by omega, by omega⟩ ⟨by omega, by omega⟩ hI2⟩
  have start : ∀ x2 : Int, g64 x2 → (f = 1 → x2 = 1) → (f = 0 ∨ f = 4 → x2 = 0) → gmTI f (b.cells.map E) (b.cells.map E) x2 0 0 0 0 0 1 := fun x2 g2 e1 e0 =>
    ⟨⟨g2, g64_c (x := 0) rfl, g64_c (x := 0) rfl⟩, Or.inl ⟨rfl, rfl⟩, (Int.zero_add _).symm, (Int.zero_add _).symm, (if_pos rfl).symm, (if_pos rfl).symm, fun e => Or.inr ⟨rfl, by rw [e1 e]⟩, fun e => Or.inr ⟨rfl, by rw [e0 e]⟩, Or.inr rfl, fun _ => ⟨rfl, rfl⟩⟩
  refine e_GM_total (w_GM_total_0 (d := d + 1) hX gf ?_)
  rw [hB.2.2.1]
  exact ⟨fun n1 _ => key (b.s - b.r + 1).toNat b.r 0 0 0 0 0 0 1 M (by omega) (by omega) (gOff.rf _ _) ⟨by omega, by omega⟩ ⟨by omega, by omega⟩ (start 0 (g64_c (x := 0) rfl) (fun e => absurd e n1) (fun _ => rfl)), fun e _ => key (b.s - b.r + 1).toNat b.r 1 0 0 0 0 0 1 M (by omega) (by omega) (gOff.rf _ _) ⟨by omega, by omega⟩ ⟨by omega, by omega⟩ (start 1 (g64_c (x := 1) rfl) (fun _ => rfl) (fun q => by omega))⟩
end gcC
