/-! The class's Boxes: sought, added up, gathered. -/
theorem gPost.pre {M M1 : gM} {c n : Nat} {V : gVl} {k : gM → Prop} (h : gPost M c n V k) (o : gOff (gMr c n) M M1) : gPost M1 c n V k := fun M2 o2 v => h M2 (o.tr o2) v
/-- numbers gathered: m so far, o their outcome -/
def gAft (w : Nat) (o x : Int) : Prop := if w = 15 then g64 (o * x) else if w = 14 ∨ w = 18 then g64 (o + x) else True
def gDAft (w : Nat) (o x : Int) : Decidable (gAft w o x) :=
  if h : w = 15 then (match gDec64 (o * x) with | .isTrue g => .isTrue (by unfold gAft; rw [if_pos h]; exact g) | .isFalse g => .isFalse (by unfold gAft; rw [if_pos h]; exact g))
  else if h2 : w = 14 ∨ w = 18 then (match gDec64 (o + x) with | .isTrue g => .isTrue (by unfold gAft; rw [if_neg h, if_pos h2]; exact g) | .isFalse g => .isFalse (by unfold gAft; rw [if_neg h, if_pos h2]; exact g))
  else .isTrue (by unfold gAft; rw [if_neg h, if_neg h2]; trivial)
def gAga (w : Nat) (o x : Int) : Int := if w = 15 then o * x else if w = 16 then min o x else if w = 17 then max o x else o + x
def gAcc (w : Nat) : List Int → Nat → Int → Option (Int × Nat)
  | [], m, o => some (o, m)
  | x :: t, m, o => @ite (Option (Int × Nat)) (gAft w o x) (gDAft w o x) (gAcc w t (m + 1) (if m = 0 ∧ w ≠ 15 then x else gAga w o x)) none
def gEnd (w : Nat) (r : Option (Int × Nat)) : gVl := match r with
  | none => gE 6
  | some (o, m) => if w = 18 then (if m = 0 then gE 5 else gN (o.tdiv (m : Int))) else gN o
def gGth (E : Int → gVl) (w : Nat) (b : gBx) : gVl := match gErr1 (b.cells.map E) with
  | some e => gE e
  | none => gEnd w (gAcc w (gNms (b.cells.map E)) 0 (if w = 15 then 1 else 0))
theorem gAcc_sum (w : Nat) (hw : w = 14 ∨ w = 18) : ∀ (t : List Int) (m : Nat) (o : Int), (m = 0 → o = 0) → gAcc w t m o = (gSum t o).map (fun x => (x, m + t.length)) := by
  intro t
  induction t with
  | nil => intro m o _; rfl
  | cons x t ih =>
    intro m o h
    have e1 : gAft w o x ↔ g64 (o + x) := by unfold gAft; rw [if_neg (by omega), if_pos hw]
    have e2 : (if m = 0 ∧ w ≠ 15 then x else gAga w o x) = o + x := by
      unfold gAga
      by_cases z : m = 0
      · rw [if_pos ⟨z, by omega⟩, h z, Int.zero_add]
      · rw [if_neg (fun q => z q.1), if_neg (by omega), if_neg (by omega), if_neg (by omega)]
    unfold gAcc gSum
    rw [e2, ih (m + 1) (o + x) (fun q => by omega)]
    by_cases c : g64 (o + x)
    · rw [if_pos (e1.mpr c), if_pos c, List.length_cons, show m + 1 + t.length = m + (t.length + 1) by omega]
    · rw [if_neg (fun q => c (e1.mp q)), if_neg c]
      rfl
theorem gAcc_prd : ∀ (t : List Int) (m : Nat) (o : Int), gAcc 15 t m o = (gPrd t o).map (fun x => (x, m + t.length)) := by
  intro t
  induction t with
  | nil => intro m o; rfl
  | cons x t ih =>
    intro m o
    unfold gAcc gPrd
    rw [if_neg (fun q : m = 0 ∧ (15 : Nat) ≠ 15 => q.2 rfl), ih (m + 1)]
    have e1 : gAft 15 o x ↔ g64 (o * x) := by unfold gAft; rw [if_pos rfl]
    have e2 : gAga 15 o x = o * x := if_pos rfl
    rw [e2]
    by_cases c : g64 (o * x)
    · rw [if_pos (e1.mpr c), if_pos c, List.length_cons, show m + 1 + t.length = m + (t.length + 1) by omega]
    · rw [if_neg (fun q => c (e1.mp q)), if_neg c]
      rfl
theorem gAcc_min : ∀ (t : List Int) (m : Nat) (o : Int), 1 ≤ m → gAcc 16 t m o = some (t.foldl min o, m + t.length) := by
  intro t
  induction t with
  | nil => intro m o _; rfl
  | cons x t ih =>
    intro m o h
    unfold gAcc
    rw [if_pos (show gAft 16 o x by unfold gAft; rw [if_neg (by decide), if_neg (by decide)]; trivial), if_neg (show ¬ (m = 0 ∧ (16 : Nat) ≠ 15) by omega), ih (m + 1) _ (by omega), List.length_cons, show m + 1 + t.length = m + (t.length + 1) by omega]
    rfl
theorem gAcc_max : ∀ (t : List Int) (m : Nat) (o : Int), 1 ≤ m → gAcc 17 t m o = some (t.foldl max o, m + t.length) := by
  intro t
  induction t with
  | nil => intro m o _; rfl
  | cons x t ih =>
    intro m o h
    unfold gAcc
    rw [if_pos (show gAft 17 o x by unfold gAft; rw [if_neg (by decide), if_neg (by decide)]; trivial), if_neg (show ¬ (m = 0 ∧ (17 : Nat) ≠ 15) by omega), ih (m + 1) _ (by omega), List.length_cons, show m + 1 + t.length = m + (t.length + 1) by omega]
    rfl
theorem gGth_eq (E : Int → gVl) (w : Nat) (a b c : gVl) (hw : 14 ≤ w ∧ w ≤ 18) : gGth E w (gBox a.nm) = gWk E w a b c := by
  have hw2 : w = 14 ∨ w = 15 ∨ w = 16 ∨ w = 17 ∨ w = 18 := by omega
  rcases hw2 with rfl | rfl | rfl | rfl | rfl
  · show (match gErr1 ((gBox a.nm).cells.map E) with | some e => gE e | none => gEnd 14 (gAcc 14 (gNms ((gBox a.nm).cells.map E)) 0 0)) = (match gErr1 ((gBox a.nm).cells.map E) with | some e => gE e | none => gOpt (gSum (gNms ((gBox a.nm).cells.map E)) 0))
    generalize (gBox a.nm).cells.map E = vs
    cases gErr1 vs with
    | some e => rfl
    | none =>
      show gEnd 14 (gAcc 14 (gNms vs) 0 0) = gOpt (gSum (gNms vs) 0)
      rw [gAcc_sum 14 (Or.inl rfl) _ _ _ (fun _ => rfl)]
      cases gSum (gNms vs) 0 <;> rfl
  · show (match gErr1 ((gBox a.nm).cells.map E) with | some e => gE e | none => gEnd 15 (gAcc 15 (gNms ((gBox a.nm).cells.map E)) 0 1)) = (match gErr1 ((gBox a.nm).cells.map E) with | some e => gE e | none => gOpt (gPrd (gNms ((gBox a.nm).cells.map E)) 1))
    generalize (gBox a.nm).cells.map E = vs
    cases gErr1 vs with
    | some e => rfl
    | none =>
      show gEnd 15 (gAcc 15 (gNms vs) 0 1) = gOpt (gPrd (gNms vs) 1)
      rw [gAcc_prd]
      cases gPrd (gNms vs) 1 <;> rfl
  · show (match gErr1 ((gBox a.nm).cells.map E) with | some e => gE e | none => gEnd 16 (gAcc 16 (gNms ((gBox a.nm).cells.map E)) 0 0)) = (match gErr1 ((gBox a.nm).cells.map E) with | some e => gE e | none => gN (gMin (gNms ((gBox a.nm).cells.map E))))
    generalize (gBox a.nm).cells.map E = vs
    cases gErr1 vs with
    | some e => rfl
    | none =>
      show gEnd 16 (gAcc 16 (gNms vs) 0 0) = gN (gMin (gNms vs))
      cases gNms vs with
      | nil => rfl
      | cons x t =>
        unfold gAcc gMin
        rw [if_pos (show gAft 16 0 x by unfold gAft; rw [if_neg (by decide), if_neg (by decide)]; trivial), if_pos ⟨rfl, by decide⟩, gAcc_min _ _ _ (by decide)]
        rfl
  · show (match gErr1 ((gBox a.nm).cells.map E) with | some e => gE e | none => gEnd 17 (gAcc 17 (gNms ((gBox a.nm).cells.map E)) 0 0)) = (match gErr1 ((gBox a.nm).cells.map E) with | some e => gE e | none => gN (gMax (gNms ((gBox a.nm).cells.map E))))
    generalize (gBox a.nm).cells.map E = vs
    cases gErr1 vs with
    | some e => rfl
    | none =>
      show gEnd 17 (gAcc 17 (gNms vs) 0 0) = gN (gMax (gNms vs))
      cases gNms vs with
      | nil => rfl
      | cons x t =>
        unfold gAcc gMax
        rw [if_pos (show gAft 17 0 x by unfold gAft; rw [if_neg (by decide), if_neg (by decide)]; trivial), if_pos ⟨rfl, by decide⟩, gAcc_max _ _ _ (by decide)]
        rfl
  · show (match gErr1 ((gBox a.nm).cells.map E) with | some e => gE e | none => gEnd 18 (gAcc 18 (gNms ((gBox a.nm).cells.map E)) 0 0)) = (match gErr1 ((gBox a.nm).cells.map E) with | some e => gE e | none => (match gSum (gNms ((gBox a.nm).cells.map E)) 0 with | none => gE 6 | some x => if (gNms ((gBox a.nm).cells.map E)).length = 0 then gE 5 else gN (x.tdiv ((gNms ((gBox a.nm).cells.map E)).length : Int))))
    generalize (gBox a.nm).cells.map E = vs
    cases gErr1 vs with
    | some e => rfl
    | none =>
      show gEnd 18 (gAcc 18 (gNms vs) 0 0) = (match gSum (gNms vs) 0 with | none => gE 6 | some x => if (gNms vs).length = 0 then gE 5 else gN (x.tdiv ((gNms vs).length : Int)))
      rw [gAcc_sum 18 (Or.inr rfl) _ _ _ (fun _ => rfl)]
      cases gSum (gNms vs) 0 with
      | none => rfl
      | some x =>
        show (if 0 + (gNms vs).length = 0 then gE 5 else gN (x.tdiv ((0 + (gNms vs).length : Nat) : Int))) = (if (gNms vs).length = 0 then gE 5 else gN (x.tdiv ((gNms vs).length : Int)))
        rw [Nat.zero_add]
theorem gCol_len : ∀ (n : Nat) (c r : Int), (gCol n c r).length = n := by
  intro n
  induction n with
  | zero => intro c r; rfl
  | succ n ih => intro c r; show (gCol n (c + 1) r).length + 1 = n + 1; rw [ih]
theorem gRow_len : ∀ (m n : Nat) (c r : Int), (gRow m n c r).length = m * n := by
  intro m
  induction m with
  | zero => intro n c r; show 0 = 0 * n; rw [Nat.zero_mul]
  | succ m ih => intro n c r; show (gCol n c r ++ gRow m n c (r + 1)).length = _; rw [List.length_append, gCol_len, ih, Nat.succ_mul, Nat.add_comm]
theorem gKds_not (p : Int → Bool) : ∀ vs : List gVl, gKds p vs + gKds (fun k => !p k) vs = (vs.length : Int) := by
  intro vs
  induction vs with
  | nil => rfl
  | cons v t ih =>
    unfold gKds
    rw [List.length_cons]
    cases p v.kd
    · simp only [Bool.not_false, if_true, Bool.false_eq_true, if_false]; omega
    · simp only [Bool.not_true, if_true, Bool.false_eq_true, if_false]; omega
theorem gKds_bd (p : Int → Bool) (vs : List gVl) : 0 ≤ gKds p vs ∧ gKds p vs ≤ (vs.length : Int) := by
  induction vs with
  | nil => exact ⟨Int.le_refl _, Int.le_refl _⟩
  | cons v t ih =>
    unfold gKds
    rw [List.length_cons]
    split <;> omega
section gbC
variable {l : Launch} {G : gG} {d : Nat} {X : gX} {M : gM} {c n v w : Nat} {Q : gQ} {E : Int → gVl} {b : gBx} {k : gM → Prop} {x : gVl}
theorem c_Bx_match (hX : glX X c) (hn : n < 104) (hE : gEnv X M c v E) (hB : gBxAt M c b) (ob : gBxOk b) (hx : gvAt M (c + 1058) n x) (ox : gvOk x) (h : gPost M c n (match gMat x (b.cells.map E) 1 with | some n => gN n | none => gE 7) k) : cV l G y_Bx_match (gRm (d + 1 + 1 + 1)) true [gR G (c + 1167), gI (n : Int)] X M k := by
  unfold gBxOk at ob
  obtain ⟨b1, b2, b3, b4⟩ := hB
  have gn : g32 (n : Int) := ⟨by omega, by omega⟩
  have hs : (0 : Int) ≤ (n : Int) ∧ (n : Int) < 104 := ⟨by omega, by omega⟩
  have key : ∀ (m : Nat) (r a : Int), r + m = b.s + 1 → b.r ≤ r → 0 ≤ a ∧ a ≤ 26 * r → gMat x (b.cells.map E) 1 = gMat x ((gRow m (b.d - b.c + 1).toNat b.c r).map E) (a + 1) →
      wp l G y_Bx_match (gRm (d + 1 + 1 + 1)) true (kkV X k) true 7 [.val (gR G (c + 1167)), .val (gI (n : Int)), .val (gI a), .val (gI r), .unset] [] X M 0 0 := by
    intro m
    induction m with
    | zero =>
      intro r a hr hr2 ha f
      refine w_Bx_match_7 hX gn ⟨by omega, by omega⟩ ⟨by omega, by omega⟩ ?_
      rw [b4]
      refine fun _ => ⟨fun _ => ?_, fun u => absurd (by omega) u⟩
      rw [f] at h
      exact c_putE hX hs (by decide) rfl h
    | succ m ih =>
      intro r a hr hr2 ha f
      have inn : ∀ (p : Nat) (q a : Int), q + p = b.d + 1 → b.c ≤ q → 0 ≤ a ∧ a ≤ 26 * r + q → gMat x (b.cells.map E) 1 = gMat x ((gCol p q r ++ gRow m (b.d - b.c + 1).toNat b.c (r + 1)).map E) (a + 1) →
          wp l G y_Bx_match (gRm (d + 1 + 1 + 1)) true (kkV X k) true 21 [.val (gR G (c + 1167)), .val (gI (n : Int)), .val (gI a), .val (gI r), .val (gI q)] [] X M 0 0 := by
        intro p
        induction p with
        | zero =>
          intro q a hq hq2 ha g
          refine w_Bx_match_21 hX gn ⟨by omega, by omega⟩ ⟨by omega, by omega⟩ ⟨by omega, by omega⟩ ?_
          rw [b2, w32_id (x := r + 1) ⟨by omega, by omega⟩]
          exact fun _ => ⟨fun _ => ih (r + 1) a (by omega) (by omega) ⟨by omega, by omega⟩ g, fun u => absurd (by omega) u⟩
        | succ p ihp =>
          intro q a hq hq2 ha g
          rw [show (gCol (p + 1) q r ++ gRow m (b.d - b.c + 1).toNat b.c (r + 1)).map E = E (q + 26 * r) :: (gCol p (q + 1) r ++ gRow m (b.d - b.c + 1).toNat b.c (r + 1)).map E from rfl] at g
          have g2 := g
          unfold gMat at g2
          refine w_Bx_match_21 hX gn ⟨by omega, by omega⟩ ⟨by omega, by omega⟩ ⟨by omega, by omega⟩ ?_
          rw [b2, w32_id (x := a + 1) ⟨by omega, by omega⟩, w32_id (x := q + 1) ⟨by omega, by omega⟩]
          refine fun _ => ⟨fun u => absurd u (by omega), fun _ => c_Bx_isSo hX hn hE ⟨by omega, by omega, by omega, by omega⟩ hx ox (fun u => ⟨fun z => absurd z (by decide), fun _ => ?_⟩) (fun u => ⟨fun _ => ?_, fun z => absurd rfl z⟩)⟩
          · have e : gMat x (b.cells.map E) 1 = some (a + 1) := by rw [g]; unfold gMat; rw [if_pos u]
            rw [e] at h
            exact c_put hX hs (g32_c (x := 1) rfl) ⟨by omega, by omega⟩ rfl h
          · refine ihp (q + 1) (a + 1) (by omega) (by omega) ⟨by omega, by omega⟩ ?_
            rw [g]
            conv => lhs; unfold gMat
            rw [if_neg u]
      refine w_Bx_match_7 hX gn ⟨by omega, by omega⟩ ⟨by omega, by omega⟩ ?_
      rw [b4, b1]
      exact fun _ => ⟨fun u => absurd u (by omega), fun _ _ => inn (b.d - b.c + 1).toNat b.c a (by omega) (by omega) ⟨by omega, by omega⟩ f⟩
  refine e_Bx_match (w_Bx_match_0 hX gn ?_)
  rw [b3]
  exact fun _ => key (b.s - b.r + 1).toNat b.r 0 (by omega) (by omega) ⟨by omega, by omega⟩ rfl
theorem c_Bx_lookUp {y : gVl} (hX : glX X c) (hn : n + 2 < 104) (hE : gEnv X M c v E) (hB : gBxAt M c b) (ob : gBxOk b) (hx : gvAt M (c + 1058) n x) (ox : gvOk x) (hy : gvAt M (c + 1058) (n + 2) y) (oy : gvOk y) (h : gPost M c n (match gLkp E x b.c (b.s - b.r + 1).toNat b.r with | some r => gShw E b (r - b.r + 1) y.nm | none => gE 7) k) : cV l G y_Bx_lookUp (gRm (d + 1 + 1 + 1)) true [gR G (c + 1167), gI (n : Int)] X M k := by
  have ob2 := ob
  have hB2 := hB
  unfold gBxOk at ob
  obtain ⟨b1, b2, b3, b4⟩ := hB
  have gn : g32 (n : Int) := ⟨by omega, by omega⟩
  have hs : (0 : Int) ≤ (n : Int) ∧ (n : Int) < 104 := ⟨by omega, by omega⟩
  have key : ∀ (m : Nat) (r : Int), r + m = b.s + 1 → b.r ≤ r → gLkp E x b.c (b.s - b.r + 1).toNat b.r = gLkp E x b.c m r →
      wp l G y_Bx_lookUp (gRm (d + 1 + 1 + 1)) true (kkV X k) true 5 [.val (gR G (c + 1167)), .val (gI (n : Int)), .val (gI r)] [] X M 0 0 := by
    intro m
    induction m with
    | zero =>
      intro r hr hr2 f
      refine w_Bx_lookUp_5 hX gn ⟨by omega, by omega⟩ ?_
      rw [b4]
      refine fun _ => ⟨fun _ => ?_, fun u => absurd (by omega) u⟩
      rw [f] at h
      exact c_putE hX hs (by decide) rfl h
    | succ m ih =>
      intro r hr hr2 f
      refine w_Bx_lookUp_5 hX gn ⟨by omega, by omega⟩ ?_
      rw [b4, b1]
      refine fun _ => ⟨fun u => absurd u (by omega), fun _ _ => c_Bx_isSo hX (by omega) hE ⟨by omega, by omega, by omega, by omega⟩ hx ox (fun u => ⟨fun z => absurd z (by decide), fun _ => ?_⟩) (fun u => ⟨fun _ => ?_, fun z => absurd rfl z⟩)⟩
      · rw [b3, gT2, hy.2.1, w32_id (x := r - b.r + 1) ⟨by omega, by omega⟩]
        have e : gLkp E x b.c (b.s - b.r + 1).toNat b.r = some r := by rw [f]; unfold gLkp; rw [if_pos u]
        rw [e] at h
        exact fun _ => ⟨⟨by omega, by omega⟩, fun _ => c_Bx_show hX (by omega) hE hB2 ob2 ⟨by omega, by omega⟩ oy.2.2.1 h⟩
      · rw [w32_id (x := r + 1) ⟨by omega, by omega⟩]
        refine ih (r + 1) (by omega) (by omega) ?_
        rw [f]
        conv => lhs; unfold gLkp
        rw [if_neg u]
  refine e_Bx_lookUp (w_Bx_lookUp_0 hX gn ?_)
  rw [b3]
  exact fun _ => key (b.s - b.r + 1).toNat b.r (by omega) (by omega) rfl
theorem c_Bx_addUp (hX : glX X c) (hO : gOld G Q) (hw : w = 50 ∨ w = 51) (hn : n + 2 < 104) (hE : gEnv X M c v E) (hB : gBxAt M c b) (ob : gBxOk b) (hx : gvAt M (c + 1058) (n + 1) x) (ox : gvOk x) (h : gPost M c n (if w = 50 then gOpt (gSif x (b.cells.map E) 0) else gN (gCif x (b.cells.map E))) k) : cV l G y_Bx_addUp (gRm (d + 1 + 1 + 1)) true [gR G (c + 1167), .ref (Q.1 w), gI (n : Int)] X M k := by
  unfold gBxOk at ob
  obtain ⟨b1, b2, b3, b4⟩ := hB
  have hw5 : w < 52 := by omega
  have gn : g32 (n : Int) := ⟨by omega, by omega⟩
  have hs : (0 : Int) ≤ (n : Int) ∧ (n : Int) < 104 := ⟨by omega, by omega⟩
  have key : ∀ (m : Nat) (r a t : Int), r + m = b.s + 1 → b.r ≤ r → 0 ≤ t ∧ t ≤ 26 * r → g64 a → (w = 51 → a = 0) → (w = 50 → gSif x (b.cells.map E) 0 = gSif x ((gRow m (b.d - b.c + 1).toNat b.c r).map E) a) → (w = 51 → gCif x (b.cells.map E) = t + gCif x ((gRow m (b.d - b.c + 1).toNat b.c r).map E)) →
      wp l G y_Bx_addUp (gRm (d + 1 + 1 + 1)) true (kkV X k) true 11 [.val (gR G (c + 1167)), .val (.ref (Q.1 w)), .val (gI (n : Int)), .val (gL a), .unset, .val (gI t), .val (gI r), .unset, .unset, .unset, .unset] [] X M 0 0 := by
    intro m
    induction m with
    | zero =>
      intro r a t hr hr2 ht ga h51 f1 f2
      refine w_Bx_addUp_11 hX hO gn ga ⟨by omega, by omega⟩ ⟨by omega, by omega⟩ hw5 ?_
      rw [b4]
      refine fun _ => ⟨fun _ => ⟨fun u => ?_, fun u => ?_⟩, fun u => absurd (by omega) u⟩
      · rw [if_neg u, f2 (by omega)] at h
        refine c_put hX hs (g32_c (x := 1) rfl) ⟨by omega, by omega⟩ ?_ h
        show gN (t + 0) = _
        rw [Int.add_zero]
        rfl
      · rw [if_pos u, f1 u] at h
        exact c_put hX hs (g32_c (x := 1) rfl) ga rfl h
    | succ m ih =>
      intro r a t hr hr2 ht ga h51 f1 f2
      have inn : ∀ (p : Nat) (q a t : Int), q + p = b.d + 1 → b.c ≤ q → 0 ≤ t ∧ t ≤ 26 * r + q → g64 a → (w = 51 → a = 0) → (w = 50 → gSif x (b.cells.map E) 0 = gSif x ((gCol p q r ++ gRow m (b.d - b.c + 1).toNat b.c (r + 1)).map E) a) → (w = 51 → gCif x (b.cells.map E) = t + gCif x ((gCol p q r ++ gRow m (b.d - b.c + 1).toNat b.c (r + 1)).map E)) →
          wp l G y_Bx_addUp (gRm (d + 1 + 1 + 1)) true (kkV X k) true 26 [.val (gR G (c + 1167)), .val (.ref (Q.1 w)), .val (gI (n : Int)), .val (gL a), .unset, .val (gI t), .val (gI r), .val (gI q), .unset, .unset, .unset] [] X M 0 0 := by
        intro p
        induction p with
        | zero =>
          intro q a t hq hq2 ht ga h51 g1 g2
          refine w_Bx_addUp_26 hX hO gn ga ⟨by omega, by omega⟩ ⟨by omega, by omega⟩ ⟨by omega, by omega⟩ hE.1 hw5 ?_
          rw [b2, w32_id (x := r + 1) ⟨by omega, by omega⟩]
          exact fun _ => ⟨fun _ => ih (r + 1) a t (by omega) (by omega) ⟨by omega, by omega⟩ ga h51 g1 g2, fun u => absurd (by omega) u⟩
        | succ p ihp =>
          intro q a t hq hq2 ht ga h51 g1 g2
          obtain ⟨q1, q2, q3, q4, q5⟩ := hE.2.2 (q + 26 * r) (by omega) (by omega)
          rw [show (gCol (p + 1) q r ++ gRow m (b.d - b.c + 1).toNat b.c (r + 1)).map E = E (q + 26 * r) :: (gCol p (q + 1) r ++ gRow m (b.d - b.c + 1).toNat b.c (r + 1)).map E from rfl] at g1 g2
          rw [show gSif x (E (q + 26 * r) :: (gCol p (q + 1) r ++ gRow m (b.d - b.c + 1).toNat b.c (r + 1)).map E) a = (@ite (Option Int) (gIs1 x (E (q + 26 * r))) (gDIs1 _ _) (@ite (Option Int) (g64 (a + (if (E (q + 26 * r)).kd = 1 then (E (q + 26 * r)).nm else 0))) (gDec64 _) (gSif x ((gCol p (q + 1) r ++ gRow m (b.d - b.c + 1).toNat b.c (r + 1)).map E) (a + (if (E (q + 26 * r)).kd = 1 then (E (q + 26 * r)).nm else 0))) none) (gSif x ((gCol p (q + 1) r ++ gRow m (b.d - b.c + 1).toNat b.c (r + 1)).map E) a)) from rfl] at g1
          rw [show gCif x (E (q + 26 * r) :: (gCol p (q + 1) r ++ gRow m (b.d - b.c + 1).toNat b.c (r + 1)).map E) = (@ite Int (gIs1 x (E (q + 26 * r))) (gDIs1 _ _) 1 0) + gCif x ((gCol p (q + 1) r ++ gRow m (b.d - b.c + 1).toNat b.c (r + 1)).map E) from rfl] at g2
          refine w_Bx_addUp_26 hX hO gn ga ⟨by omega, by omega⟩ ⟨by omega, by omega⟩ ⟨by omega, by omega⟩ hE.1 hw5 ?_
          rw [b2, w32_id (x := t + 1) ⟨by omega, by omega⟩, w32_id (x := q + 1) ⟨by omega, by omega⟩]
          refine fun _ => ⟨fun u => absurd u (by omega), fun _ => c_Bx_isSo (n := n + 1) hX (by omega) hE ⟨by omega, by omega, by omega, by omega⟩ hx ox (fun u => ⟨fun _ => c_GL_place ⟨by omega, by omega, by omega, by omega⟩ ⟨⟨by omega, by omega⟩, fun _ => ⟨⟨q1, q2⟩, ?_⟩⟩, fun z => absurd z (by decide)⟩) (fun u => ⟨fun z => absurd rfl z, fun _ => ?_⟩)⟩
          · rw [if_pos u] at g1 g2
            rw [q3.1, q3.2.1]
            have g0 : g64 (0 : Int) := ⟨by decide, by decide⟩
            have zero : (w = 50 → (if (E (q + 26 * r)).kd = 1 then (E (q + 26 * r)).nm else 0) = 0) → cZ l G y_Vl_plusFits (gRm (d + 1 + 1)) false [gL a, gL 0] X M (fun v18 M17 => ((¬ v18 = 0 → (wp l G y_Bx_addUp (gRm (d + 1 + 1 + 1)) true (kkV X k) true 26 [.val (gR G (c + 1167)), .val (.ref (Q.1 w)), .val (gI (n : Int)), .val (gL (w64 (a + 0))), .unset, .val (gI (t + 1)), .val (gI r), .val (gI (q + 1)), .unset, .unset, .unset] [] X M17 0 0)) ∧ (v18 = 0 → (cV l G y_Vl_set (gRm (d + 1 + 1)) true [gR G (c + 1058), gI (n : Int), gI 4, gL 6] X M17 (fun M20 => (k M20)))))) := by
              intro hz
              refine c_Vl_plusFits ga g0 (fun _ => ⟨fun _ => ?_, fun z => absurd z (by decide)⟩) (fun z => absurd (by rw [Int.add_zero]; exact ga) z)
              rw [Int.add_zero, w64_id ga]
              refine ihp (q + 1) a (t + 1) (by omega) (by omega) ⟨by omega, by omega⟩ ga h51 (fun e => ?_) (fun e => ?_)
              · rw [g1 e, hz e, Int.add_zero, if_pos ga]
              · rw [g2 e]; omega
            refine fun _ => ⟨fun e => zero (fun _ => if_neg e), fun e => ⟨fun e2 => zero (fun z => absurd z e2), fun e2 => ⟨⟨q1, q2⟩, fun _ => ?_⟩⟩⟩
            rw [if_pos e] at g1
            refine c_Vl_plusFits ga q4.2.2.1 (fun z => ⟨fun _ => ?_, fun y => absurd y (by decide)⟩) (fun z => ⟨fun y => absurd rfl y, fun _ => ?_⟩)
            · rw [w64_id z]
              refine ihp (q + 1) _ (t + 1) (by omega) (by omega) ⟨by omega, by omega⟩ z (fun y => by omega) (fun y => ?_) (fun y => by omega)
              rw [g1 y, if_pos z]
            · rw [if_pos e2, g1 e2, if_neg z] at h
              exact c_putE hX hs (by decide) rfl h
          · rw [if_neg u] at g1 g2
            refine ihp (q + 1) a t (by omega) (by omega) ⟨by omega, by omega⟩ ga h51 g1 (fun e => ?_)
            rw [g2 e]
            omega
      refine w_Bx_addUp_11 hX hO gn ga ⟨by omega, by omega⟩ ⟨by omega, by omega⟩ hw5 ?_
      rw [b4, b1]
      exact fun _ => ⟨fun u => absurd u (by omega), fun _ _ => inn (b.d - b.c + 1).toNat b.c a t (by omega) (by omega) ⟨by omega, by omega⟩ ga h51 f1 f2⟩
  refine e_Bx_addUp (w_Bx_addUp_0 hX hO hw5 gn ?_)
  rw [b3]
  exact fun _ => key (b.s - b.r + 1).toNat b.r 0 0 (by omega) (by omega) ⟨by omega, by omega⟩ ⟨by decide, by decide⟩ (fun _ => rfl) (fun _ => rfl) (fun _ => (Int.zero_add _).symm)
end gbC
