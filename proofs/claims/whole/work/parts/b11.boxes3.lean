/-! The class's Boxes: gathered, measured; the works of ranges. -/
section gbD
variable {l : Launch} {G : gG} {d : Nat} {X : gX} {M : gM} {c n v w : Nat} {Q : gQ} {E : Int → gVl} {b : gBx} {k : gM → Prop} {as : Nat → gVl}
theorem c_Bx_fits {x y : Int} {k : Int → gM → Prop} (hO : gOld G Q) (hw : 14 ≤ w ∧ w ≤ 18) (hx : g64 x) (hy : g64 y) (h1 : gAft w x y → k 1 M) (h0 : ¬ gAft w x y → k 0 M) : cZ l G y_Bx_fits (gRm (d + 1)) false [.ref (Q.1 w), gL x, gL y] X M k := by
  refine e_Bx_fits (w_Bx_fits_0 hO (by omega) hx hy ?_)
  have hw2 : w = 14 ∨ w = 15 ∨ w = 16 ∨ w = 17 ∨ w = 18 := by omega
  unfold gAft at h1 h0
  rcases hw2 with rfl | rfl | rfl | rfl | rfl
  · simp only [(show gSw 14 = 31 from rfl), Int.reduceEq, Int.reduceNeg, not_true_eq_false, not_false_eq_true, true_and, and_true, false_and, and_false, true_implies, false_implies, implies_true, and_self]
    exact c_Vl_plusFits hx hy h1 h0
  · simp only [(show gSw 15 = 33 from rfl), Int.reduceEq, Int.reduceNeg, not_true_eq_false, not_false_eq_true, true_and, and_true, false_and, and_false, true_implies, false_implies, implies_true, and_self]
    exact c_Vl_timesFits hx hy h1 h0
  · simp only [(show gSw 16 = 34 from rfl), Int.reduceEq, Int.reduceNeg, not_true_eq_false, not_false_eq_true, true_and, and_true, false_and, and_false, true_implies, false_implies, implies_true, and_self]
    exact h1 trivial
  · simp only [(show gSw 17 = 35 from rfl), Int.reduceEq, Int.reduceNeg, not_true_eq_false, not_false_eq_true, true_and, and_true, false_and, and_false, true_implies, false_implies, implies_true, and_self]
    exact h1 trivial
  · simp only [(show gSw 18 = 32 from rfl), Int.reduceEq, Int.reduceNeg, not_true_eq_false, not_false_eq_true, true_and, and_true, false_and, and_false, true_implies, false_implies, implies_true, and_self]
    exact c_Vl_plusFits hx hy h1 h0
theorem gAga_ok {x y : Int} (hw : 14 ≤ w ∧ w ≤ 18) (hx : g64 x) (hy : g64 y) (hf : gAft w x y) : g64 (gAga w x y) := by
  unfold gAft at hf
  unfold gAga
  split
  · rename_i e; rw [if_pos e] at hf; exact hf
  · rename_i e
    rw [if_neg e] at hf
    split
    · unfold g64 at *; omega
    · split
      · unfold g64 at *; omega
      · rw [if_pos (by omega)] at hf; exact hf
theorem c_Bx_gathered {x y : Int} {k : Int → gM → Prop} (hO : gOld G Q) (hw : 14 ≤ w ∧ w ≤ 18) (hx : g64 x) (hy : g64 y) (hf : gAft w x y) (h : k (gAga w x y) M) : cL l G y_Bx_gathered (gRm (d + 1)) false [.ref (Q.1 w), gL x, gL y] X M k := by
  refine e_Bx_gathered (w_Bx_gathered_0 hO (by omega) hx hy ?_)
  have ok := gAga_ok hw hx hy hf
  have hw2 : w = 14 ∨ w = 15 ∨ w = 16 ∨ w = 17 ∨ w = 18 := by omega
  rcases hw2 with rfl | rfl | rfl | rfl | rfl
  · simp only [(show gSw 14 = 31 from rfl), Int.reduceEq, Int.reduceNeg, not_true_eq_false, not_false_eq_true, true_and, and_true, false_and, and_false, true_implies, false_implies, implies_true, and_self]
    rw [show w64 (x + y) = x + y from w64_id ok]
    exact h
  · simp only [(show gSw 15 = 33 from rfl), Int.reduceEq, Int.reduceNeg, not_true_eq_false, not_false_eq_true, true_and, and_true, false_and, and_false, true_implies, false_implies, implies_true, and_self]
    rw [show w64 (x * y) = x * y from w64_id ok]
    exact h
  · simp only [(show gSw 16 = 34 from rfl), Int.reduceEq, Int.reduceNeg, not_true_eq_false, not_false_eq_true, true_and, and_true, false_and, and_false, true_implies, false_implies, implies_true, and_self]
    exact c_minL hx hy h
  · simp only [(show gSw 17 = 35 from rfl), Int.reduceEq, Int.reduceNeg, not_true_eq_false, not_false_eq_true, true_and, and_true, false_and, and_false, true_implies, false_implies, implies_true, and_self]
    exact c_maxL hx hy h
  · simp only [(show gSw 18 = 32 from rfl), Int.reduceEq, Int.reduceNeg, not_true_eq_false, not_false_eq_true, true_and, and_true, false_and, and_false, true_implies, false_implies, implies_true, and_self]
    rw [show w64 (x + y) = x + y from w64_id ok]
    exact h
theorem c_Bx_average {x t : Int} (hX : glX X c) (hn : n < 104) (hx : g64 x) (ht : 0 ≤ t ∧ t < 100000) (h : gPost M c n (if t = 0 then gE 5 else gN (x.tdiv t)) k) : cV l G y_Bx_average (gRm (d + 1)) true [gR G (c + 1167), gI (n : Int), gL x, gI t] X M k := by
  have hs : (0 : Int) ≤ (n : Int) ∧ (n : Int) < 104 := ⟨by omega, by omega⟩
  refine e_Bx_average (w_Bx_average_0 hX ⟨by omega, by omega⟩ hx ⟨by omega, by omega⟩ ⟨fun e => ⟨e, ?_⟩, fun e => ?_⟩)
  · rw [if_neg e] at h
    exact c_put hX hs (g32_c (x := 1) rfl) (g64_tdiv hx (by omega)) rfl h
  · rw [if_pos e] at h
    exact c_putE hX hs (by decide) rfl h
theorem c_Bx_gather (hX : glX X c) (hO : gOld G Q) (hw : 14 ≤ w ∧ w ≤ 18) (hn : n + 2 < 104) (hE : gEnv X M c v E) {x : Int} (hx : 0 ≤ x ∧ x < 27040000) (hM : M (c + 1058 + 2) n = x) (h : gPost M c n (gGth E w (gBox x)) k) : cV l G y_Bx_gather (gRm (d + 1 + 1 + 1)) true [gR G (c + 1167), .ref (Q.1 w), gI (n : Int)] X M k := by
  have hw5 : w < 52 := by omega
  have gn : g32 (n : Int) := ⟨by omega, by omega⟩
  have hs : (0 : Int) ≤ (n : Int) ∧ (n : Int) < 104 := ⟨by omega, by omega⟩
  refine e_Bx_gather (w_Bx_gather_0 hX hO hw5 gn hE.1 (c_Bx_open hX (by omega) hx hM (fun M1 o1 hB => ?_)))
  have hE1 := hE.keep (s := n) (by omega) o1.wide
  have h1 := h.pre o1.wide
  clear h hE o1
  have ob2 := gBox_ok hx
  generalize gBox x = b at hB ob2 h1
  refine c_Bx_firstError hX hE1 hB ob2 (fun e0 => ⟨fun _ => ?_, fun z => absurd (by decide) z⟩) (fun x e he hx hxe => ⟨fun z => absurd z (by omega), fun _ => ⟨hx, ?_⟩⟩)
  rotate_left
  · rw [hxe]
    unfold gGth at h1
    rw [he] at h1
    have oe : 0 ≤ e ∧ e ≤ 8 := by
      have : ∀ vs : List gVl, (∀ v ∈ vs, gvOk v) → gErr1 vs = some e → 0 ≤ e ∧ e ≤ 8 := by
        intro vs
        induction vs with
        | nil => intro _ q; cases q
        | cons a t ih =>
          intro ha q
          unfold gErr1 at q
          split at q
          · rename_i e4
            cases q
            have := (ha a List.mem_cons_self).2.2.2.2.2.2.2.1 e4
            omega
          · exact ih (fun v hv => ha v (List.mem_cons_of_mem _ hv)) q
      refine this _ (fun v hv => ?_) he
      obtain ⟨p, hp, rfl⟩ := List.mem_map.mp hv
      have hb : ∀ (m n : Nat) (c r : Int), 0 ≤ c → 0 ≤ r → c + n ≤ 26 → r + m ≤ 200 → ∀ p ∈ gRow m n c r, 0 ≤ p ∧ p < 5200 := by
        intro m
        induction m with
        | zero => intro n c r _ _ _ _ p hp; cases hp
        | succ m ih =>
          intro n c r h1 h2 h3 h4 p hp
          rcases List.mem_append.mp hp with q | q
          · have hc : ∀ (n : Nat) (c : Int), 0 ≤ c → c + n ≤ 26 → ∀ p ∈ gCol n c r, 0 ≤ p ∧ p < 5200 := by
              intro n
              induction n with
              | zero => intro c _ _ p hp; cases hp
              | succ n ih2 =>
                intro c h5 h6 p hp
                rcases List.mem_cons.mp hp with rfl | hp
                · omega
                · exact ih2 (c + 1) (by omega) (by omega) p hp
            exact hc n c h1 h3 p q
          · exact ih n c (r + 1) h1 (by omega) h3 (by omega) p q
      unfold gBxOk at ob2
      have := hb _ _ _ _ (by omega) (by omega) (by omega) (by omega) p hp
      exact (hE1.2.2 p this.1 this.2).2.2.2.1
    exact fun _ => c_putE hX hs oe rfl h1
  unfold gGth at h1
  rw [e0] at h1
  dsimp only at h1
  have ob := ob2
  unfold gBxOk at ob
  obtain ⟨b1, b2, b3, b4⟩ := hB
  have key : ∀ (m : Nat) (r a : Int) (t : Nat), r + m = b.s + 1 → b.r ≤ r → (t : Int) ≤ 26 * r → g64 a → gAcc w (gNms (b.cells.map E)) 0 (if w = 15 then 1 else 0) = gAcc w (gNms ((gRow m (b.d - b.c + 1).toNat b.c r).map E)) t a →
      wp l G y_Bx_gather (gRm (d + 1 + 1 + 1)) true (kkV X k) true 56 [.val (gR G (c + 1167)), .val (.ref (Q.1 w)), .val (gI (n : Int)), .unset, .val (gL a), .unset, .val (gI (t : Int)), .val (gI r), .unset, .unset, .unset, .unset] [] X M1 0 0 := by
    intro m
    induction m with
    | zero =>
      intro r a t hr hr2 ht ga f
      rw [f] at h1
      refine w_Bx_gather_56 hX hO gn ga ⟨by omega, by omega⟩ ⟨by omega, by omega⟩ hE1.1 hw5 ?_
      rw [b4]
      refine fun _ => ⟨fun _ => ⟨fun u => ?_, fun u => ?_⟩, fun u => absurd (by omega) u⟩
      · rw [show gEnd w (gAcc w (gNms (List.map E (gRow 0 (b.d - b.c + 1).toNat b.c r))) t a) = gN a from if_neg u] at h1
        exact c_put hX hs (g32_c (x := 1) rfl) ga rfl h1
      · rw [show gEnd w (gAcc w (gNms (List.map E (gRow 0 (b.d - b.c + 1).toNat b.c r))) t a) = (if t = 0 then gE 5 else gN (a.tdiv (t : Int))) from if_pos u] at h1
        refine c_Bx_average hX (by omega) ga ⟨by omega, by omega⟩ ?_
        by_cases z : t = 0
        · rw [if_pos z] at h1
          rw [if_pos (by omega)]
          exact h1
        · rw [if_neg z] at h1
          rw [if_neg (by omega)]
          exact h1
    | succ m ih =>
      intro r a t hr hr2 ht ga f
      have inn : ∀ (p : Nat) (q a : Int) (t : Nat), q + p = b.d + 1 → b.c ≤ q → (t : Int) ≤ 26 * r + q → g64 a → gAcc w (gNms (b.cells.map E)) 0 (if w = 15 then 1 else 0) = gAcc w (gNms ((gCol p q r ++ gRow m (b.d - b.c + 1).toNat b.c (r + 1)).map E)) t a →
          wp l G y_Bx_gather (gRm (d + 1 + 1 + 1)) true (kkV X k) true 71 [.val (gR G (c + 1167)), .val (.ref (Q.1 w)), .val (gI (n : Int)), .unset, .val (gL a), .unset, .val (gI (t : Int)), .val (gI r), .val (gI q), .unset, .unset, .unset] [] X M1 0 0 := by
        intro p
        induction p with
        | zero =>
          intro q a t hq hq2 ht ga g
          refine w_Bx_gather_71 hX hO gn ga ⟨by omega, by omega⟩ ⟨by omega, by omega⟩ ⟨by omega, by omega⟩ hE1.1 hw5 ?_
          rw [b2, w32_id (x := r + 1) ⟨by omega, by omega⟩]
          exact fun _ => ⟨fun _ => ih (r + 1) a t (by omega) (by omega) (by omega) ga g, fun u => absurd (by omega) u⟩
        | succ p ihp =>
          intro q a t hq hq2 ht ga g
          obtain ⟨q1, q2, q3, q4, q5⟩ := hE1.2.2 (q + 26 * r) (by omega) (by omega)
          rw [show (gCol (p + 1) q r ++ gRow m (b.d - b.c + 1).toNat b.c (r + 1)).map E = E (q + 26 * r) :: (gCol p (q + 1) r ++ gRow m (b.d - b.c + 1).toNat b.c (r + 1)).map E from rfl] at g
          rw [show gNms (E (q + 26 * r) :: (gCol p (q + 1) r ++ gRow m (b.d - b.c + 1).toNat b.c (r + 1)).map E) = if (E (q + 26 * r)).kd = 1 then (E (q + 26 * r)).nm :: gNms ((gCol p (q + 1) r ++ gRow m (b.d - b.c + 1).toNat b.c (r + 1)).map E) else gNms ((gCol p (q + 1) r ++ gRow m (b.d - b.c + 1).toNat b.c (r + 1)).map E) from rfl] at g
          refine w_Bx_gather_71 hX hO gn ga ⟨by omega, by omega⟩ ⟨by omega, by omega⟩ ⟨by omega, by omega⟩ hE1.1 hw5 ?_
          rw [b2]
          refine fun _ => ⟨fun u => absurd u (by omega), fun _ => c_GL_place ⟨by omega, by omega, by omega, by omega⟩ ⟨⟨by omega, by omega⟩, fun _ => ⟨⟨q1, q2⟩, ?_⟩⟩⟩
          rw [q3.1, q3.2.1, w32_id (x := q + 1) ⟨by omega, by omega⟩, w32_id (x := (t : Int) + 1) ⟨by omega, by omega⟩]
          refine fun _ => ⟨fun u => ⟨⟨q1, q2⟩, fun gy => ?_⟩, fun u => ?_⟩
          · rw [if_pos u] at g
            refine c_Bx_fits hO hw ga gy (fun hf => ⟨fun _ => ⟨fun u2 => ?_, fun u2 => ⟨fun u3 => ?_, fun u3 => ?_⟩⟩, fun z => absurd z (by decide)⟩) (fun hf => ⟨fun z => absurd rfl z, fun _ => ?_⟩)
            · refine c_Bx_gathered hO hw ga gy hf (ihp (q + 1) _ (t + 1) (by omega) (by omega) (by omega) (gAga_ok hw ga gy hf) ?_)
              rw [g]
              conv => lhs; unfold gAcc
              rw [if_pos hf, if_neg (by omega)]
            · refine c_Bx_gathered hO hw ga gy hf (ihp (q + 1) _ (t + 1) (by omega) (by omega) (by omega) (gAga_ok hw ga gy hf) ?_)
              rw [g]
              conv => lhs; unfold gAcc
              rw [if_pos hf, if_neg (by omega)]
            · refine ihp (q + 1) _ (t + 1) (by omega) (by omega) (by omega) gy ?_
              rw [g]
              conv => lhs; unfold gAcc
              rw [if_pos hf, if_pos (by omega)]
            · have e : gAcc w (gNms (b.cells.map E)) 0 (if w = 15 then 1 else 0) = none := by
                rw [g]
                unfold gAcc
                rw [if_neg hf]
              rw [e] at h1
              exact c_putE hX hs (by decide) rfl h1
          · rw [if_neg u] at g
            exact ihp (q + 1) a t (by omega) (by omega) (by omega) ga g
      refine w_Bx_gather_56 hX hO gn ga ⟨by omega, by omega⟩ ⟨by omega, by omega⟩ hE1.1 hw5 ?_
      rw [b4, b1]
      exact fun _ => ⟨fun u => absurd u (by omega), fun _ _ => inn (b.d - b.c + 1).toNat b.c a t (by omega) (by omega) (by omega) ga f⟩
  rw [b3]
  refine ⟨fun u _ => key (b.s - b.r + 1).toNat b.r 0 0 (by omega) (by omega) (by omega) ⟨by decide, by decide⟩ ?_, fun u _ => key (b.s - b.r + 1).toNat b.r 1 0 (by omega) (by omega) (by omega) ⟨by decide, by decide⟩ ?_⟩
  · rw [if_neg u]; rfl
  · rw [if_pos u]; rfl
/-- what the works of ranges that count answer -/
def gMs (E : Int → gVl) (w : Nat) (b : gBx) : Int := if w = 42 then b.r + 1 else if w = 43 then b.c + 1 else if w = 44 then b.s - b.r + 1 else if w = 45 then b.d - b.c + 1 else if w = 19 then gKds (fun k => k == 1) (b.cells.map E) else gKds (fun k => k != 0) (b.cells.map E)
theorem c_Bx_measured {k : Int → gM → Prop} (hX : glX X c) (hO : gOld G Q) (hw : w = 42 ∨ w = 43 ∨ w = 44 ∨ w = 45 ∨ w = 19 ∨ w = 20) (hE : gEnv X M c v E) (hB : gBxAt M c b) (ob : gBxOk b) (h : g32 (gMs E w b) → k (gMs E w b) M) : cI l G y_Bx_measured (gRm (d + 1 + 1)) false [gR G (c + 1167), .ref (Q.1 w)] X M k := by
  have ob2 := ob
  have hB2 := hB
  unfold gBxOk at ob
  obtain ⟨b1, b2, b3, b4⟩ := hB
  have len : ((b.cells.map E).length : Int) = (b.s - b.r + 1) * (b.d - b.c + 1) := by
    rw [List.length_map]
    unfold gBx.cells
    rw [gRow_len]
    push_cast
    rw [Int.toNat_of_nonneg (by omega), Int.toNat_of_nonneg (by omega)]
  have len2 : ((b.cells.map E).length : Int) ≤ 200 * 26 := by
    rw [len]
    exact Int.mul_le_mul (by omega) (by omega) (by omega) (by decide)
  refine e_Bx_measured (w_Bx_measured_0 hX hO (by omega) ?_)
  simp only [b1, b2, b3, b4]
  rw [w32_id (x := b.r + 1) ⟨by omega, by omega⟩, w32_id (x := b.c + 1) ⟨by omega, by omega⟩, w32_id (x := b.s - b.r + 1) ⟨by omega, by omega⟩, w32_id (x := b.d - b.c + 1) ⟨by omega, by omega⟩]
  have fin : g32 (gMs E w b) := by
    have k1 := gKds_bd (fun k => k == 1) (b.cells.map E)
    have k2 := gKds_bd (fun k => k != 0) (b.cells.map E)
    unfold gMs g32
    split
    · omega
    · split
      · omega
      · split
        · omega
        · split
          · omega
          · split <;> omega
  have h := h fin
  rcases hw with rfl | rfl | rfl | rfl | rfl | rfl
  · simp only [(show gSw 42 = 36 from rfl), Int.reduceEq, Int.reduceNeg, not_true_eq_false, not_false_eq_true, true_and, and_true, false_and, and_false, true_implies, false_implies, implies_true, and_self]
    exact fun _ => h
  · simp only [(show gSw 43 = 37 from rfl), Int.reduceEq, Int.reduceNeg, not_true_eq_false, not_false_eq_true, true_and, and_true, false_and, and_false, true_implies, false_implies, implies_true, and_self]
    exact fun _ => h
  · simp only [(show gSw 44 = 38 from rfl), Int.reduceEq, Int.reduceNeg, not_true_eq_false, not_false_eq_true, true_and, and_true, false_and, and_false, true_implies, false_implies, implies_true, and_self]
    exact fun _ _ => h
  · simp only [(show gSw 45 = 39 from rfl), Int.reduceEq, Int.reduceNeg, not_true_eq_false, not_false_eq_true, true_and, and_true, false_and, and_false, true_implies, false_implies, implies_true, and_self]
    exact fun _ _ => h
  · simp only [(show gSw 19 = 40 from rfl), Int.reduceEq, Int.reduceNeg, not_true_eq_false, not_false_eq_true, true_and, and_true, false_and, and_false, true_implies, false_implies, implies_true, and_self]
    exact c_Bx_ofKind hX (g32_c (x := 1) rfl) hE hB2 ob2 h
  · simp only [(show gSw 20 = 0 from rfl), Int.reduceEq, Int.reduceNeg, not_true_eq_false, not_false_eq_true, true_and, and_true, false_and, and_false, true_implies, false_implies, implies_true, and_self]
    refine fun _ _ _ _ => c_Bx_ofKind hX (g32_c (x := 0) rfl) hE hB2 ob2 ?_
    have e : (b.s - b.r + 1) * (b.d - b.c + 1) - gKds (fun y => y == 0) (b.cells.map E) = gMs E 20 b := by
      have := gKds_not (fun y => y == 0) (b.cells.map E)
      show _ = gKds (fun k => k != 0) (b.cells.map E)
      rw [← len]
      have e2 : (fun k : Int => !(k == 0)) = (fun k : Int => k != 0) := rfl
      rw [e2] at this
      omega
    rw [e, w32_id fin]
    exact h
theorem c_Bx_measure (hX : glX X c) (hO : gOld G Q) (hw : w = 42 ∨ w = 43 ∨ w = 44 ∨ w = 45 ∨ w = 19 ∨ w = 20) (hn : n + 2 < 104) (hE : gEnv X M c v E) {x : Int} (hx : 0 ≤ x ∧ x < 27040000) (hM : M (c + 1058 + 2) n = x) (h : gPost M c n (gN (gMs E w (gBox x))) k) : cV l G y_Bx_measure (gRm (d + 1 + 1 + 1)) true [gR G (c + 1167), .ref (Q.1 w), gI (n : Int)] X M k := by
  have hs : (0 : Int) ≤ (n : Int) ∧ (n : Int) < 104 := ⟨by omega, by omega⟩
  refine e_Bx_measure (w_Bx_measure_0 hX hO (by omega) ⟨by omega, by omega⟩ (c_Bx_open hX (by omega) hx hM (fun M1 o1 hB => ?_)))
  have hE1 := hE.keep (s := n) (by omega) o1.wide
  have h1 := h.pre o1.wide
  exact c_Bx_measured hX hO hw hE1 hB (gBox_ok hx) (fun g => c_put hX hs (g32_c (x := 1) rfl) ⟨by have := g.1; omega, by have := g.2; omega⟩ rfl h1)
theorem gSuit_r {w : gVl} {c : Int} (h : gSuit c w) (e : c = 114) : w.kd = 5 ∧ 0 ≤ w.nm ∧ w.nm < 27040000 := by
  subst e
  exact h
theorem c_Bx_search (hX : glX X c) (hO : gOld G Q) (hw : w = 47 ∨ w = 48 ∨ w = 49 ∨ w = 50 ∨ w = 51) (hn : n + 2 < 104) (hE : gEnv X M c v E) (hA : gArgs M c n w as) (h : gPost M c n (gWk E w (as 0) (as 1) (as 2)) k) : cV l G y_Bx_search (gRm (d + 1 + 1 + 1 + 1)) true [gR G (c + 1167), .ref (Q.1 w), gI (n : Int)] X M k := by
  have hs : (0 : Int) ≤ (n : Int) ∧ (n : Int) < 104 := ⟨by omega, by omega⟩
  refine e_Bx_search (w_Bx_search_0 hX hO (by omega) ⟨by omega, by omega⟩ ?_)
  have kp : ∀ {M1 : gM} {i : Nat} {w : gVl}, gOff (fun p _ => p = c + 1167) M M1 → i < 104 → gvAt M (c + 1058) i w → gvAt M1 (c + 1058) i w := fun o hi a => a.keep o (by omega) (by omega) (fun j _ => by omega)
  rcases hw with rfl | rfl | rfl | rfl | rfl
  · simp only [(show gSw 47 = 41 from rfl), Int.reduceEq, Int.reduceNeg, not_true_eq_false, not_false_eq_true, true_and, and_true, false_and, and_false, true_implies, false_implies, implies_true, and_self]
    obtain ⟨a1, a2, a3⟩ := hA 0 (by decide)
    obtain ⟨c1, c2, c3⟩ := hA 1 (by decide)
    obtain ⟨d1, d2, d3⟩ := hA 2 (by decide)
    have r := gSuit_r a3 (by decide)
    refine c_Bx_open hX (by omega) r.2 a1.2.1 (fun M1 o1 hB => ?_)
    have e1 := kp o1 (by omega) c1
    have e2 := kp o1 (by omega) d1
    simp only [gT1, gT2, e1.2.1, e2.2.1]
    exact ⟨⟨by omega, by omega⟩, fun _ => ⟨⟨by omega, by omega⟩, fun _ => c_Bx_show hX (by omega) (hE.keep (s := n) (by omega) o1.wide) hB (gBox_ok r.2) c2.2.2.1 d2.2.2.1 (h.pre o1.wide)⟩⟩
  · simp only [(show gSw 48 = 42 from rfl), Int.reduceEq, Int.reduceNeg, not_true_eq_false, not_false_eq_true, true_and, and_true, false_and, and_false, true_implies, false_implies, implies_true, and_self]
    obtain ⟨a1, a2, a3⟩ := hA 0 (by decide)
    obtain ⟨c1, c2, c3⟩ := hA 1 (by decide)
    have r := gSuit_r c3 (by decide)
    exact c_Bx_open (n := n + 1) hX (by omega) r.2 c1.2.1 (fun M1 o1 hB => c_Bx_match hX (by omega) (hE.keep (s := n) (by omega) o1.wide) hB (gBox_ok r.2) (kp o1 (by omega) a1) a2 (h.pre o1.wide))
  · simp only [(show gSw 49 = 43 from rfl), Int.reduceEq, Int.reduceNeg, not_true_eq_false, not_false_eq_true, true_and, and_true, false_and, and_false, true_implies, false_implies, implies_true, and_self]
    obtain ⟨a1, a2, a3⟩ := hA 0 (by decide)
    obtain ⟨c1, c2, c3⟩ := hA 1 (by decide)
    obtain ⟨d1, d2, d3⟩ := hA 2 (by decide)
    have r := gSuit_r c3 (by decide)
    exact c_Bx_open (n := n + 1) hX (by omega) r.2 c1.2.1 (fun M1 o1 hB => c_Bx_lookUp hX (by omega) (hE.keep (s := n) (by omega) o1.wide) hB (gBox_ok r.2) (kp o1 (by omega) a1) a2 (kp o1 (by omega) d1) d2 (h.pre o1.wide))
  · simp only [(show gSw 50 = 0 from rfl), Int.reduceEq, Int.reduceNeg, not_true_eq_false, not_false_eq_true, true_and, and_true, false_and, and_false, true_implies, false_implies, implies_true, and_self]
    obtain ⟨a1, a2, a3⟩ := hA 0 (by decide)
    obtain ⟨c1, c2, c3⟩ := hA 1 (by decide)
    have r := gSuit_r a3 (by decide)
    refine c_Bx_open hX (by omega) r.2 a1.2.1 (fun M1 o1 hB => c_Bx_addUp hX hO (Or.inl rfl) (by omega) (hE.keep (s := n) (by omega) o1.wide) hB (gBox_ok r.2) (kp o1 (by omega) c1) c2 ?_)
    rw [if_pos rfl]
    exact h.pre o1.wide
  · simp only [(show gSw 51 = 0 from rfl), Int.reduceEq, Int.reduceNeg, not_true_eq_false, not_false_eq_true, true_and, and_true, false_and, and_false, true_implies, false_implies, implies_true, and_self]
    obtain ⟨a1, a2, a3⟩ := hA 0 (by decide)
    obtain ⟨c1, c2, c3⟩ := hA 1 (by decide)
    have r := gSuit_r a3 (by decide)
    refine c_Bx_open hX (by omega) r.2 a1.2.1 (fun M1 o1 hB => c_Bx_addUp hX hO (Or.inr rfl) (by omega) (hE.keep (s := n) (by omega) o1.wide) hB (gBox_ok r.2) (kp o1 (by omega) c1) c2 ?_)
    rw [if_neg (by decide)]
    exact h.pre o1.wide
end gbD
