/-! The class's Boxes: ranges looked through. -/
/-- what the places hold: entry at[p] of the Values at v -/
def gEnv (X : gX) (M : gM) (c v : Nat) (E : Int → gVl) : Prop := (X.2.2 (c + 1167) 2 = v ∧ gvX X v 401) ∧ (c + 236 < v ∧ v + 404 < c + 1057) ∧ ∀ p : Int, 0 ≤ p → p < 5200 → 0 ≤ M (c + 235) p.toNat ∧ M (c + 235) p.toNat < 401 ∧ gvAt M v (M (c + 235) p.toNat).toNat (E p) ∧ gvOk (E p) ∧ (E p).kd ≤ 4
theorem gEnv.keep {X : gX} {M M2 : gM} {c v s : Nat} {E : Int → gVl} (h : gEnv X M c v E) (hs : s < 104) (o : gOff (gMr c s) M M2) : gEnv X M2 c v E := by
  refine ⟨h.1, h.2.1, fun p h0 h1 => ?_⟩
  obtain ⟨q1, q2, q3, q4, q5⟩ := h.2.2 p h0 h1
  have hv := h.2.1
  have e : M2 (c + 235) p.toNat = M (c + 235) p.toNat := o _ _ (by unfold gMr gVs; omega)
  rw [e]
  refine ⟨q1, q2, q3.keep o ?_ ?_ (fun j _ => ?_), q4, q5⟩ <;> unfold gMr gVs <;> omega
/-- the range that is open -/
def gBxAt (M : gM) (c : Nat) (b : gBx) : Prop := M (c + 1167) 3 = b.c ∧ M (c + 1167) 4 = b.d ∧ M (c + 1167) 5 = b.r ∧ M (c + 1167) 6 = b.s
def gBxOk (b : gBx) : Prop := 0 ≤ b.c ∧ b.c ≤ b.d ∧ b.d < 26 ∧ 0 ≤ b.r ∧ b.r ≤ b.s ∧ b.s < 200
theorem gBox_ok {x : Int} (h : 0 ≤ x ∧ x < 27040000) : gBxOk (gBox x) := by
  unfold gBxOk gBox
  dsimp only [gBx.c, gBx.r, gBx.d, gBx.s]
  omega
theorem gOff.wide {c n : Nat} {M M2 : gM} (h : gOff (fun p _ => p = c + 1167) M M2) : gOff (gMr c n) M M2 := h.mono (fun _ _ q => Or.inr (Or.inr q))
section gbB
variable {l : Launch} {G : gG} {d : Nat} {X : gX} {M : gM} {c n v : Nat} {Q : gQ} {E : Int → gVl} {b : gBx}
theorem c_Bx_open {x : Int} {k : gM → Prop} (hX : glX X c) (hn : n < 104) (hx : 0 ≤ x ∧ x < 27040000) (hM : M (c + 1058 + 2) n = x) (h : ∀ M2, gOff (fun p _ => p = c + 1167) M M2 → gBxAt M2 c (gBox x) → k M2) : cV l G y_Bx_open (gRm (d + 1)) true [gR G (c + 1167), gI (n : Int)] X M k := by
  have hs : (0 : Int) ≤ (n : Int) ∧ (n : Int) < 104 := ⟨by omega, by omega⟩
  refine e_Bx_open (w_Bx_open_0 hX ⟨by omega, by omega⟩ ?_)
  simp only [gT0, hM]
  have e1 : x.tdiv 5200 = x / 5200 := Int.tdiv_eq_ediv_of_nonneg hx.1
  have e2 : x.tmod 5200 = x % 5200 := Int.tmod_eq_emod_of_nonneg hx.1
  have f1 : (x / 5200).tdiv 26 = x / 5200 / 26 := Int.tdiv_eq_ediv_of_nonneg (by omega)
  have f2 : (x / 5200).tmod 26 = x / 5200 % 26 := Int.tmod_eq_emod_of_nonneg (by omega)
  have f3 : (x % 5200).tdiv 26 = x % 5200 / 26 := Int.tdiv_eq_ediv_of_nonneg (by omega)
  have f4 : (x % 5200).tmod 26 = x % 5200 % 26 := Int.tmod_eq_emod_of_nonneg (by omega)
  rw [e1, e2, w32_id (x := x / 5200) ⟨by omega, by omega⟩, w32_id (x := x % 5200) ⟨by omega, by omega⟩, f1, f2, f3, f4]
  refine ⟨hs, fun _ => ⟨hs, fun _ => c_min ⟨by omega, by omega⟩ ⟨by omega, by omega⟩ (c_max ⟨by omega, by omega⟩ ⟨by omega, by omega⟩ (c_min ⟨by omega, by omega⟩ ⟨by omega, by omega⟩ (c_max ⟨by omega, by omega⟩ ⟨by omega, by omega⟩ (h _ ?_ ⟨?_, ?_, ?_, ?_⟩))))⟩⟩
  · exact gOff.up (gOff.up (gOff.up (gOff.up (gOff.rf (fun p _ => p = c + 1167) M) (by exact rfl)) (by exact rfl)) (by exact rfl)) (by exact rfl)
  · simp (disch := decide) only [gUp_eq, gUp_k]; rfl
  · simp (disch := decide) only [gUp_eq, gUp_k]; rfl
  · simp (disch := decide) only [gUp_eq, gUp_k]; rfl
  · simp (disch := decide) only [gUp_eq, gUp_k]; rfl
theorem c_Bx_firstError {k : Int → gM → Prop} (hX : glX X c) (hE : gEnv X M c v E) (hB : gBxAt M c b) (ob : gBxOk b) (h0 : gErr1 (b.cells.map E) = none → k (-1) M) (h1 : ∀ x e, gErr1 (b.cells.map E) = some e → 0 ≤ x ∧ x < 401 → M (v + 2) x.toNat = e → k x M) : cI l G y_Bx_firstError (gRm (d + 1)) false [gR G (c + 1167)] X M k := by
  unfold gBxOk at ob
  obtain ⟨b1, b2, b3, b4⟩ := hB
  have key : ∀ (m : Nat) (r : Int), r + m = b.s + 1 → b.r ≤ r → (gErr1 ((gRow m (b.d - b.c + 1).toNat b.c r).map E) = none → k (-1) M) → (∀ x e, gErr1 ((gRow m (b.d - b.c + 1).toNat b.c r).map E) = some e → 0 ≤ x ∧ x < 401 → M (v + 2) x.toNat = e → k x M) →
      wp l G y_Bx_firstError (gRm (d + 1)) false (kkI X k) false 5 [.val (gR G (c + 1167)), .val (gI r), .unset, .unset] [] X M 0 0 := by
    intro m
    induction m with
    | zero =>
      intro r hr hr2 f0 f1
      refine w_Bx_firstError_5 hX ⟨by omega, by omega⟩ ?_
      rw [b4]
      exact fun _ => ⟨fun _ => f0 rfl, fun u => absurd (by omega) u⟩
    | succ m ih =>
      intro r hr hr2 f0 f1
      have inn : ∀ (p : Nat) (q : Int), q + p = b.d + 1 → b.c ≤ q → (gErr1 ((gCol p q r ++ gRow m (b.d - b.c + 1).toNat b.c (r + 1)).map E) = none → k (-1) M) → (∀ x e, gErr1 ((gCol p q r ++ gRow m (b.d - b.c + 1).toNat b.c (r + 1)).map E) = some e → 0 ≤ x ∧ x < 401 → M (v + 2) x.toNat = e → k x M) →
          wp l G y_Bx_firstError (gRm (d + 1)) false (kkI X k) false 18 [.val (gR G (c + 1167)), .val (gI r), .val (gI q), .unset] [] X M 0 0 := by
        intro p
        induction p with
        | zero =>
          intro q hq hq2 g0 g1
          refine w_Bx_firstError_18 hX ⟨by omega, by omega⟩ ⟨by omega, by omega⟩ hE.1 ?_
          rw [b2, w32_id (x := r + 1) ⟨by omega, by omega⟩]
          exact fun _ => ⟨fun _ => ih (r + 1) (by omega) (by omega) g0 g1, fun u => absurd (by omega) u⟩
        | succ p ihp =>
          intro q hq hq2 g0 g1
          obtain ⟨q1, q2, q3, q4, q5⟩ := hE.2.2 (q + 26 * r) (by omega) (by omega)
          rw [show (gCol (p + 1) q r ++ gRow m (b.d - b.c + 1).toNat b.c (r + 1)).map E = E (q + 26 * r) :: (gCol p (q + 1) r ++ gRow m (b.d - b.c + 1).toNat b.c (r + 1)).map E from rfl] at g0 g1
          unfold gErr1 at g0 g1
          refine w_Bx_firstError_18 hX ⟨by omega, by omega⟩ ⟨by omega, by omega⟩ hE.1 ?_
          rw [b2]
          refine fun _ => ⟨fun u => absurd u (by omega), fun _ => c_GL_place ⟨by omega, by omega, by omega, by omega⟩ ⟨⟨by omega, by omega⟩, fun _ => ⟨⟨q1, q2⟩, ?_⟩⟩⟩
          rw [q3.1]
          refine fun _ => ⟨fun u => ?_, fun u => ?_⟩
          · rw [if_neg u] at g0 g1
            rw [w32_id (x := q + 1) ⟨by omega, by omega⟩]
            exact ihp (q + 1) (by omega) (by omega) g0 g1
          · rw [if_pos u] at g1
            exact g1 _ _ rfl ⟨q1, q2⟩ q3.2.1
      refine w_Bx_firstError_5 hX ⟨by omega, by omega⟩ ?_
      rw [b4, b1]
      exact fun _ => ⟨fun u => absurd u (by omega), fun _ _ => inn (b.d - b.c + 1).toNat b.c (by omega) (by omega) f0 f1⟩
  refine e_Bx_firstError (w_Bx_firstError_0 hX ?_)
  rw [b3]
  exact fun _ => key (b.s - b.r + 1).toNat b.r (by omega) (by omega) h0 h1
theorem c_Bx_ofKind {x : Int} {k : Int → gM → Prop} (hX : glX X c) (hx : g32 x) (hE : gEnv X M c v E) (hB : gBxAt M c b) (ob : gBxOk b) (h : k (gKds (fun y => y == x) (b.cells.map E)) M) : cI l G y_Bx_ofKind (gRm (d + 1)) false [gR G (c + 1167), gI x] X M k := by
  unfold gBxOk at ob
  obtain ⟨b1, b2, b3, b4⟩ := hB
  have key : ∀ (m : Nat) (r a : Int), r + m = b.s + 1 → b.r ≤ r → 0 ≤ a ∧ a ≤ 26 * r → k (a + gKds (fun y => y == x) ((gRow m (b.d - b.c + 1).toNat b.c r).map E)) M →
      wp l G y_Bx_ofKind (gRm (d + 1)) false (kkI X k) false 7 [.val (gR G (c + 1167)), .val (gI x), .val (gI a), .val (gI r), .unset] [] X M 0 0 := by
    intro m
    induction m with
    | zero =>
      intro r a hr hr2 ha f
      refine w_Bx_ofKind_7 hX hx ⟨by omega, by omega⟩ ⟨by omega, by omega⟩ ?_
      rw [b4]
      refine fun _ => ⟨fun _ => ?_, fun u => absurd (by omega) u⟩
      rw [show a + gKds (fun y => y == x) ((gRow 0 (b.d - b.c + 1).toNat b.c r).map E) = a from Int.add_zero a] at f
      exact f
    | succ m ih =>
      intro r a hr hr2 ha f
      have inn : ∀ (p : Nat) (q a : Int), q + p = b.d + 1 → b.c ≤ q → 0 ≤ a ∧ a ≤ 26 * r + q → k (a + gKds (fun y => y == x) ((gCol p q r ++ gRow m (b.d - b.c + 1).toNat b.c (r + 1)).map E)) M →
          wp l G y_Bx_ofKind (gRm (d + 1)) false (kkI X k) false 21 [.val (gR G (c + 1167)), .val (gI x), .val (gI a), .val (gI r), .val (gI q)] [] X M 0 0 := by
        intro p
        induction p with
        | zero =>
          intro q a hq hq2 ha g
          refine w_Bx_ofKind_21 hX hx ⟨by omega, by omega⟩ ⟨by omega, by omega⟩ ⟨by omega, by omega⟩ hE.1 ?_
          rw [b2, w32_id (x := r + 1) ⟨by omega, by omega⟩]
          exact fun _ => ⟨fun _ => ih (r + 1) a (by omega) (by omega) ⟨by omega, by omega⟩ g, fun u => absurd (by omega) u⟩
        | succ p ihp =>
          intro q a hq hq2 ha g
          obtain ⟨q1, q2, q3, q4, q5⟩ := hE.2.2 (q + 26 * r) (by omega) (by omega)
          rw [show (gCol (p + 1) q r ++ gRow m (b.d - b.c + 1).toNat b.c (r + 1)).map E = E (q + 26 * r) :: (gCol p (q + 1) r ++ gRow m (b.d - b.c + 1).toNat b.c (r + 1)).map E from rfl] at g
          unfold gKds at g
          refine w_Bx_ofKind_21 hX hx ⟨by omega, by omega⟩ ⟨by omega, by omega⟩ ⟨by omega, by omega⟩ hE.1 ?_
          rw [b2]
          refine fun _ => ⟨fun u => absurd u (by omega), fun _ => c_GL_place ⟨by omega, by omega, by omega, by omega⟩ ⟨⟨by omega, by omega⟩, fun _ => ⟨⟨q1, q2⟩, ?_⟩⟩⟩
          rw [q3.1, w32_id (x := q + 1) ⟨by omega, by omega⟩, w32_id (x := a + 1) ⟨by omega, by omega⟩]
          refine fun _ => ⟨fun u => ihp (q + 1) a (by omega) (by omega) ⟨by omega, by omega⟩ ?_, fun u => ihp (q + 1) (a + 1) (by omega) (by omega) ⟨by omega, by omega⟩ ?_⟩
          · rw [if_neg (by rw [beq_iff_eq]; exact u), Int.zero_add] at g
            exact g
          · rw [if_pos (by rw [beq_iff_eq]; exact u), ← Int.add_assoc] at g
            exact g
      refine w_Bx_ofKind_7 hX hx ⟨by omega, by omega⟩ ⟨by omega, by omega⟩ ?_
      rw [b4, b1]
      exact fun _ => ⟨fun u => absurd u (by omega), fun _ _ => inn (b.d - b.c + 1).toNat b.c a (by omega) (by omega) ⟨by omega, by omega⟩ f⟩
  refine e_Bx_ofKind (w_Bx_ofKind_0 hX hx ?_)
  rw [b3]
  refine fun _ => key (b.s - b.r + 1).toNat b.r 0 (by omega) (by omega) ⟨by omega, by omega⟩ ?_
  rw [Int.zero_add]
  exact h
theorem c_Bx_show {x y : Int} {k : gM → Prop} (hX : glX X c) (hn : n < 104) (hE : gEnv X M c v E) (hB : gBxAt M c b) (ob : gBxOk b) (hx : g64 x) (hy : g64 y) (h : gPost M c n (gShw E b x y) k) : cV l G y_Bx_show (gRm (d + 1 + 1)) true [gR G (c + 1167), gI (n : Int), gL x, gL y] X M k := by
  unfold gBxOk at ob
  obtain ⟨b1, b2, b3, b4⟩ := hB
  have hs : (0 : Int) ≤ (n : Int) ∧ (n : Int) < 104 := ⟨by omega, by omega⟩
  have hv := hE.2.1
  have no : ¬ (1 ≤ x ∧ x ≤ b.s - b.r + 1 ∧ 1 ≤ y ∧ y ≤ b.d - b.c + 1) → cV l G y_Vl_set (gRm (d + 1)) true [gR G (c + 1058), gI (n : Int), gI 4, gL 2] X M k := by
    intro q
    unfold gShw at h
    rw [if_neg q] at h
    exact c_putE hX hs (by decide) rfl h
  have yes : 1 ≤ x ∧ x ≤ b.s - b.r + 1 ∧ 1 ≤ y ∧ y ≤ b.d - b.c + 1 → cI l G y_GL_place (gRm (d + 1)) false [gI (b.c + y - 1), gI (b.r + x - 1)] X M (fun v5 M4 => (((0 : Int) ≤ v5 ∧ v5 < 5200) ∧ (g32 (M4 (c + 235) (Int.toNat v5)) → (cV l G y_Vl_setFrom (gRm (d + 1)) true [gR G (c + 1058), gI (n : Int), gR G v, gI (M4 (c + 235) (Int.toNat v5))] X M4 (fun M8 => (k M8)))))) := by
    intro q
    unfold gShw at h
    rw [if_pos q] at h
    obtain ⟨q1, q2, q3, q4, q5⟩ := hE.2.2 ((b.c + y - 1) + 26 * (b.r + x - 1)) (by omega) (by omega)
    exact c_GL_place ⟨by omega, by omega, by omega, by omega⟩ ⟨⟨by omega, by omega⟩, fun _ => c_Vl_setFrom (gl_stk hX) hs hE.1.2 ⟨q1, q2⟩ (Or.inr (by omega)) q3 q4 (fun M2 o w => h M2 (o.mono gMr_vs) w)⟩
  refine e_Bx_show (w_Bx_show_0 hX ⟨by omega, by omega⟩ hx hy hE.1 ?_)
  simp only [b1, b2, b3, b4]
  rw [w32_id (x := b.s - b.r + 1) ⟨by omega, by omega⟩, w32_id (x := b.d - b.c + 1) ⟨by omega, by omega⟩]
  (repeat' with_reducible first | (refine And.intro ?_ ?_) | intro _)
  all_goals first | omega | exact absurd trivial ‹¬ True› | exact no (by omega) | exact yes ⟨by omega, by omega, by omega, by omega⟩
theorem c_Bx_isSo {q r : Int} {w : gVl} {k : Int → gM → Prop} (hX : glX X c) (hn : n < 104) (hE : gEnv X M c v E) (hq : gIs q r) (hw : gvAt M (c + 1058) n w) (ow : gvOk w) (h1 : gIs1 w (E (q + 26 * r)) → k 1 M) (h0 : ¬ gIs1 w (E (q + 26 * r)) → k 0 M) : cZ l G y_Bx_isSo (gRm (d + 1 + 1)) false [gR G (c + 1167), gI q, gI r, gI (n : Int)] X M k := by
  have hq2 := hq
  unfold gIs at hq2
  obtain ⟨q1, q2, q3, q4, q5⟩ := hE.2.2 (q + 26 * r) (by omega) (by omega)
  refine e_Bx_isSo (w_Bx_isSo_0 hX ⟨by omega, by omega⟩ ⟨by omega, by omega⟩ ⟨by omega, by omega⟩ hE.1 (c_GL_place hq ⟨⟨by omega, by omega⟩, fun _ => ⟨⟨q1, q2⟩, ?_⟩⟩))
  rw [q3.1]
  refine fun _ => ⟨fun u => h0 (fun z => z.1 u), fun u => c_Vl_compare hE.1.2 ⟨q1, q2⟩ (gl_stk hX) (j := (n : Int)) ⟨by omega, by omega⟩ q3 q4 hw ow (fun z hz => ⟨fun e => h0 (fun y => ?_), fun e => h1 ⟨u, ?_⟩⟩)⟩
  · have := gSg_0 hz
    exact e (this.1.mpr y.2)
  · have := gSg_0 hz
    exact this.1.mp e
end gbB
