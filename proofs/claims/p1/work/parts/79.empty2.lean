/-! Calls on a fresh object: those that change the sheet. -/
/-- X' has X's cells, and their references but for the class's own -/
def gSm (c : Nat) (X X' : gX) : Prop := X'.1 = X.1 ∧ X'.2.1 = X.2.1 ∧ ∀ b j, c + 1167 < b → X'.2.2 b j = X.2.2 b j
theorem gSm.rf (c : Nat) (X : gX) : gSm c X X := ⟨rfl, rfl, fun _ _ _ => rfl⟩
theorem gSm.gu {c : Nat} {X X' : gX} (h : gSm c X X') {a : Nat} (k r : Nat) (ha : a ≤ c + 1167) : gSm c X (gGu X' a k r) := ⟨h.1, h.2.1, fun b j hb => (gGu_o X' r (fun e => by omega)).trans (h.2.2 b j hb)⟩
theorem gSm.tr {c : Nat} {X Y Z : gX} (h : gSm c X Y) (k : gSm c Y Z) : gSm c X Z := ⟨k.1.trans h.1, k.2.1.trans h.2.1, fun b j hb => (k.2.2 b j hb).trans (h.2.2 b j hb)⟩
theorem gmX.sm {X X' : gX} {c o : Nat} (h : gmX X o) (s : gSm c X X') (ho : c + 1167 < o) : gmX X' o := by
  refine ⟨h.1, by rw [s.1]; exact h.2.1, by rw [s.2.1]; exact h.2.2.1, fun q hq => ?_⟩
  obtain ⟨a1, a2, a3, a4⟩ := h.2.2.2 q hq
  exact ⟨(s.2.2 _ _ ho).trans a1, by rw [s.2.1]; exact a2, a3, by rw [s.1]; exact a4⟩
section gEmpty2
variable {l : Launch} {G : gG} {d : Nat} {X : gX} {M : gM} {c : Nat}
theorem c_Ed_open (hX : glX X c) {r1 r2 : Nat} (h1 : gsX X r1) (h2 : gsX X r2) (n2 : c + 21 ≠ r2) {k : gX → gM → Prop} (hk : k (gGu (gGu X (c + 21) 2 r1) (c + 21) 3 r2) (gUp M r2 0 0)) : cX l G y_Ed_open (gRm d) true [gR G (c + 21), gR G r1, gR G r2] X M k := by
  refine eu_Ed_open (u_Ed_open_0 hX h1 h2 (fun X1 e1 => ?_))
  subst e1
  have g1 := hX.gu (i := 21) (k := 2) r1 (by decide) ⟨by decide, by decide⟩
  have s1 := h2.grow (gGw.gu X (c + 21) 2 r1) n2
  refine ⟨g1, s1, fun X5 e5 => ?_⟩
  subst e5
  rw [gGu_k]
  exact ⟨g1.gu (i := 21) (k := 3) r2 (by decide) ⟨by decide, by decide⟩, s1.grow (gGw.gu _ (c + 21) 3 r2) n2, rfl, hk⟩
/-- what landing does to the numbers of a fresh object -/
def gLd (M : gM) (c : Nat) : gM := gUp (gUp (gUp (gUp M c 8 1) c 9 1) c 10 0) c 11 1
theorem z_land (hl : gOk l G) (hX : glX X c) {s1 s4 : Nat} (h1 : X.2.2 (c + 23) 1 = s1 ∧ gsX X s1) (h4 : X.2.2 c 7 = s4 ∧ gsX X s4) (n1 : c + 23 ≠ s1 ∧ c ≠ s1) (h8 : M c 8 = 0) (h9 : M c 9 = 0) (h11 : M c 11 = 0) {k : gX → gM → Prop} (hk : k (gGu (gGu X (c + 23) 1 s4) c 7 s1) (gLd M c)) : cX l G y_GL_land (gRm (d + 8)) true [gR G c, gI 1] X M k := by
  refine eu_GL_land (Nr := 0) (u_GL_land_0 hX ⟨by decide, by decide⟩ hl ⟨fun _ _ => ?_, fun h => absurd h (by decide)⟩)
  have e0 : w32 (0 + 1) = 1 := by rw [Int.zero_add]; exact w32_id (g32_c rfl)
  have e1 : w32 ((1 : Int).tmod 41) = 1 := by rw [show (1 : Int).tmod 41 = 1 by decide]; exact w32_id (g32_c rfl)
  rw [h8, e0, e1, gUp_eq]
  have t1 : Int.toNat 1 = 1 := rfl
  rw [t1, h1.1, h4.1]
  intro _
  refine ⟨⟨by decide, by decide⟩, h1.2, fun _ => ⟨h4.2, ⟨by decide, by decide⟩, fun X7 e7 => ?_⟩⟩
  subst e7
  have g1 := hX.gu (i := 23) (k := 1) s4 (by decide) ⟨by decide, by decide⟩
  refine ⟨g1, h1.2.grow (gGw.gu X (c + 23) 1 s4) n1.1, fun X11 e11 => ?_⟩
  subst e11
  have g2 : glX (gGu (gGu X (c + 23) 1 s4) c 7 s1) c := g1.gu (i := 0) (k := 7) s1 (by decide) ⟨by decide, by decide⟩
  refine ⟨g2, fun _ => ?_⟩
  rw [gUp_k (by decide), h9]
  refine c_min (by unfold g32; omega) (g32_c rfl) ?_
  rw [show min ((0 : Int) + 1) 40 = 1 by decide]
  intro _
  have e5 : gUp (gUp (gUp M c 8 1) c 9 1) c 10 0 c 11 = 0 := by
    rw [gUp_k (by decide), gUp_k (by decide), gUp_k (by decide)]
    exact h11
  rw [e5, e0]
  exact ⟨rfl, hk⟩
theorem c_Ma_open (hX : glX X c) {r v n : Nat} (h1 : gsX X r) (h2 : gvX X v n) (nv : c + 1057 ≠ v ∧ c + 1057 ≠ v + 3) {k : gX → gM → Prop} (hk : k (gGu (gGu X (c + 1057) 4 r) (c + 1167) 2 v) M) : cX l G y_Ma_open (gRm d) true [gR G (c + 1057), gR G r, gR G v] X M k := by
  refine eu_Ma_open (u_Ma_open_0 hX h1 h2 (fun X1 e1 => ?_))
  subst e1
  have g1 := hX.gu (i := 1057) (k := 4) r (by decide) ⟨by decide, by decide⟩
  refine ⟨g1, h2.grow (gGw.gu X (c + 1057) 4 r) nv.1 nv.2, fun X5 e5 => ?_⟩
  subst e5
  exact ⟨g1.gu (i := 1167) (k := 2) v (by decide) ⟨by decide, by decide⟩, rfl, hk⟩
theorem z_arrange (hX : glX X c) {r : Nat} (h1 : gsX X r) (h0 : M r 0 = 0) (nr : r ≠ c + 1047) (h10 : M (c + 1047) 10 = 0) (h12 : M (c + 1047) 12 = 0) {k : gM → Prop} (hk : k M) : cV l G y_Or_arrange (gRm (d + 1)) true [gR G (c + 1047), gR G r, gR G (c + 235)] X M k := by
  have ha : 1 ≤ c + 235 ∧ c + 235 ≤ X.1 ∧ X.2.1 (c + 235) = (0, 5200) ∧ 5200 ≤ 2147483647 := ⟨gl_1 hX 235, gl_2 hX (by decide), hX.2.2.2.1 (235, 0, 5200) (by decide), by decide⟩
  have e0 : w32 (0 * 7) = 0 := by rw [Int.zero_mul]; exact w32_id g32_0
  have eM : gUp (gUp M (c + 1047) 10 0) (c + 1047) 12 0 = M := by rw [gUp_id h10, gUp_id h12]
  refine e_Or_arrange (w_Or_arrange_0 hX h1 ha (w_Or_arrange_2 hX g32_0 h1 ha (fun _ => ?_)))
  rw [h0, e0]
  refine ⟨fun _ => w_Or_arrange_28 hX g32_0 h1 ha (fun _ => ?_), fun h => absurd (Int.le_refl 0) h⟩
  rw [h0, eM]
  refine ⟨fun _ => w_Or_arrange_68 hX g32_0 h1 (fun _ => ?_), fun h => absurd (Int.le_refl 0) h⟩
  rw [h0]
  exact ⟨fun _ => hk, fun h => absurd (Int.le_refl 0) h⟩
theorem z_compareWith (hX : glX X c) {r s : Nat} (h1 : gsX X r) (hs : X.2.2 (c + 234) 6 = s ∧ gsX X s) (h0 : M r 0 = 0) (h2 : M s 0 = 0) (h7 : M (c + 234) 7 = 0) {k : gM → Prop} (hk : k M) : cV l G y_Rs_compareWith (gRm (d + 1)) true [gR G (c + 234), gR G r] X M k := by
  have e0 : w32 (0 + 0) = 0 := by rw [Int.add_zero]; exact w32_id g32_0
  refine e_Rs_compareWith (w_Rs_compareWith_0 hX h1 hs ?_)
  rw [gUp_id h7, h0, h2, e0]
  exact fun _ _ => w_Rs_compareWith_23 hX g32_0 g32_0 g32_0 h1 hs ⟨fun _ => hk, fun h => absurd (Int.le_refl 0) h⟩
theorem z_follow (hX : glX X c) {r1 r2 v b : Nat} (h1 : gsX X r1) (h2 : X.2.2 (c + 234) 6 = r2 ∧ gsX X r2) (hv : X.2.2 (c + 234) 4 = v ∧ gvX X v 401) (hb : X.2.2 (c + 234) 5 = b ∧ gvX X b 401)
    (nr : c + 234 ≠ r1 ∧ c + 1057 ≠ r1 ∧ c + 1167 ≠ r1 ∧ r1 ≠ c + 1047) (n2 : c + 234 ≠ r2 ∧ c + 1057 ≠ r2 ∧ c + 1167 ≠ r2) (nv : c + 234 ≠ v ∧ c + 234 ≠ v + 3) (nb : c + 234 ≠ b ∧ c + 234 ≠ b + 3 ∧ c + 1057 ≠ b ∧ c + 1057 ≠ b + 3)
    (z1 : M r1 0 = 0) (z2 : M r2 0 = 0) (z7 : M (c + 234) 7 = 0) (h10 : M (c + 1047) 10 = 0) (h12 : M (c + 1047) 12 = 0) {k : Int → gX → gM → Prop} (hk : ∀ X', gSm c X X' → glX X' c → k 0 X' M) : cXI l G y_Rs_follow (gRm (d + 2)) true [gR G (c + 234), gR G r1] X M k := by
  refine eu_Rs_follow (u_Rs_follow_0 hX h1 ?_)
  rw [h2.1, hv.1, hb.1]
  refine ⟨h2.2, hv.2, hb.2, fun X4 e4 => ?_⟩
  subst e4
  have g4 := hX.gu (i := 234) (k := 4) b (by decide) ⟨by decide, by decide⟩
  have w4 := gGw.gu X (c + 234) 4 b
  have s4 := h1.grow w4 nr.1
  have t4 := h2.2.grow w4 n2.1
  have b4 := hb.2.grow w4 nb.1 nb.2.1
  have q4 : (gGu X (c + 234) 4 b).2.2 (c + 234) 4 = b := gGu_k _ _ _ _
  have m4 := (gSm.rf c X).gu (a := c + 234) 4 b (by omega)
  refine ⟨g4, s4, t4, hv.2.grow w4 nv.1 nv.2, fun X10 e10 => ?_⟩
  subst e10
  generalize gGu X (c + 234) 4 b = Y at g4 s4 t4 b4 q4 m4 ⊢
  have g5 := g4.gu (i := 234) (k := 5) v (by decide) ⟨by decide, by decide⟩
  have w5 := gGw.gu Y (c + 234) 5 v
  have s5 := s4.grow w5 nr.1
  have t5 := t4.grow w5 n2.1
  have b5 := b4.grow w5 nb.1 nb.2.1
  have q5 : (gGu Y (c + 234) 5 v).2.2 (c + 234) 4 = b := (gGu_o Y v (by omega)).trans q4
  have m5 := m4.gu (a := c + 234) 5 v (by omega)
  refine ⟨g5, s5, t5, fun X15 e15 => ?_⟩
  subst e15
  generalize gGu Y (c + 234) 5 v = Z at g5 s5 t5 b5 q5 m5 ⊢
  have g6 := g5.gu (i := 234) (k := 6) r1 (by decide) ⟨by decide, by decide⟩
  have w6 := gGw.gu Z (c + 234) 6 r1
  have s6 := s5.grow w6 nr.1
  have t6 := t5.grow w6 n2.1
  have b6 := b5.grow w6 nb.1 nb.2.1
  have q6 : (gGu Z (c + 234) 6 r1).2.2 (c + 234) 4 = b := (gGu_o Z r1 (by omega)).trans q5
  have p6 : (gGu Z (c + 234) 6 r1).2.2 (c + 234) 6 = r1 := gGu_k _ _ _ _
  have m6 := m5.gu (a := c + 234) 6 r1 (by omega)
  refine ⟨g6, s6, t6, ?_⟩
  generalize gGu Z (c + 234) 6 r1 = P at g6 s6 t6 b6 q6 p6 m6 ⊢
  refine u_Rs_follow_31 g6 s6 t6 g32_0 (fun _ => ?_)
  rw [z2]
  refine ⟨fun _ => u_Rs_follow_64 g6 s6 t6 g32_0 (fun _ => ?_), fun h => absurd (Int.le_refl 0) h⟩
  rw [z1, q6]
  refine ⟨fun _ => z_arrange g6 s6 z1 nr.2.2.2 h10 h12 ⟨b6, c_Ma_open g6 s6 b6 ⟨nb.2.2.1, nb.2.2.2⟩ ?_⟩, fun h => absurd (Int.le_refl 0) h⟩
  have g7 := g6.gu (i := 1057) (k := 4) r1 (by decide) ⟨by decide, by decide⟩
  have g8 := g7.gu (i := 1167) (k := 2) b (by decide) ⟨by decide, by decide⟩
  have w7 := gGw.gu P (c + 1057) 4 r1
  have w8 := gGw.gu (gGu P (c + 1057) 4 r1) (c + 1167) 2 b
  have s8 := (s6.grow w7 nr.2.1).grow w8 nr.2.2.1
  have t8 := (t6.grow w7 n2.2.1).grow w8 n2.2.2
  have p8 : (gGu (gGu P (c + 1057) 4 r1) (c + 1167) 2 b).2.2 (c + 234) 6 = r1 := (gGu_o _ _ (by omega)).trans ((gGu_o _ _ (by omega)).trans p6)
  have m8 := (m6.gu (a := c + 1057) 4 r1 (by omega)).gu (a := c + 1167) 2 b (by omega)
  refine ⟨g8, s8, t8, ?_⟩
  refine u_Rs_follow_120 g8 s8 t8 g32_0 (fun _ => ?_)
  rw [z1]
  refine ⟨fun _ => z_compareWith g8 t8 ⟨p8, s8⟩ z2 z1 z7 (fun _ => ?_), fun h => absurd (Int.le_refl 0) h⟩
  rw [z7]
  exact ⟨0, rfl, g32_0, hk _ m8 g8⟩
end gEmpty2
