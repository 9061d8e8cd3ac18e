/-! The class's constructor. -/
/-- the class's cells as they are made -/
def gNew (X : gX) (c : Nat) : Prop := glX X c ∧ (∀ j, j < 41 → X.2.2 (c + 23) j = c + 24 + 5 * j ∧ gsX X (c + 24 + 5 * j)) ∧ (X.2.2 c 7 = c + 229 ∧ gsX X (c + 229)) ∧ (X.2.2 (c + 234) 4 = c + 237 ∧ gvX X (c + 237) 401) ∧ (X.2.2 (c + 234) 5 = c + 642 ∧ gvX X (c + 642) 401) ∧ X.2.2 (c + 234) 6 = c + 24 ∧ X.2.2 (c + 1057) 4 = c + 24 ∧ X.2.2 (c + 1167) 2 = c + 237
theorem kFe_l : ∀ q ∈ glTab, q ∈ (0, 5, 234) :: kFe := by decide +kernel
theorem kSe_l : ∀ q ∈ glSh, q ∈ kSe := by decide +kernel
section gCtor4
variable {l : Launch} {G : gG} {d : Nat} {X : gX} {M : gM} {K : Outcome → gX → gM → Prop}
/-- in the loop: i states are made -/
def gRing (X : gX) (c i : Nat) : Prop := ∀ j, j < i → X.2.2 (c + 23) j = c + 24 + 5 * j ∧ gsX X (c + 24 + 5 * j)
theorem gRing.grow {X X' : gX} {c i a : Nat} (h : gRing X c i) (hc : c + 23 ≤ X.1) (g : gGw X X' a) (hn : a ≠ c + 23) (hm : ∀ j, j < i → a ≠ c + 24 + 5 * j) : gRing X' c i := fun j hj =>
  ⟨(g.2.2 _ _ hc (Ne.symm hn)).trans (h j hj).1, (h j hj).2.grow g (hm j hj)⟩
set_option maxRecDepth 100000 in
set_option maxHeartbeats 4000000 in
theorem gGL_loop (hok : gOk l G) {c : Nat} (h1 : 1 ≤ c) (k : ∀ X', X'.1 = c + 1167 → gNew X' c → gFr X' (gFl M (c + 235) 0 (fun _ => 400) 5200) → K (.returned none) X' (gFl M (c + 235) 0 (fun _ => 400) 5200)) :
    ∀ (n i : Nat) (X : gX), i + n = 41 → gKn X c kF9 kS9 → X.1 = c + 23 + 5 * i → gFr X M → gRing X c i → wp l G y_GL_init (gRk (d + 4) 1167 1019806) true K true 69 [.val (gR G c), .val (gI (i : Int))] [] X M (23 + 5 * i) (56344 + 21206 * i) := by
  intro n
  induction n with
  | zero =>
    intro i X hi hk hj hz hr
    obtain rfl : i = 41 := by omega
    have hs : X.2.1 c = (6, 12) := hk.s (i := 0) (by decide)
    refine m_GL_init_69 hok h1 (by omega) hs hz (by unfold g32; omega) ⟨fun _ => ?_, fun h => absurd (by decide) h⟩
    refine ⟨⟨by decide, by decide⟩, ⟨by decide, by decide⟩, ?_⟩
    have e1 : X.1 + 1 = c + 229 := by omega
    rw [e1]
    refine c_St_init (by omega) (by show X.1 + 1 = _; omega) (by rw [← e1]; exact gNw_n X _) (hz.nw _) (fun X2 f2 s2 g2 z2 => ?_)
    rw [← e1] at g2
    have b2 := hk.gro (g2.new (X.1 + 1)) (by omega)
    have r2 := hr.grow (by omega) (g2.new (X.1 + 1)) (by omega) (fun j hj => by omega)
    refine ⟨rfl, by omega, b2.s (i := 0) (by decide), z2, ⟨by decide, by decide⟩, ?_⟩
    have b3 : gKn (gGu X2 c 7 (c + 229)) c kFr kS9 := gKn.gu b2 (i := 0) (k := 7) (t := 229) rfl rfl (by omega) (by decide)
    have g3 := gGw.gu X2 c 7 (c + 229)
    have r3 := r2.grow (by omega) g3 (by omega) (fun j hj => by omega)
    have s3 := s2.grow g3 (by omega)
    have z3 := z2.gu c 7 (c + 229)
    have f3 : (gGu X2 c 7 (c + 229)).1 = c + 233 := f2
    generalize gGu X2 c 7 (c + 229) = Y at b3 r3 s3 z3 f3 ⊢
    have b4 := b3.nw (sh := (14, 8)) (j := 233) f3
    have q6 : (gNw Y (14, 8)).2.2 c 6 = c + 23 := b4.f (i := 0) (by decide)
    have q2 : (gNw Y (14, 8)).2.2 c 2 = c + 2 := b4.f (i := 0) (by decide)
    have q0 : (gNw Y (14, 8)).2.2 (c + 23) (Int.toNat 0) = c + 24 := (gNw_r (by omega) _).trans (r3 0 (by decide)).1
    have e3 : Y.1 + 1 = c + 234 := by omega
    rw [q6, q2, q0, e3]
    refine ⟨⟨by omega, by show c + 23 ≤ Y.1 + 1; omega, b4.s (by decide)⟩, ⟨by decide, by decide⟩, ?_⟩
    refine c_Rs_init hok h1 b4 (by show Y.1 + 1 = _; omega) (z3.nw _) (fun X5 f5 b5 v5 u5 t5 g5 z5 => ?_)
    rw [← e3] at g5
    have r5 := r3.grow (by omega) (g5.new (Y.1 + 1)) (by omega) (fun j hj => by omega)
    have s5 := s3.grow (g5.new (Y.1 + 1)) (by omega)
    refine ⟨rfl, by omega, b5.s (i := 0) (by decide), z5, ⟨by decide, by decide⟩, ?_⟩
    have b6 : gKn (gGu X5 c 5 (c + 234)) c ((0, 5, 234) :: kFe) kSe := gKn.gu b5 (i := 0) (k := 5) (t := 234) rfl rfl (by omega) (by decide)
    have g6 := gGw.gu X5 c 5 (c + 234)
    have f6 : (gGu X5 c 5 (c + 234)).1 = c + 1167 := f5
    refine k _ f6 ⟨⟨h1, by omega, fun q hq => b6.f (kFe_l q hq), fun q hq => b6.s (kSe_l q hq), t5.grow g6 (by omega) (by omega)⟩, r5.grow (by omega) g6 (by omega) (fun j hj => by omega), ⟨b6.f (i := 0) (by decide), s5.grow g6 (by omega)⟩, ⟨b6.f (by decide), v5.grow g6 (by omega) (by omega)⟩, ⟨b6.f (by decide), u5.grow g6 (by omega) (by omega)⟩, b6.f (by decide), b6.f (by decide), b6.f (by decide)⟩ (z5.gu _ _ _)
  | succ n ih =>
    intro i X hi hk hj hz hr
    have hs : X.2.1 c = (6, 12) := hk.s (i := 0) (by decide)
    refine m_GL_init_69 hok h1 (by omega) hs hz (by unfold g32; omega) ⟨fun h => absurd h (by omega), fun _ => ?_⟩
    refine ⟨⟨by omega, by omega⟩, ⟨by omega, by omega⟩, ?_⟩
    have e1 : X.1 + 1 = c + 24 + 5 * i := by omega
    have q6 : X.2.2 c 6 = c + 23 := hk.f (i := 0) (by decide)
    rw [e1, q6]
    refine c_St_init (by omega) (by show X.1 + 1 = _; omega) (by rw [← e1]; exact gNw_n X _) (hz.nw _) (fun X2 f2 s2 g2 z2 => ?_)
    rw [← e1] at g2
    have b2 := hk.gro (g2.new (X.1 + 1)) (by omega)
    have r2 := hr.grow (by omega) (g2.new (X.1 + 1)) (by omega) (fun j hj => by omega)
    refine ⟨rfl, by omega, b2.s (i := 0) (by decide), z2, ⟨⟨by omega, by omega, b2.s (by decide)⟩, ⟨by omega, by omega⟩, by omega, s2.2.2.1⟩, ?_⟩
    have e2 : w32 ((i : Int) + 1) = ((i + 1 : Nat) : Int) := by rw [w32_id (by unfold g32; omega)]; omega
    have e4 : 23 + 5 * i + 1 + 4 = 23 + 5 * (i + 1) := by omega
    have e5 : 56344 + 21206 * i + 5 + 21201 = 56344 + 21206 * (i + 1) := by omega
    rw [e2, e4, e5, Int.toNat_natCast]
    have g3 := gGw.gu X2 (c + 23) i (c + 24 + 5 * i)
    refine ih (i + 1) _ (by omega) (b2.grow g3 (by decide)) (by show X2.1 = _; omega) (z2.gu _ _ _) (fun j hj => ?_)
    by_cases ej : j = i
    · subst ej
      exact ⟨gGu_k X2 _ _ _, s2.grow g3 (by omega)⟩
    · obtain ⟨t1, t2⟩ := r2 j (by omega)
      exact ⟨(gGu_o X2 _ (fun q => ej q.2)).trans t1, t2.grow g3 (by omega)⟩
set_option maxRecDepth 100000 in
set_option maxHeartbeats 4000000 in
theorem c_GL_init (hok : gOk l G) {c : Nat} (h1 : 1 ≤ c) (hj : X.1 = c) (hs : X.2.1 c = (6, 12)) (hz : gFr X M) (k : ∀ X', X'.1 = c + 1167 → gNew X' c → gFr X' (gFl (gUp M (c + 2) 11 1) (c + 235) 0 (fun _ => 400) 5200) → K (.returned none) X' (gFl (gUp M (c + 2) 11 1) (c + 235) 0 (fun _ => 400) 5200)) : gCt l G y_GL_init (gRk (d + 4) 1167 1019806) true [gR G c] X M K := by
  have hk : gKn X c [] [(0, 6, 12)] := gKn.one (by omega) hs
  refine me_GL_init (m_GL_init_0 hok h1 (by omega) hs hz ?_)
  have a1 : gKn (gMk X c 0 (2, 240)) c kF1 kS1 := hk.mk (i := 0) (j := 0) (k := 0) (sh := (2, 240)) hj (Nat.le_refl _) (by decide)
  have z1 : gFr (gMk X c 0 (2, 240)) M := hz.mk _ _ _
  have f1 : (gMk X c 0 (2, 240)).1 = c + 1 := by show X.1 + 1 = _; omega
  generalize gMk X c 0 (2, 240) = Y at a1 z1 f1 ⊢
  have e1 : Y.1 + 1 = c + 2 := by omega
  rw [e1]
  refine c_Cn_init h1 (a1.nw (sh := (9, 15)) (j := 1) f1) (by show Y.1 + 1 = _; omega) (by decide) (z1.nw _) (by decide) (fun X1 f2 b2 z2 => ?_)
  refine ⟨rfl, by omega, b2.s (i := 0) (by decide), z2, ?_⟩
  have b3 : gKn (gGu X1 c 2 (c + 2)) c kF4 kS3 := gKn.gu b2 (i := 0) (k := 2) (t := 2) rfl rfl (by omega) (by decide)
  have z3 := z2.gu c 2 (c + 2)
  have f3 : (gGu X1 c 2 (c + 2)).1 = c + 13 := f2
  generalize gGu X1 c 2 (c + 2) = Z at b3 z3 f3 ⊢
  have b4 := b3.nw (sh := (13, 6)) (j := 13) f3
  have q0 : (gNw Z (13, 6)).2.2 c 0 = c + 1 := b4.f (i := 0) (by decide)
  have q2 : (gNw Z (13, 6)).2.2 c 2 = c + 2 := b4.f (i := 0) (by decide)
  have e3 : Z.1 + 1 = c + 14 := by omega
  rw [q0, q2, e3]
  refine c_Rd_init h1 b4 (by show Z.1 + 1 = _; omega) (by decide) (z3.nw _) (by decide) (fun X7 f7 b7 z7 => ?_)
  refine ⟨rfl, by omega, b7.s (i := 0) (by decide), z7, ?_⟩
  have b8 : gKn (gGu X7 c 3 (c + 14)) c kF6 kS5 := gKn.gu b7 (i := 0) (k := 3) (t := 14) rfl rfl (by omega) (by decide)
  have z8 := z7.gu c 3 (c + 14)
  have f8 : (gGu X7 c 3 (c + 14)).1 = c + 20 := f7
  generalize gGu X7 c 3 (c + 14) = P at b8 z8 f8 ⊢
  have b9 := b8.nw (sh := (10, 8)) (j := 20) f8
  have q3 : (gNw P (10, 8)).2.2 c 2 = c + 2 := b9.f (i := 0) (by decide)
  have e8 : P.1 + 1 = c + 21 := by omega
  rw [q3, e8]
  refine c_Ed_init h1 b9 (by show P.1 + 1 = _; omega) (by decide) (z8.nw _) (by decide) (fun X13 f13 b13 z13 => ?_)
  refine ⟨rfl, by omega, b13.s (i := 0) (by decide), z13, ?_⟩
  have b14 := gKn.gu b13 (i := 0) (k := 4) (t := 21) (a := c) rfl rfl (by omega) (by decide)
  have b15 : gKn (gMk (gGu X13 c 4 (c + 21)) c 6 (5, 41)) c kF9 kS9 := b14.mk (i := 0) (j := 22) (k := 6) (sh := (5, 41)) f13 (by decide) (by decide)
  exact gGL_loop (M := gUp M (c + 2) 11 1) hok h1 k 41 0 _ rfl b15 (by show X13.1 + 1 = _; omega) ((z13.gu _ _ _).mk _ _ _) (fun j hj => absurd hj (Nat.not_lt_zero j))
end gCtor4
