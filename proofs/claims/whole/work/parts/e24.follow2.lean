/-! The class's Results: follow. -/
/-- what Results, Order hold while the sheet F is shown, with values w -/
def gRsI (X : gX) (M : gM) (c r v b : Nat) (F : gSht) (w w1 : Nat → gVl) : Prop := (X.2.2 (c + 234) 4 = v ∧ gvX X v 401) ∧ (X.2.2 (c + 234) 5 = b ∧ gvX X b 401) ∧ (X.2.2 (c + 234) 6 = r ∧ gsX X r) ∧ (c + 236 < v ∧ v + 404 < c + 1047) ∧ (c + 236 < b ∧ b + 404 < c + 1047) ∧ (v + 404 < b ∨ b + 404 < v) ∧ (c + 23 < r ∧ r + 4 < c + 234) ∧ gcAt M c F ∧ gvT M v w ∧ gvT M b w1 ∧ w 400 = (0, 0, []) ∧ w1 400 = (0, 0, []) ∧ gFxp F (gEw F w) ∧ gOz M c ∧ M (c + 1047) 11 = 0 ∧ ∀ e, e < 400 → M (c + 1054) e = 0
/-- what follow writes -/
def gFwR (c b : Nat) : Nat → Nat → Prop := fun a k => gFlR c b a k ∨ a = c + 235 ∨ a = c + 236 ∨ (a = c + 234 ∧ k = 7) ∨ (a = c + 1047 ∧ (k = 10 ∨ k = 11 ∨ k = 12)) ∨ (c + 1048 ≤ a ∧ a ≤ c + 1056)
section gfF
variable {l : Launch} {G : gG} {d : Nat} {X : gX} {M : gM} {c r1 r2 v b : Nat} {F0 F : gSht} {w0 w1 : Nat → gVl} {Q : gQ}
theorem c_Rs_follow {k : Int → gX → gM → Prop} (hX : glX X c) (hO : gOld G Q) (h1 : gsX X r1) (hr1 : c + 23 < r1 ∧ r1 + 4 < c + 234) (hI : gRsI X M c r2 v b F0 w0 w1) (hF0 : gSok F0) (hF : gSok F) (hst0 : gcSt M c r2 F0) (hst : gcSt M c r1 F)
    (hk : ∀ X' M' w, gSm c X X' → glX X' c → (∀ a j, ¬ (a = c + 234 ∧ (j = 4 ∨ j = 5 ∨ j = 6)) → ¬ (a = c + 1057 ∧ j = 4) → ¬ (a = c + 1167 ∧ j = 2) → X'.2.2 a j = X.2.2 a j) → gOff (gFwR c b) M M' → gRsI X' M' c r1 b v F w w0 → (∃ rk, gRnk F rk) → M' (c + 234) 7 = (gCn (gQch (gEw F0 w0) (gEw F w)) 5200 : Int) → (∀ p, p < 5200 → gQch (gEw F0 w0) (gEw F w) p → M' (c + 236) (gCn (gQch (gEw F0 w0) (gEw F w)) p) = (p : Int)) → k (gCn (gQch (gEw F0 w0) (gEw F w)) 5200 : Int) X' M') : cXI l G y_Rs_follow (gRr (d + 9 + 1) 0) true [gR G (c + 234), gR G r1] X M k := by
  obtain ⟨hv, hb, h2, pv, pb, vb, hr2, hat0, T0, T1, z0, z1, hfx0, hoz, hw0, hw1⟩ := hI
  refine eu_Rs_follow (u_Rs_follow_0 hX h1 ?_)
  rw [h2.1, hv.1, hb.1]
  refine ⟨h2.2, hv.2, hb.2, fun X4 e4 => ?_⟩
  subst e4
  have g4 := hX.gu (i := 234) (k := 4) b (by decide) ⟨by decide, by decide⟩
  have w4 := gGw.gu X (c + 234) 4 b
  have s4 := h1.grow w4 (by omega)
  have t4 := h2.2.grow w4 (by omega)
  have b4 := hb.2.grow w4 (by omega) (by omega)
  have v4 := hv.2.grow w4 (by omega) (by omega)
  have q4 : (gGu X (c + 234) 4 b).2.2 (c + 234) 4 = b := gGu_k _ _ _ _
  have m4 := (gSm.rf c X).gu (a := c + 234) 4 b (by omega)
  have x4 : ∀ a j, ¬ (a = c + 234 ∧ j = 4) → (gGu X (c + 234) 4 b).2.2 a j = X.2.2 a j := fun a j h => gGu_o X b h
  refine ⟨g4, s4, t4, v4, fun X10 e10 => ?_⟩
  subst e10
  generalize gGu X (c + 234) 4 b = Y at g4 s4 t4 b4 v4 q4 m4 x4 ⊢
  have g5 := g4.gu (i := 234) (k := 5) v (by decide) ⟨by decide, by decide⟩
  have w5 := gGw.gu Y (c + 234) 5 v
  have s5 := s4.grow w5 (by omega)
  have t5 := t4.grow w5 (by omega)
  have b5 := b4.grow w5 (by omega) (by omega)
  have v5 := v4.grow w5 (by omega) (by omega)
  have q5 : (gGu Y (c + 234) 5 v).2.2 (c + 234) 4 = b := (gGu_o Y v (by omega)).trans q4
  have r5 : (gGu Y (c + 234) 5 v).2.2 (c + 234) 5 = v := gGu_k _ _ _ _
  have m5 := m4.gu (a := c + 234) 5 v (by omega)
  have x5 : ∀ a j, ¬ (a = c + 234 ∧ (j = 4 ∨ j = 5)) → (gGu Y (c + 234) 5 v).2.2 a j = X.2.2 a j := fun a j h => (gGu_o Y v (by omega)).trans (x4 a j (by omega))
  refine ⟨g5, s5, t5, fun X15 e15 => ?_⟩
  subst e15
  generalize gGu Y (c + 234) 5 v = Z at g5 s5 t5 b5 v5 q5 r5 m5 x5 ⊢
  have g6 := g5.gu (i := 234) (k := 6) r1 (by decide) ⟨by decide, by decide⟩
  have w6 := gGw.gu Z (c + 234) 6 r1
  have s6 := s5.grow w6 (by omega)
  have t6 := t5.grow w6 (by omega)
  have b6 := b5.grow w6 (by omega) (by omega)
  have v6 := v5.grow w6 (by omega) (by omega)
  have q6 : (gGu Z (c + 234) 6 r1).2.2 (c + 234) 4 = b := (gGu_o Z r1 (by omega)).trans q5
  have r6 : (gGu Z (c + 234) 6 r1).2.2 (c + 234) 5 = v := (gGu_o Z r1 (by omega)).trans r5
  have p6 : (gGu Z (c + 234) 6 r1).2.2 (c + 234) 6 = r1 := gGu_k _ _ _ _
  have m6 := m5.gu (a := c + 234) 6 r1 (by omega)
  have x6 : ∀ a j, ¬ (a = c + 234 ∧ (j = 4 ∨ j = 5 ∨ j = 6)) → (gGu Z (c + 234) 6 r1).2.2 a j = X.2.2 a j := fun a j h => (gGu_o Z r1 (by omega)).trans (x5 a j (by omega))
  refine ⟨g6, s6, t6, ?_⟩
  generalize gGu Z (c + 234) 6 r1 = P at g6 s6 t6 b6 v6 q6 r6 p6 m6 x6 ⊢
  -- the references that Machine and Boxes get
  have g7 := g6.gu (i := 1057) (k := 4) r1 (by decide) ⟨by decide, by decide⟩
  have g8 := g7.gu (i := 1167) (k := 2) b (by decide) ⟨by decide, by decide⟩
  have w7 := gGw.gu P (c + 1057) 4 r1
  have w8 := gGw.gu (gGu P (c + 1057) 4 r1) (c + 1167) 2 b
  have s8 := (s6.grow w7 (by omega)).grow w8 (by omega)
  have t8 := (t6.grow w7 (by omega)).grow w8 (by omega)
  have b8 := (b6.grow w7 (by omega) (by omega)).grow w8 (by omega) (by omega)
  have v8 := (v6.grow w7 (by omega) (by omega)).grow w8 (by omega) (by omega)
  have o8 : ∀ a j, ¬ (a = c + 1057 ∧ j = 4) → ¬ (a = c + 1167 ∧ j = 2) → (gGu (gGu P (c + 1057) 4 r1) (c + 1167) 2 b).2.2 a j = P.2.2 a j := fun a j x y => (gGu_o _ _ (by omega)).trans (gGu_o _ _ (by omega))
  have q8 : (gGu (gGu P (c + 1057) 4 r1) (c + 1167) 2 b).2.2 (c + 234) 4 = b := (o8 _ _ (by omega) (by omega)).trans q6
  have r8 : (gGu (gGu P (c + 1057) 4 r1) (c + 1167) 2 b).2.2 (c + 234) 5 = v := (o8 _ _ (by omega) (by omega)).trans r6
  have p8 : (gGu (gGu P (c + 1057) 4 r1) (c + 1167) 2 b).2.2 (c + 234) 6 = r1 := (o8 _ _ (by omega) (by omega)).trans p6
  have y8 : (gGu (gGu P (c + 1057) 4 r1) (c + 1167) 2 b).2.2 (c + 1057) 4 = r1 := (gGu_o _ _ (by omega)).trans (gGu_k _ _ _ _)
  have z8 : (gGu (gGu P (c + 1057) 4 r1) (c + 1167) 2 b).2.2 (c + 1167) 2 = b := gGu_k _ _ _ _
  have m8 := (m6.gu (a := c + 1057) 4 r1 (by omega)).gu (a := c + 1167) 2 b (by omega)
  have n0 := hst0.1
  have n0l := hst0.2.1
  have n1 := hst.1
  have n1l := hst.2.1
  have A235 : ∀ M3, gOff (fun a _ => a = c + 235) M M3 → ∀ a j, a ≠ c + 235 → M3 a j = M a j := fun M3 o a j h => o _ _ h
  -- the new entries
  have l64 : ∀ (m x : Nat) (M3 : gM), x + m = gCn (gnE F) 5200 → gOff (fun a _ => a = c + 235) M M3 → (∀ p, p < 5200 → M3 (c + 235) p = @ite Int (gnE F p ∧ gCn (gnE F) p < x) (Classical.propDecidable _) (gCn (gnE F) p : Int) 400) → wp l G y_Rs_follow (gRr (d + 9 + 1) 0) true (fun o X' M' => ∃ v, o = .returned (some (gI v)) ∧ g32 v ∧ k v X' M') true 64 [.val (gR G (c + 234)), .val (gR G r1), .val (gR G r2), .unset, .val (gI (x : Int)), .unset] [] P M3 0 0 := by
    intro m
    induction m with
    | zero =>
      intro x M3 hx o3 ha
      have at3 : gcAt M3 c F := fun p hp => by
        rw [ha p hp]
        unfold gAt
        by_cases y : gnE F p
        · have := gCn_lt (Q := gnE F) hp y
          rw [if_pos ⟨y, by omega⟩, if_pos y]
        · rw [if_neg (fun z => y z.1), if_neg y]
          rfl
      have st3 : gcSt M3 c r1 F := hst.kp hF (fun a j x1 x2 => A235 M3 o3 _ _ (by omega)) (fun a j x1 => A235 M3 o3 _ _ (by omega))
      refine u_Rs_follow_64 g6 s6 t6 ⟨by omega, by omega⟩ (fun _ => ?_)
      rw [A235 M3 o3 _ _ (by omega), n1]
      refine ⟨fun _ => ?_, fun z => absurd (by omega) z⟩
      rw [q6]
      have rel := st3.rel hF at3
      refine c_Or_arrange (d := d + 5) (r2 := c + 235) (n := gCn (gnE F) 5200) g6 s6 ⟨gl_1 g6 235, gl_2 g6 (by decide), gl_s g6 25 rfl⟩ (fun a x1 x2 => ⟨by omega, fun j hj => by omega⟩) st3.1 n1l (fun p hp => by rw [at3 p hp]; have := gAt_le (F := F) n1l hp; omega) (fun i hi => ?_) (fun i j hij => ?_) ⟨fun a x1 j x2 => by rw [A235 M3 o3 _ _ (by omega)]; exact hoz.1 a x1 j x2, fun j x2 => by rw [A235 M3 o3 _ _ (by omega)]; exact hoz.2 j x2⟩ (by rw [A235 M3 o3 _ _ (by omega)]; exact hw0) (fun e he => by rw [A235 M3 o3 _ _ (by omega)]; exact hw1 e he) (fun M5 o5 hoi => ⟨b6, c_Ma_open g6 s6 b6 ⟨by omega, by omega⟩ ⟨g8, s8, t8, ?_⟩⟩)
      · obtain ⟨p, p1, p2, p3⟩ := gCn_ex (Q := gnE F) 5200 i hi
        cases e : F p with
        | none => exact absurd e p2
        | some y =>
          obtain ⟨S, tg⟩ := y
          obtain ⟨rf, hE, _⟩ := st3.en hF p1 e
          rw [p3] at hE
          exact ⟨_, _, rf, hE⟩
      · obtain ⟨p, q, e1, e2, he⟩ := (rel i j).mp hij
        have nq := he.2
        cases e : F q with
        | none => exact absurd e nq
        | some y =>
          have ql := (hF q y.1 y.2 e).1
          have := gCn_lt (Q := gnE F) ql nq
          omega
      · obtain ⟨ord, eSo⟩ := hoi.ord n1l
        have k5 : ∀ a j, a < c + 1047 ∨ c + 1057 ≤ a → M5 a j = M3 a j := fun a j h => o5 _ _ (by unfold gArR gOrR; omega)
        have st5 : gcSt M5 c r1 F := st3.kp hF (fun a j x1 x2 => k5 _ _ (by omega)) (fun a j x1 => k5 _ _ (by omega))
        have at5 : gcAt M5 c F := fun p hp => (k5 _ _ (by omega)).trans (at3 p hp)
        have T15 : gvT M5 b w1 := (T1.off o3 (fun a j h => by omega)).off o5 (fun a j h => by unfold gArR gOrR at h; omega)
        have T05 : gvT M5 v w0 := (T0.off o3 (fun a j h => by omega)).off o5 (fun a j h => by unfold gArR gOrR at h; omega)
        refine c_Fl120 (d := d) (v := b) (n := gCn (gnE F) 5200) (So := gAy M5 (c + 1049)) (ci := fun e => M5 (c + 1050) e = 1) g8 hO s8 t8 ⟨q8, b8⟩ y8 z8 hr1 pb st5 hF at5 rfl rel ord eSo (fun e he => Iff.rfl) (fun M6 w6 o6 T6 W6 => ?_) _ 0 M5 w1 (Nat.zero_add _) (gOff.rf _ _) T15 ⟨z1, fun j hj => absurd hj (Nat.not_lt_zero _)⟩
        obtain ⟨fx6, rk6⟩ := W6.all rfl rel ord hF
        have k6 : ∀ a j, (a ≤ c + 236 ∨ (c + 1047 ≤ a ∧ a ≤ c + 1056)) → M6 a j = M5 a j := fun a j h => o6 _ _ (by unfold gFlR gxF2 gxF gAb; omega)
        have k06 : ∀ a j, a ≤ c + 236 → a ≠ c + 235 → M6 a j = M a j := fun a j h h' => (k6 _ _ (Or.inl h)).trans ((k5 _ _ (by omega)).trans (A235 M3 o3 _ _ h'))
        have T06 : gvT M6 v w0 := T05.off o6 (fun a j h => by unfold gFlR gxF2 gxF gAb at h; omega)
        refine c_Rs_compareWith (d := d + 6) (F0 := F0) (F := F) (w0 := w0) (w := w6) (r2 := r1) (v1 := b) (v2 := v) g8 t8 s8 p8 ⟨q8, b8⟩ ⟨r8, v8⟩ hr2 hr1 pb.1 pv.1 ((k06 _ _ (by omega) (by omega)).trans n0) ((k06 _ _ (by omega) (by omega)).trans n1) n0l n1l (fun p hp y => ?_) (fun p hp y => ?_) T6 T06 hfx0 fx6 (fun M7 o7 h7 c7 => ?_)
        · cases e : F0 p with
          | none => exact absurd e y
          | some q => rw [k06 _ _ (by omega) (by omega)]; exact (hst0.2.2.2.2 p hp q.1 q.2 e).1
        · cases e : F p with
          | none => exact absurd e y
          | some q => rw [k06 _ _ (by omega) (by omega)]; exact (hst.2.2.2.2 p hp q.1 q.2 e).1
        · have k7 : ∀ a j, a ≠ c + 236 → ¬ (a = c + 234 ∧ j = 7) → M7 a j = M6 a j := fun a j x y => o7 _ _ (by unfold gCmR; omega)
          rw [h7]
          have qle : gCn (gQch (gEw F0 w0) (gEw F w6)) 5200 ≤ 5200 := by
            have : ∀ m, gCn (gQch (gEw F0 w0) (gEw F w6)) m ≤ m := by
              intro m
              induction m with
              | zero => exact Nat.le_refl _
              | succ m ih =>
                by_cases y : gQch (gEw F0 w0) (gEw F w6) m
                · rw [gCn_y y]; omega
                · rw [gCn_n y]; omega
            exact this 5200
          refine fun _ => ⟨_, rfl, ⟨by omega, by omega⟩, hk _ M7 w6 m8 g8 (fun a j x y z => (o8 a j y z).trans (x6 a j x)) ?_ ⟨⟨q8, b8⟩, ⟨r8, v8⟩, ⟨p8, s8⟩, pb, pv, by omega, hr1, fun p hp => (k7 _ _ (by omega) (by omega)).trans ((k6 _ _ (by omega)).trans (at5 p hp)), T6.off o7 (fun a j h => by unfold gCmR at h; omega), T06.off o7 (fun a j h => by unfold gCmR at h; omega), W6.1, z0, fx6, ?_, ?_, fun e he => ?_⟩ ⟨_, rk6⟩ h7 c7⟩
          · intro a j na
            unfold gFwR at na
            rw [k7 a j (by omega) (by omega), o6 a j (fun y => na (Or.inl y)), o5 a j (by unfold gArR gOrR; omega)]
            exact o3 a j (by omega)
          · have hz5 := hoi.2.2.2.2.2.1
            refine ⟨fun a x1 j x2 => ?_, fun j x2 => ?_⟩
            · rw [k7 _ _ (by omega) (by omega), k6 _ _ (by omega)]; exact hz5.1 a x1 j x2
            · rw [k7 _ _ (by omega) (by omega), k6 _ _ (by omega)]; exact hz5.2 j x2
          · rw [k7 _ _ (by omega) (by omega), k6 _ _ (by omega)]; exact hoi.1.2.1
          · rw [k7 _ _ (by omega) (by omega), k6 _ _ (by omega)]
            have hz5 := hoi.2.2.2.2.2.1.2 e he
            have := hoi.2.2.2.2.1 e he
            rcases hz5 with y | y
            · exact y
            · obtain ⟨j, hj, _⟩ := this.mp y
              omega
    | succ m ih =>
      intro x M3 hx o3 ha
      obtain ⟨p, p1, p2, p3⟩ := gCn_ex (Q := gnE F) 5200 x (by omega)
      cases e : F p with
      | none => exact absurd e p2
      | some y =>
        have pl : M3 (r1 + 1) x = (p : Int) := by
          rw [A235 M3 o3 _ _ (by omega), ← p3]
          exact (hst.2.2.2.2 p p1 y.1 y.2 e).1
        refine u_Rs_follow_64 g6 s6 t6 ⟨by omega, by omega⟩ (fun _ => ?_)
        rw [A235 M3 o3 _ _ (by omega), n1, Int.toNat_natCast, pl, Int.toNat_natCast, w32_id (x := (x : Int) + 1) ⟨by omega, by omega⟩, show (x : Int) + 1 = ((x + 1 : Nat) : Int) by omega]
        refine ⟨fun z => absurd z (by omega), fun _ => ⟨⟨by omega, by omega⟩, fun _ => ⟨⟨by omega, by omega⟩, ih (x + 1) _ (by omega) (o3.up rfl) (fun q hq => ?_)⟩⟩⟩
        by_cases eq : q = p
        · rw [eq, gUp_eq, if_pos ⟨p2, by omega⟩]
          omega
        · rw [gUp_k eq, ha q hq]
          by_cases y1 : gnE F q ∧ gCn (gnE F) q < x
          · rw [if_pos y1, if_pos ⟨y1.1, by have := y1.2; omega⟩]
          · rw [if_neg y1, if_neg (fun y2 => y1 ⟨y2.1, by
              have ne : gCn (gnE F) q ≠ x := fun y3 => eq (gCn_inj y2.1 p2 (by omega))
              have := y2.2
              omega⟩)]
  -- the old entries
  have l31 : ∀ (m x : Nat) (M3 : gM), x + m = gCn (gnE F0) 5200 → gOff (fun a _ => a = c + 235) M M3 → (∀ p, p < 5200 → M3 (c + 235) p = @ite Int (gnE F0 p ∧ x ≤ gCn (gnE F0) p) (Classical.propDecidable _) (gCn (gnE F0) p : Int) 400) → wp l G y_Rs_follow (gRr (d + 9 + 1) 0) true (fun o X' M' => ∃ v, o = .returned (some (gI v)) ∧ g32 v ∧ k v X' M') true 31 [.val (gR G (c + 234)), .val (gR G r1), .val (gR G r2), .unset, .val (gI (x : Int)), .unset] [] P M3 0 0 := by
    intro m
    induction m with
    | zero =>
      intro x M3 hx o3 ha
      refine u_Rs_follow_31 g6 s6 t6 ⟨by omega, by omega⟩ (fun _ => ?_)
      rw [A235 M3 o3 _ _ (by omega), n0]
      refine ⟨fun _ => l64 _ 0 M3 (Nat.zero_add _) o3 (fun p hp => ?_), fun z => absurd (by omega) z⟩
      rw [ha p hp, if_neg (fun y => by have := gCn_lt (Q := gnE F0) hp y.1; have := y.2; omega), if_neg (fun y => absurd y.2 (Nat.not_lt_zero _))]
    | succ m ih =>
      intro x M3 hx o3 ha
      obtain ⟨p, p1, p2, p3⟩ := gCn_ex (Q := gnE F0) 5200 x (by omega)
      cases e : F0 p with
      | none => exact absurd e p2
      | some y =>
        have pl : M3 (r2 + 1) x = (p : Int) := by
          rw [A235 M3 o3 _ _ (by omega), ← p3]
          exact (hst0.2.2.2.2 p p1 y.1 y.2 e).1
        refine u_Rs_follow_31 g6 s6 t6 ⟨by omega, by omega⟩ (fun _ => ?_)
        rw [A235 M3 o3 _ _ (by omega), n0, Int.toNat_natCast, pl, Int.toNat_natCast, w32_id (x := (x : Int) + 1) ⟨by omega, by omega⟩, show (x : Int) + 1 = ((x + 1 : Nat) : Int) by omega]
        refine ⟨fun z => absurd z (by omega), fun _ => ⟨⟨by omega, by omega⟩, fun _ => ⟨⟨by omega, by omega⟩, ih (x + 1) _ (by omega) (o3.up rfl) (fun q hq => ?_)⟩⟩⟩
        by_cases eq : q = p
        · rw [eq, gUp_eq, if_neg (fun y1 => by have := y1.2; omega)]
        · rw [gUp_k eq, ha q hq]
          by_cases y1 : gnE F0 q ∧ x ≤ gCn (gnE F0) q
          · rw [if_pos y1, if_pos ⟨y1.1, by
              have ne : gCn (gnE F0) q ≠ x := fun y3 => eq (gCn_inj y1.1 p2 (by omega))
              have := y1.2
              omega⟩]
          · rw [if_neg y1, if_neg (fun y2 => y1 ⟨y2.1, by have := y2.2; omega⟩)]
  refine l31 _ 0 M (Nat.zero_add _) (gOff.rf _ _) (fun p hp => ?_)
  rw [hat0 p hp]
  unfold gAt
  by_cases y : gnE F0 p
  · rw [if_pos y, if_pos ⟨y, Nat.zero_le _⟩]
  · rw [if_neg y, if_neg (fun z => y z.1)]
    rfl
end gfF
