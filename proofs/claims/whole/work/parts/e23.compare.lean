/-! The class's Results: compareWith. -/
section gfD
variable {Q Q0 Q1 : Nat → Prop}
theorem gCn_gap {b : Nat} : ∀ (m : Nat), (∀ q, b ≤ q → q < b + m → ¬ Q q) → gCn Q (b + m) = gCn Q b := by
  intro m
  induction m with
  | zero => intro _; rfl
  | succ m ih =>
    intro h
    rw [show b + (m + 1) = b + m + 1 by omega, gCn_n (h (b + m) (by omega) (by omega)), ih (fun q h1 h2 => h q h1 (by omega))]
theorem gCn_gp {b p : Nat} (hb : b ≤ p) (h : ∀ q, b ≤ q → q < p → ¬ Q q) : gCn Q p = gCn Q b := by
  have := gCn_gap (Q := Q) (b := b) (p - b) (fun q h1 h2 => h q h1 (by omega))
  rw [show b + (p - b) = p by omega] at this
  exact this
theorem gNxt {b : Nat} (hb : b ≤ 5200) : ∃ p, b ≤ p ∧ p ≤ 5200 ∧ (∀ q, b ≤ q → q < p → ¬ Q q) ∧ (p < 5200 → Q p) ∧ (p < 5200 ↔ gCn Q b < gCn Q 5200) ∧ gCn Q p = gCn Q b := by
  by_cases h : gCn Q b < gCn Q 5200
  · obtain ⟨p, p1, p2, p3⟩ := gCn_ex (Q := Q) 5200 _ h
    have hbp : b ≤ p := Decidable.byContradiction fun y => by have := gCn_lt (Q := Q) (show p < b by omega) p2; omega
    refine ⟨p, hbp, by omega, fun q h1 h2 hq => ?_, fun _ => p2, ⟨fun _ => h, fun _ => p1⟩, p3⟩
    have := gCn_lt (Q := Q) h2 hq
    have := gCn_le (Q := Q) h1
    omega
  · have e : gCn Q b = gCn Q 5200 := by have := gCn_le (Q := Q) hb; omega
    refine ⟨5200, hb, Nat.le_refl _, fun q h1 h2 hq => ?_, fun y => absurd y (Nat.lt_irrefl _), ⟨fun y => absurd y (Nat.lt_irrefl _), fun y => absurd y h⟩, e.symm⟩
    have := gCn_lt (Q := Q) h2 hq
    have := gCn_le (Q := Q) h1
    omega
theorem gCn_or (h : ∀ p, Q p → Q0 p ∨ Q1 p) : ∀ n, gCn Q n ≤ gCn Q0 n + gCn Q1 n := by
  intro n
  induction n with
  | zero => exact Nat.le_refl _
  | succ n ih =>
    have m0 := gCn_le (Q := Q0) (show n ≤ n + 1 by omega)
    have m1 := gCn_le (Q := Q1) (show n ≤ n + 1 by omega)
    by_cases q : Q n
    · rw [gCn_y q]
      rcases h n q with z | z
      · rw [gCn_y z]; omega
      · rw [gCn_y z]; omega
    · rw [gCn_n q]; omega
end gfD
section gfE
variable {l : Launch} {G : gG} {d : Nat} {X : gX} {M1 : gM} {c r1 r2 v1 v2 : Nat} {F0 F : gSht} {w0 w : Nat → gVl}
/-- what holds something is not empty -/
theorem gFxp.nz {V : Int → gVl} (h : gFxp F V) {p : Nat} (hp : p < 5200) (hn : gnE F p) : (V p).kd ≠ 0 := by
  cases e : F p with
  | none => exact absurd e hn
  | some x =>
    obtain ⟨S, tg⟩ := x
    rw [(h p hp).2 S tg e]
    split
    · exact (show ¬ (4 : Int) = 0 by decide)
    · unfold gOut
      cases gTree S with
      | none => exact (show ¬ (4 : Int) = 0 by decide)
      | some q =>
        show (gxTp _).kd ≠ 0
        unfold gxTp
        split
        · exact (show ¬ (1 : Int) = 0 by decide)
        · rename_i y; exact y
def gCmR (c : Nat) : Nat → Nat → Prop := fun a k => a = c + 236 ∨ (a = c + 234 ∧ k = 7)
theorem c_Rs_compareWith {k : gM → Prop} (hX : glX X c) (h1 : gsX X r1) (h2 : gsX X r2) (hs : X.2.2 (c + 234) 6 = r2) (hv1 : X.2.2 (c + 234) 4 = v1 ∧ gvX X v1 401) (hv2 : X.2.2 (c + 234) 5 = v2 ∧ gvX X v2 401) (a1 : c + 23 < r1 ∧ r1 + 4 < c + 234) (a2 : c + 23 < r2 ∧ r2 + 4 < c + 234) (b1 : c + 236 < v1) (b2 : c + 236 < v2) (n1 : M1 r1 0 = (gCn (gnE F0) 5200 : Int)) (n2 : M1 r2 0 = (gCn (gnE F) 5200 : Int)) (l1 : gCn (gnE F0) 5200 ≤ 400) (l2 : gCn (gnE F) 5200 ≤ 400) (p1 : ∀ p, p < 5200 → gnE F0 p → M1 (r1 + 1) (gCn (gnE F0) p) = (p : Int)) (p2 : ∀ p, p < 5200 → gnE F p → M1 (r2 + 1) (gCn (gnE F) p) = (p : Int)) (t1 : gvT M1 v1 w) (t2 : gvT M1 v2 w0) (f0 : gFxp F0 (gEw F0 w0)) (f1 : gFxp F (gEw F w)) (hk : ∀ M2, gOff (gCmR c) M1 M2 → M2 (c + 234) 7 = (gCn (gQch (gEw F0 w0) (gEw F w)) 5200 : Int) → (∀ p, p < 5200 → gQch (gEw F0 w0) (gEw F w) p → M2 (c + 236) (gCn (gQch (gEw F0 w0) (gEw F w)) p) = (p : Int)) → k M2) : cV l G y_Rs_compareWith (gRm (d + 3)) true [gR G (c + 234), gR G r1] X M1 k := by
  -- places that one of them alone holds, and places that none holds
  have qn : ∀ p, p < 5200 → ¬ gnE F0 p → ¬ gnE F p → ¬ gQch (gEw F0 w0) (gEw F w) p := fun p hp x y q => q (by
    rw [(f0 p hp).1 (Classical.byContradiction x), (f1 p hp).1 (Classical.byContradiction y)])
  have qa : ∀ p, p < 5200 → gnE F0 p → ¬ gnE F p → gQch (gEw F0 w0) (gEw F w) p := fun p hp x y q => f0.nz hp x (by
    rw [q, (f1 p hp).1 (Classical.byContradiction y)])
  have qb : ∀ p, p < 5200 → ¬ gnE F0 p → gnE F p → gQch (gEw F0 w0) (gEw F w) p := fun p hp x y q => f1.nz hp y (by
    rw [← q, (f0 p hp).1 (Classical.byContradiction x)])
  have qc : ∀ p, p < 5200 → gnE F0 p → gnE F p → (gQch (gEw F0 w0) (gEw F w) p ↔ w (gCn (gnE F) p) ≠ w0 (gCn (gnE F0) p)) := fun p hp x y => by
    unfold gQch
    rw [gEw_nat, gEw_nat, gAt_y x, gAt_y y]
    exact ⟨fun z q => z q.symm, fun z q => z q.symm⟩
  have le2 : ∀ b, b ≤ 5200 → gCn (gQch (gEw F0 w0) (gEw F w)) b ≤ gCn (gnE F0) b + gCn (gnE F) b := fun b hb => by
    have e : gCn (gQch (gEw F0 w0) (gEw F w)) b = gCn (fun p => gQch (gEw F0 w0) (gEw F w) p ∧ p < 5200) b := gCn_ext b (fun p hp => ⟨fun y => ⟨y, by omega⟩, fun y => y.1⟩)
    rw [e]
    refine gCn_or (fun p hp => ?_) b
    exact Classical.byContradiction fun y => qn p hp.2 (fun z => y (Or.inl z)) (fun z => y (Or.inr z)) hp.1
  generalize hQ : gQch (gEw F0 w0) (gEw F w) = QQ at *
  have key : ∀ (left b : Nat) (M : gM), b ≤ 5200 → left ≤ 800 → gCn (gnE F0) 5200 + gCn (gnE F) 5200 ≤ left + (gCn (gnE F0) b + gCn (gnE F) b) → gOff (gCmR c) M1 M → M (c + 234) 7 = (gCn QQ b : Int) → (∀ p, p < b → QQ p → M (c + 236) (gCn QQ p) = (p : Int)) → wp l G y_Rs_compareWith (gRm (d + 2 + 1)) true (kkV X k) true 23 [.val (gR G (c + 234)), .val (gR G r1), .val (gI (gCn (gnE F0) b : Int)), .val (gI (gCn (gnE F) b : Int)), .val (gI (left : Int)), .unset, .unset] [] X M 0 0 := by
    -- the end
    have fin : ∀ (b : Nat) (M : gM), b ≤ 5200 → gCn (gnE F0) b = gCn (gnE F0) 5200 → gCn (gnE F) b = gCn (gnE F) 5200 → gOff (gCmR c) M1 M → M (c + 234) 7 = (gCn QQ b : Int) → (∀ p, p < b → QQ p → M (c + 236) (gCn QQ p) = (p : Int)) → k M := by
      intro b M hb e0 e1 o h7 hp
      have n0 : ∀ q, b ≤ q → q < 5200 → ¬ QQ q := fun q h1 h2 => by
        have x0 : ¬ gnE F0 q := fun y => by have := gCn_lt (Q := gnE F0) h2 y; have := gCn_le (Q := gnE F0) h1; omega
        have x1 : ¬ gnE F q := fun y => by have := gCn_lt (Q := gnE F) h2 y; have := gCn_le (Q := gnE F) h1; omega
        exact qn q h2 x0 x1
      have e := gCn_gp (Q := QQ) hb n0
      refine hk M o (by rw [e]; exact h7) (fun p pl hq => hp p (Decidable.byContradiction fun y => n0 p (by omega) pl hq) hq)
    intro left
    induction left with
    | zero =>
      intro b M hb hl hm o h7 hp
      have m0 := gCn_le (Q := gnE F0) hb
      have m1 := gCn_le (Q := gnE F) hb
      exact w_Rs_compareWith_23 hX ⟨by omega, by omega⟩ ⟨by omega, by omega⟩ (g32_c rfl) h1 ⟨hs, h2⟩ ⟨fun _ => fin b M hb (by omega) (by omega) o h7 hp, fun y => absurd (by decide) y⟩
    | succ left ih =>
      intro b M hb hl hm o h7 hp
      have m0 := gCn_le (Q := gnE F0) hb
      have m1 := gCn_le (Q := gnE F) hb
      have sm : ∀ a j, a ≤ c + 233 ∨ c + 237 ≤ a → M a j = M1 a j := fun a j ha => o _ _ (by unfold gCmR; omega)
      have g2 : g32 (gCn (gnE F0) b : Int) := ⟨by omega, by omega⟩
      have g3 : g32 (gCn (gnE F) b : Int) := ⟨by omega, by omega⟩
      have g4 : g32 ((left + 1 : Nat) : Int) := ⟨by omega, by omega⟩
      have e0 : M r1 0 = (gCn (gnE F0) 5200 : Int) := (sm _ _ (by omega)).trans n1
      have e1 : M r2 0 = (gCn (gnE F) 5200 : Int) := (sm _ _ (by omega)).trans n2
      obtain ⟨op, o1, o2, o3, o4, o5, o6⟩ := gNxt (Q := gnE F0) hb
      obtain ⟨pl, q1, q2, q3, q4, q5, q6⟩ := gNxt (Q := gnE F) hb
      have cq := le2 b hb
      have T1 : gvT M v1 w := t1.off o (fun a j h => by unfold gCmR at h; omega)
      have T2 : gvT M v2 w0 := t2.off o (fun a j h => by unfold gCmR at h; omega)
      -- behind the comparison: both go on
      have s146 : ∀ (M3 : gM), op < 5200 ∨ pl < 5200 → gOff (gCmR c) M1 M3 → M3 (c + 234) 7 = (gCn QQ (min op pl + 1) : Int) → (∀ p, p < min op pl + 1 → QQ p → M3 (c + 236) (gCn QQ p) = (p : Int)) → wp l G y_Rs_compareWith (gRm (d + 2 + 1)) true (kkV X k) true 146 [.val (gR G (c + 234)), .val (gR G r1), .val (gI (gCn (gnE F0) b : Int)), .val (gI (gCn (gnE F) b : Int)), .val (gI ((left + 1 : Nat) : Int)), .val (gI (op : Int)), .val (gI (pl : Int))] [] X M3 0 0 := by
        intro M3 hlt o3' h73 hp3
        have ew : w32 (((left + 1 : Nat) : Int) + (-1)) = (left : Int) := (w32_id ⟨by omega, by omega⟩).trans (by omega)
        have i0 : w32 ((gCn (gnE F0) b : Int) + 0) = (gCn (gnE F0) b : Int) := (w32_id ⟨by omega, by omega⟩).trans (by omega)
        have i1 : w32 ((gCn (gnE F0) b : Int) + 1) = ((gCn (gnE F0) b + 1 : Nat) : Int) := (w32_id ⟨by omega, by omega⟩).trans (by omega)
        have k0 : w32 ((gCn (gnE F) b : Int) + 0) = (gCn (gnE F) b : Int) := (w32_id ⟨by omega, by omega⟩).trans (by omega)
        have k1 : w32 ((gCn (gnE F) b : Int) + 1) = ((gCn (gnE F) b + 1 : Nat) : Int) := (w32_id ⟨by omega, by omega⟩).trans (by omega)
        have go := ih (min op pl + 1) M3 (by omega) (by omega)
        refine w_Rs_compareWith_146 hX g2 g3 g4 ⟨by omega, by omega⟩ ⟨by omega, by omega⟩ h1 hv2 ⟨hs, h2⟩ hv1 ?_
        rw [ew, i0, i1, k0, k1]
        refine ⟨fun z => ⟨fun z2 => absurd z2 (by omega), fun z2 => ?_⟩, fun z => ⟨fun z2 => ?_, fun z2 => ?_⟩⟩
        · have em : min op pl = pl := by omega
          rw [em] at go h73 hp3
          have c0 : gCn (gnE F0) (pl + 1) = gCn (gnE F0) b := gCn_gp (by omega) (fun q h1 h2 => o3 q h1 (by omega))
          have c1 : gCn (gnE F) (pl + 1) = gCn (gnE F) b + 1 := by rw [gCn_y (q4 (by omega)), q6]
          rw [c0, c1] at go
          exact go (by omega) o3' h73 hp3
        · have em : min op pl = op := by omega
          rw [em] at go h73 hp3
          have c0 : gCn (gnE F0) (op + 1) = gCn (gnE F0) b + 1 := by rw [gCn_y (o4 (by omega)), o6]
          have c1 : gCn (gnE F) (op + 1) = gCn (gnE F) b := gCn_gp (by omega) (fun q h1 h2 => q3 q h1 (by omega))
          rw [c0, c1] at go
          exact go (by omega) o3' h73 hp3
        · have em : op = pl := by omega
          rw [← em, Nat.min_self] at go h73 hp3
          have c0 : gCn (gnE F0) (op + 1) = gCn (gnE F0) b + 1 := by rw [gCn_y (o4 (by omega)), o6]
          have c1 : gCn (gnE F) (op + 1) = gCn (gnE F) b + 1 := by rw [em, gCn_y (q4 (by omega)), q6]
          rw [c0, c1] at go
          exact go (by omega) o3' h73 hp3
      -- nothing is another before that place
      have none : ∀ q, b ≤ q → q < min op pl → ¬ QQ q := fun q x y => qn q (by omega) (o3 q x (by omega)) (q3 q x (by omega))
      have cm : gCn QQ (min op pl) = gCn QQ b := gCn_gp (by omega) none
      have keep : ∀ p, p < min op pl → QQ p → M (c + 236) (gCn QQ p) = (p : Int) := fun p x y => hp p (Decidable.byContradiction fun z => none p (by omega) x y) y
      have s120 : (op < 5200 ∨ pl < 5200) → QQ (min op pl) → wp l G y_Rs_compareWith (gRm (d + 2 + 1)) true (kkV X k) true 120 [.val (gR G (c + 234)), .val (gR G r1), .val (gI (gCn (gnE F0) b : Int)), .val (gI (gCn (gnE F) b : Int)), .val (gI ((left + 1 : Nat) : Int)), .val (gI (op : Int)), .val (gI (pl : Int))] [] X M 0 0 := by
        intro hlt hq
        have bd : gCn QQ b < 800 := by
          rcases hlt with y | y
          · have := o5.mp y; omega
          · have := q5.mp y; omega
        refine w_Rs_compareWith_120 hX g2 g3 g4 ⟨by omega, by omega⟩ ⟨by omega, by omega⟩ h1 hv2 ⟨hs, h2⟩ hv1 fun _ => c_min ⟨by omega, by omega⟩ ⟨by omega, by omega⟩ ?_
        rw [h7, Int.toNat_natCast, gUp_a (by omega), h7, w32_id (x := (gCn QQ b : Int) + 1) ⟨by omega, by omega⟩, show min (op : Int) (pl : Int) = ((min op pl : Nat) : Int) by omega]
        refine ⟨⟨by omega, by omega⟩, fun _ => s146 _ hlt ((o.up (Or.inl rfl)).up (Or.inr ⟨rfl, rfl⟩)) (by rw [gUp_eq, gCn_y hq, cm]; omega) (fun p x y => ?_)⟩
        rw [gUp_a (by omega)]
        by_cases e : p = min op pl
        · rw [e, cm, gUp_eq]
        · rw [gUp_k (fun z => e (gCn_inj y hq (by rw [z, cm])))]
          exact keep p (by omega) y
      have s146n : (op < 5200 ∨ pl < 5200) → ¬ QQ (min op pl) → wp l G y_Rs_compareWith (gRm (d + 2 + 1)) true (kkV X k) true 146 [.val (gR G (c + 234)), .val (gR G r1), .val (gI (gCn (gnE F0) b : Int)), .val (gI (gCn (gnE F) b : Int)), .val (gI ((left + 1 : Nat) : Int)), .val (gI (op : Int)), .val (gI (pl : Int))] [] X M 0 0 := fun hlt hq => s146 M hlt o (by rw [gCn_n hq, cm]; exact h7) (fun p x y => by
        by_cases e : p = min op pl
        · rw [e] at y; exact absurd y hq
        · exact keep p (by omega) y)
      have s47 : (op < 5200 ∨ pl < 5200) → wp l G y_Rs_compareWith (gRm (d + 2 + 1)) true (kkV X k) true 47 [.val (gR G (c + 234)), .val (gR G r1), .val (gI (gCn (gnE F0) b : Int)), .val (gI (gCn (gnE F) b : Int)), .val (gI ((left + 1 : Nat) : Int)), .unset, .unset] [] X M 0 0 := by
        intro hlt
        have v0 : op < 5200 → M (r1 + 1) (gCn (gnE F0) b) = (op : Int) := fun y => by rw [← o6, sm _ _ (by omega)]; exact p1 op y (o4 y)
        have vp : pl < 5200 → M (r2 + 1) (gCn (gnE F) b) = (pl : Int) := fun y => by rw [← q6, sm _ _ (by omega)]; exact p2 pl y (q4 y)
        have ne : ¬ (op : Int) = (pl : Int) → wp l G y_Rs_compareWith (gRm (d + 2 + 1)) true (kkV X k) true 120 [.val (gR G (c + 234)), .val (gR G r1), .val (gI (gCn (gnE F0) b : Int)), .val (gI (gCn (gnE F) b : Int)), .val (gI ((left + 1 : Nat) : Int)), .val (gI (op : Int)), .val (gI (pl : Int))] [] X M 0 0 := fun y => s120 hlt (by
          by_cases z : op < pl
          · rw [show min op pl = op by omega]
            exact qa op (by omega) (o4 (by omega)) (q3 op o1 z)
          · rw [show min op pl = pl by omega]
            exact qb pl (by omega) (o3 pl q1 (by omega)) (q4 (by omega)))
        have cmpr : (op : Int) = (pl : Int) → cZ l G y_Vl_same (gRm (d + 1 + 1)) false [gR G v1, gI (gCn (gnE F) b : Int), gR G v2, gI (gCn (gnE F0) b : Int)] X M (fun v11 M10 => ((¬ v11 = 0 → (wp l G y_Rs_compareWith (gRm (d + 2 + 1)) true (kkV X k) true 146 [.val (gR G (c + 234)), .val (gR G r1), .val (gI (gCn (gnE F0) b : Int)), .val (gI (gCn (gnE F) b : Int)), .val (gI ((left + 1 : Nat) : Int)), .val (gI (op : Int)), .val (gI (pl : Int))] [] X M10 0 0)) ∧ (v11 = 0 → (wp l G y_Rs_compareWith (gRm (d + 2 + 1)) true (kkV X k) true 120 [.val (gR G (c + 234)), .val (gR G r1), .val (gI (gCn (gnE F0) b : Int)), .val (gI (gCn (gnE F) b : Int)), .val (gI ((left + 1 : Nat) : Int)), .val (gI (op : Int)), .val (gI (pl : Int))] [] X M10 0 0)))) := by
          intro y
          have ep : op = pl := by omega
          have iff1 := qc op (by omega) (o4 (by omega)) (by rw [ep]; exact q4 (by omega))
          rw [o6] at iff1
          have e6 : gCn (gnE F) op = gCn (gnE F) b := by rw [ep]; exact q6
          rw [e6] at iff1
          have mm : min op pl = op := by omega
          rw [mm] at s120 s146n
          have u1 := T1 (gCn (gnE F) b) (by omega)
          have u2 := T2 (gCn (gnE F0) b) (by omega)
          refine c_Vl_same (n := 401) (m := 401) hv1.2 ⟨by omega, by omega⟩ hv2.2 ⟨by omega, by omega⟩ (by rw [Int.toNat_natCast]; exact u1.1) u1.2.1 (by rw [Int.toNat_natCast]; exact u2.1) u2.2.1 (fun z => ⟨fun _ => s146n hlt (fun q => (iff1.mp q) z), fun q => absurd q (by decide)⟩) (fun z => ⟨fun q => absurd rfl q, fun _ => s120 hlt (iff1.mpr z)⟩)
        refine w_Rs_compareWith_47 hX g2 g3 g4 h1 hv2 ⟨hs, h2⟩ hv1 fun _ => ?_
        rw [e0, e1, Int.toNat_natCast, Int.toNat_natCast]
        refine ⟨fun z => ?_, fun z => ?_⟩
        · have op5 : op = 5200 := Decidable.byContradiction fun y => by have := o5.mp (by omega); omega
          refine fun _ => ⟨fun z2 => ?_, fun z2 => ⟨⟨by omega, by omega⟩, fun _ => ?_⟩⟩
          · exfalso
            have : ¬ pl < 5200 := fun y => by have := q5.mp y; omega
            omega
          · rw [vp (q5.mpr (by omega)), show (5200 : Int) = (op : Int) by omega]
            exact ⟨ne, cmpr⟩
        · refine ⟨⟨by omega, by omega⟩, fun _ => ?_⟩
          rw [v0 (o5.mpr (by omega))]
          refine fun _ => ⟨fun z2 => ?_, fun z2 => ⟨⟨by omega, by omega⟩, fun _ => ?_⟩⟩
          · have pl5 : pl = 5200 := Decidable.byContradiction fun y => by have := q5.mp (by omega); omega
            rw [show (5200 : Int) = (pl : Int) by omega]
            exact ⟨ne, cmpr⟩
          · rw [vp (q5.mpr (by omega))]
            exact ⟨ne, cmpr⟩
      refine w_Rs_compareWith_23 hX g2 g3 g4 h1 ⟨hs, h2⟩ ⟨fun y => absurd y (by omega), fun _ _ => ?_⟩
      rw [e0]
      refine ⟨fun z => s47 (Or.inl (o5.mpr (by omega))), fun z _ => ?_⟩
      rw [e1]
      exact ⟨fun z2 => fin b M hb (by omega) (by omega) o h7 hp, fun z2 => s47 (Or.inr (q5.mpr (by omega)))⟩
  refine e_Rs_compareWith (w_Rs_compareWith_0 (d := d + 2) hX h1 ⟨hs, h2⟩ ?_)
  rw [gUp_a (by omega), gUp_a (by omega), n1, n2, w32_id (x := (gCn (gnE F0) 5200 : Int) + (gCn (gnE F) 5200 : Int)) ⟨by omega, by omega⟩, show (gCn (gnE F0) 5200 : Int) + (gCn (gnE F) 5200 : Int) = ((gCn (gnE F0) 5200 + gCn (gnE F) 5200 : Nat) : Int) by omega]
  exact fun _ _ => key _ 0 (gUp M1 (c + 234) 7 0) (by omega) (by omega) (by omega) ((gOff.rf _ _).up (Or.inr ⟨rfl, rfl⟩)) (by rw [gUp_eq]; rfl) (fun p x => absurd x (Nat.not_lt_zero _))
end gfE
