/-! The class's states: what they hold, what reads what. -/
def gnE (F : gSht) (p : Nat) : Prop := F p ≠ none
/-- how many targets lie before a place's -/
def gSp (F : gSht) : Nat → Nat
  | 0 => 0
  | n + 1 => gSp F n + (match F n with | none => 0 | some q => q.2.length)
/-- content id of the class is S -/
def gcCn (M : gM) (c id : Nat) (S : List Int) : Prop := (id < 513 ∧ (id : Int) < M (c + 2) 11) ∧ M (c + 3) id = gSrt S ∧ (∀ i, i < (gRefs S).length → 0 ≤ ((gRefs S).getD i (0, 0, 0)).2.1 ∧ ((gRefs S).getD i (0, 0, 0)).2.1 ≤ 3) ∧ ∃ cs cz rf : Nat, M (c + 4) id = (cs : Int) ∧ M (c + 5) id = (cz : Int) ∧ (cz ≤ 10480 ∧ (cz : Int) ≤ M (c + 2) 12) ∧ M (c + 6) id = (rf : Int) ∧ M (c + 7) id = ((gRefs S).length : Int) ∧ (rf + (gRefs S).length ≤ 10480 ∧ ((rf + (gRefs S).length : Nat) : Int) ≤ M (c + 2) 13) ∧ gRfM M c id rf (gRefs S) ∧ (gTree S = none → cz = cs + 1 ∧ gAt2 M c cs 3 1) ∧ (∀ e rs, gTree S = some (e, rs) → cz = cs + (gxLn e).1 ∧ ∃ B : Nat, (B ≤ 10480 ∧ (B : Int) ≤ M (c + 2) 14) ∧ (gxCo M c S B e).1 cs)
/-- the state at r1 is the sheet -/
def gcSt (M : gM) (c r1 : Nat) (F : gSht) : Prop := M r1 0 = (gCn (gnE F) 5200 : Int) ∧ gCn (gnE F) 5200 ≤ 400 ∧ gSp F 5200 ≤ 20000 ∧ (∀ p, p ≤ 5200 → M (r1 + 3) (gCn (gnE F) p) = (gSp F p : Int)) ∧ ∀ p, p < 5200 → ∀ S tg, F p = some (S, tg) → M (r1 + 1) (gCn (gnE F) p) = (p : Int) ∧ (∃ id : Nat, M (r1 + 2) (gCn (gnE F) p) = (id : Int) ∧ gcCn M c id S) ∧ ∀ i, i < tg.length → M (r1 + 4) (gSp F p + i) = gTt tg i
/-- the entry at each place -/
noncomputable def gAt (F : gSht) (p : Nat) : Nat := @ite Nat (gnE F p) (Classical.propDecidable _) (gCn (gnE F) p) 400
def gcAt (M : gM) (c : Nat) (F : gSht) : Prop := ∀ p, p < 5200 → M (c + 235) p = (gAt F p : Int)
theorem gSp_s {F : gSht} {p : Nat} {S tg : List Int} (h : F p = some (S, tg)) : gSp F (p + 1) = gSp F p + tg.length := by
  show gSp F p + _ = _
  rw [h]
theorem gSp_mono {F : gSht} : ∀ (m n : Nat), gSp F n ≤ gSp F (n + m) := by
  intro m
  induction m with
  | zero => intro n; exact Nat.le_refl _
  | succ m ih =>
    intro n
    have := ih n
    show gSp F n ≤ gSp F (n + m) + _
    omega
theorem gSp_le {F : gSht} {m n : Nat} (h : m ≤ n) : gSp F m ≤ gSp F n := by
  have := gSp_mono (F := F) (n - m) m
  rw [show m + (n - m) = n by omega] at this
  exact this
theorem gShp : ∀ f k : Nat, f < 4 → k < 3 → (gAnd ((f : Int) + 4 * (k : Int)) 4 = 0 ↔ k ≠ 1) := by
  have : ∀ f : Nat, f < 4 → ∀ k : Nat, k < 3 → (gAnd ((f : Int) + 4 * (k : Int)) 4 = 0 ↔ k ≠ 1) := by decide +kernel
  exact fun f k hf hk => this f hf k hk
theorem gnE_s {F : gSht} {p : Nat} {S tg : List Int} (h : F p = some (S, tg)) : gnE F p := fun y => by rw [h] at y; cases y
section geY
variable {M : gM} {c r1 : Nat} {F : gSht}
theorem gcSt.en (h : gcSt M c r1 F) (hF : gSok F) {p : Nat} (hp : p < 5200) {S tg : List Int} (e : F p = some (S, tg)) : ∃ rf : Nat, gStE M c r1 (gCn (gnE F) p) (gSp F p) (gSp F p + tg.length) rf ∧ ∀ q, gMcv M c r1 (gCn (gnE F) p) q ↔ gCov S tg q := by
  obtain ⟨h0, h1, h2, h3, h4⟩ := h
  obtain ⟨a1, ⟨ci, b1, ⟨b2, b2'⟩, b3, b4, cs, cz, rf, c1, c2, ⟨c3, c3'⟩, c4, c5, ⟨c6, c6'⟩, c7, c8, c9⟩, a3⟩ := h4 p hp S tg e
  have ok := (hF p S tg e).2
  obtain ⟨k1, k2, k3, k4, k5, k6⟩ := ok
  have sle := gSp_le (F := F) (show p + 1 ≤ 5200 from hp)
  rw [gSp_s e] at sle
  have sh : ∀ k, k < tg.length → M (c + 12) (rf + k) = ((gRefs S).getD k (0, 0, 0)).2.1 + 4 * gCor S k := fun k hk => (c7.1 k (by omega)).2
  have s4 : ∀ k, k < tg.length → (gAnd (M (c + 12) (rf + k)) 4 = 0 ↔ gCor S k ≠ 1) := fun k hk => by
    rw [sh k hk]
    have f1 := b4 k (by omega)
    have g1 : 0 ≤ gCor S k ∧ gCor S k < 3 := by
      rcases k6 k hk with y | y | y
      · omega
      · have := y.1; omega
      · have := y.1; omega
    have := gShp (((gRefs S).getD k (0, 0, 0)).2.1).toNat (gCor S k).toNat (by omega) (by omega)
    rw [show (((((gRefs S).getD k (0, 0, 0)).2.1).toNat : Nat) : Int) = ((gRefs S).getD k (0, 0, 0)).2.1 by omega, show (((gCor S k).toNat : Nat) : Int) = gCor S k by omega] at this
    rw [this]
    omega
  have nxt : gCn (gnE F) (p + 1) = gCn (gnE F) p + 1 := gCn_y (gnE_s e)
  have hE : gStE M c r1 (gCn (gnE F) p) (gSp F p) (gSp F p + tg.length) rf := by
    refine ⟨h3 p (by omega), ?_, by omega, by omega, by rw [b1]; omega, by rw [b1]; omega, by rw [b1, Int.toNat_natCast]; exact c4, by omega, fun k hk1 hk2 => ?_⟩
    · rw [← nxt, h3 (p + 1) (by omega), gSp_s e]
    · have v : M (r1 + 4) k = gTt tg (k - gSp F p) := by
        have := a3 (k - gSp F p) (by omega)
        rw [show gSp F p + (k - gSp F p) = k by omega] at this
        exact this
      rw [v]
      refine ⟨k5 _ (by omega), fun y y2 => ?_⟩
      have cr : gCor S (k - gSp F p) = 1 := Decidable.byContradiction fun z => y ((s4 _ (by omega)).mpr z)
      rcases k6 (k - gSp F p) (by omega) with z | z | z
      · rw [cr] at z; exact absurd z (by decide)
      · refine ⟨by omega, ?_⟩
        have := a3 (k - gSp F p + 1) z.2.1
        rw [show gSp F p + (k - gSp F p + 1) = k + 1 by omega] at this
        rw [this]
        exact fun w => y2 (z.2.2.2.mpr w)
      · rw [cr] at z; exact absurd z.1 (by decide)
  refine ⟨rf, hE, fun q => ⟨?_, ?_⟩⟩
  · rintro ⟨s2, e2, rf2, k, g1, g2, g3, g4, g5⟩
    obtain ⟨u1, u2, u3⟩ := g1.uq hE
    subst u1
    subst u2
    subst u3
    have v : M (r1 + 4) k = gTt tg (k - gSp F p) := by
      have := a3 (k - gSp F p) (by omega)
      rw [show gSp F p + (k - gSp F p) = k by omega] at this
      exact this
    rw [v] at g4 g5
    rcases g5 with ⟨w1, w2⟩ | ⟨w1, w2⟩
    · have nc := (s4 _ (by omega)).mp w1
      rcases k6 (k - gSp F p) (by omega) with z | z | z
      · exact ⟨_, by omega, g4, Or.inl ⟨z, w2⟩⟩
      · exact absurd z.1 nc
      · -- the second corner lies in the range
        obtain ⟨z1, z2, z3⟩ := z
        rcases k6 (k - gSp F p - 1) (by omega) with y | y | y
        · rw [z3] at y; exact absurd y (by decide)
        · obtain ⟨y1, y2, y3, y4⟩ := y
          rw [show k - gSp F p - 1 + 1 = k - gSp F p by omega] at y2 y3 y4
          have t1 := k5 (k - gSp F p - 1) (by omega)
          have t2 := k5 (k - gSp F p) (by omega)
          have t3 : gTt tg (k - gSp F p - 1) ≠ -1 := fun w => g4 (y4.mp w)
          refine ⟨k - gSp F p - 1, by omega, t3, Or.inr ⟨y1, ?_⟩⟩
          rw [show k - gSp F p - 1 + 1 = k - gSp F p by omega]
          have := (gInB_self (a := gTt tg (k - gSp F p - 1)) (b := gTt tg (k - gSp F p)) (by omega) (by omega)).2
          rw [w2] at this
          rw [w2]
          exact this
        · rw [z3] at y; exact absurd y.1 (by decide)
    · have cr : gCor S (k - gSp F p) = 1 := Decidable.byContradiction fun z => w1 ((s4 _ (by omega)).mpr z)
      have kl : k - gSp F p + 1 < tg.length := by
        rcases k6 (k - gSp F p) (by omega) with z | z | z
        · rw [cr] at z; exact absurd z (by decide)
        · exact z.2.1
        · rw [cr] at z; exact absurd z.1 (by decide)
      have v2 := a3 (k - gSp F p + 1) kl
      rw [show gSp F p + (k - gSp F p + 1) = k + 1 by omega] at v2
      rw [v2] at w2
      exact ⟨_, by omega, g4, Or.inr ⟨cr, w2⟩⟩
  · rintro ⟨k, g1, g2, g3⟩
    have v := a3 k g1
    refine ⟨gSp F p, gSp F p + tg.length, rf, gSp F p + k, hE, by omega, by omega, by rw [v]; exact g2, ?_⟩
    rw [show rf + (gSp F p + k - gSp F p) = rf + k by omega, v]
    rcases g3 with ⟨w1, w2⟩ | ⟨w1, w2⟩
    · exact Or.inl ⟨(s4 k g1).mpr (by omega), w2⟩
    · have kl : k + 1 < tg.length := by
        rcases k6 k g1 with z | z | z
        · rw [w1] at z; exact absurd z (by decide)
        · exact z.2.1
        · rw [w1] at z; exact absurd z.1 (by decide)
      have v2 := a3 (k + 1) kl
      rw [show gSp F p + (k + 1) = gSp F p + k + 1 by omega] at v2
      rw [v2]
      exact Or.inr ⟨fun y => (s4 k g1).mp y w1, w2⟩
theorem gAt_le (hn : gCn (gnE F) 5200 ≤ 400) {p : Nat} (hp : p < 5200) : gAt F p ≤ 400 := by
  unfold gAt
  split
  · rename_i h
    have := gCn_lt (Q := gnE F) hp h
    omega
  · exact Nat.le_refl _
/-- the class's reads are those of the sheet -/
theorem gcSt.rel (h : gcSt M c r1 F) (hF : gSok F) (ha : gcAt M c F) (i j : Nat) : gRel M c r1 (c + 235) (gCn (gnE F) 5200) i j ↔ ∃ p q, gCn (gnE F) p = i ∧ gCn (gnE F) q = j ∧ gEdg F p q := by
  have hn := h.2.1
  constructor
  · rintro ⟨g1, g2, q, g3, g4⟩
    obtain ⟨p, p1, p2, p3⟩ := gCn_ex (Q := gnE F) 5200 i g1
    cases e : F p with
    | none => exact absurd e p2
    | some x =>
      obtain ⟨S, tg⟩ := x
      obtain ⟨rf, hE, hc⟩ := h.en hF p1 e
      rw [p3] at hc
      have cov := (hc q).mp g3
      have ql := gCov_lt (hF p S tg e).2 cov
      rw [ha q ql] at g4
      unfold gAt at g4
      split at g4
      · rename_i nq
        exact ⟨p, q, p3, by omega, ⟨S, tg, e, cov⟩, nq⟩
      · omega
  · rintro ⟨p, q, p3, q3, ⟨S, tg, e, cov⟩, nq⟩
    have pl := (hF p S tg e).1
    have ql := gCov_lt (hF p S tg e).2 cov
    obtain ⟨rf, hE, hc⟩ := h.en hF pl e
    have l1 := gCn_lt (Q := gnE F) pl (gnE_s e)
    have l2 := gCn_lt (Q := gnE F) ql nq
    refine ⟨by omega, by omega, q, by rw [← p3]; exact (hc q).mpr cov, ?_⟩
    rw [ha q ql]
    unfold gAt
    rw [if_pos (show gnE F q from nq), q3]
end geY
