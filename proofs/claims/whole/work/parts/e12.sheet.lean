/-! A sheet: what every place holds, what reads what, what values it has. -/
/-- bytes TYPED and the targets of the refs, for each place that holds something -/
abbrev gSht : Type := Nat → Option (List Int × List Int)
noncomputable def gRefs (S : List Int) : List gRf := match gTree S with
  | none => []
  | some q => q.2
noncomputable def gCor (S : List Int) (k : Nat) : Int := ((gRefs S).getD k (0, 0, 0)).2.2
def gTt (tg : List Int) (k : Nat) : Int := tg.getD k (-1)
/-- the place q is read -/
def gCov (S tg : List Int) (q : Nat) : Prop := ∃ k, k < tg.length ∧ gTt tg k ≠ -1 ∧ ((gCor S k = 0 ∧ gTt tg k = (q : Int)) ∨ (gCor S k = 1 ∧ gInB q (gTt tg k) (gTt tg (k + 1))))
/-- what may stand in a place -/
def gCok (S tg : List Int) : Prop := S ≠ [] ∧ S.length ≤ 240 ∧ ¬ gBadS S ∧ tg.length = (gRefs S).length ∧ (∀ k, k < tg.length → gTt tg k = -1 ∨ 0 ≤ gTt tg k ∧ gTt tg k < 5200) ∧ (∀ k, k < tg.length → gCor S k = 0 ∨ (gCor S k = 1 ∧ k + 1 < tg.length ∧ gCor S (k + 1) = 2 ∧ (gTt tg k = -1 ↔ gTt tg (k + 1) = -1)) ∨ (gCor S k = 2 ∧ 1 ≤ k ∧ gCor S (k - 1) = 1))
def gSok (F : gSht) : Prop := ∀ p S tg, F p = some (S, tg) → p < 5200 ∧ gCok S tg
def gEdg (F : gSht) (p q : Nat) : Prop := (∃ S tg, F p = some (S, tg) ∧ gCov S tg q) ∧ F q ≠ none
def gCyc (F : gSht) (p : Nat) : Prop := gTC (gEdg F) p p
noncomputable def gOut (V : Int → gVl) (S tg : List Int) : gVl := match gTree S with
  | none => gE 1
  | some q => gxTp (gxEv V (fun i => gTt tg i.toNat) S q.1).1
/-- these are its values -/
noncomputable def gFxp (F : gSht) (V : Int → gVl) : Prop := ∀ p : Nat, p < 5200 → (F p = none → V p = (0, 0, [])) ∧ ∀ S tg, F p = some (S, tg) → V p = @ite gVl (gCyc F p) (Classical.propDecidable _) (gE 8) (gOut V S tg)
def gRnk (F : gSht) (rk : Nat → Nat) : Prop := ∀ p q, ¬ gCyc F p → gEdg F p q → rk q < rk p
section geM
variable {S tg : List Int}
theorem gTree_wf {e : gEx} {rs : List gRf} (h : gTree S = some (e, rs)) (h0 : S ≠ []) (hb : ¬ gBadS S) : (gxWf (gPP rs) (gRR rs) S.length e).1 ∧ gxR e = false ∧ (gxLn e).1 ≤ 100 ∧ gxH e ≤ 100 ∧ rs.length ≤ 100 := by
  have hl : 1 ≤ S.length := by cases S with | nil => exact absurd rfl h0 | cons x t => exact Nat.succ_le_succ (Nat.zero_le _)
  unfold gTree at h
  split at h
  · obtain ⟨a, b, c1, c2, c3, c4, c5⟩ := gForm_ok h hl
    exact ⟨a, b, c4, c3, c5⟩
  · rename_i h61
    split at h
    · rename_i z hz
      cases h
      exact ⟨gNum_ok hz, rfl, by show 1 ≤ 100; omega, by show 0 ≤ 100; omega, by decide⟩
    · rename_i hz
      cases h
      refine ⟨?_, rfl, by show 1 ≤ 100; omega, by show 0 + 1 ≤ 100; omega, by decide⟩
      show (0 : Int) ≤ 0 ∧ (0 : Int) ≤ (S.length : Int) ∧ (S.length : Int) ≤ (S.length : Int) ∧ (S.length : Int) - 0 ≤ 64
      have : S.length ≤ 64 := by
        refine Decidable.byContradiction fun q => hb (Or.inr ⟨hz, ?_⟩)
        rw [if_neg h61]
        omega
      omega
theorem gCok.tk {e : gEx} {rs : List gRf} (h : gCok S tg) (ht : gTree S = some (e, rs)) : gxTk (fun i => gTt tg i.toNat) (gPP rs) (gRR rs) := by
  have er : gRefs S = rs := by unfold gRefs; rw [ht]
  obtain ⟨h0, hl, hb, hn, ht1, hc⟩ := h
  rw [er] at hn
  have co : ∀ k, gCor S k = (rs.getD k (0, 0, 0)).2.2 := fun k => by unfold gCor; rw [er]
  refine ⟨fun i hi => ?_, fun i hi => ?_⟩
  · have hi : 0 ≤ i ∧ i < (rs.length : Int) := hi
    have := ht1 i.toNat (by omega)
    dsimp only
    omega
  · obtain ⟨a1, a2, a3, a4⟩ := hi
    refine ⟨⟨a1, by omega⟩, ⟨by omega, a2⟩, fun h => ?_⟩
    dsimp only at h ⊢
    have t1 := ht1 (i + 1).toNat (by omega)
    rcases hc i.toNat (by omega) with z | z | z
    · rw [co, a3] at z; exact absurd z (by decide)
    · obtain ⟨_, _, _, z4⟩ := z
      rw [show i.toNat + 1 = (i + 1).toNat by omega] at z4
      have t2 : gTt tg (i + 1).toNat ≠ -1 := fun y => by have := z4.mpr y; omega
      omega
    · rw [co, a3] at z; exact absurd z.1 (by decide)
theorem gInB_self {a b : Int} (ha : 0 ≤ a ∧ a < 5200) (hb : 0 ≤ b ∧ b < 5200) : gInB a.toNat a b ∧ gInB b.toNat a b := by
  unfold gInB
  omega
theorem gOut_congr {V V2 : Int → gVl} (h : gCok S tg) (hV : ∀ q : Nat, q < 5200 → gCov S tg q → V q = V2 q) : gOut V S tg = gOut V2 S tg := by
  unfold gOut
  cases ht : gTree S with
  | none => rfl
  | some q =>
    obtain ⟨e, rs⟩ := q
    dsimp only
    have wf := gTree_wf ht h.1 h.2.2.1
    have tk := h.tk ht
    have er : gRefs S = rs := by unfold gRefs; rw [ht]
    obtain ⟨h0, hl, hb, hn, ht1, hc⟩ := h
    rw [er] at hn
    have co : ∀ k, gCor S k = (rs.getD k (0, 0, 0)).2.2 := fun k => by unfold gCor; rw [er]
    have cov : ∀ (k q : Nat), q < 5200 → k < tg.length → gTt tg k ≠ -1 → gCor S k = 1 → gInB q (gTt tg k) (gTt tg (k + 1)) → V q = V2 q := fun k q hq hk h1 h2 h3 => hV q hq ⟨k, hk, h1, Or.inr ⟨h2, h3⟩⟩
    rw [(gxEv_congr (E := V) (E2 := V2) tk (fun i hi h0 => ?_) (fun i hi h0 => ?_) e).1 wf.1]
    · have hi : 0 ≤ i ∧ i < (rs.length : Int) := hi
      have h0 : 0 ≤ gTt tg i.toNat := h0
      show V (gTt tg i.toNat) = V2 (gTt tg i.toNat)
      have t1 := ht1 i.toNat (by omega)
      have e1 : gTt tg i.toNat = ((gTt tg i.toNat).toNat : Int) := by omega
      rw [e1]
      rcases hc i.toNat (by omega) with z | z | z
      · exact hV _ (by omega) ⟨i.toNat, by omega, by omega, Or.inl ⟨z, e1⟩⟩
      · obtain ⟨z1, z2, z3, z4⟩ := z
        have t2 := ht1 (i.toNat + 1) z2
        have t3 : gTt tg (i.toNat + 1) ≠ -1 := fun y => by have := z4.mpr y; omega
        exact cov i.toNat _ (by omega) (by omega) (by omega) z1 (gInB_self (by omega) (by omega)).1
      · obtain ⟨z1, z2, z3⟩ := z
        rcases hc (i.toNat - 1) (by omega) with y | y | y
        · omega
        · obtain ⟨y1, y2, y3, y4⟩ := y
          rw [show i.toNat - 1 + 1 = i.toNat by omega] at y2 y3 y4
          have t2 := ht1 (i.toNat - 1) (by omega)
          have t3 : gTt tg (i.toNat - 1) ≠ -1 := fun y => by have := y4.mp y; omega
          refine cov (i.toNat - 1) _ (by omega) (by omega) t3 z3 ?_
          rw [show i.toNat - 1 + 1 = i.toNat by omega]
          exact (gInB_self (by omega) (by omega)).2
        · omega
    · obtain ⟨a1, a2, a3, a4⟩ := hi
      have h0 : 0 ≤ gTt tg i.toNat := h0
      intro i2 j2 b1 b2 b3 b4
      have t1 := ht1 i.toNat (by omega)
      have t2 := ht1 (i + 1).toNat (by omega)
      have c1 : gCor S i.toNat = 1 := by rw [co]; exact a3
      have t3 : gTt tg (i + 1).toNat ≠ -1 := by
        rcases hc i.toNat (by omega) with z | z | z
        · rw [c1] at z; exact absurd z (by decide)
        · intro y
          have := z.2.2.2.mpr (by rw [show i.toNat + 1 = (i + 1).toNat by omega]; exact y)
          omega
        · rw [c1] at z; exact absurd z.1 (by decide)
      generalize hA : gTt tg i.toNat = A at *
      generalize hB : gTt tg (i + 1).toNat = B at *
      have d1 : (A * 5200 + B) / 5200 = A := by omega
      have d2 : (A * 5200 + B) % 5200 = B := by omega
      have b1 : min ((A * 5200 + B) / 5200 % 26) ((A * 5200 + B) % 5200 % 26) ≤ j2 := b1
      have b2 : j2 ≤ max ((A * 5200 + B) / 5200 % 26) ((A * 5200 + B) % 5200 % 26) := b2
      have b3 : min ((A * 5200 + B) / 5200 / 26) ((A * 5200 + B) % 5200 / 26) ≤ i2 := b3
      have b4 : i2 ≤ max ((A * 5200 + B) / 5200 / 26) ((A * 5200 + B) % 5200 / 26) := b4
      rw [d1, d2] at b1 b2 b3 b4
      have e1 : j2 + 26 * i2 = ((j2 + 26 * i2).toNat : Int) := by omega
      rw [e1]
      refine cov i.toNat _ (by omega) (by omega) (by omega) c1 ?_
      rw [hA, show i.toNat + 1 = (i + 1).toNat by omega, hB]
      unfold gInB
      omega
end geM
/-! Warshall's closure. -/
def gWp (r : Nat → Nat → Prop) : Nat → Nat → Nat → Prop
  | 0, i, j => r i j
  | k + 1, i, j => gWp r k i j ∨ (gWp r k i k ∧ gWp r k k j)
section geN
variable {r : Nat → Nat → Prop}
theorem gWp_tc : ∀ (k i j : Nat), gWp r k i j → gTC r i j := by
  intro k
  induction k with
  | zero => intro i j h; exact gTC.st h
  | succ k ih =>
    rintro i j (h | ⟨h1, h2⟩)
    · exact ih i j h
    · exact gTC.tl (ih i k h1).rt (ih k j h2)
theorem gWp_tr : ∀ (k m i j : Nat), m < k → gWp r k i m → gWp r k m j → gWp r k i j := by
  intro k
  induction k with
  | zero => intro m i j h; omega
  | succ k ih =>
    intro m i j hm h1 h2
    have h1 : gWp r k i m ∨ (gWp r k i k ∧ gWp r k k m) := h1
    have h2 : gWp r k m j ∨ (gWp r k m k ∧ gWp r k k j) := h2
    show gWp r k i j ∨ (gWp r k i k ∧ gWp r k k j)
    by_cases q : m = k
    · rw [q] at h1 h2
      exact Or.inr ⟨h1.elim id (fun z => z.1), h2.elim id (fun z => z.2)⟩
    · rcases h1 with a | a <;> rcases h2 with b | b
      · exact Or.inl (ih m i j (by omega) a b)
      · exact Or.inr ⟨ih m i k (by omega) a b.1, b.2⟩
      · exact Or.inr ⟨a.1, ih m k j (by omega) a.2 b⟩
      · exact Or.inr ⟨a.1, b.2⟩
theorem gWp_up : ∀ (k i j : Nat), r i j → gWp r k i j := by
  intro k
  induction k with
  | zero => intro i j h; exact h
  | succ k ih => intro i j h; exact Or.inl (ih i j h)
theorem gWp_all {n : Nat} (hr : ∀ i j, r i j → j < n) : ∀ (k i j : Nat), gRch r (k + 1) i j → gWp r n i j := by
  intro k
  induction k with
  | zero =>
    rintro i j ⟨x, hx, h⟩
    have h : x = j := h
    rw [← h]
    exact gWp_up n i x hx
  | succ k ih =>
    rintro i j ⟨x, hx, h⟩
    exact gWp_tr n x i j (hr i x hx) (gWp_up n i x hx) (ih x j h)
theorem gWp_iff {n : Nat} (hr : ∀ i j, r i j → j < n) (i j : Nat) : gWp r n i j ↔ gTC r i j := ⟨gWp_tc n i j, fun ⟨k, h⟩ => gWp_all hr k i j h⟩
end geN
