/-! The reference's isNumber: the long that bytes spell. -/
/-- n slots of cell c from a on -/
def gBy (M : gM) (c : Nat) : Nat → Nat → List Int
  | _, 0 => []
  | a, n + 1 => M c a :: gBy M c (a + 1) n
/-- digits behind v, counted down -/
def gNumA : List Int → Int → Option Int
  | [], v => some v
  | c :: r, v => if 48 ≤ c ∧ c ≤ 57 then (if v * 10 - (c - 48) < -9223372036854775808 then none else gNumA r (v * 10 - (c - 48))) else none
/-- the long that bytes spell -/
def gNum : List Int → Option Int
  | [] => none
  | c :: r => if c = 45 then (if r = [] then none else gNumA r 0) else (match gNumA (c :: r) 0 with | some v => if v = -9223372036854775808 then none else some (-v) | none => none)
section gmC6
variable {l : Launch} {G : gG} {d : Nat} {X : gX} {M : gM} {o : Nat}
theorem c_GM_isNumber {r1 n1 : Nat} {a b : Int} {k : Int → gM → Prop} (hX : gmX X o) (hr : 1 ≤ r1 ∧ r1 ≤ X.1 ∧ X.2.1 r1 = (2, n1) ∧ n1 ≤ 2147483648) (ha : 0 ≤ a ∧ a ≤ b) (hb : b ≤ (n1 : Int) ∧ b < 1000000)
    (h0 : gNum (gBy M r1 a.toNat (b - a).toNat) = none → k 0 M) (h1 : ∀ z, gNum (gBy M r1 a.toNat (b - a).toNat) = some z → g64 z → k 1 (gUp M o 3 z)) : cZ l G y_GM_isNumber (gRm (d + 1)) true [gR G o, gR G r1, gI a, gI b] X M k := by
  have gb : g32 b := ⟨by omega, by omega⟩
  have key : ∀ (mi : Int) (hmi : mi = 0 ∨ mi = 1) (n : Nat) (q : Nat) (v : Int), (q : Int) + n = b → v ≤ 0 ∧ g64 v → (gNumA (gBy M r1 q n) v = none → k 0 M) → (∀ z, gNumA (gBy M r1 q n) v = some z → z ≤ 0 ∧ g64 z → (¬ mi = 0 → k 1 (gUp M o 3 z)) ∧ (mi = 0 → (z = -9223372036854775808 → k 0 M) ∧ (¬ z = -9223372036854775808 → k 1 (gUp M o 3 (-z))))) →
      wp l G y_GM_isNumber (gRm (d + 1)) true (kkZ X k) true 45 [.val (gR G o), .val (gR G r1), .unset, .val (gI b), .val (gI mi), .val (gI (q : Int)), .val (gL v), .unset, .unset] [] X M 0 0 := by
    intro mi hmi n
    have gm : g32 mi := ⟨by omega, by omega⟩
    induction n with
    | zero =>
      intro q v hq hv f0 f1
      have f2 := f1 v rfl hv
      refine w_GM_isNumber_45 hX gb gm ⟨by omega, by omega⟩ hv.2 hr ⟨fun _ => ⟨fun c => ⟨fun e => absurd e c, fun _ => f2.1 c⟩, fun c => ⟨fun e => ⟨fun _ => ?_, fun g => absurd c g⟩, fun e => (f2.2 c).1 e⟩⟩, fun c => absurd (by omega) c⟩
      rw [w64_id (by have := hv.2; unfold g64 at *; omega)]
      exact (f2.2 c).2 e
    | succ n ih =>
      intro q v hq hv f0 f1
      rw [show gBy M r1 q (n + 1) = M r1 q :: gBy M r1 (q + 1) n from rfl, show gNumA (M r1 q :: gBy M r1 (q + 1) n) v = (if 48 ≤ M r1 q ∧ M r1 q ≤ 57 then (if v * 10 - (M r1 q - 48) < -9223372036854775808 then none else gNumA (gBy M r1 (q + 1) n) (v * 10 - (M r1 q - 48))) else none) from rfl] at f0 f1
      refine w_GM_isNumber_45 hX gb gm ⟨by omega, by omega⟩ hv.2 hr ⟨fun c => absurd c (by omega), fun _ => ⟨⟨by omega, by omega⟩, ?_⟩⟩
      rw [show ((q : Int)).toNat = q from Int.toNat_natCast q]
      intro hbt
      refine c_GM_digit ⟨by omega, by omega⟩ ?_
      by_cases hd : 48 ≤ M r1 q ∧ M r1 q ≤ 57
      · rw [if_pos hd] at f0 f1
        rw [if_pos hd]
        refine ⟨fun _ => ⟨⟨by omega, by omega⟩, fun _ => ?_⟩, fun c => absurd c (by decide)⟩
        have e1 : w32 (M r1 q - 48) = M r1 q - 48 := w32_id ⟨by omega, by omega⟩
        have e2 : w64 (-9223372036854775808 + (M r1 q - 48)) = -9223372036854775808 + (M r1 q - 48) := w64_id ⟨by omega, by omega⟩
        have e3 : g64 ((-9223372036854775808 + (M r1 q - 48)).tdiv 10) := g64_tdiv ⟨by omega, by omega⟩ (by omega)
        have e4 : (-9223372036854775808 + (M r1 q - 48)).tdiv 10 = -((9223372036854775808 - (M r1 q - 48)) / 10) := by
          rw [show -9223372036854775808 + (M r1 q - 48) = -(9223372036854775808 - (M r1 q - 48)) by omega, Int.neg_tdiv, Int.tdiv_eq_ediv_of_nonneg (by omega)]
        rw [e1, e2, w64_id e3, e4]
        have hv2 := hv.2
        refine ⟨fun c => ?_, fun c => ?_⟩
        · rw [if_neg (by omega)] at f0 f1
          have e5 : w64 (v * 10 - (M r1 q - 48)) = v * 10 - (M r1 q - 48) := w64_id ⟨by omega, by omega⟩
          rw [gI_w, e5]
          exact ih (q + 1) (v * 10 - (M r1 q - 48)) (by omega) ⟨by omega, ⟨by omega, by omega⟩⟩ f0 f1
        · rw [if_pos (by omega)] at f0
          exact f0 rfl
      · rw [if_neg hd] at f0
        rw [if_neg hd]
        exact ⟨fun c => absurd rfl c, fun _ => f0 rfl⟩
  refine e_GM_isNumber (w_GM_isNumber_0 hX hr ⟨by omega, by omega⟩ gb ⟨fun c => ⟨fun _ => ⟨fun e => absurd e (by omega), fun _ => ?_⟩, fun e => absurd rfl e⟩, fun c => ⟨⟨by omega, by omega⟩, fun hbt => ⟨fun e => ⟨fun _ => ⟨fun _ => ?_, fun f => absurd (by omega) f⟩, fun f => absurd rfl f⟩, fun e => ⟨fun f => absurd f (by decide), fun _ => ?_⟩⟩⟩⟩)
  · have e1 : (b - a).toNat = 0 := by omega
    rw [e1] at h0
    exact h0 rfl
  · obtain ⟨m, hm⟩ : ∃ m, (b - a).toNat = m + 1 := ⟨(b - a).toNat - 1, by omega⟩
    rw [hm] at h0 h1
    have eN : gNum (gBy M r1 a.toNat (m + 1)) = (match gNumA (gBy M r1 a.toNat (m + 1)) 0 with | some v => if v = -9223372036854775808 then none else some (-v) | none => none) := if_neg e
    rw [eN] at h0 h1
    have ea : a = (a.toNat : Int) := by omega
    rw [ea]
    refine key 0 (Or.inl rfl) (m + 1) a.toNat 0 (by omega) ⟨by omega, ⟨by decide, by decide⟩⟩ (fun f => h0 (by rw [f])) (fun z f g => ⟨fun u => absurd rfl u, fun _ => ⟨fun u => h0 (by rw [f]; exact if_pos u), fun u => h1 (-z) (by rw [f]; exact if_neg u) ?_⟩⟩)
    unfold g64 at *
    omega
  · obtain ⟨m, hm⟩ : ∃ m, (b - a).toNat = m + 1 := ⟨(b - a).toNat - 1, by omega⟩
    rw [hm] at h0 h1
    have eN : gNum (gBy M r1 a.toNat (m + 1)) = (if gBy M r1 (a.toNat + 1) m = [] then none else gNumA (gBy M r1 (a.toNat + 1) m) 0) := if_pos e
    rw [eN] at h0 h1
    rw [w32_id ⟨by omega, by omega⟩]
    refine ⟨fun f => ?_, fun f => ?_⟩
    · obtain ⟨m2, hm2⟩ : ∃ m2, m = m2 + 1 := ⟨m - 1, by omega⟩
      rw [hm2, if_neg (by intro u; cases u)] at h0 h1
      have ea : a + 1 = ((a.toNat + 1 : Nat) : Int) := by omega
      rw [ea]
      exact key 1 (Or.inr rfl) (m2 + 1) (a.toNat + 1) 0 (by omega) ⟨by omega, ⟨by decide, by decide⟩⟩ h0 (fun z u g => ⟨fun _ => h1 z u g.2, fun w => absurd w (by decide)⟩)
    · have e0 : m = 0 := by omega
      rw [e0] at h0
      exact h0 (if_pos rfl)
end gmC6
