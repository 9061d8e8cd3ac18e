/-! The reference's join, isChanged, power. -/
theorem gUp_up (M : gM) (a k : Nat) (x y : Int) : gUp (gUp M a k x) a k y = gUp M a k y := by
  funext c j
  unfold gUp
  by_cases h : c = a ∧ j = k
  · rw [if_pos h, if_pos h]
  · rw [if_neg h, if_neg h, if_neg h]
section gmC9
variable {l : Launch} {G : gG} {d : Nat} {X : gX} {M : gM} {o : Nat} {x y1 s v i n p t : Int}
theorem c_GM_join {k : gM → Prop} (hX : gmX X o) (hi : 0 ≤ i ∧ i < 1199) (ht : M o 50 = i + 2) (li : 0 ≤ M (o + 35) i.toNat ∧ M (o + 35) i.toNat ≤ 64) (lj : 0 ≤ M (o + 35) (i + 1).toNat ∧ M (o + 35) (i + 1).toNat ≤ 64)
    (h1 : 64 < M (o + 35) i.toNat + M (o + 35) (i + 1).toNat → k (gmPush (gUp M o 50 i) o 4 4))
    (h2 : M (o + 35) i.toNat + M (o + 35) (i + 1).toNat ≤ 64 → k (gUp (gUp (gFl M (o + 37) (64 * i + M (o + 35) i.toNat).toNat (fun j => M (o + 37) (64 * (i + 1) + (j : Int)).toNat) (M (o + 35) (i + 1).toNat).toNat) (o + 35) i.toNat (M (o + 35) i.toNat + M (o + 35) (i + 1).toNat)) o 50 (i + 1))) : cV l G y_GM_join (gRm (d + 1 + 1)) true [gR G o, gI i, gI (i + 1)] X M k := by
  have gi : g32 i := ⟨by omega, by omega⟩
  have gj : g32 (i + 1) := ⟨by omega, by omega⟩
  have b1 : 0 ≤ i ∧ i < 1200 := ⟨by omega, by omega⟩
  have b2 : 0 ≤ i + 1 ∧ i + 1 < 1200 := ⟨by omega, by omega⟩
  refine e_GM_join (w_GM_join_0 hX gi gj ⟨b1, fun g1 => ⟨b2, fun g2 => ?_⟩⟩)
  rw [w32_id ⟨by omega, by omega⟩]
  refine ⟨fun a => ?_, fun a => c_GM_become hX ⟨by decide, by omega⟩ (by omega) (by omega) (g32_c (x := 4) rfl) (g64_c (x := 4) rfl) (by rw [ht, Int.add_sub_cancel]; exact h1 (by omega))⟩
  have key : ∀ (n q : Nat), (q : Int) + n = M (o + 35) (i + 1).toNat → wp l G y_GM_join (gRm (d + 1 + 1)) true (kkV X k) true 37 [.val (gR G o), .val (gI i), .val (gI (i + 1)), .val (gI (M (o + 35) i.toNat)), .val (gI (M (o + 35) (i + 1).toNat)), .val (gI (q : Int))] [] X (gFl M (o + 37) (64 * i + M (o + 35) i.toNat).toNat (fun j => M (o + 37) (64 * (i + 1) + (j : Int)).toNat) q) 0 0 := by
    intro n
    induction n with
    | zero =>
      intro q hq
      have eq : q = (M (o + 35) (i + 1).toNat).toNat := by omega
      refine w_GM_join_37 hX gi gj g1 g2 ⟨by omega, by omega⟩ ⟨fun _ => ⟨b1, ?_⟩, fun b => absurd (by omega) b⟩
      rw [w32_id ⟨by omega, by omega⟩, gUp_o (by decide), gFl_o (by decide), ht, w32_id ⟨by omega, by omega⟩, eq, show i + 2 - 1 = i + 1 by omega]
      exact fun _ => h2 a
    | succ n ih =>
      intro q hq
      have i1 := ih (q + 1) (by omega)
      rw [← gFl_s] at i1
      refine w_GM_join_37 hX gi gj g1 g2 ⟨by omega, by omega⟩ ⟨fun b => absurd b (by omega), fun _ => ⟨⟨by omega, by omega⟩, ?_⟩⟩
      rw [gFl_out (by omega)]
      refine fun hb => ⟨⟨by omega, by omega⟩, ?_⟩
      rw [gI_w, gByte_id hb, show (64 * i + M (o + 35) i.toNat + (q : Int)).toNat = (64 * i + M (o + 35) i.toNat).toNat + q by omega]
      exact i1
  have k0 := key (M (o + 35) (i + 1).toNat).toNat 0 (by omega)
  rw [gFl_0] at k0
  exact k0
/-- is the value of place p the one that was -/
def gmSame (M : gM) (o : Nat) (p : Int) : Prop := M (o + 28) p.toNat = M (o + 26) p.toNat ∧ M (o + 31) p.toNat = M (o + 30) p.toNat ∧ M (o + 29) p.toNat = M (o + 27) p.toNat ∧ gBy M (o + 33) (64 * p).toNat (M (o + 27) p.toNat).toNat = gBy M (o + 32) (64 * p).toNat (M (o + 27) p.toNat).toNat
theorem c_GM_isChanged {k : Int → gM → Prop} (hX : gmX X o) (hp : 0 ≤ p ∧ p < 5200) (hl : 0 ≤ M (o + 27) p.toNat ∧ M (o + 27) p.toNat ≤ 64) (h0 : gmSame M o p → k 0 M) (h1 : ¬ gmSame M o p → k 1 M) : cZ l G y_GM_isChanged (gRm d) false [gR G o, gI p] X M k := by
  have gp : g32 p := ⟨by omega, by omega⟩
  refine e_GM_isChanged (w_GM_isChanged_0 hX gp ⟨hp, fun _ => ⟨hp, fun _ => ⟨fun a => h1 fun q => a q.1, fun a => ⟨hp, fun _ => ⟨hp, fun _ => ⟨fun b => h1 fun q => b q.2.1, fun b => ⟨hp, fun _ => ⟨hp, fun _ => ⟨fun c => ?_, fun c => h1 fun q => c q.2.2.1⟩⟩⟩⟩⟩⟩⟩⟩⟩)
  have key : ∀ (n q : Nat), (q : Int) + n = M (o + 27) p.toNat → (gBy M (o + 33) (64 * p + (q : Int)).toNat n = gBy M (o + 32) (64 * p + (q : Int)).toNat n → k 0 M) → (¬ gBy M (o + 33) (64 * p + (q : Int)).toNat n = gBy M (o + 32) (64 * p + (q : Int)).toNat n → k 1 M) →
      wp l G y_GM_isChanged (gRm d) false (kkZ X k) false 50 [.val (gR G o), .val (gI p), .val (gI (q : Int))] [] X M 0 0 := by
    intro n
    induction n with
    | zero =>
      intro q hq f0 f1
      exact w_GM_isChanged_50 hX gp ⟨by omega, by omega⟩ ⟨hp, fun _ => ⟨fun _ => f0 rfl, fun e => absurd (by omega) e⟩⟩
    | succ n ih =>
      intro q hq f0 f1
      rw [show gBy M (o + 33) (64 * p + (q : Int)).toNat (n + 1) = M (o + 33) (64 * p + (q : Int)).toNat :: gBy M (o + 33) ((64 * p + (q : Int)).toNat + 1) n from rfl, show gBy M (o + 32) (64 * p + (q : Int)).toNat (n + 1) = M (o + 32) (64 * p + (q : Int)).toNat :: gBy M (o + 32) ((64 * p + (q : Int)).toNat + 1) n from rfl] at f0 f1
      refine w_GM_isChanged_50 hX gp ⟨by omega, by omega⟩ ⟨hp, fun _ => ⟨fun e => absurd e (by omega), fun _ => ⟨⟨by omega, by omega⟩, fun _ => ⟨⟨by omega, by omega⟩, fun _ => ⟨fun e => ?_, fun e => f1 fun q => e (List.cons.inj q).1⟩⟩⟩⟩⟩
      rw [gI_w]
      refine ih (q + 1) (by omega) ?_ ?_
      · rw [show (64 * p + ((q + 1 : Nat) : Int)).toNat = (64 * p + (q : Int)).toNat + 1 by omega]
        exact fun u => f0 (by rw [e, u])
      · rw [show (64 * p + ((q + 1 : Nat) : Int)).toNat = (64 * p + (q : Int)).toNat + 1 by omega]
        exact fun u => f1 fun w => u (List.cons.inj w).2
  refine key (M (o + 27) p.toNat).toNat 0 (by omega) ?_ ?_
  · rw [show 64 * p + ((0 : Nat) : Int) = 64 * p by omega]
    exact fun u => h0 ⟨a, b, c, u⟩
  · rw [show 64 * p + ((0 : Nat) : Int) = 64 * p by omega]
    exact fun u => h1 fun w => u w.2.2.2
theorem gPow_big {x : Int} (hx : ¬ x = 0 ∧ ¬ x = 1 ∧ ¬ x = -1) {m n : Nat} (hmn : m ≤ n) (h : ¬ g64 (x ^ m)) : ¬ g64 (x ^ n) := by
  by_cases e : m = n
  · rw [← e]; exact h
  have h1 : 9223372036854775808 ≤ (x ^ m).natAbs := by
    unfold g64 at h
    omega
  have h2 : (x ^ (m + 1)).natAbs ≤ (x ^ n).natAbs := by
    rw [Int.natAbs_pow, Int.natAbs_pow]
    exact Nat.pow_le_pow_right (by omega) (by omega)
  have h3 : (x ^ (m + 1)).natAbs = (x ^ m).natAbs * x.natAbs := by rw [Int.pow_succ, Int.natAbs_mul]
  have h4 : (x ^ m).natAbs * 2 ≤ (x ^ m).natAbs * x.natAbs := Nat.mul_le_mul_left _ (by omega)
  unfold g64
  omega
theorem c_GM_power {k : Int → gM → Prop} (hX : gmX X o) (hx : g64 x) (hn : 0 ≤ n ∧ n < 9223372036854775808) (h1 : g64 (x ^ n.toNat) → k 1 (gUp M o 54 (x ^ n.toNat))) (h0 : ¬ g64 (x ^ n.toNat) → ∀ z, k 0 (gUp M o 54 z)) : cZ l G y_GM_power (gRm (d + 1)) true [gR G o, gL x, gL n] X M k := by
  have gn : g64 n := ⟨by omega, by omega⟩
  refine e_GM_power (w_GM_power_0 hX hx gn ?_)
  simp only [gUp_up]
  refine ⟨fun a => ⟨fun b => ?_, fun b => ⟨fun c => ⟨fun e => ?_, fun e => ?_⟩, fun c => ?_⟩⟩, fun a => ?_⟩
  · have f : x ^ n.toNat = x := by rw [b]; exact Int.zero_pow (by omega)
    rw [f] at h1
    exact h1 hx
  · have key : ∀ (m q : Nat), (q : Int) + m = n → g64 (x ^ q) → wp l G y_GM_power (gRm (d + 1)) true (kkZ X k) true 66 [.val (gR G o), .val (gL x), .unset, .val (gL n), .unset, .val (gL (q : Int)), .unset] [] X (gUp M o 54 (x ^ q)) 0 0 := by
      intro m
      induction m with
      | zero =>
        intro q hq g
        have eq : q = n.toNat := by omega
        refine w_GM_power_66 hX hx gn ⟨by omega, by omega⟩ ⟨fun _ => ?_, fun u => absurd (by omega) u⟩
        rw [eq]
        rw [eq] at g
        exact h1 g
      | succ m ih =>
        intro q hq g
        have i1 := ih (q + 1) (by omega)
        refine w_GM_power_66 hX hx gn ⟨by omega, by omega⟩ ⟨fun u => absurd u (by omega), fun _ => ?_⟩
        rw [gUp_eq]
        have em : gmOp 42 (x ^ q) x = x ^ (q + 1) := by
          unfold gmOp
          rw [if_neg (by decide), if_neg (by decide), Int.pow_succ]
        refine fun _ => c_GM_reckon hX (g32_c (x := 42) rfl) g hx (fun u => ⟨fun _ => ?_, fun w => absurd w (by decide)⟩) (fun u => ⟨fun w => absurd rfl w, fun _ => ?_⟩)
        · rw [em] at u
          rw [em, gUp_up, gL_w]
          exact i1 u
        · rw [em] at u
          rw [gUp_up]
          exact h0 (gPow_big ⟨b, c, e⟩ (by omega) u) _
    have k0 := key n.toNat 0 (by omega) (by rw [Int.pow_zero]; exact ⟨by decide, by decide⟩)
    rw [Int.pow_zero] at k0
    exact k0
  · have f : x ^ n.toNat = if n % 2 = 0 then 1 else -1 := by
      rw [e]
      by_cases u : n % 2 = 0
      · rw [if_pos u, show n.toNat = 2 * (n.toNat / 2) by omega, Int.pow_mul, show (-1 : Int) ^ 2 = 1 by decide, Int.one_pow]
      · rw [if_neg u, show n.toNat = 2 * (n.toNat / 2) + 1 by omega, Int.pow_succ, Int.pow_mul, show (-1 : Int) ^ 2 = 1 by decide, Int.one_pow, Int.one_mul]
    rw [Int.tmod_eq_emod_of_nonneg hn.1, w64_id ⟨by omega, by omega⟩]
    rw [f] at h1
    refine ⟨fun u => ?_, fun u => ?_⟩
    · rw [if_neg u] at h1; exact h1 ⟨by decide, by decide⟩
    · rw [if_pos u] at h1; exact h1 ⟨by decide, by decide⟩
  · have f : x ^ n.toNat = x := by rw [c]; exact Int.one_pow
    rw [f] at h1
    exact h1 hx
  · have f : x ^ n.toNat = 1 := by rw [a]; exact Int.pow_zero x
    rw [f] at h1
    exact h1 ⟨by decide, by decide⟩
end gmC9
