/-! The reference's find. -/
/-- the first place from p on, of n, where the text of stack place i stands in that of j; -1: none -/
def gmFd (M : gM) (o : Nat) (i j : Int) : Nat → Int → Int
  | 0, _ => -1
  | n + 1, p => if gBy M (o + 37) (64 * i).toNat (M (o + 35) i.toNat).toNat = gBy M (o + 37) (64 * j + p).toNat (M (o + 35) i.toNat).toNat then p else gmFd M o i j n (p + 1)
section gmC12
variable {l : Launch} {G : gG} {d : Nat} {X : gX} {M : gM} {o : Nat}
theorem c_GM_find {i j p : Int} {k : Int → gM → Prop} (hX : gmX X o) (hi : 0 ≤ i ∧ i < 1200) (hj : 0 ≤ j ∧ j < 1200) (li : 0 ≤ M (o + 35) i.toNat ∧ M (o + 35) i.toNat ≤ 64) (lj : 0 ≤ M (o + 35) j.toNat ∧ M (o + 35) j.toNat ≤ 64) (hp : 0 ≤ p ∧ p ≤ 64)
    (h : k (gmFd M o i j (M (o + 35) j.toNat + 1 - M (o + 35) i.toNat - p).toNat p) M) : cI l G y_GM_find (gRm (d + 1)) false [gR G o, gI i, gI j, gI p] X M k := by
  have gi : g32 i := ⟨by omega, by omega⟩
  have gj : g32 j := ⟨by omega, by omega⟩
  refine e_GM_find (w_GM_find_0 hX gi gj ⟨by omega, by omega⟩ ?_)
  have key : ∀ (n : Nat) (p : Int), 0 ≤ p → p ≤ 65 → n = (M (o + 35) j.toNat + 1 - M (o + 35) i.toNat - p).toNat → k (gmFd M o i j n p) M → wp l G y_GM_find (gRm (d + 1)) false (kkI X k) false 3 [.val (gR G o), .val (gI i), .val (gI j), .unset, .val (gI p), .unset, .unset] [] X M 0 0 := by
    intro n
    induction n with
    | zero =>
      intro p h0 h65 hn hk
      refine w_GM_find_3 hX gi gj ⟨by omega, by omega⟩ ⟨hi, fun _ => ⟨hj, fun _ => ?_⟩⟩
      rw [w32_id ⟨by omega, by omega⟩]
      exact ⟨fun _ => hk, fun a => absurd (by omega) a⟩
    | succ n ih =>
      intro p h0 h65 hn hk
      have hp2 : p + M (o + 35) i.toNat ≤ M (o + 35) j.toNat := by omega
      rw [show gmFd M o i j (n + 1) p = (if gBy M (o + 37) (64 * i).toNat (M (o + 35) i.toNat).toNat = gBy M (o + 37) (64 * j + p).toNat (M (o + 35) i.toNat).toNat then p else gmFd M o i j n (p + 1)) from rfl] at hk
      have gp : g32 p := ⟨by omega, by omega⟩
      refine w_GM_find_3 hX gi gj gp ⟨hi, fun _ => ⟨hj, fun _ => ?_⟩⟩
      rw [w32_id ⟨by omega, by omega⟩]
      refine ⟨fun a => absurd a (by omega), fun _ => ?_⟩
      have inn : ∀ (m q : Nat), (q : Int) + m = M (o + 35) i.toNat → (gBy M (o + 37) (64 * i + (q : Int)).toNat m = gBy M (o + 37) (64 * j + p + (q : Int)).toNat m → k p M) → (¬ gBy M (o + 37) (64 * i + (q : Int)).toNat m = gBy M (o + 37) (64 * j + p + (q : Int)).toNat m → k (gmFd M o i j n (p + 1)) M) →
          wp l G y_GM_find (gRm (d + 1)) false (kkI X k) false 27 [.val (gR G o), .val (gI i), .val (gI j), .unset, .val (gI p), .val (gI 1), .val (gI (q : Int))] [] X M 0 0 := by
        intro m
        induction m with
        | zero =>
          intro q hq f0 f1
          exact w_GM_find_27 hX gi gj gp (g32_c (x := 1) rfl) ⟨by omega, by omega⟩ ⟨fun a => absurd a (by decide), fun _ => ⟨hi, fun _ => ⟨fun _ => ⟨fun a => absurd a (by decide), fun _ => f0 rfl⟩, fun a => absurd (by omega) a⟩⟩⟩
        | succ m ihm =>
          intro q hq f0 f1
          rw [show gBy M (o + 37) (64 * i + (q : Int)).toNat (m + 1) = M (o + 37) (64 * i + (q : Int)).toNat :: gBy M (o + 37) ((64 * i + (q : Int)).toNat + 1) m from rfl, show gBy M (o + 37) (64 * j + p + (q : Int)).toNat (m + 1) = M (o + 37) (64 * j + p + (q : Int)).toNat :: gBy M (o + 37) ((64 * j + p + (q : Int)).toNat + 1) m from rfl] at f0 f1
          refine w_GM_find_27 hX gi gj gp (g32_c (x := 1) rfl) ⟨by omega, by omega⟩ ⟨fun a => absurd a (by decide), fun _ => ⟨hi, fun _ => ⟨fun a => absurd a (by omega), fun _ => c_GM_byteAt hX hi ⟨by omega, by omega⟩ fun _ => c_GM_byteAt hX hj ⟨by omega, by omega⟩ fun _ => ?_⟩⟩⟩
          rw [show 64 * j + (p + (q : Int)) = 64 * j + p + (q : Int) by omega]
          refine ⟨fun a => ?_, fun a => ?_⟩
          · rw [gI_w]
            refine w_GM_find_27 hX gi gj gp (g32_c (x := 0) rfl) ⟨by omega, by omega⟩ ⟨fun _ => ⟨fun _ => ?_, fun b => absurd rfl b⟩, fun b => absurd rfl b⟩
            rw [gI_w]
            exact ih (p + 1) (by omega) (by omega) (by omega) (f1 fun u => a (List.cons.inj u).1)
          · rw [gI_w]
            refine ihm (q + 1) (by omega) ?_ ?_
            · rw [show (64 * i + ((q + 1 : Nat) : Int)).toNat = (64 * i + (q : Int)).toNat + 1 by omega, show (64 * j + p + ((q + 1 : Nat) : Int)).toNat = (64 * j + p + (q : Int)).toNat + 1 by omega]
              exact fun u => f0 (by rw [a, u])
            · rw [show (64 * i + ((q + 1 : Nat) : Int)).toNat = (64 * i + (q : Int)).toNat + 1 by omega, show (64 * j + p + ((q + 1 : Nat) : Int)).toNat = (64 * j + p + (q : Int)).toNat + 1 by omega]
              exact fun u => f1 fun w => u (List.cons.inj w).2
      refine inn (M (o + 35) i.toNat).toNat 0 (by omega) ?_ ?_
      · rw [show 64 * i + ((0 : Nat) : Int) = 64 * i by omega, show 64 * j + p + ((0 : Nat) : Int) = 64 * j + p by omega]
        intro u
        rw [if_pos u] at hk
        exact hk
      · rw [show 64 * i + ((0 : Nat) : Int) = 64 * i by omega, show 64 * j + p + ((0 : Nat) : Int) = 64 * j + p by omega]
        intro u
        rw [if_neg u] at hk
        exact hk
  exact key _ p hp.1 (by omega) rfl h
end gmC12
