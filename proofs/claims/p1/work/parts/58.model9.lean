/-! The reference's join, isChanged, power. -/
section gmC9
variable {l : Launch} {G : gG} {d : Nat} {X : gX} {M : gM} {o : Nat} {x y1 s v i n p t : Int}
/-- is the value of place p the one that was -/
def gmSame (M : gM) (o : Nat) (p : Int) : Prop := M (o + 28) p.toNat = M (o + 26) p.toNat ∧ M (o + 31) p.toNat = M (o + 30) p.toNat ∧ M (o + 29) p.toNat = M (o + 27) p.toNat ∧ gBy M (o + 33) (64 * p).toNat (M (o + 27) p.toNat).toNat = gBy M (o + 32) (64 * p).toNat (M (o + 27) p.toNat).toNat
theorem c_GM_isChanged {k : Int → gM → Prop} (hX : gmX X o) (hp : 0 ≤ p ∧ p < 5200) (hl : 0 ≤ M (o + 27) p.toNat ∧ M (o + 27) p.toNat ≤ 64) (h0 : gmSame M o p → k 0 M) (h1 : ¬ gmSame M o p → k 1 M) : cZ l G y_GM_isChanged (gRm d) false [gR G o, gI p] X M k := by
  have gp : g32 p := ⟨by omega, by omega⟩
  refine e_GM_isChanged (w_GM_isChanged_0 hX gp ⟨hp, fun _ => ⟨hp, fun _ => ⟨fun a => h1 fun q => a q.1, fun a => ⟨hp, fun _ => ⟨hp, fun _ => ⟨fun b => h1 fun q => b q.2.1, fun b => ⟨hp, fun _ => ⟨hp, fun _ => ⟨fun c => ?_, fun c => h1 fun q => c q.2.2.1⟩⟩⟩⟩⟩⟩⟩⟩⟩)
  have key : ∀ (n q : Nat), (q : Int) + n = M (o + 27) p.toNat → (gBy M (o + 33) (64 * p + (q : Int)).toNat n = gBy M (o + 32) (64 * p + (q : Int)).toNat n → k 0 M) → (¬ gBy M (o + 33) (64 * p + (q : Int)).toNat n = gBy M (o + 32) (64 * p + (q : Int)).toNat n → k 1 M) →
      wp l G y_GM_isChanged (gRm d) false (kkZ X k) false 50 [.val (gR G o), .val (gI p), .val (gI (q : Int))] [] X M 0 0 := by
    intro n
    induction n with
    | zero =>
      intro q hq f0 f1
      exact w_GM_isChanged_50 hX gp ⟨by omega, by omega⟩ ⟨hp, fun _ => ⟨fun _ => f0 rfl, fun e => absurd (by omega) e⟩⟩
    | succ n ih =>
      intro q hq f0 f1
      rw [show gBy M (o + 33) (64 * p + (q : Int)).toNat (n + 1) = M (o + 33) (64 * p + (q : Int)).toNat :: gBy M (o + 33) ((64 * p + (q : Int)).toNat + 1) n from rfl, show gBy M (o + 32) (64 * p + (q : Int)).toNat (n + 1) = M (o + 32) (64 * p + (q : Int)).toNat :: gBy M (o + 32) ((64 * p + (q : Int)).toNat + 1) n from rfl] at f0 f1
      refine w_GM_isChanged_50 hX gp ⟨by omega, by omega⟩ ⟨hp, fun _ => ⟨fun e => absurd e (by omega), fun _ => ⟨⟨by omega, by omega⟩, fun _ => ⟨⟨by omega, by omega⟩, fun _ => ⟨fun e => ?_, fun e => f1 fun q => e (List.cons.inj q).1⟩⟩⟩⟩⟩
      rw [gI_w]
      refine ih (q + 1) (by omega) ?_ ?_
      · rw [show (64 * p + ((q + 1 : Nat) : Int)).toNat = (64 * p + (q : Int)).toNat + 1 by omega]
        exact fun u => f0 (by rw [e, u])
      · rw [show (64 * p + ((q + 1 : Nat) : Int)).toNat = (64 * p + (q : Int)).toNat + 1 by omega]
        exact fun u => f1 fun w => u (List.cons.inj w).2
  refine key (M (o + 27) p.toNat).toNat 0 (by omega) ?_ ?_
  · rw [show 64 * p + ((0 : Nat) : Int) = 64 * p by omega]
    exact fun u => h0 ⟨a, b, c, u⟩
  · rw [show 64 * p + ((0 : Nat) : Int) = 64 * p by omega]
    exact fun u => h1 fun w => u w.2.2.2
end gmC9
