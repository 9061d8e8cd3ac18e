/-! Contracts of the reference's methods with a loop: stretches of an array, the stack's texts. -/
/-- a stretch of a cell is written -/
def gFl (M : gM) (D a : Nat) (f : Nat → Int) (n : Nat) : gM := fun c j => if c = D ∧ a ≤ j ∧ j < a + n then f (j - a) else M c j
theorem gFl_0 (M : gM) (D a : Nat) (f : Nat → Int) : gFl M D a f 0 = M := by
  funext c j
  exact if_neg (by omega)
theorem gFl_s (M : gM) (D a : Nat) (f : Nat → Int) (n : Nat) : gUp (gFl M D a f n) D (a + n) (f n) = gFl M D a f (n + 1) := by
  funext c j
  unfold gUp gFl
  by_cases h : c = D ∧ j = a + n
  · rw [if_pos h, if_pos (by omega), h.2, Nat.add_sub_cancel_left]
  · rw [if_neg h]
    by_cases h2 : c = D ∧ a ≤ j ∧ j < a + n
    · rw [if_pos h2, if_pos (by omega)]
    · rw [if_neg h2, if_neg (by omega)]
theorem gFl_a {M : gM} {D a c j n : Nat} {f : Nat → Int} (h : c ≠ D) : gFl M D a f n c j = M c j := if_neg fun q => h q.1
theorem gFl_out {M : gM} {D a j n : Nat} {f : Nat → Int} (h : j < a ∨ a + n ≤ j) : gFl M D a f n D j = M D j := if_neg (by omega)
theorem gFl_in {M : gM} {D a j n : Nat} {f : Nat → Int} (h1 : a ≤ j) (h2 : j < a + n) : gFl M D a f n D j = f (j - a) := if_pos ⟨rfl, h1, h2⟩
theorem gFl_o {M : gM} {o b a j n : Nat} {f : Nat → Int} (h : b ≠ 0) : gFl M (o + b) a f n o j = M o j := gFl_a (by omega)
theorem gFl_oo {M : gM} {o b c a j n : Nat} {f : Nat → Int} (h : c ≠ b) : gFl M (o + b) a f n (o + c) j = M (o + c) j := gFl_a (by omega)
section gmC3
variable {l : Launch} {G : gG} {d : Nat} {X : gX} {M : gM} {o : Nat} {x y1 s v i n p t : Int}
/-- a state without contents -/
def gmClear (M : gM) (o : Nat) (s : Int) : gM := gUp (gFl M (o + 19) (s * 5200).toNat (fun _ => 0) 5200) (o + 25) s.toNat 0
theorem c_GM_clear {k : gM → Prop} (hX : gmX X o) (hs : 0 ≤ s ∧ s < 42) (h : k (gmClear M o s)) : cV l G y_GM_clear (gRm d) true [gR G o, gI s] X M k := by
  have hg : g32 s := ⟨by omega, by omega⟩
  refine e_GM_clear (w_GM_clear_0 hX hg ?_)
  have key : ∀ (n p : Nat), p + n = 5200 → wp l G y_GM_clear (gRm d) true (kkV X k) true 2 [.val (gR G o), .val (gI s), .val (gI (p : Int))] [] X (gFl M (o + 19) (s * 5200).toNat (fun _ => 0) p) 0 0 := by
    intro n
    induction n with
    | zero =>
      intro p hp
      have e : p = 5200 := by omega
      subst e
      exact w_GM_clear_2 hX hg ⟨by omega, by omega⟩ ⟨fun _ => ⟨hs, h⟩, fun h1 => absurd (by omega) h1⟩
    | succ n ih =>
      intro p hp
      have i1 := ih (p + 1) (by omega)
      refine w_GM_clear_2 hX hg ⟨by omega, by omega⟩ ⟨fun h1 => absurd h1 (by omega), fun _ => ⟨⟨by omega, by omega⟩, ?_⟩⟩
      have e : (s * 5200 + (p : Int)).toNat = (s * 5200).toNat + p := by omega
      rw [gI_w, e, gFl_s M (o + 19) (s * 5200).toNat (fun _ => 0) p]
      exact i1
  have k0 := key 5200 0 rfl
  rw [gFl_0] at k0
  exact k0
end gmC3
