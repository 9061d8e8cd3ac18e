/-! Contracts of the reference's methods with a loop: stretches of an array, the stack's texts. -/
/-- a stretch of a cell is written -/
def gFl (M : gM) (D a : Nat) (f : Nat → Int) (n : Nat) : gM := fun c j => if c = D ∧ a ≤ j ∧ j < a + n then f (j - a) else M c j
theorem gFl_0 (M : gM) (D a : Nat) (f : Nat → Int) : gFl M D a f 0 = M := by
  funext c j
  exact if_neg (by omega)
theorem gFl_s (M : gM) (D a : Nat) (f : Nat → Int) (n : Nat) : gUp (gFl M D a f n) D (a + n) (f n) = gFl M D a f (n + 1) := by
  funext c j
  unfold gUp gFl
  by_cases h : c = D ∧ j = a + n
  · rw [if_pos h, if_pos (by omega), h.2, Nat.add_sub_cancel_left]
  · rw [if_neg h]
    by_cases h2 : c = D ∧ a ≤ j ∧ j < a + n
    · rw [if_pos h2, if_pos (by omega)]
    · rw [if_neg h2, if_neg (by omega)]
theorem gFl_a {M : gM} {D a c j n : Nat} {f : Nat → Int} (h : c ≠ D) : gFl M D a f n c j = M c j := if_neg fun q => h q.1
theorem gFl_out {M : gM} {D a j n : Nat} {f : Nat → Int} (h : j < a ∨ a + n ≤ j) : gFl M D a f n D j = M D j := if_neg (by omega)
theorem gFl_in {M : gM} {D a j n : Nat} {f : Nat → Int} (h1 : a ≤ j) (h2 : j < a + n) : gFl M D a f n D j = f (j - a) := if_pos ⟨rfl, h1, h2⟩
theorem gFl_o {M : gM} {o b a j n : Nat} {f : Nat → Int} (h : b ≠ 0) : gFl M (o + b) a f n o j = M o j := gFl_a (by omega)
theorem gFl_oo {M : gM} {o b c a j n : Nat} {f : Nat → Int} (h : c ≠ b) : gFl M (o + b) a f n (o + c) j = M (o + c) j := gFl_a (by omega)
section gmC3
variable {l : Launch} {G : gG} {d : Nat} {X : gX} {M : gM} {o : Nat} {x y1 s v i n p t : Int}
/-- a state without contents -/
def gmClear (M : gM) (o : Nat) (s : Int) : gM := gUp (gFl M (o + 19) (s * 5200).toNat (fun _ => 0) 5200) (o + 25) s.toNat 0
theorem c_GM_clear {k : gM → Prop} (hX : gmX X o) (hs : 0 ≤ s ∧ s < 42) (h : k (gmClear M o s)) : cV l G y_GM_clear (gRm d) true [gR G o, gI s] X M k := by
  have hg : g32 s := ⟨by omega, by omega⟩
  refine e_GM_clear (w_GM_clear_0 hX hg ?_)
  have key : ∀ (n p : Nat), p + n = 5200 → wp l G y_GM_clear (gRm d) true (kkV X k) true 2 [.val (gR G o), .val (gI s), .val (gI (p : Int))] [] X (gFl M (o + 19) (s * 5200).toNat (fun _ => 0) p) 0 0 := by
    intro n
    induction n with
    | zero =>
      intro p hp
      have e : p = 5200 := by omega
      subst e
      exact w_GM_clear_2 hX hg ⟨by omega, by omega⟩ ⟨fun _ => ⟨hs, h⟩, fun h1 => absurd (by omega) h1⟩
    | succ n ih =>
      intro p hp
      have i1 := ih (p + 1) (by omega)
      refine w_GM_clear_2 hX hg ⟨by omega, by omega⟩ ⟨fun h1 => absurd h1 (by omega), fun _ => ⟨⟨by omega, by omega⟩, ?_⟩⟩
      have e : (s * 5200 + (p : Int)).toNat = (s * 5200).toNat + p := by omega
      rw [gI_w, e, gFl_s M (o + 19) (s * 5200).toNat (fun _ => 0) p]
      exact i1
  have k0 := key 5200 0 rfl
  rw [gFl_0] at k0
  exact k0
theorem gmPush_top (M : gM) (o : Nat) (s v : Int) : gmPush M o s v o 50 = M o 50 + 1 := gUp_eq _ _ _ _
theorem gmPush_f {j : Nat} (h : j ≠ 50) : gmPush M o s v o j = M o j := by
  unfold gmPush
  rw [gUp_k h]
  simp (disch := decide) only [gUp_o]
theorem gmPush_oo {b j : Nat} (h0 : b ≠ 0) (h1 : b ≠ 34) (h2 : b ≠ 35) (h3 : b ≠ 36) : gmPush M o s v (o + b) j = M (o + b) j := by
  unfold gmPush
  rw [gUp_ao h0, gUp_oo h2, gUp_oo h3, gUp_oo h1]
/-- the first ERROR of n values from i on -/
def gmBad (M : gM) (o : Nat) : Nat → Int → Option Int
  | 0, _ => none
  | n + 1, i => if M (o + 34) i.toNat = 4 then some (M (o + 36) i.toNat) else gmBad M o n (i + 1)
theorem c_GM_spoilt {k : Int → gM → Prop} (hX : gmX X o) (hn : 0 ≤ n ∧ n ≤ M o 50) (ht : M o 50 ≤ 1200) (hE : ∀ e, gmBad M o n.toNat (M o 50 - n) = some e → g32 e) (h0 : gmBad M o n.toNat (M o 50 - n) = none → k 0 M)
    (h1 : ∀ e, gmBad M o n.toNat (M o 50 - n) = some e → k 1 (gmPush (gUp M o 50 (M o 50 - n)) o 4 e)) : cZ l G y_GM_spoilt (gRm (d + 1 + 1)) true [gR G o, gI n] X M k := by
  have hg : g32 n := ⟨by omega, by omega⟩
  refine e_GM_spoilt (w_GM_spoilt_0 hX hg fun _ => ?_)
  rw [w32_id ⟨by omega, by omega⟩]
  have key : ∀ (m : Nat) (i : Int), i + m = M o 50 → 0 ≤ i → gmBad M o n.toNat (M o 50 - n) = gmBad M o m i → m ≤ n.toNat → wp l G y_GM_spoilt (gRm (d + 1 + 1)) true (kkZ X k) true 7 [.val (gR G o), .val (gI n), .val (gI i), .unset, .unset] [] X M 0 0 := by
    intro m
    induction m with
    | zero =>
      intro i hi hi0 hb hm
      exact w_GM_spoilt_7 hX hg ⟨by omega, by omega⟩ fun _ => ⟨fun _ => h0 hb, fun h2 => absurd (by omega) h2⟩
    | succ m ih =>
      intro i hi hi0 hb hm
      refine w_GM_spoilt_7 hX hg ⟨by omega, by omega⟩ fun _ => ⟨fun h2 => absurd h2 (by omega), fun _ => c_GM_isFault hX ⟨by omega, by omega⟩ ?_⟩
      rw [show gmBad M o (m + 1) i = if M (o + 34) i.toNat = 4 then some (M (o + 36) i.toNat) else gmBad M o m (i + 1) from rfl] at hb
      by_cases hf : M (o + 34) i.toNat = 4
      · rw [if_pos hf] at hb
        rw [if_pos hf]
        refine ⟨fun _ => ⟨⟨by omega, by omega⟩, fun _ _ => ?_⟩, fun h2 => absurd h2 (by decide)⟩
        rw [w32_id ⟨by omega, by omega⟩]
        exact c_GM_fault hX (hE _ hb) (by rw [gUp_eq]; omega) (h1 _ hb)
      · rw [if_neg hf] at hb
        rw [if_neg hf]
        refine ⟨fun h2 => absurd rfl h2, fun _ => ?_⟩
        rw [gI_w]
        exact ih (i + 1) (by omega) (by omega) hb (by omega)
  exact key n.toNat (M o 50 - n) (by omega) (by omega) rfl (Nat.le_refl _)
/-- the value of a place on top of the stack -/
def gmPushCell (M : gM) (o : Nat) (p : Int) : gM := gFl (gUp (gmPush M o (M (o + 26) p.toNat) (M (o + 30) p.toNat)) (o + 35) (M o 50).toNat (M (o + 27) p.toNat)) (o + 37) (64 * M o 50).toNat (fun j => M (o + 32) (64 * p + j).toNat) (M (o + 27) p.toNat).toNat
theorem c_GM_pushCell {k : gM → Prop} (hX : gmX X o) (hp : 0 ≤ p ∧ p < 5200) (ht : 0 ≤ M o 50 ∧ M o 50 < 1200) (hl : 0 ≤ M (o + 27) p.toNat ∧ M (o + 27) p.toNat ≤ 64) (h : k (gmPushCell M o p)) : cV l G y_GM_pushCell (gRm (d + 1)) true [gR G o, gI p] X M k := by
  have hg : g32 p := ⟨by omega, by omega⟩
  refine e_GM_pushCell (w_GM_pushCell_0 hX hg ⟨hp, fun hs1 => ⟨hp, fun hv1 => c_GM_push hX hs1 hv1 ht ?_⟩⟩)
  rw [gmPush_top, gmPush_oo (by decide) (by decide) (by decide) (by decide), Int.add_sub_cancel]
  refine fun _ => ⟨hp, fun _ => ⟨ht, ?_⟩⟩
  have key : ∀ (n q : Nat), (q : Int) + n = M (o + 27) p.toNat → wp l G y_GM_pushCell (gRm (d + 1)) true (kkV X k) true 35 [.val (gR G o), .val (gI p), .val (gI (q : Int))] [] X (gFl (gUp (gmPush M o (M (o + 26) p.toNat) (M (o + 30) p.toNat)) (o + 35) (M o 50).toNat (M (o + 27) p.toNat)) (o + 37) (64 * M o 50).toNat (fun j => M (o + 32) (64 * p + j).toNat) q) 0 0 := by
    intro n
    induction n with
    | zero =>
      intro q hq
      have e : q = (M (o + 27) p.toNat).toNat := by omega
      refine w_GM_pushCell_35 hX hg ⟨by omega, by omega⟩ ⟨hp, ?_⟩
      rw [gFl_oo (by decide), gUp_oo (by decide), gmPush_oo (by decide) (by decide) (by decide) (by decide)]
      refine fun _ => ⟨fun _ => ?_, fun h1 => absurd (by omega) h1⟩
      rw [e]
      exact h
    | succ n ih =>
      intro q hq
      have i1 := ih (q + 1) (by omega)
      refine w_GM_pushCell_35 hX hg ⟨by omega, by omega⟩ ⟨hp, ?_⟩
      rw [gFl_oo (by decide), gUp_oo (by decide), gmPush_oo (by decide) (by decide) (by decide) (by decide)]
      refine fun _ => ⟨fun h1 => absurd h1 (by omega), fun _ => ?_⟩
      rw [gFl_o (by decide), gUp_o (by decide), gmPush_top, gFl_oo (by decide), gUp_oo (by decide), gmPush_oo (by decide) (by decide) (by decide) (by decide), Int.add_sub_cancel]
      refine fun _ => ⟨⟨by omega, by omega⟩, fun hb => ⟨⟨by omega, by omega⟩, ?_⟩⟩
      have e : (64 * M o 50 + (q : Int)).toNat = (64 * M o 50).toNat + q := by omega
      rw [gI_w, gByte_id hb, e, gFl_s _ (o + 37) (64 * M o 50).toNat (fun j => M (o + 32) (64 * p + j).toNat) q]
      exact i1
  have k0 := key (M (o + 27) p.toNat).toNat 0 (by omega)
  rw [gFl_0] at k0
  exact k0
end gmC3
