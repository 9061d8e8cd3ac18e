/-! Contracts of the reference's small methods. -/
theorem gUp_eq (M : gM) (a k : Nat) (x : Int) : gUp M a k x a k = x := if_pos ⟨rfl, rfl⟩
theorem gUp_k {M : gM} {a k j : Nat} {x : Int} (h : j ≠ k) : gUp M a k x a j = M a j := if_neg fun q => h q.2
theorem gUp_a {M : gM} {a b k j : Nat} {x : Int} (h : b ≠ a) : gUp M a k x b j = M b j := if_neg fun q => h q.1
theorem gUp_oo {M : gM} {o a b k j : Nat} {x : Int} (h : b ≠ a) : gUp M (o + a) k x (o + b) j = M (o + b) j := gUp_a (by omega)
theorem gUp_o {M : gM} {o a k j : Nat} {x : Int} (h : a ≠ 0) : gUp M (o + a) k x o j = M o j := gUp_a (by omega)
theorem gUp_ao {M : gM} {o a k j : Nat} {x : Int} (h : a ≠ 0) : gUp M o k x (o + a) j = M (o + a) j := gUp_a (by omega)
section gmC1
variable {l : Launch} {G : gG} {d : Nat} {X : gX} {M : gM} {o : Nat} {x y1 s : Int}
theorem c_GM_thrown {k : Int → gM → Prop} (hX : gmX X o) (h : k (M o 0) M) : cI l G y_GM_thrown (gRm d) false [gR G o] X M k := e_GM_thrown (w_GM_thrown_0 hX fun _ => h)
theorem c_GM_no {k : Int → gM → Prop} (hX : gmX X o) (hx : g32 x) (h : k 0 (gUp M o 0 x)) : cI l G y_GM_no (gRm d) true [gR G o, gI x] X M k := e_GM_no (w_GM_no_0 hX hx h)
theorem c_GM_inSheet {k : Int → gM → Prop} (hx : g32 x) (hy : g32 y1) (h : k (if 0 ≤ x ∧ x < 26 ∧ 0 ≤ y1 ∧ y1 < 200 then 1 else 0) M) : cZ l G y_GM_inSheet (gRm d) false [gI x, gI y1] X M k := by
  refine e_GM_inSheet (w_GM_inSheet_0 hx hy ⟨fun h1 => ?_, fun h1 => ⟨fun h2 => ?_, fun h2 => ⟨fun h3 => ?_, fun h3 => ⟨fun h4 => ?_, fun h4 => ?_⟩⟩⟩⟩)
  · rw [if_neg (by omega)] at h; exact h
  · rw [if_neg (by omega)] at h; exact h
  · rw [if_neg (by omega)] at h; exact h
  · rw [if_neg (by omega)] at h; exact h
  · rw [if_pos (by omega)] at h; exact h
theorem c_GM_slot {k : Int → gM → Prop} (hx : 0 ≤ x) (hx2 : x < 1000000) (h : k (x % 41) M) : cI l G y_GM_slot (gRm d) false [gI x] X M k := by
  refine e_GM_slot (w_GM_slot_0 ⟨by omega, by omega⟩ ?_)
  have e : w32 (x.tmod 41) = x % 41 := by
    rw [Int.tmod_eq_emod_of_nonneg hx, w32_id ⟨by omega, by omega⟩]
  rw [e]
  exact h
/-- how many of the first p places of state s have a content -/
def gmCnt (M : gM) (o : Nat) (s : Int) : Nat → Int
  | 0 => 0
  | p + 1 => gmCnt M o s p + (if M (o + 19) (s * 5200 + (p : Int)).toNat = 0 then 0 else 1)
theorem gmCnt_bd (M : gM) (o : Nat) (s : Int) (p : Nat) : 0 ≤ gmCnt M o s p ∧ gmCnt M o s p ≤ p := by
  induction p with
  | zero => exact ⟨Int.le_refl _, Int.le_refl _⟩
  | succ p ih =>
    unfold gmCnt
    split <;> omega
theorem c_GM_contents {k : Int → gM → Prop} (hX : gmX X o) (hs : 0 ≤ s ∧ s < 42) (h : k (gmCnt M o s 5200) M) : cI l G y_GM_contents (gRm d) false [gR G o, gI s] X M k := by
  have hg : g32 s := ⟨by omega, by omega⟩
  refine e_GM_contents (w_GM_contents_0 hX hg ?_)
  have key : ∀ (n p : Nat), p + n = 5200 → wp l G y_GM_contents (gRm d) false (kkI X k) false 4 [.val (gR G o), .val (gI s), .val (gI (gmCnt M o s p)), .val (gI (p : Int))] [] X M 0 0 := by
    intro n
    induction n with
    | zero =>
      intro p hp
      have e : p = 5200 := by omega
      subst e
      have hb := gmCnt_bd M o s 5200
      exact w_GM_contents_4 hX hg ⟨by omega, by omega⟩ ⟨by omega, by omega⟩ ⟨fun _ => h, fun h1 => absurd (by omega) h1⟩
    | succ n ih =>
      intro p hp
      have hb := gmCnt_bd M o s p
      have i1 := ih (p + 1) (by omega)
      refine w_GM_contents_4 hX hg ⟨by omega, by omega⟩ ⟨by omega, by omega⟩ ⟨fun h1 => absurd h1 (by omega), fun _ => ⟨⟨by omega, by omega⟩, fun _ => ⟨fun hz => ?_, fun hz => ?_⟩⟩⟩
      · have e1 : gmCnt M o s (p + 1) = gmCnt M o s p := by
          show gmCnt M o s p + _ = _
          rw [if_pos hz]; omega
        rw [e1] at i1
        rw [gI_w]
        exact i1
      · have e1 : gmCnt M o s (p + 1) = gmCnt M o s p + 1 := by
          show gmCnt M o s p + _ = _
          rw [if_neg hz]
        rw [e1] at i1
        rw [gI_w, gI_w]
        exact i1
  exact key 5200 0 rfl
end gmC1
