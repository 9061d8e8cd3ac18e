/-! The reference's remember. -/
/-- the values of the first n places, remembered -/
def gmRem (M : gM) (o n : Nat) : gM := fun c j => if c = o + 28 ∧ j < n then M (o + 26) j else if c = o + 31 ∧ j < n then M (o + 30) j else if c = o + 29 ∧ j < n then M (o + 27) j else if c = o + 33 ∧ j < 64 * n ∧ ((j % 64 : Nat) : Int) < M (o + 27) (j / 64) then M (o + 32) j else M c j
theorem gmRem_0 (M : gM) (o : Nat) : gmRem M o 0 = M := by
  funext c j
  unfold gmRem
  rw [if_neg (by omega), if_neg (by omega), if_neg (by omega), if_neg (by omega)]
theorem gmRem_a {M : gM} {o n c j : Nat} (h1 : c ≠ o + 28) (h2 : c ≠ o + 31) (h3 : c ≠ o + 29) (h4 : c ≠ o + 33) : gmRem M o n c j = M c j := by
  unfold gmRem
  rw [if_neg (fun q => h1 q.1), if_neg (fun q => h2 q.1), if_neg (fun q => h3 q.1), if_neg (fun q => h4 q.1)]
theorem gmRem_s {M : gM} {o n : Nat} (hl : 0 ≤ M (o + 27) n ∧ M (o + 27) n ≤ 64) : gFl (gUp (gUp (gUp (gmRem M o n) (o + 28) n (M (o + 26) n)) (o + 31) n (M (o + 30) n)) (o + 29) n (M (o + 27) n)) (o + 33) (64 * n) (fun j => M (o + 32) (64 * n + j)) (M (o + 27) n).toNat = gmRem M o (n + 1) := by
  funext c j
  by_cases h33 : c = o + 33
  · subst h33
    by_cases hj : j < 64 * n
    · rw [gFl_out (Or.inl hj), gUp_oo (by decide), gUp_oo (by decide), gUp_oo (by decide)]
      unfold gmRem
      rw [if_neg (by omega), if_neg (by omega), if_neg (by omega)]
      by_cases hc : ((j % 64 : Nat) : Int) < M (o + 27) (j / 64)
      · rw [if_pos ⟨rfl, hj, hc⟩, if_neg (by omega), if_neg (by omega), if_neg (by omega), if_pos ⟨rfl, by omega, hc⟩]
      · rw [if_neg (fun q => hc q.2.2), if_neg (by omega), if_neg (by omega), if_neg (by omega), if_neg (fun q => hc q.2.2)]
    · by_cases hk : j < 64 * n + (M (o + 27) n).toNat
      · rw [gFl_in (by omega) hk]
        have e : j / 64 = n := by omega
        unfold gmRem
        rw [if_neg (by omega), if_neg (by omega), if_neg (by omega), if_pos ⟨rfl, by omega, by rw [e]; omega⟩]
        show M (o + 32) (64 * n + (j - 64 * n)) = _
        rw [show 64 * n + (j - 64 * n) = j by omega]
      · rw [gFl_out (Or.inr (by omega)), gUp_oo (by decide), gUp_oo (by decide), gUp_oo (by decide)]
        unfold gmRem
        rw [if_neg (by omega), if_neg (by omega), if_neg (by omega), if_neg (by omega), if_neg (by omega), if_neg (by omega), if_neg (by omega)]
        rw [if_neg (fun q => by have e : j / 64 = n := by omega
                                have q2 := q.2.2
                                rw [e] at q2
                                omega)]
  · rw [gFl_a h33]
    unfold gUp gmRem
    by_cases h28 : c = o + 28
    · subst h28
      rw [if_neg (by omega), if_neg (by omega)]
      by_cases e : j = n
      · rw [if_pos ⟨rfl, e⟩, if_pos ⟨rfl, by omega⟩, e]
      · rw [if_neg (fun q => e q.2)]
        by_cases e2 : j < n
        · rw [if_pos ⟨rfl, e2⟩, if_pos ⟨rfl, by omega⟩]
        · rw [if_neg (by omega), if_neg (by omega), if_neg (by omega), if_neg (by omega), if_neg (by omega), if_neg (by omega), if_neg (by omega), if_neg (by omega)]
    · by_cases h31 : c = o + 31
      · subst h31
        rw [if_neg (by omega)]
        by_cases e : j = n
        · rw [if_pos ⟨rfl, e⟩, if_neg (by omega), if_pos ⟨rfl, by omega⟩, e]
        · rw [if_neg (fun q => e q.2), if_neg (by omega), if_neg (by omega)]
          by_cases e2 : j < n
          · rw [if_pos ⟨rfl, e2⟩, if_neg (by omega), if_pos ⟨rfl, by omega⟩]
          · rw [if_neg (by omega), if_neg (by omega), if_neg (by omega), if_neg (by omega), if_neg (by omega), if_neg (by omega), if_neg (by omega)]
      · by_cases h29 : c = o + 29
        · subst h29
          by_cases e : j = n
          · rw [if_pos ⟨rfl, e⟩, if_neg (by omega), if_neg (by omega), if_pos ⟨rfl, by omega⟩, e]
          · rw [if_neg (fun q => e q.2), if_neg (by omega), if_neg (by omega), if_neg (by omega), if_neg (by omega)]
            by_cases e2 : j < n
            · rw [if_pos ⟨rfl, e2⟩, if_neg (by omega), if_neg (by omega), if_pos ⟨rfl, by omega⟩]
            · rw [if_neg (by omega), if_neg (by omega), if_neg (by omega), if_neg (by omega), if_neg (by omega), if_neg (by omega)]
        · rw [if_neg (fun q => h29 q.1), if_neg (fun q => h31 q.1), if_neg (fun q => h28 q.1), if_neg (fun q => h28 q.1), if_neg (fun q => h31 q.1), if_neg (fun q => h29 q.1), if_neg (fun q => h33 q.1), if_neg (fun q => h28 q.1), if_neg (fun q => h31 q.1), if_neg (fun q => h29 q.1), if_neg (fun q => h33 q.1)]
section gmC11
variable {l : Launch} {G : gG} {d : Nat} {X : gX} {M : gM} {o : Nat}
theorem c_GM_remember {k : gM → Prop} (hX : gmX X o) (hl : ∀ p : Nat, p < 5200 → 0 ≤ M (o + 27) p ∧ M (o + 27) p ≤ 64) (h : k (gmRem M o 5200)) : cV l G y_GM_remember (gRm d) true [gR G o] X M k := by
  refine e_GM_remember (w_GM_remember_0 hX ?_)
  have key : ∀ (n p : Nat), p + n = 5200 → wp l G y_GM_remember (gRm d) true (kkV X k) true 2 [.val (gR G o), .val (gI (p : Int)), .unset] [] X (gmRem M o p) 0 0 := by
    intro n
    induction n with
    | zero =>
      intro p hp
      have e : p = 5200 := by omega
      subst e
      exact w_GM_remember_2 hX ⟨by omega, by omega⟩ ⟨fun _ => h, fun a => absurd (by omega) a⟩
    | succ n ih =>
      intro p hp
      have hlp := hl p (by omega)
      have bp : (0 : Int) ≤ (p : Int) ∧ (p : Int) < 5200 := ⟨by omega, by omega⟩
      have i1 := ih (p + 1) (by omega)
      rw [← gmRem_s hlp] at i1
      refine w_GM_remember_2 hX ⟨by omega, by omega⟩ ⟨fun a => absurd a (by omega), fun _ => ⟨bp, ?_⟩⟩
      rw [Int.toNat_natCast]
      simp (disch := decide) only [gUp_oo]
      rw [gmRem_a (c := o + 26) (by omega) (by omega) (by omega) (by omega), gmRem_a (c := o + 30) (by omega) (by omega) (by omega) (by omega), gmRem_a (c := o + 27) (by omega) (by omega) (by omega) (by omega)]
      refine fun _ => ⟨bp, bp, fun _ => ⟨bp, bp, fun _ => ⟨bp, ?_⟩⟩⟩
      have inn : ∀ (m q : Nat), (q : Int) + m = M (o + 27) p → wp l G y_GM_remember (gRm d) true (kkV X k) true 47 [.val (gR G o), .val (gI (p : Int)), .val (gI (q : Int))] [] X (gFl (gUp (gUp (gUp (gmRem M o p) (o + 28) p (M (o + 26) p)) (o + 31) p (M (o + 30) p)) (o + 29) p (M (o + 27) p)) (o + 33) (64 * p) (fun j => M (o + 32) (64 * p + j)) q) 0 0 := by
        intro m
        induction m with
        | zero =>
          intro q hq
          have eq : q = (M (o + 27) p).toNat := by omega
          refine w_GM_remember_47 hX ⟨by omega, by omega⟩ ⟨by omega, by omega⟩ ⟨bp, ?_⟩
          rw [Int.toNat_natCast, gFl_oo (by decide), gUp_oo (by decide), gUp_oo (by decide), gUp_oo (by decide), gmRem_a (c := o + 27) (by omega) (by omega) (by omega) (by omega)]
          refine fun _ => ⟨fun _ => ?_, fun a => absurd (by omega) a⟩
          rw [gI_w, eq]
          exact i1
        | succ m ihm =>
          intro q hq
          have j1 := ihm (q + 1) (by omega)
          rw [← gFl_s] at j1
          refine w_GM_remember_47 hX ⟨by omega, by omega⟩ ⟨by omega, by omega⟩ ⟨bp, ?_⟩
          rw [Int.toNat_natCast, gFl_oo (by decide), gUp_oo (by decide), gUp_oo (by decide), gUp_oo (by decide), gmRem_a (c := o + 27) (by omega) (by omega) (by omega) (by omega)]
          refine fun _ => ⟨fun a => absurd a (by omega), fun _ => ⟨⟨by omega, by omega⟩, ?_⟩⟩
          rw [gFl_oo (by decide), gUp_oo (by decide), gUp_oo (by decide), gUp_oo (by decide), gmRem_a (c := o + 32) (by omega) (by omega) (by omega) (by omega), show (64 * (p : Int) + (q : Int)).toNat = 64 * p + q by omega]
          refine fun hb => ⟨⟨by omega, by omega⟩, ?_⟩
          rw [gI_w, gByte_id hb]
          exact j1
      have i0 := inn (M (o + 27) p).toNat 0 (by omega)
      rw [gFl_0] at i0
      exact i0
  have k0 := key 5200 0 rfl
  rw [gmRem_0] at k0
  exact k0
end gmC11
