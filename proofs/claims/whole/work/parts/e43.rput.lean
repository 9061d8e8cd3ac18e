/-! The reference's put, up to accept: its two loops. -/
/-- what INPUT's bytes S become -/
noncomputable def gTyp (S : List Int) : Option (List Int × List Int) := if S = [] then none else some (S, gTg0 S)
def gPuR (o : Nat) : Nat → Nat → Prop := fun a j => (o + 1 ≤ a ∧ a ≤ o + 18) ∨ gSlR o 41 a j ∨ (a = o ∧ (j < 35 ∨ j = 72))
theorem gNum_61 {S : List Int} {z : Int} (h : gNum S = some z) : S.getD 0 0 ≠ 61 := by
  cases S with
  | nil => exact fun y => absurd y (by decide)
  | cons c r =>
    intro y
    have y : c = 61 := y
    subst y
    have a : gNumA (61 :: r) 0 = none := if_neg (by decide)
    have b : gNum (61 :: r) = none := by
      simp only [gNum, a]
      rfl
    rw [b] at h
    exact nomatch h
section ggG
variable {l : Launch} {G : gG} {d : Nat} {X : gX} {A M M3 : gM} {o nw s p f R E n L : Nat} {F : gSht} {S : List Int} {k : Int → gM → Prop}
theorem gPut_st {E2 : Nat} {x : Option (List Int × List Int)} (c : ∀ q, q < 5200 → gmClR A o 41 q (F q) 0 E) (g : gmGr A M3 o) (kk : ∀ i q, 19 ≤ i → i ≤ 23 → q < 5200 → q ≠ p → M3 (o + i) (41 * 5200 + q) = A (o + i) (41 * 5200 + q)) (k24 : ∀ j, j < E → M3 (o + 24) (41 * 20800 + j) = A (o + 24) (41 * 20800 + j)) (e25 : M3 (o + 25) 41 = (E2 : Int)) (hE : E ≤ E2 ∧ E2 ≤ 20750) (cx : gmCl M3 o 41 p x) : gmSt M3 o 41 (gPut F x p) := by
  refine ⟨by decide, fun q hq => ?_, by rw [e25]; omega, by rw [e25]; omega⟩
  unfold gPut
  by_cases y : q = p
  · rw [if_pos y, y]; exact cx
  · rw [if_neg y]
    exact ((c q hq).gr g (fun i i1 i2 => kk i q i1 i2 hq y) (fun j _ j2 => k24 j j2)).cl e25 hE.1
theorem r_put361 (hX : gmX X o) (h9 : A (o + 9) f = (n : Int)) (h8 : A (o + 8) f = (R : Int)) (hE : A (o + 25) 41 = (E : Int)) (b1 : E + n ≤ 20800) (b2 : R + n ≤ 45000) (hf : f < 4200)
    (hk : ∀ B, gOff (fun a j => (a = o + 24 ∧ 852800 + E ≤ j ∧ j < 852800 + E + n) ∨ (a = o + 25 ∧ j = 41)) A B → (∀ i, i < n → B (o + 24) (852800 + E + i) = A (o + 10) (R + i)) → B (o + 25) 41 = ((E + n : Nat) : Int) → cI l G y_GM_accept (gRm d) true [gR G o] X B k) :
    wp l G y_GM_put (gRm (d + 1)) true (kkI X k) true 361 [.val (gR G o), .unset, .unset, .unset, .unset, .unset, .unset, .unset, .unset, .val (gI (f : Int)), .val (gI 0)] [] X A 0 0 := by
  have key : ∀ (u i : Nat) (B : gM), i + u = n → gOff (fun a j => a = o + 24 ∧ 852800 + E ≤ j ∧ j < 852800 + E + n) A B → (∀ j, j < i → B (o + 24) (852800 + E + j) = A (o + 10) (R + j)) → wp l G y_GM_put (gRm (d + 1)) true (kkI X k) true 361 [.val (gR G o), .unset, .unset, .unset, .unset, .unset, .unset, .unset, .unset, .val (gI (f : Int)), .val (gI (i : Int))] [] X B 0 0 := by
    intro u
    induction u with
    | zero =>
      intro i B hi oB hB
      have q : ∀ a j, a ≠ o + 24 → B a j = A a j := fun a j h => oB _ _ (fun y => h y.1)
      refine w_GM_put_361 hX ⟨by omega, by omega⟩ ⟨by omega, by omega⟩ ⟨⟨by omega, by omega⟩, ?_⟩
      rw [Int.toNat_natCast, show Int.toNat 41 = 41 from rfl, q (o + 9) f (by omega), h9, q (o + 25) 41 (by omega), hE]
      refine fun _ => ⟨fun _ => ⟨⟨by decide, by decide⟩, fun _ => ⟨⟨by omega, by omega⟩, fun _ => ⟨⟨by decide, by decide⟩, ?_⟩⟩⟩, fun y => absurd (by omega) y⟩
      rw [w32_id (x := (E : Int) + (n : Int)) ⟨by omega, by omega⟩, show (E : Int) + (n : Int) = ((E + n : Nat) : Int) by omega]
      exact hk _ ((oB.mono (fun a j h => Or.inl h)).up (Or.inr ⟨rfl, rfl⟩)) (fun j hj => by rw [gUp_a (by omega)]; exact hB j (by omega)) (gUp_eq _ _ _ _)
    | succ u ih =>
      intro i B hi oB hB
      have q : ∀ a j, a ≠ o + 24 → B a j = A a j := fun a j h => oB _ _ (fun y => h y.1)
      refine w_GM_put_361 hX ⟨by omega, by omega⟩ ⟨by omega, by omega⟩ ⟨⟨by omega, by omega⟩, ?_⟩
      rw [Int.toNat_natCast, show Int.toNat 41 = 41 from rfl, q (o + 9) f (by omega), h9, q (o + 25) 41 (by omega), hE, q (o + 8) f (by omega), h8, w32_id (x := (i : Int) + 1) ⟨by omega, by omega⟩, show (i : Int) + 1 = ((i + 1 : Nat) : Int) by omega, show ((R : Int) + (i : Int)).toNat = R + i by omega, show (852800 + (E : Int) + (i : Int)).toNat = 852800 + E + i by omega, q (o + 10) (R + i) (by omega)]
      refine fun _ => ⟨fun y => absurd y (by omega), fun _ => ⟨⟨by decide, by decide⟩, fun _ => ⟨⟨by omega, by omega⟩, fun _ => ⟨⟨by omega, by omega⟩, fun _ => ⟨⟨by omega, by omega⟩, ?_⟩⟩⟩⟩⟩
      refine ih (i + 1) _ (by omega) (oB.up ⟨rfl, by omega, by omega⟩) (fun j hj => ?_)
      by_cases e : j = i
      · subst e; exact gUp_eq _ _ _ _
      · rw [gUp_k (by omega)]; exact hB j (by omega)
  exact key n 0 A (by omega) (gOff.rf _ _) (fun j hj => absurd hj (Nat.not_lt_zero _))
theorem r_put251 {x5 : Int} {a : Nat} (hX : gmX X o) (g5 : g32 x5) (ha : a < 218400) (hS : ∀ j, j < S.length → A (o + 46) j = S.getD j 0) (hp : ∀ j, j < S.length → 32 ≤ S.getD j 0 ∧ S.getD j 0 ≤ 126) (hl : S.length ≤ 240) (hL : L + S.length ≤ 90000) (h2 : A o 2 = (L : Int))
    (hk0 : x5 = 0 → ∀ B, gOff (fun z j => (z = o + 1 ∧ L ≤ j ∧ j < L + S.length) ∨ (z = o ∧ j = 2)) A B → (∀ j, j < S.length → B (o + 1) (L + j) = S.getD j 0) → B o 2 = ((L + S.length : Nat) : Int) → wp l G y_GM_put (gRm (d + 1)) true (kkI X k) true 309 [.val (gR G o), .unset, .unset, .val (gI (S.length : Int)), .unset, .val (gI x5), .unset, .val (gI (a : Int)), .val (gI (L : Int)), .val (gI 0), .unset] [] X B 0 0)
    (hk1 : ¬ x5 = 0 → ∀ B, gOff (fun z j => (z = o + 1 ∧ L ≤ j ∧ j < L + S.length) ∨ (z = o ∧ j = 2)) A B → (∀ j, j < S.length → B (o + 1) (L + j) = S.getD j 0) → B o 2 = ((L + S.length : Nat) : Int) → cI l G y_GM_form (gRm d) true [gR G o, gI ((L + 1 : Nat) : Int), gI ((L + S.length : Nat) : Int)] X B (fun v M82 => wp l G y_GM_put (gRm (d + 1)) true (kkI X k) true 309 [.val (gR G o), .unset, .unset, .val (gI (S.length : Int)), .unset, .val (gI x5), .unset, .val (gI (a : Int)), .val (gI (L : Int)), .val (gI v), .unset] [] X M82 0 0)) :
    wp l G y_GM_put (gRm (d + 1)) true (kkI X k) true 251 [.val (gR G o), .unset, .unset, .val (gI (S.length : Int)), .unset, .val (gI x5), .unset, .val (gI (a : Int)), .val (gI (L : Int)), .val (gI 0), .val (gI 0)] [] X A 0 0 := by
  have key : ∀ (u i : Nat) (B : gM), i + u = S.length → gOff (fun z j => z = o + 1 ∧ L ≤ j ∧ j < L + S.length) A B → (∀ j, j < i → B (o + 1) (L + j) = S.getD j 0) → wp l G y_GM_put (gRm (d + 1)) true (kkI X k) true 251 [.val (gR G o), .unset, .unset, .val (gI (S.length : Int)), .unset, .val (gI x5), .unset, .val (gI (a : Int)), .val (gI (L : Int)), .val (gI 0), .val (gI (i : Int))] [] X B 0 0 := by
    intro u
    induction u with
    | zero =>
      intro i B hi oB hB
      have q : ∀ z j, z ≠ o + 1 → B z j = A z j := fun z j h => oB _ _ (fun y => h y.1)
      refine w_GM_put_251 hX ⟨by omega, by omega⟩ g5 ⟨by omega, by omega⟩ ⟨by omega, by omega⟩ (g32_c rfl) ⟨by omega, by omega⟩ ⟨fun _ _ => ?_, fun y => absurd (by omega) y⟩
      rw [q o 2 (by omega), h2, w32_id (x := (L : Int) + (S.length : Int)) ⟨by omega, by omega⟩, show (L : Int) + (S.length : Int) = ((L + S.length : Nat) : Int) by omega, show (L : Int) + 1 = ((L + 1 : Nat) : Int) by omega]
      have o2 := (oB.mono (fun z j h => (Or.inl h : (z = o + 1 ∧ L ≤ j ∧ j < L + S.length) ∨ (z = o ∧ j = 2)))).up (a := o) (k := 2) (x := ((L + S.length : Nat) : Int)) (Or.inr ⟨rfl, rfl⟩)
      have b2 : ∀ j, j < S.length → gUp B o 2 ((L + S.length : Nat) : Int) (o + 1) (L + j) = S.getD j 0 := fun j hj => by rw [gUp_a (by omega)]; exact hB j (by omega)
      exact ⟨fun y => hk0 y _ o2 b2 (gUp_eq _ _ _ _), fun y => hk1 y _ o2 b2 (gUp_eq _ _ _ _)⟩
    | succ u ih =>
      intro i B hi oB hB
      have q : ∀ z j, z ≠ o + 1 → B z j = A z j := fun z j h => oB _ _ (fun y => h y.1)
      have pi := hp i (by omega)
      refine w_GM_put_251 hX ⟨by omega, by omega⟩ g5 ⟨by omega, by omega⟩ ⟨by omega, by omega⟩ (g32_c rfl) ⟨by omega, by omega⟩ ⟨fun y => absurd y (by omega), fun _ => ⟨⟨by omega, by omega⟩, ?_⟩⟩
      rw [Int.toNat_natCast, q (o + 46) i (by omega), hS i (by omega), gByte_id ⟨by omega, by omega⟩, w32_id (x := (i : Int) + 1) ⟨by omega, by omega⟩, show (i : Int) + 1 = ((i + 1 : Nat) : Int) by omega, show ((L : Int) + (i : Int)).toNat = L + i by omega]
      refine fun _ => ⟨⟨by omega, by omega⟩, ih (i + 1) _ (by omega) (oB.up ⟨rfl, by omega, by omega⟩) (fun j hj => ?_)⟩
      by_cases e : j = i
      · subst e; exact gUp_eq _ _ _ _
      · rw [gUp_k (by omega)]; exact hB j (by omega)
  exact key S.length 0 A (by omega) (gOff.rf _ _) (fun j hj => absurd hj (Nat.not_lt_zero _))
end ggG
