/-! The reference's put. -/
section ggJ
variable {l : Launch} {G : gG} {d : Nat} {X : gX} {A M M2 M3 : gM} {o nw s p f R E n L N x y : Nat} {F : gSht} {S : List Int} {k : Int → gM → Prop} {Q : gQ}
def gBgR (o : Nat) : Nat → Nat → Prop := fun a j => a = o ∧ (j = 3 ∨ j = 72)
theorem r_put (hX : gmX X o) (hO : gOld G Q) (hx : x < 26) (hy : y < 200) (ep : p = x + 26 * y) (hS : ∀ j, j < S.length → M (o + 46) j = S.getD j 0) (hl : S.length ≤ 240) (h72 : M o 72 = (S.length : Int)) (h36 : M o 36 = (nw : Int)) (hnw : nw < 99999) (es : s = nw % 41) (hst : gmSt M o s F) (hF : gSok F) (hn : gCn (gnE F) 5200 ≤ 400) (m2 : M o 2 = (L : Int)) (hL : L ≤ 89000) (m9 : M o 9 = (N : Int)) (hN : N ≤ 89700) (m13 : M o 13 = (f : Int)) (hf : f < 4200) (m17 : M o 17 = (R : Int)) (hR : R ≤ 44700)
    (hk1 : gBadS S → ∀ M3, gOff (fun a j => a = o ∧ (j = 0 ∨ j = 3 ∨ j = 72)) M M3 → M3 o 0 = 1 → M3 o 72 = 0 → k 0 M3)
    (hk2 : ¬ gBadS S → ∀ M3, gOff (gPuR o) M M3 → gmGr M M3 o → M3 o 72 = 0 → M3 o 2 ≤ ((L + S.length : Nat) : Int) → M3 o 9 ≤ ((N + 100 : Nat) : Int) → M3 o 13 ≤ ((f + 1 : Nat) : Int) → M3 o 17 ≤ ((R + 50 : Nat) : Int) → gmSt M3 o 41 (gPut F (gTyp S) p) → cI l G y_GM_accept (gRm (d + 312)) true [gR G o] X M3 k) :
    cI l G y_GM_put (gRm (d + 312 + 1)) true [gR G o, gI (x : Int), gI (y : Int)] X M k := by
  have mem : ∀ j, j < S.length → S.getD j 0 ∈ S := fun j hj => by
    rw [List.getD_eq_getElem?_getD, List.getElem?_eq_getElem hj]
    exact List.getElem_mem _
  have nop : gBadS S → ∀ A, gOff (gBgR o) M A → A o 72 = 0 → cI l G y_GM_no (gRm (d + 312)) true [gR G o, gI 1] X A (fun v w => k v w) := fun b A oA a72 => by
    refine c_GM_no hX ⟨by decide, by decide⟩ (hk1 b _ ((oA.mono (fun a j w => ?_)).up ⟨rfl, Or.inl rfl⟩) (gUp_eq _ _ _ _) (by rw [gUp_k (by decide)]; exact a72))
    unfold gBgR at w
    omega
  have g147 : ¬ gBadS S → ∀ (x4 x5 : Int) (A : gM), gOff (gBgR o) M A → A o 72 = 0 → (x4 = if (gNum S).isSome = true then 1 else 0) → (∀ z, gNum S = some z → A o 3 = z) → (x5 = if S.getD 0 0 = 61 then 1 else 0) → wp l G y_GM_put (gRm (d + 312 + 1)) true (kkI X k) true 147 [.val (gR G o), .val (gI (x : Int)), .val (gI (y : Int)), .val (gI (S.length : Int)), .val (gI x4), .val (gI x5), .unset, .unset, .unset, .unset, .unset] [] X A 0 0 := by
    intro nb x4 x5 A oA a72 e4 a3 e5
    have q0 : ∀ j, j ≠ 3 → j ≠ 72 → A o j = M o j := fun j h1 h2 => oA _ _ (by unfold gBgR; omega)
    have q1 : ∀ i j, 1 ≤ i → A (o + i) j = M (o + i) j := fun i j h1 => oA _ _ (by unfold gBgR; omega)
    refine r_put147 hX hO hx hy ep (fun j hj => by rw [q1 46 j (by decide)]; exact hS j hj) hl nb (by rw [q0 36 (by decide) (by decide)]; exact h36) hnw es (hst.kp (fun i j i1 i2 => q1 i j i1) (fun j hj => q0 j (by omega) (by omega))) hF hn (by rw [q0 2 (by decide) (by decide)]; exact m2) hL (by rw [q0 9 (by decide) (by decide)]; exact m9) hN (by rw [q0 13 (by decide) (by decide)]; exact m13) hf (by rw [q0 17 (by decide) (by decide)]; exact m17) hR e4 a3 e5 (fun M3 o3 g3 c2 c9 c13 c17 st => ?_)
    refine hk2 nb M3 ((oA.mono (fun a j w => ?_)).tr (o3.mono (fun a j w => ?_))) ((gmGr.eq (fun i j i1 i2 => q1 i j i1) (fun j hj => q0 j (by omega) (by omega))).tr g3) ((o3 _ _ (by unfold gPuS gSlR; omega)).trans a72) c2 c9 c13 c17 st
    · unfold gBgR at w; unfold gPuR; omega
    · unfold gPuS at w
      rcases w with w | w | w
      · exact Or.inl w
      · exact Or.inr (Or.inl w)
      · exact Or.inr (Or.inr ⟨w.1, Or.inl w.2⟩)
  have gl : g32 (S.length : Int) := ⟨by omega, by omega⟩
  have g112 : (∀ b ∈ S, 32 ≤ b ∧ b ≤ 126) → S.getD 0 0 ≠ 61 → ∀ (x4 : Int) (A : gM), gOff (gBgR o) M A → A o 72 = 0 → (x4 = if (gNum S).isSome = true then 1 else 0) → (∀ z, gNum S = some z → A o 3 = z) → wp l G y_GM_put (gRm (d + 312 + 1)) true (kkI X k) true 112 [.val (gR G o), .val (gI (x : Int)), .val (gI (y : Int)), .val (gI (S.length : Int)), .val (gI x4), .unset, .unset, .unset, .unset, .unset, .unset] [] X A 0 0 := by
    intro pr h61 x4 A oA a72 e4 a3
    have g4 : g32 x4 := by rw [e4]; split <;> exact g32_c rfl
    have e5 : (0 : Int) = if S.getD 0 0 = 61 then 1 else 0 := (if_neg h61).symm
    refine w_GM_put_112 (d := d + 312) hX ⟨by omega, by omega⟩ ⟨by omega, by omega⟩ gl g4 ⟨fun _ => ⟨fun w => g147 ?_ x4 0 A oA a72 e4 a3 e5, fun w => ⟨fun w2 => g147 ?_ x4 0 A oA a72 e4 a3 e5, fun w2 => nop (Or.inr ⟨?_, ?_⟩) A oA a72⟩⟩, fun w => absurd rfl w⟩
    · rintro (b | b)
      · exact b pr
      · rw [e4, b.1] at w; exact w rfl
    · rintro (b | b)
      · exact b pr
      · have := b.2; rw [if_neg h61] at this; omega
    · cases hn : gNum S with
      | none => rfl
      | some z => rw [e4, hn] at w; exact absurd (show (1 : Int) = 0 from w) (by decide)
    · rw [if_neg h61]; omega
  have key : ∀ (u i : Nat), i + u = S.length → (∀ j, j < i → 32 ≤ S.getD j 0 ∧ S.getD j 0 ≤ 126) → wp l G y_GM_put (gRm (d + 312 + 1)) true (kkI X k) true 27 [.val (gR G o), .val (gI (x : Int)), .val (gI (y : Int)), .val (gI (S.length : Int)), .val (gI (i : Int)), .unset, .unset, .unset, .unset, .unset, .unset] [] X (gUp M o 72 0) 0 0 := by
    have oA : gOff (gBgR o) M (gUp M o 72 0) := (gOff.rf _ _).up ⟨rfl, Or.inr rfl⟩
    have a72 : gUp M o 72 0 o 72 = 0 := gUp_eq _ _ _ _
    have a46 : ∀ j, gUp M o 72 0 (o + 46) j = M (o + 46) j := fun j => gUp_a (by omega)
    generalize gUp M o 72 0 = A at oA a72 a46 ⊢
    intro u
    induction u with
    | zero =>
      intro i hi hb
      have pr : ∀ b ∈ S, 32 ≤ b ∧ b ≤ 126 := fun b hb2 => by
        obtain ⟨j, hj, e⟩ := List.getElem_of_mem hb2
        have := hb j (by omega)
        rw [List.getD_eq_getElem?_getD, List.getElem?_eq_getElem hj] at this
        rw [← e]
        exact this
      refine w_GM_put_27 (d := d + 312) hX ⟨by omega, by omega⟩ ⟨by omega, by omega⟩ gl ⟨by omega, by omega⟩ ⟨fun _ => ⟨fun w => ?_, fun w => ?_⟩, fun w => absurd (by omega) w⟩
      · have e : S = [] := List.eq_nil_of_length_eq_zero (by omega)
        refine w_GM_put_90 (d := d + 312) hX ⟨by omega, by omega⟩ ⟨by omega, by omega⟩ gl ⟨fun _ => g112 pr (by rw [e]; decide) 0 A oA a72 (by rw [e]; rfl) (fun z hz => by rw [e] at hz; exact nomatch hz), fun w2 => absurd w w2⟩
      · have r46 := gm_row hX 45 (k := 71) (j := 46) (t := 2) (n := 240) rfl
        have eB : gBy A (o + 46) (Int.toNat 0) (((S.length : Int)) - 0).toNat = S := by
          rw [show (((S.length : Int)) - 0).toNat = S.length by omega, show Int.toNat 0 = 0 from rfl]
          exact gBy_of S 0 (fun j hj => by rw [Nat.zero_add, a46]; exact hS j hj)
        refine c_GM_isNumber (d := d + 311) hX ⟨r46.2.2.1, r46.2.2.2, r46.2.1, by decide⟩ ⟨Int.le_refl _, by omega⟩ ⟨by omega, by omega⟩ ?_ ?_
        · intro hn
          rw [eB] at hn
          refine ⟨fun _ => w_GM_put_90 (d := d + 312) hX ⟨by omega, by omega⟩ ⟨by omega, by omega⟩ gl ⟨fun w2 => absurd w2 w, fun _ => ⟨⟨by decide, by decide⟩, ?_⟩⟩, fun w2 => absurd rfl w2⟩
          rw [show Int.toNat 0 = 0 from rfl, a46, hS 0 (by omega)]
          refine fun _ => ⟨fun w2 => g112 pr w2 0 A oA a72 (by rw [hn]; rfl) (fun z hz => by rw [hn] at hz; exact nomatch hz), fun w2 => ⟨fun w3 => absurd w3 (by decide), fun _ => ⟨fun w3 => g147 ?_ 0 1 A oA a72 (by rw [hn]; rfl) (fun z hz => by rw [hn] at hz; exact nomatch hz) (if_pos w2).symm, fun w3 => nop (Or.inr ⟨hn, ?_⟩) A oA a72⟩⟩⟩
          · rintro (b | b)
            · exact b pr
            · have := b.2; rw [if_pos w2] at this; omega
          · rw [if_pos w2]; omega
        · intro z hz _
          rw [eB] at hz
          have h61 := gNum_61 hz
          refine ⟨fun w2 => absurd w2 (by decide), fun _ => ⟨fun w2 => absurd w2 w, fun _ => ⟨⟨by decide, by decide⟩, ?_⟩⟩⟩
          rw [show Int.toNat 0 = 0 from rfl, gUp_a (by omega), a46, hS 0 (by omega)]
          exact fun _ => ⟨fun _ => g112 pr h61 1 _ (oA.up ⟨rfl, Or.inl rfl⟩) (by rw [gUp_k (by decide)]; exact a72) (by rw [hz]; rfl) (fun z2 hz2 => by rw [hz] at hz2; cases hz2; exact gUp_eq _ _ _ _), fun w2 => absurd w2 h61⟩
    | succ u ih =>
      intro i hi hb
      refine w_GM_put_27 (d := d + 312) hX ⟨by omega, by omega⟩ ⟨by omega, by omega⟩ gl ⟨by omega, by omega⟩ ⟨fun w => absurd w (by omega), fun _ => ⟨⟨by omega, by omega⟩, ?_⟩⟩
      rw [Int.toNat_natCast, a46, hS i (by omega), w32_id (x := (i : Int) + 1) ⟨by omega, by omega⟩, show (i : Int) + 1 = ((i + 1 : Nat) : Int) by omega]
      refine fun _ => ⟨fun w => nop (Or.inl (fun y => by have := y _ (mem i (by omega)); omega)) A oA a72, fun w => ⟨⟨by omega, by omega⟩, fun _ => ⟨fun w2 => ih (i + 1) (by omega) (fun j hj => ?_), fun w2 => nop (Or.inl (fun y => by have := y _ (mem i (by omega)); omega)) A oA a72⟩⟩⟩
      by_cases e : j = i
      · rw [e]; exact ⟨by omega, w2⟩
      · exact hb j (by omega)
  refine e_GM_put (w_GM_put_0 (d := d + 312) hX ⟨by omega, by omega⟩ ⟨by omega, by omega⟩ ?_)
  rw [h72]
  refine fun _ => c_GM_inSheet (d := d + 312) ⟨by omega, by omega⟩ ⟨by omega, by omega⟩ ?_
  rw [if_pos (by omega)]
  exact ⟨fun _ => key S.length 0 (by omega) (fun j hj => absurd hj (Nat.not_lt_zero _)), fun w => absurd w (by decide)⟩
end ggJ
