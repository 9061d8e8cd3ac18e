/-! The reference's put, up to accept: behind the copy. -/
def gPuW (o a E : Nat) : Nat → Nat → Prop := fun z j => (o + 1 ≤ z ∧ z ≤ o + 18) ∨ (z = o ∧ j < 35) ∨ (o + 19 ≤ z ∧ z ≤ o + 23 ∧ j = a) ∨ (z = o + 24 ∧ 852800 + E ≤ j ∧ j < 873600) ∨ (z = o + 25 ∧ j = 41)
def gPuS (o : Nat) : Nat → Nat → Prop := fun a j => (o + 1 ≤ a ∧ a ≤ o + 18) ∨ gSlR o 41 a j ∨ (a = o ∧ j < 35)
section ggH
variable {l : Launch} {G : gG} {d : Nat} {X : gX} {A M M2 M3 : gM} {o nw s p f R E n L N x y : Nat} {F : gSht} {S : List Int} {k : Int → gM → Prop} {Q : gQ}
theorem gmGr.eq (h1 : ∀ i j, 1 ≤ i → i ≤ 12 → M2 (o + i) j = M (o + i) j) (h0 : ∀ j, j = 2 ∨ j = 9 ∨ j = 13 ∨ j = 17 → M2 o j = M o j) : gmGr M M2 o := by
  refine ⟨⟨?_, ?_, ?_, ?_⟩, fun j _ => h1 1 j (by decide) (by decide), fun i j a b _ => h1 i j (by omega) (by omega), fun i j a b _ => h1 i j (by omega) (by omega), fun i j a b _ => h1 i j (by omega) (by omega)⟩
  · rw [h0 2 (by omega)]; exact Int.le_refl _
  · rw [h0 9 (by omega)]; exact Int.le_refl _
  · rw [h0 13 (by omega)]; exact Int.le_refl _
  · rw [h0 17 (by omega)]; exact Int.le_refl _
theorem gSrt_3 (h : S.getD 0 0 = 61) : gSrt S = 3 := if_pos h
theorem gTree_61 (h : S.getD 0 0 = 61) : gTree S = gForm S := by unfold gTree; rw [if_pos h]
/-- what put's writing into slot 41 leaves -/
theorem gPut_fin {x0 : Option (List Int × List Int)} {E2 : Nat} (cA : ∀ q, q < 5200 → gmClR A o 41 q (F q) 0 E) (hE : E ≤ E2 ∧ E2 ≤ 20750) (hp : p < 5200) (oW : gOff (gPuW o (41 * 5200 + p) E) A M3) (g : gmGr A M3 o) (e25 : M3 (o + 25) 41 = (E2 : Int)) (cx : gmCl M3 o 41 p x0) : gmSt M3 o 41 (gPut F x0 p) :=
  gPut_st cA g (fun i q i1 i2 hq hqp => oW _ _ (by unfold gPuW; omega)) (fun j hj => oW _ _ (by unfold gPuW; omega)) e25 hE cx
theorem gPuW.sl (h : gOff (gPuW o (41 * 5200 + p) E) M M2) (hp : p < 5200) : gOff (gPuS o) M M2 := h.mono (fun a j y => by unfold gPuW at y; unfold gPuS gSlR; omega)
/-- behind the letters: a text -/
theorem r_put309t (hX : gmX X o) (hp : p < 5200) (cA : ∀ q, q < 5200 → gmClR A o 41 q (F q) 0 E) (hE : E ≤ 20750) (e25 : A (o + 25) 41 = (E : Int)) (hL : L + S.length ≤ 90000) (hl : S.length ≤ 240) (ne : S ≠ []) (pr : ∀ b ∈ S, 32 ≤ b ∧ b ≤ 126) (h2 : gSrt S = 2) (a2 : A o 2 = (L : Int))
    (h19 : M (o + 19) (41 * 5200 + p) = 2) (hb : ∀ j, j < S.length → M (o + 1) (L + j) = S.getD j 0) (m2 : M o 2 = ((L + S.length : Nat) : Int)) (oW : gOff (gPuW o (41 * 5200 + p) E) A M) (gg : gmGr A M o) (e2 : M (o + 25) 41 = (E : Int))
    (hk : ∀ M3, gOff (gPuW o (41 * 5200 + p) E) A M3 → gmGr A M3 o → (∀ j, M3 o j = M o j) → gmSt M3 o 41 (gPut F (some (S, gTg0 S)) p) → cI l G y_GM_accept (gRm d) true [gR G o] X M3 k) :
    wp l G y_GM_put (gRm (d + 1)) true (kkI X k) true 309 [.val (gR G o), .unset, .unset, .val (gI (S.length : Int)), .unset, .val (gI 0), .unset, .val (gI ((41 * 5200 + p : Nat) : Int)), .val (gI (L : Int)), .val (gI 0), .unset] [] X M 0 0 := by
  refine w_GM_put_309 hX ⟨by omega, by omega⟩ (g32_c rfl) ⟨by omega, by omega⟩ ⟨by omega, by omega⟩ (g32_c rfl) ⟨fun _ => ⟨⟨by omega, by omega⟩, ⟨⟨by omega, by omega⟩, ?_⟩⟩, fun w => absurd rfl w⟩
  rw [Int.toNat_natCast, w32_id (x := (L : Int) + (S.length : Int)) ⟨by omega, by omega⟩, show (L : Int) + (S.length : Int) = ((L + S.length : Nat) : Int) by omega]
  have u1 : ∀ z j, z ≠ o + 20 → z ≠ o + 21 → gUp (gUp M (o + 20) (41 * 5200 + p) (L : Int)) (o + 21) (41 * 5200 + p) ((L + S.length : Nat) : Int) z j = M z j := fun z j h1 h2 => by rw [gUp_a h2, gUp_a h1]
  have u20 : gUp (gUp M (o + 20) (41 * 5200 + p) (L : Int)) (o + 21) (41 * 5200 + p) ((L + S.length : Nat) : Int) (o + 20) (41 * 5200 + p) = (L : Int) := by rw [gUp_a (by omega), gUp_eq]
  have u21 : gUp (gUp M (o + 20) (41 * 5200 + p) (L : Int)) (o + 21) (41 * 5200 + p) ((L + S.length : Nat) : Int) (o + 21) (41 * 5200 + p) = ((L + S.length : Nat) : Int) := gUp_eq _ _ _ _
  have uW : gOff (gPuW o (41 * 5200 + p) E) M (gUp (gUp M (o + 20) (41 * 5200 + p) (L : Int)) (o + 21) (41 * 5200 + p) ((L + S.length : Nat) : Int)) := ((gOff.rf _ _).up (by unfold gPuW; omega)).up (by unfold gPuW; omega)
  generalize gUp (gUp M (o + 20) (41 * 5200 + p) (L : Int)) (o + 21) (41 * 5200 + p) ((L + S.length : Nat) : Int) = C at u1 u20 u21 uW ⊢
  refine w_GM_put_339 hX (g32_c rfl) ⟨by omega, by omega⟩ (g32_c rfl) ⟨fun _ => ?_, fun w => absurd rfl w⟩
  have gC : gmGr A C o := gg.tr (gmGr.eq (fun i j i1 i2 => u1 _ _ (by omega) (by omega)) (fun j _ => u1 _ _ (by omega) (by omega)))
  refine hk C (oW.tr uW) gC (fun j => u1 _ _ (by omega) (by omega)) (gPut_fin cA ⟨Nat.le_refl _, hE⟩ hp (oW.tr uW) gC (by rw [u1 _ _ (by omega) (by omega)]; exact e2) ⟨fun w => (nomatch w), fun S' tg ex => ?_⟩)
  cases ex
  refine ⟨by rw [u1 _ _ (by omega) (by omega), h2]; exact h19, fun w => absurd w (by omega), fun _ => ⟨L, u20, u21, ⟨fun j hj => by rw [u1 _ _ (by omega) (by omega)]; exact hb j hj, hl, hL, pr⟩, by rw [u1 _ _ (by omega) (by omega), m2]; exact Int.le_refl _⟩, fun w => absurd w (by omega)⟩
/-- behind the form: a formula -/
theorem r_put309f (hX : gmX X o) (hp : p < 5200) (cA : ∀ q, q < 5200 → gmClR A o 41 q (F q) 0 E) (hE : E ≤ 20000) (hL : L + S.length ≤ 90000) (hl : S.length ≤ 240) (ne : S ≠ []) (h3 : gSrt S = 3) (hf : f < 4200)
    (h19 : M (o + 19) (41 * 5200 + p) = 3) (frm : gFrm M o f S) (m9 : M (o + 9) f = ((gRefs S).length : Int)) (m8 : M (o + 8) f = (R : Int)) (hR : R + (gRefs S).length ≤ 45000) (m10 : ∀ i, i < (gRefs S).length → M (o + 10) (R + i) = ((gRefs S).getD i (0, 0, 0)).1) (oW : gOff (gPuW o (41 * 5200 + p) E) A M) (gg : gmGr A M o) (e2 : M (o + 25) 41 = (E : Int))
    (hk : ∀ M3, gOff (gPuW o (41 * 5200 + p) E) A M3 → gmGr A M3 o → (∀ j, M3 o j = M o j) → gmSt M3 o 41 (gPut F (some (S, gTg0 S)) p) → cI l G y_GM_accept (gRm d) true [gR G o] X M3 k) :
    wp l G y_GM_put (gRm (d + 1)) true (kkI X k) true 309 [.val (gR G o), .unset, .unset, .val (gI (S.length : Int)), .unset, .val (gI 1), .unset, .val (gI ((41 * 5200 + p : Nat) : Int)), .val (gI (L : Int)), .val (gI (f : Int)), .unset] [] X M 0 0 := by
  have l50 := (gRefs_ok ne).2
  refine w_GM_put_309 hX ⟨by omega, by omega⟩ (g32_c rfl) ⟨by omega, by omega⟩ ⟨by omega, by omega⟩ ⟨by omega, by omega⟩ ⟨fun w => absurd w (by decide), fun _ => ⟨⟨by omega, by omega⟩, ⟨⟨by omega, by omega⟩, ?_⟩⟩⟩
  rw [Int.toNat_natCast]
  refine w_GM_put_339 hX (g32_c rfl) ⟨by omega, by omega⟩ ⟨by omega, by omega⟩ ⟨fun w => absurd w (by decide), fun _ => ⟨⟨by decide, by decide⟩, fun _ => ⟨⟨by omega, by omega⟩, ?_⟩⟩⟩
  rw [Int.toNat_natCast, show Int.toNat 41 = 41 from rfl]
  have e22 : gUp (gUp M (o + 20) (41 * 5200 + p) (f : Int)) (o + 21) (41 * 5200 + p) (w32 ((L : Int) + (S.length : Int))) (o + 25) 41 = (E : Int) := by rw [gUp_a (by omega), gUp_a (by omega)]; exact e2
  rw [e22]
  have u1 : ∀ z j, z ≠ o + 20 → z ≠ o + 21 → z ≠ o + 22 → gUp (gUp (gUp M (o + 20) (41 * 5200 + p) (f : Int)) (o + 21) (41 * 5200 + p) (w32 ((L : Int) + (S.length : Int)))) (o + 22) (41 * 5200 + p) (E : Int) z j = M z j := fun z j h1 h2 h3 => by rw [gUp_a h3, gUp_a h2, gUp_a h1]
  have u20 : gUp (gUp (gUp M (o + 20) (41 * 5200 + p) (f : Int)) (o + 21) (41 * 5200 + p) (w32 ((L : Int) + (S.length : Int)))) (o + 22) (41 * 5200 + p) (E : Int) (o + 20) (41 * 5200 + p) = (f : Int) := by rw [gUp_a (by omega), gUp_a (by omega), gUp_eq]
  have u22 : gUp (gUp (gUp M (o + 20) (41 * 5200 + p) (f : Int)) (o + 21) (41 * 5200 + p) (w32 ((L : Int) + (S.length : Int)))) (o + 22) (41 * 5200 + p) (E : Int) (o + 22) (41 * 5200 + p) = (E : Int) := gUp_eq _ _ _ _
  have uW : gOff (gPuW o (41 * 5200 + p) E) M (gUp (gUp (gUp M (o + 20) (41 * 5200 + p) (f : Int)) (o + 21) (41 * 5200 + p) (w32 ((L : Int) + (S.length : Int)))) (o + 22) (41 * 5200 + p) (E : Int)) := (((gOff.rf _ _).up (by unfold gPuW; omega)).up (by unfold gPuW; omega)).up (by unfold gPuW; omega)
  generalize gUp (gUp (gUp M (o + 20) (41 * 5200 + p) (f : Int)) (o + 21) (41 * 5200 + p) (w32 ((L : Int) + (S.length : Int)))) (o + 22) (41 * 5200 + p) (E : Int) = C at u1 u20 u22 uW ⊢
  refine r_put361 (n := (gRefs S).length) (R := R) (E := E) hX (by rw [u1 _ _ (by omega) (by omega) (by omega)]; exact m9) (by rw [u1 _ _ (by omega) (by omega) (by omega)]; exact m8) (by rw [u1 _ _ (by omega) (by omega) (by omega)]; exact e2) (by omega) hR hf (fun B oB b24 b25 => ?_)
  have v1 : ∀ z j, z ≠ o + 24 → z ≠ o + 25 → B z j = C z j := fun z j h1 h2 => oB _ _ (fun y => by rcases y with y | y <;> omega)
  have bW : gOff (gPuW o (41 * 5200 + p) E) C B := oB.mono (fun a j y => by unfold gPuW; omega)
  have bs : gmBs M B o := ⟨fun i j i1 i2 => (v1 _ _ (by omega) (by omega)).trans (u1 _ _ (by omega) (by omega) (by omega)), fun j _ => (v1 _ _ (by omega) (by omega)).trans (u1 _ _ (by omega) (by omega) (by omega))⟩
  have gC : gmGr A B o := gg.tr (gmGr.eq (fun i j i1 i2 => bs.1 i j (by omega) (by omega)) bs.2)
  refine hk B ((oW.tr uW).tr bW) gC (fun j => (v1 _ _ (by omega) (by omega)).trans (u1 _ _ (by omega) (by omega) (by omega))) (gPut_fin cA ⟨Nat.le_add_right E _, by omega⟩ hp ((oW.tr uW).tr bW) gC b25 ⟨fun w => (nomatch w), fun S' tg ex => ?_⟩)
  cases ex
  refine ⟨by rw [v1 _ _ (by omega) (by omega), u1 _ _ (by omega) (by omega) (by omega), h3]; exact h19, fun w => absurd w (by omega), fun w => absurd w (by omega), fun _ => ⟨f, E, by rw [v1 _ _ (by omega) (by omega)]; exact u20, frm.bs bs, by rw [v1 _ _ (by omega) (by omega)]; exact u22, by rw [b25, gTg0_l]; exact Int.le_refl _, fun i hi => ?_⟩⟩
  rw [gTg0_l] at hi
  rw [gTg0_t hi, ← m10 i hi, ← u1 (o + 10) (R + i) (by omega) (by omega) (by omega)]
  exact b24 i hi
end ggH
