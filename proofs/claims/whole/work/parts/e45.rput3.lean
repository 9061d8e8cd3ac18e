/-! The reference's put, up to accept. -/
section ggI
variable {l : Launch} {G : gG} {d : Nat} {X : gX} {A M M2 M3 : gM} {o nw s p f R E n L N x y : Nat} {F : gSht} {S : List Int} {k : Int → gM → Prop} {Q : gQ}
theorem r_put147 {x4 x5 : Int} (hX : gmX X o) (hO : gOld G Q) (hx : x < 26) (hy : y < 200) (ep : p = x + 26 * y) (hS : ∀ j, j < S.length → M (o + 46) j = S.getD j 0) (hl : S.length ≤ 240) (nb : ¬ gBadS S) (h36 : M o 36 = (nw : Int)) (hnw : nw < 99999) (es : s = nw % 41) (hst : gmSt M o s F) (hF : gSok F) (hn : gCn (gnE F) 5200 ≤ 400) (m2 : M o 2 = (L : Int)) (hL : L ≤ 89000) (m9 : M o 9 = (N : Int)) (hN : N ≤ 89700) (m13 : M o 13 = (f : Int)) (hf : f < 4200) (m17 : M o 17 = (R : Int)) (hR : R ≤ 44700)
    (e4 : x4 = if (gNum S).isSome = true then 1 else 0) (h3 : ∀ z, gNum S = some z → M o 3 = z) (e5 : x5 = if S.getD 0 0 = 61 then 1 else 0)
    (hk : ∀ M3, gOff (gPuS o) M M3 → gmGr M M3 o → M3 o 2 ≤ ((L + S.length : Nat) : Int) → M3 o 9 ≤ ((N + 100 : Nat) : Int) → M3 o 13 ≤ ((f + 1 : Nat) : Int) → M3 o 17 ≤ ((R + 50 : Nat) : Int) → gmSt M3 o 41 (gPut F (gTyp S) p) → cI l G y_GM_accept (gRm (d + 312)) true [gR G o] X M3 k) :
    wp l G y_GM_put (gRm (d + 312 + 1)) true (kkI X k) true 147 [.val (gR G o), .val (gI (x : Int)), .val (gI (y : Int)), .val (gI (S.length : Int)), .val (gI x4), .val (gI x5), .unset, .unset, .unset, .unset, .unset] [] X M 0 0 := by
  have g4 : g32 x4 := by rw [e4]; split <;> exact g32_c rfl
  have g5 : g32 x5 := by rw [e5]; split <;> exact g32_c rfl
  have s41 : s < 41 := by omega
  have p5 : p < 5200 := by omega
  have s50 := gSp_50 hF.r50 5200
  refine w_GM_put_147 (d := d + 312) hX ⟨by omega, by omega⟩ ⟨by omega, by omega⟩ ⟨by omega, by omega⟩ g4 g5 ?_
  rw [m2, h36]
  refine fun _ _ => c_GM_slot (by omega) (by omega) ?_
  rw [show (nw : Int) % 41 = (s : Int) by omega]
  refine r_copyAll (s := s) (t := 41) (F := F) (d := d + 311) hX (by omega) (by decide) hst hF (by omega) (fun A oA eA cA => ?_)
  rw [w32_id (x := 213200 + ((x : Int) + 26 * (y : Int))) ⟨by omega, by omega⟩, show 213200 + ((x : Int) + 26 * (y : Int)) = ((41 * 5200 + p : Nat) : Int) by omega]
  obtain ⟨E, eE⟩ : ∃ E, E = gSp F 5200 := ⟨_, rfl⟩
  rw [← eE] at eA cA s50
  have hE : E ≤ 20000 := by omega
  have q0 : ∀ j, A o j = M o j := fun j => oA _ _ (by unfold gSlR; omega)
  have q46 : ∀ j, A (o + 46) j = M (o + 46) j := fun j => oA _ _ (by unfold gSlR; omega)
  have gA : gmGr M A o := gmGr.eq (fun i j i1 i2 => oA _ _ (by unfold gSlR; omega)) (fun j _ => q0 j)
  have oAS : gOff (gPuS o) M A := oA.mono (fun a j h => Or.inr (Or.inl h))
  have fin : ∀ C, gOff (gPuW o (41 * 5200 + p) E) A C → gmGr A C o → C o 2 ≤ ((L + S.length : Nat) : Int) → C o 9 ≤ ((N + 100 : Nat) : Int) → C o 13 ≤ ((f + 1 : Nat) : Int) → C o 17 ≤ ((R + 50 : Nat) : Int) → gmSt C o 41 (gPut F (gTyp S) p) → cI l G y_GM_accept (gRm (d + 312)) true [gR G o] X C (fun v w => k v w) := fun C oC gC c2 c9 c13 c17 st => hk C (oAS.tr (gPuW.sl oC p5)) (gA.tr gC) c2 c9 c13 c17 st
  clear hk
  have pr : ∀ b ∈ S, 32 ≤ b ∧ b ≤ 126 := Classical.byContradiction fun w => nb (Or.inl w)
  have up : ∀ (s0 z : Int), (∀ a j, a ≠ o + 19 → a ≠ o + 23 → gUp (gUp A (o + 19) (41 * 5200 + p) s0) (o + 23) (41 * 5200 + p) z a j = A a j) ∧ gUp (gUp A (o + 19) (41 * 5200 + p) s0) (o + 23) (41 * 5200 + p) z (o + 19) (41 * 5200 + p) = s0 ∧ gUp (gUp A (o + 19) (41 * 5200 + p) s0) (o + 23) (41 * 5200 + p) z (o + 23) (41 * 5200 + p) = z ∧ gOff (gPuW o (41 * 5200 + p) E) A (gUp (gUp A (o + 19) (41 * 5200 + p) s0) (o + 23) (41 * 5200 + p) z) := fun s0 z => ⟨fun a j h1 h2 => by rw [gUp_a h2, gUp_a h1], by rw [gUp_a (by omega), gUp_eq], gUp_eq _ _ _ _, ((gOff.rf _ _).up (by unfold gPuW; omega)).up (by unfold gPuW; omega)⟩
  by_cases ne : S = []
  · have l0 : S.length = 0 := by rw [ne]; rfl
    have n0 : gNum S = none := by rw [ne]; rfl
    have e40 : x4 = 0 := by rw [e4, n0]; rfl
    have e50 : x5 = 0 := by rw [e5, ne]; rfl
    refine ⟨fun w => absurd (by omega) w, fun _ => ?_⟩
    refine w_GM_put_215 (d := d + 312) hX ⟨by omega, by omega⟩ g4 g5 ⟨by omega, by omega⟩ ⟨by omega, by omega⟩ (g32_c rfl) ⟨by omega, by omega⟩ ⟨⟨by omega, by omega⟩, ⟨fun _ => ⟨⟨by omega, by omega⟩, ⟨fun _ => ?_, fun w => absurd (by omega) w⟩⟩, fun w => absurd e40 w⟩⟩
    rw [Int.toNat_natCast]
    obtain ⟨u1, u19, u23, uW⟩ := up 0 0
    generalize gUp (gUp A (o + 19) (41 * 5200 + p) 0) (o + 23) (41 * 5200 + p) 0 = C at u1 u19 u23 uW ⊢
    refine w_GM_put_339 (d := d + 312) hX g5 ⟨by omega, by omega⟩ (g32_c rfl) ⟨fun _ => ?_, fun w => absurd e50 w⟩
    have c0 : ∀ j, C o j = M o j := fun j => (u1 _ _ (by omega) (by omega)).trans (q0 j)
    have gC : gmGr A C o := gmGr.eq (fun i j i1 i2 => u1 _ _ (by omega) (by omega)) (fun j _ => u1 _ _ (by omega) (by omega))
    refine fin C uW gC (by rw [c0, m2]; omega) (by rw [c0, m9]; omega) (by rw [c0, m13]; omega) (by rw [c0, m17]; omega) (gPut_fin cA ⟨Nat.le_refl _, by omega⟩ p5 uW gC (by rw [u1 _ _ (by omega) (by omega)]; exact eA) ?_)
    rw [show gTyp S = none from if_pos ne]
    exact ⟨fun _ => u19, fun S' tg ex => nomatch ex⟩
  · have l1 : 1 ≤ S.length := by
      cases S with
      | nil => exact absurd rfl ne
      | cons a b => exact Nat.le_add_left 1 _
    have et : gTyp S = some (S, gTg0 S) := if_neg ne
    refine ⟨fun _ => ?_, fun w => absurd w (by omega)⟩
    cases hnum : gNum S with
    | some z =>
      have e41 : x4 = 1 := by rw [e4, hnum]; rfl
      have e50 : x5 = 0 := by rw [e5, if_neg (gNum_61 hnum)]
      refine ⟨fun w => absurd w (by omega), fun _ => ?_⟩
      refine w_GM_put_215 (d := d + 312) hX ⟨by omega, by omega⟩ g4 g5 ⟨by omega, by omega⟩ ⟨by omega, by omega⟩ (g32_c rfl) ⟨by omega, by omega⟩ ⟨⟨by omega, by omega⟩, ⟨fun w => absurd w (by omega), fun _ _ => ⟨⟨by omega, by omega⟩, ⟨fun w => absurd w (by omega), fun _ => ⟨fun _ => ?_, fun w => absurd w (by omega)⟩⟩⟩⟩⟩
      rw [Int.toNat_natCast, gUp_a (by omega), q0, h3 z hnum]
      obtain ⟨u1, u19, u23, uW⟩ := up 1 z
      generalize gUp (gUp A (o + 19) (41 * 5200 + p) 1) (o + 23) (41 * 5200 + p) z = C at u1 u19 u23 uW ⊢
      refine w_GM_put_339 (d := d + 312) hX g5 ⟨by omega, by omega⟩ (g32_c rfl) ⟨fun _ => ?_, fun w => absurd e50 w⟩
      have c0 : ∀ j, C o j = M o j := fun j => (u1 _ _ (by omega) (by omega)).trans (q0 j)
      have gC : gmGr A C o := gmGr.eq (fun i j i1 i2 => u1 _ _ (by omega) (by omega)) (fun j _ => u1 _ _ (by omega) (by omega))
      refine fin C uW gC (by rw [c0, m2]; omega) (by rw [c0, m9]; omega) (by rw [c0, m13]; omega) (by rw [c0, m17]; omega) (gPut_fin cA ⟨Nat.le_refl _, by omega⟩ p5 uW gC (by rw [u1 _ _ (by omega) (by omega)]; exact eA) ?_)
      have s1 : gSrt S = 1 := by unfold gSrt; rw [if_neg (gNum_61 hnum), hnum]; rfl
      rw [et]
      refine ⟨fun w => (nomatch w), fun S' tg ex => ?_⟩
      cases ex
      exact ⟨by rw [s1]; exact u19, fun _ => by rw [u23]; exact hnum, fun w => absurd w (by omega), fun w => absurd w (by omega)⟩
    | none =>
      have e40 : x4 = 0 := by rw [e4, hnum]; rfl
      have prj : ∀ j, j < S.length → 32 ≤ S.getD j 0 ∧ S.getD j 0 ≤ 126 := fun j hj => by
        refine pr _ ?_
        rw [List.getD_eq_getElem?_getD, List.getElem?_eq_getElem hj]
        exact List.getElem_mem _
      refine ⟨fun _ => ?_, fun w => absurd e40 w⟩
      by_cases h61 : S.getD 0 0 = 61
      · have e51 : x5 = 1 := by rw [e5, if_pos h61]
        have s3 := gSrt_3 h61
        have eT := gTree_61 h61
        refine ⟨fun w => absurd w (by omega), fun _ => ?_⟩
        refine w_GM_put_215 (d := d + 312) hX ⟨by omega, by omega⟩ g4 g5 ⟨by omega, by omega⟩ ⟨by omega, by omega⟩ (g32_c rfl) ⟨by omega, by omega⟩ ⟨⟨by omega, by omega⟩, ⟨fun _ => ⟨⟨by omega, by omega⟩, ⟨fun w => absurd w (by omega), fun _ => ⟨fun w => absurd e40 w, fun _ => ?_⟩⟩⟩, fun w => absurd e40 w⟩⟩
        rw [Int.toNat_natCast]
        obtain ⟨u1, u19, u23, uW⟩ := up 3 0
        generalize gUp (gUp A (o + 19) (41 * 5200 + p) 3) (o + 23) (41 * 5200 + p) 0 = C at u1 u19 u23 uW ⊢
        have c0 : ∀ j, C o j = M o j := fun j => (u1 _ _ (by omega) (by omega)).trans (q0 j)
        have gC : gmGr A C o := gmGr.eq (fun i j i1 i2 => u1 _ _ (by omega) (by omega)) (fun j _ => u1 _ _ (by omega) (by omega))
        refine r_put251 (d := d + 312) (L := L) (S := S) hX g5 (by omega) (fun j hj => by rw [u1 _ _ (by omega) (by omega), q46]; exact hS j hj) prj hl (by omega) (by rw [c0]; exact m2) (fun w => absurd w (by omega)) (fun _ B oB b1 b2 => ?_)
        have v1 : ∀ z j, z ≠ o + 1 → ¬ (z = o ∧ j = 2) → B z j = C z j := fun z j h1 h2 => oB _ _ (fun w => by rcases w with w | w <;> omega)
        have bW : gOff (gPuW o (41 * 5200 + p) E) C B := oB.mono (fun a j w => by unfold gPuW; omega)
        have gB : gmGr C B o := ⟨⟨by rw [b2, c0, m2]; omega, by rw [v1 _ _ (by omega) (by omega)]; exact Int.le_refl _, by rw [v1 _ _ (by omega) (by omega)]; exact Int.le_refl _, by rw [v1 _ _ (by omega) (by omega)]; exact Int.le_refl _⟩, fun j hj => oB _ _ (by rw [c0, m2] at hj; omega), fun i j i1 i2 _ => v1 _ _ (by omega) (by omega), fun i j i1 i2 _ => v1 _ _ (by omega) (by omega), fun i j i1 i2 _ => v1 _ _ (by omega) (by omega)⟩
        have iB : gInm B o L S := ⟨b1, hl, by omega, pr⟩
        have b0 : ∀ j, j ≠ 2 → B o j = M o j := fun j hj => (v1 _ _ (by omega) (by omega)).trans (c0 j)
        -- behind the form
        have aft : ∀ (D : gM) (N' : Nat), gOff (gFmR o N R f) B D → D o 9 = (N' : Int) → N ≤ N' → N' ≤ N + 100 → D o 13 = ((f + 1 : Nat) : Int) → D o 17 = ((R + (gRefs S).length : Nat) : Int) → D (o + 8) f = (R : Int) → D (o + 9) f = ((gRefs S).length : Int) → (∀ i, i < (gRefs S).length → D (o + 10) (R + i) = ((gRefs S).getD i (0, 0, 0)).1 ∧ D (o + 11) (R + i) = ((gRefs S).getD i (0, 0, 0)).2.1 ∧ D (o + 12) (R + i) = gCor S i) → (gForm S = none → D (o + 7) f = -1) → (∀ e rs, gForm S = some (e, rs) → ∃ (lo hi : Nat) (v : Int), D (o + 7) f = v ∧ gxNs D o L (L + S.length) lo hi e v ∧ (hi : Int) ≤ D o 9) → wp l G y_GM_put (gRm (d + 312 + 1)) true (kkI X k) true 309 [.val (gR G o), .unset, .unset, .val (gI (S.length : Int)), .unset, .val (gI x5), .unset, .val (gI ((41 * 5200 + p : Nat) : Int)), .val (gI (L : Int)), .val (gI (f : Int)), .unset] [] X D 0 0 := by
          intro D N' oD d9 n1 n2 d13 d17 d8 d9f dr df dt
          have l50 := (gRefs_ok ne).2
          have d2 : D o 2 = ((L + S.length : Nat) : Int) := (oD _ _ (by unfold gFmR gCtF gPaR; omega)).trans b2
          have d1 : ∀ j, D (o + 1) j = B (o + 1) j := fun j => oD _ _ (by unfold gFmR gCtF gPaR; omega)
          have gD : gmGr B D o := ⟨⟨by rw [d2, b2]; exact Int.le_refl _, by rw [d9, b0 9 (by decide), m9]; omega, by rw [d13, b0 13 (by decide), m13]; omega, by rw [d17, b0 17 (by decide), m17]; omega⟩, fun j _ => d1 j, fun i j i1 i2 hj => oD _ _ (by rw [b0 9 (by decide), m9] at hj; unfold gFmR gCtF gPaR; omega), fun i j i1 i2 hj => oD _ _ (by rw [b0 13 (by decide), m13] at hj; unfold gFmR gCtF gPaR; omega), fun i j i1 i2 hj => oD _ _ (by rw [b0 17 (by decide), m17] at hj; unfold gFmR gCtF gPaR; omega)⟩
          have dW : gOff (gPuW o (41 * 5200 + p) E) B D := oD.mono (fun a j w => by unfold gFmR gCtF gPaR at w; unfold gPuW; omega)
          have frm : gFrm D o f S := ⟨L, R, iB.kp d1, by rw [d2]; exact Int.le_refl _, hf, by rw [d13]; omega, d8, d9f, by rw [d17]; exact Int.le_refl _, by omega, dr, df, dt⟩
          have d19 : D (o + 19) (41 * 5200 + p) = 3 := ((oD _ _ (by unfold gFmR gCtF gPaR; omega)).trans (v1 _ _ (by omega) (by omega))).trans u19
          have d25 : D (o + 25) 41 = (E : Int) := (((oD _ _ (by unfold gFmR gCtF gPaR; omega)).trans (v1 _ _ (by omega) (by omega))).trans (u1 _ _ (by omega) (by omega))).trans eA
          rw [e51]
          refine r_put309f (d := d + 312) (R := R) hX p5 cA hE (by omega) hl ne s3 hf d19 frm d9f d8 (by omega) (fun i hi => (dr i hi).1) ((uW.tr bW).tr dW) ((gC.tr gB).tr gD) d25 (fun M3 o3 g3 z3 st => ?_)
          exact fin M3 o3 g3 (by rw [z3, d2]; exact Int.le_refl _) (by rw [z3, d9]; omega) (by rw [z3, d13]; exact Int.le_refl _) (by rw [z3, d17]; omega) (by rw [et]; exact st)
        refine r_form (d := d) (N := N) (F := f) (R := R) (L := L) (S := S) hX hO iB l1 ((b0 9 (by decide)).trans m9) hN ((b0 13 (by decide)).trans m13) hf ((b0 17 (by decide)).trans m17) hR ?_ ?_
        · intro fo D oD d9 d13 d17 d7 d8 d9f
          have er : gRefs S = [] := by unfold gRefs; rw [eT, fo]
          have el : (gRefs S).length = 0 := by rw [er]; rfl
          exact aft D N oD d9 (Nat.le_refl _) (by omega) d13 (by rw [el]; exact d17) d8 (by rw [el]; exact d9f) (fun i hi => absurd hi (by omega)) (fun _ => d7) (fun e rs w => by rw [fo] at w; exact nomatch w)
        · intro e rs fo D N' v oD d9 n1 n2 d13 d17 d7 d8 d9f ns dr
          have er : gRefs S = rs := by unfold gRefs; rw [eT, fo]
          exact aft D N' oD d9 n1 n2 d13 (by rw [er]; exact d17) d8 (by rw [er]; exact d9f) (fun i hi => by unfold gCor; rw [er] at hi ⊢; exact dr i hi) (fun w => by rw [fo] at w; exact nomatch w) (fun e2 rs2 w => by rw [fo] at w; cases w; exact ⟨N, N', v, d7, ns, by rw [d9]; exact Int.le_refl _⟩)
      · have e50 : x5 = 0 := by rw [e5, if_neg h61]
        have s2 : gSrt S = 2 := by unfold gSrt; rw [if_neg h61, hnum]; rfl
        refine ⟨fun _ => ?_, fun w => absurd e50 w⟩
        refine w_GM_put_215 (d := d + 312) hX ⟨by omega, by omega⟩ g4 g5 ⟨by omega, by omega⟩ ⟨by omega, by omega⟩ (g32_c rfl) ⟨by omega, by omega⟩ ⟨⟨by omega, by omega⟩, ⟨fun _ => ⟨⟨by omega, by omega⟩, ⟨fun w => absurd w (by omega), fun _ => ⟨fun w => absurd e40 w, fun _ => ?_⟩⟩⟩, fun w => absurd e40 w⟩⟩
        rw [Int.toNat_natCast]
        obtain ⟨u1, u19, u23, uW⟩ := up 2 0
        generalize gUp (gUp A (o + 19) (41 * 5200 + p) 2) (o + 23) (41 * 5200 + p) 0 = C at u1 u19 u23 uW ⊢
        have c0 : ∀ j, C o j = M o j := fun j => (u1 _ _ (by omega) (by omega)).trans (q0 j)
        have gC : gmGr A C o := gmGr.eq (fun i j i1 i2 => u1 _ _ (by omega) (by omega)) (fun j _ => u1 _ _ (by omega) (by omega))
        refine r_put251 (d := d + 312) (L := L) (S := S) hX g5 (by omega) (fun j hj => by rw [u1 _ _ (by omega) (by omega), q46]; exact hS j hj) prj hl (by omega) (by rw [c0]; exact m2) (fun _ B oB b1 b2 => ?_) (fun w => absurd e50 w)
        have v1 : ∀ z j, z ≠ o + 1 → ¬ (z = o ∧ j = 2) → B z j = C z j := fun z j h1 h2 => oB _ _ (fun w => by rcases w with w | w <;> omega)
        have bW : gOff (gPuW o (41 * 5200 + p) E) C B := oB.mono (fun a j w => by unfold gPuW; omega)
        have gB : gmGr C B o := ⟨⟨by rw [b2, c0, m2]; omega, by rw [v1 _ _ (by omega) (by omega)]; exact Int.le_refl _, by rw [v1 _ _ (by omega) (by omega)]; exact Int.le_refl _, by rw [v1 _ _ (by omega) (by omega)]; exact Int.le_refl _⟩, fun j hj => oB _ _ (by rw [c0, m2] at hj; omega), fun i j i1 i2 _ => v1 _ _ (by omega) (by omega), fun i j i1 i2 _ => v1 _ _ (by omega) (by omega), fun i j i1 i2 _ => v1 _ _ (by omega) (by omega)⟩
        have b0 : ∀ j, j ≠ 2 → B o j = M o j := fun j hj => (v1 _ _ (by omega) (by omega)).trans (c0 j)
        rw [e50]
        refine r_put309t (d := d + 312) (L := L) hX p5 cA (by omega) eA (by omega) hl ne pr s2 (by rw [q0]; exact m2) ((v1 _ _ (by omega) (by omega)).trans u19) b1 b2 (uW.tr bW) (gC.tr gB) (by rw [v1 _ _ (by omega) (by omega), u1 _ _ (by omega) (by omega)]; exact eA) (fun M3 o3 g3 z3 st => ?_)
        exact fin M3 o3 g3 (by rw [z3, b2]; exact Int.le_refl _) (by rw [z3, b0 9 (by decide), m9]; omega) (by rw [z3, b0 13 (by decide), m13]; omega) (by rw [z3, b0 17 (by decide), m17]; omega) (by rw [et]; exact st)
end ggI
