/-! The reference's parser: the loop over a call's arguments. -/
section gdAM
variable {l : Launch} {G : gG} {X : gX} {o L : Nat} {S : List Int} {ts : List gTkn} {F R0 : Nat}
theorem gR6_end {n d : Nat} {M : gM} {k : Int → gM → Prop} {w : Int} {D a b N c Rb : Nat} {rs : List gRf} {es : List gEx} {n0 z : Int} (hX : gmX X o) (hts : ts.length ≤ 100) (hto : ∀ t ∈ ts, gTkO S t ∧ 1 ≤ t.2.1) (hp : gPst M o L S ts F R0 (D + 1) b N rs) (h15 : gTK ts b ≠ 15) (hD : D ≤ 19) (hb : gPbd a c Rb b N (R0 + rs.length)) (hcl : gClN M o L c S w) (h3 : M (o + 3) c = n0) (h4 : M (o + 4) c = (es.length : Int)) (hA : gxAz M o L (L + S.length) (c + 1) N es n0 z) (hk : gPoF M o L S ts F R0 D a c Rb k (gY5 ts (gY6 S ts n w (D + 1) b rs) w es)) : wp l G y_GM_call (gRm (d + 1 + 1)) true (kkI X k) true 95 [.val (gR G o), .unset, .val (gI (c : Int)), .val (gI z), .unset] [] X M 0 0 := by
  have cp := hp.2.2.2.1
  unfold gPcp at cp
  have al := hp.2.2.2.2
  have b2 := hb
  unfold gPbd at b2
  have z1 := hA.1
  have z2 := hA.2.1
  have e : gY5 ts (gY6 S ts n w (D + 1) b rs) w es = if gTK ts b = 14 then some (.sub (.num w) (gJn es (.num 0)), b + 1, rs) else none := by
    unfold gY6 gY5
    rw [if_neg h15]
    rfl
  rw [e] at hk
  refine r_end95 hX hts hto hp (by omega) (gOff.rf _ _) hb (by omega) ⟨by omega, by omega⟩ h15 (fun y => hk.1 (if_neg y)) (fun y M3 q3 p3 => ?_)
  rw [if_pos y] at hk
  have e2 : ∀ i, 2 ≤ i → i ≤ 6 → M3 (o + i) c = M (o + i) c := fun i h1 h2 => q3 _ _ (by unfold gPaR; omega)
  refine hk.2 _ _ _ rfl _ M3 N (q3.mono (gPaR_le ⟨b2.2.1, b2.2.2.2.1⟩)) p3 (by unfold gPbd; omega) ((hcl.kp (e2 2 (by omega) (by omega)) (e2 6 (by omega) (by omega))).nd (z := z) p3.1.1 ⟨by omega, by omega⟩ ((e2 3 (by omega) (by omega)).trans h3) ((e2 4 (by omega) (by omega)).trans h4) (Or.inr (hA.kp (fun i j a1 a2 a3 a4 _ => q3 _ _ (by unfold gPaR; omega)) (fun j => q3 _ _ (by unfold gPaR; omega)))))
theorem gR6_step {n : Nat} (hX : gmX X o) (hts : ts.length ≤ 100) (hto : ∀ t ∈ ts, gTkO S t ∧ 1 ≤ t.2.1) (ih6 : gR6 l G X o L S ts F R0 n) (ih7 : gR7 l G X o L S ts F R0 n) : gR6 l G X o L S ts F R0 (n + 1) := by
  intro d M k w D a b N c Rb rs es n0 z hp hn hD hb hcl h3 h4 hes hA hk
  rw [show d + (n + 1) + 8 + 1 = d + 1 + n + 7 + 1 + 1 by omega]
  by_cases h15 : gTK ts b = 15
  · have hn := hn h15
    have l1 := gTK_lt (ts := ts) (a := b) (by rw [h15]; decide)
    obtain ⟨tk, rf, ct, cp, al⟩ := id hp
    have cp2 := cp
    unfold gPcp at cp2
    have b2 := hb
    unfold gPbd at b2
    have z1 := hA.1
    have z2 := hA.2.1
    have gz : g32 z := ⟨by omega, by omega⟩
    have km := gKm_of (gTK_rng hto b)
    have eY : gY6 S ts (n + 1) w (D + 1) b rs = gPas ts (gPs S ts n) w (D + 1) (b + 1) rs := by
      unfold gY6
      rw [if_pos h15]
      rfl
    rw [eY] at hk
    have hF7 : gPs S ts n 7 w (D + 1) (.num 0) (b + 1) rs = none → gPbF M o ts D a c Rb k := by
      intro y
      refine hk.1 ?_
      unfold gPas
      rw [y]
      rfl
    refine w_GM_call_95 hX ⟨by omega, by omega⟩ gz fun _ => ⟨fun y => absurd ct.1 y, fun _ => r_look (i := 0) hX tk hts ct.2.2.1 (by omega) (by decide) rfl ⟨fun y => absurd (km.2.2.2.2.2.2.2.2.2.2.1.mpr h15) y, fun _ => r_pass hX tk hts ct.2.2.1 l1 ct.2.1 ct.1 (fun q => ?_) (fun q => absurd q (by omega))⟩⟩
    · obtain ⟨p1, q1⟩ := hp.at1 l1
      have hA1 := hA.kp (M2 := gUp M o 25 ((b + 1 : Nat) : Int)) (fun i j a1 a2 a3 a4 _ => gUp_a (by omega)) (fun j => gUp_a (by omega))
      have e1 : ∀ i j, 1 ≤ i → gUp M o 25 ((b + 1 : Nat) : Int) (o + i) j = M (o + i) j := fun i j hi => gUp_a (by omega)
      generalize gUp M o 25 ((b + 1 : Nat) : Int) = M1 at p1 q1 hA1 e1 ⊢
      refine ih7 (d + 1) M1 _ w (D + 1) (b + 1) N rs p1 (by omega) (by omega) ⟨fun y => ?_, fun x b1 r1 y => ?_⟩ (fun y => ?_)
      · have hF := hF7 y
        intro v M3 a' N' R' q3 c3 b3 l3 hv
        unfold gPbd at b3
        refine ⟨⟨by omega, by omega⟩, ⟨by omega, by omega⟩, fun _ => ⟨⟨by omega, by omega⟩, ?_⟩⟩
        refine r_lost95 hX hts hF tk (((q1.tr q3).mono (gPaR_le ⟨b2.2.1, b2.2.2.2.1⟩)).tr (((gOff.rf _ _).up (by unfold gPaR; omega)).up (by unfold gPaR; omega))) (c3.of (fun j _ => by rw [gUp_a (by omega), gUp_a (by omega)])) (by unfold gPbd; omega) l3 (by omega) ⟨by omega, by omega⟩
      · intro v M3 N' q3 p3 b3 n3
        have b4 := b3
        unfold gPbd at b4
        have v1 := n3.1
        have v2 := n3.2.1
        have cp3 := p3.2.2.2.1
        unfold gPcp at cp3
        have al3 := p3.2.2.2.2
        have e3 : ∀ i, 2 ≤ i → i ≤ 6 → M3 (o + i) c = M (o + i) c := fun i h1 h2 => (q3 _ _ (by unfold gPaR; omega)).trans (e1 i c (by omega))
        have r4 : (gUp M3 (o + 5) (Int.toNat z) v) (o + 4) (Int.toNat (c : Int)) = (es.length : Int) := by
          rw [Int.toNat_natCast, gUp_a (by omega), e3 4 (by omega) (by omega)]; exact h4
        rw [r4, w32_id (x := (es.length : Int) + 1) ⟨by omega, by omega⟩, Int.toNat_natCast]
        refine ⟨⟨by omega, by omega⟩, ⟨by omega, by omega⟩, fun _ => ⟨⟨by omega, by omega⟩, ?_⟩⟩
        have w1 : ∀ i j, 1 ≤ i → ¬ (i = 5 ∧ j = z.toNat) → ¬ (i = 4 ∧ j = c) → (gUp (gUp M3 (o + 5) (Int.toNat z) v) (o + 4) c ((es.length : Int) + 1)) (o + i) j = M3 (o + i) j := by
          intro i j hi z5 z4
          unfold gUp
          rw [if_neg (by omega), if_neg (by omega)]
        have w0 : ∀ j, (gUp (gUp M3 (o + 5) (Int.toNat z) v) (o + 4) c ((es.length : Int) + 1)) o j = M3 o j := fun j => by rw [gUp_a (by omega), gUp_a (by omega)]
        have w5 : (gUp (gUp M3 (o + 5) (Int.toNat z) v) (o + 4) c ((es.length : Int) + 1)) (o + 5) z.toNat = v := by rw [gUp_a (by omega), gUp_eq]
        have w4 : (gUp (gUp M3 (o + 5) (Int.toNat z) v) (o + 4) c ((es.length : Int) + 1)) (o + 4) c = (es.length : Int) + 1 := gUp_eq _ _ _ _
        have qw : gOff (gPaR o c Rb) M3 (gUp (gUp M3 (o + 5) (Int.toNat z) v) (o + 4) c ((es.length : Int) + 1)) := ((gOff.rf _ _).up (by unfold gPaR; omega)).up (by unfold gPaR; omega)
        generalize gUp (gUp M3 (o + 5) (Int.toNat z) v) (o + 4) c ((es.length : Int) + 1) = M4 at w1 w0 w5 w4 qw ⊢
        have p4 : gPst M4 o L S ts F R0 (D + 1) b1 N' r1 := p3.wr w0 (fun i j hi => w1 i j (by omega) (by omega) (by omega))
        have hA3 : gxAz M3 o L (L + S.length) (c + 1) N es n0 z := hA1.kp (fun i j a1 a2 a3 a4 _ => q3 _ _ (by unfold gPaR; omega)) (fun j => q3 _ _ (by unfold gPaR; omega))
        have hA4 : gxAz M4 o L (L + S.length) (c + 1) N' (es ++ [x]) n0 v := hA3.snoc n3 w5 (fun i j a1 a2 a3 a4 a5 => w1 i j (by omega) a5 (by omega)) (fun j => w1 1 j (by omega) (by omega) (by omega))
        have eN := gY_eq (ts := ts) (S := S) es y
        rw [eN] at hk
        have qq : gOff (gPaR o c Rb) M M4 := ((q1.tr q3).mono (gPaR_le ⟨b2.2.1, b2.2.2.2.1⟩)).tr qw
        refine ih6 (d + 1) M4 k w D a b1 N' c Rb r1 (es ++ [x]) n0 v p4 (fun y15 => ?_) hD (by unfold gPbd; omega) (hcl.kp ((w1 2 c (by omega) (by omega) (by omega)).trans (e3 2 (by omega) (by omega))) ((w1 6 c (by omega) (by omega) (by omega)).trans (e3 6 (by omega) (by omega)))) ((w1 3 c (by omega) (by omega) (by omega)).trans ((e3 3 (by omega) (by omega)).trans h3)) ?_ ?_ hA4 (hk.step qq)
        · have l15 := gTK_lt (ts := ts) (a := b1) (by rw [y15]; decide)
          omega
        · rw [w4, List.length_append]; rfl
        · rw [List.length_append]; show es.length + 1 ≤ 1000 + b1; omega
      · have hF := hF7 y
        intro v M3 a' N' rs' q3 p3 b3 k16 hv
        have cp3 := p3.2.2.2.1
        unfold gPcp at cp3
        unfold gPbd at b3
        refine ⟨⟨by omega, by omega⟩, ⟨by omega, by omega⟩, fun _ => ⟨⟨by omega, by omega⟩, ?_⟩⟩
        rw [Int.toNat_natCast]
        generalize w32 ((gUp M3 (o + 5) (Int.toNat z) v) (o + 4) c + 1) = u
        have w1 : ∀ i j, 1 ≤ i → ¬ (i = 5) → ¬ (i = 4) → (gUp (gUp M3 (o + 5) (Int.toNat z) v) (o + 4) c u) (o + i) j = M3 (o + i) j := by
          intro i j hi z5 z4
          unfold gUp
          rw [if_neg (by omega), if_neg (by omega)]
        have w0 : ∀ j, (gUp (gUp M3 (o + 5) (Int.toNat z) v) (o + 4) c u) o j = M3 o j := fun j => by rw [gUp_a (by omega), gUp_a (by omega)]
        have qw : gOff (gPaR o c Rb) M3 (gUp (gUp M3 (o + 5) (Int.toNat z) v) (o + 4) c u) := ((gOff.rf _ _).up (by unfold gPaR; omega)).up (by unfold gPaR; omega)
        generalize gUp (gUp M3 (o + 5) (Int.toNat z) v) (o + 4) c u = M4 at w1 w0 qw ⊢
        have p4 : gPst M4 o L S ts F R0 (D + 1) a' N' rs' := p3.wr w0 (fun i j hi => w1 i j (by omega) (by omega) (by omega))
        exact r_end95 hX hts hto p4 (by omega) (((q1.tr q3).mono (gPaR_le ⟨b2.2.1, b2.2.2.2.1⟩)).tr qw) (by unfold gPbd; omega) (by omega) ⟨by omega, by omega⟩ (by rw [k16]; decide) (fun _ => hF) (fun y => absurd (k16.symm.trans y) (by decide))
  · exact gR6_end hX hts hto hp h15 hD hb hcl h3 h4 hA hk
end gdAM
