/-! Tarjan's search, pure: reads that were met before; leaving an entry. -/
section geC
variable {r : Nat → Nat → Prop} {n ws d ss mt : Nat} {W P So met ear nx : Nat → Nat} {ci : Nat → Prop}
theorem gPth_uq (h1 : gOv1 n ws ss mt W So met) (h : gOv2 r ws d ss W P So met ear nx) {i j : Nat} (hi : i < d) (hj : j < d) (e : P i = P j) : i = j := by
  rcases Nat.lt_trichotomy i j with z | z | z
  · have := (gPth_le h (j - i) i (by omega)).2 (by omega)
    rw [show i + (j - i) = j by omega, e] at this
    omega
  · exact z
  · have := (gPth_le h (i - j) j (by omega)).2 (by omega)
    rw [show j + (i - j) = i by omega, e] at this
    omega
/-- a read that waits -/
theorem gOv2_lead {x u v : Nat} (h1 : gOv1 n ws ss mt W So met) (h : gOv2 r ws (d + 1) ss W P So met ear nx) (hx : gIn W ws x ∨ gIn So ss x) (hr : r (P d) x) (hs : ∀ y, r (P d) y → y < x + 1 → y < u ∨ y = x) (hu : nx (P d) = u) (hv : (gIn W ws x ∧ v = min (ear (P d)) (met x)) ∨ (gIn So ss x ∧ v = ear (P d))) : gOv2 r ws (d + 1) ss W P So met (gUf ear (P d) v) (gUf nx (P d) (x + 1)) := by
  obtain ⟨g1, g2, g3, g4, g5, g6, g7⟩ := h
  have h : gOv2 r ws (d + 1) ss W P So met ear nx := ⟨g1, g2, g3, g4, g5, g6, g7⟩
  have vle : v ≤ ear (P d) := by omega
  have eO : ∀ i, i < d → gUf ear (P d) v (P i) = ear (P i) := fun i hi => gUf_n (fun q => by have := gPth_uq h1 h (by omega) (by omega) q; omega)
  refine ⟨g1, g2, g3, g4, fun i hi => ?_, fun i hi w hw hm hm2 y hy hq => ?_, g7⟩
  · by_cases q : i = d
    · rw [q, gUf_e]
      obtain ⟨a1, z, a2, a3, a4⟩ := g5 d (by omega)
      refine ⟨by omega, ?_⟩
      rcases hv with ⟨b1, b2⟩ | ⟨b1, b2⟩
      · by_cases q2 : ear (P d) ≤ met x
        · exact ⟨z, a2, by omega, a4⟩
        · exact ⟨x, b1, by omega, gRT.st hr⟩
      · exact ⟨z, a2, by omega, a4⟩
    · rw [eO i (by omega)]
      exact g5 i hi
  · by_cases q : i = d
    · rw [q] at hm hm2 hq ⊢
      rw [gUf_e]
      have fin : ∀ y, gIn So ss y ∨ (gIn W ws y ∧ (met (P d) ≤ met y ∨ ear (P d) ≤ met y)) → gIn So ss y ∨ (gIn W ws y ∧ (met (P d) ≤ met y ∨ v ≤ met y)) := by
        intro y
        rintro (z | ⟨z, z2⟩)
        · exact Or.inl z
        · exact Or.inr ⟨z, by omega⟩
      by_cases e : w = P d
      · have hq := hq e
        rw [e, gUf_e] at hq
        rw [e] at hy
        rcases hs y hy hq with z | z
        · exact fin y (g6 d (by omega) w hw hm hm2 y (by rw [e]; exact hy) (fun _ => by rw [e, hu]; exact z))
        · rw [z]
          rcases hv with ⟨b1, b2⟩ | ⟨b1, b2⟩
          · exact Or.inr ⟨b1, Or.inr (by omega)⟩
          · exact Or.inl b1
      · exact fin y (g6 d (by omega) w hw hm hm2 y hy (fun q2 => absurd q2 e))
    · rw [eO i (by omega)]
      refine g6 i hi w hw hm hm2 y hy (fun q2 => ?_)
      have hq := hq q2
      rw [gUf_n (fun q3 => by rw [q2] at q3; have := gPth_uq h1 h (by omega) (by omega) q3; omega)] at hq
      exact hq
/-- an entry is left, but waits on -/
theorem gOv2_stay (h1 : gOv1 n ws ss mt W So met) (h : gOv2 r ws (d + 2) ss W P So met ear nx) (hne : ear (P (d + 1)) ≠ met (P (d + 1))) (hall : ∀ y, r (P (d + 1)) y → y < nx (P (d + 1))) : gOv2 r ws (d + 1) ss W P So met (gUf ear (P d) (min (ear (P d)) (ear (P (d + 1))))) nx := by
  obtain ⟨g1, g2, g3, g4, g5, g6, g7⟩ := h
  have h : gOv2 r ws (d + 2) ss W P So met ear nx := ⟨g1, g2, g3, g4, g5, g6, g7⟩
  have eO : ∀ i, i < d → gUf ear (P d) (min (ear (P d)) (ear (P (d + 1)))) (P i) = ear (P i) := fun i hi => gUf_n (fun q => by have := gPth_uq h1 h (by omega) (by omega) q; omega)
  have m1 := g2 d (by omega)
  have c1 := gPth h (i := d + 1) (by omega)
  have c0 := gPth h (i := d) (by omega)
  have step : gRT r (P d) (P (d + 1)) := g3 d (by omega) _ c1 (by omega)
  obtain ⟨a1, z, a2, a3, a4⟩ := g5 (d + 1) (by omega)
  have back : gRT r (P (d + 1)) (P d) := a4.tr (g4 d (by omega) z a2 (fun _ => by omega))
  refine ⟨fun i hi => g1 i (by omega), fun i hi => g2 i (by omega), fun i hi => g3 i (by omega), fun i hi w hw hm => ?_, fun i hi => ?_, fun i hi w hw hm hm2 y hy hq => ?_, fun w hw => ⟨by omega, (g7 w hw).2⟩⟩
  · by_cases q : i = d
    · rw [q]
      by_cases q2 : met w < met (P (d + 1))
      · exact g4 d (by omega) w hw (fun _ => q2)
      · exact (g4 (d + 1) (by omega) w hw (fun q3 => by omega)).tr back
    · exact g4 i (by omega) w hw (fun _ => hm (by omega))
  · by_cases q : i = d
    · rw [q, gUf_e]
      obtain ⟨b1, y, b2, b3, b4⟩ := g5 d (by omega)
      refine ⟨by omega, ?_⟩
      by_cases q2 : ear (P d) ≤ ear (P (d + 1))
      · exact ⟨y, b2, by omega, b4⟩
      · exact ⟨z, a2, by omega, step.tr a4⟩
    · rw [eO i (by omega)]
      exact g5 i (by omega)
  · by_cases q : i = d
    · rw [q] at hm hq ⊢
      rw [gUf_e]
      by_cases q2 : met w < met (P (d + 1))
      · rcases g6 d (by omega) w hw hm (fun _ => q2) y hy hq with u | ⟨u, u2⟩
        · exact Or.inl u
        · exact Or.inr ⟨u, by omega⟩
      · rcases g6 (d + 1) (by omega) w hw (by omega) (fun q3 => by omega) y hy (fun e => by rw [e] at hy ⊢; exact hall y hy) with u | ⟨u, u2⟩
        · exact Or.inl u
        · exact Or.inr ⟨u, by omega⟩
    · rw [eO i (by omega)]
      exact g6 i (by omega) w hw hm (fun _ => hm2 (by omega)) y hy hq
/-- an entry is left, and with it all that wait since it was met -/
theorem gOv_comp {k ss' : Nat} {So' : Nat → Nat} {ci' : Nat → Prop} (h1 : gOv1 n ws ss mt W So met) (h : gOv2 r ws (d + 1) ss W P So met ear nx) (h3 : gOv3 r ss So ci) (hear : ear (P d) = met (P d)) (hall : ∀ y, r (P d) y → y < nx (P d)) (hk : k < ws) (hWk : W k = P d) (ess : ss' = ss + (ws - k)) (s1 : ∀ j, j < ss → So' j = So j) (s2 : ∀ j, j < ws - k → So' (ss + j) = W (ws - 1 - j)) (c1 : ∀ e, gIn So ss e → (ci' e ↔ ci e)) (c2 : ∀ j, k ≤ j → j < ws → (ci' (W j) ↔ (k + 1 < ws ∨ r (P d) (P d)))) : gOv1 n k ss' mt W So' met ∧ gOv2 r k d ss' W P So' met ear nx ∧ gOv3 r ss' So' ci' := by
  obtain ⟨f1, f2, f3, f4, f5, f6, f7⟩ := id h1
  obtain ⟨g1, g2, g3, g4, g5, g6, g7⟩ := id h
  -- indices against meetings
  have ge : ∀ j, k ≤ j → j < ws → met (P d) ≤ met (W j) := fun j a b => by
    rw [← hWk]
    by_cases q : j = k
    · rw [q]; exact Nat.le_refl _
    · exact Nat.le_of_lt (f2 k j (by omega) b)
  have lt : ∀ j, j < k → met (W j) < met (P d) := fun j a => by rw [← hWk]; exact f2 j k a hk
  have low : ∀ w, gIn W ws w → met w < met (P d) → gIn W k w := by
    rintro w ⟨j, a, e⟩ hm
    refine ⟨j, Decidable.byContradiction fun q => ?_, e⟩
    have := ge j (by omega) a
    rw [e] at this
    omega
  have high : ∀ w, gIn W ws w → met (P d) ≤ met w → ∃ j, k ≤ j ∧ j < ws ∧ W j = w := by
    rintro w ⟨j, a, e⟩ hm
    refine ⟨j, Decidable.byContradiction fun q => ?_, a, e⟩
    have := lt j (by omega)
    rw [e] at this
    omega
  have lw : ∀ w, gIn W k w → gIn W ws w ∧ met w < met (P d) := by
    rintro w ⟨j, a, e⟩
    refine ⟨⟨j, by omega, e⟩, ?_⟩
    rw [← e]
    exact lt j a
  have winj : ∀ i j, i < ws → j < ws → W i = W j → i = j := by
    intro i j hi hj e
    rcases Nat.lt_trichotomy i j with z | z | z
    · have := f2 i j z hj; rw [e] at this; omega
    · exact z
    · have := f2 j i z hi; rw [e] at this; omega
  -- done before, done now
  have dn : ∀ e, gIn So' ss' e ↔ gIn So ss e ∨ ∃ j, k ≤ j ∧ j < ws ∧ W j = e := by
    intro e
    constructor
    · rintro ⟨j, a, e1⟩
      by_cases q : j < ss
      · rw [s1 j q] at e1; exact Or.inl ⟨j, q, e1⟩
      · have := s2 (j - ss) (by omega)
        rw [show ss + (j - ss) = j by omega, e1] at this
        exact Or.inr ⟨ws - 1 - (j - ss), by omega, by omega, this.symm⟩
    · rintro (⟨j, a, e1⟩ | ⟨j, a, b, e1⟩)
      · exact ⟨j, by omega, by rw [s1 j a]; exact e1⟩
      · refine ⟨ss + (ws - 1 - j), by omega, ?_⟩
        rw [s2 _ (by omega), show ws - 1 - (ws - 1 - j) = j by omega]
        exact e1
  have clA : ∀ j, k ≤ j → j < ws → ∀ y, r (W j) y → gIn So ss y ∨ ∃ i, k ≤ i ∧ i < ws ∧ W i = y := by
    intro j a b y hy
    rcases g6 d (by omega) (W j) ⟨j, b, rfl⟩ (ge j a b) (fun q => by omega) y hy (fun e => by rw [e] at hy ⊢; exact hall y hy) with u | ⟨u, u2⟩
    · exact Or.inl u
    · exact Or.inr (high y u (by omega))
  have toP : ∀ j, j < ws → gRT r (W j) (P d) := fun j b => g4 d (by omega) (W j) ⟨j, b, rfl⟩ (fun q => by omega)
  have ofP : ∀ j, k ≤ j → j < ws → gRT r (P d) (W j) := fun j a b => g3 d (by omega) (W j) ⟨j, b, rfl⟩ (ge j a b)
  have nd : ∀ j, j < ws → ¬ gIn So ss (W j) := fun j b => f5 _ ⟨j, b, rfl⟩
  refine ⟨⟨fun j hj => f1 j (by omega), fun i j hi hj => f2 i j hi (by omega), f3, fun e he => ?_, fun e he hq => ?_, fun j hj => ?_, fun i j hi hj e => ?_⟩, ⟨fun i hi => ?_, fun i hi => g2 i (by omega), fun i hi w hw hm => g3 i (by omega) w (lw w hw).1 hm, fun i hi w hw hm => g4 i (by omega) w (lw w hw).1 (fun _ => ?_), fun i hi => ?_, fun i hi w hw hm hm2 y hy hq => ?_, fun w hw => ?_⟩, ⟨fun e x he hx => ?_, fun j hj hc x hx => ?_, fun e he => ?_⟩⟩
  · rw [f4 e he, dn]
    constructor
    · rintro (z | z)
      · by_cases q : met e < met (P d)
        · exact Or.inl (low e z q)
        · exact Or.inr (Or.inr (high e z (by omega)))
      · exact Or.inr (Or.inl z)
    · rintro (z | z | ⟨j, a, b, e1⟩)
      · exact Or.inl (lw e z).1
      · exact Or.inr z
      · exact Or.inl ⟨j, b, e1⟩
  · rcases (dn e).mp hq with z | ⟨j, a, b, e1⟩
    · exact f5 e (lw e he).1 z
    · have := (lw e he).2
      have := ge j a b
      rw [e1] at this
      omega
  · by_cases q : j < ss
    · rw [s1 j q]; exact f6 j q
    · have := s2 (j - ss) (by omega)
      rw [show ss + (j - ss) = j by omega] at this
      rw [this]
      exact f1 _ (by omega)
  · by_cases qi : i < ss <;> by_cases qj : j < ss
    · rw [s1 i qi, s1 j qj] at e; exact f7 i j qi qj e
    · have := s2 (j - ss) (by omega)
      rw [show ss + (j - ss) = j by omega, ← e, s1 i qi] at this
      exact absurd ⟨i, qi, this⟩ (nd _ (by omega))
    · have := s2 (i - ss) (by omega)
      rw [show ss + (i - ss) = i by omega, e, s1 j qj] at this
      exact absurd ⟨j, qj, this⟩ (nd _ (by omega))
    · have e1 := s2 (i - ss) (by omega)
      have e2 := s2 (j - ss) (by omega)
      rw [show ss + (i - ss) = i by omega] at e1
      rw [show ss + (j - ss) = j by omega] at e2
      have := winj _ _ (by omega) (by omega) (e1.symm.trans (e.trans e2))
      omega
  · obtain ⟨j, a1, a2, a3⟩ := g1 i (by omega)
    refine ⟨j, a1, Decidable.byContradiction fun q => ?_, a3⟩
    have := ge j (by omega) a2
    rw [a3] at this
    have := (gPth_le h (d - i) i (by omega)).2 (by omega)
    rw [show i + (d - i) = d by omega] at this
    omega
  · by_cases q : i + 1 < d
    · exact hm q
    · rw [show i + 1 = d by omega]; exact (lw w hw).2
  · obtain ⟨a1, x, a2, a3, a4⟩ := g5 i (by omega)
    have := (gPth_le h (d - i) i (by omega)).2 (by omega)
    rw [show i + (d - i) = d by omega] at this
    exact ⟨a1, x, low x a2 (by omega), a3, a4⟩
  · rcases g6 i (by omega) w (lw w hw).1 hm (fun q => by
      by_cases q2 : i + 1 < d
      · exact hm2 q2
      · rw [show i + 1 = d by omega]; exact (lw w hw).2) y hy hq with u | ⟨u, u2⟩
    · exact Or.inl ((dn y).mpr (Or.inl u))
    · by_cases q : met y < met (P d)
      · exact Or.inr ⟨low y u q, u2⟩
      · exact Or.inl ((dn y).mpr (Or.inr (high y u (by omega))))
  · have a := lw w hw
    have b := (g7 w a.1).2
    refine ⟨Decidable.byContradiction fun q => ?_, b⟩
    have e : d = 0 := by omega
    rw [e] at a
    omega
  · rcases (dn e).mp he with z | ⟨j, a, b, e1⟩
    · exact (dn x).mpr (Or.inl (h3.1 e x z hx))
    · exact (dn x).mpr (clA j a b x (by rw [e1]; exact hx))
  · by_cases q : j < ss
    · rw [s1 j q] at hc hx
      obtain ⟨i, a, e⟩ := h3.2.1 j q (fun z => hc ((c1 _ ⟨j, q, rfl⟩).mpr z)) x hx
      exact ⟨i, a, by rw [s1 i (by omega)]; exact e⟩
    · have e1 := s2 (j - ss) (by omega)
      rw [show ss + (j - ss) = j by omega] at e1
      rw [e1] at hc hx
      have hc := fun z => hc ((c2 _ (by omega) (by omega)).mpr z)
      have e2 : ws - 1 - (j - ss) = k := by
        refine Decidable.byContradiction fun q => hc (Or.inl (by omega))
      have e3 : ¬ k + 1 < ws := fun q => hc (Or.inl q)
      rw [e2] at hx
      rcases clA k (Nat.le_refl _) hk x hx with u | ⟨i, a, b, e⟩
      · obtain ⟨i, a, e⟩ := u
        exact ⟨i, by omega, by rw [s1 i a]; exact e⟩
      · have : i = k := by omega
        rw [this] at e
        rw [← e, hWk] at hx
        exact absurd (Or.inr hx) hc
  · rcases (dn e).mp he with z | ⟨j, a, b, e1⟩
    · exact (c1 e z).trans (h3.2.2 e z)
    · rw [← e1, c2 j a b]
      constructor
      · intro hc
        by_cases q : k + 1 < ws
        · by_cases q2 : j = k
          · have ne : W j ≠ W (k + 1) := fun z => by have := winj _ _ b (by omega) z; omega
            have t1 : gRT r (W j) (W (k + 1)) := (toP j b).tr (ofP (k + 1) (by omega) (by omega))
            exact gTC.tl ((t1.ne ne).rt) (((toP (k + 1) (by omega)).tr (ofP j a b)).ne (fun z => ne z.symm))
          · have ne : W j ≠ W k := fun z => q2 (winj _ _ b hk z)
            have t1 : gRT r (W j) (W k) := by rw [hWk]; exact toP j b
            exact gTC.tl t1 (gRT.ne (by rw [hWk]; exact ofP j a b) (fun z => ne z.symm))
        · rcases hc with z | z
          · exact absurd z q
          · rw [show j = k by omega, hWk]
            exact gTC.st z
      · intro hT
        refine Classical.byContradiction fun hc => ?_
        have q : ¬ k + 1 < ws := fun z => hc (Or.inl z)
        rw [show j = k by omega] at hT
        obtain ⟨m, x, hx, hp⟩ := hT
        rcases clA k (Nat.le_refl _) hk x hx with u | ⟨i, a, b, e⟩
        · exact nd k hk (gRT.cl (D := gIn So ss) h3.1 m x (W k) hp u)
        · have : i = k := by omega
          rw [this] at e
          rw [← e, hWk] at hx
          exact hc (Or.inr hx)
end geC
