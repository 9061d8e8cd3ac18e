/-! Tarjan's search, pure: what holds at every step. -/
def gRch (r : Nat → Nat → Prop) : Nat → Nat → Nat → Prop
  | 0, a, b => a = b
  | k + 1, a, b => ∃ x, r a x ∧ gRch r k x b
def gRT (r : Nat → Nat → Prop) (a b : Nat) : Prop := ∃ k, gRch r k a b
def gTC (r : Nat → Nat → Prop) (a b : Nat) : Prop := ∃ k, gRch r (k + 1) a b
section geA
variable {r : Nat → Nat → Prop} {a b c : Nat}
theorem gRch_tr : ∀ (k m a b c : Nat), gRch r k a b → gRch r m b c → gRch r (k + m) a c := by
  intro k
  induction k with
  | zero => intro m a b c h1 h2; have h1 : a = b := h1; rw [h1, Nat.zero_add]; exact h2
  | succ k ih =>
    intro m a b c h1 h2
    obtain ⟨x, hx, h1⟩ := h1
    rw [show k + 1 + m = (k + m) + 1 by omega]
    exact ⟨x, hx, ih m x b c h1 h2⟩
theorem gRT.rf (a : Nat) : gRT r a a := ⟨0, rfl⟩
theorem gRT.st (h : r a b) : gRT r a b := ⟨1, b, h, rfl⟩
theorem gRT.tr (h : gRT r a b) (k : gRT r b c) : gRT r a c := by
  obtain ⟨i, h⟩ := h
  obtain ⟨j, k⟩ := k
  exact ⟨i + j, gRch_tr i j a b c h k⟩
theorem gTC.st (h : r a b) : gTC r a b := ⟨0, b, h, rfl⟩
theorem gTC.hd (h : r a b) (k : gRT r b c) : gTC r a c := by
  obtain ⟨j, k⟩ := k
  exact ⟨j, b, h, k⟩
theorem gTC.tl (h : gRT r a b) (k : gTC r b c) : gTC r a c := by
  obtain ⟨i, h⟩ := h
  obtain ⟨j, k⟩ := k
  exact ⟨i + j, gRch_tr i (j + 1) a b c h k⟩
theorem gTC.rt (h : gTC r a b) : gRT r a b := by
  obtain ⟨i, h⟩ := h
  exact ⟨i + 1, h⟩
theorem gRT.ne (h : gRT r a b) (n : a ≠ b) : gTC r a b := by
  obtain ⟨i, h⟩ := h
  cases i with
  | zero => exact absurd h n
  | succ i => exact ⟨i, h⟩
theorem gRT.cl {D : Nat → Prop} (hD : ∀ e x, D e → r e x → D x) : ∀ (k a b : Nat), gRch r k a b → D a → D b := by
  intro k
  induction k with
  | zero => intro a b h ha; have h : a = b := h; rw [← h]; exact ha
  | succ k ih => intro a b h ha; obtain ⟨x, hx, h⟩ := h; exact ih x b h (hD a x ha hx)
end geA
def gIn (W : Nat → Nat) (ws e : Nat) : Prop := ∃ k, k < ws ∧ W k = e
def gUf (f : Nat → Nat) (a v : Nat) : Nat → Nat := fun x => if x = a then v else f x
theorem gUf_e (f : Nat → Nat) (a v : Nat) : gUf f a v a = v := if_pos rfl
theorem gUf_n {f : Nat → Nat} {a v x : Nat} (h : x ≠ a) : gUf f a v x = f x := if_neg h
/-- what is there of the entries met, and of those done -/
def gOv1 (n ws ss mt : Nat) (W So met : Nat → Nat) : Prop := (∀ k, k < ws → W k < n) ∧ (∀ j k, j < k → k < ws → met (W j) < met (W k)) ∧ (∀ e, met e ≤ mt) ∧ (∀ e, e < n → (met e ≠ 0 ↔ gIn W ws e ∨ gIn So ss e)) ∧ (∀ e, gIn W ws e → ¬ gIn So ss e) ∧ (∀ k, k < ss → So k < n) ∧ (∀ j k, j < ss → k < ss → So j = So k → j = k)
/-- the path and those that wait -/
def gOv2 (r : Nat → Nat → Prop) (ws d ss : Nat) (W P So met ear nx : Nat → Nat) : Prop := (∀ i, i < d → ∃ k, i ≤ k ∧ k < ws ∧ W k = P i) ∧ (∀ i, i + 1 < d → met (P i) < met (P (i + 1))) ∧ (∀ i, i < d → ∀ w, gIn W ws w → met (P i) ≤ met w → gRT r (P i) w) ∧ (∀ i, i < d → ∀ w, gIn W ws w → (i + 1 < d → met w < met (P (i + 1))) → gRT r w (P i)) ∧ (∀ i, i < d → ear (P i) ≤ met (P i) ∧ ∃ x, gIn W ws x ∧ met x = ear (P i) ∧ gRT r (P i) x) ∧ (∀ i, i < d → ∀ w, gIn W ws w → met (P i) ≤ met w → (i + 1 < d → met w < met (P (i + 1))) → ∀ x, r w x → (w = P i → x < nx w) → gIn So ss x ∨ (gIn W ws x ∧ (met (P i) ≤ met x ∨ ear (P i) ≤ met x))) ∧ (∀ w, gIn W ws w → 0 < d ∧ met (P 0) ≤ met w)
/-- those done -/
def gOv3 (r : Nat → Nat → Prop) (ss : Nat) (So : Nat → Nat) (ci : Nat → Prop) : Prop := (∀ e x, gIn So ss e → r e x → gIn So ss x) ∧ (∀ k, k < ss → ¬ ci (So k) → ∀ x, r (So k) x → gIn So k x) ∧ (∀ e, gIn So ss e → (ci e ↔ gTC r e e))
section geB
variable {r : Nat → Nat → Prop} {n ws d ss mt : Nat} {W P So met ear nx : Nat → Nat} {ci : Nat → Prop}
theorem gIn.lt (h : gOv1 n ws ss mt W So met) {e : Nat} (k : gIn W ws e) : e < n ∧ met e ≠ 0 := by
  obtain ⟨j, hj, e1⟩ := id k
  have := h.1 j hj
  rw [e1] at this
  exact ⟨this, (h.2.2.2.1 e this).mpr (Or.inl k)⟩
/-- met tells those that wait apart -/
theorem gIn.uq (h : gOv1 n ws ss mt W So met) {e x : Nat} (k : gIn W ws e) (m : gIn W ws x) (q : met e = met x) : e = x := by
  obtain ⟨i, hi, e1⟩ := k
  obtain ⟨j, hj, e2⟩ := m
  rcases Nat.lt_trichotomy i j with z | z | z
  · have := h.2.1 i j z hj; rw [e1, e2] at this; omega
  · rw [← e1, ← e2, z]
  · have := h.2.1 j i z hi; rw [e1, e2] at this; omega
theorem gPth (h : gOv2 r ws d ss W P So met ear nx) {i : Nat} (hi : i < d) : gIn W ws (P i) := by
  obtain ⟨k, _, h1, h2⟩ := h.1 i hi
  exact ⟨k, h1, h2⟩
theorem gPth_le (h : gOv2 r ws d ss W P So met ear nx) : ∀ (m i : Nat), i + m < d → met (P i) ≤ met (P (i + m)) ∧ (0 < m → met (P i) < met (P (i + m))) := by
  intro m
  induction m with
  | zero => intro i hi; exact ⟨Nat.le_refl _, fun q => absurd q (Nat.lt_irrefl _)⟩
  | succ m ih =>
    intro i hi
    have h1 := ih i (by omega)
    have h2 := h.2.1 (i + m) (by omega)
    rw [show i + (m + 1) = i + m + 1 by omega]
    exact ⟨by omega, fun _ => by omega⟩
/-- those that wait, with one more -/
theorem gIn_s {W : Nat → Nat} {ws x e : Nat} : gIn (gUf W ws x) (ws + 1) e ↔ gIn W ws e ∨ e = x := by
  constructor
  · intro h
    obtain ⟨k, hk, e1⟩ := h
    by_cases q : k = ws
    · rw [q, gUf_e] at e1; exact Or.inr e1.symm
    · rw [gUf_n q] at e1; exact Or.inl ⟨k, by omega, e1⟩
  · intro h
    rcases h with ⟨k, hk, e1⟩ | e1
    · exact ⟨k, by omega, by rw [gUf_n (by omega)]; exact e1⟩
    · exact ⟨ws, by omega, by rw [gUf_e]; exact e1.symm⟩
/-- an entry is met for the first time -/
theorem gOv1_meet {x : Nat} (h : gOv1 n ws ss mt W So met) (hx : x < n) (h0 : met x = 0) : gOv1 n (ws + 1) ss (mt + 1) (gUf W ws x) So (gUf met x (mt + 1)) := by
  have hW : ∀ w, gIn W ws w → w ≠ x := fun w hw q => by have := (hw.lt h).2; rw [q] at this; exact this h0
  refine ⟨fun k hk => ?_, fun j k hj hk => ?_, fun e => ?_, fun e he => ?_, fun e he => ?_, h.2.2.2.2.2.1, h.2.2.2.2.2.2⟩
  · by_cases q : k = ws
    · rw [q, gUf_e]; exact hx
    · rw [gUf_n q]; exact h.1 k (by omega)
  · rw [gUf_n (f := W) (a := ws) (x := j) (by omega)]
    have e1 : W j ≠ x := hW _ ⟨j, by omega, rfl⟩
    rw [gUf_n e1]
    by_cases q : k = ws
    · rw [q, gUf_e, gUf_e]
      have := h.2.2.1 (W j)
      omega
    · rw [gUf_n q, gUf_n (hW _ ⟨k, by omega, rfl⟩)]
      exact h.2.1 j k hj (by omega)
  · unfold gUf
    split
    · exact Nat.le_refl _
    · have := h.2.2.1 e; omega
  · rw [gIn_s]
    by_cases q : e = x
    · rw [q, gUf_e]
      exact ⟨fun _ => Or.inl (Or.inr rfl), fun _ => by omega⟩
    · rw [gUf_n q, h.2.2.2.1 e he]
      constructor
      · rintro (z | z)
        · exact Or.inl (Or.inl z)
        · exact Or.inr z
      · rintro ((z | z) | z)
        · exact Or.inl z
        · exact absurd z q
        · exact Or.inr z
  · rw [gIn_s] at he
    rcases he with z | z
    · exact h.2.2.2.2.1 e z
    · intro q
      have := (h.2.2.2.1 x hx).mpr (Or.inr (by rw [← z]; exact q))
      exact this h0
/-- the root is met -/
theorem gOv2_root {x : Nat} (h : gOv1 n 0 ss mt W So met) (hx : x < n) (h0 : met x = 0) : gOv2 r 1 1 ss (gUf W 0 x) (gUf P 0 x) So (gUf met x (mt + 1)) (gUf ear x (mt + 1)) (gUf nx x 0) := by
  have one : ∀ w, gIn (gUf W 0 x) 1 w → w = x := fun w hw => by
    rcases gIn_s.mp hw with ⟨k, hk, _⟩ | z
    · omega
    · exact z
  have inx : gIn (gUf W 0 x) 1 x := gIn_s.mpr (Or.inr rfl)
  have p0 : ∀ i, i < 1 → gUf P 0 x i = x := fun i hi => by rw [show i = 0 by omega, gUf_e]
  refine ⟨fun i hi => ⟨0, by omega, by omega, by rw [p0 i hi, gUf_e]⟩, fun i hi => by omega, fun i hi w hw _ => by rw [p0 i hi, one w hw]; exact gRT.rf _, fun i hi w hw _ => by rw [p0 i hi, one w hw]; exact gRT.rf _, fun i hi => by rw [p0 i hi, gUf_e, gUf_e]; exact ⟨Nat.le_refl _, x, inx, gUf_e _ _ _, gRT.rf _⟩, fun i hi w hw _ _ y hy hq => ?_, fun w hw => ⟨by omega, by rw [p0 0 (by omega), one w hw]; exact Nat.le_refl _⟩⟩
  rw [p0 i hi] at hq
  have := hq (one w hw)
  rw [one w hw, gUf_e] at this
  omega
/-- a read that was not met yet: it is met, and goes on the path -/
theorem gOv2_meet {x u : Nat} (h1 : gOv1 n ws ss mt W So met) (h : gOv2 r ws (d + 1) ss W P So met ear nx) (hx : x < n) (h0 : met x = 0) (hr : r (P d) x) (hs : ∀ y, r (P d) y → y < x + 1 → y < u ∨ y = x) (hu : nx (P d) = u) : gOv2 r (ws + 1) (d + 2) ss (gUf W ws x) (gUf P (d + 1) x) So (gUf met x (mt + 1)) (gUf ear x (mt + 1)) (gUf (gUf nx (P d) (x + 1)) x 0) := by
  have hW : ∀ w, gIn W ws w → w ≠ x := fun w hw q => by have := (hw.lt h1).2; rw [q] at this; exact this h0
  have mW : ∀ w, gIn W ws w → gUf met x (mt + 1) w = met w := fun w hw => gUf_n (hW w hw)
  have mx : gUf met x (mt + 1) x = mt + 1 := gUf_e _ _ _
  have pO : ∀ i, i < d + 1 → gUf P (d + 1) x i = P i := fun i hi => gUf_n (by omega)
  have pN : gUf P (d + 1) x (d + 1) = x := gUf_e _ _ _
  have hP : ∀ i, i < d + 1 → gIn W ws (P i) := fun i hi => gPth h hi
  have mt1 : ∀ e, met e ≤ mt := h1.2.2.1
  have top : ∀ w, gIn W ws w → gRT r w (P d) := fun w hw => h.2.2.2.1 d (by omega) w hw (fun q => by omega)
  refine ⟨fun i hi => ?_, fun i hi => ?_, fun i hi w hw hm => ?_, fun i hi w hw hm => ?_, fun i hi => ?_, fun i hi w hw hm hm2 y hy hq => ?_, fun w hw => ⟨by omega, ?_⟩⟩
  · by_cases q : i = d + 1
    · refine ⟨ws, ?_, by omega, by rw [gUf_e, q, pN]⟩
      obtain ⟨k, k1, k2, _⟩ := h.1 d (by omega)
      omega
    · obtain ⟨k, k1, k2, k3⟩ := h.1 i (by omega)
      exact ⟨k, k1, by omega, by rw [gUf_n (by omega), pO i (by omega)]; exact k3⟩
  · rw [pO i (by omega), mW _ (hP i (by omega))]
    by_cases q : i = d
    · rw [q, pN, mx]
      have := mt1 (P d)
      omega
    · rw [pO (i + 1) (by omega), mW _ (hP (i + 1) (by omega))]
      exact h.2.1 i (by omega)
  · by_cases q : i = d + 1
    · rw [q, pN] at hm ⊢
      rcases gIn_s.mp hw with z | z
      · rw [mx, mW w z] at hm
        have := mt1 w
        omega
      · rw [z]; exact gRT.rf _
    · rw [pO i (by omega)] at hm ⊢
      rcases gIn_s.mp hw with z | z
      · rw [mW _ (hP i (by omega)), mW w z] at hm
        exact h.2.2.1 i (by omega) w z hm
      · rw [z]
        refine (h.2.2.1 i (by omega) (P d) (hP d (by omega)) ?_).tr (gRT.st hr)
        have := (gPth_le h (d - i) i (by omega)).1
        rw [show i + (d - i) = d by omega] at this
        exact this
  · by_cases q : i = d + 1
    · rw [q, pN]
      rcases gIn_s.mp hw with z | z
      · exact (top w z).tr (gRT.st hr)
      · rw [z]; exact gRT.rf _
    · rw [pO i (by omega)]
      have hm := hm (by omega)
      by_cases q2 : i = d
      · rw [q2, pN, mx] at hm
        rw [q2]
        rcases gIn_s.mp hw with z | z
        · exact top w z
        · rw [z, mx] at hm; omega
      · rw [pO (i + 1) (by omega), mW _ (hP (i + 1) (by omega))] at hm
        rcases gIn_s.mp hw with z | z
        · rw [mW w z] at hm
          exact h.2.2.2.1 i (by omega) w z (fun _ => hm)
        · rw [z, mx] at hm
          have := mt1 (P (i + 1))
          omega
  · by_cases q : i = d + 1
    · rw [q, pN, gUf_e, mx]
      exact ⟨Nat.le_refl _, x, gIn_s.mpr (Or.inr rfl), mx, gRT.rf _⟩
    · rw [pO i (by omega), mW _ (hP i (by omega)), gUf_n (f := ear) (hW _ (hP i (by omega)))]
      obtain ⟨a1, y, a2, a3, a4⟩ := h.2.2.2.2.1 i (by omega)
      exact ⟨a1, y, gIn_s.mpr (Or.inl a2), by rw [mW y a2]; exact a3, a4⟩
  · by_cases q : i = d + 1
    · rw [q, pN] at hm hq
      rcases gIn_s.mp hw with z | z
      · rw [mx, mW w z] at hm
        have := mt1 w
        omega
      · have := hq z
        rw [z, gUf_e] at this
        omega
    · rw [pO i (by omega)] at hm hq ⊢
      rw [mW _ (hP i (by omega))] at hm ⊢
      have hm2 := hm2 (by omega)
      have zW : gIn W ws w := by
        rcases gIn_s.mp hw with z | z
        · exact z
        · rw [z, mx] at hm2
          by_cases q2 : i = d
          · rw [q2, pN, mx] at hm2; omega
          · rw [pO (i + 1) (by omega), mW _ (hP (i + 1) (by omega))] at hm2
            have := mt1 (P (i + 1))
            omega
      rw [mW w zW] at hm hm2
      rw [gUf_n (f := ear) (hW _ (hP i (by omega)))]
      have cond : i + 1 < d + 1 → met w < met (P (i + 1)) := fun q2 => by
        rw [pO (i + 1) (by omega), mW _ (hP (i + 1) (by omega))] at hm2
        exact hm2
      have fin : gIn So ss y ∨ (gIn W ws y ∧ (met (P i) ≤ met y ∨ ear (P i) ≤ met y)) → gIn So ss y ∨ (gIn (gUf W ws x) (ws + 1) y ∧ (met (P i) ≤ gUf met x (mt + 1) y ∨ ear (P i) ≤ gUf met x (mt + 1) y)) := by
        rintro (z | ⟨z, z2⟩)
        · exact Or.inl z
        · exact Or.inr ⟨gIn_s.mpr (Or.inl z), by rw [mW y z]; exact z2⟩
      by_cases e : w = P d ∧ i = d
      · have hq := hq (by rw [e.2]; exact e.1)
        rw [gUf_n (hW w zW), e.1, gUf_e] at hq
        rw [e.1] at hy
        rcases hs y hy hq with z | z
        · exact fin (h.2.2.2.2.2.1 i (by omega) w zW hm cond y (by rw [e.1]; exact hy) (fun _ => by rw [e.1, hu]; exact z))
        · refine Or.inr ⟨gIn_s.mpr (Or.inr z), Or.inl ?_⟩
          rw [z, mx]
          have := mt1 (P i)
          omega
      · refine fin (h.2.2.2.2.2.1 i (by omega) w zW hm cond y hy (fun q2 => ?_))
        have hq := hq q2
        rw [gUf_n (hW w zW)] at hq
        have ne : w ≠ P d := fun q3 => by
          refine e ⟨q3, Decidable.byContradiction fun q4 => ?_⟩
          have := (gPth_le h (d - i) i (by omega)).2 (by omega)
          rw [show i + (d - i) = d by omega, ← q3, ← q2] at this
          exact absurd this (Nat.lt_irrefl _)
        rw [gUf_n ne] at hq
        exact hq
  · rw [pO 0 (by omega), mW _ (hP 0 (by omega))]
    rcases gIn_s.mp hw with z | z
    · rw [mW w z]; exact (h.2.2.2.2.2.2 w z).2
    · rw [z, mx]
      have := mt1 (P 0)
      omega
end geB
