/-! The reference's follow: the first and the last line of a range that are left. -/
def gFoA (i n m low v a b : Int) : Prop := (a = -1 ∧ b = -1 ∧ ∀ w, low ≤ w → w < v → gmMv w i n m = -1) ∨ (0 ≤ a ∧ 0 ≤ b ∧ (∃ w0, low ≤ w0 ∧ w0 < v ∧ gmMv w0 i n m = a ∧ ∀ w, low ≤ w → w < w0 → gmMv w i n m = -1) ∧ ∃ w1, low ≤ w1 ∧ w1 < v ∧ gmMv w1 i n m = b ∧ ∀ w, w1 < w → w < v → gmMv w i n m = -1)
section gfZ
variable {cs i n m low high v a b : Int}
theorem gmMv_p (hn : 0 < n) (w : Int) : (w < i ∧ gmMv w i n m = w) ∨ (i ≤ w ∧ w + n < m ∧ gmMv w i n m = w + n) ∨ (i ≤ w ∧ m ≤ w + n ∧ gmMv w i n m = -1) := by
  unfold gmMv
  rw [if_pos hn]
  by_cases y : w < i
  · exact Or.inl ⟨y, if_pos y⟩
  · rw [if_neg y]
    by_cases z : w + n < m
    · exact Or.inr (Or.inl ⟨by omega, z, if_pos z⟩)
    · exact Or.inr (Or.inr ⟨by omega, by omega, if_neg z⟩)
theorem gmMv_n (hn : n < 0) (w : Int) : (w < i ∧ gmMv w i n m = w) ∨ (i ≤ w ∧ w < i - n ∧ gmMv w i n m = -1) ∨ (i - n ≤ w ∧ gmMv w i n m = w + n) := by
  unfold gmMv
  rw [if_neg (by omega)]
  by_cases y : w < i
  · exact Or.inl ⟨y, if_pos y⟩
  · rw [if_neg y]
    by_cases z : w < i - n
    · exact Or.inr (Or.inl ⟨by omega, z, if_pos z⟩)
    · exact Or.inr (Or.inr ⟨by omega, if_neg z⟩)
theorem gFoA_0 : gFoA i n m low low (-1) (-1) := Or.inl ⟨rfl, rfl, fun w h1 h2 => absurd h1 (by omega)⟩
theorem gFoA_n (h : gFoA i n m low v a b) (e : gmMv v i n m = -1) : gFoA i n m low (v + 1) a b := by
  rcases h with ⟨h1, h2, h3⟩ | ⟨h1, h2, ⟨w0, a1, a2, a3, a4⟩, w1, b1, b2, b3, b4⟩
  · refine Or.inl ⟨h1, h2, fun w c1 c2 => ?_⟩
    by_cases y : w = v
    · rw [y]; exact e
    · exact h3 w c1 (by omega)
  · refine Or.inr ⟨h1, h2, ⟨w0, a1, by omega, a3, a4⟩, w1, b1, by omega, b3, fun w c1 c2 => ?_⟩
    by_cases y : w = v
    · rw [y]; exact e
    · exact b4 w c1 (by omega)
theorem gFoA_s (h : gFoA i n m low v a b) (hv : low ≤ v) (e : 0 ≤ gmMv v i n m) : gFoA i n m low (v + 1) (if 0 ≤ a then a else gmMv v i n m) (gmMv v i n m) := by
  rcases h with ⟨h1, h2, h3⟩ | ⟨h1, h2, ⟨w0, a1, a2, a3, a4⟩, w1, b1, b2, b3, b4⟩
  · rw [if_neg (by omega)]
    exact Or.inr ⟨e, e, ⟨v, hv, by omega, rfl, fun w c1 c2 => h3 w c1 c2⟩, v, hv, by omega, rfl, fun w c1 c2 => absurd c1 (by omega)⟩
  · rw [if_pos h1]
    exact Or.inr ⟨h1, e, ⟨w0, a1, by omega, a3, a4⟩, v, hv, by omega, rfl, fun w c1 c2 => absurd c1 (by omega)⟩
theorem gFoA_e (hi : 0 ≤ i) (hm : i < m) (hn : 0 < n ∨ n < 0) (hl : 0 ≤ low) (hlh : low ≤ high) (hh : high < m) (h : gFoA i n m low (high + 1) a b) : (a = -1 ∧ gFla i n m high < gFf i n low) ∨ (0 ≤ a ∧ ¬ gFla i n m high < gFf i n low ∧ a = gFf i n low ∧ (if 0 < n ∧ gmMv high i n m < 0 then m - 1 else b) = gFla i n m high) := by
  rcases hn with hn | hn
  · have ml := gmMv_p (i := i) (m := m) hn low
    have mh := gmMv_p (i := i) (m := m) hn high
    rcases h with ⟨h1, h2, h3⟩ | ⟨h1, h2, ⟨w0, a1, a2, a3, a4⟩, w1, b1, b2, b3, b4⟩
    · left
      have e1 := h3 low (Int.le_refl _) (by omega)
      refine ⟨h1, ?_⟩
      unfold gFla gFf
      rcases ml with y | y | y
      · omega
      · omega
      · rw [if_neg (show ¬ high < i by omega), if_neg (show ¬ low < i by omega), if_pos hn, if_pos hn]; omega
    · right
      have m0 := gmMv_p (i := i) (m := m) hn w0
      have m1 := gmMv_p (i := i) (m := m) hn w1
      have e0 : w0 = low := by
        rcases Int.lt_or_le low w0 with c | c
        · have := a4 low (Int.le_refl _) c
          rcases ml with y | y | y
          · omega
          · omega
          · rcases m0 with z | z | z <;> omega
        · omega
      subst e0
      have eF : gFf i n w0 = a := by
        unfold gFf
        rcases m0 with z | z | z
        · rw [if_pos z.1]; omega
        · rw [if_neg (by omega), if_pos hn]; omega
        · omega
      have eL : (if 0 < n ∧ gmMv high i n m < 0 then m - 1 else b) = gFla i n m high := by
        unfold gFla
        rcases mh with z | z | z
        · have c : w1 = high := by
            rcases Int.lt_or_le w1 high with c | c
            · have := b4 high c (by omega); omega
            · omega
          subst c
          rw [if_neg (by omega), if_pos z.1]; omega
        · have c : w1 = high := by
            rcases Int.lt_or_le w1 high with c | c
            · have := b4 high c (by omega); omega
            · omega
          subst c
          rw [if_neg (by omega), if_neg (by omega), if_pos hn]; omega
        · rw [if_pos (by omega), if_neg (by omega), if_pos hn]; omega
      refine ⟨h1, ?_, eF.symm, eL⟩
      rw [eF]
      unfold gFla
      rcases mh with z | z | z
      · rw [if_pos z.1]
        rcases m0 with y | y | y <;> omega
      · rw [if_neg (by omega), if_pos hn]
        rcases m0 with y | y | y <;> omega
      · rw [if_neg (by omega), if_pos hn]
        rcases m0 with y | y | y <;> omega
  · have ml := gmMv_n (i := i) (m := m) hn low
    have mh := gmMv_n (i := i) (m := m) hn high
    have nn : ¬ 0 < n := by omega
    rcases h with ⟨h1, h2, h3⟩ | ⟨h1, h2, ⟨w0, a1, a2, a3, a4⟩, w1, b1, b2, b3, b4⟩
    · left
      have e1 := h3 low (Int.le_refl _) (by omega)
      have e2 := h3 high hlh (by omega)
      refine ⟨h1, ?_⟩
      unfold gFla gFf
      rcases ml with y | y | y
      · omega
      · rcases mh with z | z | z
        · omega
        · rw [if_neg (show ¬ high < i by omega), if_neg (show ¬ low < i by omega), if_neg nn, if_neg nn]; omega
        · omega
      · omega
    · right
      have m0 := gmMv_n (i := i) (m := m) hn w0
      have m1 := gmMv_n (i := i) (m := m) hn w1
      have mi := gmMv_n (i := i) (m := m) hn (i - n)
      have mj := gmMv_n (i := i) (m := m) hn (i - 1)
      have ei : gmMv (i - n) i n m = i := by rcases mi with y | y | y <;> omega
      have ej : gmMv (i - 1) i n m = i - 1 := by rcases mj with y | y | y <;> omega
      clear mi mj
      have eF : a = gFf i n low := by
        unfold gFf
        rcases ml with y | y | y
        · rw [if_pos y.1]
          rcases Int.lt_or_le low w0 with c | c
          · have := a4 low (Int.le_refl _) c; omega
          · have : w0 = low := by omega
            rw [← a3, this]; exact y.2
        · rw [if_neg (by omega), if_neg nn]
          rcases Int.lt_or_le (i - n) w0 with c | c
          · have := a4 (i - n) (by omega) c; omega
          · rcases m0 with z | z | z
            · omega
            · omega
            · have : w0 = i - n := by omega
              rw [← a3, this, ei]; omega
        · rw [if_neg (by omega), if_neg nn]
          rcases Int.lt_or_le low w0 with c | c
          · have := a4 low (Int.le_refl _) c; omega
          · have : w0 = low := by omega
            rw [← a3, this, y.2]; omega
      have eL : b = gFla i n m high := by
        unfold gFla
        rcases mh with y | y | y
        · rw [if_pos y.1]
          rcases Int.lt_or_le w1 high with c | c
          · have := b4 high c (by omega); omega
          · have : w1 = high := by omega
            rw [← b3, this]; exact y.2
        · rw [if_neg (by omega), if_neg nn]
          rcases m1 with z | z | z
          · rcases Int.lt_or_le w1 (i - 1) with c | c
            · have := b4 (i - 1) c (by omega); omega
            · have : w1 = i - 1 := by omega
              rw [← b3, this, ej]; omega
          · omega
          · omega
        · rw [if_neg (by omega), if_neg nn]
          rcases Int.lt_or_le w1 high with c | c
          · have := b4 high c (by omega); omega
          · have : w1 = high := by omega
            rw [← b3, this, y.2]; omega
      refine ⟨h1, ?_, eF, by rw [if_neg (fun q => nn q.1)]; exact eL⟩
      rw [← eF, ← eL]
      have le : w0 ≤ w1 := by
        rcases Int.lt_or_le w1 w0 with c | c
        · have := a4 w1 b1 c; omega
        · exact c
      rcases m0 with y | y | y
      · rcases m1 with z | z | z <;> omega
      · omega
      · rcases m1 with z | z | z <;> omega
end gfZ
