/-! Lines that come and go: where places come to be. -/
def gFf (i n v : Int) : Int := if v < i then v else if 0 < n then v + n else max (v + n) i
def gFla (i n m v : Int) : Int := if v < i then v else if 0 < n then min (v + n) (m - 1) else max (v + n) (i - 1)
def gFm (cs : Int) : Int := if cs = 0 then 200 else 26
/-- where a place comes to be -/
def gFp (cs i n p : Int) : Int := if p = -1 then -1 else gmWi p cs (gmMv (gmCo p cs) i n (gFm cs))
/-- the two corners of a range: the one asked for is x, the other y; f: x is the first of them -/
def gFrg (cs i n : Int) (x y : Int) (f : Bool) : Int := if x = -1 then -1 else if gFla i n (gFm cs) (max (gmCo x cs) (gmCo y cs)) < gFf i n (min (gmCo x cs) (gmCo y cs)) then -1 else gmWi x cs (if (f = true ∧ gmCo x cs ≤ gmCo y cs) ∨ (f = false ∧ gmCo x cs < gmCo y cs) then gFf i n (min (gmCo x cs) (gmCo y cs)) else gFla i n (gFm cs) (max (gmCo x cs) (gmCo y cs)))
noncomputable def gFoN (S tg : List Int) (cs i n : Int) (k : Nat) : Int := if gCor S k = 1 then gFrg cs i n (gTt tg k) (gTt tg (k + 1)) true else if gCor S k = 2 then gFrg cs i n (gTt tg k) (gTt tg (k - 1)) false else gFp cs i n (gTt tg k)
noncomputable def gFoT (S tg : List Int) (cs i n : Int) : List Int := (List.range tg.length).map (gFoN S tg cs i n)
noncomputable def gFoC (x : Option (List Int × List Int)) (cs i n : Int) : Option (List Int × List Int) := x.map (fun y => (y.1, gFoT y.1 y.2 cs i n))
/-- the sheet behind it -/
noncomputable def gShft (F : gSht) (cs i n : Int) : gSht := fun q => @dite _ (∃ p : Nat, F p ≠ none ∧ gFp cs i n p = (q : Int)) (Classical.propDecidable _) (fun h => gFoC (F h.choose) cs i n) (fun _ => none)
/-- what may be asked for -/
def gLin (cs i n : Int) : Prop := (cs = 0 ∨ cs = 1) ∧ 0 ≤ i ∧ i < gFm cs ∧ (0 < n ∧ n ≤ 50 ∨ n < 0 ∧ -50 ≤ n)
section gfR
variable {cs i n : Int} {F : gSht} {S tg : List Int}
theorem gFoT_l : (gFoT S tg cs i n).length = tg.length := by unfold gFoT; rw [List.length_map, List.length_range]
theorem gFoT_t {k : Nat} (h : k < tg.length) : gTt (gFoT S tg cs i n) k = gFoN S tg cs i n k := by
  unfold gTt gFoT
  rw [List.getD_eq_getElem?_getD, List.getElem?_map, List.getElem?_range h]
  rfl
theorem gmCo_m {p : Int} (hc : cs = 0 ∨ cs = 1) (hp : 0 ≤ p ∧ p < 5200) : 0 ≤ gmCo p cs ∧ gmCo p cs < gFm cs := by
  unfold gmCo gFm
  rcases hc with y | y <;> subst y
  · rw [if_pos rfl, if_pos rfl]; omega
  · rw [if_neg (by decide), if_neg (by decide)]; omega
theorem gFm_c (hc : cs = 0 ∨ cs = 1) : gFm cs = 200 ∨ gFm cs = 26 := by
  unfold gFm
  rcases hc with y | y <;> subst y
  · exact Or.inl rfl
  · exact Or.inr rfl
theorem gmWi_bd {p v : Int} (hc : cs = 0 ∨ cs = 1) (hp : 0 ≤ p ∧ p < 5200) (hv : 0 ≤ v ∧ v < gFm cs) : 0 ≤ gmWi p cs v ∧ gmWi p cs v < 5200 := by
  unfold gmWi
  unfold gFm at hv
  rw [if_neg (by omega)]
  rcases hc with y | y <;> subst y
  · rw [if_pos rfl] at hv ⊢; omega
  · rw [if_neg (by decide)] at hv ⊢; omega
theorem gmMv_f {v m : Int} (hn : n ≠ 0) : gmMv v i n m = if gFla i n m v < gFf i n v then -1 else gFf i n v := by
  unfold gmMv gFla gFf
  by_cases y : v < i
  · simp only [if_pos y]
    rw [if_neg (Int.lt_irrefl v)]
    split <;> rfl
  · rw [if_neg y, if_neg y, if_neg y, if_neg y]
    by_cases z : 0 < n
    · rw [if_pos z, if_pos z, if_pos z]
      by_cases w : v + n < m
      · rw [if_pos w, if_neg (by omega)]
      · rw [if_neg w, if_pos (by omega)]
    · rw [if_neg z, if_neg z, if_neg z]
      by_cases w : v < i - n
      · rw [if_pos w, if_pos (by omega)]
      · rw [if_neg w, if_neg (by omega)]; omega
theorem gFlf_bd (h : gLin cs i n) {u v : Int} (hu : 0 ≤ u ∧ u ≤ v) (hv : v < gFm cs) (hw : gFf i n u ≤ gFla i n (gFm cs) v) : (0 ≤ gFf i n u ∧ gFf i n u < gFm cs) ∧ 0 ≤ gFla i n (gFm cs) v ∧ gFla i n (gFm cs) v < gFm cs := by
  obtain ⟨h1, h2, h3, h4⟩ := h
  unfold gFla gFf at *
  by_cases y : u < i
  · rw [if_pos y] at hw ⊢
    by_cases z : v < i
    · rw [if_pos z] at hw ⊢; omega
    · rw [if_neg z] at hw ⊢
      by_cases w : 0 < n
      · rw [if_pos w] at hw ⊢; omega
      · rw [if_neg w] at hw ⊢; omega
  · rw [if_neg y] at hw ⊢
    rw [if_neg (show ¬ v < i by omega)] at hw ⊢
    by_cases w : 0 < n
    · rw [if_pos w, if_pos w] at hw ⊢; omega
    · rw [if_neg w, if_neg w] at hw ⊢; omega
theorem gFp_bd (h : gLin cs i n) {p : Int} (hp : p = -1 ∨ 0 ≤ p ∧ p < 5200) : gFp cs i n p = -1 ∨ 0 ≤ gFp cs i n p ∧ gFp cs i n p < 5200 := by
  unfold gFp
  by_cases y : p = -1
  · rw [if_pos y]; exact Or.inl rfl
  · rw [if_neg y, gmMv_f (by have := h.2.2.2; omega)]
    have c := gmCo_m h.1 (show 0 ≤ p ∧ p < 5200 by omega)
    split
    · exact Or.inl rfl
    · rename_i z
      exact Or.inr (gmWi_bd h.1 (by omega) (gFlf_bd h ⟨c.1, Int.le_refl _⟩ c.2 (by omega)).1)
theorem gFrg_bd (h : gLin cs i n) {x y : Int} {f : Bool} (hx : x = -1 ∨ 0 ≤ x ∧ x < 5200) (hy : x ≠ -1 → 0 ≤ y ∧ y < 5200) : gFrg cs i n x y f = -1 ∨ 0 ≤ gFrg cs i n x y f ∧ gFrg cs i n x y f < 5200 := by
  unfold gFrg
  by_cases e : x = -1
  · rw [if_pos e]; exact Or.inl rfl
  · rw [if_neg e]
    have c1 := gmCo_m h.1 (show 0 ≤ x ∧ x < 5200 by omega)
    have c2 := gmCo_m h.1 (hy e)
    split
    · exact Or.inl rfl
    · rename_i z
      have b := gFlf_bd h (u := min (gmCo x cs) (gmCo y cs)) (v := max (gmCo x cs) (gmCo y cs)) (by omega) (by omega) (by omega)
      refine Or.inr (gmWi_bd h.1 (by omega) ?_)
      split
      · exact b.1
      · exact b.2
/-- the two corners go together -/
theorem gFrg_p (h : gLin cs i n) {x y : Int} (hx : 0 ≤ x ∧ x < 5200) (hy : 0 ≤ y ∧ y < 5200) : gFrg cs i n x y true = -1 ↔ gFrg cs i n y x false = -1 := by
  have c1 := gmCo_m h.1 hx
  have c2 := gmCo_m h.1 hy
  unfold gFrg
  rw [if_neg (show ¬ x = -1 by omega), if_neg (show ¬ y = -1 by omega)]
  rw [show max (gmCo y cs) (gmCo x cs) = max (gmCo x cs) (gmCo y cs) by omega, show min (gmCo y cs) (gmCo x cs) = min (gmCo x cs) (gmCo y cs) by omega]
  by_cases z : gFla i n (gFm cs) (max (gmCo x cs) (gmCo y cs)) < gFf i n (min (gmCo x cs) (gmCo y cs))
  · rw [if_pos z, if_pos z]
  · rw [if_neg z, if_neg z]
    have b := gFlf_bd h (u := min (gmCo x cs) (gmCo y cs)) (v := max (gmCo x cs) (gmCo y cs)) (by omega) (by omega) (by omega)
    have w : ∀ (P : Prop) (_ : Decidable P), 0 ≤ (if P then gFf i n (min (gmCo x cs) (gmCo y cs)) else gFla i n (gFm cs) (max (gmCo x cs) (gmCo y cs))) ∧ (if P then gFf i n (min (gmCo x cs) (gmCo y cs)) else gFla i n (gFm cs) (max (gmCo x cs) (gmCo y cs))) < gFm cs := fun P _ => by
      split
      · exact b.1
      · exact b.2
    have b1 := gmWi_bd h.1 hx (w ((true = true ∧ gmCo x cs ≤ gmCo y cs) ∨ (true = false ∧ gmCo x cs < gmCo y cs)) inferInstance)
    have b2 := gmWi_bd h.1 hy (w ((false = true ∧ gmCo y cs ≤ gmCo x cs) ∨ (false = false ∧ gmCo y cs < gmCo x cs)) inferInstance)
    constructor
    · intro q; omega
    · intro q; omega
theorem gFoN_bd (h : gLin cs i n) (ok : gCok S tg) {k : Nat} (hk : k < tg.length) : gFoN S tg cs i n k = -1 ∨ 0 ≤ gFoN S tg cs i n k ∧ gFoN S tg cs i n k < 5200 := by
  obtain ⟨_, _, _, _, k5, k6⟩ := ok
  unfold gFoN
  rcases k6 k hk with y | ⟨y1, y2, y3, y4⟩ | ⟨y1, y2, y3⟩
  · rw [if_neg (by omega), if_neg (by omega)]
    exact gFp_bd h (k5 k hk)
  · rw [if_pos y1]
    have := k5 (k + 1) y2
    exact gFrg_bd h (k5 k hk) (fun z => by have : gTt tg (k + 1) ≠ -1 := fun q => z (y4.mpr q); omega)
  · rw [if_neg (by omega), if_pos y1]
    refine gFrg_bd h (k5 k hk) (fun z => ?_)
    have := k5 (k - 1) (by omega)
    rcases k6 (k - 1) (by omega) with w | ⟨_, _, _, w⟩ | ⟨w, _⟩
    · omega
    · rw [show k - 1 + 1 = k by omega] at w
      have : gTt tg (k - 1) ≠ -1 := fun q => z (w.mp q)
      omega
    · omega
theorem gCok.fo (h : gLin cs i n) (ok : gCok S tg) : gCok S (gFoT S tg cs i n) := by
  have bd := fun k (hk : k < tg.length) => gFoN_bd h ok hk
  obtain ⟨h1, h2, h3, h4, h5, h6⟩ := ok
  refine ⟨h1, h2, h3, by rw [gFoT_l]; exact h4, fun k hk => ?_, fun k hk => ?_⟩
  · rw [gFoT_l] at hk
    rw [gFoT_t hk]
    exact bd k hk
  · rw [gFoT_l] at hk ⊢
    rcases h6 k hk with y | ⟨y1, y2, y3, y4⟩ | y
    · exact Or.inl y
    · refine Or.inr (Or.inl ⟨y1, y2, y3, ?_⟩)
      rw [gFoT_t hk, gFoT_t y2]
      unfold gFoN
      rw [if_pos y1, if_neg (by omega), if_pos y3, Nat.add_sub_cancel]
      by_cases z : gTt tg k = -1
      · have z2 := y4.mp z
        unfold gFrg
        rw [if_pos z, if_pos z2]
      · have z2 : gTt tg (k + 1) ≠ -1 := fun q => z (y4.mpr q)
        have a1 := h5 k hk
        have a2 := h5 (k + 1) y2
        exact gFrg_p h (by omega) (by omega)
    · exact Or.inr (Or.inr y)
theorem gFp_mono (h : gLin cs i n) {p q : Int} (hp : 0 ≤ p ∧ p < q) (hq : q < 5200) (h1 : gFp cs i n p ≠ -1) (h2 : gFp cs i n q ≠ -1) : gFp cs i n p < gFp cs i n q := by
  obtain ⟨hc, hi, hi2, hn⟩ := h
  unfold gFp gmMv gmWi gmCo gFm at *
  rw [if_neg (by omega)] at h1 h2 ⊢
  rw [if_neg (show ¬ q = -1 by omega)] at ⊢
  rcases hc with y | y
  · subst y
    simp only [if_true] at h1 h2 ⊢
    by_cases z : 0 < n
    · simp only [if_pos z] at h1 h2 ⊢
      split at h1 <;> split at h2 <;> (repeat' split at h1) <;> (repeat' split at h2) <;> (repeat' split) <;> omega
    · simp only [if_neg z] at h1 h2 ⊢
      split at h1 <;> split at h2 <;> (repeat' split at h1) <;> (repeat' split at h2) <;> (repeat' split) <;> omega
  · subst y
    simp only [show ¬ ((1 : Int) = 0) by decide, if_false] at h1 h2 ⊢
    by_cases z : 0 < n
    · simp only [if_pos z] at h1 h2 ⊢
      split at h1 <;> split at h2 <;> (repeat' split at h1) <;> (repeat' split at h2) <;> (repeat' split) <;> omega
    · simp only [if_neg z] at h1 h2 ⊢
      split at h1 <;> split at h2 <;> (repeat' split at h1) <;> (repeat' split at h2) <;> (repeat' split) <;> omega
end gfR
