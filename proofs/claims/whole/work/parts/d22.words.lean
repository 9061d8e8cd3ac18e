/-! Words: the kinds as the reference tells them apart. -/
def gDig (b : Int) : Prop := 48 ≤ b ∧ b ≤ 57
theorem gNumA_dig : ∀ (t : List Int) (v z : Int), gNumA t v = some z → ∀ x ∈ t, gDig x := by
  intro t
  induction t with
  | nil => intro v z _ x hx; cases hx
  | cons y t ih =>
    intro v z h x hx
    unfold gNumA at h
    split at h
    · rename_i hd
      split at h
      · cases h
      · rcases List.mem_cons.1 hx with e | e
        · rw [e]; unfold gDig; omega
        · exact ih _ _ h x e
    · cases h
theorem gNum_dig {b : List Int} {z : Int} (h : gNum b = some z) (h0 : b.getD 0 0 ≠ 45) : b ≠ [] ∧ ∀ x ∈ b, gDig x := by
  cases b with
  | nil => cases h
  | cons y r =>
    have hy : y ≠ 45 := h0
    unfold gNum at h
    dsimp only at h
    rw [if_neg hy] at h
    cases hq : gNumA (y :: r) 0 with
    | none => rw [hq] at h; cases h
    | some v => exact ⟨(by intro q; cases q), gNumA_dig _ _ _ hq⟩
/-- digits read on from r -/
def gDec : List Int → Int → Int
  | [], r => r
  | x :: t, r => gDec t (r * 10 + x - 48)
theorem gNumA_st {x v : Int} {t : List Int} (hx : gDig x) (hv : -900000000000000000 ≤ v ∧ v ≤ 0) : gNumA (x :: t) v = gNumA t (v * 10 - (x - 48)) := by
  unfold gDig at hx
  show (if 48 ≤ x ∧ x ≤ 57 then (if v * 10 - (x - 48) < -9223372036854775808 then none else gNumA t (v * 10 - (x - 48))) else none) = _
  rw [if_pos hx, if_neg (by omega)]
theorem gNum_neg {x v : Int} {t : List Int} (hx : gDig x) (h : gNumA (x :: t) 0 = some v) (hv : v ≠ -9223372036854775808) : gNum (x :: t) = some (-v) := by
  unfold gDig at hx
  unfold gNum
  dsimp only
  rw [if_neg (by omega), h]
  dsimp only
  rw [if_neg hv]
/-- three digits at most -/
theorem gNum_dec {t : List Int} (hd : ∀ x ∈ t, gDig x) (h0 : t ≠ []) (hl : t.length ≤ 3) : gNum t = some (gDec t 0) := by
  match t, hd, h0, hl with
  | [], _, h0, _ => exact absurd rfl h0
  | [x], hd, _, _ =>
    have hx := hd x List.mem_cons_self
    have hx2 := hx
    unfold gDig at hx2
    rw [gNum_neg (v := 0 * 10 - (x - 48)) hx (by rw [gNumA_st hx ⟨by decide, by decide⟩]; rfl) (by omega)]
    show some _ = some (0 * 10 + x - 48)
    rw [show -(0 * 10 - (x - 48)) = 0 * 10 + x - 48 by omega]
  | [x, y], hd, _, _ =>
    have hx := hd x List.mem_cons_self
    have hy := hd y (List.mem_cons_of_mem _ List.mem_cons_self)
    have hx2 := hx
    have hy2 := hy
    unfold gDig at hx2 hy2
    rw [gNum_neg (v := (0 * 10 - (x - 48)) * 10 - (y - 48)) hx (by rw [gNumA_st hx ⟨by decide, by decide⟩, gNumA_st hy ⟨by omega, by omega⟩]; rfl) (by omega)]
    show some _ = some ((0 * 10 + x - 48) * 10 + y - 48)
    rw [show -((0 * 10 - (x - 48)) * 10 - (y - 48)) = (0 * 10 + x - 48) * 10 + y - 48 by omega]
  | [x, y, z], hd, _, _ =>
    have hx := hd x List.mem_cons_self
    have hy := hd y (List.mem_cons_of_mem _ List.mem_cons_self)
    have hz := hd z (List.mem_cons_of_mem _ (List.mem_cons_of_mem _ List.mem_cons_self))
    have hx2 := hx
    have hy2 := hy
    have hz2 := hz
    unfold gDig at hx2 hy2 hz2
    rw [gNum_neg (v := ((0 * 10 - (x - 48)) * 10 - (y - 48)) * 10 - (z - 48)) hx (by rw [gNumA_st hx ⟨by decide, by decide⟩, gNumA_st hy ⟨by omega, by omega⟩, gNumA_st hz ⟨by omega, by omega⟩]; rfl) (by omega)]
    show some _ = some (((0 * 10 + x - 48) * 10 + y - 48) * 10 + z - 48)
    rw [show -(((0 * 10 - (x - 48)) * 10 - (y - 48)) * 10 - (z - 48)) = ((0 * 10 + x - 48) * 10 + y - 48) * 10 + z - 48 by omega]
  | _ :: _ :: _ :: _ :: _, _, _, hl => exact absurd hl (by show ¬ _ + 1 + 1 + 1 + 1 ≤ 3; omega)
section gdW
variable {S : List Int} {p q : Nat}
theorem gSbs_mem (hq : q ≤ S.length) {x : Int} (hx : x ∈ gSbs S p q) : ∃ j, p ≤ j ∧ j < q ∧ x = S.getD j 0 := by
  obtain ⟨i, hi, e⟩ := List.getElem_of_mem hx
  have hi2 := hi
  rw [gSbs_len hq] at hi2
  refine ⟨p + i, by omega, by omega, ?_⟩
  rw [← gSbs_get hq hi2, List.getD_eq_getElem?_getD, List.getElem?_eq_getElem hi, ← e]
  rfl
theorem gSbs_mem2 (hq : q ≤ S.length) {j : Nat} (h1 : p ≤ j) (h2 : j < q) : S.getD j 0 ∈ gSbs S p q := by
  have hi : j - p < (gSbs S p q).length := by rw [gSbs_len hq]; omega
  have e := gSbs_get (S := S) (p := p) (q := q) (j := j - p) hq (by omega)
  rw [show p + (j - p) = j by omega, List.getD_eq_getElem?_getD, List.getElem?_eq_getElem hi] at e
  rw [← e]
  exact List.getElem_mem _
theorem gSbs_0 (hq : q ≤ S.length) (h : p < q) : (gSbs S p q).getD 0 0 = S.getD p 0 := gSbs_get (j := 0) hq (by omega)
/-- a word is a number only if it is digits -/
theorem gNum_all (hq : q ≤ S.length) (hp : p < q) (h45 : S.getD p 0 ≠ 45) (h : ¬ gAll gDig S p q) : gNum (gSbs S p q) = none := by
  cases hn : gNum (gSbs S p q) with
  | none => rfl
  | some z =>
    have := gNum_dig hn (by rw [gSbs_0 hq hp]; exact h45)
    exact absurd (fun j h1 h2 => this.2 _ (gSbs_mem2 hq h1 h2)) h
theorem gWd_dig (hq : q ≤ S.length) (hp : p < q) (hA : gAll gDig S p q) : gWd S p q = if (gNum (gSbs S p q)).isSome = true then 17 else 24 := by
  have h0 := hA p (Nat.le_refl _) hp
  unfold gDig at h0
  have ea : gPa S p = p := by unfold gPa; rw [if_neg (by omega)]
  have e1 : gPl S p q = -1 := by
    unfold gPl
    rw [ea, if_pos (Or.inr (by unfold gCap; omega))]
  unfold gWd
  rw [e1, if_neg (by decide), if_neg (c := gAll gCap S p q ∧ 2 ≤ q - p ∧ q - p ≤ 12) (fun y => by have := y.1 p (Nat.le_refl _) hp; unfold gCap at this; omega)]
theorem gWd_cap (hq : q ≤ S.length) (h2 : 2 ≤ q - p) (hA : gAll gCap S p q) : gWd S p q = if q - p ≤ 12 then (if gSbs S p q = [84, 82, 85, 69] then 21 else if gSbs S p q = [70, 65, 76, 83, 69] then 22 else 20) else 24 := by
  have hp : p < q := by omega
  have h0 := hA p (Nat.le_refl _) hp
  have h1 := hA (p + 1) (by omega) (by omega)
  unfold gCap at h0 h1
  have ea : gPa S p = p := by unfold gPa; rw [if_neg (by omega)]
  have eb : gPb S p q = p + 1 := by unfold gPb; rw [ea, if_neg (by omega)]
  have en1 : gNum (gSbs S (p + 1) q) = none := gNum_all hq (by omega) (by omega) (fun y => by have := y (p + 1) (Nat.le_refl _) (by omega); unfold gDig at this; omega)
  have en0 : gNum (gSbs S p q) = none := gNum_all hq hp (by omega) (fun y => by have := y p (Nat.le_refl _) hp; unfold gDig at this; omega)
  have e1 : gPl S p q = -1 := by
    unfold gPl
    rw [ea, eb, en1]
    split
    · rfl
    · split <;> rfl
  unfold gWd
  rw [e1, if_neg (by decide), en0, if_neg (by decide)]
  by_cases h12 : q - p ≤ 12
  · rw [if_pos ⟨hA, h2, h12⟩, if_pos h12]
  · rw [if_neg (c := gAll gCap S p q ∧ 2 ≤ q - p ∧ q - p ≤ 12) (fun y => h12 y.2.2), if_neg h12]
theorem gWd_ref (hq : q ≤ S.length) (hp : p < q) (hW : gAll gWb S p q) (h1 : ¬ gAll gDig S p q) (h2 : ¬ (gAll gCap S p q ∧ 2 ≤ q - p)) : gWd S p q = if 0 ≤ gPl S p q then 19 else 24 := by
  have h0 := hW p (Nat.le_refl _) hp
  unfold gWb gCap at h0
  have en0 : gNum (gSbs S p q) = none := gNum_all hq hp (by omega) h1
  unfold gWd
  rw [en0, if_neg (c := (none : Option Int).isSome = true) (by decide), if_neg (c := gAll gCap S p q ∧ 2 ≤ q - p ∧ q - p ≤ 12) (fun y => h2 ⟨y.1, y.2.1⟩)]
end gdW
