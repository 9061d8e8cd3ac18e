/-! Contents moved; how many cells the ranges of a sheet have. -/
/-- where a target comes to be -/
def gMv1 (t f a b : Int) : Int := if t = -1 then -1 else if 0 ≤ t % 26 + (if f % 2 = 0 then a else 0) ∧ t % 26 + (if f % 2 = 0 then a else 0) < 26 ∧ 0 ≤ t / 26 + (if f < 2 then b else 0) ∧ t / 26 + (if f < 2 then b else 0) < 200 then t % 26 + (if f % 2 = 0 then a else 0) + 26 * (t / 26 + (if f < 2 then b else 0)) else -1
theorem gMv1_bd (t f a b : Int) : gMv1 t f a b = -1 ∨ 0 ≤ gMv1 t f a b ∧ gMv1 t f a b < 5200 := by
  unfold gMv1
  generalize t % 26 + (if f % 2 = 0 then a else 0) = x
  generalize t / 26 + (if f < 2 then b else 0) = y
  split
  · exact Or.inl rfl
  · split
    · right; omega
    · exact Or.inl rfl
noncomputable def gFxd (S : List Int) (k : Nat) : Int := ((gRefs S).getD k (0, 0, 0)).2.1
noncomputable def gMvI (S tg : List Int) (a b : Int) (i : Nat) : Int := gMv1 (gTt tg i) (gFxd S i) a b
noncomputable def gMvN (S tg : List Int) (a b : Int) (i : Nat) : Int := if (gCor S i = 1 ∧ gMvI S tg a b (i + 1) = -1) ∨ (gCor S i = 2 ∧ gMvI S tg a b (i - 1) = -1) then -1 else gMvI S tg a b i
noncomputable def gMvT (S tg : List Int) (a b : Int) : List Int := (List.range tg.length).map (gMvN S tg a b)
noncomputable def gMvC (x : Option (List Int × List Int)) (a b : Int) : Option (List Int × List Int) := x.map (fun y => (y.1, gMvT y.1 y.2 a b))
def gIn4 (c r d s q : Nat) : Prop := c ≤ q % 26 ∧ q % 26 ≤ d ∧ r ≤ q / 26 ∧ q / 26 ≤ s
/-- x, as it stands at p, written into a box -/
noncomputable def gWrt (F : gSht) (x : Option (List Int × List Int)) (p c r d s : Nat) : gSht := fun q => @ite _ (gIn4 c r d s q) (Classical.propDecidable _) (gMvC x ((q % 26 : Nat) - (p % 26 : Nat) : Int) ((q / 26 : Nat) - (p / 26 : Nat) : Int)) (F q)
noncomputable def gRs1 (S tg : List Int) : Nat → Int
  | 0 => 0
  | n + 1 => gRs1 S tg n + (if gCor S n = 1 ∧ gTt tg n ≠ -1 then gmSz (gTt tg n) (gTt tg (n + 1)) else 0)
/-- how many cells the ranges have, of places before p -/
noncomputable def gRsF (F : gSht) : Nat → Int
  | 0 => 0
  | p + 1 => gRsF F p + (match F p with
    | none => 0
    | some x => gRs1 x.1 x.2 x.2.length)
section gfM
variable {S tg : List Int} {a b : Int} {F : gSht}
theorem gMvT_l : (gMvT S tg a b).length = tg.length := by unfold gMvT; rw [List.length_map, List.length_range]
theorem gMvT_t {i : Nat} (h : i < tg.length) : gTt (gMvT S tg a b) i = gMvN S tg a b i := by
  unfold gTt gMvT
  rw [List.getD_eq_getElem?_getD, List.getElem?_map, List.getElem?_range h]
  rfl
theorem gMvN_bd (i : Nat) : gMvN S tg a b i = -1 ∨ 0 ≤ gMvN S tg a b i ∧ gMvN S tg a b i < 5200 := by
  unfold gMvN
  split
  · exact Or.inl rfl
  · exact gMv1_bd _ _ _ _
theorem gCok.mv (h : gCok S tg) : gCok S (gMvT S tg a b) := by
  obtain ⟨h1, h2, h3, h4, h5, h6⟩ := h
  refine ⟨h1, h2, h3, by rw [gMvT_l]; exact h4, fun k hk => ?_, fun k hk => ?_⟩
  · rw [gMvT_l] at hk
    rw [gMvT_t hk]
    exact gMvN_bd k
  · rw [gMvT_l] at hk ⊢
    rcases h6 k hk with y | ⟨y1, y2, y3, _⟩ | y
    · exact Or.inl y
    · refine Or.inr (Or.inl ⟨y1, y2, y3, ?_⟩)
      rw [gMvT_t hk, gMvT_t y2]
      unfold gMvN
      rw [y1, y3, Nat.add_sub_cancel]
      by_cases u : gMvI S tg a b (k + 1) = -1
      · rw [u]; by_cases v : gMvI S tg a b k = -1
        · simp [v]
        · simp
      · by_cases v : gMvI S tg a b k = -1
        · simp [v]
        · simp [u, v]
    · exact Or.inr (Or.inr y)
theorem gTt_ext {x y : List Int} (hl : x.length = y.length) (h : ∀ i, i < x.length → gTt x i = gTt y i) : x = y := by
  refine List.ext_getElem hl (fun i h1 h2 => ?_)
  have := h i h1
  unfold gTt at this
  rw [List.getD_eq_getElem?_getD, List.getD_eq_getElem?_getD, List.getElem?_eq_getElem h1, List.getElem?_eq_getElem h2] at this
  exact this
theorem gMv1_0 {t f : Int} (h : t = -1 ∨ 0 ≤ t ∧ t < 5200) : gMv1 t f 0 0 = t := by
  unfold gMv1
  have e1 : (if f % 2 = 0 then (0 : Int) else 0) = 0 := by split <;> rfl
  have e2 : (if f < 2 then (0 : Int) else 0) = 0 := by split <;> rfl
  rw [e1, e2]
  by_cases y : t = -1
  · rw [if_pos y]; exact y.symm
  · rw [if_neg y, if_pos (by omega)]; omega
theorem gMvT_0 (h : gCok S tg) : gMvT S tg 0 0 = tg := by
  obtain ⟨h1, h2, h3, h4, h5, h6⟩ := h
  refine gTt_ext gMvT_l (fun i hi => ?_)
  rw [gMvT_l] at hi
  rw [gMvT_t hi]
  have e : ∀ k, k < tg.length → gMvI S tg 0 0 k = gTt tg k := fun k hk => gMv1_0 (h5 k hk)
  unfold gMvN
  rw [e i hi]
  split
  · rename_i y
    rcases y with ⟨y1, y2⟩ | ⟨y1, y2⟩
    · rcases h6 i hi with z | ⟨_, z2, _, z4⟩ | ⟨z, _⟩
      · omega
      · rw [e (i + 1) z2] at y2; exact (z4.mpr y2).symm
      · omega
    · rcases h6 i hi with z | ⟨z, _⟩ | ⟨_, z2, z3⟩
      · omega
      · omega
      · rw [e (i - 1) (by omega)] at y2
        rcases h6 (i - 1) (by omega) with w | ⟨_, _, _, w⟩ | ⟨w, _⟩
        · omega
        · rw [show i - 1 + 1 = i by omega] at w; exact (w.mp y2).symm
        · omega
  · rfl
theorem gRs1_bd (h : gCok S tg) : ∀ n, n ≤ tg.length → 0 ≤ gRs1 S tg n ∧ gRs1 S tg n ≤ 40000 * (n : Int) := by
  obtain ⟨h1, h2, h3, h4, h5, h6⟩ := h
  intro n
  induction n with
  | zero => intro _; exact ⟨Int.le_refl _, Int.le_refl _⟩
  | succ n ih =>
    intro hn
    have i := ih (by omega)
    unfold gRs1
    split
    · rename_i y
      rcases h6 n (by omega) with z | ⟨_, z2, _, z4⟩ | ⟨z, _⟩
      · omega
      · have u := h5 n (by omega)
        have v := h5 (n + 1) z2
        have w : gTt tg (n + 1) ≠ -1 := fun q => y.2 (z4.mpr q)
        have := gmSz_bd (a := gTt tg n) (b := gTt tg (n + 1)) (by omega) (by omega)
        omega
      · omega
    · omega
theorem gRsF_n {p : Nat} (h : F p = none) : gRsF F (p + 1) = gRsF F p := by
  show gRsF F p + _ = _
  rw [h]
  exact Int.add_zero _
theorem gRsF_s {p : Nat} (h : F p = some (S, tg)) : gRsF F (p + 1) = gRsF F p + gRs1 S tg tg.length := by
  show gRsF F p + _ = _
  rw [h]
theorem gRsF_bd (hF : gSok F) : ∀ p, 0 ≤ gRsF F p ∧ gRsF F p ≤ 40000 * (gSp F p : Int) := by
  intro p
  induction p with
  | zero => exact ⟨Int.le_refl _, Int.le_refl _⟩
  | succ p ih =>
    cases e : F p with
    | none => rw [gRsF_n e, gSp_n e]; exact ih
    | some x =>
      have b := gRs1_bd (hF p x.1 x.2 e).2 x.2.length (Nat.le_refl _)
      rw [gRsF_s (S := x.1) (tg := x.2) e, gSp_s (S := x.1) (tg := x.2) e]
      omega
end gfM
theorem gShp2 : ∀ f k : Nat, f < 4 → k < 3 → (gAnd ((f : Int) + 4 * (k : Int)) 1 = 0 ↔ f % 2 = 0) ∧ (gAnd ((f : Int) + 4 * (k : Int)) 2 = 0 ↔ f < 2) ∧ (gAnd ((f : Int) + 4 * (k : Int)) 8 = 0 ↔ k ≠ 2) := by
  have : ∀ f : Nat, f < 4 → ∀ k : Nat, k < 3 → (gAnd ((f : Int) + 4 * (k : Int)) 1 = 0 ↔ f % 2 = 0) ∧ (gAnd ((f : Int) + 4 * (k : Int)) 2 = 0 ↔ f < 2) ∧ (gAnd ((f : Int) + 4 * (k : Int)) 8 = 0 ↔ k ≠ 2) := by decide +kernel
  exact fun f k hf hk => this f hf k hk
theorem gShp3 {f k : Int} (hf : 0 ≤ f ∧ f ≤ 3) (hk : 0 ≤ k ∧ k ≤ 2) : (gAnd (f + 4 * k) 1 = 0 ↔ f % 2 = 0) ∧ (gAnd (f + 4 * k) 2 = 0 ↔ f < 2) ∧ (gAnd (f + 4 * k) 8 = 0 ↔ k ≠ 2) ∧ (gAnd (f + 4 * k) 4 = 0 ↔ k ≠ 1) := by
  have h := gShp2 f.toNat k.toNat (by omega) (by omega)
  have h2 := gShp f.toNat k.toNat (by omega) (by omega)
  rw [show ((f.toNat : Nat) : Int) = f by omega, show ((k.toNat : Nat) : Int) = k by omega] at h h2
  refine ⟨h.1.trans (by omega), h.2.1.trans (by omega), h.2.2.trans (by omega), h2.trans (by omega)⟩
section gfN
variable {l : Launch} {G : gG} {d : Nat} {X : gX} {M : gM} {c r r0 : Nat} {F F2 : gSht}
theorem c_Ed_moved {t f w a b : Int} {k : Int → gM → Prop} (ht : t = -1 ∨ 0 ≤ t ∧ t < 5200) (hf : 0 ≤ f ∧ f ≤ 3) (hw : 0 ≤ w ∧ w ≤ 2) (ha : -30 ≤ a ∧ a ≤ 30) (hb : -200 ≤ b ∧ b ≤ 200) (h : k (gMv1 t f a b) M) : cI l G y_Ed_moved (gRm (d + 1)) false [gI t, gI (f + 4 * w), gI a, gI b] X M k := by
  obtain ⟨s1, s2, _, _⟩ := gShp3 hf hw
  refine e_Ed_moved (w_Ed_moved_0 ⟨by omega, by omega⟩ ⟨by omega, by omega⟩ ⟨by omega, by omega⟩ ⟨by omega, by omega⟩ ⟨fun y => ?_, fun y => by rw [gMv1, if_pos y] at h; exact h⟩)
  rw [gMv1, if_neg y] at h
  have t1 : w32 (t.tmod 26) = t % 26 := by rw [Int.tmod_eq_emod_of_nonneg (by omega)]; exact w32_id ⟨by omega, by omega⟩
  have t2 : t.tdiv 26 = t / 26 := Int.tdiv_eq_ediv_of_nonneg (by omega)
  rw [t1]
  have key : ∀ a2 : Int, a2 = (if f % 2 = 0 then a else 0) → wp l G y_Ed_moved (gRm (d + 1)) false (kkI X k) false 22 [.val (gI t), .val (gI (f + 4 * w)), .unset, .val (gI b), .unset, .unset, .unset] [gI a2, gI (t % 26)] X M 0 0 := by
    intro a2 ea
    rw [← ea] at h
    have ba : -30 ≤ a2 ∧ a2 ≤ 30 := by rw [ea]; split <;> omega
    have e1 : w32 (t % 26 + a2) = t % 26 + a2 := w32_id ⟨by omega, by omega⟩
    have fin : ∀ b2 : Int, b2 = (if f < 2 then b else 0) → (¬ (0 ≤ t % 26 + a2 ∧ t % 26 + a2 < 26 ∧ 0 ≤ t / 26 + b2 ∧ t / 26 + b2 < 200) → k (-1) M) ∧ ((0 ≤ t % 26 + a2 ∧ t % 26 + a2 < 26 ∧ 0 ≤ t / 26 + b2 ∧ t / 26 + b2 < 200) → k (t % 26 + a2 + 26 * (t / 26 + b2)) M) := by
      intro b2 eb
      rw [← eb] at h
      exact ⟨fun z => by rw [if_neg z] at h; exact h, fun z => by rw [if_pos z] at h; exact h⟩
    have bb : ∀ b2 : Int, b2 = (if f < 2 then b else 0) → -200 ≤ b2 ∧ b2 ≤ 200 := fun b2 eb => by rw [eb]; split <;> omega
    have e2 : ∀ b2 : Int, b2 = (if f < 2 then b else 0) → w32 (t / 26 + b2) = t / 26 + b2 := fun b2 eb => by have := bb b2 eb; exact w32_id ⟨by omega, by omega⟩
    refine w_Ed_moved_22 ⟨by omega, by omega⟩ ⟨by omega, by omega⟩ ⟨by omega, by omega⟩ ⟨by omega, by omega⟩ ⟨by omega, by omega⟩ ⟨fun z => ?_, fun z => ?_⟩
    · have eb : b = (if f < 2 then b else 0) := (if_pos (s2.mp z)).symm
      have m := fin b eb
      rw [t2, e1, e2 b eb]
      refine ⟨fun q => w_Ed_moved_72 ⟨by omega, by omega⟩ ⟨by omega, by omega⟩ ⟨fun _ => m.1 (by omega), fun n => absurd rfl n⟩, fun q => ⟨fun q => w_Ed_moved_72 ⟨by omega, by omega⟩ ⟨by omega, by omega⟩ ⟨fun _ => m.1 (by omega), fun n => absurd rfl n⟩, fun q => ⟨fun q => w_Ed_moved_72 ⟨by omega, by omega⟩ ⟨by omega, by omega⟩ ⟨fun _ => m.1 (by omega), fun n => absurd rfl n⟩, fun q => ⟨fun q => w_Ed_moved_72 ⟨by omega, by omega⟩ ⟨by omega, by omega⟩ ⟨fun _ => m.1 (by omega), fun n => absurd rfl n⟩, fun q => ⟨fun n => absurd n (by decide), fun _ => c_GL_place (by unfold gIs; omega) (m.2 (by omega))⟩⟩⟩⟩⟩
    · have eb : (0 : Int) = (if f < 2 then b else 0) := (if_neg (fun q => z (s2.mpr q))).symm
      have m := fin 0 eb
      rw [t2, e1, e2 0 eb]
      refine ⟨fun q => w_Ed_moved_72 ⟨by omega, by omega⟩ ⟨by omega, by omega⟩ ⟨fun _ => m.1 (by omega), fun n => absurd rfl n⟩, fun q => ⟨fun q => w_Ed_moved_72 ⟨by omega, by omega⟩ ⟨by omega, by omega⟩ ⟨fun _ => m.1 (by omega), fun n => absurd rfl n⟩, fun q => ⟨fun q => w_Ed_moved_72 ⟨by omega, by omega⟩ ⟨by omega, by omega⟩ ⟨fun _ => m.1 (by omega), fun n => absurd rfl n⟩, fun q => ⟨fun q => w_Ed_moved_72 ⟨by omega, by omega⟩ ⟨by omega, by omega⟩ ⟨fun _ => m.1 (by omega), fun n => absurd rfl n⟩, fun q => ⟨fun n => absurd n (by decide), fun _ => c_GL_place (by unfold gIs; omega) (m.2 (by omega))⟩⟩⟩⟩⟩
  exact ⟨fun z => key a (if_pos (s1.mp z)).symm, fun z => key 0 (if_neg (fun q => z (s1.mpr q))).symm⟩
theorem c_jMath_abs {x : Int} {k : Int → gM → Prop} (hx : -1000000 < x ∧ x < 1000000) (h : k (x.natAbs : Int) M) : cI l G y_jMath_abs (gRm d) false [gI x] X M k := by
  refine e_jMath_abs (w_jMath_abs_0 ⟨by omega, by omega⟩ ⟨fun y => ?_, fun y => ?_⟩)
  · rw [show (x.natAbs : Int) = x by omega] at h; exact h
  · rw [w32_id (x := -x) ⟨by omega, by omega⟩]
    rw [show (x.natAbs : Int) = -x by omega] at h; exact h
theorem gmSz_abs {x y : Int} : gmSz x y = (((x % 26 - y % 26).natAbs : Int) + 1) * (((x / 26 - y / 26).natAbs : Int) + 1) := by
  unfold gmSz gmCo
  rw [if_neg (by decide), if_neg (by decide), if_pos rfl, if_pos rfl]
  congr 1 <;> omega
theorem c_Ed_rangeCells {p : Nat} {S tg : List Int} {k : Int → gM → Prop} (hX : glX X c) (hs3 : X.2.2 (c + 21) 3 = r ∧ gsX X r) (hF : gSok F) (h : gcSt M c r F) (hp : p < 5200) (e : F p = some (S, tg)) (hk : k (gRs1 S tg tg.length) M) : cI l G y_Ed_rangeCells (gRm (d + 1)) false [gR G (c + 21), gI (gCn (gnE F) p : Int)] X M k := by
  obtain ⟨h0, h1, h2, h3, h4⟩ := h
  obtain ⟨a1, ⟨ci, b1, ⟨b2, b2'⟩, b3, b4, cs, cz, rf, c1, c2, ⟨c3, c3'⟩, c4, c5, ⟨c6, c6'⟩, c7, c8, c9⟩, a3⟩ := h4 p hp S tg e
  have ok := (hF p S tg e).2
  have rb := gRs1_bd ok
  obtain ⟨k1, k2, k3, k4, k5, k6⟩ := ok
  have sle := gSp_le (F := F) (show p + 1 ≤ 5200 from hp)
  rw [gSp_s e] at sle
  have lt := gCn_lt (Q := gnE F) hp (gnE_s e)
  have nxt : M (r + 3) (gCn (gnE F) p + 1) = ((gSp F p + tg.length : Nat) : Int) := by rw [← gCn_y (Q := gnE F) (gnE_s e), h3 (p + 1) (by omega), gSp_s e]
  have cor : ∀ j, j < tg.length → 0 ≤ gCor S j ∧ gCor S j ≤ 2 := fun j hj => by
    rcases k6 j hj with y | y | y
    · omega
    · have := y.1; omega
    · have := y.1; omega
  have key : ∀ (u j : Nat), j + u = tg.length → wp l G y_Ed_rangeCells (gRm (d + 1)) false (kkI X k) false 41 [.val (gR G (c + 21)), .val (gI (gCn (gnE F) p : Int)), .val (gI ((rf : Int) - (gSp F p : Int))), .val (gI (gRs1 S tg j)), .val (gI ((gSp F p + j : Nat) : Int)), .unset, .unset, .unset, .unset] [] X M 0 0 := by
    intro u
    induction u with
    | zero =>
      intro j hj
      have := rb j (by omega)
      refine w_Ed_rangeCells_41 hX ⟨by omega, by omega⟩ ⟨by omega, by omega⟩ ⟨by omega, by omega⟩ ⟨by omega, by omega⟩ hs3 ⟨⟨by omega, by omega⟩, fun _ => ?_⟩
      rw [show ((gCn (gnE F) p : Int) + 1).toNat = gCn (gnE F) p + 1 by omega, nxt]
      refine ⟨fun _ => ?_, fun y => absurd (by omega) y⟩
      rw [show j = tg.length by omega]
      exact hk
    | succ u ih =>
      intro j hj
      have rj := rb j (by omega)
      have rj2 := rb (j + 1) (by omega)
      have i := ih (j + 1) (by omega)
      have co := cor j (by omega)
      have fx := b4 j (by omega)
      have sp := (gShp3 fx co).2.2.2
      have v4 := a3 j (by omega)
      have v5 := k5 j (by omega)
      have vs : M (c + 12) (rf + j) = ((gRefs S).getD j (0, 0, 0)).2.1 + 4 * gCor S j := (c7.1 j (by omega)).2
      refine w_Ed_rangeCells_41 hX ⟨by omega, by omega⟩ ⟨by omega, by omega⟩ ⟨by omega, by omega⟩ ⟨by omega, by omega⟩ hs3 ⟨⟨by omega, by omega⟩, fun _ => ?_⟩
      rw [show ((gCn (gnE F) p : Int) + 1).toNat = gCn (gnE F) p + 1 by omega, nxt, Int.toNat_natCast, v4, show ((rf : Int) - (gSp F p : Int) + ((gSp F p + j : Nat) : Int)).toNat = rf + j by omega, vs, sp, w32_id (x := ((gSp F p + j : Nat) : Int) + 1) ⟨by omega, by omega⟩, show ((gSp F p + j : Nat) : Int) + 1 = ((gSp F p + (j + 1) : Nat) : Int) by omega]
      rw [gRs1] at i rj2
      refine ⟨fun y => absurd y (by omega), fun _ => ⟨⟨by omega, by omega⟩, fun _ => ⟨⟨by omega, by omega⟩, fun _ => ⟨fun y => ?_, fun y => ⟨fun z => ?_, fun z => ?_⟩⟩⟩⟩⟩
      · rw [if_neg (fun q => y q.1), Int.add_zero] at i
        exact i
      · rw [if_neg (fun q => q.2 z), Int.add_zero] at i
        exact i
      · have y1 : gCor S j = 1 := Decidable.byContradiction y
        rw [if_pos ⟨y1, z⟩] at i rj2
        obtain ⟨q2, q4⟩ : j + 1 < tg.length ∧ (gTt tg j = -1 ↔ gTt tg (j + 1) = -1) := by
          rcases k6 j (by omega) with w | ⟨_, w2, _, w4⟩ | ⟨w, _⟩
          · omega
          · exact ⟨w2, w4⟩
          · omega
        have v6 := k5 (j + 1) q2
        have v7 : gTt tg (j + 1) ≠ -1 := fun q => z (q4.mpr q)
        have v8 := a3 (j + 1) q2
        rw [Int.toNat_natCast, v8]
        refine ⟨⟨by omega, by omega⟩, fun _ => ?_⟩
        rw [Int.tmod_eq_emod_of_nonneg (show 0 ≤ gTt tg j by omega), Int.tmod_eq_emod_of_nonneg (show 0 ≤ gTt tg (j + 1) by omega), Int.tdiv_eq_ediv_of_nonneg (show 0 ≤ gTt tg j by omega), Int.tdiv_eq_ediv_of_nonneg (show 0 ≤ gTt tg (j + 1) by omega)]
        refine c_jMath_abs (by omega) (c_jMath_abs (by omega) ?_)
        rw [← gmSz_abs, w32_id (x := gRs1 S tg j + gmSz (gTt tg j) (gTt tg (j + 1))) ⟨by omega, by omega⟩]
        exact i
  refine e_Ed_rangeCells (w_Ed_rangeCells_0 hX ⟨by omega, by omega⟩ hs3 ?_)
  rw [Int.toNat_natCast, b1, Int.toNat_natCast, c4, h3 p (by omega), w32_id (x := (rf : Int) - (gSp F p : Int)) ⟨by omega, by omega⟩]
  exact ⟨⟨by omega, by omega⟩, fun _ => ⟨⟨by omega, by omega⟩, fun _ => ⟨⟨by omega, by omega⟩, fun _ => ⟨⟨by omega, by omega⟩, fun _ => key tg.length 0 (by omega)⟩⟩⟩⟩
theorem gRng_0 {rs : List gRf} (h : gRng rs = 0) (i : Nat) : (rs.getD i (0, 0, 0)).2.2 ≠ 1 := by
  intro y
  unfold gRng at h
  rw [List.countP_eq_zero] at h
  rw [List.getD_eq_getElem?_getD] at y
  cases e : rs[i]? with
  | none => rw [e] at y; exact absurd y (by decide)
  | some x =>
    rw [e] at y
    exact h x (List.mem_of_getElem? e) (decide_eq_true y)
theorem gRs1_0 {S tg : List Int} (h : gRng (gRefs S) = 0) : ∀ n, gRs1 S tg n = 0 := by
  intro n
  induction n with
  | zero => rfl
  | succ n ih => rw [gRs1, ih, if_neg (fun y => gRng_0 h n y.1)]; rfl
theorem c_Ed_rangesFit {k : Int → gM → Prop} (hX : glX X c) (hs3 : X.2.2 (c + 21) 3 = r ∧ gsX X r) (hF : gSok F) (h : gcSt M c r F) (hk1 : gRsF F 5200 ≤ 20000 → k 1 M) (hk0 : 20000 < gRsF F 5200 → k 0 M) : cZ l G y_Ed_rangesFit (gRm (d + 1 + 1)) false [gR G (c + 21)] X M k := by
  obtain ⟨h0, h1, h2, h3, h4⟩ := id h
  have key : ∀ (u p : Nat), p + u = 5200 → wp l G y_Ed_rangesFit (gRm (d + 1 + 1)) false (kkZ X k) false 4 [.val (gR G (c + 21)), .val (gI (gRsF F p)), .val (gI (gCn (gnE F) p : Int))] [] X M 0 0 := by
    intro u
    induction u with
    | zero =>
      intro p hp
      have e : p = 5200 := by omega
      subst e
      have := gRsF_bd hF 5200
      refine w_Ed_rangesFit_4 hX ⟨by omega, by omega⟩ ⟨by omega, by omega⟩ hs3 fun _ => ?_
      rw [h0]
      exact ⟨fun _ => ⟨fun y => hk0 y, fun y => hk1 (by omega)⟩, fun y => absurd (Int.le_refl _) y⟩
    | succ u ih =>
      intro p hp
      have i := ih (p + 1) (by omega)
      cases e : F p with
      | none =>
        rw [gRsF_n e, gCn_n (Q := gnE F) (fun y => y e)] at i
        exact i
      | some x =>
        obtain ⟨S, tg⟩ := x
        have bd := gRsF_bd hF p
        have bd2 := gRsF_bd hF (p + 1)
        have s1 := gSp_le (F := F) (show p ≤ 5200 by omega)
        have s2 := gSp_le (F := F) (show p + 1 ≤ 5200 by omega)
        have lt := gCn_lt (Q := gnE F) (show p < 5200 by omega) (gnE_s e)
        obtain ⟨a1, ⟨ci, b1, ⟨b2, b2'⟩, b3, b4, cs, cz, rf, c1, c2, ⟨c3, c3'⟩, c4, c5, ⟨c6, c6'⟩, c7, c8, c9⟩, a3⟩ := h4 p (by omega) S tg e
        have rg := c7.2
        rw [gRsF_s e] at i bd2
        rw [gCn_y (Q := gnE F) (gnE_s e)] at i
        refine w_Ed_rangesFit_4 hX ⟨by omega, by omega⟩ ⟨by omega, by omega⟩ hs3 fun _ => ?_
        rw [h0, Int.toNat_natCast, b1, Int.toNat_natCast, rg, w32_id (x := (gCn (gnE F) p : Int) + 1) ⟨by omega, by omega⟩, show (gCn (gnE F) p : Int) + 1 = ((gCn (gnE F) p + 1 : Nat) : Int) by omega]
        refine ⟨fun y => absurd y (by omega), fun _ => ⟨⟨by omega, by omega⟩, fun _ => ⟨⟨by omega, by omega⟩, fun _ => ⟨fun y => ?_, fun y => ?_⟩⟩⟩⟩
        · rw [gRs1_0 (by omega), Int.add_zero] at i
          exact i
        · refine c_Ed_rangeCells hX hs3 hF h (by omega) e ?_
          rw [w32_id (x := gRsF F p + gRs1 S tg tg.length) ⟨by omega, by omega⟩]
          exact i
  exact e_Ed_rangesFit (w_Ed_rangesFit_0 hX (key 5200 0 (by omega)))
end gfN
