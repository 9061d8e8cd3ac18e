/-! A value hangs on the places alone that its formula reads. -/
/-- two values of places agree in a range -/
def gAgB (E E2 : Int → gVl) (b : gBx) : Prop := ∀ i j, b.c ≤ j → j ≤ b.d → b.r ≤ i → i ≤ b.s → E (j + 26 * i) = E2 (j + 26 * i)
section geL
variable {E E2 : Int → gVl}
theorem gCol_map : ∀ (n : Nat) (c r : Int), (∀ j, c ≤ j → j < c + (n : Int) → E (j + 26 * r) = E2 (j + 26 * r)) → (gCol n c r).map E = (gCol n c r).map E2 := by
  intro n
  induction n with
  | zero => intro c r _; rfl
  | succ n ih =>
    intro c r h
    show E (c + 26 * r) :: (gCol n (c + 1) r).map E = E2 (c + 26 * r) :: (gCol n (c + 1) r).map E2
    rw [h c (Int.le_refl _) (by omega), ih (c + 1) r (fun j h1 h2 => h j (by omega) (by omega))]
theorem gRow_map : ∀ (m n : Nat) (c r : Int), (∀ i j, c ≤ j → j < c + (n : Int) → r ≤ i → i < r + (m : Int) → E (j + 26 * i) = E2 (j + 26 * i)) → (gRow m n c r).map E = (gRow m n c r).map E2 := by
  intro m
  induction m with
  | zero => intro n c r _; rfl
  | succ m ih =>
    intro n c r h
    show (gCol n c r ++ gRow m n c (r + 1)).map E = (gCol n c r ++ gRow m n c (r + 1)).map E2
    rw [List.map_append, List.map_append, gCol_map n c r (fun j h1 h2 => h r j h1 h2 (Int.le_refl _) (by omega)), ih n c (r + 1) (fun i j h1 h2 h3 h4 => h i j h1 h2 (by omega) (by omega))]
theorem gAgB.cells {b : gBx} (h : gAgB E E2 b) : b.cells.map E = b.cells.map E2 := by
  unfold gBx.cells
  refine gRow_map _ _ _ _ (fun i j h1 h2 h3 h4 => ?_)
  exact h i j h1 (by omega) h3 (by omega)
theorem gAgB.shw {b : gBx} (h : gAgB E E2 b) (i j : Int) : gShw E b i j = gShw E2 b i j := by
  unfold gShw
  split
  · exact h (b.r + i - 1) (b.c + j - 1) (by omega) (by omega) (by omega) (by omega)
  · rfl
theorem gAgB.lkp {b : gBx} (h : gAgB E E2 b) (hb : b.c ≤ b.d) (x : gVl) : ∀ (n : Nat) (r : Int), b.r ≤ r → r + (n : Int) ≤ b.s + 1 → gLkp E x b.c n r = gLkp E2 x b.c n r := by
  intro n
  induction n with
  | zero => intro r _ _; rfl
  | succ n ih =>
    intro r h1 h2
    unfold gLkp
    rw [h r b.c (Int.le_refl _) hb h1 (by omega), ih (r + 1) (by omega) (by omega)]
theorem gWk_congr {w : Nat} {a b c : gVl} (hw : w < 52) (h5 : w ≠ 24 ∧ w ≠ 25 ∧ w ≠ 26) (h1 : (14 ≤ w ∧ w ≤ 20 ∨ w = 47 ∨ w = 50 ∨ w = 51) → gAgB E E2 (gBox a.nm)) (h2 : (w = 48 ∨ w = 49) → gAgB E E2 (gBox b.nm)) : gWk E w a b c = gWk E2 w a b c := by
  have bx : ∀ x : Int, (gBox x).c ≤ (gBox x).d ∧ (gBox x).r ≤ (gBox x).s := fun x => by
    show min (x / 5200 % 26) (x % 5200 % 26) ≤ max (x / 5200 % 26) (x % 5200 % 26) ∧ min (x / 5200 / 26) (x % 5200 / 26) ≤ max (x / 5200 / 26) (x % 5200 / 26)
    omega
  unfold gWk
  split
  all_goals first
    | rfl
    | (rw [(h1 (by omega)).cells])
    | (rw [(h1 (by omega)).shw])
    | (rw [(h2 (by omega)).cells])
    | skip
  · rw [(h2 (by omega)).lkp (bx _).1 _ _ _ (Int.le_refl _) (by have := (bx b.nm).2; omega)]
    split
    · rw [(h2 (by omega)).shw]
    · rfl
  · simp only [imp_false] at *
    rw [(h1 (by omega)).cells]
theorem gBadA_n {t : Nat} {as : Nat → gVl} : ∀ (n i : Nat), gBadA t as n i = none → ∀ j, i ≤ j → j < i + n → gSc t j = 114 → (as j).kd ≠ 4 := by
  intro n
  induction n with
  | zero => intro i _ j h1 h2; omega
  | succ n ih =>
    intro i h j h1 h2 h3 h4
    unfold gBadA at h
    split at h
    · cases h
    · rename_i q
      by_cases e : j = i
      · rw [e] at h3 h4
        exact q ⟨h4, by rw [h3]; decide⟩
      · exact ih (i + 1) h j (by omega) (by omega) h3 h4
theorem gLtr : ∀ w, w < 52 → ((14 ≤ w ∧ w ≤ 20 ∨ w = 47 ∨ w = 50 ∨ w = 51) → gSc (gWta w) 0 = 114 ∧ 0 < gSl (gWta w)) ∧ ((w = 48 ∨ w = 49) → gSc (gWta w) 1 = 114 ∧ 1 < gSl (gWta w)) := by decide +kernel
theorem gLtr2 : ∀ w, w < 14 → ∀ i, i < 3 → gSc (gWta w) i ≠ 114 := by decide +kernel
theorem gApp_congr {w : Nat} {as as2 : Nat → gVl} (hw : w < 52) (h5 : w ≠ 24 ∧ w ≠ 25 ∧ w ≠ 26) (ha : as = as2) (h : ∀ i, i < 3 → gSc (gWta w) i = 114 → (as i).kd ≠ 4 → gAgB E E2 (gBox (as i).nm)) : gApp E w as = gApp E2 w as2 := by
  subst ha
  unfold gApp
  cases hb : gBadA (gWta w) as (gSl (gWta w)) 0 with
  | some e => rfl
  | none =>
    dsimp only
    split
    · rfl
    · obtain ⟨l1, l2⟩ := gLtr w hw
      have to : ∀ v : gVl, gTo v 114 = v := fun v => rfl
      refine gWk_congr hw h5 (fun z => ?_) (fun z => ?_)
      · obtain ⟨a1, a2⟩ := l1 z
        rw [a1, to]
        exact h 0 (by decide) a1 (gBadA_n _ _ hb 0 (Nat.le_refl _) (by omega) a1)
      · obtain ⟨a1, a2⟩ := l2 z
        rw [a1, to]
        exact h 1 (by decide) a1 (gBadA_n _ _ hb 1 (by omega) (by omega) a1)
theorem gxWf_AL {P R : Int → Prop} {n : Nat} : ∀ e : gEx, (gxWf P R n e).2 → ∀ x ∈ gxAL e, (gxWf P R n x).1 := by
  intro e
  induction e with
  | add x xs _ ih =>
    intro h y hy
    rcases List.mem_cons.mp hy with z | z
    · rw [z]; exact h.1
    · exact ih h.2 y z
  | num => intro _ y hy; exact absurd hy (List.not_mem_nil)
  | mulL k a _ => intro hw; cases a <;> exact absurd hw (fun q => q)
  | var => intro hw; exact absurd hw (fun q => q)
  | neg => intro hw; exact absurd hw (fun q => q)
  | mulR => intro hw; exact absurd hw (fun q => q)
  | sub => intro hw; exact absurd hw (fun q => q)
theorem gWgr5 : ∀ w, w < 52 → gWgr w ≠ 5 → w ≠ 24 ∧ w ≠ 25 ∧ w ≠ 26 := by decide +kernel
theorem gxEv_congr {P R : Int → Prop} {n : Nat} {T : Int → Int} {S : List Int} (hT : gxTk T P R) (hP : ∀ i, P i → 0 ≤ T i → E (T i) = E2 (T i)) (hR : ∀ i, R i → 0 ≤ T i → gAgB E E2 (gBox (T i * 5200 + T (i + 1)))) : ∀ e : gEx, ((gxWf P R n e).1 → (gxEv E T S e).1 = (gxEv E2 T S e).1) ∧ ((gxWf P R n e).2 → (gxEv E T S e).2 = (gxEv E2 T S e).2) ∧ (∀ a b, e = .add a b → ((gxWf P R n a).1 → (gxEv E T S a).1 = (gxEv E2 T S a).1) ∧ ((gxWf P R n b).1 → (gxEv E T S b).1 = (gxEv E2 T S b).1)) := by
  intro e
  induction e with
  | num x => exact ⟨fun _ => rfl, fun _ => rfl, fun a b h => by cases h⟩
  | var i =>
    refine ⟨fun h => ?_, fun _ => rfl, fun a b h => by cases h⟩
    show (if T (i : Int) < 0 then gE 2 else E (T (i : Int))) = (if T (i : Int) < 0 then gE 2 else E2 (T (i : Int)))
    split
    · rfl
    · exact hP _ h (by omega)
  | neg a ih =>
    refine ⟨fun h => ?_, fun _ => rfl, fun a b h => by cases h⟩
    exact gApp_congr (w := 13) (by decide) (by decide) (by rw [ih.1 h.1]) (fun i hi q => absurd q (gLtr2 13 (by decide) i hi))
  | mulR a k ih =>
    refine ⟨fun h => ?_, fun _ => rfl, fun a b h => by cases h⟩
    show (if k = 0 then (gxEv E T S a).1 else gApp E 12 (fun _ => (gxEv E T S a).1)) = (if k = 0 then (gxEv E2 T S a).1 else gApp E2 12 (fun _ => (gxEv E2 T S a).1))
    split
    · exact ih.1 h.1
    · exact gApp_congr (w := 12) (by decide) (by decide) (by rw [ih.1 h.1]) (fun i hi q => absurd q (gLtr2 12 (by decide) i hi))
  | mulL k a ih => cases a with
    | num q => exact ⟨fun _ => rfl, fun _ => rfl, fun a b h => by cases h⟩
    | var q => exact ⟨fun _ => rfl, fun _ => rfl, fun a b h => by cases h⟩
    | add x y =>
      have i2 := ih.2.2 x y rfl
      refine ⟨fun h => ?_, fun _ => rfl, fun a b h => by cases h⟩
      obtain ⟨k0, k1, hx, hy⟩ := h
      exact gApp_congr (w := k.toNat) (by omega) (by omega) (by rw [i2.1 hx.1, i2.2 hy.1]) (fun i hi q => absurd q (gLtr2 k.toNat (by omega) i hi))
    | neg q => exact ⟨fun _ => rfl, fun _ => rfl, fun a b h => by cases h⟩
    | sub q r => exact ⟨fun _ => rfl, fun _ => rfl, fun a b h => by cases h⟩
    | mulL q r => exact ⟨fun _ => rfl, fun _ => rfl, fun a b h => by cases h⟩
    | mulR q r => exact ⟨fun _ => rfl, fun _ => rfl, fun a b h => by cases h⟩
  | sub f as _ ih => cases f with
    | num w =>
      refine ⟨fun h => ?_, fun _ => rfl, fun a b h => by cases h⟩
      obtain ⟨hw, hwf⟩ := h
      show gxCv E T w (gxAL as) (gxEv E T S as).2 = gxCv E2 T w (gxAL as) (gxEv E2 T S as).2
      rw [ih.2.1 hwf]
      unfold gxCv
      split
      · rfl
      split
      · rfl
      split
      · rfl
      · rename_i w0 _ w5
        refine gApp_congr (by omega) (gWgr5 _ (by omega) w5) rfl (fun i hi q hne => ?_)
        rw [if_pos q] at hne ⊢
        have mem : (gxAL as).getD i (.num 0) ∈ gxAL as ∨ (gxAL as).getD i (.num 0) = .num 0 := by
          rw [List.getD_eq_getElem?_getD]
          by_cases hl : i < (gxAL as).length
          · rw [List.getElem?_eq_getElem hl]; exact Or.inl (List.getElem_mem _)
          · rw [List.getElem?_eq_none (by omega)]; exact Or.inr rfl
        generalize (gxAL as).getD i (.num 0) = x at mem hne ⊢
        have wx : (gxWf P R n x).1 := by
          rcases mem with m | m
          · exact gxWf_AL as hwf x m
          · rw [m]; exact ⟨by decide, by decide⟩
        unfold gxBx at hne ⊢
        cases x with
        | var j =>
          dsimp only at hne ⊢
          split at hne
          · exact absurd rfl hne
          · rename_i t0
            rw [if_neg t0]
            have t1 := hT.1 _ wx
            have t2 := hP _ wx (by omega)
            intro i2 j2 a1 a2 a3 a4
            have a1 : min ((T (j : Int) * 5200 + T (j : Int)) / 5200 % 26) ((T (j : Int) * 5200 + T (j : Int)) % 5200 % 26) ≤ j2 := a1
            have a2 : j2 ≤ max ((T (j : Int) * 5200 + T (j : Int)) / 5200 % 26) ((T (j : Int) * 5200 + T (j : Int)) % 5200 % 26) := a2
            have a3 : min ((T (j : Int) * 5200 + T (j : Int)) / 5200 / 26) ((T (j : Int) * 5200 + T (j : Int)) % 5200 / 26) ≤ i2 := a3
            have a4 : i2 ≤ max ((T (j : Int) * 5200 + T (j : Int)) / 5200 / 26) ((T (j : Int) * 5200 + T (j : Int)) % 5200 / 26) := a4
            have d1 : (T (j : Int) * 5200 + T (j : Int)) / 5200 = T (j : Int) := by omega
            have d2 : (T (j : Int) * 5200 + T (j : Int)) % 5200 = T (j : Int) := by omega
            rw [d1, d2] at a1 a2 a3 a4
            have e : j2 + 26 * i2 = T (j : Int) := by omega
            rw [e]
            exact t2
        | mulL j y =>
          cases y with
          | neg z =>
            dsimp only at hne ⊢
            split at hne
            · exact absurd rfl hne
            · rename_i t0
              rw [if_neg t0]
              exact hR _ wx (by omega)
          | _ => exact absurd rfl hne
        | _ => exact absurd rfl hne
    | _ => exact ⟨fun h => absurd h (fun q => q), fun _ => rfl, fun a b h => by cases h⟩
  | add x xs ihx ihy =>
    refine ⟨fun h => absurd h (fun q => q), fun h => ?_, fun a b h => by cases h; exact ⟨ihx.1, ihy.1⟩⟩
    show (gxEv E T S x).1 :: (gxEv E T S xs).2 = (gxEv E2 T S x).1 :: (gxEv E2 T S xs).2
    rw [ihx.1 h.1, ihy.2.1 h.2]
end geL
