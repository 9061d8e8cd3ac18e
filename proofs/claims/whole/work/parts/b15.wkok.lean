/-! What works answer are values. -/
theorem gBf {b : Bool} (h : ¬ b = true) : b = false := by
  cases b
  · rfl
  · exact absurd rfl h
theorem gBtr {b : Bool} (h : ¬ b = false) : b = true := by
  cases b
  · exact absurd rfl h
  · rfl
def gvP (w : gVl) : Prop := gvOk w ∧ w.kd ≤ 4
theorem gvP_E {n : Int} (h : 1 ≤ n ∧ n ≤ 8) : gvP (gE n) := ⟨gvE_ok h, by show (4 : Int) ≤ 4; decide⟩
theorem gvP_N {x : Int} (h : g64 x) : gvP (gN x) := ⟨gvN_ok h, by show (1 : Int) ≤ 4; decide⟩
theorem gvP_Bi (p : Prop) [Decidable p] : gvP (gBi p) := ⟨gBi_ok p, by show (3 : Int) ≤ 4; decide⟩
theorem gvP_B {x : Int} (h : 0 ≤ x ∧ x ≤ 1) : gvP (gB x) := ⟨gvB_ok h, by show (3 : Int) ≤ 4; decide⟩
theorem gvP_Fit (x : Int) : gvP (gFit x) := by
  refine ⟨gFit_ok x, ?_⟩
  unfold gFit
  split
  · show (1 : Int) ≤ 4; decide
  · show (4 : Int) ≤ 4; decide
theorem gvP_T {b : List Int} (h : b.length ≤ 64) (hb : ∀ c ∈ b, 32 ≤ c ∧ c ≤ 126) : gvP (gTxt b) := ⟨gTxt_ok h hb, by show (2 : Int) ≤ 4; decide⟩
theorem gSum_ok : ∀ (t : List Int) (a x : Int), g64 a → gSum t a = some x → g64 x := by
  intro t
  induction t with
  | nil => intro a x h q; cases q; exact h
  | cons y t ih =>
    intro a x h q
    unfold gSum at q
    split at q
    · rename_i g; exact ih _ _ g q
    · cases q
theorem gPrd_ok : ∀ (t : List Int) (a x : Int), g64 a → gPrd t a = some x → g64 x := by
  intro t
  induction t with
  | nil => intro a x h q; cases q; exact h
  | cons y t ih =>
    intro a x h q
    unfold gPrd at q
    split at q
    · rename_i g; exact ih _ _ g q
    · cases q
theorem gFold_ok (f : Int → Int → Int) (hf : ∀ x y, f x y = x ∨ f x y = y) : ∀ (t : List Int) (a : Int), g64 a → (∀ y ∈ t, g64 y) → g64 (t.foldl f a) := by
  intro t
  induction t with
  | nil => intro a h _; exact h
  | cons y t ih =>
    intro a h ht
    refine ih _ ?_ (fun z hz => ht z (List.mem_cons_of_mem _ hz))
    rcases hf a y with e | e
    · rw [e]; exact h
    · rw [e]; exact ht y List.mem_cons_self
theorem gNms_ok : ∀ vs : List gVl, (∀ v ∈ vs, gvOk v) → ∀ x ∈ gNms vs, g64 x := by
  intro vs
  induction vs with
  | nil => intro _ x hx; cases hx
  | cons v t ih =>
    intro h x hx
    unfold gNms at hx
    split at hx
    · rcases List.mem_cons.mp hx with e | hx
      · rw [e]; exact (h v List.mem_cons_self).2.2.1
      · exact ih (fun z hz => h z (List.mem_cons_of_mem _ hz)) x hx
    · exact ih (fun z hz => h z (List.mem_cons_of_mem _ hz)) x hx
theorem gNms_len : ∀ vs : List gVl, (gNms vs).length ≤ vs.length := by
  intro vs
  induction vs with
  | nil => exact Nat.le_refl _
  | cons v t ih =>
    unfold gNms
    split
    · rw [List.length_cons, List.length_cons]; omega
    · rw [List.length_cons]; omega
theorem gErr1_ok : ∀ (vs : List gVl) (e : Int), (∀ v ∈ vs, gvOk v) → gErr1 vs = some e → 1 ≤ e ∧ e ≤ 8 := by
  intro vs
  induction vs with
  | nil => intro e _ q; cases q
  | cons v t ih =>
    intro e h q
    unfold gErr1 at q
    split at q
    · rename_i e4
      cases q
      exact (h v List.mem_cons_self).2.2.2.2.2.2.2.1 e4
    · exact ih e (fun z hz => h z (List.mem_cons_of_mem _ hz)) q
theorem gCol_mem : ∀ (n : Nat) (c r : Int), ∀ p ∈ gCol n c r, ∃ x, c ≤ x ∧ x < c + n ∧ p = x + 26 * r := by
  intro n
  induction n with
  | zero => intro c r p hp; cases hp
  | succ n ih =>
    intro c r p hp
    rcases List.mem_cons.mp hp with e | hp
    · exact ⟨c, by omega, by omega, e⟩
    · obtain ⟨x, h1, h2, h3⟩ := ih (c + 1) r p hp
      exact ⟨x, by omega, by omega, h3⟩
theorem gRow_mem : ∀ (m n : Nat) (c r : Int), ∀ p ∈ gRow m n c r, ∃ x y, c ≤ x ∧ x < c + n ∧ r ≤ y ∧ y < r + m ∧ p = x + 26 * y := by
  intro m
  induction m with
  | zero => intro n c r p hp; cases hp
  | succ m ih =>
    intro n c r p hp
    rcases List.mem_append.mp hp with q | q
    · obtain ⟨x, h1, h2, h3⟩ := gCol_mem n c r p q
      exact ⟨x, r, h1, h2, by omega, by omega, h3⟩
    · obtain ⟨x, y, h1, h2, h3, h4, h5⟩ := ih n c (r + 1) p q
      exact ⟨x, y, h1, h2, by omega, by omega, h5⟩
theorem gCells_mem {b : gBx} (ob : gBxOk b) : ∀ p ∈ b.cells, ∃ x y, b.c ≤ x ∧ x ≤ b.d ∧ b.r ≤ y ∧ y ≤ b.s ∧ p = x + 26 * y := by
  intro p hp
  obtain ⟨x, y, h1, h2, h3, h4, h5⟩ := gRow_mem _ _ _ _ p hp
  unfold gBxOk at ob
  exact ⟨x, y, h1, by omega, h3, by omega, h5⟩
theorem gCells_in {b : gBx} (ob : gBxOk b) : ∀ p ∈ b.cells, 0 ≤ p ∧ p < 5200 := by
  intro p hp
  obtain ⟨x, y, h1, h2, h3, h4, h5⟩ := gCells_mem ob p hp
  unfold gBxOk at ob
  omega
theorem gCells_len {b : gBx} (ob : gBxOk b) : b.cells.length ≤ 5200 := by
  unfold gBx.cells
  rw [gRow_len]
  unfold gBxOk at ob
  exact Nat.le_trans (Nat.mul_le_mul (show _ ≤ 200 by omega) (show _ ≤ 26 by omega)) (by decide)
theorem gMat_ok (x : gVl) : ∀ (vs : List gVl) (n r : Int), gMat x vs n = some r → n ≤ r ∧ r < n + vs.length := by
  intro vs
  induction vs with
  | nil => intro n r q; cases q
  | cons v t ih =>
    intro n r q
    unfold gMat at q
    rw [List.length_cons]
    split at q
    · cases q; omega
    · have := ih _ _ q; omega
theorem gLkp_ok (E : Int → gVl) (x : gVl) (c : Int) : ∀ (n : Nat) (r z : Int), gLkp E x c n r = some z → r ≤ z ∧ z < r + n := by
  intro n
  induction n with
  | zero => intro r z q; cases q
  | succ n ih =>
    intro r z q
    unfold gLkp at q
    split at q
    · cases q; omega
    · have := ih _ _ q; omega
theorem gSif_ok (x : gVl) : ∀ (vs : List gVl) (a r : Int), g64 a → gSif x vs a = some r → g64 r := by
  intro vs
  induction vs with
  | nil => intro a r h q; cases q; exact h
  | cons v t ih =>
    intro a r h q
    rw [show gSif x (v :: t) a = @ite (Option Int) (gIs1 x v) (gDIs1 x v) (@ite (Option Int) (g64 (a + (if v.kd = 1 then v.nm else 0))) (gDec64 _) (gSif x t (a + (if v.kd = 1 then v.nm else 0))) none) (gSif x t a) from rfl] at q
    by_cases h1 : gIs1 x v
    · rw [if_pos h1] at q
      by_cases g : g64 (a + (if v.kd = 1 then v.nm else 0))
      · rw [if_pos g] at q; exact ih _ _ g q
      · rw [if_neg g] at q; cases q
    · rw [if_neg h1] at q; exact ih _ _ h q
theorem gCif_bd (x : gVl) (vs : List gVl) : 0 ≤ gCif x vs ∧ gCif x vs ≤ (vs.length : Int) := by
  induction vs with
  | nil => exact ⟨Int.le_refl _, Int.le_refl _⟩
  | cons v t ih =>
    unfold gCif
    rw [List.length_cons]
    split <;> omega
theorem gRep1_mem (a r : List Int) : ∀ (n : Nat) (b : List Int), ∀ c ∈ gRep1 a r n b, c ∈ r ∨ c ∈ b := by
  intro n
  induction n with
  | zero => intro b c hc; exact Or.inr hc
  | succ n ih =>
    intro b c hc
    cases b with
    | nil => cases hc
    | cons x t =>
      rw [show gRep1 a r (n + 1) (x :: t) = (if a ≠ [] ∧ gPfx a (x :: t) = true then r ++ gRep1 a r n ((x :: t).drop a.length) else x :: gRep1 a r n t) from rfl] at hc
      split at hc
      · rcases List.mem_append.mp hc with q | q
        · exact Or.inl q
        · rcases ih _ c q with q | q
          · exact Or.inl q
          · exact Or.inr (List.mem_of_mem_drop q)
      · rcases List.mem_cons.mp hc with q | q
        · exact Or.inr (by rw [q]; exact List.mem_cons_self)
        · rcases ih _ c q with q | q
          · exact Or.inl q
          · exact Or.inr (List.mem_cons_of_mem _ q)
theorem gFnd_ok (a b : List Int) : ∀ (n p q : Nat), gFnd a b n p = some q → p ≤ q ∧ q < p + n := by
  intro n
  induction n with
  | zero => intro p q h; cases h
  | succ n ih =>
    intro p q h
    unfold gFnd at h
    split at h
    · cases h; omega
    · have := ih _ _ h; omega
theorem gFmod_ok {x y : Int} (hy : g64 y) (h0 : y ≠ 0) : g64 (x.fmod y) := by
  unfold g64 at *
  by_cases h : 0 < y
  · have h1 := Int.fmod_nonneg_of_pos x h
    have h2 := Int.fmod_lt_of_pos x h
    omega
  · have e : x.fmod y = -((-x).fmod (-y)) := by rw [Int.neg_fmod_neg]; omega
    have h1 := Int.fmod_nonneg_of_pos (-x) (show 0 < -y by omega)
    have h2 := Int.fmod_lt_of_pos (-x) (show 0 < -y by omega)
    omega
section gbK
variable {E : Int → gVl} {w : Nat} {as : Nat → gVl}
theorem gvs_ok (hE : ∀ p, 0 ≤ p → p < 5200 → gvP (E p)) {x : Int} (hx : 0 ≤ x ∧ x < 27040000) : ∀ v ∈ (gBox x).cells.map E, gvOk v := by
  intro v hv
  obtain ⟨p, hp, rfl⟩ := List.mem_map.mp hv
  have := gCells_in (gBox_ok hx) p hp
  exact (hE p this.1 this.2).1
theorem gvP_Shw (hE : ∀ p, 0 ≤ p → p < 5200 → gvP (E p)) {b : gBx} (ob : gBxOk b) (i j : Int) : gvP (gShw E b i j) := by
  unfold gShw
  unfold gBxOk at ob
  split
  · exact hE _ (by omega) (by omega)
  · exact gvP_E (by decide)
theorem gvP_Opt {o : Option Int} (h : ∀ x, o = some x → g64 x) : gvP (gOpt o) := by
  cases o with
  | none => exact gvP_E (by decide)
  | some x => exact gvP_N (h x rfl)
theorem gWk_ok (hE : ∀ p, 0 ≤ p → p < 5200 → gvP (E p)) (hw : w < 52) (h5 : gWgr w ≠ 5) (hA : ∀ i, i < gSl (gWta w) → gvOk (as i) ∧ gSuit (gSc (gWta w) i) (as i)) : gvP (gWk E w (as 0) (as 1) (as 2)) := by
  have gr : gWgr w = 0 ∨ gWgr w = 1 ∨ gWgr w = 2 ∨ gWgr w = 3 ∨ gWgr w = 4 ∨ gWgr w = 6 ∨ gWgr w = 7 ∨ gWgr w = 8 := by
    have : ∀ w, w < 52 → gWgr w ≠ 5 → gWgr w = 0 ∨ gWgr w = 1 ∨ gWgr w = 2 ∨ gWgr w = 3 ∨ gWgr w = 4 ∨ gWgr w = 6 ∨ gWgr w = 7 ∨ gWgr w = 8 := by decide +kernel
    exact this w hw h5
  have z64 : ∀ x : Int, 0 ≤ x → x ≤ 100000 → g64 x := fun x h1 h2 => ⟨by omega, by omega⟩
  rcases gr with g | g | g | g | g | g | g | g
  · have : w = 0 ∨ w = 1 ∨ w = 2 ∨ w = 3 ∨ w = 4 ∨ w = 5 := by have := gGr0b w hw g; omega
    rcases this with rfl | rfl | rfl | rfl | rfl | rfl <;> exact gvP_Bi _
  · obtain ⟨l1, hw2⟩ := gGr1 w hw g
    have a0 := (hA 0 (by omega)).1.2.2.1
    rcases hw2 with rfl | rfl | rfl | rfl | rfl | rfl | rfl | rfl | rfl | rfl
    · exact gvP_Fit _
    · exact gvP_Fit _
    · exact gvP_Fit _
    · show gvP (if (as 1).nm = 0 then gE 5 else gFit ((as 0).nm.tdiv (as 1).nm))
      split
      · exact gvP_E (by decide)
      · exact gvP_Fit _
    · show gvP (if (as 1).nm < 0 then gE 6 else gFit ((as 0).nm ^ (as 1).nm.toNat))
      split
      · exact gvP_E (by decide)
      · exact gvP_Fit _
    · exact gvP_N (g64_tdiv a0 (by omega))
    · exact gvP_Fit _
    · exact gvP_Fit _
    · refine gvP_N ?_
      unfold gSgn
      split
      · exact ⟨by decide, by decide⟩
      · split <;> exact ⟨by decide, by decide⟩
    · show gvP (if (as 1).nm = 0 then gE 5 else gN ((as 0).nm.fmod (as 1).nm))
      split
      · exact gvP_E (by decide)
      · rename_i q
        exact gvP_N (gFmod_ok (hA 1 (by decide)).1.2.2.1 q)
  · obtain ⟨l1, hw2⟩ := gGr2 w hw g
    rcases hw2 with rfl | rfl | rfl <;> exact gvP_Bi _
  · have hw2 := gGr3 w hw g
    rcases hw2 with rfl | rfl | rfl | rfl | rfl
    · exact gvP_Bi _
    · exact gvP_Bi _
    · exact gvP_Bi _
    · exact gvP_Bi _
    · exact gvP_E (by decide)
  · have hw2 := gGr4 w hw g
    have l1 : 1 ≤ gSl (gWta w) := by rcases hw2 with rfl | rfl | rfl | rfl | rfl | rfl | rfl | rfl | rfl <;> decide
    have t0 : gSc (gWta w) 0 = 116 := by rcases hw2 with rfl | rfl | rfl | rfl | rfl | rfl | rfl | rfl | rfl <;> decide
    obtain ⟨o0, s0⟩ := hA 0 (by omega)
    have k0 := gSuit_t s0 t0
    obtain ⟨n0, b0⟩ := o0.2.2.2.1 k0
    have p0 := o0.2.2.2.2.2.2.2.2
    rcases hw2 with rfl | rfl | rfl | rfl | rfl | rfl | rfl | rfl | rfl
    · show gvP (if 64 < (as 0).tx.length + (as 1).tx.length then gE 4 else gTxt ((as 0).tx ++ (as 1).tx))
      have p1 := (hA 1 (by decide)).1.2.2.2.2.2.2.2.2
      split
      · exact gvP_E (by decide)
      · refine gvP_T (by rw [List.length_append]; omega) (fun c hc => ?_)
        rcases List.mem_append.mp hc with q | q
        · exact p0 c q
        · exact p1 c q
    · exact gvP_N o0.2.2.1
    · refine gvP_T (by rw [List.length_map]; exact b0) (fun c hc => ?_)
      obtain ⟨x, hx, rfl⟩ := List.mem_map.mp hc
      have := p0 x hx
      unfold gUpc
      split <;> omega
    · refine gvP_T (by rw [List.length_map]; exact b0) (fun c hc => ?_)
      obtain ⟨x, hx, rfl⟩ := List.mem_map.mp hc
      have := p0 x hx
      unfold gLoc
      split <;> omega
    · show gvP (if (as 1).nm < 0 then gE 4 else gTxt ((as 0).tx.take (as 1).nm.toNat))
      split
      · exact gvP_E (by decide)
      · exact gvP_T (by rw [List.length_take]; omega) (fun c hc => p0 c (List.mem_of_mem_take hc))
    · show gvP (if (as 1).nm < 0 then gE 4 else gTxt ((as 0).tx.drop ((as 0).tx.length - (as 1).nm.toNat)))
      split
      · exact gvP_E (by decide)
      · exact gvP_T (by rw [List.length_drop]; omega) (fun c hc => p0 c (List.mem_of_mem_drop hc))
    · show gvP (if (as 1).nm < 1 ∨ (as 2).nm < 0 then gE 4 else gTxt (((as 0).tx.drop ((as 1).nm - 1).toNat).take (as 2).nm.toNat))
      split
      · exact gvP_E (by decide)
      · exact gvP_T (by rw [List.length_take, List.length_drop]; omega) (fun c hc => p0 c (List.mem_of_mem_drop (List.mem_of_mem_take hc)))
    · show gvP (match gFind (as 0).tx (as 1).tx 0 with | some p => gN ((p : Int) + 1) | none => gE 4)
      have b1 := (hA 1 (by decide)).1.tx64
      cases hq : gFind (as 0).tx (as 1).tx 0 with
      | none => exact gvP_E (by decide)
      | some p =>
        have := gFnd_ok _ _ _ _ _ hq
        exact gvP_N (z64 _ (by omega) (by omega))
    · show gvP (if 64 < (gRepl (as 1).tx (as 2).tx (as 0).tx).length then gE 4 else gTxt (gRepl (as 1).tx (as 2).tx (as 0).tx))
      have p2 := (hA 2 (by decide)).1.2.2.2.2.2.2.2.2
      split
      · exact gvP_E (by decide)
      · refine gvP_T (by omega) (fun c hc => ?_)
        rcases gRep1_mem _ _ _ _ c hc with q | q
        · exact p2 c q
        · exact p0 c q
  · have hw2 := gGr6 w hw g
    have hw3 : w = 14 ∨ w = 15 ∨ w = 16 ∨ w = 17 ∨ w = 18 := by omega
    have l1 : 1 ≤ gSl (gWta w) ∧ gSc (gWta w) 0 = 114 := by rcases hw3 with rfl | rfl | rfl | rfl | rfl <;> decide
    have r := (gSuit_r (hA 0 (by omega)).2 l1.2).2
    have vo := gvs_ok hE r
    have no := gNms_ok _ vo
    have eo : ∀ e, gErr1 ((gBox (as 0).nm).cells.map E) = some e → 1 ≤ e ∧ e ≤ 8 := fun e he => gErr1_ok _ e vo he
    rcases hw3 with rfl | rfl | rfl | rfl | rfl
    · show gvP (match gErr1 ((gBox (as 0).nm).cells.map E) with | some e => gE e | none => gOpt (gSum (gNms ((gBox (as 0).nm).cells.map E)) 0))
      cases hq : gErr1 ((gBox (as 0).nm).cells.map E) with
      | some e => exact gvP_E (eo e hq)
      | none => exact gvP_Opt (fun x hx => gSum_ok _ _ _ (z64 _ (by decide) (by decide)) hx)
    · show gvP (match gErr1 ((gBox (as 0).nm).cells.map E) with | some e => gE e | none => gOpt (gPrd (gNms ((gBox (as 0).nm).cells.map E)) 1))
      cases hq : gErr1 ((gBox (as 0).nm).cells.map E) with
      | some e => exact gvP_E (eo e hq)
      | none => exact gvP_Opt (fun x hx => gPrd_ok _ _ _ (z64 _ (by decide) (by decide)) hx)
    · show gvP (match gErr1 ((gBox (as 0).nm).cells.map E) with | some e => gE e | none => gN (gMin (gNms ((gBox (as 0).nm).cells.map E))))
      cases hq : gErr1 ((gBox (as 0).nm).cells.map E) with
      | some e => exact gvP_E (eo e hq)
      | none =>
        refine gvP_N ?_
        revert no
        cases gNms ((gBox (as 0).nm).cells.map E) with
        | nil => intro _; exact z64 _ (by decide) (by decide)
        | cons x t => intro no; exact gFold_ok min (fun x y => by omega) t x (no x List.mem_cons_self) (fun y hy => no y (List.mem_cons_of_mem _ hy))
    · show gvP (match gErr1 ((gBox (as 0).nm).cells.map E) with | some e => gE e | none => gN (gMax (gNms ((gBox (as 0).nm).cells.map E))))
      cases hq : gErr1 ((gBox (as 0).nm).cells.map E) with
      | some e => exact gvP_E (eo e hq)
      | none =>
        refine gvP_N ?_
        revert no
        cases gNms ((gBox (as 0).nm).cells.map E) with
        | nil => intro _; exact z64 _ (by decide) (by decide)
        | cons x t => intro no; exact gFold_ok max (fun x y => by omega) t x (no x List.mem_cons_self) (fun y hy => no y (List.mem_cons_of_mem _ hy))
    · show gvP (match gErr1 ((gBox (as 0).nm).cells.map E) with | some e => gE e | none => (match gSum (gNms ((gBox (as 0).nm).cells.map E)) 0 with | none => gE 6 | some x => if (gNms ((gBox (as 0).nm).cells.map E)).length = 0 then gE 5 else gN (x.tdiv ((gNms ((gBox (as 0).nm).cells.map E)).length : Int))))
      cases hq : gErr1 ((gBox (as 0).nm).cells.map E) with
      | some e => exact gvP_E (eo e hq)
      | none =>
        cases hs : gSum (gNms ((gBox (as 0).nm).cells.map E)) 0 with
        | none => exact gvP_E (by decide)
        | some x =>
          dsimp only
          split
          · exact gvP_E (by decide)
          · exact gvP_N (g64_tdiv (gSum_ok _ _ _ (z64 _ (by decide) (by decide)) hs) (by omega))
  · have hw2 := gGr7 w hw g
    have l1 : 1 ≤ gSl (gWta w) ∧ gSc (gWta w) 0 = 114 := by rcases hw2 with rfl | rfl | rfl | rfl | rfl | rfl <;> decide
    have r := (gSuit_r (hA 0 (by omega)).2 l1.2).2
    have ob := gBox_ok r
    have cl := gCells_len ob
    have k1 := gKds_bd (fun k => k == 1) ((gBox (as 0).nm).cells.map E)
    have k2 := gKds_bd (fun k => k != 0) ((gBox (as 0).nm).cells.map E)
    rw [List.length_map] at k1 k2
    unfold gBxOk at ob
    rcases hw2 with rfl | rfl | rfl | rfl | rfl | rfl
    · exact gvP_N (z64 _ (by omega) (by omega))
    · exact gvP_N (z64 _ (by omega) (by omega))
    · exact gvP_N (z64 _ (by omega) (by omega))
    · exact gvP_N (z64 _ (by omega) (by omega))
    · exact gvP_N (z64 _ (by omega) (by omega))
    · exact gvP_N (z64 _ (by omega) (by omega))
  · have hw2 := gGr8 w hw (by omega)
    rcases hw2 with rfl | rfl | rfl | rfl | rfl
    · exact gvP_Shw hE (gBox_ok (gSuit_r (hA 0 (by decide)).2 (by decide)).2) _ _
    · have ob := gBox_ok (gSuit_r (hA 1 (by decide)).2 (by decide)).2
      have cl := gCells_len ob
      show gvP (match gMat (as 0) ((gBox (as 1).nm).cells.map E) 1 with | some n => gN n | none => gE 7)
      cases hq : gMat (as 0) ((gBox (as 1).nm).cells.map E) 1 with
      | none => exact gvP_E (by decide)
      | some n =>
        have := gMat_ok _ _ _ _ hq
        rw [List.length_map] at this
        exact gvP_N (z64 _ (by omega) (by omega))
    · show gvP (match gLkp E (as 0) (gBox (as 1).nm).c ((gBox (as 1).nm).s - (gBox (as 1).nm).r + 1).toNat (gBox (as 1).nm).r with | some r => gShw E (gBox (as 1).nm) (r - (gBox (as 1).nm).r + 1) (as 2).nm | none => gE 7)
      cases gLkp E (as 0) (gBox (as 1).nm).c ((gBox (as 1).nm).s - (gBox (as 1).nm).r + 1).toNat (gBox (as 1).nm).r with
      | none => exact gvP_E (by decide)
      | some r => exact gvP_Shw hE (gBox_ok (gSuit_r (hA 1 (by decide)).2 (by decide)).2) _ _
    · exact gvP_Opt (fun x hx => gSif_ok _ _ _ _ (z64 _ (by decide) (by decide)) hx)
    · have ob := gBox_ok (gSuit_r (hA 0 (by decide)).2 (by decide)).2
      have cl := gCells_len ob
      have k1 := gCif_bd (as 1) ((gBox (as 0).nm).cells.map E)
      rw [List.length_map] at k1
      exact gvP_N (z64 _ (by omega) (by omega))
theorem gBadA_none : ∀ (t n i : Nat), gBadA t as n i = none → ∀ j, i ≤ j → j < i + n → (as j).kd = 4 → gSc t j = 118 := by
  intro t n
  induction n with
  | zero => intro i _ j h1 h2; omega
  | succ n ih =>
    intro i h j h1 h2 h4
    unfold gBadA at h
    split at h
    · cases h
    · rename_i q
      by_cases e : j = i
      · subst e
        exact Decidable.byContradiction fun z => q ⟨h4, z⟩
      · exact ih (i + 1) h j (by omega) (by omega) h4
theorem gBadA_some : ∀ (t n i : Nat) (e : Int), gBadA t as n i = some e → ∃ j, i ≤ j ∧ j < i + n ∧ (as j).kd = 4 ∧ (as j).nm = e := by
  intro t n
  induction n with
  | zero => intro i e h; cases h
  | succ n ih =>
    intro i e h
    unfold gBadA at h
    split at h
    · rename_i q
      cases h
      exact ⟨i, by omega, by omega, q.1, rfl⟩
    · obtain ⟨j, h1, h2, h3⟩ := ih _ _ h
      exact ⟨j, by omega, by omega, h3⟩
theorem gNoT_false : ∀ (t n i : Nat), gNoT t as n i = false → ∀ j, i ≤ j → j < i + n → gTurn (as j) (gSc t j) = some (gTo (as j) (gSc t j)) := by
  intro t n
  induction n with
  | zero => intro i _ j h1 h2; omega
  | succ n ih =>
    intro i h j h1 h2
    unfold gNoT at h
    rw [Bool.or_eq_false_iff] at h
    by_cases e : j = i
    · subst e
      cases hq : gTurn (as j) (gSc t j) with
      | none => rw [hq] at h; cases h.1
      | some u => unfold gTo; rw [hq]; rfl
    · exact ih (i + 1) h.2 j (by omega) (by omega)
theorem gApp_ok (hE : ∀ p, 0 ≤ p → p < 5200 → gvP (E p)) (hw : w < 52) (h5 : gWgr w ≠ 5) (hA : ∀ i, i < gSl (gWta w) → gSuit0 (gSc (gWta w) i) (as i)) : gvP (gApp E w as) := by
  unfold gApp
  cases hb : gBadA (gWta w) as (gSl (gWta w)) 0 with
  | some e =>
    obtain ⟨j, h1, h2, h3, h4⟩ := gBadA_some _ _ _ _ hb
    have := (hA j (by omega)).1.2.2.2.2.2.2.2.1 h3
    exact gvP_E (by omega)
  | none =>
    dsimp only
    split
    · exact gvP_E (by decide)
    · rename_i q
      have q2 : gNoT (gWta w) as (gSl (gWta w)) 0 = false := gBf q
      exact gWk_ok (as := fun i => gTo (as i) (gSc (gWta w) i)) hE hw h5 (fun i hi => gTurn_ok (gNoT_false _ _ _ q2 i (by omega) (by omega)) (hA i hi) (gBadA_none _ _ _ hb i (by omega) (by omega)))
end gbK
