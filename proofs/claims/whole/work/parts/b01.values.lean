/-! Values: kind, number, letters; what is kept of a memory; numbers that letters spell. -/
/-- all but the slots of A is as it was -/
def gOff (A : Nat → Nat → Prop) (M M2 : gM) : Prop := ∀ a k, ¬ A a k → M2 a k = M a k
theorem gOff.rf (A : Nat → Nat → Prop) (M : gM) : gOff A M M := fun _ _ _ => rfl
theorem gOff.tr {A : Nat → Nat → Prop} {M M2 M3 : gM} (h : gOff A M M2) (k : gOff A M2 M3) : gOff A M M3 := fun a j n => (k a j n).trans (h a j n)
theorem gOff.mono {A B : Nat → Nat → Prop} {M M2 : gM} (h : gOff A M M2) (s : ∀ a k, A a k → B a k) : gOff B M M2 := fun a k n => h a k (fun q => n (s a k q))
theorem gOff.up {A : Nat → Nat → Prop} {M M2 : gM} {a k : Nat} {x : Int} (h : gOff A M M2) (q : A a k) : gOff A M (gUp M2 a k x) := fun b j n => by
  unfold gUp
  rw [if_neg (fun e => n (by rw [e.1, e.2]; exact q))]
  exact h b j n
theorem gCp_a {M : gM} {a a0 sp dp n b j : Nat} (h : b ≠ a) : gCp M a a0 sp dp n b j = M b j := if_neg (fun q => h q.1)
theorem gCp_in {M : gM} {a a0 sp dp n j : Nat} (h1 : dp ≤ j) (h2 : j < dp + n) : gCp M a a0 sp dp n a j = M a0 (sp + (j - dp)) := if_pos ⟨rfl, h1, h2⟩
theorem gCp_out {M : gM} {a a0 sp dp n j : Nat} (h : j < dp ∨ dp + n ≤ j) : gCp M a a0 sp dp n a j = M a j := if_neg (by omega)
theorem gOff.cp {A : Nat → Nat → Prop} {M M2 : gM} {a a0 sp dp n : Nat} (h : gOff A M M2) (q : ∀ j, dp ≤ j → j < dp + n → A a j) : gOff A M (gCp M2 a a0 sp dp n) := fun b j nn => by
  unfold gCp
  rw [if_neg (fun e => nn (by rw [e.1]; exact q j e.2.1 e.2.2))]
  exact h b j nn
theorem gOff.fl {A : Nat → Nat → Prop} {M M2 : gM} {a p n : Nat} {f : Nat → Int} (h : gOff A M M2) (q : ∀ j, p ≤ j → j < p + n → A a j) : gOff A M (gFl M2 a p f n) := fun b j nn => by
  unfold gFl
  rw [if_neg (fun e => nn (by rw [e.1]; exact q j e.2.1 e.2.2))]
  exact h b j nn
/-- a tree of conditions, taken apart -/
theorem gBy_get {M : gM} {c : Nat} : ∀ (n a j : Nat), j < n → (gBy M c a n)[j]? = some (M c (a + j)) := by
  intro n
  induction n with
  | zero => intro a j h; omega
  | succ n ih =>
    intro a j h
    cases j with
    | zero => rfl
    | succ j =>
      show (gBy M c (a + 1) n)[j]? = _
      rw [ih (a + 1) j (by omega), show a + 1 + j = a + (j + 1) by omega]
theorem gBy_of {M : gM} {c : Nat} (l : List Int) (a : Nat) (h : ∀ j, j < l.length → M c (a + j) = l.getD j 0) : gBy M c a l.length = l := by
  apply List.ext_getElem?
  intro j
  by_cases hj : j < l.length
  · rw [gBy_get _ _ _ hj, h j hj, List.getD_eq_getElem?_getD, List.getElem?_eq_getElem hj]
    rfl
  · rw [List.getElem?_eq_none (by rw [gBy_len]; omega), List.getElem?_eq_none (by omega)]
theorem gBy_at {M : gM} {c : Nat} {l : List Int} {a j : Nat} (h : gBy M c a l.length = l) (hj : j < l.length) : M c (a + j) = l.getD j 0 := by
  have := gBy_get (M := M) (c := c) l.length a j hj
  rw [h] at this
  rw [List.getD_eq_getElem?_getD, this]
  rfl
theorem gBy_getD {M : gM} {c n a j : Nat} (h : j < n) : (gBy M c a n).getD j 0 = M c (a + j) := by
  rw [List.getD_eq_getElem?_getD, gBy_get _ _ _ h]
  rfl
/-- a value -/
abbrev gVl : Type := Int × Int × List Int
abbrev gVl.kd (w : gVl) : Int := w.1
abbrev gVl.nm (w : gVl) : Int := w.2.1
abbrev gVl.tx (w : gVl) : List Int := w.2.2
/-- 0 nothing, 1 a number, 2 a text (its number: how long it is), 3 a truth, 4 an error, 5 a range's corners -/
def gvOk (w : gVl) : Prop := 0 ≤ w.kd ∧ w.kd ≤ 5 ∧ g64 w.nm ∧ (w.kd = 2 → w.nm = (w.tx.length : Int) ∧ w.tx.length ≤ 64) ∧ (w.kd ≠ 2 → w.tx = []) ∧ (w.kd = 0 → w.nm = 0) ∧ (w.kd = 3 → 0 ≤ w.nm ∧ w.nm ≤ 1) ∧ (w.kd = 4 → 1 ≤ w.nm ∧ w.nm ≤ 8) ∧ ∀ b ∈ w.tx, 32 ≤ b ∧ b ≤ 126
theorem gvOk.tx64 {w : gVl} (h : gvOk w) : w.tx.length ≤ 64 := by
  by_cases e : w.kd = 2
  · exact (h.2.2.2.1 e).2
  · rw [h.2.2.2.2.1 e]; exact Nat.zero_le _
/-- the slots of value i of the Values at v -/
def gVs (v i : Nat) : Nat → Nat → Prop := fun a k => (a = v + 1 ∧ k = i) ∨ (a = v + 2 ∧ k = i) ∨ a = v + 4 + i
/-- value i of the Values at v is w -/
def gvAt (M : gM) (v i : Nat) (w : gVl) : Prop := M (v + 1) i = w.kd ∧ M (v + 2) i = w.nm ∧ gBy M (v + 4 + i) 0 w.tx.length = w.tx
theorem gvAt.keep {M M2 : gM} {v i : Nat} {w : gVl} {A : Nat → Nat → Prop} (h : gvAt M v i w) (o : gOff A M M2) (h1 : ¬ A (v + 1) i) (h2 : ¬ A (v + 2) i) (h3 : ∀ j, j < w.tx.length → ¬ A (v + 4 + i) j) : gvAt M2 v i w :=
  ⟨(o _ _ h1).trans h.1, (o _ _ h2).trans h.2.1, (gBy_congr _ _ _ (fun j hj => o _ _ (by rw [Nat.zero_add]; exact h3 j hj))).trans h.2.2⟩
/-- numbers in the Values' rows -/
def gVset (M : gM) (v i : Nat) (s a : Int) : gM := gUp (gUp M (v + 1) i s) (v + 2) i a
theorem gVset_off (M : gM) (v i : Nat) (s a : Int) : gOff (gVs v i) M (gVset M v i s a) := ((gOff.rf _ M).up (Or.inl ⟨rfl, rfl⟩)).up (Or.inr (Or.inl ⟨rfl, rfl⟩))
theorem gVset_at (M : gM) (v i : Nat) (s a : Int) : gvAt (gVset M v i s a) v i ⟨s, a, []⟩ := by
  unfold gVset
  refine ⟨?_, ?_, rfl⟩
  · simp (disch := omega) only [gUp_eq, gUp_a, gUp_k, gCp_a, gCp_out, gFl_a, gFl_out]
  · simp (disch := omega) only [gUp_eq, gUp_a, gUp_k, gCp_a, gCp_out, gFl_a, gFl_out]
/-- two values compared -/
def gVc (w u : gVl) : Int := if w.kd ≠ 0 ∧ u.kd ≠ 0 ∧ w.kd ≠ u.kd then gOrd w.kd u.kd else if w.kd = 2 ∨ u.kd = 2 then gLex w.tx u.tx else gOrd w.nm u.nm
theorem gVc_eq {w u : gVl} (hw : gvOk w) (hu : gvOk u) : gVcm w.kd w.nm w.tx u.kd u.nm u.tx = gVc w u := by
  have z1 := hw.2.2.2.2.2.1
  have z2 := hu.2.2.2.2.2.1
  have t1 := hw.2.2.2.2.1
  have t2 := hu.2.2.2.2.1
  have o1 : gOrd 0 0 = 0 := rfl
  unfold gVcm gVc
  clear hw hu
  grind
/-- below 0, 0, above 0 -/
def gSg (z : Int) : Int := if z < 0 then -1 else if 0 < z then 1 else 0
theorem gSg_ord (a b : Int) : gSg (gOrd a b) = gOrd a b := by
  unfold gOrd
  split
  · rfl
  · split <;> rfl
theorem gSg_sub (a b : Int) : gSg (a - b) = gOrd a b := by
  unfold gSg gOrd
  split
  · rw [if_pos (by omega)]
  · split
    · rw [if_neg (by omega), if_pos (by omega)]
    · rw [if_neg (by omega), if_neg (by omega)]
/-- digits behind v, counted down, not below b -/
def gNumB (b : Int) : List Int → Int → Option Int
  | [], v => some v
  | c :: r, v => if 48 ≤ c ∧ c ≤ 57 then (if v * 10 - (c - 48) < b then none else gNumB b r (v * 10 - (c - 48))) else none
theorem gNumB_min : ∀ (r : List Int) (v : Int), gNumB (-9223372036854775808) r v = gNumA r v := by
  intro r
  induction r with
  | nil => intro v; rfl
  | cons c r ih =>
    intro v
    unfold gNumB gNumA
    rw [ih]
theorem gNumB_max : ∀ (r : List Int) (v : Int), -9223372036854775807 ≤ v ∧ v ≤ 0 → gNumB (-9223372036854775807) r v = (match gNumA r v with | some z => if z = -9223372036854775808 then none else some z | none => none) := by
  intro r
  induction r with
  | nil => intro v hv; show some v = (if v = -9223372036854775808 then none else some v); rw [if_neg (by omega)]
  | cons c r ih =>
    intro v hv
    unfold gNumB gNumA
    by_cases h1 : 48 ≤ c ∧ c ≤ 57
    · rw [if_pos h1, if_pos h1]
      by_cases h2 : v * 10 - (c - 48) < -9223372036854775808
      · rw [if_pos (by omega), if_pos h2]
      · rw [if_neg h2]
        by_cases h3 : v * 10 - (c - 48) < -9223372036854775807
        · rw [if_pos h3]
          have e : v * 10 - (c - 48) = -9223372036854775808 := by omega
          rw [e]
          cases r with
          | nil => rfl
          | cons c2 r2 =>
            unfold gNumA
            by_cases h4 : 48 ≤ c2 ∧ c2 ≤ 57
            · rw [if_pos h4, if_pos (by omega)]
            · rw [if_neg h4]
        · rw [if_neg h3]
          exact ih _ ⟨by omega, by omega⟩
    · rw [if_neg h1, if_neg h1]
theorem gNumA_le : ∀ (r : List Int) (v z : Int), gNumA r v = some z → v ≤ 0 ∧ g64 v → z ≤ 0 ∧ g64 z := by
  intro r
  induction r with
  | nil => intro v z h hv; cases h; exact hv
  | cons c r ih =>
    intro v z h hv
    unfold gNumA at h
    by_cases h1 : 48 ≤ c ∧ c ≤ 57
    · rw [if_pos h1] at h
      by_cases h2 : v * 10 - (c - 48) < -9223372036854775808
      · rw [if_pos h2] at h; cases h
      · rw [if_neg h2] at h
        refine ih _ z h ⟨by omega, ?_⟩
        unfold g64 at *
        omega
    · rw [if_neg h1] at h; cases h
theorem gNum_ok {r : List Int} {z : Int} (h : gNum r = some z) : g64 z := by
  have b := gNumA_le
  unfold gNum at h
  unfold g64 at *
  cases r with
  | nil => cases h
  | cons c r =>
    dsimp only at h
    have b1 := b r 0 z
    have b2 := b (c :: r) 0
    clear b
    grind
/-- as a number -/
def gToN (w : gVl) : Option gVl := if w.kd = 2 then (gNum w.tx).map (fun x => ⟨1, x, []⟩) else some ⟨1, w.nm, []⟩
/-- as a truth -/
def gToB (w : gVl) : Option gVl := if w.kd = 2 then none else some ⟨3, if w.nm = 0 then 0 else 1, []⟩
def gTxt (b : List Int) : gVl := ⟨2, (b.length : Int), b⟩
/-- as a text -/
def gToT (w : gVl) : gVl := if w.kd = 1 then gTxt (gDL w.nm).reverse else if w.kd = 3 then gTxt (if w.nm = 0 then [70, 65, 76, 83, 69] else [84, 82, 85, 69]) else ⟨2, w.nm, w.tx⟩
/-- as an argument's letter asks: n 110, t 116, b 98 -/
def gTurn (w : gVl) (c : Int) : Option gVl := if c = 110 then gToN w else if c = 116 then some (gToT w) else if c = 98 then gToB w else some w
theorem gDg_by : ∀ (n m : Nat), m ≤ n → ∀ c ∈ gDg m, 48 ≤ c ∧ c ≤ 57 := by
  intro n
  induction n with
  | zero =>
    intro m hm c hc
    rw [gDg_s (by omega)] at hc
    rcases List.mem_singleton.mp hc with rfl
    omega
  | succ n ih =>
    intro m hm c hc
    by_cases e : m / 10 = 0
    · rw [gDg_s e] at hc
      rcases List.mem_singleton.mp hc with rfl
      omega
    · rw [gDg_b e] at hc
      rcases List.mem_cons.mp hc with rfl | hc
      · omega
      · exact ih (m / 10) (by omega) c hc
theorem gDL_pr {v : Int} : ∀ c ∈ gDL v, 32 ≤ c ∧ c ≤ 126 := by
  intro c hc
  unfold gDL at hc
  rcases List.mem_append.mp hc with a | a
  · have := gDg_by _ _ (Nat.le_refl _) c a
    omega
  · split at a
    · rcases List.mem_singleton.mp a with rfl
      decide
    · cases a
theorem gTxt_ok {b : List Int} (h : b.length ≤ 64) (hb : ∀ c ∈ b, 32 ≤ c ∧ c ≤ 126) : gvOk (gTxt b) :=
  ⟨by show (0 : Int) ≤ 2; decide, by show (2 : Int) ≤ 5; decide, ⟨by show _ ≤ (b.length : Int); omega, by show (b.length : Int) < _; omega⟩, fun _ => ⟨rfl, h⟩, fun q => absurd rfl q, fun q => absurd q (by show ¬ (2 : Int) = 0; decide), fun q => absurd q (by show ¬ (2 : Int) = 3; decide), fun q => absurd q (by show ¬ (2 : Int) = 4; decide), hb⟩
theorem gvN_ok {x : Int} (h : g64 x) : gvOk ⟨1, x, []⟩ :=
  ⟨by show (0 : Int) ≤ 1; decide, by show (1 : Int) ≤ 5; decide, h, fun q => absurd q (by show ¬ (1 : Int) = 2; decide), fun _ => rfl, fun q => absurd q (by show ¬ (1 : Int) = 0; decide), fun q => absurd q (by show ¬ (1 : Int) = 3; decide), fun q => absurd q (by show ¬ (1 : Int) = 4; decide), fun b hb => by cases hb⟩
theorem gvB_ok {x : Int} (h : 0 ≤ x ∧ x ≤ 1) : gvOk ⟨3, x, []⟩ :=
  ⟨by show (0 : Int) ≤ 3; decide, by show (3 : Int) ≤ 5; decide, ⟨by show _ ≤ x; omega, by show x < _; omega⟩, fun q => absurd q (by show ¬ (3 : Int) = 2; decide), fun _ => rfl, fun q => absurd q (by show ¬ (3 : Int) = 0; decide), fun _ => h, fun q => absurd q (by show ¬ (3 : Int) = 4; decide), fun b hb => by cases hb⟩
theorem gvE_ok {x : Int} (h : 1 ≤ x ∧ x ≤ 8) : gvOk ⟨4, x, []⟩ :=
  ⟨by show (0 : Int) ≤ 4; decide, by show (4 : Int) ≤ 5; decide, ⟨by show _ ≤ x; omega, by show x < _; omega⟩, fun q => absurd q (by show ¬ (4 : Int) = 2; decide), fun _ => rfl, fun q => absurd q (by show ¬ (4 : Int) = 0; decide), fun q => absurd q (by show ¬ (4 : Int) = 3; decide), fun _ => h, fun b hb => by cases hb⟩
theorem gToN_ok {w u : gVl} (hw : gvOk w) (h : gToN w = some u) : gvOk u := by
  unfold gToN at h
  split at h
  · cases hn : gNum w.tx with
    | none => rw [hn] at h; cases h
    | some x => rw [hn] at h; cases h; exact gvN_ok (gNum_ok hn)
  · cases h; exact gvN_ok hw.2.2.1
theorem gToB_ok {w u : gVl} (h : gToB w = some u) : gvOk u := by
  unfold gToB at h
  split at h
  · cases h
  · cases h
    refine gvB_ok ?_
    split <;> decide
theorem gToT_ok {w : gVl} (hw : gvOk w) (h5 : w.kd ≤ 3) : gvOk (gToT w) := by
  unfold gToT
  split
  · refine gTxt_ok ?_ (fun c hc => gDL_pr c (List.mem_reverse.mp hc))
    rw [List.length_reverse]
    have := gDL_len hw.2.2.1
    omega
  · split
    · split
      · exact gTxt_ok (by decide) (by decide)
      · exact gTxt_ok (by decide) (by decide)
    · rename_i h1 h3
      by_cases e : w.kd = 2
      · have := hw.2.2.2.1 e
        have q : (⟨2, w.nm, w.tx⟩ : gVl) = gTxt w.tx := by unfold gTxt; rw [this.1]
        rw [q]
        exact gTxt_ok this.2 hw.2.2.2.2.2.2.2.2
      · have e0 : w.kd = 0 := by have := hw.1; omega
        have q : (⟨2, w.nm, w.tx⟩ : gVl) = gTxt [] := by rw [hw.2.2.2.2.2.1 e0, hw.2.2.2.2.1 e]; rfl
        rw [q]
        exact gTxt_ok (by decide) (fun c hc => by cases hc)
