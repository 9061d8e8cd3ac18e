/-! The reference's stack: its values; contracts of its small methods in these words. -/
def gmAt (M : gM) (o i : Nat) (w : gVl) : Prop := M (o + 34) i = w.kd ∧ M (o + 35) i = (w.tx.length : Int) ∧ (w.kd ≠ 2 → M (o + 36) i = w.nm) ∧ gBy M (o + 37) (64 * i) w.tx.length = w.tx
/-- what working out from stack place t on may write -/
def gmF (o t : Nat) : Nat → Nat → Prop := fun a k => ((a = o + 34 ∨ a = o + 35 ∨ a = o + 36) ∧ t ≤ k) ∨ (a = o + 37 ∧ 64 * t ≤ k) ∨ a = o + 38 ∨ a = o + 39 ∨ (a = o ∧ (k = 3 ∨ k = 50 ∨ (54 ≤ k ∧ k ≤ 59)))
/-- one stack place, and what is written beside it -/
def gmSl (o i : Nat) : Nat → Nat → Prop := fun a k => ((a = o + 34 ∨ a = o + 35 ∨ a = o + 36) ∧ k = i) ∨ (a = o + 37 ∧ 64 * i ≤ k ∧ k < 64 * i + 64) ∨ a = o + 38 ∨ (a = o ∧ k = 3)
theorem gmSl_F {o i t : Nat} (h : t ≤ i) : ∀ a k, gmSl o i a k → gmF o t a k := by
  intro a k q
  unfold gmSl at q
  unfold gmF
  omega
theorem gmF_le {o i t : Nat} (h : t ≤ i) : ∀ a k, gmF o i a k → gmF o t a k := by
  intro a k q
  unfold gmF at *
  omega
theorem gmAt.keep {M M2 : gM} {o i : Nat} {w : gVl} {A : Nat → Nat → Prop} (h : gmAt M o i w) (q : gOff A M M2) (h1 : ¬ A (o + 34) i) (h2 : ¬ A (o + 35) i) (h3 : ¬ A (o + 36) i) (h4 : ∀ j, j < w.tx.length → ¬ A (o + 37) (64 * i + j)) : gmAt M2 o i w :=
  ⟨(q _ _ h1).trans h.1, (q _ _ h2).trans h.2.1, fun e => (q _ _ h3).trans (h.2.2.1 e), (gBy_congr _ _ _ (fun j hj => q _ _ (h4 j hj))).trans h.2.2.2⟩
theorem gmAt.keepF {M M2 : gM} {o i t : Nat} {w : gVl} (h : gmAt M o i w) (ok : w.tx.length ≤ 64) (q : gOff (gmF o t) M M2) (hi : i < t) : gmAt M2 o i w := by
  refine h.keep q ?_ ?_ ?_ (fun j hj => ?_) <;> unfold gmF <;> omega
theorem gmAt.keepS {M M2 : gM} {o i t : Nat} {w : gVl} (h : gmAt M o i w) (ok : w.tx.length ≤ 64) (q : gOff (gmSl o t) M M2) (hi : i ≠ t) : gmAt M2 o i w := by
  refine h.keep q ?_ ?_ ?_ (fun j hj => ?_) <;> unfold gmSl <;> omega
/-- what places hold -/
def gmEnv (M : gM) (o : Nat) (E : Int → gVl) : Prop := ∀ p : Nat, p < 5200 → gvP (E (p : Int)) ∧ M (o + 26) p = (E (p : Int)).kd ∧ M (o + 27) p = ((E (p : Int)).tx.length : Int) ∧ M (o + 30) p = (if (E (p : Int)).kd = 2 then 0 else (E (p : Int)).nm) ∧ gBy M (o + 32) (64 * p) (E (p : Int)).tx.length = (E (p : Int)).tx
theorem gmEnv.keep {M M2 : gM} {o : Nat} {E : Int → gVl} {A : Nat → Nat → Prop} (h : gmEnv M o E) (q : gOff A M M2) (h1 : ∀ k, ¬ A (o + 26) k ∧ ¬ A (o + 27) k ∧ ¬ A (o + 30) k ∧ ¬ A (o + 32) k) : gmEnv M2 o E := by
  intro p hp
  obtain ⟨a, b, c, d, e⟩ := h p hp
  exact ⟨a, (q _ _ (h1 p).1).trans b, (q _ _ (h1 p).2.1).trans c, (q _ _ (h1 p).2.2.1).trans d, (gBy_congr _ _ _ (fun j _ => q _ _ (h1 _).2.2.2)).trans e⟩
theorem gmEnv.keepF {M M2 : gM} {o t : Nat} {E : Int → gVl} (h : gmEnv M o E) (q : gOff (gmF o t) M M2) : gmEnv M2 o E :=
  h.keep q (fun k => by unfold gmF; omega)
theorem gmEnv.keepS {M M2 : gM} {o t : Nat} {E : Int → gVl} (h : gmEnv M o E) (q : gOff (gmSl o t) M M2) : gmEnv M2 o E :=
  h.keep q (fun k => by unfold gmSl; omega)
def gmPost (M : gM) (o t : Nat) (V : gVl) (k : gM → Prop) : Prop := ∀ M2, gOff (gmF o t) M M2 → gmAt M2 o t V → M2 o 50 = (t : Int) + 1 → k M2
theorem gmPost.pre {M M1 : gM} {o t : Nat} {V : gVl} {k : gM → Prop} (h : gmPost M o t V k) (q : gOff (gmF o t) M M1) : gmPost M1 o t V k := fun M2 o2 a b => h M2 (q.tr o2) a b
section gcA
variable {l : Launch} {G : gG} {d : Nat} {X : gX} {M : gM} {o t : Nat} {E : Int → gVl} {k : gM → Prop}
theorem gmPush_at {s v : Int} (ht : M o 50 = (t : Int)) : gOff (gmF o t) M (gmPush M o s v) ∧ gmAt (gmPush M o s v) o t ⟨s, v, []⟩ ∧ gmPush M o s v o 50 = (t : Int) + 1 := by
  have e : (M o 50).toNat = t := by omega
  unfold gmPush
  rw [e]
  refine ⟨?_, ⟨?_, ?_, fun _ => ?_, rfl⟩, ?_⟩
  · refine gOff.up (gOff.up (gOff.up (gOff.up (gOff.rf _ M) ?_) ?_) ?_) ?_ <;> unfold gmF <;> omega
  · simp (disch := decide) only [gUp_ao, gUp_oo, gUp_eq]
  · simp (disch := decide) only [gUp_ao, gUp_oo, gUp_eq]; rfl
  · simp (disch := decide) only [gUp_ao, gUp_oo, gUp_eq]
  · rw [gUp_eq, ht]
theorem r_push {s v : Int} (hX : gmX X o) (hs : g32 s) (hv : g64 v) (hn : t < 1200) (ht : M o 50 = (t : Int)) (h : gmPost M o t ⟨s, v, []⟩ k) : cV l G y_GM_push (gRm d) true [gR G o, gI s, gL v] X M k :=
  c_GM_push hX hs hv ⟨by omega, by omega⟩ (h _ (gmPush_at ht).1 (gmPush_at ht).2.1 (gmPush_at ht).2.2)
theorem r_fault {s : Int} (hX : gmX X o) (hs : 1 ≤ s ∧ s ≤ 8) (hn : t < 1200) (ht : M o 50 = (t : Int)) (h : gmPost M o t (gE s) k) : cV l G y_GM_fault (gRm (d + 1)) true [gR G o, gI s] X M k :=
  c_GM_fault hX ⟨by omega, by omega⟩ ⟨by omega, by omega⟩ (h _ (gmPush_at ht).1 (gmPush_at ht).2.1 (gmPush_at ht).2.2)
theorem r_yes {p : Prop} [Decidable p] {s : Int} (hX : gmX X o) (hs : 0 ≤ s ∧ s ≤ 1) (e : s = 1 ↔ p) (hn : t < 1200) (ht : M o 50 = (t : Int)) (h : gmPost M o t (gBi p) k) : cV l G y_GM_yes (gRm (d + 1)) true [gR G o, gI s] X M k := by
  have e2 : gBi p = ⟨3, s, []⟩ := by
    unfold gBi gB
    by_cases q : p
    · rw [if_pos q, e.mpr q]
    · rw [if_neg q, show s = 0 by have : s ≠ 1 := fun z => q (e.mp z); omega]
  rw [e2] at h
  exact c_GM_yes hX hs ⟨by omega, by omega⟩ (h _ (gmPush_at ht).1 (gmPush_at ht).2.1 (gmPush_at ht).2.2)
theorem gmSet_at {n s v : Int} (hn : M o 50 - n = (t : Int)) : gOff (gmF o t) M (gmPush (gUp M o 50 (M o 50 - n)) o s v) ∧ gmAt (gmPush (gUp M o 50 (M o 50 - n)) o s v) o t ⟨s, v, []⟩ ∧ gmPush (gUp M o 50 (M o 50 - n)) o s v o 50 = (t : Int) + 1 := by
  have h := gmPush_at (M := gUp M o 50 (M o 50 - n)) (o := o) (t := t) (s := s) (v := v) (by rw [gUp_eq, hn])
  refine ⟨((gOff.rf _ M).up ?_).tr h.1, h.2⟩
  unfold gmF
  omega
theorem r_become {n s v : Int} (hX : gmX X o) (hn : 0 ≤ n) (hs : g32 s) (hv : g64 v) (h1 : t < 1200) (h2 : M o 50 < 1300) (ht : M o 50 - n = (t : Int)) (h : gmPost M o t ⟨s, v, []⟩ k) : cV l G y_GM_become (gRm (d + 1)) true [gR G o, gI n, gI s, gL v] X M k :=
  c_GM_become hX ⟨hn, by omega⟩ (by omega) (by omega) hs hv (h _ (gmSet_at ht).1 (gmSet_at ht).2.1 (gmSet_at ht).2.2)
theorem gmCell_at {p : Nat} (hp : p < 5200) (hE : gmEnv M o E) (ht : M o 50 = (t : Int)) : gOff (gmF o t) M (gmPushCell M o (p : Int)) ∧ gmAt (gmPushCell M o (p : Int)) o t (E (p : Int)) ∧ gmPushCell M o (p : Int) o 50 = (t : Int) + 1 := by
  have e : (M o 50).toNat = t := by omega
  have e2 : (64 * M o 50).toNat = 64 * t := by omega
  obtain ⟨q1, q2, q3, q4, q5⟩ := hE p hp
  have l64 := q1.1.tx64
  have pa := gmPush_at (M := M) (o := o) (t := t) (s := M (o + 26) p) (v := M (o + 30) p) ht
  unfold gmPushCell
  rw [Int.toNat_natCast, e, e2, q3]
  refine ⟨?_, ⟨?_, ?_, fun n2 => ?_, ?_⟩, ?_⟩
  · refine gOff.fl (gOff.up pa.1 ?_) (fun j _ _ => ?_) <;> unfold gmF <;> omega
  · rw [gFl_oo (by decide), gUp_oo (by decide), pa.2.1.1]; exact q2
  · rw [gFl_oo (by decide), gUp_eq]
  · rw [gFl_oo (by decide), gUp_oo (by decide)]
    by_cases z : M (o + 26) p = 2
    · exact absurd (q2.symm.trans z) n2
    · rw [pa.2.1.2.2.1 z, q4, if_neg n2]
  · refine gBy_of _ _ (fun j hj => ?_)
    rw [gFl_in (by omega) (by omega)]
    have := gBy_at q5 hj
    rw [← this]
    congr 1
    omega
  · rw [gFl_o (by decide), gUp_o (by decide)]
    exact pa.2.2
theorem r_pushCell {p : Int} (hX : gmX X o) (hp : 0 ≤ p ∧ p < 5200) (hE : gmEnv M o E) (hn : t < 1200) (ht : M o 50 = (t : Int)) (h : gmPost M o t (E p) k) : cV l G y_GM_pushCell (gRm (d + 1)) true [gR G o, gI p] X M k := by
  obtain ⟨q, rfl⟩ : ∃ q : Nat, p = (q : Int) := ⟨p.toNat, by omega⟩
  have hq : q < 5200 := by omega
  have q3 := (hE q hq).2.2.1
  have l64 := (hE q hq).1.1.tx64
  refine c_GM_pushCell hX hp ⟨by omega, by omega⟩ ?_ (h _ (gmCell_at hq hE ht).1 (gmCell_at hq hE ht).2.1 (gmCell_at hq hE ht).2.2)
  rw [Int.toNat_natCast, q3]
  omega
/-- the first error of n values from i on -/
def gBadE (as : Nat → gVl) : Nat → Nat → Option Int
  | 0, _ => none
  | n + 1, i => if (as i).kd = 4 then some (as i).nm else gBadE as n (i + 1)
theorem gBadE_A {as : Nat → gVl} {tt : Nat} : ∀ (n i : Nat), (∀ j, i ≤ j → j < i + n → gSc tt j ≠ 118) → gBadA tt as n i = gBadE as n i := by
  intro n
  induction n with
  | zero => intro i _; rfl
  | succ n ih =>
    intro i h
    unfold gBadA gBadE
    rw [ih (i + 1) (fun j h1 h2 => h j (by omega) (by omega))]
    by_cases q : (as i).kd = 4
    · rw [if_pos q, if_pos ⟨q, h i (by omega) (by omega)⟩]
    · rw [if_neg q, if_neg (fun z => q z.1)]
theorem gmBad_eq {as : Nat → gVl} : ∀ (n i : Nat), (∀ j, i ≤ j → j < i + n → gmAt M o (t + j) (as j)) → gmBad M o n ((t + i : Nat) : Int) = gBadE as n i := by
  intro n
  induction n with
  | zero => intro i _; rfl
  | succ n ih =>
    intro i h
    have hi := h i (by omega) (by omega)
    unfold gmBad gBadE
    rw [Int.toNat_natCast, hi.1, show ((t + i : Nat) : Int) + 1 = ((t + (i + 1) : Nat) : Int) by omega, ih (i + 1) (fun j h1 h2 => h j (by omega) (by omega))]
    by_cases q : (as i).kd = 4
    · rw [if_pos q, if_pos q, hi.2.2.1 (by omega)]
    · rw [if_neg q, if_neg q]
theorem r_spoilt {n : Nat} {as : Nat → gVl} {k : Int → gM → Prop} (hX : gmX X o) (hn : t + n ≤ 1200) (h1n : 1 ≤ n) (ht : M o 50 = ((t + n : Nat) : Int)) (hA : ∀ j, j < n → gmAt M o (t + j) (as j) ∧ gvOk (as j)) (h0 : gBadE as n 0 = none → k 0 M) (h1 : ∀ e, gBadE as n 0 = some e → 1 ≤ e ∧ e ≤ 8 → gmPost M o t (gE e) (k 1)) : cZ l G y_GM_spoilt (gRm (d + 1 + 1)) true [gR G o, gI (n : Int)] X M k := by
  have e1 : M o 50 - (n : Int) = (t : Int) := by omega
  have eb : gmBad M o (n : Int).toNat (M o 50 - (n : Int)) = gBadE as n 0 := by
    rw [Int.toNat_natCast, e1]
    exact gmBad_eq (t := t) n 0 (fun j _ hj => (hA j (by omega)).1)
  have ok : ∀ m i e, i + m = n → gBadE as m i = some e → 1 ≤ e ∧ e ≤ 8 := by
    intro m
    induction m with
    | zero => intro i e _ q; cases q
    | succ m ih =>
      intro i e hi q
      unfold gBadE at q
      split at q
      · rename_i z
        cases q
        exact (hA i (by omega)).2.2.2.2.2.2.2.2.1 z
      · exact ih (i + 1) e (by omega) q
  refine c_GM_spoilt hX ⟨by omega, by omega⟩ (by omega) (fun e he => ?_) (fun e0 => h0 (eb ▸ e0)) (fun e he => ?_)
  · rw [eb] at he
    have := ok n 0 e (by omega) he
    exact ⟨by omega, by omega⟩
  · rw [eb] at he
    have bd := ok n 0 e (by omega) he
    exact h1 e he bd _ (gmSet_at e1).1 (gmSet_at e1).2.1 (gmSet_at e1).2.2
theorem r_asNumber {i : Nat} {w : gVl} {k : Int → gM → Prop} (hX : gmX X o) (hi : i < 1200) (hw : gmAt M o i w) (ok : gvOk w) (h0 : gToN w = none → ∀ M2, gOff (gmSl o i) M M2 → k 0 M2) (h1 : ∀ u, gToN w = some u → ∀ M2, gOff (gmSl o i) M M2 → gmAt M2 o i u → k 1 M2) : cZ l G y_GM_asNumber (gRm (d + 1 + 1)) true [gR G o, gI (i : Int)] X M k := by
  obtain ⟨a1, a2, a3, a4⟩ := hw
  have l64 := ok.tx64
  have sl : ∀ {a k : Nat}, ((a = o + 34 ∨ a = o + 35 ∨ a = o + 36) ∧ k = i) ∨ a = o + 38 ∨ (a = o ∧ k = 3) → gmSl o i a k := fun {a k} q => by unfold gmSl; omega
  have lineOff : gOff (gmSl o i) M (gmLine M o (i : Int)) := gOff.fl (gOff.rf _ M) (fun j _ _ => sl (Or.inr (Or.inl rfl)))
  refine c_GM_asNumber hX ⟨by omega, by omega⟩ (by rw [Int.toNat_natCast, a2]; omega) ?_ ?_ ?_ ?_
  · rw [Int.toNat_natCast, a1]
    intro n2 n0
    refine h1 ⟨1, w.nm, []⟩ (by unfold gToN; rw [if_neg n2]) _ (((gOff.rf _ M).up (sl (by omega))).up (sl (by omega))) ⟨?_, ?_, fun _ => ?_, rfl⟩
    · simp (disch := decide) only [gUp_oo, gUp_eq]
    · rw [gUp_eq]; rfl
    · simp (disch := decide) only [gUp_oo]
      exact a3 n2
  · rw [Int.toNat_natCast, a1]
    intro n0
    refine h1 ⟨1, w.nm, []⟩ (by unfold gToN; rw [if_neg (by omega)]) _ ((((gOff.rf _ M).up (sl (by omega))).up (sl (by omega))).up (sl (by omega))) ⟨?_, ?_, fun _ => ?_, rfl⟩
    · simp (disch := decide) only [gUp_oo, gUp_eq]
    · rw [gUp_eq]; rfl
    · simp (disch := decide) only [gUp_oo, gUp_eq]
      exact (ok.2.2.2.2.2.1 n0).symm
  · rw [Int.toNat_natCast, a1, a2, Int.toNat_natCast, show (64 * (i : Int)).toNat = 64 * i by omega, a4]
    intro n2 hn
    exact h0 (by unfold gToN; rw [if_pos n2, hn]; rfl) _ lineOff
  · rw [Int.toNat_natCast, a1, a2, Int.toNat_natCast, show (64 * (i : Int)).toNat = 64 * i by omega, a4]
    intro n2 z hz gz
    refine h1 ⟨1, z, []⟩ (by unfold gToN; rw [if_pos n2, hz]; rfl) _ ((((lineOff.up (sl (by omega))).up (sl (by omega))).up (sl (by omega))).up (sl (by omega))) ⟨?_, ?_, fun _ => ?_, rfl⟩
    · simp (disch := decide) only [gUp_oo, gUp_eq]
    · rw [gUp_eq]; rfl
    · simp (disch := decide) only [gUp_oo, gUp_eq]
theorem r_asTruth {i : Nat} {w : gVl} {k : Int → gM → Prop} (hX : gmX X o) (hi : i < 1200) (hw : gmAt M o i w) (ok : gvOk w) (h0 : gToB w = none → k 0 M) (h1 : ∀ u, gToB w = some u → ∀ M2, gOff (gmSl o i) M M2 → gmAt M2 o i u → k 1 M2) : cZ l G y_GM_asTruth (gRm d) true [gR G o, gI (i : Int)] X M k := by
  obtain ⟨a1, a2, a3, a4⟩ := hw
  have sl : ∀ {a k : Nat}, ((a = o + 34 ∨ a = o + 35 ∨ a = o + 36) ∧ k = i) ∨ a = o + 38 ∨ (a = o ∧ k = 3) → gmSl o i a k := fun {a k} q => by unfold gmSl; omega
  refine c_GM_asTruth hX ⟨by omega, by omega⟩ ?_ ?_
  · rw [Int.toNat_natCast, a1]
    exact fun q => h0 (if_pos q)
  · rw [Int.toNat_natCast, a1]
    intro n2
    rw [a3 n2]
    have ew : (if w.kd = 0 ∨ w.nm = 0 then (0 : Int) else 1) = (if w.nm = 0 then 0 else 1) := by
      by_cases z : w.nm = 0
      · rw [if_pos z, if_pos (Or.inr z)]
      · rw [if_neg z, if_neg (fun q => z (q.elim ok.2.2.2.2.2.1 id))]
    rw [ew]
    refine h1 ⟨3, if w.nm = 0 then 0 else 1, []⟩ (by unfold gToB; rw [if_neg n2]) _ (((gOff.rf _ M).up (sl (by omega))).up (sl (by omega))) ⟨?_, ?_, fun _ => ?_, rfl⟩
    · rw [gUp_eq]
    · simp (disch := decide) only [gUp_oo]
      rw [a2, ok.2.2.2.2.1 n2]
    · simp (disch := decide) only [gUp_oo, gUp_eq]
theorem r_word_2 {i tt : Nat} {Q : gQ} (hX : gmX X o) (hO : gOld G Q) (hi : i < 1200) (htt : tt < 66) (hl : gSl tt ≤ 64) (h : ∀ M2, gOff (gmSl o i) M M2 → M2 (o + 34) i = M (o + 34) i → M2 (o + 35) i = (gSl tt : Int) → gBy M2 (o + 37) (64 * i) (gSby.getD tt []).length = gSby.getD tt [] → k M2) : cV l G y_GM_word_2 (gRm (d + 5)) true [gR G o, gI (i : Int), .ref (Q.2.1 tt)] X M k := by
  have gi : g32 (i : Int) := ⟨by omega, by omega⟩
  have key : ∀ (m q : Nat), q + m = gSl tt → wp l G y_GM_word_2 (gRm (d + 5)) true (kkV X k) true 12 [.val (gR G o), .val (gI (i : Int)), .val (.ref (Q.2.1 tt)), .val (gI (q : Int))] [] X (gFl (gUp M (o + 35) i (gSl tt : Int)) (o + 37) (64 * i) (gSc tt) q) 0 0 := by
    intro m
    induction m with
    | zero =>
      intro q hq
      have e : q = gSl tt := by omega
      subst e
      refine w_GM_word_2_12 hX hO gi ⟨by omega, by omega⟩ htt ⟨fun _ => h _ ?_ ?_ ?_ ?_, fun a => absurd (by omega) a⟩
      · refine gOff.fl (gOff.up (gOff.rf _ M) ?_) (fun j _ _ => ?_) <;> unfold gmSl <;> omega
      · rw [gFl_oo (by decide), gUp_oo (by decide)]
      · rw [gFl_oo (by decide), gUp_eq]
      · refine gBy_of _ _ (fun j hj => ?_)
        rw [gFl_in (by omega) (by unfold gSl; omega)]
        unfold gSc
        congr 1
        omega
    | succ m ih =>
      intro q hq
      have i1 := ih (q + 1) (by omega)
      have hb := gSc_ok htt q
      refine w_GM_word_2_12 hX hO gi ⟨by omega, by omega⟩ htt ⟨fun a => absurd a (by omega), fun _ => ⟨⟨by omega, by omega⟩, ⟨by omega, by omega⟩, ?_⟩⟩
      rw [gI_w, Int.toNat_natCast, gByte_id (gByte_ok _), gByte_id ⟨by omega, by omega⟩, show (64 * (i : Int) + (q : Int)).toNat = 64 * i + q by omega]
      rw [← gFl_s] at i1
      exact i1
  refine e_GM_word_2 (w_GM_word_2_0 hX hO gi htt ⟨⟨by omega, by omega⟩, ?_⟩)
  have k0 := key (gSl tt) 0 (by omega)
  rw [gFl_0] at k0
  exact k0
theorem r_asText {i : Nat} {w : gVl} {Q : gQ} (hX : gmX X o) (hO : gOld G Q) (hi : i < 1200) (hw : gmAt M o i w) (ok : gvOk w) (h3 : w.kd ≤ 3) (h : ∀ M2, gOff (gmSl o i) M M2 → gmAt M2 o i (gToT w) → k M2) : cV l G y_GM_asText (gRm (d + 6)) true [gR G o, gI (i : Int)] X M k := by
  obtain ⟨a1, a2, a3, a4⟩ := hw
  have sl : ∀ {a k : Nat}, ((a = o + 34 ∨ a = o + 35 ∨ a = o + 36) ∧ k = i) ∨ a = o + 38 ∨ (a = o ∧ k = 3) → gmSl o i a k := fun {a k} q => by unfold gmSl; omega
  have b0 : (0 : Int) ≤ (i : Int) ∧ (i : Int) < 1200 := ⟨by omega, by omega⟩
  have o1 : gOff (gmSl o i) M (gUp (gUp M (o + 34) i 2) (o + 35) i 0) := ((gOff.rf _ M).up (sl (by omega))).up (sl (by omega))
  refine e_GM_asText (Q := Q) (w_GM_asText_0 hX hO ⟨by omega, by omega⟩ ⟨b0, ?_⟩)
  rw [Int.toNat_natCast, a1]
  refine fun _ => ⟨fun n2 => ⟨b0, fun _ => ⟨b0, b0, fun n3 => ⟨fun n1 => ?_, fun e1 => ⟨b0, ?_⟩⟩, fun e3 => ⟨b0, ?_⟩⟩⟩, fun e2 => ?_⟩
  · have e0 : w.kd = 0 := by have := ok.1; omega
    refine h _ o1 ?_
    have eT : gToT w = gTxt [] := by
      unfold gToT
      rw [if_neg n1, if_neg n3, ok.2.2.2.2.2.1 e0, ok.2.2.2.2.1 n2]
      rfl
    rw [eT]
    exact ⟨by simp (disch := decide) only [gUp_oo, gUp_eq]; rfl, by rw [gUp_eq]; rfl, fun q => absurd rfl q, rfl⟩
  · simp (disch := decide) only [gUp_oo]
    rw [a3 n2]
    refine fun gv => c_GM_digits hX b0 gv ?_
    have hl := gDL_len gv
    have eT : gToT w = gTxt (gDL w.nm).reverse := if_pos e1
    rw [eT] at h
    refine h _ ?_ ?_
    · unfold gmDig
      refine o1.tr (gOff.fl (gOff.up (gOff.fl (gOff.rf _ _) (fun j _ _ => sl (Or.inr (Or.inl rfl)))) (sl (by omega))) (fun j h1 h2 => ?_))
      unfold gmSl
      omega
    · unfold gmDig
      rw [Int.toNat_natCast, show (64 * (i : Int)).toNat = 64 * i by omega]
      refine ⟨?_, ?_, fun q => absurd rfl q, ?_⟩
      · rw [gFl_oo (by decide), gUp_oo (by decide), gFl_oo (by decide), gUp_oo (by decide), gUp_eq]; rfl
      · rw [gFl_oo (by decide), gUp_eq]
        show _ = ((gDL w.nm).reverse.length : Int)
        rw [List.length_reverse]
      · show gBy _ (o + 37) (64 * i) (gDL w.nm).reverse.length = (gDL w.nm).reverse
        refine gBy_of _ _ (fun j hj => ?_)
        rw [List.length_reverse] at hj
        rw [gFl_in (by omega) (by omega), List.getD_eq_getElem?_getD (l := (gDL w.nm).reverse), List.getElem?_reverse hj, List.getD_eq_getElem?_getD, show 64 * i + j - 64 * i = j by omega]
  · simp (disch := decide) only [gUp_oo]
    rw [a3 n2]
    have bt := ok.2.2.2.2.2.2.1 e3
    have fin : ∀ (tt : Nat) (b : List Int), tt < 66 → gSl tt ≤ 64 → gSby.getD tt [] = b → gToT w = gTxt b → cV l G y_GM_word_2 (gRm (d + 5)) true [gR G o, gI (i : Int), .ref (Q.2.1 tt)] X (gUp (gUp M (o + 34) i 2) (o + 35) i 0) (fun M7 => ((¬ w.kd = 1 → (k M7)) ∧ (w.kd = 1 → ((0 ≤ (i : Int) ∧ (i : Int) < 1200) ∧ (g64 (M7 (o + 36) i) → (cV l G y_GM_digits (gRm (d + 5)) true [gR G o, gI (i : Int), gL (M7 (o + 36) i)] X M7 (fun M9 => (k M9)))))))) := by
      intro tt b t66 t64 eb eT
      refine r_word_2 hX hO hi t66 t64 (fun M2 o2 m1 m2 m3 => ⟨fun _ => ?_, fun q => absurd q (by omega)⟩)
      rw [eT] at h
      rw [eb] at m3
      refine h M2 (o1.tr o2) ⟨?_, ?_, fun q => absurd rfl q, m3⟩
      · rw [m1]
        simp (disch := decide) only [gUp_oo, gUp_eq]
        rfl
      · rw [m2]
        show _ = (b.length : Int)
        rw [← eb]
        rfl
    refine fun _ => ⟨fun z => fin 6 [70, 65, 76, 83, 69] (by decide) (by decide) rfl ?_, fun z => fin 5 [84, 82, 85, 69] (by decide) (by decide) rfl ?_⟩
    · unfold gToT
      rw [if_neg (by omega), if_pos e3, if_pos (by omega)]
    · unfold gToT
      rw [if_neg (by omega), if_pos e3, if_neg (by omega)]
  · refine h M (gOff.rf _ _) ?_
    have := ok.2.2.2.1 e2
    have eT : gToT w = w := by
      unfold gToT
      rw [if_neg (by omega), if_neg (by omega)]
      obtain ⟨x, y, z⟩ := w
      have e2 : x = 2 := e2
      rw [e2]
    rw [eT]
    exact ⟨a1, a2, a3, a4⟩
theorem gVcm_l {s t y : Int} {a b : List Int} (x x' : Int) (h : s = 2) : gVcm s x a t y b = gVcm s x' a t y b := by
  unfold gVcm
  subst h
  grind
theorem gVcm_r {s t x : Int} {a b : List Int} (y y' : Int) (h : t = 2) : gVcm s x a t y b = gVcm s x a t y' b := by
  unfold gVcm
  subst h
  grind
theorem r_compare {i j : Nat} {w u : gVl} {k : Int → gM → Prop} (hX : gmX X o) (hi : i < 1200) (hj : j < 1200) (hw : gmAt M o i w) (ow : gvOk w) (hu : gmAt M o j u) (ou : gvOk u) (h : k (gVc w u) M) : cI l G y_GM_compare (gRm d) false [gR G o, gI (i : Int), gI (j : Int)] X M k := by
  have l1 := ow.tx64
  have l2 := ou.tx64
  refine c_GM_compare hX ⟨by omega, by omega⟩ ⟨by omega, by omega⟩ (by rw [Int.toNat_natCast, hw.2.1]; omega) (by rw [Int.toNat_natCast, hu.2.1]; omega) ?_
  unfold gmTx
  simp only [Int.toNat_natCast]
  rw [hw.2.1, hu.2.1, Int.toNat_natCast, Int.toNat_natCast, show (64 * (i : Int)).toNat = 64 * i by omega, show (64 * (j : Int)).toNat = 64 * j by omega, hw.2.2.2, hu.2.2.2, hw.1, hu.1]
  have e1 : gVcm w.kd (M (o + 36) i) w.tx u.kd (M (o + 36) j) u.tx = gVcm w.kd w.nm w.tx u.kd (M (o + 36) j) u.tx := by
    by_cases q : w.kd = 2
    · exact gVcm_l _ _ q
    · rw [hw.2.2.1 q]
  have e2 : gVcm w.kd w.nm w.tx u.kd (M (o + 36) j) u.tx = gVcm w.kd w.nm w.tx u.kd u.nm u.tx := by
    by_cases q : u.kd = 2
    · exact gVcm_r _ _ q
    · rw [hu.2.2.1 q]
  rw [e1, e2, gVc_eq ow ou]
  exact h
end gcA
