/-! The reference: a call, behind its arguments. -/
def gmCx (M : gM) (o L : Nat) (E : Int → gVl) (T : Int → Int) (S : List Int) (P R : Int → Prop) : Prop :=
  gmEnv M o E ∧ (0 ≤ M o 51 ∧ M o 51 < 42 ∧ 0 ≤ M o 52 ∧ M o 52 < 5200) ∧ (∀ i, P i → (0 ≤ i ∧ i < 1000000) ∧ (0 ≤ gmRa M o (M o 51) (M o 52) i ∧ gmRa M o (M o 51) (M o 52) i < 873599) ∧ gmRf M o i = T i) ∧ gxTk T P R ∧ gBy M (o + 1) L S.length = S ∧ L + S.length ≤ 90000
theorem gmCx.keep {M M2 : gM} {o L : Nat} {E : Int → gVl} {T : Int → Int} {S : List Int} {P R : Int → Prop} {A : Nat → Nat → Prop} (h : gmCx M o L E T S P R) (q : gOff A M M2) (h1 : ∀ a k, A a k → (a = o + 34 ∨ a = o + 35 ∨ a = o + 36 ∨ a = o + 37 ∨ a = o + 38 ∨ a = o + 39 ∨ (a = o ∧ (k = 3 ∨ k = 50 ∨ (54 ≤ k ∧ k ≤ 59))))) : gmCx M2 o L E T S P R := by
  have e : ∀ a k, ¬ (a = o + 34 ∨ a = o + 35 ∨ a = o + 36 ∨ a = o + 37 ∨ a = o + 38 ∨ a = o + 39 ∨ (a = o ∧ (k = 3 ∨ k = 50 ∨ (54 ≤ k ∧ k ≤ 59)))) → M2 a k = M a k := fun a k z => q a k (fun y => z (h1 a k y))
  obtain ⟨h2, h3, h4, h5, h6, h7⟩ := h
  have e51 := e o 51 (by omega)
  have e52 := e o 52 (by omega)
  have ra : ∀ i, gmRa M2 o (M2 o 51) (M2 o 52) i = gmRa M o (M o 51) (M o 52) i := fun i => by
    unfold gmRa
    rw [e51, e52, e (o + 22) _ (by omega)]
  refine ⟨h2.keep (A := A) q (fun k => ⟨fun z => ?_, fun z => ?_, fun z => ?_, fun z => ?_⟩), by rw [e51, e52]; exact h3, fun i hi => ?_, h5, (gBy_congr _ _ _ (fun j _ => e _ _ (by omega))).trans h6, h7⟩
  · have := h1 _ _ z; omega
  · have := h1 _ _ z; omega
  · have := h1 _ _ z; omega
  · have := h1 _ _ z; omega
  · obtain ⟨a1, a2, a3⟩ := h4 i hi
    refine ⟨a1, by rw [ra]; exact a2, ?_⟩
    unfold gmRf at *
    rw [ra, e (o + 24) _ (by omega)]
    exact a3
theorem gmCx.keepF {M M2 : gM} {o L t : Nat} {E : Int → gVl} {T : Int → Int} {S : List Int} {P R : Int → Prop} (h : gmCx M o L E T S P R) (q : gOff (gmF o t) M M2) : gmCx M2 o L E T S P R :=
  h.keep q (fun a k z => by unfold gmF at z; omega)
theorem gxNd_F {M M2 : gM} {o L t : Nat} (q : gOff (gmF o t) M M2) (e : gEx) : gxNd M2 o L e = gxNd M o L e :=
  (gxNd_off (fun i h1 h2 => funext fun k => q _ _ (by unfold gmF; omega)) e).1
/-- arguments as a chain of nodes -/
def gxCh (M : gM) (o L : Nat) : List gEx → Int → Prop
  | [], _ => True
  | e :: es, n => (gxNd M o L e).1 n ∧ gxCh M o L es (M (o + 5) n.toNat)
theorem gxCh_F {M M2 : gM} {o L t : Nat} (q : gOff (gmF o t) M M2) : ∀ (es : List gEx) (n : Int), gxCh M o L es n → gxCh M2 o L es n := by
  intro es
  induction es with
  | nil => intro n _; trivial
  | cons e es ih =>
    intro n h
    refine ⟨by rw [gxNd_F q]; exact h.1, ?_⟩
    rw [q (o + 5) _ (by unfold gmF; omega)]
    exact ih _ h.2
theorem gxCh_of {M : gM} {o L : Nat} {P R : Int → Prop} {nb : Nat} : ∀ (e : gEx) (n : Int), (gxWf P R nb e).2 → (gxNd M o L e).2 n → gxCh M o L (gxAL e) n := by
  intro e
  induction e with
  | add x xs _ ih => intro n hw h; exact ⟨h.1, ih _ hw.2 h.2⟩
  | mulL k a _ => intro n hw; cases a <;> exact absurd hw (fun q => q)
  | num => intro n _ _; trivial
  | var => intro n hw; exact absurd hw (fun q => q)
  | neg => intro n hw; exact absurd hw (fun q => q)
  | mulR => intro n hw; exact absurd hw (fun q => q)
  | sub => intro n hw; exact absurd hw (fun q => q)
theorem gxNd_sort {M : gM} {o L : Nat} {P R : Int → Prop} {nb : Nat} {e : gEx} {n : Int} (hw : (gxWf P R nb e).1) (h : (gxNd M o L e).1 n) : (0 ≤ n ∧ n < 90000) ∧ (M (o + 2) n.toNat = 3 ↔ gxR e = true) ∧ (M (o + 2) n.toNat = 2 ↔ gxV e = true) := by
  have mk : ∀ s : Int, gNr M o n s → (s = 3 ↔ gxR e = true) → (s = 2 ↔ gxV e = true) → (0 ≤ n ∧ n < 90000) ∧ (M (o + 2) n.toNat = 3 ↔ gxR e = true) ∧ (M (o + 2) n.toNat = 2 ↔ gxV e = true) := fun s hs h3 h2 => by
    obtain ⟨a, b, c⟩ := hs
    exact ⟨⟨a, b⟩, by rw [c]; exact h3, by rw [c]; exact h2⟩
  cases e with
  | num x => exact mk 0 h.1 ⟨fun q => by omega, fun q => by cases q⟩ ⟨fun q => by omega, fun q => by cases q⟩
  | var i => exact mk 2 h.1 ⟨fun q => by omega, fun q => by cases q⟩ ⟨fun _ => rfl, fun _ => rfl⟩
  | neg a => exact mk 5 h.1 ⟨fun q => by omega, fun q => by cases q⟩ ⟨fun q => by omega, fun q => by cases q⟩
  | mulR a k => exact mk _ h.1 ⟨fun q => by split at q <;> omega, fun q => by cases q⟩ ⟨fun q => by split at q <;> omega, fun q => by cases q⟩
  | mulL k a =>
    cases a with
    | num q => exact mk 1 h.1 ⟨fun q => by omega, fun q => by cases q⟩ ⟨fun q => by omega, fun q => by cases q⟩
    | var q => exact mk 4 h.1 ⟨fun q => by omega, fun q => by cases q⟩ ⟨fun q => by omega, fun q => by cases q⟩
    | add x y => exact mk 7 h.1 ⟨fun q => by omega, fun q => by cases q⟩ ⟨fun q => by omega, fun q => by cases q⟩
    | neg x => exact mk 3 h.1 ⟨fun _ => rfl, fun _ => rfl⟩ ⟨fun q => by omega, fun q => by cases q⟩
    | _ => exact absurd hw (fun q => q)
  | sub f as =>
    cases f with
    | num w => exact mk 8 h.1 ⟨fun q => by omega, fun q => by cases q⟩ ⟨fun q => by omega, fun q => by cases q⟩
    | _ => exact absurd hw (fun q => q)
  | add x y => exact absurd hw (fun q => q)
/-- what stands behind a function's outcome -/
def gmDn (l : Launch) (G : gG) (d : Nat) (X : gX) (k : gM → Prop) (o s : Nat) (M1 : gM) : Prop := (g32 (M1 o 50) → (((0 : Int) ≤ (M1 o 50) - 1 ∧ (M1 o 50) - 1 < 1200) ∧ (g32 (M1 (o + 34) (Int.toNat ((M1 o 50) - 1))) → (((0 : Int) ≤ (s : Int) ∧ (s : Int) < 1200) ∧ (((0 : Int) ≤ (M1 o 50) - 1 ∧ (M1 o 50) - 1 < 1200) ∧ (g64 ((gUp M1 (o + 34) (Int.toNat (s : Int)) (M1 (o + 34) (Int.toNat ((M1 o 50) - 1)))) (o + 36) (Int.toNat ((M1 o 50) - 1))) → (((0 : Int) ≤ (s : Int) ∧ (s : Int) < 1200) ∧ (((0 : Int) ≤ (M1 o 50) - 1 ∧ (M1 o 50) - 1 < 1200) ∧ (g32 ((gUp (gUp M1 (o + 34) (Int.toNat (s : Int)) (M1 (o + 34) (Int.toNat ((M1 o 50) - 1)))) (o + 36) (Int.toNat (s : Int)) ((gUp M1 (o + 34) (Int.toNat (s : Int)) (M1 (o + 34) (Int.toNat ((M1 o 50) - 1)))) (o + 36) (Int.toNat ((M1 o 50) - 1)))) (o + 35) (Int.toNat ((M1 o 50) - 1))) → (((0 : Int) ≤ (s : Int) ∧ (s : Int) < 1200) ∧ (wp l G y_GM_call_2 (gRm (d + 5)) true (kkV X k) true 583 [.val (gR G o), .unset, .unset, .unset, .unset, .unset, .unset, .unset, .unset, .val (gI (s : Int)), .unset, .unset, .val (gI (w32 ((M1 o 50) - 1))), .val (gI 0), .unset] [] X (gUp (gUp (gUp M1 (o + 34) (Int.toNat (s : Int)) (M1 (o + 34) (Int.toNat ((M1 o 50) - 1)))) (o + 36) (Int.toNat (s : Int)) ((gUp M1 (o + 34) (Int.toNat (s : Int)) (M1 (o + 34) (Int.toNat ((M1 o 50) - 1)))) (o + 36) (Int.toNat ((M1 o 50) - 1)))) (o + 35) (Int.toNat (s : Int)) ((gUp (gUp M1 (o + 34) (Int.toNat (s : Int)) (M1 (o + 34) (Int.toNat ((M1 o 50) - 1)))) (o + 36) (Int.toNat (s : Int)) ((gUp M1 (o + 34) (Int.toNat (s : Int)) (M1 (o + 34) (Int.toNat ((M1 o 50) - 1)))) (o + 36) (Int.toNat ((M1 o 50) - 1)))) (o + 35) (Int.toNat ((M1 o 50) - 1)))) 0 0)))))))))))
section gcI
variable {l : Launch} {G : gG} {d : Nat} {X : gX} {M : gM} {o s t w : Nat} {Q : gQ} {E : Int → gVl} {k : gM → Prop} {as : Nat → gVl} {V : gVl}
/-- the outcome comes down to the place of the first argument -/
theorem gm_down {M0 M1 : gM} (hX : gmX X o) (hO : gOld G Q) (hst : s ≤ t) (hn : t < 1199) (o1 : gOff (gmF o s) M0 M1) (hV : gmAt M1 o t V) (ov : gvOk V) (ht : M1 o 50 = (t : Int) + 1) (h : gmPost M0 o s V k) : gmDn l G d X k o s M1 := by
  unfold gmDn
  have l64 := ov.tx64
  rw [ht, show (t : Int) + 1 - 1 = (t : Int) by omega, Int.toNat_natCast, Int.toNat_natCast, w32_id (x := (t : Int)) ⟨by omega, by omega⟩]
  simp (disch := decide) only [gUp_oo]
  rw [hV.1, hV.2.1]
  have b0 : (0 : Int) ≤ (t : Int) ∧ (t : Int) < 1200 := ⟨by omega, by omega⟩
  have b1 : (0 : Int) ≤ (s : Int) ∧ (s : Int) < 1200 := ⟨by omega, by omega⟩
  refine fun _ => ⟨b0, fun _ => ⟨b1, b0, fun _ => ⟨b1, b0, fun _ => ⟨b1, ?_⟩⟩⟩⟩
  generalize hMb : gUp (gUp (gUp M1 (o + 34) s V.kd) (o + 36) s (M1 (o + 36) t)) (o + 35) s (V.tx.length : Int) = Mb
  have oMb : gOff (gmF o s) M0 Mb := by
    rw [← hMb]
    refine ((o1.up ?_).up ?_).up ?_ <;> unfold gmF <;> omega
  have m34 : Mb (o + 34) s = V.kd := by rw [← hMb]; simp (disch := decide) only [gUp_oo, gUp_eq]
  have m35 : ∀ j, j = s ∨ j = t → Mb (o + 35) j = (V.tx.length : Int) := fun j hj => by
    rw [← hMb]
    by_cases e : j = s
    · rw [e, gUp_eq]
    · have : j = t := by omega
      rw [gUp_k e]
      simp (disch := decide) only [gUp_oo]
      rw [this]
      exact hV.2.1
  have m36 : V.kd ≠ 2 → Mb (o + 36) s = V.nm := fun q => by
    rw [← hMb]
    simp (disch := decide) only [gUp_oo, gUp_eq]
    exact hV.2.2.1 q
  have m37 : ∀ j, Mb (o + 37) j = M1 (o + 37) j := fun j => by rw [← hMb]; simp (disch := decide) only [gUp_oo]
  have key : ∀ (m q : Nat), q + m = V.tx.length → wp l G y_GM_call_2 (gRm (d + 5)) true (kkV X k) true 583 [.val (gR G o), .unset, .unset, .unset, .unset, .unset, .unset, .unset, .unset, .val (gI (s : Int)), .unset, .unset, .val (gI (t : Int)), .val (gI (q : Int)), .unset] [] X (gFl Mb (o + 37) (64 * s) (fun j => V.tx.getD j 0) q) 0 0 := by
    intro m
    induction m with
    | zero =>
      intro q hq
      have e : q = V.tx.length := by omega
      subst e
      refine w_GM_call_2_583 hX hO ⟨by omega, by omega⟩ ⟨by omega, by omega⟩ ⟨by omega, by omega⟩ ⟨b0, ?_⟩
      rw [Int.toNat_natCast, gFl_oo (by decide), m35 t (Or.inr rfl), w32_id (x := (s : Int) + 1) ⟨by omega, by omega⟩]
      refine fun _ => ⟨fun _ => h _ ?_ ⟨?_, ?_, fun z => ?_, ?_⟩ (gUp_eq _ _ _ _), fun z => absurd (Int.le_refl _) z⟩
      · refine (oMb.fl (fun j _ _ => ?_)).up ?_ <;> unfold gmF <;> omega
      · rw [gUp_ao (by decide), gFl_oo (by decide), m34]
      · rw [gUp_ao (by decide), gFl_oo (by decide), m35 s (Or.inl rfl)]
      · rw [gUp_ao (by decide), gFl_oo (by decide), m36 z]
      · refine gBy_of _ _ (fun j hj => ?_)
        rw [gUp_ao (by decide), gFl_in (by omega) (by omega)]
        congr 1
        omega
    | succ m ih =>
      intro q hq
      have i1 := ih (q + 1) (by omega)
      refine w_GM_call_2_583 hX hO ⟨by omega, by omega⟩ ⟨by omega, by omega⟩ ⟨by omega, by omega⟩ ⟨b0, ?_⟩
      have rd : (gFl Mb (o + 37) (64 * s) (fun j => V.tx.getD j 0) q) (o + 37) (64 * t + q) = V.tx.getD q 0 := by
        rw [gFl_out (by omega), m37]
        exact gBy_at hV.2.2.2 (by omega)
      rw [Int.toNat_natCast, gFl_oo (by decide), m35 t (Or.inr rfl), show (64 * (t : Int) + (q : Int)).toNat = 64 * t + q by omega, rd, show (64 * (s : Int) + (q : Int)).toNat = 64 * s + q by omega, gI_w]
      refine fun _ => ⟨fun z => absurd z (by omega), fun _ => ⟨⟨by omega, by omega⟩, fun bq => ⟨⟨by omega, by omega⟩, ?_⟩⟩⟩
      rw [gByte_id bq]
      rw [← gFl_s] at i1
      exact i1
  have k0 := key V.tx.length 0 (by omega)
  rw [gFl_0] at k0
  exact k0
/-- the box is opened if there is a range; the function; its outcome comes down -/
theorem gm_509 {M0 : gM} {f x10 : Int} (hX : gmX X o) (hO : gOld G Q) (hw : 14 ≤ w ∧ w < 52) (h5 : gWgr w ≠ 5) (hf : f = (w : Int) - 14) (hst : s + gSl (gWta w) = t) (hn : t < 1199) (ht : M o 50 = (t : Int)) (hE : gmEnv M o E) (o1 : gOff (gmF o s) M0 M)
    (hA : ∀ i, i < gSl (gWta w) → gvOk (as i) ∧ gSuit (gSc (gWta w) i) (as i) ∧ (gSc (gWta w) i ≠ 114 → gmAt M o (s + i) (as i)))
    (hr : (∀ i, i < gSl (gWta w) → gSc (gWta w) i ≠ 114) ∧ x10 = -1 ∨ (0 ≤ x10 ∧ x10 < 90000) ∧ (0 ≤ M o 51 ∧ M o 51 < 42 ∧ 0 ≤ M o 52 ∧ M o 52 < 5200) ∧ (0 ≤ M (o + 3) x10.toNat ∧ M (o + 3) x10.toNat < 1000000) ∧ (0 ≤ gmRa M o (M o 51) (M o 52) (M (o + 3) x10.toNat) ∧ gmRa M o (M o 51) (M o 52) (M (o + 3) x10.toNat) < 873599) ∧ ∃ p q : Int, (0 ≤ p ∧ p < 5200 ∧ 0 ≤ q ∧ q < 5200) ∧ gmRf M o (M (o + 3) x10.toNat) = p ∧ (M (o + 2) x10.toNat = 3 → gmRf M o (M (o + 3) x10.toNat + 1) = q) ∧ (¬ M (o + 2) x10.toNat = 3 → q = p) ∧ ∀ i, i < gSl (gWta w) → gSc (gWta w) i = 114 → (as i).nm = p * 5200 + q)
    (h : gmPost M0 o s (gWk E w (as 0) (as 1) (as 2)) k) : wp l G y_GM_call_2 (gRm (d + 9)) true (kkV X k) true 509 [.val (gR G o), .unset, .unset, .unset, .unset, .val (gI f), .val (gI (gSl (gWta w) : Int)), .unset, .unset, .val (gI (s : Int)), .val (gI x10), .unset, .unset, .unset, .unset] [] X M 0 0 := by
  have gl4 := (gGl w hw.2).1
  have ok := gWk_ok (E := E) (w := w) (as := as) (fun p h0 h1 => by have := (hE p.toNat (by omega)).1; rw [Int.toNat_of_nonneg h0] at this; exact this) hw.2 h5 (fun i hi => ⟨(hA i hi).1, (hA i hi).2.1⟩)
  have fwd : ∀ {M1 : gM}, gOff (gmF o s) M0 M1 → M1 o 50 = (t : Int) → gmEnv M1 o E → gmArgs M1 o s w as → gmPost M1 o t (gWk E w (as 0) (as 1) (as 2)) (gmDn l G (d + 4) X k o s) := fun o2 t2 e2 a2 M3 o3 a3 t3 => gm_down (d := d + 4) (t := t) hX hO (by omega) hn (o2.tr (o3.mono (gmF_le (by omega)))) a3 ok.1 t3 h
  refine w_GM_call_2_509 (d := d + 4) hX hO ⟨by omega, by omega⟩ ⟨by omega, by omega⟩ ⟨by omega, by omega⟩ ⟨by omega, by omega⟩ ⟨fun z => ?_, fun z => ?_⟩
  · have nr : ∀ i, i < gSl (gWta w) → gSc (gWta w) i ≠ 114 := by
      rcases hr with q | q
      · exact q.1
      · omega
    have a2 : gmArgs M o s w as := fun i hi => ⟨(hA i hi).1, (hA i hi).2.1, (hA i hi).2.2, fun q => absurd q (nr i hi)⟩
    exact r_function (d := d + 4) hX hw h5 hf hst hn ht hE a2 (fwd o1 ht hE a2)
  · rcases hr with q | ⟨r1, r2, r3, r4, p, q, r5, r6, r7, r8, r9⟩
    · omega
    · refine c_GM_box (d := d + 6) hX r1 ⟨r2.1, r2.2.1⟩ ⟨r2.2.2.1, r2.2.2.2⟩ r3 r4 (by rw [r6]; omega) (fun q3 => by rw [r7 q3]; omega) ?_
      have eq : (if M (o + 2) x10.toNat = 3 then gmRf M o (M (o + 3) x10.toNat + 1) else gmRf M o (M (o + 3) x10.toNat)) = q := by
        by_cases z3 : M (o + 2) x10.toNat = 3
        · rw [if_pos z3, r7 z3]
        · rw [if_neg z3, r6, r8 z3]
      rw [eq, r6]
      have oB : gOff (fun a k => a = o ∧ 56 ≤ k ∧ k ≤ 59) M (gmBox M o p q) := by
        unfold gmBox
        refine gOff.up (gOff.up (gOff.up (gOff.up (gOff.rf _ M) ?_) ?_) ?_) ?_ <;> omega
      have bb : ∀ x : Int, x = p * 5200 + q → gmBb (gmBox M o p q) o (gBox x) := fun x ex => by
        subst ex
        have e1 : (p * 5200 + q) / 5200 = p := by omega
        have e2 : (p * 5200 + q) % 5200 = q := by omega
        unfold gBox
        rw [e1, e2]
        refine ⟨?_, ?_, ?_, ?_⟩
        · unfold gmBox gmCo; simp (disch := decide) only [gUp_eq, gUp_k]; rfl
        · unfold gmBox gmCo; simp (disch := decide) only [gUp_eq, gUp_k]; rfl
        · unfold gmBox gmCo; simp (disch := decide) only [gUp_eq, gUp_k]; rfl
        · unfold gmBox gmCo; simp (disch := decide) only [gUp_eq, gUp_k]; rfl
      have hE2 : gmEnv (gmBox M o p q) o E := hE.keep oB (fun k => by omega)
      have a2 : gmArgs (gmBox M o p q) o s w as := fun i hi => ⟨(hA i hi).1, (hA i hi).2.1, fun z4 => ((hA i hi).2.2 z4).keep oB (by omega) (by omega) (by omega) (fun j _ => by omega), fun z4 => bb _ (r9 i hi z4)⟩
      have o2 : gOff (gmF o s) M0 (gmBox M o p q) := o1.tr (oB.mono (fun a k z => by unfold gmF; omega))
      have t2 : gmBox M o p q o 50 = (t : Int) := (oB _ _ (by omega)).trans ht
      exact r_function (d := d + 4) hX hw h5 hf hst hn t2 hE2 a2 (fwd o2 t2 hE2 a2)
end gcI
