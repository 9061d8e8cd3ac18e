/-! The class's Machine: a run of code works a tree out. -/
def gxW (l : Launch) (G : gG) (d : Nat) (X : gX) (k : gM → Prop) (c : Nat) (zz a lf : Int) (M : gM) : Prop := wp l G y_Ma_run (gRm (d + 9)) true (kkV X k) true 55 [.val (gR G (c + 1057)), .unset, .unset, .val (gI zz), .val (gI a), .val (gI lf), .unset, .unset, .unset, .unset] [] X M 0 0
/-- all that a run rests on: values of places, refs of the cell that is worked out -/
def gxCx (X : gX) (M : gM) (c s0 v : Nat) (E : Int → gVl) (T : Int → Int) (P R : Int → Prop) (f0 : Int) : Prop := gEnv X M c v E ∧ (M (c + 1057) 5 = f0 ∧ 0 ≤ f0) ∧ (∀ i, P i → 0 ≤ i ∧ f0 + i < 20000 ∧ M (s0 + 4) (f0 + i).toNat = T i) ∧ gxTk T P R
theorem gxCx.keep {X : gX} {M M2 : gM} {c s0 v n : Nat} {E : Int → gVl} {T : Int → Int} {P R : Int → Prop} {f0 : Int} (h : gxCx X M c s0 v E T P R f0) (hs : c + 23 < s0 ∧ s0 + 4 < c + 234) (o : gOff (gxF c n) M M2) : gxCx X M2 c s0 v E T P R f0 :=
  ⟨h.1.keepF o, ⟨(o _ _ (by unfold gxF gAb; omega)).trans h.2.1.1, h.2.1.2⟩, fun i hi => ⟨(h.2.2.1 i hi).1, (h.2.2.1 i hi).2.1, (o _ _ (by unfold gxF gAb; omega)).trans (h.2.2.1 i hi).2.2⟩, h.2.2.2⟩
theorem gEnv.P {X : gX} {M : gM} {c v : Nat} {E : Int → gVl} (h : gEnv X M c v E) : ∀ p, 0 ≤ p → p < 5200 → gvP (E p) := fun p h0 h1 => ⟨(h.2.2 p h0 h1).2.2.2.1, (h.2.2 p h0 h1).2.2.2.2⟩
section gbR
variable {l : Launch} {G : gG} {d : Nat} {X : gX} {M : gM} {c s0 v zz B : Nat} {Q : gQ} {E : Int → gVl} {T : Int → Int} {S : List Int} {P R : Int → Prop} {f0 : Int} {k : gM → Prop}
theorem gx_push {a : Nat} {op x lf : Int} (hX : glX X c) (hO : gOld G Q) (hs0 : X.2.2 (c + 1057) 4 = s0 ∧ gsX X s0) (hA : gAt2 M c a op x) (hop : op < 7) (ha : a < zz ∧ zz ≤ 10480) (hl : 0 < lf ∧ lf ≤ 20000) (h : cV l G y_Ma_push (gRm (d + 8)) true [gR G (c + 1057), gI op, gL x] X M (fun M2 => gxW l G d X k c zz ((a + 1 : Nat) : Int) (lf - 1) M2)) : gxW l G d X k c zz (a : Int) lf M := by
  refine w_Ma_run_55 (d := d + 4) hX hO ⟨by omega, by omega⟩ ⟨by omega, by omega⟩ ⟨by omega, by omega⟩ hs0 ⟨fun z => absurd z (by omega), fun _ => ⟨fun z => absurd z (by omega), fun _ => ⟨⟨by omega, by omega⟩, ?_⟩⟩⟩
  rw [gT0, hA.1, hA.2]
  simp only [gI_w]
  exact fun _ => ⟨⟨by omega, by omega⟩, fun _ => ⟨fun _ => ⟨fun _ => ⟨fun _ => h, fun z => absurd hop z⟩, fun z => absurd z (by omega)⟩, fun z => absurd z (by omega)⟩⟩
theorem gx_jump {a y : Nat} {lf : Int} (hX : glX X c) (hO : gOld G Q) (hs0 : X.2.2 (c + 1057) 4 = s0 ∧ gsX X s0) (hA : gAt2 M c a 10 (y : Int)) (ha : a < zz ∧ zz ≤ 10480) (hl : 0 < lf ∧ lf ≤ 20000) (h : gxW l G d X k c zz (y : Int) (lf - 1) M) : gxW l G d X k c zz (a : Int) lf M := by
  refine w_Ma_run_55 (d := d + 4) hX hO ⟨by omega, by omega⟩ ⟨by omega, by omega⟩ ⟨by omega, by omega⟩ hs0 ⟨fun z => absurd z (by omega), fun _ => ⟨fun z => absurd z (by omega), fun _ => ⟨⟨by omega, by omega⟩, ?_⟩⟩⟩
  rw [gT0, hA.1, hA.2]
  simp only [gI_w]
  exact fun _ => ⟨⟨by omega, by omega⟩, fun _ => ⟨fun _ => ⟨fun z => absurd trivial z, fun _ => h⟩, fun z => absurd z (by decide)⟩⟩
theorem gx_pick {a : Nat} {op x lf : Int} (hX : glX X c) (hO : gOld G Q) (hs0 : X.2.2 (c + 1057) 4 = s0 ∧ gsX X s0) (hA : gAt2 M c a op x) (hop : 7 ≤ op ∧ op < 10) (ha : a < zz ∧ zz ≤ 10480) (hl : 0 < lf ∧ lf ≤ 20000) (h : cI l G y_Ma_pick (gRm (d + 8)) true [gR G (c + 1057), gI op, gL x, gI ((a : Int) + 1)] X M (fun y M2 => gxW l G d X k c zz y (lf - 1) M2)) : gxW l G d X k c zz (a : Int) lf M := by
  refine w_Ma_run_55 (d := d + 4) hX hO ⟨by omega, by omega⟩ ⟨by omega, by omega⟩ ⟨by omega, by omega⟩ hs0 ⟨fun z => absurd z (by omega), fun _ => ⟨fun z => absurd z (by omega), fun _ => ⟨⟨by omega, by omega⟩, ?_⟩⟩⟩
  rw [gT0, hA.1, hA.2]
  simp only [gI_w]
  exact fun _ => ⟨⟨by omega, by omega⟩, fun _ => ⟨fun _ => ⟨fun _ => ⟨fun z => absurd z (by omega), fun _ => h⟩, fun z => absurd z (by omega)⟩, fun z => absurd z (by omega)⟩⟩
theorem gx_apply {a t w : Nat} {lf : Int} {as : Nat → gVl} (hX : glX X c) (hO : gOld G Q) (hs0 : X.2.2 (c + 1057) 4 = s0 ∧ gsX X s0) (hA : gAt2 M c a 11 (w : Int)) (hw : w < 52) (h5 : gWgr w ≠ 5) (ha : a < zz ∧ zz ≤ 10480) (hl : 0 < lf ∧ lf ≤ 20000) (hE : gEnv X M c v E) (ht : M (c + 1057) 6 = ((t + gSl (gWta w) : Nat) : Int)) (hn : t + 2 < 104) (hAs : ∀ i, i < gSl (gWta w) → gvAt M (c + 1058) (t + i) (as i) ∧ gSuit0 (gSc (gWta w) i) (as i))
    (h : ∀ M2, gOff (gxF c t) M M2 → gvAt M2 (c + 1058) t (gApp E w as) → M2 (c + 1057) 6 = (t : Int) + 1 → gxW l G d X k c zz ((a + 1 : Nat) : Int) (lf - 1) M2) : gxW l G d X k c zz (a : Int) lf M := by
  have hl3 := (gGl w hw).2 h5
  refine w_Ma_run_55 (d := d + 4) hX hO ⟨by omega, by omega⟩ ⟨by omega, by omega⟩ ⟨by omega, by omega⟩ hs0 ⟨fun z => absurd z (by omega), fun _ => ⟨fun z => absurd z (by omega), fun _ => ⟨⟨by omega, by omega⟩, ?_⟩⟩⟩
  rw [gT0, hA.1, hA.2]
  simp only [gI_w]
  refine fun _ => ⟨⟨by omega, by omega⟩, fun _ => ⟨fun z => absurd trivial z, fun _ => ?_⟩⟩
  rw [w32_id (x := (w : Int)) ⟨by omega, by omega⟩, gT0, ht, w32_id (x := ((t + gSl (gWta w) : Nat) : Int) - ((gSl (gWta w) : Int) - 1)) ⟨by omega, by omega⟩, gUp_eq]
  refine ⟨⟨by omega, by omega⟩, fun _ _ => ?_⟩
  rw [show ((t + gSl (gWta w) : Nat) : Int) - ((gSl (gWta w) : Int) - 1) = (t : Int) + 1 by omega, show (t : Int) + 1 - 1 = (t : Int) by omega]
  have o0 : gOff (gxF c t) M (gUp M (c + 1057) 6 ((t : Int) + 1)) := (gOff.rf _ M).up (Or.inr ⟨rfl, rfl⟩)
  have oo : gOff (fun a k => a = c + 1057 ∧ k = 6) M (gUp M (c + 1057) 6 ((t : Int) + 1)) := (gOff.rf _ M).up ⟨rfl, rfl⟩
  refine c_Ma_isReady (E := E) hX hO hn hw hl3 (fun i hi => ⟨(hAs i hi).1.keep oo (by omega) (by omega) (fun j _ => by omega), (hAs i hi).2⟩) (fun e M2 _ e1 o1 a1 => ⟨fun _ => ?_, fun z => absurd rfl z⟩) (fun bs M2 o1 a1 e1 => ⟨fun z => absurd z (by decide), fun _ _ => ?_⟩)
  · refine h M2 (o0.tr (o1.mono (gxF_ab (Nat.le_refl _)))) (by rw [e1]; exact a1) ?_
    exact (o1 _ _ (by unfold gAb; omega)).trans (gUp_eq _ _ _ _)
  · have tp : M2 (c + 1057) 6 = (t : Int) + 1 := (o1 _ _ (by unfold gAb; omega)).trans (gUp_eq _ _ _ _)
    rw [tp, show (t : Int) + 1 - 1 = (t : Int) by omega]
    refine c_Ma_workOut (d := d + 3) (E := E) (v := v) hX hO hn hw h5 ((hE.keepF o0).keepA o1) a1 (fun M3 o3 a3 => h M3 ((o0.tr (o1.mono (gxF_ab (Nat.le_refl _)))).tr (o3.mono (gxF_mr (Nat.le_refl _) (by omega)))) (by rw [e1]; exact a3) ?_)
    exact (o3 _ _ (by unfold gMr gVs; omega)).trans tp
/-- run from a, a tree's code works it out on top of t values -/
def gxG (l : Launch) (G : gG) (d : Nat) (X : gX) (k : gM → Prop) (c s0 v zz B : Nat) (E : Int → gVl) (T : Int → Int) (S : List Int) (P R : Int → Prop) (f0 : Int) (e : gEx) : Prop :=
  ∀ (a t : Nat) (M : gM) (lf : Int), gxCx X M c s0 v E T P R f0 → (gxCo M c S B e).1 a → M (c + 1057) 6 = (t : Int) → t + (gxLn e).1 ≤ 101 → a + (gxLn e).1 ≤ zz → (zz : Int) - a ≤ lf → lf ≤ 20000 →
    (∀ M2 lf2, gOff (gxF c t) M M2 → gvAt M2 (c + 1058) t (gxEv E T S e).1 → M2 (c + 1057) 6 = (t : Int) + 1 → (zz : Int) - ((a + (gxLn e).1 : Nat) : Int) ≤ lf2 → lf2 ≤ 20000 → gxW l G d X k c zz ((a + (gxLn e).1 : Nat) : Int) lf2 M2) → gxW l G d X k c zz (a : Int) lf M
/-- code in a memory that a run has written in -/
theorem gxCo_off {M M2 : gM} {n : Nat} {e : gEx} {nb : Nat} (o : gOff (gxF c n) M M2) (hw : (gxWf P R nb e).1) {a : Nat} (h : (gxCo M c S B e).1 a) : (gxCo M2 c S B e).1 a :=
  (gxCo_keep (P := P) (R := R) (n := nb) (Nat.le_refl B) (fun j _ => o _ _ (by unfold gxF gAb; omega)) e).1 hw a (fun j _ _ => ⟨o _ _ (by unfold gxF gAb; omega), o _ _ (by unfold gxF gAb; omega)⟩) h
theorem gxK_off {M M2 : gM} {n : Nat} (o : gOff (gxF c n) M M2) {nb : Nat} {e : gEx} (hw : (gxWf P R nb e).1) : gxK M M2 c S B B e := fun _ _ h => gxCo_off o hw h
theorem gEq2_off {M M2 : gM} {n a b : Nat} (o : gOff (gxF c n) M M2) : gEq2 M M2 c a b := fun j _ _ => ⟨o _ _ (by unfold gxF gAb; omega), o _ _ (by unfold gxF gAb; omega)⟩
theorem gx_box {e : gEx} {a t : Nat} {lf : Int} {nb : Nat} (hX : glX X c) (hO : gOld G Q) (hs0 : X.2.2 (c + 1057) 4 = s0 ∧ gsX X s0) (hC : gxCx X M c s0 v E T P R f0) (hw : (gxWf P R nb e).1) (hA : gxBc M c e a) (ht : M (c + 1057) 6 = (t : Int)) (hn : t < 104) (ha : a < zz ∧ zz ≤ 10480) (hl : 0 < lf ∧ lf ≤ 20000) (h : ∀ M2, gOff (gxF c t) M M2 → gvAt M2 (c + 1058) t (gxBx T e) → M2 (c + 1057) 6 = (t : Int) + 1 → gxW l G d X k c zz ((a + 1 : Nat) : Int) (lf - 1) M2) : gxW l G d X k c zz (a : Int) lf M := by
  have cases2 : ∀ (i op : Int), (op = 5 ∨ op = 6) → P i → (op = 6 → R i) → gAt2 M c a op i → gxBx T e = (if T i < 0 then gE 2 else ⟨5, T i * 5200 + (if op = 6 then T (i + 1) else T i), []⟩) → gxW l G d X k c zz (a : Int) lf M := by
    intro i op hop hp hr hA eV
    have p1 := hC.2.2.1 i hp
    have b1 := hC.2.2.2.1 i hp
    have f0p := hC.2.1.2
    refine gx_push hX hO hs0 hA (by omega) ha hl (c_Ma_pushR (d := d + 5) (t := t) (E := E) (p := T i) (q := T (i + 1)) (V := gxBx T e) hX hC.1 hs0 (Or.inr hop) ⟨p1.1, by omega⟩ (by rw [hC.2.1.1]) ⟨by omega, p1.2.1⟩ p1.2.2 b1 (fun e6 h0 => ?_) hn ht ?_ h)
    · have r1 := hC.2.2.2.2 i (hr e6)
      have p2 := hC.2.2.1 (i + 1) r1.2.1
      have b2 := hC.2.2.2.1 (i + 1) r1.2.1
      exact ⟨by omega, by rw [show f0 + i + 1 = f0 + (i + 1) by omega]; exact p2.2.2, r1.2.2 h0, b2.2⟩
    · rw [eV, if_neg (show ¬ op = 4 by omega)]
  cases e with
  | var i => exact cases2 (i : Int) 5 (Or.inl rfl) hw (fun q => absurd q (by decide)) hA (by rw [if_neg (show ¬ (5 : Int) = 6 by decide)]; rfl)
  | mulL i b =>
    cases b with
    | neg b => exact cases2 i 6 (Or.inr rfl) (hC.2.2.2.2 i hw).1 (fun _ => hw) hA (by rw [if_pos rfl]; rfl)
    | _ => exact absurd hA (fun z => z)
  | _ => exact absurd hA (fun z => z)
theorem gx_seq {nb : Nat} (hX : glX X c) (hO : gOld G Q) (hs0 : X.2.2 (c + 1057) 4 = s0 ∧ gsX X s0) (hs1 : c + 23 < s0 ∧ s0 + 4 < c + 234) (hz : zz ≤ 10480) : ∀ (ls : List Int) (es : List gEx) (a t : Nat) (M : gM) (lf : Int), (∀ e ∈ es, (gxWf P R nb e).1 ∧ (gxR e = false → gxG l G d X k c s0 v zz B E T S P R f0 e)) → gxRt ls es = true → gxCx X M c s0 v E T P R f0 → gxSq M c ls es (es.map (fun x => (gxCo M c S B x).1)) (es.map (fun x => (gxLn x).1)) a → M (c + 1057) 6 = (t : Int) → t + (es.map (fun x => (gxLn x).1)).sum ≤ 101 → a + (es.map (fun x => (gxLn x).1)).sum < zz → (zz : Int) - a ≤ lf → lf ≤ 20000 →
    (∀ M2 lf2, gOff (gxF c t) M M2 → (∀ i, i < es.length → gvAt M2 (c + 1058) (t + i) (gxAv E T S ls es i)) → M2 (c + 1057) 6 = ((t + es.length : Nat) : Int) → (zz : Int) - ((a + (es.map (fun x => (gxLn x).1)).sum : Nat) : Int) ≤ lf2 → lf2 ≤ 20000 → gxW l G d X k c zz ((a + (es.map (fun x => (gxLn x).1)).sum : Nat) : Int) lf2 M2) → gxW l G d X k c zz (a : Int) lf M := by
  intro ls
  induction ls with
  | nil =>
    intro es a t M lf he hr hC hA ht hn ha hl hl2 h
    cases es with
    | nil => exact h M lf (gOff.rf _ _) (fun i hi => absurd hi (Nat.not_lt_zero _)) ht hl hl2
    | cons => cases hr
  | cons x ls ih =>
    intro es a t M lf he hr hC hA ht hn ha hl hl2 h
    cases es with
    | nil => cases hr
    | cons e es =>
      have hs : (List.map (fun x : gEx => (gxLn x).1) (e :: es)).sum = (gxLn e).1 + (es.map (fun x => (gxLn x).1)).sum := by rw [List.map_cons, List.sum_cons]
      rw [hs] at hn ha h
      obtain ⟨we, ge⟩ := he e List.mem_cons_self
      have pos := gxLn_pos e we
      obtain ⟨h1, h2⟩ := hA
      unfold gxRt at hr
      rw [Bool.and_eq_true] at hr
      -- behind the first argument
      have rest : ∀ (M2 : gM) (lf2 : Int), gOff (gxF c t) M M2 → gvAt M2 (c + 1058) t (if x = 114 then gxBx T e else (gxEv E T S e).1) → M2 (c + 1057) 6 = (t : Int) + 1 → (zz : Int) - ((a + (gxLn e).1 : Nat) : Int) ≤ lf2 → lf2 ≤ 20000 → gxW l G d X k c zz ((a + (gxLn e).1 : Nat) : Int) lf2 M2 := by
        intro M2 lf2 o2 a2 t2 l2 l3
        refine ih es (a + (gxLn e).1) (t + 1) M2 lf2 (fun y hy => he y (List.mem_cons_of_mem _ hy)) hr.2 (hC.keep hs1 o2) (gxSq_keep _ es _ (fun y hy => ⟨gxLn_pos y (he y (List.mem_cons_of_mem _ hy)).1, gxK_off o2 (he y (List.mem_cons_of_mem _ hy)).1⟩) (gEq2_off o2) h2) (by rw [t2]; omega) (by omega) (by omega) l2 l3 (fun M3 lf3 o3 a3 t3 l4 l5 => ?_)
        rw [Nat.add_assoc] at l4 ⊢
        refine h M3 lf3 (o2.tr (o3.mono (gxF_le (by omega)))) (fun i hi => ?_) (by rw [t3, List.length_cons]; congr 1; omega) l4 l5
        cases i with
        | zero =>
          have := gxF_at o3 (t := t) (by omega) (by omega) a2
          exact this
        | succ i =>
          have := a3 i (by rw [List.length_cons] at hi; omega)
          rw [show t + 1 + i = t + (i + 1) by omega] at this
          exact this
      by_cases e1 : x = 114
      · rw [if_pos e1] at h1 rest
        have hv := hr.1
        rw [if_pos e1, Bool.or_eq_true] at hv
        have l1 := gxR_ln hv
        rw [l1] at rest
        exact gx_box hX hO hs0 hC we h1 ht (by omega) ⟨by omega, hz⟩ ⟨by omega, hl2⟩ (fun M2 o2 a2 t2 => rest M2 (lf - 1) o2 a2 t2 (by omega) (by omega))
      · rw [if_neg e1] at h1 rest
        have hv := hr.1
        rw [if_neg e1] at hv
        exact ge (by simpa using hv) a t M lf hC h1 ht (by omega) (by omega) hl hl2 rest
theorem gxWt_idem {w : Nat} {u V : gVl} {y : Int} (h : gxWt w u = (some y, V)) (hw : w ≠ 25) : gxWt w V = (some y, V) := by
  unfold gxWt at h
  rw [if_neg hw] at h
  split at h
  · cases h
  · split at h
    · rename_i e24
      cases hb : gToB u with
      | none => rw [hb] at h; cases h
      | some z =>
        rw [hb] at h
        cases h
        have e1 : ∃ n : Int, V = ⟨3, n, []⟩ ∧ (n = 0 ∨ n = 1) := by
          unfold gToB at hb
          split at hb
          · cases hb
          · cases hb
            refine ⟨_, rfl, ?_⟩
            split
            · exact Or.inl rfl
            · exact Or.inr rfl
        obtain ⟨n, rfl, hn⟩ := e1
        unfold gxWt
        rw [if_neg hw, if_neg (by show ¬ (3 : Int) = 4; decide), if_pos e24]
        rcases hn with rfl | rfl <;> rfl
    · rename_i e24
      cases hb : gToN u with
      | none => rw [hb] at h; cases h
      | some z =>
        rw [hb] at h
        dsimp only at h
        split at h
        · cases h
        · rename_i hz
          cases h
          have e1 : ∃ n : Int, V = ⟨1, n, []⟩ := by
            unfold gToN at hb
            split at hb
            · cases hn : gNum u.tx with
              | none => rw [hn] at hb; cases hb
              | some q => rw [hn] at hb; cases hb; exact ⟨_, rfl⟩
            · cases hb; exact ⟨_, rfl⟩
          obtain ⟨n, rfl⟩ := e1
          unfold gxWt
          rw [if_neg hw, if_neg (by show ¬ (1 : Int) = 4; decide), if_neg e24, show gToN (⟨1, n, []⟩ : gVl) = some ⟨1, n, []⟩ from rfl]
          exact if_neg hz
theorem gxWt_ok {w : Nat} {u V : gVl} {o : Option Int} (h : gxWt w u = (o, V)) (hu : gvOk u) : gvOk V := by
  unfold gxWt at h
  split at h
  · split at h <;> (cases h; exact hu)
  · split at h
    · cases h; exact hu
    · split at h
      · cases hb : gToB u with
        | none => rw [hb] at h; cases h; exact gvE_ok (by decide)
        | some z => rw [hb] at h; cases h; exact gToB_ok hb
      · cases hb : gToN u with
        | none => rw [hb] at h; cases h; exact gvE_ok (by decide)
        | some z =>
          rw [hb] at h
          dsimp only at h
          split at h
          · cases h; exact gvE_ok (by decide)
          · cases h; exact gToN_ok hu hb
theorem gx_picks {nb w z : Nat} (hX : glX X c) (hO : gOld G Q) (hs0 : X.2.2 (c + 1057) 4 = s0 ∧ gsX X s0) (hs1 : c + 23 < s0 ∧ s0 + 4 < c + 234) (hz : z ≤ zz ∧ zz ≤ 10480) (hw : w = 24 ∨ w = 25 ∨ w = 26) : ∀ (es : List gEx) (kk m t : Nat) (M : gM) (lf : Int) (u : gVl), es ≠ [] → (∀ e ∈ es, (gxWf P R nb e).1 ∧ gxG l G d X k c s0 v zz B E T S P R f0 e) → kk + es.length ≤ 4 → 1 ≤ kk → (w = 25 → kk = 1 ∧ es.length = 1) → gxCx X M c s0 v E T P R f0 → gxPk M c (gxOp w) z (es.map (fun x => (gxCo M c S B x).1)) (es.map (fun x => (gxLn x).1)) kk m → M (c + 1057) 6 = (t : Int) + 1 → gvAt M (c + 1058) t u → gvOk u → (∀ y V, gxWt w u = (some y, V) → (kk : Int) ≤ y ∧ y < (kk : Int) + es.length) → t + (es.map (fun x => (gxLn x).1)).sum ≤ 101 → m + ((es.map (fun x => (gxLn x).1)).sum + 2 * es.length - 1) = z → (zz : Int) - m ≤ lf → lf ≤ 20000 →
    (∀ M2 lf2, gOff (gxF c t) M M2 → (∀ V, gxWt w u = (none, V) → gvAt M2 (c + 1058) t V) → (∀ y V, gxWt w u = (some y, V) → gvAt M2 (c + 1058) t ((es.map (fun x => (gxEv E T S x).1)).getD (y - kk).toNat (gE 4))) → M2 (c + 1057) 6 = (t : Int) + 1 → (zz : Int) - (z : Int) ≤ lf2 → lf2 ≤ 20000 → gxW l G d X k c zz (z : Int) lf2 M2) → gxW l G d X k c zz (m : Int) lf M := by
  intro es
  induction es with
  | nil => intro kk m t M lf u h; exact absurd rfl h
  | cons e es ih =>
    intro kk m t M lf u _ he hkk hk1 h25 hC hA ht hu ou hy hn hm hl hl2 h
    have hs : (List.map (fun x : gEx => (gxLn x).1) (e :: es)).sum = (gxLn e).1 + (es.map (fun x => (gxLn x).1)).sum := by rw [List.map_cons, List.sum_cons]
    rw [hs, List.length_cons] at hm
    rw [hs] at hn
    rw [List.length_cons] at hkk h25 hy
    obtain ⟨we, ge⟩ := he e List.mem_cons_self
    have pos := gxLn_pos e we
    obtain ⟨h1, h2, h3, h4⟩ := hA
    have h1 : gAt2 M c m (gxOp w) (gEnc (kk : Int) (if (es.map (fun x => (gxCo M c S B x).1)).isEmpty = true then (z : Int) else ((m + (gxLn e).1 + 2 : Nat) : Int)) (z : Int)) := h1
    have h3 : (es.map (fun x => (gxCo M c S B x).1)).isEmpty = false → gAt2 M c (m + 1 + (gxLn e).1) 10 (z : Int) := h3
    have h4 : gxPk M c (gxOp w) z (es.map (fun x => (gxCo M c S B x).1)) (es.map (fun x => (gxLn x).1)) (kk + 1) (m + (gxLn e).1 + 2) := h4
    have gop : 7 ≤ gxOp w ∧ gxOp w < 10 := by rcases hw with rfl | rfl | rfl <;> decide
    have ex : (es.map (fun x => (gxCo M c S B x).1)).isEmpty = es.isEmpty := by cases es <;> rfl
    rw [ex] at h1 h3
    refine gx_pick hX hO hs0 h1 gop ⟨by omega, hz.2⟩ ⟨by omega, hl2⟩ (c_Ma_pick (d := d) (t := t) hX hO hw (fun q => by have := (h25 q).1; omega) ⟨by omega, by omega⟩ ⟨by split <;> omega, by split <;> omega⟩ ⟨by omega, by omega⟩ ⟨by omega, by omega⟩ (by omega) ht hu ou (fun V M2 e0 o a t2 => ?_) (fun V M2 e0 o t2 => ?_) (fun y V M2 e0 ne o a t2 => ?_))
    · refine h M2 (lf - 1) o (fun V2 q => ?_) (fun y V2 q => ?_) t2 (by omega) (by omega)
      · rw [e0] at q; cases q; exact a
      · rw [e0] at q; cases q
    · rw [show ((m : Int) + 1) = ((m + 1 : Nat) : Int) by omega]
      refine ge (m + 1) t M2 (lf - 1) (hC.keep hs1 o) (gxCo_off o we h2) t2 (by omega) (by omega) (by omega) (by omega) (fun M3 lf3 o3 a3 t3 l3 l4 => ?_)
      have fin : ∀ lf4 : Int, (zz : Int) - (z : Int) ≤ lf4 → lf4 ≤ 20000 → gxW l G d X k c zz (z : Int) lf4 M3 := fun lf4 l5 l6 => by
        refine h M3 lf4 (o.tr o3) (fun V2 q => ?_) (fun y V2 q => ?_) t3 l5 l6
        · rw [e0] at q; cases q
        · rw [e0] at q
          cases q
          rw [show ((kk : Int) - (kk : Int)).toNat = 0 by omega]
          exact a3
      cases es with
      | nil =>
        have e3 : m + 1 + (gxLn e).1 = z := by
          have : (List.map (fun x : gEx => (gxLn x).1) []).sum = 0 := rfl
          rw [this, List.length_nil] at hm
          omega
        rw [e3] at l3 ⊢
        exact fin lf3 l3 l4
      | cons e2 es2 =>
        have j := gAt2.keep (h3 rfl) (gEq2_off (a := m + 1 + (gxLn e).1) (b := m + 1 + (gxLn e).1 + 1) (o.tr o3)) (by omega) (by omega)
        rw [List.length_cons] at hm
        exact gx_jump hX hO hs0 j ⟨by omega, hz.2⟩ ⟨by omega, l4⟩ (fin (lf3 - 1) (by omega) (by omega))
    · cases es with
      | nil =>
        have := hy y V e0
        rw [List.length_nil] at this
        omega
      | cons e2 es2 =>
        rw [if_neg (show ¬ (e2 :: es2).isEmpty = true from fun q => by cases q)]
        have w25 : w ≠ 25 := fun q => by have := (h25 q).2; rw [List.length_cons] at this; omega
        have e1 := gxWt_idem e0 w25
        have hk := hy y V e0
        have hs2 : (List.map (fun x : gEx => (gxLn x).1) (e2 :: es2)).length = es2.length + 1 := by rw [List.length_map, List.length_cons]
        refine ih (kk + 1) (m + (gxLn e).1 + 2) t M2 (lf - 1) V (by intro q; cases q) (fun x hx => he x (List.mem_cons_of_mem _ hx)) (by rw [List.length_cons] at hkk ⊢; omega) (by omega) (fun q => absurd q w25) (hC.keep hs1 o) ?_ t2 a (gxWt_ok e0 ou) (fun y2 V2 q => ?_) (by omega) (by rw [List.length_cons] at hm ⊢; omega) (by omega) (by omega) (fun M3 lf3 o3 a3 b3 t3 l3 l4 => ?_)
        · exact gxPk_keep _ _ _ (fun x hx => ⟨gxLn_pos x (he x (List.mem_cons_of_mem _ hx)).1, gxK_off o (he x (List.mem_cons_of_mem _ hx)).1⟩) (gEq2_off o) h4
        · rw [e1] at q
          cases q
          rw [List.length_cons] at hk ⊢
          omega
        · refine h M3 lf3 (o.tr o3) (fun V2 q => ?_) (fun y2 V2 q => ?_) t3 l3 l4
          · rw [e0] at q; cases q
          · rw [e0] at q
            cases q
            have := b3 y V e1
            rw [show (y - (kk : Int)).toNat = (y - ((kk + 1 : Nat) : Int)).toNat + 1 by omega]
            exact this
end gbR
