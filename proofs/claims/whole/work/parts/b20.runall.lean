/-! The class's Machine: every tree's code, and a content's run. -/
section gbS
variable {l : Launch} {G : gG} {d : Nat} {X : gX} {M : gM} {c s0 v zz B : Nat} {Q : gQ} {E : Int → gVl} {T : Int → Int} {S : List Int} {P R : Int → Prop} {f0 : Int} {k : gM → Prop}
theorem gxG_all (hX : glX X c) (hO : gOld G Q) (hs0 : X.2.2 (c + 1057) 4 = s0 ∧ gsX X s0) (hs1 : c + 23 < s0 ∧ s0 + 4 < c + 234) (hz : zz ≤ 10480) (hB : B ≤ 10480) (hS : ∀ b ∈ S, 32 ≤ b ∧ b ≤ 126) : ∀ e : gEx, ((gxWf P R S.length e).1 → gxR e = false → gxG l G d X k c s0 v zz B E T S P R f0 e) ∧ ((gxWf P R S.length e).2 → ∀ x ∈ gxAL e, gxR x = false → gxG l G d X k c s0 v zz B E T S P R f0 x) ∧ (∀ a b, e = .add a b → ((gxWf P R S.length a).1 → gxR a = false → gxG l G d X k c s0 v zz B E T S P R f0 a) ∧ ((gxWf P R S.length b).1 → gxR b = false → gxG l G d X k c s0 v zz B E T S P R f0 b)) := by
  have okv : ∀ {M : gM} {e : gEx}, gxCx X M c s0 v E T P R f0 → (gxWf P R S.length e).1 → gxR e = false → gvP (gxEv E T S e).1 := fun hC h1 h2 => (gxEv_ok hC.1.P hC.2.2.2 hS _).1 h1 h2
  intro e
  induction e with
  | num x =>
    refine ⟨fun w _ => ?_, fun _ y hy => (by cases hy), fun a b h => (by cases h)⟩
    intro a t M lf hC hA ht hn ha hl hl2 h
    have hn : t + 1 ≤ 101 := hn
    have ha : a + 1 ≤ zz := ha
    exact gx_push hX hO hs0 hA (by decide) ⟨by omega, hz⟩ ⟨by omega, hl2⟩ (c_Ma_pushN (d := d + 7) (t := t) hX (Or.inl ⟨rfl, rfl⟩) w (by omega) ht (fun M2 o2 a2 t2 => h M2 (lf - 1) o2 a2 t2 (by show (zz : Int) - ((a + 1 : Nat) : Int) ≤ _; omega) (by omega)))
  | var i =>
    refine ⟨fun w _ => ?_, fun h => absurd h (fun q => q), fun a b h => (by cases h)⟩
    intro a t M lf hC hA ht hn ha hl hl2 h
    have hn : t + 1 ≤ 101 := hn
    have ha : a + 1 ≤ zz := ha
    have p1 := hC.2.2.1 _ w
    have b1 := hC.2.2.2.1 _ w
    have f0p := hC.2.1.2
    refine gx_push hX hO hs0 hA (by decide) ⟨by omega, hz⟩ ⟨by omega, hl2⟩ (c_Ma_pushR (d := d + 5) (t := t) (E := E) (p := T (i : Int)) (q := 0) hX hC.1 hs0 (Or.inl rfl) ⟨p1.1, by omega⟩ (by rw [hC.2.1.1]) ⟨by omega, p1.2.1⟩ p1.2.2 b1 (fun q => absurd q (by decide)) (by omega) ht rfl (fun M2 o2 a2 t2 => h M2 (lf - 1) o2 ?_ t2 (by show (zz : Int) - ((a + 1 : Nat) : Int) ≤ _; omega) (by omega)))
    rw [if_pos rfl] at a2
    exact a2
  | neg x ih =>
    refine ⟨fun w _ => ?_, fun h => absurd h (fun q => q), fun a b h => (by cases h)⟩
    intro a t M lf hC hA ht hn ha hl hl2 h
    have hn : t + ((gxLn x).1 + 1) ≤ 101 := hn
    have ha : a + ((gxLn x).1 + 1) ≤ zz := ha
    refine ih.1 w.1 w.2 a t M lf hC hA.1 ht (by omega) (by omega) hl hl2 (fun M2 lf2 o2 a2 t2 l2 l3 => ?_)
    have at2 := gAt2.keep hA.2 (gEq2_off (a := a + (gxLn x).1) (b := a + (gxLn x).1 + 1) o2) (by omega) (by omega)
    refine gx_apply (w := 13) (t := t) (v := v) (E := E) (as := fun _ => (gxEv E T S x).1) hX hO hs0 at2 (by decide) (by decide) ⟨by omega, hz⟩ ⟨by omega, l3⟩ (hC.keep hs1 o2).1 t2 (by omega) (fun i hi => ?_) (fun M3 o3 a3 t3 => h M3 (lf2 - 1) (o2.tr o3) a3 t3 (by show (zz : Int) - ((a + ((gxLn x).1 + 1) : Nat) : Int) ≤ _; omega) (by omega))
    have : i = 0 := by have : i < 1 := hi; omega
    subst this
    exact ⟨a2, gSuit0_P (okv hC w.1 w.2) (by decide)⟩
  | mulR x kk ih =>
    refine ⟨fun w _ => ?_, fun h => absurd h (fun q => q), fun a b h => (by cases h)⟩
    intro a t M lf hC hA ht hn ha hl hl2 h
    have hn : t + (if kk = 0 then (gxLn x).1 else (gxLn x).1 + 1) ≤ 101 := hn
    have ha : a + (if kk = 0 then (gxLn x).1 else (gxLn x).1 + 1) ≤ zz := ha
    have hA : (if kk = 0 then (gxCo M c S B x).1 a else (gxCo M c S B x).1 a ∧ gAt2 M c (a + (gxLn x).1) 11 12) := hA
    have h : ∀ M2 lf2, gOff (gxF c t) M M2 → gvAt M2 (c + 1058) t (if kk = 0 then (gxEv E T S x).1 else gApp E 12 (fun _ => (gxEv E T S x).1)) → M2 (c + 1057) 6 = (t : Int) + 1 → (zz : Int) - ((a + (if kk = 0 then (gxLn x).1 else (gxLn x).1 + 1) : Nat) : Int) ≤ lf2 → lf2 ≤ 20000 → gxW l G d X k c zz ((a + (if kk = 0 then (gxLn x).1 else (gxLn x).1 + 1) : Nat) : Int) lf2 M2 := h
    by_cases e0 : kk = 0
    · rw [if_pos e0] at hn ha hA
      simp only [if_pos e0] at h
      exact ih.1 w.1 w.2 a t M lf hC hA ht hn ha hl hl2 h
    · rw [if_neg e0] at hn ha hA
      simp only [if_neg e0] at h
      refine ih.1 w.1 w.2 a t M lf hC hA.1 ht (by omega) (by omega) hl hl2 (fun M2 lf2 o2 a2 t2 l2 l3 => ?_)
      have at2 := gAt2.keep hA.2 (gEq2_off (a := a + (gxLn x).1) (b := a + (gxLn x).1 + 1) o2) (by omega) (by omega)
      refine gx_apply (w := 12) (t := t) (v := v) (E := E) (as := fun _ => (gxEv E T S x).1) hX hO hs0 at2 (by decide) (by decide) ⟨by omega, hz⟩ ⟨by omega, l3⟩ (hC.keep hs1 o2).1 t2 (by omega) (fun i hi => ?_) (fun M3 o3 a3 t3 => h M3 (lf2 - 1) (o2.tr o3) a3 t3 (by omega) (by omega))
      have : i = 0 := by have : i < 1 := hi; omega
      subst this
      exact ⟨a2, gSuit0_P (okv hC w.1 w.2) (by decide)⟩
  | mulL kk x ih =>
    cases x with
    | num q =>
      refine ⟨fun w _ => ?_, fun h => absurd h (fun q => q), fun a b h => (by cases h)⟩
      intro a t M lf hC hA ht hn ha hl hl2 h
      have hn : t + 1 ≤ 101 := hn
      have ha : a + 1 ≤ zz := ha
      obtain ⟨p, h1, h2, h3⟩ := hA
      obtain ⟨w1, w2, w3, w4⟩ := w
      have e1 : q - kk = ((q - kk).toNat : Int) := by omega
      rw [e1] at h1 h2
      exact gx_push hX hO hs0 h1 (by decide) ⟨by omega, hz⟩ ⟨by omega, hl2⟩ (c_Ma_pushT (d := d + 6) (t := t) hX h3 (by omega) (by omega) (by omega) ht (fun M2 o2 a2 t2 => h M2 (lf - 1) o2 a2 t2 (by show (zz : Int) - ((a + 1 : Nat) : Int) ≤ _; omega) (by omega)))
    | var i =>
      refine ⟨fun w _ => ?_, fun h => absurd h (fun q => q), fun a b h => (by cases h)⟩
      intro a t M lf hC hA ht hn ha hl hl2 h
      have hn : t + 1 ≤ 101 := hn
      have ha : a + 1 ≤ zz := ha
      have w : 0 ≤ kk ∧ kk ≤ 1 := w
      exact gx_push hX hO hs0 hA (by decide) ⟨by omega, hz⟩ ⟨by omega, hl2⟩ (c_Ma_pushN (d := d + 7) (t := t) hX (Or.inr (Or.inl ⟨rfl, rfl⟩)) ⟨by omega, by omega⟩ (by omega) ht (fun M2 o2 a2 t2 => h M2 (lf - 1) o2 a2 t2 (by show (zz : Int) - ((a + 1 : Nat) : Int) ≤ _; omega) (by omega)))
    | add x y =>
      refine ⟨fun w _ => ?_, fun h => absurd h (fun q => q), fun a b h => (by cases h)⟩
      intro a t M lf hC hA ht hn ha hl hl2 h
      have hn : t + ((gxLn x).1 + (gxLn y).1 + 1) ≤ 101 := hn
      have ha : a + ((gxLn x).1 + (gxLn y).1 + 1) ≤ zz := ha
      obtain ⟨k1, k2, wx, wy⟩ := w
      obtain ⟨hA1, hA2, hA3⟩ := hA
      have px := gxLn_pos x wx.1
      have dd : ∀ w, w < 12 → gWgr w ≠ 5 ∧ gSl (gWta w) = 2 ∧ gSc (gWta w) 0 ≠ 114 ∧ gSc (gWta w) 1 ≠ 114 := by decide +kernel
      obtain ⟨q1, q2, q3, q4⟩ := dd kk.toNat (by omega)
      refine (ih.2.2 x y rfl).1 wx.1 wx.2 a t M lf hC hA1 ht (by omega) (by omega) hl hl2 (fun M2 lf2 o2 a2 t2 l2 l3 => ?_)
      refine (ih.2.2 x y rfl).2 wy.1 wy.2 (a + (gxLn x).1) (t + 1) M2 lf2 (hC.keep hs1 o2) (gxCo_off o2 wy.1 hA2) (by rw [t2]; omega) (by omega) (by omega) l2 l3 (fun M3 lf3 o3 a3 t3 l4 l5 => ?_)
      have o13 := o2.tr (o3.mono (gxF_le (show t ≤ t + 1 by omega)))
      have at2 := gAt2.keep hA3 (gEq2_off (a := a + (gxLn x).1 + (gxLn y).1) (b := a + (gxLn x).1 + (gxLn y).1 + 1) o13) (by omega) (by omega)
      rw [show kk = ((kk.toNat : Nat) : Int) by omega] at at2
      refine gx_apply (w := kk.toNat) (t := t) (v := v) (E := E) (as := fun i => if i = 0 then (gxEv E T S x).1 else (gxEv E T S y).1) hX hO hs0 at2 (by omega) q1 ⟨by omega, hz⟩ ⟨by omega, l5⟩ (hC.keep hs1 o13).1 (by rw [t3, q2]; omega) (by omega) (fun i hi => ?_) (fun M4 o4 a4 t4 => by rw [show a + (gxLn x).1 + (gxLn y).1 + 1 = a + ((gxLn x).1 + (gxLn y).1 + 1) by omega]; exact h M4 (lf3 - 1) (o13.tr o4) a4 t4 (by show (zz : Int) - ((a + ((gxLn x).1 + (gxLn y).1 + 1) : Nat) : Int) ≤ _; omega) (by omega))
      by_cases e0 : i = 0
      · subst e0
        exact ⟨gxF_at o3 (by omega) (by omega) a2, gSuit0_P (okv hC wx.1 wx.2) q3⟩
      · have e1 : i = 1 := by omega
        subst e1
        exact ⟨a3, gSuit0_P (okv hC wy.1 wy.2) q4⟩
    | neg y => exact ⟨fun _ h => (by cases h), fun h => absurd h (fun q => q), fun a b h => (by cases h)⟩
    | sub => exact ⟨fun h => absurd h (fun q => q), fun h => absurd h (fun q => q), fun a b h => (by cases h)⟩
    | mulL => exact ⟨fun h => absurd h (fun q => q), fun h => absurd h (fun q => q), fun a b h => (by cases h)⟩
    | mulR => exact ⟨fun h => absurd h (fun q => q), fun h => absurd h (fun q => q), fun a b h => (by cases h)⟩
  | add x xs ihx ihs =>
    refine ⟨fun h => absurd h (fun q => q), fun h y hy hr => ?_, fun a b h => by cases h; exact ⟨ihx.1, ihs.1⟩⟩
    rcases List.mem_cons.mp hy with q | q
    · rw [q] at hr ⊢; exact ihx.1 h.1 hr
    · exact ihs.2.1 h.2 y q hr
  | sub f as _ ih =>
    refine ⟨fun w _ => ?_, fun h => absurd h (fun q => q), fun a b h => (by cases h)⟩
    cases f with
    | num w0 =>
      intro a t M lf hC hA ht hn ha hl hl2 h
      obtain ⟨hw, hargs⟩ := w
      have hg := ih.2.1 hargs
      have hall := gxWf_all as hargs
      have hn : t + gxCl w0 (gxAL as) (gxLn as).2 ≤ 101 := hn
      have ha : a + gxCl w0 (gxAL as) (gxLn as).2 ≤ zz := ha
      have hA : gxCc M c w0 (gxAL as) (gxCo M c S B as).2 (gxLn as).2 a := hA
      have h : ∀ M2 lf2, gOff (gxF c t) M M2 → gvAt M2 (c + 1058) t (gxCv E T w0 (gxAL as) (gxEv E T S as).2) → M2 (c + 1057) 6 = (t : Int) + 1 → (zz : Int) - ((a + gxCl w0 (gxAL as) (gxLn as).2 : Nat) : Int) ≤ lf2 → lf2 ≤ 20000 → gxW l G d X k c zz ((a + gxCl w0 (gxAL as) (gxLn as).2 : Nat) : Int) lf2 M2 := h
      rw [gxCo_map] at hA
      rw [gxLn_map] at hA hn ha
      simp only [gxLn_map, gxEv_map] at h
      generalize gxAL as = es at hA hn ha h hg hall
      have cl0 : w0 < 0 → gxCl w0 es (es.map (fun x => (gxLn x).1)) = 1 := fun c1 => by unfold gxCl; rw [if_pos c1]
      unfold gxCc at hA
      by_cases c1 : w0 < 0
      · have e1 := cl0 c1
        have ev : gxCv E T w0 es (es.map (fun x => (gxEv E T S x).1)) = gE 3 := by unfold gxCv; rw [if_pos c1]
        rw [if_pos c1] at hA
        rw [e1] at hn ha
        simp only [e1, ev] at h
        exact gx_push hX hO hs0 hA (by decide) ⟨by omega, hz⟩ ⟨by omega, hl2⟩ (c_Ma_pushN (d := d + 7) (t := t) hX (Or.inr (Or.inr ⟨rfl, rfl⟩)) ⟨by decide, by decide⟩ (by omega) ht (fun M2 o2 a2 t2 => h M2 (lf - 1) o2 a2 t2 (by omega) (by omega)))
      · rw [if_neg c1] at hA
        by_cases c2 : gxRt (gTks w0.toNat) es = false
        · have e1 : gxCl w0 es (es.map (fun x => (gxLn x).1)) = 1 := by unfold gxCl; rw [if_neg c1, if_pos c2]
          have ev : gxCv E T w0 es (es.map (fun x => (gxEv E T S x).1)) = gE 4 := by unfold gxCv; rw [if_neg c1, if_pos c2]
          rw [if_pos c2] at hA
          rw [e1] at hn ha
          simp only [e1, ev] at h
          exact gx_push hX hO hs0 hA (by decide) ⟨by omega, hz⟩ ⟨by omega, hl2⟩ (c_Ma_pushN (d := d + 7) (t := t) hX (Or.inr (Or.inr ⟨rfl, rfl⟩)) ⟨by decide, by decide⟩ (by omega) ht (fun M2 o2 a2 t2 => h M2 (lf - 1) o2 a2 t2 (by omega) (by omega)))
        · rw [if_neg c2] at hA
          have rt : gxRt (gTks w0.toNat) es = true := gBtr c2
          have hln := gxRt_len _ _ rt
          have hw2 : w0.toNat < 52 := by omega
          by_cases c3 : gWgr w0.toNat = 5
          · rw [if_pos c3] at hA
            have e1 : gxCl w0 es (es.map (fun x => (gxLn x).1)) = (es.map (fun x => (gxLn x).1)).sum + 2 * es.length - 3 := by unfold gxCl; rw [if_neg c1, if_neg c2, if_pos c3, List.length_map]
            have ev : gxCv E T w0 es (es.map (fun x => (gxEv E T S x).1)) = gxPi w0.toNat (es.map (fun x => (gxEv E T S x).1)) := by unfold gxCv; rw [if_neg c1, if_neg c2, if_pos c3]
            rw [e1] at hn ha hA
            simp only [e1, ev] at h
            have w3 : w0.toNat = 24 ∨ w0.toNat = 25 ∨ w0.toNat = 26 := by
              have : ∀ w, w < 52 → gWgr w = 5 → w = 24 ∨ w = 25 ∨ w = 26 := by decide +kernel
              exact this _ hw2 c3
            have no114 : ∀ i, i < (gTks w0.toNat).length → (gTks w0.toNat).getD i 0 ≠ 114 := by
              rcases w3 with e | e | e <;> rw [e] <;> decide
            have len : (gTks w0.toNat).length = (if w0.toNat = 24 then 3 else if w0.toNat = 25 then 2 else 4) := by rcases w3 with e | e | e <;> rw [e] <;> decide
            have nr : ∀ x ∈ es, gxR x = false := by
              intro x hx
              obtain ⟨i, hi, rfl⟩ := List.mem_iff_getElem.mp hx
              have := gxRt_at _ _ i rt (by omega)
              rw [if_neg (no114 i (by omega)), List.getD_eq_getElem?_getD, List.getElem?_eq_getElem hi] at this
              simpa using this
            cases es with
            | nil => exact absurd hA.1 (fun z => z)
            | cons e es =>
              cases es with
              | nil =>
                rw [List.length_cons, List.length_nil] at hln
                rw [hln] at len
                exfalso
                split at len
                · omega
                · split at len <;> omega
              | cons e2 es2 =>
              have hs : (List.map (fun x : gEx => (gxLn x).1) (e :: e2 :: es2)).sum = (gxLn e).1 + ((e2 :: es2).map (fun x => (gxLn x).1)).sum := by rw [List.map_cons, List.sum_cons]
              rw [hs, List.length_cons] at hn ha
              rw [hs, List.length_cons] at hA
              rw [hs] at h
              simp only [List.length_cons (a := e)] at h
              have l2 : (e2 :: es2).length = es2.length + 1 := List.length_cons
              have g0 := hg e List.mem_cons_self (nr e List.mem_cons_self)
              have we := hall e List.mem_cons_self
              have pe := gxLn_pos e we
              refine g0 a t M lf hC hA.1 ht (by omega) (by omega) hl hl2 (fun M2 lf2 o2 a2 t2 l3 l4 => ?_)
              have ou := okv hC we (nr e List.mem_cons_self)
              refine gx_picks (nb := S.length) (w := w0.toNat) (z := a + ((gxLn e).1 + ((e2 :: es2).map (fun x => (gxLn x).1)).sum + 2 * ((e2 :: es2).length + 1) - 3)) hX hO hs0 hs1 ⟨by omega, hz⟩ w3 (e2 :: es2) 1 (a + (gxLn e).1) t M2 lf2 (gxEv E T S e).1 (by intro q; cases q) (fun x hx => ⟨hall x (List.mem_cons_of_mem _ hx), hg x (List.mem_cons_of_mem _ hx) (nr x (List.mem_cons_of_mem _ hx))⟩) ?_ (Nat.le_refl _) ?_ (hC.keep hs1 o2) ?_ t2 a2 ou.1 ?_ (by omega) (by omega) l3 l4 (fun M3 lf3 o3 a3 b3 t3 l5 l6 => h M3 lf3 (o2.tr o3) ?_ t3 l5 l6)
              · rw [List.length_cons] at hln
                rw [hln] at len
                split at len
                · omega
                · split at len <;> omega
              · intro q
                rw [List.length_cons] at hln
                rw [hln, if_neg (by omega), if_pos q] at len
                exact ⟨rfl, by omega⟩
              · exact gxPk_keep _ _ _ (fun x hx => ⟨gxLn_pos x (hall x (List.mem_cons_of_mem _ hx)), gxK_off o2 (hall x (List.mem_cons_of_mem _ hx))⟩) (gEq2_off o2) hA.2
              · intro y V hy
                rw [List.length_cons] at hln
                rw [hln] at len
                generalize (gxEv E T S e).1 = u at hy ou
                unfold gxWt at hy
                split at hy
                · rename_i e25
                  split at hy
                  · cases hy
                    rw [if_neg (by omega), if_pos e25] at len
                    omega
                  · cases hy
                · split at hy
                  · cases hy
                  · split at hy
                    · rename_i e24
                      cases hb : gToB u with
                      | none => rw [hb] at hy; cases hy
                      | some z =>
                        rw [hb] at hy
                        cases hy
                        rw [if_pos e24] at len
                        have ok := gToB_ok hb
                        have kz : V.kd = 3 := by
                          unfold gToB at hb
                          split at hb
                          · cases hb
                          · cases hb; rfl
                        have := ok.2.2.2.2.2.2.1 kz
                        omega
                    · cases hb : gToN u with
                      | none => rw [hb] at hy; cases hy
                      | some z =>
                        rw [hb] at hy
                        dsimp only at hy
                        split at hy
                        · cases hy
                        · cases hy
                          rw [if_neg (by assumption), if_neg (by assumption)] at len
                          omega
              · show gvAt M3 (c + 1058) t (gxPi w0.toNat ((gxEv E T S e).1 :: (e2 :: es2).map (fun x => (gxEv E T S x).1)))
                unfold gxPi
                rw [show ((gxEv E T S e).1 :: (e2 :: es2).map (fun x => (gxEv E T S x).1)).getD 0 (gE 4) = (gxEv E T S e).1 from rfl]
                cases hq : gxWt w0.toNat (gxEv E T S e).1 with
                | mk o V =>
                  cases o with
                  | none => exact a3 V hq
                  | some y =>
                    have hbb := b3 y V hq
                    dsimp only
                    have hy1 : 1 ≤ y := by
                      generalize (gxEv E T S e).1 = u at hq
                      unfold gxWt at hq
                      split at hq
                      · split at hq <;> cases hq
                        decide
                      · split at hq
                        · cases hq
                        · split at hq
                          · cases hb : gToB u with
                            | none => rw [hb] at hq; cases hq
                            | some z =>
                              rw [hb] at hq
                              cases hq
                              have kz : V.nm = 0 ∨ V.nm = 1 := by
                                unfold gToB at hb
                                split at hb
                                · cases hb
                                · cases hb
                                  show (if u.nm = 0 then (0 : Int) else 1) = 0 ∨ (if u.nm = 0 then (0 : Int) else 1) = 1
                                  split
                                  · exact Or.inl rfl
                                  · exact Or.inr rfl
                              omega
                          · cases hb : gToN u with
                            | none => rw [hb] at hq; cases hq
                            | some z =>
                              rw [hb] at hq
                              dsimp only at hq
                              split at hq
                              · cases hq
                              · cases hq
                                omega
                    rw [show y.toNat = (y - ((1 : Nat) : Int)).toNat + 1 by omega]
                    exact hbb
          · rw [if_neg c3] at hA
            have e1 : gxCl w0 es (es.map (fun x => (gxLn x).1)) = (es.map (fun x => (gxLn x).1)).sum + 1 := by unfold gxCl; rw [if_neg c1, if_neg c2, if_neg c3]
            have ev : gxCv E T w0 es (es.map (fun x => (gxEv E T S x).1)) = gApp E w0.toNat (gxAv E T S (gTks w0.toNat) es) := by unfold gxCv; rw [if_neg c1, if_neg c2, if_neg c3]; rfl
            rw [e1] at hn ha
            simp only [e1, ev] at h
            have gl := (gGl _ hw2).2 c3
            refine gx_seq (nb := S.length) hX hO hs0 hs1 hz (gTks w0.toNat) es a t M lf (fun x hx => ⟨hall x hx, hg x hx⟩) rt hC hA.1 ht (by omega) (by omega) hl hl2 (fun M2 lf2 o2 a2 t2 l2 l3 => ?_)
            have at2 := gAt2.keep hA.2 (gEq2_off (a := a + (es.map (fun x => (gxLn x).1)).sum) (b := a + (es.map (fun x => (gxLn x).1)).sum + 1) o2) (by omega) (by omega)
            rw [show w0 = ((w0.toNat : Nat) : Int) by omega] at at2
            have el : gSl (gWta w0.toNat) = es.length := hln
            refine gx_apply (w := w0.toNat) (t := t) (v := v) (E := E) (as := gxAv E T S (gTks w0.toNat) es) hX hO hs0 at2 hw2 c3 ⟨by omega, hz⟩ ⟨by omega, l3⟩ (hC.keep hs1 o2).1 (by rw [t2, el]) (by omega) (fun i hi => ⟨a2 i (by omega), ?_⟩) (fun M3 o3 a3 t3 => h M3 (lf2 - 1) (o2.tr o3) a3 t3 (by omega) (by omega))
            have r1 := gxRt_at _ _ i rt (by omega)
            unfold gxAv
            show gSuit0 ((gTks w0.toNat).getD i 0) _
            by_cases e4 : (gTks w0.toNat).getD i 0 = 114
            · rw [if_pos e4, Bool.or_eq_true] at r1
              rw [if_pos e4, e4]
              exact gxBx_ok hC.2.2.2 (hall _ (gxGet (E := E) (T := T) (S := S) es i (by omega)).2) r1
            · rw [if_neg e4] at r1 ⊢
              obtain ⟨g1, g2⟩ := gxGet (E := E) (T := T) (S := S) es i (by omega)
              rw [g1]
              exact gSuit0_P (okv hC (hall _ g2) (by simpa using r1)) e4
    | _ => exact absurd w (fun q => q)
/-- a formula that is worth nothing is 0 -/
def gxTp (w : gVl) : gVl := if w.kd = 0 then gN 0 else w
def gxF2 (c : Nat) : Nat → Nat → Prop := fun a k => gxF c 0 a k ∨ (a = c + 1057 ∧ k = 5)
theorem gx_end {zz lf : Int} {M M1 : gM} {V : gVl} (hX : glX X c) (hO : gOld G Q) (hs0 : X.2.2 (c + 1057) 4 = s0 ∧ gsX X s0) (hz : g32 zz) (hl : g32 lf) (o : gOff (gxF2 c) M M1) (a : gvAt M1 (c + 1058) 0 V) (h : ∀ M2, gOff (gxF2 c) M M2 → gvAt M2 (c + 1058) 0 (gxTp V) → k M2) : gxW l G d X k c zz zz lf M1 := by
  have fin : ((0 : Int) ≤ (0 : Int) ∧ (0 : Int) < 104) ∧ (g32 (M1 ((c + 1058) + 1) (Int.toNat 0)) → ((¬ M1 ((c + 1058) + 1) (Int.toNat 0) = 0 → (k M1)) ∧ (M1 ((c + 1058) + 1) (Int.toNat 0) = 0 → (cV l G y_Vl_set (gRm (d + 8)) true [gR G (c + 1058), gI 0, gI 1, gL 0] X M1 (fun M6 => (k M6)))))) := by
    rw [show Int.toNat 0 = 0 from rfl, show M1 (c + 1058 + 1) 0 = V.kd from a.1]
    refine ⟨⟨by decide, by decide⟩, fun _ => ⟨fun q => h M1 o ?_, fun q => ?_⟩⟩
    · unfold gxTp; rw [if_neg q]; exact a
    · refine c_put (s := 0) (V := gN 0) hX ⟨by decide, by decide⟩ (g32_c (x := 1) rfl) (g64_c (x := 0) rfl) rfl (fun M2 o2 a2 => h M2 (o.tr (o2.mono (fun p q r => Or.inl (gxF_mr (Nat.le_refl _) (by decide) p q r)))) ?_)
      unfold gxTp
      rw [if_pos q]
      exact a2
  exact w_Ma_run_55 (d := d + 4) hX hO hz hz hl hs0 ⟨fun _ => fin, fun _ => ⟨fun _ => fin, fun z => absurd (Int.le_refl _) z⟩⟩
/-- what a run of an entry finds: its content's code is that of e -/
theorem c_Ma_run {en : Int} {id a0 : Nat} {e : gEx} (hX : glX X c) (hO : gOld G Q) (hs0 : X.2.2 (c + 1057) 4 = s0 ∧ gsX X s0) (hs1 : c + 23 < s0 ∧ s0 + 4 < c + 234) (hB : B ≤ 10480) (hS : ∀ b ∈ S, 32 ≤ b ∧ b ≤ 126) (hen : 0 ≤ en ∧ en < 400) (hid : M (s0 + 2) en.toNat = (id : Int)) (hid2 : id < 513) (ha0 : M (c + 4) id = (a0 : Int)) (hz0 : M (c + 5) id = ((a0 + (gxLn e).1 : Nat) : Int)) (hz : a0 + (gxLn e).1 ≤ 10480) (hn : (gxLn e).1 ≤ 101) (hf0 : M (s0 + 3) en.toNat = f0) (hf : 0 ≤ f0) (hE : gEnv X M c v E) (hT : ∀ i, P i → 0 ≤ i ∧ f0 + i < 20000 ∧ M (s0 + 4) (f0 + i).toNat = T i) (hT2 : gxTk T P R) (hw : (gxWf P R S.length e).1) (hr : gxR e = false) (hA : (gxCo M c S B e).1 a0)
    (h : ∀ M2, gOff (gxF2 c) M M2 → gvAt M2 (c + 1058) 0 (gxTp (gxEv E T S e).1) → k M2) : cV l G y_Ma_run (gRm (d + 9)) true [gR G (c + 1057), gI en] X M k := by
  refine e_Ma_run (Q := Q) (d := d + 4) (w_Ma_run_0 (d := d + 4) hX hO ⟨by omega, by omega⟩ hs0 ⟨hen, ?_⟩)
  rw [hid, gT0, ha0, hz0, hf0, w32_id (x := ((a0 + (gxLn e).1 : Nat) : Int) - (a0 : Int)) ⟨by omega, by omega⟩]
  refine fun _ => ⟨⟨by omega, by omega⟩, fun _ => ⟨⟨by omega, by omega⟩, fun _ => ⟨⟨by omega, by omega⟩, fun _ => ?_⟩⟩⟩
  have o1 : gOff (fun a k => a = c + 1057 ∧ (k = 5 ∨ k = 6)) M (gUp (gUp M (c + 1057) 5 f0) (c + 1057) 6 0) := ((gOff.rf _ M).up ⟨rfl, Or.inl rfl⟩).up ⟨rfl, Or.inr rfl⟩
  have hv := hE.2.1
  have hE1 : gEnv X (gUp (gUp M (c + 1057) 5 f0) (c + 1057) 6 0) c v E := by
    refine ⟨hE.1, hE.2.1, fun p h0 h1 => ?_⟩
    obtain ⟨q1, q2, q3, q4, q5⟩ := hE.2.2 p h0 h1
    have e : (gUp (gUp M (c + 1057) 5 f0) (c + 1057) 6 0) (c + 235) p.toNat = M (c + 235) p.toNat := o1 _ _ (by omega)
    rw [e]
    exact ⟨q1, q2, q3.keep o1 (by omega) (by omega) (fun j _ => by omega), q4, q5⟩
  have hC : gxCx X (gUp (gUp M (c + 1057) 5 f0) (c + 1057) 6 0) c s0 v E T P R f0 := ⟨hE1, ⟨by rw [gUp_k (by decide), gUp_eq], hf⟩, fun i hi => ⟨(hT i hi).1, (hT i hi).2.1, (o1 _ _ (by omega)).trans (hT i hi).2.2⟩, hT2⟩
  have hA1 : (gxCo (gUp (gUp M (c + 1057) 5 f0) (c + 1057) 6 0) c S B e).1 a0 := (gxCo_keep (P := P) (R := R) (n := S.length) (Nat.le_refl B) (fun j _ => o1 _ _ (by omega)) e).1 hw a0 (fun j _ _ => ⟨o1 _ _ (by omega), o1 _ _ (by omega)⟩) hA
  refine (gxG_all (l := l) (d := d) (k := k) (v := v) (E := E) (T := T) (f0 := f0) (P := P) (R := R) hX hO hs0 hs1 hz hB hS e).1 hw hr a0 0 _ _ hC hA1 (gUp_eq _ _ _ _) (by omega) (Nat.le_refl _) (by omega) (by omega) (fun M2 lf2 o2 a2 t2 l2 l3 => ?_)
  refine gx_end (M := M) hX hO hs0 ⟨by omega, by omega⟩ ⟨by omega, by omega⟩ ((o1.mono (fun p q r => ?_)).tr (o2.mono (fun p q r => Or.inl r))) a2 h
  rcases r with ⟨r1, r2 | r2⟩
  · exact Or.inr ⟨r1, r2⟩
  · exact Or.inl (Or.inr ⟨r1, r2⟩)
/-- a formula that is none -/
theorem c_Ma_runE {en : Int} {id a0 : Nat} (hX : glX X c) (hO : gOld G Q) (hs0 : X.2.2 (c + 1057) 4 = s0 ∧ gsX X s0) (hen : 0 ≤ en ∧ en < 400) (hid : M (s0 + 2) en.toNat = (id : Int)) (hid2 : id < 513) (ha0 : M (c + 4) id = (a0 : Int)) (hz0 : M (c + 5) id = ((a0 + 1 : Nat) : Int)) (hz : a0 + 1 ≤ 10480) (hA : gAt2 M c a0 3 1)
    (h : ∀ M2, gOff (gxF2 c) M M2 → gvAt M2 (c + 1058) 0 (gE 1) → k M2) : cV l G y_Ma_run (gRm (d + 9)) true [gR G (c + 1057), gI en] X M k := by
  refine e_Ma_run (Q := Q) (d := d + 4) (w_Ma_run_0 (d := d + 4) hX hO ⟨by omega, by omega⟩ hs0 ⟨hen, ?_⟩)
  rw [hid, gT0, ha0, hz0, w32_id (x := ((a0 + 1 : Nat) : Int) - (a0 : Int)) ⟨by omega, by omega⟩]
  refine fun _ => ⟨⟨by omega, by omega⟩, fun _ => ⟨⟨by omega, by omega⟩, fun _ => ⟨⟨by omega, by omega⟩, fun _ => ?_⟩⟩⟩
  generalize M (s0 + 3) en.toNat = f1
  have o1 : gOff (fun a k => a = c + 1057 ∧ (k = 5 ∨ k = 6)) M (gUp (gUp M (c + 1057) 5 f1) (c + 1057) 6 0) := ((gOff.rf _ M).up ⟨rfl, Or.inl rfl⟩).up ⟨rfl, Or.inr rfl⟩
  have hA1 : gAt2 (gUp (gUp M (c + 1057) 5 f1) (c + 1057) 6 0) c a0 3 1 := ⟨(o1 _ _ (by omega)).trans hA.1, (o1 _ _ (by omega)).trans hA.2⟩
  refine gx_push (zz := a0 + 1) hX hO hs0 hA1 (by decide) ⟨by omega, hz⟩ ⟨by omega, by omega⟩ (c_Ma_pushN (d := d + 7) (t := 0) hX (Or.inr (Or.inr ⟨rfl, rfl⟩)) ⟨by decide, by decide⟩ (by decide) (gUp_eq _ _ _ _) (fun M2 o2 a2 t2 => ?_))
  refine gx_end (M := M) (V := gE 1) hX hO hs0 ⟨by omega, by omega⟩ ⟨by omega, by omega⟩ ((o1.mono (fun p q r => ?_)).tr (o2.mono (fun p q r => Or.inl r))) a2 h
  rcases r with ⟨r1, r2 | r2⟩
  · exact Or.inr ⟨r1, r2⟩
  · exact Or.inl (Or.inr ⟨r1, r2⟩)
end gbS
