/-! The reference: a call as a whole. -/
section gcK
variable {l : Launch} {G : gG} {d : Nat} {X : gX} {M : gM} {o s t w i L : Nat} {Q : gQ} {E : Int → gVl} {k : gM → Prop} {T : Int → Int} {S : List Int} {P R : Int → Prop}
/-- arguments are worked out one behind the other -/
theorem gm_263 {M0 : gM} {f : Int} {es : List gEx} {n0 : Int} (hX : gmX X o) (hO : gOld G Q) (hw : w = i + 14) (hi : i < 38) (h5 : gWgr w ≠ 5) (hf : f = (i : Int)) (hS : ∀ b ∈ S, 32 ≤ b ∧ b ≤ 126) (hrt : gxRt (gTks w) es = true) (he : ∀ e ∈ es, (gxWf P R S.length e).1 ∧ (gxR e = false → gxGm l G X o L E T S P R e) ∧ 8 + gxH e ≤ d + 8) (hst : s + gSl (gWta w) = t) (hn : s + (es.map (fun x => (gxLn x).1)).sum ≤ 1000) (hs0 : M0 o 50 = (s : Int)) (hC : gmCx M0 o L E T S P R) (hch : gxCh M0 o L es n0) (gn0 : g32 n0) (h : gmPost M0 o s (gApp E w (gxAv E T S (gTks w) es)) k) : wp l G y_GM_call_2 (gRm (d + 9)) true (kkV X k) true 263 [.val (gR G o), .unset, .unset, .unset, .val (gI ((gNk i + (gTi (i + 14)).length + 1 : Nat) : Int)), .val (gI f), .val (gI (gSl (gWta w) : Int)), .unset, .val (gI n0), .val (gI (s : Int)), .val (gI (-1)), .val (gI 0), .unset, .unset, .unset] [] X M0 0 0 := by
  have hw2 : 14 ≤ w ∧ w < 52 := by omega
  have gl4 := gGl w hw2.2
  have k1 := gNk_1 i hi
  have k4 := gNk_4 i hi
  have k5 := gNk_5 i hi
  have sl : gSl (gWta w) = es.length := gxRt_len _ _ hrt
  have gp : g32 ((gNk i + (gTi (i + 14)).length + 1 : Nat) : Int) := ⟨by omega, by omega⟩
  have gf : g32 f := ⟨by omega, by omega⟩
  have gsl : g32 (gSl (gWta w) : Int) := ⟨by omega, by omega⟩
  have gs : g32 (s : Int) := ⟨by omega, by omega⟩
  have gP : ∀ e ∈ es, gxR e = false → gvP (gxEv E T S e).1 := fun e hm hr => (gxEv_ok (fun p h0 h1 => by have := (hC.1 p.toNat (by omega)).1; rw [Int.toNat_of_nonneg h0] at this; exact this) hC.2.2.2.1 hS e).1 (he e hm).1 hr
  -- what an argument is
  have arg : ∀ j, j < es.length → gSuit0 (gSc (gWta w) j) (gxAv E T S (gTks w) es j) ∧ (gSc (gWta w) j = 114 → gxAv E T S (gTks w) es j = gxBx T (es.getD j (.num 0)) ∧ (gxR (es.getD j (.num 0)) = true ∨ gxV (es.getD j (.num 0)) = true)) ∧ (gSc (gWta w) j ≠ 114 → gxAv E T S (gTks w) es j = (gxEv E T S (es.getD j (.num 0))).1 ∧ gxR (es.getD j (.num 0)) = false) := by
    intro j hj
    have r1 := gxRt_at _ _ j hrt (by rw [gxRt_len _ _ hrt]; exact hj)
    obtain ⟨g1, g2⟩ := gxGet (E := E) (T := T) (S := S) es j hj
    unfold gxAv
    show gSuit0 ((gTks w).getD j 0) _ ∧ ((gTks w).getD j 0 = 114 → _) ∧ ((gTks w).getD j 0 ≠ 114 → _)
    by_cases e4 : (gTks w).getD j 0 = 114
    · rw [if_pos e4, Bool.or_eq_true] at r1
      rw [if_pos e4, e4]
      exact ⟨gxBx_ok hC.2.2.2.1 (he _ g2).1 r1, fun _ => ⟨rfl, r1⟩, fun q => absurd rfl q⟩
    · rw [if_neg e4] at r1 ⊢
      rw [g1]
      have nr : gxR (es.getD j (.num 0)) = false := by simpa using r1
      exact ⟨gSuit0_P (gP _ g2 nr) e4, fun q => absurd q e4, fun _ => ⟨rfl, nr⟩⟩
  have sumj : ∀ (es : List gEx), (∀ e ∈ es, 1 ≤ (gxLn e).1) → ∀ j, j < es.length → j + (gxLn (es.getD j (.num 0))).1 ≤ (es.map (fun x => (gxLn x).1)).sum := by
    intro es
    induction es with
    | nil => intro _ j hj; exact absurd hj (Nat.not_lt_zero _)
    | cons e es ih =>
      intro hp j hj
      rw [List.map_cons, List.sum_cons]
      cases j with
      | zero => show 0 + (gxLn e).1 ≤ _; omega
      | succ j =>
        have := ih (fun x hx => hp x (List.mem_cons_of_mem _ hx)) j (by rw [List.length_cons] at hj; omega)
        have := hp e List.mem_cons_self
        show j + 1 + (gxLn (es.getD j (.num 0))).1 ≤ _
        omega
  have bnd := sumj es (fun e hm => gxLn_pos e (he e hm).1)
  have suml : es.length ≤ (es.map (fun x => (gxLn x).1)).sum := by
    have : ∀ es : List gEx, (∀ e ∈ es, 1 ≤ (gxLn e).1) → es.length ≤ (es.map (fun x => (gxLn x).1)).sum := by
      intro es
      induction es with
      | nil => intro _; exact Nat.le_refl _
      | cons e es ih =>
        intro hp
        rw [List.map_cons, List.sum_cons, List.length_cons]
        have := ih (fun x hx => hp x (List.mem_cons_of_mem _ hx))
        have := hp e List.mem_cons_self
        omega
    exact this es (fun e hm => gxLn_pos e (he e hm).1)
  -- chains further on
  have key : ∀ (m j : Nat) (n x10 : Int) (M1 : gM), j + m = es.length → gOff (gmF o s) M0 M1 → M1 o 50 = ((s + j : Nat) : Int) → gxCh M1 o L (es.drop j) n → gmRn M1 o L T P R S.length w j es x10 → (∀ q, q < j → gmAt M1 o (s + q) (gStv (gxAv E T S (gTks w) es q))) → g32 n → wp l G y_GM_call_2 (gRm (d + 9)) true (kkV X k) true 263 [.val (gR G o), .unset, .unset, .unset, .val (gI ((gNk i + (gTi (i + 14)).length + 1 : Nat) : Int)), .val (gI f), .val (gI (gSl (gWta w) : Int)), .unset, .val (gI n), .val (gI (s : Int)), .val (gI x10), .val (gI (j : Int)), .unset, .unset, .unset] [] X M1 0 0 := by
    intro m
    induction m with
    | zero =>
      intro j n x10 M1 hj q1 t1 hc hR hA gn
      have e : j = es.length := by omega
      subst e
      rw [← sl] at t1 hR hA hj
      have hC1 := hC.keepF q1
      have gx10 : g32 x10 := by
        rcases hR with q | ⟨r, -, -, nd, wf, -⟩
        · exact ⟨by omega, by omega⟩
        · have := (gxNd_sort wf nd).1
          exact ⟨by omega, by omega⟩
      have t1' : M1 o 50 = (t : Int) := by rw [t1, hst]
      have hgA : ∀ M2 : gM, (∀ q, q < gSl (gWta w) → gmAt M2 o (s + q) (gStv (gxAv E T S (gTks w) es q))) → ∀ j, j < gSl (gWta w) → gSuit0 (gSc (gWta w) j) (gxAv E T S (gTks w) es j) ∧ (gSc (gWta w) j ≠ 114 → gmAt M2 o (s + j) (gxAv E T S (gTks w) es j)) ∧ (gSc (gWta w) j = 114 → gxAv E T S (gTks w) es j = gxBx T (es.getD j (.num 0))) := fun M2 hA2 j hj => by
        obtain ⟨a1, a2, a3⟩ := arg j (by omega)
        refine ⟨a1, fun q => ?_, fun q => (a2 q).1⟩
        have := hA2 j hj
        rw [gStv_id (by have := a1.2.1; omega)] at this
        exact this
      have s395 : ∀ x11 : Int, (x11 = 0 ∨ x11 = 1 ∧ ∀ j, j < gSl (gWta w) → gSc (gWta w) j = 118) → gBadA (gWta w) (gxAv E T S (gTks w) es) (gSl (gWta w)) 0 = none → wp l G y_GM_call_2 (gRm (d + 9)) true (kkV X k) true 395 [.val (gR G o), .unset, .unset, .unset, .val (gI ((gNk i + (gTi (i + 14)).length + 1 : Nat) : Int)), .val (gI f), .val (gI (gSl (gWta w) : Int)), .unset, .unset, .val (gI (s : Int)), .val (gI x10), .val (gI x11), .unset, .unset, .unset] [] X M1 0 0 := fun x11 h11 hb =>
        gm_398 (M0 := M0) (es := es) (nb := S.length) (E := E) (T := T) (S := S) (P := P) (R := R) (L := L) hX hO hw hi h5 hf hst (by omega) t1' q1 hC1 (hgA M1 hA) hb hR h11 h
      have noV : ¬ (13 ≤ i ∧ i ≤ 16) → ∀ j, 0 ≤ j → j < 0 + gSl (gWta w) → gSc (gWta w) j ≠ 118 := by
        have : ∀ w, w < 52 → (∀ j, j < gSl (gWta w) → gSc (gWta w) j ≠ 118) ∨ (27 ≤ w ∧ w ≤ 30) ∨ gWgr w = 5 := by decide +kernel
        intro q j _ hj
        rcases this w hw2.2 with z | z | z
        · exact z j (by omega)
        · omega
        · exact absurd z h5
      have s372 : ¬ (13 ≤ i ∧ i ≤ 16) → wp l G y_GM_call_2 (gRm (d + 9)) true (kkV X k) true 372 [.val (gR G o), .unset, .unset, .unset, .val (gI ((gNk i + (gTi (i + 14)).length + 1 : Nat) : Int)), .val (gI f), .val (gI (gSl (gWta w) : Int)), .unset, .unset, .val (gI (s : Int)), .val (gI x10), .unset, .unset, .unset, .unset] [] X M1 0 0 := by
        intro ni
        have eb : gBadA (gWta w) (gxAv E T S (gTks w) es) (gSl (gWta w)) 0 = gBadE (gxAv E T S (gTks w) es) (gSl (gWta w)) 0 := gBadE_A _ _ (noV ni)
        refine w_GM_call_2_372 (d := d + 4) hX hO gp gf gsl gs gx10 ⟨fun z => s395 0 (Or.inl rfl) ?_, fun z => ⟨fun z2 => absurd rfl z2, fun _ => ?_⟩⟩
        · rw [show gSl (gWta w) = 0 by omega]; rfl
        · refine r_spoilt (d := d + 6) (t := s) (n := gSl (gWta w)) (as := fun j => gStv (gxAv E T S (gTks w) es j)) hX (by omega) (by omega) (by rw [t1', hst]) (fun j hj => ⟨hA j hj, ?_⟩) (fun e0 => ⟨fun _ => s395 0 (Or.inl rfl) ?_, fun z2 => absurd rfl z2⟩) (fun e he2 bd M2 o2 a2 t2 => ⟨fun z2 => absurd z2 (by decide), fun _ => ?_⟩)
          · unfold gStv
            split
            · exact ⟨by show (0 : Int) ≤ 0; decide, by show (0 : Int) ≤ 5; decide, ⟨by show _ ≤ (0 : Int); decide, by show (0 : Int) < _; decide⟩, fun q => absurd q (by show ¬ (0 : Int) = 2; decide), fun _ => rfl, fun _ => rfl, fun q => absurd q (by show ¬ (0 : Int) = 3; decide), fun q => absurd q (by show ¬ (0 : Int) = 4; decide), fun b hb => by cases hb⟩
            · exact (arg j (by omega)).1.1
          · rw [eb, ← gBadE_sv]; exact e0
          · rw [gBadE_sv] at he2
            rw [gApp_er (eb.trans he2)] at h
            exact h M2 (q1.tr o2) a2 t2
      refine w_GM_call_2_263 (d := d + 4) hX hO gp gf gsl gn gs gx10 ⟨by omega, by omega⟩ ⟨fun _ => ⟨fun z => s372 (by omega), fun z => ⟨fun z2 => s372 (by omega), fun z2 => ?_⟩⟩, fun z => absurd (by omega) z⟩
      have allV : ∀ j, j < gSl (gWta w) → gSc (gWta w) j = 118 := by
        have : ∀ w, w < 31 → 27 ≤ w → ∀ j, j < gSl (gWta w) → gSc (gWta w) j = 118 := by decide +kernel
        exact this w (by omega) (by omega)
      have hb : gBadA (gWta w) (gxAv E T S (gTks w) es) (gSl (gWta w)) 0 = none := by
        have : ∀ m j, j + m = gSl (gWta w) → gBadA (gWta w) (gxAv E T S (gTks w) es) m j = none := by
          intro m
          induction m with
          | zero => intro j _; rfl
          | succ m ih =>
            intro j hj
            unfold gBadA
            rw [if_neg (fun q => q.2 (allV j (by omega))), ih (j + 1) (by omega)]
        exact this _ 0 (by omega)
      exact ⟨fun _ => s395 1 (Or.inr ⟨rfl, allV⟩) hb, fun _ => ⟨fun _ => s395 1 (Or.inr ⟨rfl, allV⟩) hb, fun z3 => absurd z3 (by decide)⟩⟩
    | succ m ih =>
      intro j n x10 M1 hj q1 t1 hc hR hA gn
      have hjl : j < es.length := by omega
      have hd : es.drop j = es.getD j (.num 0) :: es.drop (j + 1) := by
        rw [List.getD_eq_getElem?_getD, List.getElem?_eq_getElem hjl]
        exact List.drop_eq_getElem_cons hjl
      rw [hd] at hc
      obtain ⟨c1, c2⟩ := hc
      obtain ⟨a1, a2, a3⟩ := arg j hjl
      have hm := (gxGet (E := E) (T := T) (S := S) es j hjl).2
      obtain ⟨wf, ge, hH⟩ := he _ hm
      have srt := gxNd_sort wf c1
      have hC1 := hC.keepF q1
      have gx10 : g32 x10 := by
        rcases hR with q | ⟨r, -, -, nd, wf, -⟩
        · exact ⟨by omega, by omega⟩
        · have := (gxNd_sort wf nd).1
          exact ⟨by omega, by omega⟩
      have kj := k5 j (by rw [← hw]; omega)
      rw [← hw] at kj
      have bj := bnd j hjl
      have tx : ∀ q, q < j → (gStv (gxAv E T S (gTks w) es q)).tx.length ≤ 64 := fun q hq => by
        unfold gStv
        split
        · exact Nat.zero_le _
        · exact (arg q (by omega)).1.1.tx64
      -- the next argument
      have nxt : ∀ (x10' : Int) (M2 : gM), gOff (gmF o (s + j)) M1 M2 → M2 o 50 = ((s + j : Nat) : Int) + 1 → gmAt M2 o (s + j) (gStv (gxAv E T S (gTks w) es j)) → gmRn M2 o L T P R S.length w (j + 1) es x10' → g32 (M2 (o + 5) n.toNat) → wp l G y_GM_call_2 (gRm (d + 9)) true (kkV X k) true 263 [.val (gR G o), .unset, .unset, .unset, .val (gI ((gNk i + (gTi (i + 14)).length + 1 : Nat) : Int)), .val (gI f), .val (gI (gSl (gWta w) : Int)), .unset, .val (gI (M2 (o + 5) n.toNat)), .val (gI (s : Int)), .val (gI x10'), .val (gI (w32 ((j : Int) + 1))), .unset, .unset, .unset] [] X M2 0 0 := by
        intro x10' M2 q2 t2 a2' hR2 gn2
        rw [w32_id (x := (j : Int) + 1) ⟨by omega, by omega⟩]
        have st := ih (j + 1) (M2 (o + 5) n.toNat) x10' M2 (by omega) (q1.tr (q2.mono (gmF_le (by omega)))) (by rw [t2]; omega) ?_ hR2 (fun q hq => ?_) gn2
        · rw [show ((j + 1 : Nat) : Int) = (j : Int) + 1 by omega] at st
          exact st
        · have := gxCh_F q2 _ _ c2
          rw [← q2 (o + 5) n.toNat (by unfold gmF; omega)] at this
          exact this
        · by_cases e : q = j
          · rw [e]; exact a2'
          · exact (hA q (by omega)).keepF (tx q (by omega)) q2 (by omega)
      have keepR : ∀ M2 : gM, gOff (gmF o (s + j)) M1 M2 → gmRn M1 o L T P R S.length w j es x10 → gSc (gWta w) j ≠ 114 → gmRn M2 o L T P R S.length w (j + 1) es x10 := by
        intro M2 q2 h1 hne
        rcases h1 with q | ⟨r, r1, r2, r3, r4⟩
        · refine Or.inl ⟨fun i2 hi2 => ?_, q.2⟩
          by_cases e : i2 = j
          · rw [e]; exact hne
          · exact q.1 i2 (by omega)
        · exact Or.inr ⟨r, by omega, r2, by rw [gxNd_F q2]; exact r3, r4⟩
      refine w_GM_call_2_263 (d := d + 4) hX hO gp gf gsl gn gs gx10 ⟨by omega, by omega⟩ ⟨fun z => absurd z (by omega), fun _ => ?_⟩
      rw [w32_id (x := ((gNk i + (gTi (i + 14)).length + 1 : Nat) : Int) + (j : Int)) ⟨by omega, by omega⟩, show (((gNk i + (gTi (i + 14)).length + 1 : Nat) : Int) + (j : Int)).toNat = gNk i + (gTi (i + 14)).length + 1 + j by omega]
      have kj1 : gSc 7 (gNk i + (gTi (i + 14)).length + 1 + j) = 114 ↔ gSc (gWta w) j = 114 := by rw [hw] at kj ⊢; exact kj.1
      have k4' : gNk i + (gTi (i + 14)).length + 1 + gSl (gWta w) + 1 = gNk (i + 1) := by rw [hw]; exact k4
      refine ⟨⟨by omega, by rw [gSl7]; omega⟩, fun z => ⟨srt.1, fun _ => ?_⟩, fun z => ?_⟩
      · -- a range
        have c114 := kj1.mp z
        obtain ⟨b1, b2⟩ := a2 c114
        have hR2 : ∀ M2 : gM, gOff (gmF o (s + j)) M1 M2 → gmRn M2 o L T P R S.length w (j + 1) es n := fun M2 q2 => Or.inr ⟨j, by omega, c114, by rw [gxNd_F q2]; exact c1, wf, b2⟩
        obtain ⟨x, hx, hpx, hgo, hgn⟩ : ∃ x : Int, M1 (o + 3) n.toNat = x ∧ P x ∧ (0 ≤ T x → gStv (gxBx T (es.getD j (.num 0))) = ⟨0, 0, []⟩) ∧ (T x < 0 → gStv (gxBx T (es.getD j (.num 0))) = gE 2) := by
          generalize es.getD j (.num 0) = e at c1 wf b2
          cases e with
          | var v =>
            refine ⟨(v : Int), c1.2, wf, fun z => ?_, fun z => ?_⟩
            · show gStv (if T (v : Int) < 0 then gE 2 else ⟨5, T (v : Int) * 5200 + T (v : Int), []⟩) = _
              rw [if_neg (by omega)]; rfl
            · show gStv (if T (v : Int) < 0 then gE 2 else ⟨5, T (v : Int) * 5200 + T (v : Int), []⟩) = _
              rw [if_pos z]; rfl
          | mulL v b =>
            cases b with
            | neg b =>
              refine ⟨v, c1.2, (hC.2.2.2.1.2 v wf).1, fun z => ?_, fun z => ?_⟩
              · show gStv (if T v < 0 then gE 2 else ⟨5, T v * 5200 + T (v + 1), []⟩) = _
                rw [if_neg (by omega)]; rfl
              · show gStv (if T v < 0 then gE 2 else ⟨5, T v * 5200 + T (v + 1), []⟩) = _
                rw [if_pos z]; rfl
            | _ => rcases b2 with h | h <;> cases h
          | _ => rcases b2 with h | h <;> cases h
        obtain ⟨p1, p2, p3⟩ := hC1.2.2.1 x hpx
        rw [hx]
        refine c_GM_refOf hX ⟨hC1.2.1.1, hC1.2.1.2.1⟩ hC1.2.1.2.2 ⟨by omega, by omega⟩ ⟨by omega, by omega⟩ ?_
        rw [show M1 (o + 24) (gmRa M1 o (M1 o 51) (M1 o 52) x).toNat = T x from p3]
        refine ⟨fun z3 => ⟨fun _ => ?_, fun z4 => absurd rfl z4⟩, fun z3 => ⟨fun z4 => absurd z4 (by decide), fun _ => ?_⟩⟩
        · refine r_push (t := s + j) hX (g32_c (x := 0) rfl) (g64_c (x := 0) rfl) (by omega) t1 (fun M2 q2 a2' t2 => ⟨srt.1, fun g2 => nxt n M2 q2 t2 ?_ (hR2 M2 q2) g2⟩)
          rw [b1, hgo z3]
          exact a2'
        · refine r_fault (t := s + j) hX (by decide) (by omega) t1 (fun M2 q2 a2' t2 => ⟨srt.1, fun g2 => nxt n M2 q2 t2 ?_ (hR2 M2 q2) g2⟩)
          rw [b1, hgn (by omega)]
          exact a2'
      · have n114 : gSc (gWta w) j ≠ 114 := fun q => z (kj1.mpr q)
        obtain ⟨b1, b2⟩ := a3 n114
        refine ge b2 (d + 8) (s + j) M1 n _ hH hC1 c1 t1 (by omega) (fun M2 q2 a2' t2 => ⟨srt.1, fun g2 => nxt x10 M2 q2 t2 ?_ (keepR M2 q2 hR n114) g2⟩)
        rw [gStv_id (by rw [b1]; exact (gP _ hm b2).2), b1]
        exact a2'
  refine key es.length 0 n0 (-1) M0 (by omega) (gOff.rf _ _) (by rw [hs0]; rfl) (by rw [List.drop_zero]; exact hch) (Or.inl ⟨fun i2 hi2 => absurd hi2 (by omega), rfl⟩) (fun q hq => absurd hq (by omega)) gn0
end gcK
