/-! The reference: every tree is worked out. -/
theorem g0j (j : Nat) (h : j < 0 + 1) : j = 0 := by omega
section gcM
variable {l : Launch} {G : gG} {X : gX} {o L : Nat} {Q : gQ} {E : Int → gVl} {T : Int → Int} {S : List Int} {P R : Int → Prop}
theorem gxGm_all (hX : gmX X o) (hO : gOld G Q) (hS : ∀ b ∈ S, 32 ≤ b ∧ b ≤ 126) : ∀ e : gEx, ((gxWf P R S.length e).1 → gxR e = false → gxGm l G X o L E T S P R e) ∧ ((gxWf P R S.length e).2 → ∀ x ∈ gxAL e, gxR x = false → gxGm l G X o L E T S P R x) ∧ (∀ a b, e = .add a b → ((gxWf P R S.length a).1 → gxR a = false → gxGm l G X o L E T S P R a) ∧ ((gxWf P R S.length b).1 → gxR b = false → gxGm l G X o L E T S P R b)) := by
  -- a node's bounds
  have g32n : ∀ {n : Int}, 0 ≤ n ∧ n < 90000 → g32 n := fun q => ⟨by omega, by omega⟩
  intro e
  induction e with
  | num x =>
    refine ⟨fun w _ => ?_, fun _ y hy => (by cases hy), fun a b h => (by cases h)⟩
    intro D t M n k hD hC hnd ht hn h
    obtain ⟨d, rfl⟩ : ∃ d, D = d + 8 := ⟨D - 8, by omega⟩
    obtain ⟨⟨n0, n1, hs⟩, hx⟩ := hnd
    refine e_GM_eval (d := d + 7) (w_GM_eval_0 (d := d + 7) hX (g32n ⟨n0, n1⟩) ⟨⟨n0, n1⟩, ?_⟩)
    simp only [hs, Int.reduceEq, Int.reduceNeg, not_true_eq_false, not_false_eq_true, true_and, and_true, false_and, and_false, true_implies, false_implies, implies_true, and_self]
    rw [hx]
    exact fun _ => ⟨⟨n0, n1⟩, fun gx => r_push hX (g32_c (x := 1) rfl) gx (by omega) ht (fun M2 o2 a2 t2 => w_GM_eval_436 (d := d + 7) hX (h M2 o2 a2 t2))⟩
  | var i =>
    refine ⟨fun w _ => ?_, fun h => absurd h (fun q => q), fun a b h => (by cases h)⟩
    intro D t M n k hD hC hnd ht hn h
    obtain ⟨d, rfl⟩ : ∃ d, D = d + 8 := ⟨D - 8, by omega⟩
    obtain ⟨⟨n0, n1, hs⟩, hx⟩ := hnd
    obtain ⟨c1, c2, c3⟩ := hC.2.2.1 _ w
    have c4 := hC.2.2.2.1.1 _ w
    have h : gmPost M o t (if T (i : Int) < 0 then gE 2 else E (T (i : Int))) k := h
    refine e_GM_eval (d := d + 7) (w_GM_eval_0 (d := d + 7) hX (g32n ⟨n0, n1⟩) ⟨⟨n0, n1⟩, ?_⟩)
    simp only [hs, Int.reduceEq, Int.reduceNeg, not_true_eq_false, not_false_eq_true, true_and, and_true, false_and, and_false, true_implies, false_implies, implies_true, and_self]
    rw [hx]
    have rf : ∀ {k : Int → gM → Prop}, k (T (i : Int)) M → cI l G y_GM_refOf (gRm (d + 7)) false [gR G o, gI (i : Int)] X M k := fun {k} hk => c_GM_refOf hX ⟨hC.2.1.1, hC.2.1.2.1⟩ hC.2.1.2.2 ⟨by omega, by omega⟩ ⟨by omega, by omega⟩ (by rw [show M (o + 24) (gmRa M o (M o 51) (M o 52) (i : Int)).toNat = T (i : Int) from c3]; exact hk)
    refine fun _ => ⟨⟨n0, n1⟩, fun _ => rf ⟨fun z => ⟨⟨n0, n1⟩, ?_⟩, fun z => ?_⟩⟩
    · rw [if_neg (by omega)] at h
      rw [hx]
      exact fun _ => rf (r_pushCell (E := E) hX ⟨z, c4.2⟩ hC.1 (by omega) ht (fun M2 o2 a2 t2 => w_GM_eval_436 (d := d + 7) hX (h M2 o2 a2 t2)))
    · rw [if_pos (by omega)] at h
      exact r_fault hX (by decide) (by omega) ht (fun M2 o2 a2 t2 => w_GM_eval_436 (d := d + 7) hX (h M2 o2 a2 t2))
  | neg x ih =>
    refine ⟨fun w _ => ?_, fun h => absurd h (fun q => q), fun a b h => (by cases h)⟩
    intro D t M n k hD hC hnd ht hn h
    have hD : 8 + (gxH x + 1) ≤ D := hD
    have hn : t + ((gxLn x).1 + 1) ≤ 1000 := hn
    obtain ⟨d, rfl⟩ : ∃ d, D = d + 9 := ⟨D - 9, by omega⟩
    obtain ⟨⟨n0, n1, hs⟩, hx⟩ := hnd
    have vP := gm_vP hC hS w.1 w.2
    have h : gmPost M o t (gApp E 13 (fun _ => (gxEv E T S x).1)) k := h
    refine e_GM_eval (d := d + 8) (w_GM_eval_0 (d := d + 8) hX (g32n ⟨n0, n1⟩) ⟨⟨n0, n1⟩, ?_⟩)
    simp only [hs, Int.reduceEq, Int.reduceNeg, not_true_eq_false, not_false_eq_true, true_and, and_true, false_and, and_false, true_implies, false_implies, implies_true, and_self]
    refine fun _ => ⟨⟨n0, n1⟩, fun _ => ih.1 w.1 w.2 (d + 8) t M _ _ (by omega) hC hx ht (by omega) (fun M1 o1 a1 t1 => ?_)⟩
    generalize (gxEv E T S x).1 = v at vP h a1
    have eb : gBadA (gWta 13) (fun _ => v) (gSl (gWta 13)) 0 = gBadE (fun _ => v) 1 0 := gBadE_A 1 0 (fun j _ hj => (g0j j hj).symm ▸ (by decide))
    refine r_spoilt (d := d + 6) (t := t) (n := 1) (as := fun _ => v) hX (by omega) (by decide) (by rw [t1]; rfl) (fun j hj => (g0j j (by omega)).symm ▸ ⟨a1, vP.1⟩) (fun e0 => ⟨fun _ => ?_, fun q => absurd rfl q⟩) (fun e he bd M2 o2 a2 t2 => ⟨fun q => absurd q (by decide), fun _ => h M2 (o1.tr o2) ?_ t2⟩)
    · rw [t1, show (t : Int) + 1 - 1 = (t : Int) by omega]
      have eb0 := eb.trans e0
      have eN : gNoT (gWta 13) (fun _ => v) (gSl (gWta 13)) 0 = ((gToN v).isNone || false) := rfl
      refine fun _ => r_asNumber (d := d + 6) hX (by omega) a1 vP.1 (fun zn M2 q2 => ⟨fun q => absurd rfl q, fun _ => ?_⟩) (fun u hu M2 q2 a2 => ⟨fun _ => ?_, fun q => absurd q (by decide)⟩)
      · have t2 : M2 o 50 = (t : Int) + 1 := (q2 _ _ (by unfold gmSl; omega)).trans t1
        rw [gApp_no eb0 (by rw [eN, zn]; rfl)] at h
        exact r_become hX (by decide) (g32_c (x := 4) rfl) (g64_c (x := 4) rfl) (by omega) (by omega) (by omega) (fun M3 o3 a3 t3 => w_GM_eval_436 (d := d + 8) hX (h M3 ((o1.tr (q2.mono (gmSl_F (Nat.le_refl _)))).tr o3) a3 t3))
      · have t2 : M2 o 50 = (t : Int) + 1 := (q2 _ _ (by unfold gmSl; omega)).trans t1
        have ku : u.kd = 1 := by
          unfold gToN at hu
          split at hu
          · cases hq : gNum v.tx with
            | none => rw [hq] at hu; cases hu
            | some z => rw [hq] at hu; cases hu; rfl
          · cases hu; rfl
        have eA : gApp E 13 (fun _ => v) = gFit (-u.nm) := by
          rw [gApp_go eb0 (by rw [eN, hu]; rfl)]
          show gFit (-(gTo v 110).nm) = _
          rw [gTo_N hu]
        rw [eA] at h
        have gu := (gToN_ok vP.1 hu).2.2.1
        rw [t2, show (t : Int) + 1 - 1 = (t : Int) by omega, Int.toNat_natCast, a2.2.2.1 (by omega)]
        have bt : (0 : Int) ≤ (t : Int) ∧ (t : Int) < 1200 := ⟨by omega, by omega⟩
        have o12 := o1.tr (q2.mono (gmSl_F (Nat.le_refl _)))
        refine fun _ => ⟨bt, fun _ => ⟨fun z _ _ => ⟨bt, fun _ => ⟨bt, w_GM_eval_436 (d := d + 8) hX (h _ (o12.up ?_) ⟨?_, ?_, fun _ => ?_, ?_⟩ ?_)⟩⟩, fun z => ?_⟩⟩
        · unfold gmF; omega
        · rw [gUp_oo (by decide), a2.1, ku]
          unfold gFit
          rw [if_pos (by unfold g64 at *; omega)]
          rfl
        · rw [gUp_oo (by decide), a2.2.1, (gToN_ok vP.1 hu).2.2.2.2.1 (by omega)]
          unfold gFit
          rw [if_pos (by unfold g64 at *; omega)]
          rfl
        · rw [gUp_eq, w64_id (by unfold g64 at *; omega)]
          unfold gFit
          rw [if_pos (by unfold g64 at *; omega)]
          rfl
        · unfold gFit
          rw [if_pos (by unfold g64 at *; omega)]
          rfl
        · rw [gUp_o (by decide)]
          exact t2
        · rw [z] at h
          have ne : gFit (-(-9223372036854775808)) = gE 6 := by unfold gFit; rw [if_neg (by unfold g64; decide)]
          rw [ne] at h
          exact r_become hX (by decide) (g32_c (x := 4) rfl) (g64_c (x := 6) rfl) (by omega) (by omega) (by omega) (fun M3 o3 a3 t3 => w_GM_eval_436 (d := d + 8) hX (h M3 (o12.tr o3) a3 t3))
    · rw [gApp_er (eb.trans he)]
      exact a2
  | mulR x kk ih =>
    refine ⟨fun w _ => ?_, fun h => absurd h (fun q => q), fun a b h => (by cases h)⟩
    intro D t M n k hD hC hnd ht hn h
    have hD : 8 + (gxH x + 1) ≤ D := hD
    have hn : t + (if kk = 0 then (gxLn x).1 else (gxLn x).1 + 1) ≤ 1000 := hn
    obtain ⟨d, rfl⟩ : ∃ d, D = d + 9 := ⟨D - 9, by omega⟩
    obtain ⟨⟨n0, n1, hs⟩, hx⟩ := hnd
    have vP := gm_vP hC hS w.1 w.2
    have h : gmPost M o t (if kk = 0 then (gxEv E T S x).1 else gApp E 12 (fun _ => (gxEv E T S x).1)) k := h
    refine e_GM_eval (d := d + 8) (w_GM_eval_0 (d := d + 8) hX (g32n ⟨n0, n1⟩) ⟨⟨n0, n1⟩, ?_⟩)
    by_cases k0 : kk = 0
    · rw [if_pos k0] at hs hn h
      simp only [hs, Int.reduceEq, Int.reduceNeg, not_true_eq_false, not_false_eq_true, true_and, and_true, false_and, and_false, true_implies, false_implies, implies_true, and_self]
      exact fun _ => ⟨⟨n0, n1⟩, fun _ => ih.1 w.1 w.2 (d + 8) t M _ _ (by omega) hC hx ht (by omega) (fun M1 o1 a1 t1 => w_GM_eval_436 (d := d + 8) hX (h M1 o1 a1 t1))⟩
    · rw [if_neg k0] at hs hn h
      simp only [hs, Int.reduceEq, Int.reduceNeg, not_true_eq_false, not_false_eq_true, true_and, and_true, false_and, and_false, true_implies, false_implies, implies_true, and_self]
      refine fun _ => ⟨⟨n0, n1⟩, fun _ => ih.1 w.1 w.2 (d + 8) t M _ _ (by omega) hC hx ht (by omega) (fun M1 o1 a1 t1 => ?_)⟩
      generalize (gxEv E T S x).1 = v at vP h a1
      have eb : gBadA (gWta 12) (fun _ => v) (gSl (gWta 12)) 0 = gBadE (fun _ => v) 1 0 := gBadE_A 1 0 (fun j _ hj => (g0j j hj).symm ▸ (by decide))
      refine r_spoilt (d := d + 6) (t := t) (n := 1) (as := fun _ => v) hX (by omega) (by decide) (by rw [t1]; rfl) (fun j hj => (g0j j (by omega)).symm ▸ ⟨a1, vP.1⟩) (fun e0 => ⟨fun _ => ?_, fun q => absurd rfl q⟩) (fun e he bd M2 o2 a2 t2 => ⟨fun q => absurd q (by decide), fun _ => h M2 (o1.tr o2) ?_ t2⟩)
      · rw [t1, show (t : Int) + 1 - 1 = (t : Int) by omega]
        have eb0 := eb.trans e0
        have eN : gNoT (gWta 12) (fun _ => v) (gSl (gWta 12)) 0 = ((gToN v).isNone || false) := rfl
        refine fun _ => r_asNumber (d := d + 6) hX (by omega) a1 vP.1 (fun zn M2 q2 => ⟨fun q => absurd rfl q, fun _ => ?_⟩) (fun u hu M2 q2 a2 => ⟨fun _ => ?_, fun q => absurd q (by decide)⟩)
        · have t2 : M2 o 50 = (t : Int) + 1 := (q2 _ _ (by unfold gmSl; omega)).trans t1
          rw [gApp_no eb0 (by rw [eN, zn]; rfl)] at h
          exact r_become hX (by decide) (g32_c (x := 4) rfl) (g64_c (x := 4) rfl) (by omega) (by omega) (by omega) (fun M3 o3 a3 t3 => w_GM_eval_436 (d := d + 8) hX (h M3 ((o1.tr (q2.mono (gmSl_F (Nat.le_refl _)))).tr o3) a3 t3))
        · have t2 : M2 o 50 = (t : Int) + 1 := (q2 _ _ (by unfold gmSl; omega)).trans t1
          have ku : u.kd = 1 := by
            unfold gToN at hu
            split at hu
            · cases hq : gNum v.tx with
              | none => rw [hq] at hu; cases hu
              | some z => rw [hq] at hu; cases hu; rfl
            · cases hu; rfl
          have eA : gApp E 12 (fun _ => v) = gN (u.nm.tdiv 100) := by
            rw [gApp_go eb0 (by rw [eN, hu]; rfl)]
            show gN ((gTo v 110).nm.tdiv 100) = _
            rw [gTo_N hu]
          rw [eA] at h
          have gu := (gToN_ok vP.1 hu).2.2.1
          rw [t2, show (t : Int) + 1 - 1 = (t : Int) by omega, Int.toNat_natCast, a2.2.2.1 (by omega)]
          have bt : (0 : Int) ≤ (t : Int) ∧ (t : Int) < 1200 := ⟨by omega, by omega⟩
          have o12 := o1.tr (q2.mono (gmSl_F (Nat.le_refl _)))
          refine fun _ _ => ⟨bt, fun _ => ⟨bt, w_GM_eval_436 (d := d + 8) hX (h _ (o12.up ?_) ⟨?_, ?_, fun _ => ?_, rfl⟩ ?_)⟩⟩
          · unfold gmF; omega
          · rw [gUp_oo (by decide), a2.1, ku]; rfl
          · rw [gUp_oo (by decide), a2.2.1, (gToN_ok vP.1 hu).2.2.2.2.1 (by omega)]; rfl
          · rw [gUp_eq, w64_id (g64_tdiv gu (by omega))]; rfl
          · rw [gUp_o (by decide)]
            exact t2
      · rw [gApp_er (eb.trans he)]
        exact a2
  | mulL kk x ih =>
    cases x with
    | num q =>
      refine ⟨fun w _ => ?_, fun h => absurd h (fun q => q), fun a b h => (by cases h)⟩
      intro D t M n k hD hC hnd ht hn h
      obtain ⟨d, rfl⟩ : ∃ d, D = d + 8 := ⟨D - 8, by omega⟩
      obtain ⟨⟨n0, n1, hs⟩, h3, h4⟩ := hnd
      have w : 0 ≤ kk ∧ kk ≤ q ∧ q ≤ (S.length : Int) ∧ q - kk ≤ 64 := w
      obtain ⟨w1, w2, w3, w4⟩ := w
      have hn : t + 1 ≤ 1000 := hn
      have h : gmPost M o t (gTxt ((S.drop kk.toNat).take (q - kk).toNat)) k := h
      have hby := hC.2.2.2.2.1
      have hL := hC.2.2.2.2.2
      have etx : gBy M (o + 1) (L + kk.toNat) (q - kk).toNat = (S.drop kk.toNat).take (q - kk).toNat := gBy_sub hby (by omega)
      have elen : ((S.drop kk.toNat).take (q - kk).toNat).length = (q - kk).toNat := by rw [← etx, gBy_len]
      have pS : ∀ b ∈ (S.drop kk.toNat).take (q - kk).toNat, 32 ≤ b ∧ b ≤ 126 := fun b hb => hS b (List.mem_of_mem_drop (List.mem_of_mem_take hb))
      generalize (S.drop kk.toNat).take (q - kk).toNat = tx at h etx elen pS
      refine e_GM_eval (d := d + 7) (w_GM_eval_0 (d := d + 7) hX (g32n ⟨n0, n1⟩) ⟨⟨n0, n1⟩, ?_⟩)
      simp only [hs, Int.reduceEq, Int.reduceNeg, not_true_eq_false, not_false_eq_true, true_and, and_true, false_and, and_false, true_implies, false_implies, implies_true, and_self]
      refine fun _ => c_GM_push hX (g32_c (x := 2) rfl) (g64_c (x := 0) rfl) ⟨by omega, by omega⟩ ?_
      have pa := gmPush_at (M := M) (o := o) (t := t) (s := 2) (v := 0) ht
      have p3 : gmPush M o 2 0 (o + 3) n.toNat = (L : Int) + kk := (pa.1 _ _ (by unfold gmF; omega)).trans h3
      have p4 : gmPush M o 2 0 (o + 4) n.toNat = (L : Int) + q := (pa.1 _ _ (by unfold gmF; omega)).trans h4
      rw [pa.2.2, p3, p4, show (t : Int) + 1 - 1 = (t : Int) by omega, Int.toNat_natCast, show (L : Int) + q - ((L : Int) + kk) = (tx.length : Int) by omega, w32_id (x := (tx.length : Int)) ⟨by omega, by omega⟩]
      refine fun _ => ⟨⟨n0, n1⟩, fun _ => ⟨⟨n0, n1⟩, fun _ => ⟨⟨by omega, by omega⟩, ?_⟩⟩⟩
      have key : ∀ (m j : Nat), j + m = tx.length → wp l G y_GM_eval (gRm (d + 7 + 1)) true (kkV X k) true 120 [.val (gR G o), .val (gI n), .val (gI (j : Int))] [] X (gFl (gUp (gmPush M o 2 0) (o + 35) t (tx.length : Int)) (o + 37) (64 * t) (fun p => tx.getD p 0) j) 0 0 := by
        intro m
        induction m with
        | zero =>
          intro j hj
          have e : j = tx.length := by omega
          subst e
          refine w_GM_eval_120 (d := d + 7) hX (g32n ⟨n0, n1⟩) ⟨by omega, by omega⟩ ?_
          rw [gFl_o (by decide), gUp_o (by decide), pa.2.2, show (t : Int) + 1 - 1 = (t : Int) by omega, Int.toNat_natCast, gFl_oo (by decide), gUp_eq]
          refine fun _ => ⟨⟨by omega, by omega⟩, fun _ => ⟨fun _ => w_GM_eval_436 (d := d + 7) hX (h _ ?_ ⟨?_, ?_, fun q => absurd rfl q, ?_⟩ ?_), fun z => absurd (Int.le_refl _) z⟩⟩
          · exact (pa.1.up (by unfold gmF; omega)).fl (fun j _ _ => by unfold gmF; omega)
          · rw [gFl_oo (by decide), gUp_oo (by decide), pa.2.1.1]; rfl
          · rw [gFl_oo (by decide), gUp_eq]; rfl
          · show gBy _ (o + 37) (64 * t) tx.length = tx
            refine gBy_of _ _ (fun p hp => ?_)
            rw [gFl_in (by omega) (by omega)]
            congr 1
            omega
          · rw [gFl_o (by decide), gUp_o (by decide)]
            exact pa.2.2
        | succ m ihm =>
          intro j hj
          have i1 := ihm (j + 1) (by omega)
          refine w_GM_eval_120 (d := d + 7) hX (g32n ⟨n0, n1⟩) ⟨by omega, by omega⟩ ?_
          have r1 : (gFl (gUp (gmPush M o 2 0) (o + 35) t (tx.length : Int)) (o + 37) (64 * t) (fun p => tx.getD p 0) j) (o + 1) (L + kk.toNat + j) = tx.getD j 0 := by
            rw [gFl_oo (by decide), gUp_oo (by decide), pa.1 (o + 1) _ (by unfold gmF; omega)]
            have := gBy_getD (M := M) (c := o + 1) (a := L + kk.toNat) (n := (q - kk).toNat) (j := j) (by omega)
            rw [etx] at this
            exact this.symm
          rw [gFl_o (by decide), gUp_o (by decide), pa.2.2, show (t : Int) + 1 - 1 = (t : Int) by omega, Int.toNat_natCast, gFl_oo (b := 37) (c := 35) (by decide), gUp_eq, gFl_oo (b := 37) (c := 3) (by decide), gUp_oo (a := 35) (b := 3) (by decide), p3, show ((L : Int) + kk + (j : Int)).toNat = L + kk.toNat + j by omega, r1, show (64 * (t : Int) + (j : Int)).toNat = 64 * t + j by omega]
          simp only [gI_w]
          refine fun _ => ⟨⟨by omega, by omega⟩, fun _ => ⟨fun z => absurd z (by omega), fun _ _ => ⟨⟨n0, n1⟩, fun _ => ⟨⟨by omega, by omega⟩, fun bq => ⟨⟨by omega, by omega⟩, ?_⟩⟩⟩⟩⟩
          rw [gByte_id bq]
          rw [← gFl_s] at i1
          exact i1
      have k0 := key tx.length 0 (by omega)
      rw [gFl_0] at k0
      exact k0
    | var i =>
      refine ⟨fun w _ => ?_, fun h => absurd h (fun q => q), fun a b h => (by cases h)⟩
      intro D t M n k hD hC hnd ht hn h
      obtain ⟨d, rfl⟩ : ∃ d, D = d + 8 := ⟨D - 8, by omega⟩
      obtain ⟨⟨n0, n1, hs⟩, hx⟩ := hnd
      refine e_GM_eval (d := d + 7) (w_GM_eval_0 (d := d + 7) hX (g32n ⟨n0, n1⟩) ⟨⟨n0, n1⟩, ?_⟩)
      simp only [hs, Int.reduceEq, Int.reduceNeg, not_true_eq_false, not_false_eq_true, true_and, and_true, false_and, and_false, true_implies, false_implies, implies_true, and_self]
      rw [hx]
      exact fun _ => ⟨⟨n0, n1⟩, fun gx => r_push hX (g32_c (x := 3) rfl) gx (by omega) ht (fun M2 o2 a2 t2 => w_GM_eval_436 (d := d + 7) hX (h M2 o2 a2 t2))⟩
    | add x y =>
      refine ⟨fun w _ => ?_, fun h => absurd h (fun q => q), fun a b h => (by cases h)⟩
      intro D t M n k hD hC hnd ht hn h
      have hD : 8 + (max (gxH x) (gxH y) + 1) ≤ D := hD
      have hn : t + ((gxLn x).1 + (gxLn y).1 + 1) ≤ 1000 := hn
      obtain ⟨d, rfl⟩ : ∃ d, D = d + 9 := ⟨D - 9, by omega⟩
      obtain ⟨⟨n0, n1, hs⟩, h6, h3, h4⟩ := hnd
      obtain ⟨k1, k2, wx, wy⟩ := w
      have px := gxLn_pos x wx.1
      have vx := gm_vP hC hS wx.1 wx.2
      have vy := gm_vP hC hS wy.1 wy.2
      obtain ⟨i1, i2⟩ := ih.2.2 x y rfl
      refine e_GM_eval (d := d + 8) (w_GM_eval_0 (d := d + 8) hX (g32n ⟨n0, n1⟩) ⟨⟨n0, n1⟩, ?_⟩)
      simp only [hs, Int.reduceEq, Int.reduceNeg, not_true_eq_false, not_false_eq_true, true_and, and_true, false_and, and_false, true_implies, false_implies, implies_true, and_self]
      refine fun _ => ⟨⟨n0, n1⟩, fun _ => i1 wx.1 wx.2 (d + 8) t M _ _ (by omega) hC h3 ht (by omega) (fun M1 o1 a1 t1 => ⟨⟨n0, n1⟩, ?_⟩)⟩
      have e4 : M1 (o + 4) n.toNat = M (o + 4) n.toNat := o1 _ _ (by unfold gmF; omega)
      refine fun _ => i2 wy.1 wy.2 (d + 8) (t + 1) M1 _ _ (by omega) (hC.keepF o1) (by rw [e4, gxNd_F o1]; exact h4) (by rw [t1]; rfl) (by omega) (fun M2 o2 a2 t2 => ⟨⟨n0, n1⟩, ?_⟩)
      have o12 := o1.tr (o2.mono (gmF_le (Nat.le_succ t)))
      have e6 : M2 (o + 6) n.toNat = gOpc kk.toNat := (o12 _ _ (by unfold gmF; omega)).trans h6
      rw [e6]
      exact fun _ => r_two (d := d + 1) (E := E) hX hO (show kk.toNat < 12 by omega) rfl (by omega) (by rw [t2]; omega) (a1.keepF vx.1.tx64 o2 (by omega)) vx a2 vy (fun M3 o3 a3 t3 => w_GM_eval_436 (d := d + 8) hX (h M3 (o12.tr o3) a3 t3))
    | neg y => exact ⟨fun _ h => (by cases h), fun h => absurd h (fun q => q), fun a b h => (by cases h)⟩
    | sub => exact ⟨fun h => absurd h (fun q => q), fun h => absurd h (fun q => q), fun a b h => (by cases h)⟩
    | mulL => exact ⟨fun h => absurd h (fun q => q), fun h => absurd h (fun q => q), fun a b h => (by cases h)⟩
    | mulR => exact ⟨fun h => absurd h (fun q => q), fun h => absurd h (fun q => q), fun a b h => (by cases h)⟩
  | add x xs ihx ihs =>
    refine ⟨fun h => absurd h (fun q => q), fun h y hy hr => ?_, fun a b h => by cases h; exact ⟨ihx.1, ihs.1⟩⟩
    rcases List.mem_cons.mp hy with q | q
    · rw [q] at hr ⊢; exact ihx.1 h.1 hr
    · exact ihs.2.1 h.2 y q hr
  | sub f as _ ih =>
    refine ⟨fun w _ => ?_, fun h => absurd h (fun q => q), fun a b h => (by cases h)⟩
    cases f with
    | num w0 =>
      intro D t M n k hD hC hnd ht hn h
      obtain ⟨hw, hargs⟩ := w
      have hD : 8 + (gxH as + 3) ≤ D := hD
      have hn : t + gxCl w0 (gxAL as) (gxLn as).2 ≤ 1000 := hn
      have h : gmPost M o t (gxCv E T w0 (gxAL as) (gxEv E T S as).2) k := h
      rw [gxLn_map] at hn
      rw [gxEv_map] at h
      obtain ⟨d, rfl⟩ : ∃ d, D = d + 10 := ⟨D - 10, by omega⟩
      obtain ⟨⟨n0, n1, hs⟩, h4, hch, a, b, hab, hb9, h6, hnm⟩ := hnd
      have hg := ih.2.1 hargs
      have hall := gxWf_all as hargs
      have hH := gxH_mem as
      refine e_GM_eval (d := d + 9) (w_GM_eval_0 (d := d + 9) hX (g32n ⟨n0, n1⟩) ⟨⟨n0, n1⟩, ?_⟩)
      simp only [hs, Int.reduceEq, Int.reduceNeg, not_true_eq_false, not_false_eq_true, true_and, and_true, false_and, and_false, true_implies, false_implies, implies_true, and_self]
      exact fun _ => r_call (d := d) (E := E) (T := T) (S := S) (P := P) (R := R) (L := L) hX hO hS hw (fun e he => ⟨hall e he, hg e he, by have := hH e he; omega⟩) hn ht hC ⟨n0, n1⟩ h4 (gxCh_of as _ hargs hch) ⟨hab, hb9⟩ h6 hnm (fun M2 o2 a2 t2 => w_GM_eval_436 (d := d + 9) hX (h M2 o2 a2 t2))
    | _ => exact absurd w (fun q => q)
end gcM
