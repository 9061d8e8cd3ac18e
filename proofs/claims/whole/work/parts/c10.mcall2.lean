/-! The reference: arguments made ready, worked out, looked at; one of several chosen. -/
/-- a node of this tree, worked out, is its value on the stack -/
def gxGm (l : Launch) (G : gG) (X : gX) (o L : Nat) (E : Int → gVl) (T : Int → Int) (S : List Int) (P R : Int → Prop) (e : gEx) : Prop :=
  ∀ (D t : Nat) (M : gM) (n : Int) (k : gM → Prop), 8 + gxH e ≤ D → gmCx M o L E T S P R → (gxNd M o L e).1 n → M o 50 = (t : Int) → t + (gxLn e).1 ≤ 1000 → gmPost M o t (gxEv E T S e).1 k → cV l G y_GM_eval (gRm D) true [gR G o, gI n] X M k
/-- on the stack a range is nothing -/
def gStv (w : gVl) : gVl := if w.kd = 5 then ⟨0, 0, []⟩ else w
theorem gStv_id {w : gVl} (h : w.kd ≤ 4) : gStv w = w := if_neg (by omega)
theorem gBadE_sv {as : Nat → gVl} : ∀ (n i : Nat), gBadE (fun j => gStv (as j)) n i = gBadE as n i := by
  intro n
  induction n with
  | zero => intro i; rfl
  | succ n ih =>
    intro i
    unfold gBadE
    rw [ih]
    by_cases q : (as i).kd = 4
    · rw [if_pos q, if_pos (by show (gStv (as i)).kd = 4; rw [gStv_id (by omega)]; exact q)]
      show some (gStv (as i)).nm = _
      rw [gStv_id (by omega)]
    · rw [if_neg q, if_neg (by
        show ¬ (gStv (as i)).kd = 4
        unfold gStv
        split
        · show ¬ (0 : Int) = 4; decide
        · exact q)]
theorem gOneR : ∀ w, w < 52 → ∀ i, i < 4 → ∀ j, j < 4 → gSc (gWta w) i = 114 → gSc (gWta w) j = 114 → i = j := by decide +kernel
section gcJ
variable {l : Launch} {G : gG} {d : Nat} {X : gX} {M : gM} {o s t w i L : Nat} {Q : gQ} {E : Int → gVl} {k : gM → Prop} {as : Nat → gVl} {T : Int → Int} {S : List Int} {P R : Int → Prop}
/-- where a range's node was met -/
def gmRn (M : gM) (o L : Nat) (T : Int → Int) (P R : Int → Prop) (nb w j : Nat) (es : List gEx) (x10 : Int) : Prop := (∀ i, i < j → gSc (gWta w) i ≠ 114) ∧ x10 = -1 ∨ ∃ r, r < j ∧ gSc (gWta w) r = 114 ∧ (gxNd M o L (es.getD r (.num 0))).1 x10 ∧ (gxWf P R nb (es.getD r (.num 0))).1 ∧ (gxR (es.getD r (.num 0)) = true ∨ gxV (es.getD r (.num 0)) = true)
theorem gmRn_hr {M : gM} {x10 : Int} {es : List gEx} {nb : Nat} (hw : w < 52) (hC : gmCx M o L E T S P R) (h : gmRn M o L T P R nb w (gSl (gWta w)) es x10) (has : ∀ r, r < gSl (gWta w) → gSc (gWta w) r = 114 → as r = gxBx T (es.getD r (.num 0)) ∧ (as r).kd ≠ 4) : (∀ i, i < gSl (gWta w) → gSc (gWta w) i ≠ 114) ∧ x10 = -1 ∨ (0 ≤ x10 ∧ x10 < 90000) ∧ (0 ≤ M o 51 ∧ M o 51 < 42 ∧ 0 ≤ M o 52 ∧ M o 52 < 5200) ∧ (0 ≤ M (o + 3) x10.toNat ∧ M (o + 3) x10.toNat < 1000000) ∧ (0 ≤ gmRa M o (M o 51) (M o 52) (M (o + 3) x10.toNat) ∧ gmRa M o (M o 51) (M o 52) (M (o + 3) x10.toNat) < 873599) ∧ ∃ p q : Int, (0 ≤ p ∧ p < 5200 ∧ 0 ≤ q ∧ q < 5200) ∧ gmRf M o (M (o + 3) x10.toNat) = p ∧ (M (o + 2) x10.toNat = 3 → gmRf M o (M (o + 3) x10.toNat + 1) = q) ∧ (¬ M (o + 2) x10.toNat = 3 → q = p) ∧ ∀ i, i < gSl (gWta w) → gSc (gWta w) i = 114 → (as i).nm = p * 5200 + q := by
  have gl4 := (gGl w hw).1
  rcases h with h | ⟨r, hr, c114, nd, wf, rv⟩
  · exact Or.inl h
  · refine Or.inr ?_
    obtain ⟨a1, a2⟩ := has r hr c114
    have uniq : ∀ i, i < gSl (gWta w) → gSc (gWta w) i = 114 → i = r := fun i hi ci => gOneR w hw i (by omega) r (by omega) ci c114
    have srt := gxNd_sort wf nd
    generalize es.getD r (.num 0) = e at a1 nd wf rv srt
    have fin : ∀ (x : Int) (q : Int), M (o + 3) x10.toNat = x → P x → 0 ≤ T x → (0 ≤ q ∧ q < 5200) → (M (o + 2) x10.toNat = 3 → gmRf M o (x + 1) = q) → (¬ M (o + 2) x10.toNat = 3 → q = T x) → (as r).nm = T x * 5200 + q → (0 ≤ x10 ∧ x10 < 90000) ∧ (0 ≤ M o 51 ∧ M o 51 < 42 ∧ 0 ≤ M o 52 ∧ M o 52 < 5200) ∧ (0 ≤ M (o + 3) x10.toNat ∧ M (o + 3) x10.toNat < 1000000) ∧ (0 ≤ gmRa M o (M o 51) (M o 52) (M (o + 3) x10.toNat) ∧ gmRa M o (M o 51) (M o 52) (M (o + 3) x10.toNat) < 873599) ∧ ∃ p q : Int, (0 ≤ p ∧ p < 5200 ∧ 0 ≤ q ∧ q < 5200) ∧ gmRf M o (M (o + 3) x10.toNat) = p ∧ (M (o + 2) x10.toNat = 3 → gmRf M o (M (o + 3) x10.toNat + 1) = q) ∧ (¬ M (o + 2) x10.toNat = 3 → q = p) ∧ ∀ i, i < gSl (gWta w) → gSc (gWta w) i = 114 → (as i).nm = p * 5200 + q := by
      intro x q e1 hp h0 bq h3 hn3 hnm
      obtain ⟨c1, c2, c3⟩ := hC.2.2.1 x hp
      have c4 := hC.2.2.2.1.1 x hp
      rw [e1]
      exact ⟨srt.1, hC.2.1, c1, c2, T x, q, ⟨h0, c4.2, bq.1, bq.2⟩, c3, h3, hn3, fun i hi ci => by rw [uniq i hi ci]; exact hnm⟩
    cases e with
    | var v =>
      have hb : gxBx T (.var v) = if T (v : Int) < 0 then gE 2 else ⟨5, T (v : Int) * 5200 + T (v : Int), []⟩ := rfl
      rw [hb] at a1
      by_cases z : T (v : Int) < 0
      · rw [if_pos z] at a1
        exact absurd (by rw [a1]; rfl) a2
      · rw [if_neg z] at a1
        have c4 := hC.2.2.2.1.1 _ wf
        exact fin (v : Int) (T (v : Int)) nd.2 wf (by omega) ⟨by omega, c4.2⟩ (fun q => absurd (srt.2.1.mp q) (by intro y; cases y)) (fun _ => rfl) (by rw [a1])
    | mulL v b =>
      cases b with
      | neg b =>
        have hb : gxBx T (.mulL v (.neg b)) = if T v < 0 then gE 2 else ⟨5, T v * 5200 + T (v + 1), []⟩ := rfl
        rw [hb] at a1
        have rr := hC.2.2.2.1.2 v wf
        by_cases z : T v < 0
        · rw [if_pos z] at a1
          exact absurd (by rw [a1]; rfl) a2
        · rw [if_neg z] at a1
          have c4 := hC.2.2.2.1.1 _ rr.2.1
          obtain ⟨-, -, c3⟩ := hC.2.2.1 _ rr.2.1
          exact fin v (T (v + 1)) nd.2 rr.1 (by omega) ⟨rr.2.2 (by omega), c4.2⟩ (fun _ => c3) (fun q => absurd (srt.2.1.mpr rfl) q) (by rw [a1])
      | _ => rcases rv with h | h <;> cases h
    | _ => rcases rv with h | h <;> cases h
/-- arguments are made what is asked, then the function -/
theorem gm_398 {M0 : gM} {f x10 x11 : Int} {es : List gEx} {nb : Nat} (hX : gmX X o) (hO : gOld G Q) (hw : w = i + 14) (hi : i < 38) (h5 : gWgr w ≠ 5) (hf : f = (i : Int)) (hst : s + gSl (gWta w) = t) (hn : t < 1199) (ht : M o 50 = (t : Int)) (o1 : gOff (gmF o s) M0 M) (hC : gmCx M o L E T S P R) (hA : ∀ j, j < gSl (gWta w) → gSuit0 (gSc (gWta w) j) (as j) ∧ (gSc (gWta w) j ≠ 114 → gmAt M o (s + j) (as j)) ∧ (gSc (gWta w) j = 114 → as j = gxBx T (es.getD j (.num 0)))) (hb : gBadA (gWta w) as (gSl (gWta w)) 0 = none)
    (hR : gmRn M o L T P R nb w (gSl (gWta w)) es x10) (hx11 : x11 = 0 ∨ x11 = 1 ∧ ∀ j, j < gSl (gWta w) → gSc (gWta w) j = 118) (h : gmPost M0 o s (gApp E w as) k) : wp l G y_GM_call_2 (gRm (d + 9)) true (kkV X k) true 395 [.val (gR G o), .unset, .unset, .unset, .val (gI ((gNk i + (gTi (i + 14)).length + 1 : Nat) : Int)), .val (gI f), .val (gI (gSl (gWta w) : Int)), .unset, .unset, .val (gI (s : Int)), .val (gI x10), .val (gI x11), .unset, .unset, .unset] [] X M 0 0 := by
  have hw2 : 14 ≤ w ∧ w < 52 := by omega
  have gl4 := (gGl w hw2.2).1
  have k1 := gNk_1 i hi
  have k4 := gNk_4 i hi
  have k5 := gNk_5 i hi
  rw [← hw] at k4 k5 k1
  rw [← hw]
  generalize (gTi w).length = tl at k4 k5 k1
  have kd4 := gBadA_none _ _ _ hb
  have gx10 : g32 x10 := by
    rcases hR with q | ⟨r, -, -, nd, wf, -⟩
    · exact ⟨by omega, by omega⟩
    · have := (gxNd_sort wf nd).1
      exact ⟨by omega, by omega⟩
  have gp : g32 ((gNk i + tl + 1 : Nat) : Int) := ⟨by omega, by omega⟩
  have gf : g32 f := ⟨by omega, by omega⟩
  have gsl : g32 (gSl (gWta w) : Int) := ⟨by omega, by omega⟩
  have gs : g32 (s : Int) := ⟨by omega, by omega⟩
  have g11 : g32 x11 := ⟨by omega, by omega⟩
  -- the end
  have fin : ∀ M1 : gM, gOff (gmF o s) M M1 → M1 o 50 = (t : Int) → gNoT (gWta w) as (gSl (gWta w)) 0 = false → (∀ j, j < gSl (gWta w) → gSc (gWta w) j ≠ 114 → gmAt M1 o (s + j) (gTo (as j) (gSc (gWta w) j))) → wp l G y_GM_call_2 (gRm (d + 9)) true (kkV X k) true 509 [.val (gR G o), .unset, .unset, .unset, .unset, .val (gI f), .val (gI (gSl (gWta w) : Int)), .unset, .unset, .val (gI (s : Int)), .val (gI x10), .unset, .unset, .unset, .unset] [] X M1 0 0 := by
    intro M1 q1 t1 hno ha
    have hC1 := hC.keepF q1
    have trn := gNoT_false _ _ _ hno
    refine gm_509 (as := fun j => gTo (as j) (gSc (gWta w) j)) (E := E) hX hO hw2 h5 (by omega) hst hn t1 hC1.1 (o1.tr q1) (fun j hj => ?_) ?_ ?_
    · have ok := gTurn_ok (trn j (by omega) (by omega)) (hA j hj).1 (kd4 j (by omega) (by omega))
      exact ⟨ok.1, ok.2, ha j hj⟩
    · have hR1 : gmRn M1 o L T P R nb w (gSl (gWta w)) es x10 := by
        rcases hR with q | ⟨r, r1, r2, r3, r4⟩
        · exact Or.inl q
        · exact Or.inr ⟨r, r1, r2, by rw [gxNd_F q1]; exact r3, r4⟩
      refine gmRn_hr (as := fun j => gTo (as j) (gSc (gWta w) j)) hw2.2 hC1 hR1 (fun r hr c114 => ?_)
      have e1 : gTo (as r) (gSc (gWta w) r) = as r := by rw [c114]; rfl
      rw [e1]
      exact ⟨(hA r hr).2.2 c114, fun q => absurd (kd4 r (by omega) (by omega) q) (by omega)⟩
    · rw [gApp_go hb hno] at h
      exact h
  refine w_GM_call_2_395 (d := d + 4) hX hO gp gf gsl gs gx10 g11 ?_
  rcases hx11 with e11 | ⟨e11, all⟩
  · subst e11
    have key : ∀ (m j : Nat) (M1 : gM), j + m = gSl (gWta w) → gOff (gmF o s) M M1 → M1 o 50 = (t : Int) → gNoT (gWta w) as (gSl (gWta w)) 0 = gNoT (gWta w) as m j → (∀ q, q < j → gSc (gWta w) q ≠ 114 → gmAt M1 o (s + q) (gTo (as q) (gSc (gWta w) q))) → (∀ q, j ≤ q → q < gSl (gWta w) → gSc (gWta w) q ≠ 114 → gmAt M1 o (s + q) (as q)) → wp l G y_GM_call_2 (gRm (d + 9)) true (kkV X k) true 398 [.val (gR G o), .unset, .unset, .unset, .val (gI ((gNk i + tl + 1 : Nat) : Int)), .val (gI f), .val (gI (gSl (gWta w) : Int)), .unset, .unset, .val (gI (s : Int)), .val (gI x10), .val (gI 0), .val (gI (j : Int)), .unset, .unset] [] X M1 0 0 := by
      intro m
      induction m with
      | zero =>
        intro j M1 hj q1 t1 hno ha hb2
        refine w_GM_call_2_398 (d := d + 4) hX hO gp gf gsl gs gx10 (g32_c (x := 0) rfl) ⟨by omega, by omega⟩ ⟨fun _ => fin M1 q1 t1 hno (fun q hq => ha q (by omega)), fun z => absurd (by omega) z⟩
      | succ m ih =>
        intro j M1 hj q1 t1 hno ha hb2
        obtain ⟨c1, c2, c3, c4, c5⟩ := k5 j (by omega)
        have aj := hA j (by omega)
        have gc7 : g32 (gSc 7 (gNk i + tl + 1 + j)) := by
          have := gSc_ok (t := 7) (by decide) (gNk i + tl + 1 + j)
          exact ⟨by omega, by omega⟩
        refine w_GM_call_2_398 (d := d + 4) hX hO gp gf gsl gs gx10 (g32_c (x := 0) rfl) ⟨by omega, by omega⟩ ⟨fun z => absurd z (by omega), fun _ => ⟨fun z => absurd rfl z, fun _ => ?_⟩⟩
        rw [w32_id (x := ((gNk i + tl + 1 : Nat) : Int) + (j : Int)) ⟨by omega, by omega⟩, show (((gNk i + tl + 1 : Nat) : Int) + (j : Int)).toNat = gNk i + tl + 1 + j by omega, show (s : Int) + (j : Int) = ((s + j : Nat) : Int) by omega, w32_id (x := (j : Int) + 1) ⟨by omega, by omega⟩]
        refine ⟨⟨by omega, by rw [gSl7]; omega⟩, ?_⟩
        generalize gSc 7 (gNk i + tl + 1 + j) = c7 at c1 c2 c3 c4 c5 gc7
        generalize hc : gSc (gWta w) j = cc at c1 c2 c3 c4
        -- to the next one
        have nxt : ∀ M2 : gM, gOff (gmSl o (s + j)) M1 M2 → gTurn (as j) cc = some (gTo (as j) cc) → (cc ≠ 114 → gmAt M2 o (s + j) (gTo (as j) cc)) → wp l G y_GM_call_2 (gRm (d + 9)) true (kkV X k) true 398 [.val (gR G o), .unset, .unset, .unset, .val (gI ((gNk i + tl + 1 : Nat) : Int)), .val (gI f), .val (gI (gSl (gWta w) : Int)), .unset, .unset, .val (gI (s : Int)), .val (gI x10), .val (gI 0), .val (gI ((j : Int) + 1)), .unset, .unset] [] X M2 0 0 := by
          intro M2 q2 ht2 a2
          have ev : ∀ q, q < gSl (gWta w) → q ≠ j → gSc (gWta w) q ≠ 114 → ∀ v : gVl, gvOk v → gmAt M1 o (s + q) v → gmAt M2 o (s + q) v := fun q _ hne _ v ov a => a.keepS ov.tx64 q2 (by omega)
          have r := ih (j + 1) M2 (by omega) (q1.tr (q2.mono (gmSl_F (by omega)))) ((q2 _ _ (by unfold gmSl; omega)).trans t1) ?_ (fun q hq hc2 => ?_) (fun q hq hq2 hc2 => ev q hq2 (by omega) hc2 _ (hA q hq2).1.1 (hb2 q (by omega) hq2 hc2))
          · rw [show ((j + 1 : Nat) : Int) = (j : Int) + 1 by omega] at r
            exact r
          · rw [hno]
            show ((gTurn (as j) (gSc (gWta w) j)).isNone || gNoT (gWta w) as m (j + 1)) = _
            rw [hc, ht2]
            rfl
          · by_cases e : q = j
            · subst e
              rw [hc] at hc2 ⊢
              exact a2 hc2
            · have a := ha q (by omega) hc2
              refine a.keepS ?_ q2 (by omega)
              have l1 := a.2.1
              have aq := (hA q (by omega)).1.1.tx64
              -- letters of what was turned
              have : (gTo (as q) (gSc (gWta w) q)).tx.length ≤ 64 := by
                unfold gTo
                cases hq3 : gTurn (as q) (gSc (gWta w) q) with
                | none => exact aq
                | some u => exact (gTurn_ok hq3 (hA q (by omega)).1 (kd4 q (by omega) (by omega))).1.tx64
              exact this
        have bad : ∀ M2 : gM, gOff (gmSl o (s + j)) M1 M2 → gTurn (as j) cc = none → cV l G y_GM_become (gRm (d + 8)) true [gR G o, gI (gSl (gWta w) : Int), gI 4, gL 4] X M2 (fun M91 => (k M91)) := by
          intro M2 q2 hno2
          have e : gApp E w as = gE 4 := by
            refine gApp_no hb ?_
            rw [hno]
            show ((gTurn (as j) (gSc (gWta w) j)).isNone || gNoT (gWta w) as m (j + 1)) = _
            rw [hc, hno2]
            rfl
          rw [e] at h
          have t2 : M2 o 50 = (t : Int) := (q2 _ _ (by unfold gmSl; omega)).trans t1
          exact r_become hX (by omega) (g32_c (x := 4) rfl) (g64_c (x := 4) rfl) (by omega) (by omega) (by omega) (h.pre ((o1.tr q1).tr (q2.mono (gmSl_F (by omega)))))
        have jn : s + j < 1200 := by omega
        have cur : cc ≠ 114 → gmAt M1 o (s + j) (as j) := fun q => hb2 j (Nat.le_refl _) (by omega) (by rw [hc]; exact q)
        have s461 : ∀ M2 : gM, gOff (gmSl o (s + j)) M1 M2 → (cc = 116 → M2 = M1) → (cc ≠ 116 → gTurn (as j) cc = some (gTo (as j) cc) ∧ (cc ≠ 114 → gmAt M2 o (s + j) (gTo (as j) cc))) → wp l G y_GM_call_2 (gRm (d + 9)) true (kkV X k) true 461 [.val (gR G o), .unset, .unset, .unset, .val (gI ((gNk i + tl + 1 : Nat) : Int)), .val (gI f), .val (gI (gSl (gWta w) : Int)), .unset, .unset, .val (gI (s : Int)), .val (gI x10), .val (gI 0), .val (gI (j : Int)), .val (gI c7), .unset] [] X M2 0 0 := by
          intro M2 q2 e2 h2
          refine w_GM_call_2_461 (d := d + 4) hX hO gp gf gsl gs gx10 (g32_c (x := 0) rfl) ⟨by omega, by omega⟩ gc7 ?_
          rw [show (s : Int) + (j : Int) = ((s + j : Nat) : Int) by omega, w32_id (x := (j : Int) + 1) ⟨by omega, by omega⟩]
          refine ⟨fun z => ⟨fun z2 => absurd z2 (by decide), fun _ => nxt M2 q2 (h2 (fun q => z (c4.mpr q))).1 (h2 (fun q => z (c4.mpr q))).2⟩, fun z => ?_⟩
          have z2 := c4.mp z
          have e3 := e2 z2
          subst e3
          have k3 : (as j).kd ≤ 3 := by
            have s0 := aj.1
            have n4 : (as j).kd ≠ 4 := fun q => by have := kd4 j (by omega) (by omega) q; omega
            have := s0.2.1
            omega
          refine r_asText (d := d + 2) hX hO jn (cur (by omega)) aj.1.1 k3 (fun M3 q3 a3 => ⟨fun z4 => absurd z4 (by decide), fun _ => nxt M3 q3 ?_ (fun _ => ?_)⟩)
          · rw [z2]; rfl
          · rw [z2]; exact a3
        refine ⟨fun z110 => ⟨fun z98 => s461 M1 (gOff.rf _ _) (fun _ => rfl) (fun n116 => ?_), fun y98 => ?_⟩, fun y110 => ?_⟩
        · have n110 : cc ≠ 110 := fun q => z110 (c2.mpr q)
          have n98 : cc ≠ 98 := fun q => z98 (c3.mpr q)
          have e : gTurn (as j) cc = some (as j) := by unfold gTurn; rw [if_neg n110, if_neg n116, if_neg n98]
          have e2 : gTo (as j) cc = as j := by unfold gTo; rw [e]; rfl
          rw [e2]
          exact ⟨e, cur⟩
        · have ec := c3.mp y98
          have e : gTurn (as j) cc = gToB (as j) := by rw [ec]; rfl
          refine r_asTruth hX jn (cur (by omega)) aj.1.1 (fun zn => ⟨fun _ => ⟨fun _ => ⟨fun _ => bad M1 (gOff.rf _ _) (e.trans zn), fun z => absurd rfl z⟩, fun z => by omega⟩, fun z => absurd rfl z⟩) (fun u hu M2 q2 a2 => ⟨fun z => absurd z (by decide), fun _ => s461 M2 q2 (fun z => by omega) (fun _ => ?_)⟩)
          have e2 : gTo (as j) cc = u := by unfold gTo; rw [e, hu]; rfl
          rw [e2]
          exact ⟨e.trans hu, fun _ => a2⟩
        · have ec := c2.mp y110
          have e : gTurn (as j) cc = gToN (as j) := by rw [ec]; rfl
          refine r_asNumber (d := d + 6) hX jn (cur (by omega)) aj.1.1 (fun zn M2 q2 => ⟨fun _ => ⟨fun _ => bad M2 q2 (e.trans zn), fun z => absurd rfl z⟩, fun z => by omega⟩) (fun u hu M2 q2 a2 => ⟨fun _ => ⟨fun z => absurd z (by decide), fun _ => nxt M2 q2 ?_ (fun _ => ?_)⟩, fun z => by omega⟩)
          · have e2 : gTo (as j) cc = u := by unfold gTo; rw [e, hu]; rfl
            rw [e2]
            exact e.trans hu
          · have e2 : gTo (as j) cc = u := by unfold gTo; rw [e, hu]; rfl
            rw [e2]
            exact a2
    exact key (gSl (gWta w)) 0 M (by omega) (gOff.rf _ _) ht rfl (fun q hq => absurd hq (by omega)) (fun q _ hq hc2 => (hA q hq).2.1 hc2)
  · subst e11
    have turn : ∀ j, j < gSl (gWta w) → gTurn (as j) (gSc (gWta w) j) = some (as j) := fun j hj => by rw [all j hj]; rfl
    have hno : gNoT (gWta w) as (gSl (gWta w)) 0 = false := by
      have : ∀ (m j : Nat), j + m = gSl (gWta w) → gNoT (gWta w) as m j = false := by
        intro m
        induction m with
        | zero => intro j _; rfl
        | succ m ih =>
          intro j hj
          show ((gTurn (as j) (gSc (gWta w) j)).isNone || gNoT (gWta w) as m (j + 1)) = false
          rw [turn j (by omega), ih (j + 1) (by omega)]
          rfl
      exact this _ 0 (by omega)
    have f2 := fin M (gOff.rf _ _) ht hno (fun j hj hc => by
      have : gTo (as j) (gSc (gWta w) j) = as j := by unfold gTo; rw [turn j hj]; rfl
      rw [this]
      exact (hA j hj).2.1 hc)
    exact w_GM_call_2_398 (d := d + 4) hX hO gp gf gsl gs gx10 (g32_c (x := 1) rfl) (g32_c (x := 0) rfl) ⟨fun _ => f2, fun _ => ⟨fun _ => f2, fun z => absurd z (by decide)⟩⟩
end gcJ
