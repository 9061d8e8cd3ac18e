/-! The reference: signs between two values. -/
def gOpc (w : Nat) : Int := ([61, 110, 60, 108, 62, 103, 38, 43, 45, 42, 47, 94] : List Int).getD w 0
section gcB
variable {l : Launch} {G : gG} {d : Nat} {X : gX} {M : gM} {o t w : Nat} {Q : gQ} {E : Int → gVl} {k : gM → Prop} {a b : gVl}
theorem r_join (hX : gmX X o) (hn : t + 2 ≤ 1200) (ht : M o 50 = ((t + 2 : Nat) : Int)) (ha : gmAt M o t a) (oa : gvOk a) (ka : a.kd = 2) (hb : gmAt M o (t + 1) b) (ob : gvOk b) (kb : b.kd = 2) (h : gmPost M o t (if 64 < a.tx.length + b.tx.length then gE 4 else gTxt (a.tx ++ b.tx)) k) : cV l G y_GM_join (gRm (d + 1 + 1)) true [gR G o, gI (t : Int), gI ((t : Int) + 1)] X M k := by
  have l1 := oa.tx64
  have l2 := ob.tx64
  have e1 : M (o + 35) (t : Int).toNat = (a.tx.length : Int) := ha.2.1
  have e2 : M (o + 35) ((t : Int) + 1).toNat = (b.tx.length : Int) := by rw [show ((t : Int) + 1).toNat = t + 1 by omega]; exact hb.2.1
  refine c_GM_join hX ⟨by omega, by omega⟩ (by omega) (by rw [e1]; omega) (by rw [e2]; omega) ?_ ?_
  · rw [e1, e2]
    intro q
    rw [if_pos (by omega)] at h
    have := gmSet_at (M := M) (o := o) (t := t) (n := 2) (s := 4) (v := 4) (by omega)
    rw [show M o 50 - 2 = (t : Int) by omega] at this
    exact h _ this.1 this.2.1 this.2.2
  · rw [e1, e2, Int.toNat_natCast, Int.toNat_natCast, show (64 * (t : Int) + (a.tx.length : Int)).toNat = 64 * t + a.tx.length by omega]
    intro q
    rw [if_neg (by omega)] at h
    refine h _ ?_ ⟨?_, ?_, fun q => absurd rfl q, ?_⟩ (gUp_eq _ _ _ _)
    · refine gOff.up (gOff.up (gOff.fl (gOff.rf _ M) (fun j _ _ => ?_)) ?_) ?_ <;> unfold gmF <;> omega
    · rw [gUp_ao (by decide), gUp_oo (by decide), gFl_oo (by decide), ha.1]; exact ka
    · rw [gUp_ao (by decide), gUp_eq]
      show _ = ((a.tx ++ b.tx).length : Int)
      rw [List.length_append]
      omega
    · show gBy _ (o + 37) (64 * t) (a.tx ++ b.tx).length = a.tx ++ b.tx
      refine gBy_app ?_ ?_
      · refine gBy_of _ _ (fun j hj => ?_)
        rw [gUp_ao (by decide), gUp_oo (by decide), gFl_out (by omega)]
        exact gBy_at ha.2.2.2 hj
      · refine gBy_of _ _ (fun j hj => ?_)
        rw [gUp_ao (by decide), gUp_oo (by decide), gFl_in (by omega) (by omega)]
        have := gBy_at hb.2.2.2 hj
        rw [← this]
        congr 1
        omega
theorem gApp_go {as : Nat → gVl} (h0 : gBadA (gWta w) as (gSl (gWta w)) 0 = none) (h1 : gNoT (gWta w) as (gSl (gWta w)) 0 = false) : gApp E w as = gWk E w (gTo (as 0) (gSc (gWta w) 0)) (gTo (as 1) (gSc (gWta w) 1)) (gTo (as 2) (gSc (gWta w) 2)) := by
  unfold gApp
  rw [h0]
  exact if_neg (by rw [h1]; decide)
theorem gApp_no {as : Nat → gVl} (h0 : gBadA (gWta w) as (gSl (gWta w)) 0 = none) (h1 : gNoT (gWta w) as (gSl (gWta w)) 0 = true) : gApp E w as = gE 4 := by
  unfold gApp
  rw [h0]
  exact if_pos h1
theorem gApp_er {as : Nat → gVl} {e : Int} (h0 : gBadA (gWta w) as (gSl (gWta w)) 0 = some e) : gApp E w as = gE e := by
  unfold gApp
  rw [h0]
theorem gTo_N {a u : gVl} (h : gToN a = some u) : gTo a 110 = u := by
  unfold gTo
  rw [show gTurn a 110 = gToN a from rfl, h]
  rfl
theorem r_two {x1 : Int} (hX : gmX X o) (hO : gOld G Q) (hw : w < 12) (hx : x1 = gOpc w) (hn : t + 2 ≤ 1200) (ht : M o 50 = ((t + 2 : Nat) : Int)) (ha : gmAt M o t a) (oa : gvP a) (hb : gmAt M o (t + 1) b) (ob : gvP b) (h : gmPost M o t (gApp E w (fun i => if i = 0 then a else b)) k) : cV l G y_GM_two (gRm (d + 7)) true [gR G o, gI x1] X M k := by
  have l1 := oa.1.tx64
  have l2 := ob.1.tx64
  have gx : g32 x1 := by
    have : ∀ w, w < 12 → 0 ≤ gOpc w ∧ gOpc w < 200 := by decide +kernel
    have := this w hw
    exact ⟨by omega, by omega⟩
  have n118 : ∀ j, 0 ≤ j → j < 0 + 2 → gSc (gWta w) j ≠ 118 := by
    have : ∀ w, w < 12 → ∀ j, j < 2 → gSc (gWta w) j ≠ 118 := by decide +kernel
    exact fun j _ hj => this w hw j (by omega)
  have sl2 : gSl (gWta w) = 2 := by
    have : ∀ w, w < 12 → gSl (gWta w) = 2 := by decide +kernel
    exact this w hw
  have eb : gBadA (gWta w) (fun i => if i = 0 then a else b) (gSl (gWta w)) 0 = gBadE (fun i => if i = 0 then a else b) 2 0 := by
    rw [sl2]
    exact gBadE_A 2 0 n118
  refine e_GM_two (d := d + 6) (w_GM_two_0 (d := d + 6) hX gx (r_spoilt (t := t) (n := 2) (as := fun i => if i = 0 then a else b) hX hn (by decide) ht (fun j hj => ?_) (fun e0 => ⟨fun _ _ _ => ?_, fun q => absurd rfl q⟩) (fun e he bd M2 o2 a2 t2 => ⟨fun q => absurd q (by decide), fun _ => h M2 o2 ?_ t2⟩)))
  · by_cases z : j = 0
    · subst z
      exact ⟨ha, oa.1⟩
    · have : j = 1 := by omega
      subst this
      exact ⟨hb, ob.1⟩
  rotate_left
  · rw [gApp_er (eb.trans he)]
    exact a2
  rw [ht, show ((t + 2 : Nat) : Int) - 2 = (t : Int) by omega, show ((t + 2 : Nat) : Int) - 1 = ((t + 1 : Nat) : Int) by omega]
  have eb0 := eb.trans e0
  have na : a.kd ≠ 4 := fun q => by
    unfold gBadE at e0
    rw [if_pos (show ((fun i => if i = 0 then a else b) 0).kd = 4 from q)] at e0
    cases e0
  have nb : b.kd ≠ 4 := fun q => by
    unfold gBadE at e0
    rw [if_neg (show ¬ ((fun i => if i = 0 then a else b) 0).kd = 4 from na)] at e0
    unfold gBadE at e0
    rw [if_pos (show ((fun i => if i = 0 then a else b) (0 + 1)).kd = 4 from q)] at e0
    cases e0
  have a3 : a.kd ≤ 3 := by have := oa.2; omega
  have b3 : b.kd ≤ 3 := by have := ob.2; omega
  -- the outcome of a comparison
  have bec : ∀ {M1 : gM} (s v : Int), gOff (gmF o t) M M1 → M1 o 50 = ((t + 2 : Nat) : Int) → g32 s → g64 v → gApp E w (fun i => if i = 0 then a else b) = ⟨s, v, []⟩ → cV l G y_GM_become (gRm (d + 6)) true [gR G o, gI 2, gI s, gL v] X M1 k := fun s v o1 t1 gs gv e => by
    rw [e] at h
    exact r_become hX (by decide) gs gv (by omega) (by omega) (by omega) (h.pre o1)
  have cmp : ∀ (p : Int → Prop) [∀ z, Decidable (p z)] (v : Int), (gApp E w (fun i => if i = 0 then a else b) = gBi (p (gVc a b))) → (v = if p (gVc a b) then 1 else 0) → cV l G y_GM_become (gRm (d + 6)) true [gR G o, gI 2, gI 3, gL v] X M k := fun p _ v e hv => by
    refine bec 3 v (gOff.rf _ _) ht (g32_c (x := 3) rfl) ?_ (by rw [e, hv]; rfl)
    rw [hv]
    split
    · exact g64_c (x := 1) rfl
    · exact g64_c (x := 0) rfl
  have go : gNoT (gWta w) (fun i => if i = 0 then a else b) (gSl (gWta w)) 0 = false → gApp E w (fun i => if i = 0 then a else b) = gWk E w (gTo a (gSc (gWta w) 0)) (gTo b (gSc (gWta w) 1)) (gTo b (gSc (gWta w) 2)) := fun q => gApp_go eb0 q
  have i1 : t < 1200 := by omega
  have j1 : t + 1 < 1200 := by omega
  -- numbers
  have let2 : 7 ≤ w → gSc (gWta w) 0 = 110 ∧ gSc (gWta w) 1 = 110 := by
    have : ∀ w, w < 12 → 7 ≤ w → gSc (gWta w) 0 = 110 ∧ gSc (gWta w) 1 = 110 := by decide +kernel
    exact this w hw
  have eN : 7 ≤ w → gNoT (gWta w) (fun i => if i = 0 then a else b) (gSl (gWta w)) 0 = ((gToN a).isNone || ((gToN b).isNone || false)) := fun h7 => by
    rw [sl2]
    show ((gTurn a (gSc (gWta w) 0)).isNone || ((gTurn b (gSc (gWta w) 1)).isNone || false)) = _
    rw [(let2 h7).1, (let2 h7).2]
    rfl
  have bad : 7 ≤ w → ∀ M2 : gM, gOff (gmF o t) M M2 → M2 o 50 = ((t + 2 : Nat) : Int) → ((gToN a).isNone || ((gToN b).isNone || false)) = true → wp l G y_GM_two (gRm (d + 6 + 1)) true (kkV X k) true 251 [.val (gR G o), .unset, .unset, .unset, .unset, .unset, .unset, .unset, .unset] [] X M2 0 0 := fun h7 M2 o2 t2 q =>
    w_GM_two_251 (d := d + 6) hX (bec 4 4 o2 t2 (g32_c (x := 4) rfl) (g64_c (x := 4) rfl) (gApp_no eb0 ((eN h7).trans q)))
  have kN : ∀ {u v : gVl}, gToN u = some v → v.kd = 1 := fun {u v} q => by
    unfold gToN at q
    split at q
    · cases hq : gNum u.tx with
      | none => rw [hq] at q; cases q
      | some z => rw [hq] at q; cases q; rfl
    · cases q; rfl
  have goN : 7 ≤ w → ∀ {x y : gVl}, gToN a = some x → gToN b = some y → gApp E w (fun i => if i = 0 then a else b) = gWk E w x y (gTo b (gSc (gWta w) 2)) := fun h7 {x y} hx2 hy2 => by
    rw [go (by rw [eN h7, hx2, hy2]; rfl), (let2 h7).1, (let2 h7).2, gTo_N hx2, gTo_N hy2]
  have hw2 : w = 0 ∨ w = 1 ∨ w = 2 ∨ w = 3 ∨ w = 4 ∨ w = 5 ∨ w = 6 ∨ w = 7 ∨ w = 8 ∨ w = 9 ∨ w = 10 ∨ w = 11 := by omega
  have gz : g64 0 := g64_c (x := 0) rfl
  have gone : g64 1 := g64_c (x := 1) rfl
  have g3 : g32 3 := g32_c (x := 3) rfl
  have g2 : g32 2 := g32_c (x := 2) rfl
  rcases hw2 with rfl | rfl | rfl | rfl | rfl | rfl | rfl | rfl | rfl | rfl | rfl | rfl
  · have hx : x1 = 61 := hx
    simp only [hx, Int.reduceEq, Int.reduceNeg, not_true_eq_false, not_false_eq_true, true_and, and_true, false_and, and_false, true_implies, false_implies, implies_true, and_self]
    refine r_compare hX i1 j1 ha oa.1 hb ob.1 ⟨fun q => w_GM_two_126 hX gz g3 g2 (cmp (fun z => z = 0) 0 (go rfl) ?_), fun q => w_GM_two_126 hX gone g3 g2 (cmp (fun z => z = 0) 1 (go rfl) ?_)⟩
    · rw [if_neg q]
    · rw [if_pos q]
  · have hx : x1 = 110 := hx
    simp only [hx, Int.reduceEq, Int.reduceNeg, not_true_eq_false, not_false_eq_true, true_and, and_true, false_and, and_false, true_implies, false_implies, implies_true, and_self]
    refine r_compare hX i1 j1 ha oa.1 hb ob.1 ⟨fun q => w_GM_two_147 hX gz g3 g2 (cmp (fun z => z ≠ 0) 0 (go rfl) ?_), fun q => w_GM_two_147 hX gone g3 g2 (cmp (fun z => z ≠ 0) 1 (go rfl) ?_)⟩
    · rw [if_neg (fun z => z q)]
    · rw [if_pos q]
  · have hx : x1 = 60 := hx
    simp only [hx, Int.reduceEq, Int.reduceNeg, not_true_eq_false, not_false_eq_true, true_and, and_true, false_and, and_false, true_implies, false_implies, implies_true, and_self]
    refine r_compare hX i1 j1 ha oa.1 hb ob.1 ⟨fun q => w_GM_two_168 hX gz g3 g2 (cmp (fun z => z < 0) 0 (go rfl) ?_), fun q => w_GM_two_168 hX gone g3 g2 (cmp (fun z => z < 0) 1 (go rfl) ?_)⟩
    · rw [if_neg (by omega)]
    · rw [if_pos (by omega)]
  · have hx : x1 = 108 := hx
    simp only [hx, Int.reduceEq, Int.reduceNeg, not_true_eq_false, not_false_eq_true, true_and, and_true, false_and, and_false, true_implies, false_implies, implies_true, and_self]
    refine r_compare hX i1 j1 ha oa.1 hb ob.1 ⟨fun q => w_GM_two_189 hX gz g3 g2 (cmp (fun z => z ≤ 0) 0 (go rfl) ?_), fun q => w_GM_two_189 hX gone g3 g2 (cmp (fun z => z ≤ 0) 1 (go rfl) ?_)⟩
    · rw [if_neg (by omega)]
    · rw [if_pos (by omega)]
  · have hx : x1 = 62 := hx
    simp only [hx, Int.reduceEq, Int.reduceNeg, not_true_eq_false, not_false_eq_true, true_and, and_true, false_and, and_false, true_implies, false_implies, implies_true, and_self]
    refine r_compare hX i1 j1 ha oa.1 hb ob.1 ⟨fun q => w_GM_two_210 hX gz g3 g2 (cmp (fun z => 0 < z) 0 (go rfl) ?_), fun q => w_GM_two_210 hX gone g3 g2 (cmp (fun z => 0 < z) 1 (go rfl) ?_)⟩
    · rw [if_neg (by omega)]
    · rw [if_pos (by omega)]
  · have hx : x1 = 103 := hx
    simp only [hx, Int.reduceEq, Int.reduceNeg, not_true_eq_false, not_false_eq_true, true_and, and_true, false_and, and_false, true_implies, false_implies, implies_true, and_self]
    refine r_compare hX i1 j1 ha oa.1 hb ob.1 ⟨fun q => w_GM_two_231 hX gz g3 g2 (cmp (fun z => 0 ≤ z) 0 (go rfl) ?_), fun q => w_GM_two_231 hX gone g3 g2 (cmp (fun z => 0 ≤ z) 1 (go rfl) ?_)⟩
    · rw [if_neg (by omega)]
    · rw [if_pos (by omega)]
  · have hx : x1 = 38 := hx
    simp only [hx, Int.reduceEq, Int.reduceNeg, not_true_eq_false, not_false_eq_true, true_and, and_true, false_and, and_false, true_implies, false_implies, implies_true, and_self]
    have oa2 := gToT_ok oa.1 a3
    have ob2 := gToT_ok ob.1 b3
    have kd2 : ∀ w : gVl, (gToT w).kd = 2 := fun w => by
      unfold gToT
      split
      · rfl
      · split <;> rfl
    refine r_asText (d := d) hX hO i1 ha oa.1 a3 (fun M2 o2 a2 => r_asText (d := d) hX hO j1 (hb.keepS l2 o2 (by omega)) ob.1 b3 (fun M3 o3 a3' => ?_))
    have o13 : gOff (gmF o t) M M3 := (o2.mono (gmSl_F (Nat.le_refl _))).tr (o3.mono (gmSl_F (Nat.le_succ _)))
    have a4 := a2.keepS oa2.tx64 o3 (by omega)
    have t3 : M3 o 50 = ((t + 2 : Nat) : Int) := (o3 _ _ (by unfold gmSl; omega)).trans ((o2 _ _ (by unfold gmSl; omega)).trans ht)
    rw [show ((t + 1 : Nat) : Int) = (t : Int) + 1 by omega]
    have h2 := h.pre o13
    rw [go rfl] at h2
    exact r_join (d := d + 4) hX hn t3 a4 oa2 (kd2 a) a3' ob2 (kd2 b) h2
  · have hx : x1 = 43 := hx
    simp only [hx, Int.reduceEq, Int.reduceNeg, not_true_eq_false, not_false_eq_true, true_and, and_true, false_and, and_false, true_implies, false_implies, implies_true, and_self]
    refine r_asNumber hX i1 ha oa.1 (fun z M2 o2 => ⟨fun _ => bad (by decide) M2 (o2.mono (gmSl_F (Nat.le_refl _))) ((o2 _ _ (by unfold gmSl; omega)).trans ht) (by rw [z]; rfl), fun q => absurd rfl q⟩) (fun x hx2 M1 o1 a2 => ⟨fun q => absurd q (by decide), fun _ => ?_⟩)
    have t1 : M1 o 50 = ((t + 2 : Nat) : Int) := (o1 _ _ (by unfold gmSl; omega)).trans ht
    refine r_asNumber hX j1 (hb.keepS l2 o1 (by omega)) ob.1 (fun z M3 o3 => ⟨fun q => absurd rfl q, fun _ => bad (by decide) M3 ((o1.mono (gmSl_F (Nat.le_refl _))).tr (o3.mono (gmSl_F (Nat.le_succ _)))) ((o3 _ _ (by unfold gmSl; omega)).trans t1) (by rw [hx2, z]; rfl)⟩) (fun y hy2 M2 o3 ay => ⟨fun _ => ?_, fun q => absurd q (by decide)⟩)
    have o2 : gOff (gmF o t) M M2 := (o1.mono (gmSl_F (Nat.le_refl _))).tr (o3.mono (gmSl_F (Nat.le_succ _)))
    have t2 : M2 o 50 = ((t + 2 : Nat) : Int) := (o3 _ _ (by unfold gmSl; omega)).trans t1
    have ax := a2.keepS (gToN_ok oa.1 hx2).tx64 o3 (by omega)
    have e := goN (by decide) hx2 hy2
    rw [Int.toNat_natCast, Int.toNat_natCast, ax.2.2.1 (by have := kN hx2; omega), ay.2.2.1 (by have := kN hy2; omega)]
    refine ⟨⟨by omega, by omega⟩, fun _ => ⟨⟨by omega, by omega⟩, fun _ => ?_⟩⟩
    have gx2 := (gToN_ok oa.1 hx2).2.2.1
    have gy2 := (gToN_ok ob.1 hy2).2.2.1
    have oU : ∀ z : Int, gOff (gmF o t) M (gUp M2 o 54 z) := fun z => o2.up (by unfold gmF; omega)
    refine c_GM_reckon hX (g32_c (x := 43) rfl) gx2 gy2 (fun q => ⟨fun z => absurd z (by decide), fun _ => w_GM_two_382 hX (g32_c (x := 1) rfl) (g32_c (x := 1) rfl) g2 ⟨fun z => absurd z (by decide), fun _ => ?_⟩⟩) (fun q => ⟨fun _ => w_GM_two_382 hX (g32_c (x := 0) rfl) (g32_c (x := 4) rfl) g2 ⟨fun _ => ?_, fun z => absurd rfl z⟩, fun z => absurd rfl z⟩)
    · rw [gUp_eq]
      exact fun gq => w_GM_two_397 hX gq (g32_c (x := 1) rfl) g2 (r_become hX (by decide) (g32_c (x := 1) rfl) gq (by omega) (by rw [gUp_k (by decide)]; omega) (by rw [gUp_k (by decide)]; omega) (fun M3 o3 a3' t3 => w_GM_two_400 hX (h M3 ((oU _).tr o3) (by rw [e]; rw [show gWk E 7 x y (gTo b (gSc (gWta 7) 2)) = gFit (gmOp 43 x.nm y.nm) from rfl]; unfold gFit; rw [if_pos gq]; exact a3') t3)))
    · exact w_GM_two_397 hX (g64_c (x := 6) rfl) (g32_c (x := 4) rfl) g2 (r_become hX (by decide) (g32_c (x := 4) rfl) (g64_c (x := 6) rfl) (by omega) (by rw [gUp_k (by decide)]; omega) (by rw [gUp_k (by decide)]; omega) (fun M3 o3 a3' t3 => w_GM_two_400 hX (h M3 ((oU _).tr o3) (by rw [e]; rw [show gWk E 7 x y (gTo b (gSc (gWta 7) 2)) = gFit (gmOp 43 x.nm y.nm) from rfl]; unfold gFit; rw [if_neg q]; exact a3') t3)))
  · have hx : x1 = 45 := hx
    simp only [hx, Int.reduceEq, Int.reduceNeg, not_true_eq_false, not_false_eq_true, true_and, and_true, false_and, and_false, true_implies, false_implies, implies_true, and_self]
    refine r_asNumber hX i1 ha oa.1 (fun z M2 o2 => ⟨fun _ => bad (by decide) M2 (o2.mono (gmSl_F (Nat.le_refl _))) ((o2 _ _ (by unfold gmSl; omega)).trans ht) (by rw [z]; rfl), fun q => absurd rfl q⟩) (fun x hx2 M1 o1 a2 => ⟨fun q => absurd q (by decide), fun _ => ?_⟩)
    have t1 : M1 o 50 = ((t + 2 : Nat) : Int) := (o1 _ _ (by unfold gmSl; omega)).trans ht
    refine r_asNumber hX j1 (hb.keepS l2 o1 (by omega)) ob.1 (fun z M3 o3 => ⟨fun q => absurd rfl q, fun _ => bad (by decide) M3 ((o1.mono (gmSl_F (Nat.le_refl _))).tr (o3.mono (gmSl_F (Nat.le_succ _)))) ((o3 _ _ (by unfold gmSl; omega)).trans t1) (by rw [hx2, z]; rfl)⟩) (fun y hy2 M2 o3 ay => ⟨fun _ => ?_, fun q => absurd q (by decide)⟩)
    have o2 : gOff (gmF o t) M M2 := (o1.mono (gmSl_F (Nat.le_refl _))).tr (o3.mono (gmSl_F (Nat.le_succ _)))
    have t2 : M2 o 50 = ((t + 2 : Nat) : Int) := (o3 _ _ (by unfold gmSl; omega)).trans t1
    have ax := a2.keepS (gToN_ok oa.1 hx2).tx64 o3 (by omega)
    have e := goN (by decide) hx2 hy2
    rw [Int.toNat_natCast, Int.toNat_natCast, ax.2.2.1 (by have := kN hx2; omega), ay.2.2.1 (by have := kN hy2; omega)]
    refine ⟨⟨by omega, by omega⟩, fun _ => ⟨⟨by omega, by omega⟩, fun _ => ?_⟩⟩
    have gx2 := (gToN_ok oa.1 hx2).2.2.1
    have gy2 := (gToN_ok ob.1 hy2).2.2.1
    have oU : ∀ z : Int, gOff (gmF o t) M (gUp M2 o 54 z) := fun z => o2.up (by unfold gmF; omega)
    refine c_GM_reckon hX (g32_c (x := 45) rfl) gx2 gy2 (fun q => ⟨fun z => absurd z (by decide), fun _ => w_GM_two_382 hX (g32_c (x := 1) rfl) (g32_c (x := 1) rfl) g2 ⟨fun z => absurd z (by decide), fun _ => ?_⟩⟩) (fun q => ⟨fun _ => w_GM_two_382 hX (g32_c (x := 0) rfl) (g32_c (x := 4) rfl) g2 ⟨fun _ => ?_, fun z => absurd rfl z⟩, fun z => absurd rfl z⟩)
    · rw [gUp_eq]
      exact fun gq => w_GM_two_397 hX gq (g32_c (x := 1) rfl) g2 (r_become hX (by decide) (g32_c (x := 1) rfl) gq (by omega) (by rw [gUp_k (by decide)]; omega) (by rw [gUp_k (by decide)]; omega) (fun M3 o3 a3' t3 => w_GM_two_400 hX (h M3 ((oU _).tr o3) (by rw [e]; rw [show gWk E 8 x y (gTo b (gSc (gWta 8) 2)) = gFit (gmOp 45 x.nm y.nm) from rfl]; unfold gFit; rw [if_pos gq]; exact a3') t3)))
    · exact w_GM_two_397 hX (g64_c (x := 6) rfl) (g32_c (x := 4) rfl) g2 (r_become hX (by decide) (g32_c (x := 4) rfl) (g64_c (x := 6) rfl) (by omega) (by rw [gUp_k (by decide)]; omega) (by rw [gUp_k (by decide)]; omega) (fun M3 o3 a3' t3 => w_GM_two_400 hX (h M3 ((oU _).tr o3) (by rw [e]; rw [show gWk E 8 x y (gTo b (gSc (gWta 8) 2)) = gFit (gmOp 45 x.nm y.nm) from rfl]; unfold gFit; rw [if_neg q]; exact a3') t3)))
  · have hx : x1 = 42 := hx
    simp only [hx, Int.reduceEq, Int.reduceNeg, not_true_eq_false, not_false_eq_true, true_and, and_true, false_and, and_false, true_implies, false_implies, implies_true, and_self]
    refine r_asNumber hX i1 ha oa.1 (fun z M2 o2 => ⟨fun _ => bad (by decide) M2 (o2.mono (gmSl_F (Nat.le_refl _))) ((o2 _ _ (by unfold gmSl; omega)).trans ht) (by rw [z]; rfl), fun q => absurd rfl q⟩) (fun x hx2 M1 o1 a2 => ⟨fun q => absurd q (by decide), fun _ => ?_⟩)
    have t1 : M1 o 50 = ((t + 2 : Nat) : Int) := (o1 _ _ (by unfold gmSl; omega)).trans ht
    refine r_asNumber hX j1 (hb.keepS l2 o1 (by omega)) ob.1 (fun z M3 o3 => ⟨fun q => absurd rfl q, fun _ => bad (by decide) M3 ((o1.mono (gmSl_F (Nat.le_refl _))).tr (o3.mono (gmSl_F (Nat.le_succ _)))) ((o3 _ _ (by unfold gmSl; omega)).trans t1) (by rw [hx2, z]; rfl)⟩) (fun y hy2 M2 o3 ay => ⟨fun _ => ?_, fun q => absurd q (by decide)⟩)
    have o2 : gOff (gmF o t) M M2 := (o1.mono (gmSl_F (Nat.le_refl _))).tr (o3.mono (gmSl_F (Nat.le_succ _)))
    have t2 : M2 o 50 = ((t + 2 : Nat) : Int) := (o3 _ _ (by unfold gmSl; omega)).trans t1
    have ax := a2.keepS (gToN_ok oa.1 hx2).tx64 o3 (by omega)
    have e := goN (by decide) hx2 hy2
    rw [Int.toNat_natCast, Int.toNat_natCast, ax.2.2.1 (by have := kN hx2; omega), ay.2.2.1 (by have := kN hy2; omega)]
    refine ⟨⟨by omega, by omega⟩, fun _ => ⟨⟨by omega, by omega⟩, fun _ => ?_⟩⟩
    have gx2 := (gToN_ok oa.1 hx2).2.2.1
    have gy2 := (gToN_ok ob.1 hy2).2.2.1
    have oU : ∀ z : Int, gOff (gmF o t) M (gUp M2 o 54 z) := fun z => o2.up (by unfold gmF; omega)
    refine c_GM_reckon hX (g32_c (x := 42) rfl) gx2 gy2 (fun q => ⟨fun z => absurd z (by decide), fun _ => w_GM_two_382 hX (g32_c (x := 1) rfl) (g32_c (x := 1) rfl) g2 ⟨fun z => absurd z (by decide), fun _ => ?_⟩⟩) (fun q => ⟨fun _ => w_GM_two_382 hX (g32_c (x := 0) rfl) (g32_c (x := 4) rfl) g2 ⟨fun _ => ?_, fun z => absurd rfl z⟩, fun z => absurd rfl z⟩)
    · rw [gUp_eq]
      exact fun gq => w_GM_two_397 hX gq (g32_c (x := 1) rfl) g2 (r_become hX (by decide) (g32_c (x := 1) rfl) gq (by omega) (by rw [gUp_k (by decide)]; omega) (by rw [gUp_k (by decide)]; omega) (fun M3 o3 a3' t3 => w_GM_two_400 hX (h M3 ((oU _).tr o3) (by rw [e]; rw [show gWk E 9 x y (gTo b (gSc (gWta 9) 2)) = gFit (gmOp 42 x.nm y.nm) from rfl]; unfold gFit; rw [if_pos gq]; exact a3') t3)))
    · exact w_GM_two_397 hX (g64_c (x := 6) rfl) (g32_c (x := 4) rfl) g2 (r_become hX (by decide) (g32_c (x := 4) rfl) (g64_c (x := 6) rfl) (by omega) (by rw [gUp_k (by decide)]; omega) (by rw [gUp_k (by decide)]; omega) (fun M3 o3 a3' t3 => w_GM_two_400 hX (h M3 ((oU _).tr o3) (by rw [e]; rw [show gWk E 9 x y (gTo b (gSc (gWta 9) 2)) = gFit (gmOp 42 x.nm y.nm) from rfl]; unfold gFit; rw [if_neg q]; exact a3') t3)))
  · have hx : x1 = 47 := hx
    simp only [hx, Int.reduceEq, Int.reduceNeg, not_true_eq_false, not_false_eq_true, true_and, and_true, false_and, and_false, true_implies, false_implies, implies_true, and_self]
    refine r_asNumber hX i1 ha oa.1 (fun z M2 o2 => ⟨fun _ => bad (by decide) M2 (o2.mono (gmSl_F (Nat.le_refl _))) ((o2 _ _ (by unfold gmSl; omega)).trans ht) (by rw [z]; rfl), fun q => absurd rfl q⟩) (fun x hx2 M1 o1 a2 => ⟨fun q => absurd q (by decide), fun _ => ?_⟩)
    have t1 : M1 o 50 = ((t + 2 : Nat) : Int) := (o1 _ _ (by unfold gmSl; omega)).trans ht
    refine r_asNumber hX j1 (hb.keepS l2 o1 (by omega)) ob.1 (fun z M3 o3 => ⟨fun q => absurd rfl q, fun _ => bad (by decide) M3 ((o1.mono (gmSl_F (Nat.le_refl _))).tr (o3.mono (gmSl_F (Nat.le_succ _)))) ((o3 _ _ (by unfold gmSl; omega)).trans t1) (by rw [hx2, z]; rfl)⟩) (fun y hy2 M2 o3 ay => ⟨fun _ => ?_, fun q => absurd q (by decide)⟩)
    have o2 : gOff (gmF o t) M M2 := (o1.mono (gmSl_F (Nat.le_refl _))).tr (o3.mono (gmSl_F (Nat.le_succ _)))
    have t2 : M2 o 50 = ((t + 2 : Nat) : Int) := (o3 _ _ (by unfold gmSl; omega)).trans t1
    have ax := a2.keepS (gToN_ok oa.1 hx2).tx64 o3 (by omega)
    have e := goN (by decide) hx2 hy2
    rw [Int.toNat_natCast, Int.toNat_natCast, ax.2.2.1 (by have := kN hx2; omega), ay.2.2.1 (by have := kN hy2; omega)]
    refine ⟨⟨by omega, by omega⟩, fun _ => ⟨⟨by omega, by omega⟩, fun _ => ?_⟩⟩
    have gx2 := (gToN_ok oa.1 hx2).2.2.1
    have gy2 := (gToN_ok ob.1 hy2).2.2.1
    have e2 : gApp E 10 (fun i => if i = 0 then a else b) = (if y.nm = 0 then gE 5 else gFit (x.nm.tdiv y.nm)) := e
    rw [e2] at h
    have st := fun (s v : Int) => gmSet_at (M := M2) (o := o) (t := t) (n := 2) (s := s) (v := v) (by omega)
    refine c_GM_divide hX gx2 gy2 ⟨by omega, by omega⟩ (fun q => w_GM_two_400 hX (h _ (o2.tr (st 4 5).1) ?_ (st 4 5).2.2)) (fun q => w_GM_two_400 hX (h _ (o2.tr (st 4 6).1) ?_ (st 4 6).2.2)) (fun q q2 => w_GM_two_400 hX (h _ (o2.tr (st 1 (x.nm.tdiv y.nm)).1) ?_ (st 1 (x.nm.tdiv y.nm)).2.2))
    · rw [if_pos q]; exact (st 4 5).2.1
    · rw [if_neg (by omega)]
      have : ¬ g64 (x.nm.tdiv y.nm) := by rw [q.1, q.2]; unfold g64; decide
      unfold gFit
      rw [if_neg this]
      exact (st 4 6).2.1
    · rw [if_neg q]
      unfold gFit
      rw [if_pos (g64_tdiv gx2 q2)]
      exact (st 1 (x.nm.tdiv y.nm)).2.1
  · have hx : x1 = 94 := hx
    simp only [hx, Int.reduceEq, Int.reduceNeg, not_true_eq_false, not_false_eq_true, true_and, and_true, false_and, and_false, true_implies, false_implies, implies_true, and_self]
    refine r_asNumber hX i1 ha oa.1 (fun z M2 o2 => ⟨fun _ => bad (by decide) M2 (o2.mono (gmSl_F (Nat.le_refl _))) ((o2 _ _ (by unfold gmSl; omega)).trans ht) (by rw [z]; rfl), fun q => absurd rfl q⟩) (fun x hx2 M1 o1 a2 => ⟨fun q => absurd q (by decide), fun _ => ?_⟩)
    have t1 : M1 o 50 = ((t + 2 : Nat) : Int) := (o1 _ _ (by unfold gmSl; omega)).trans ht
    refine r_asNumber hX j1 (hb.keepS l2 o1 (by omega)) ob.1 (fun z M3 o3 => ⟨fun q => absurd rfl q, fun _ => bad (by decide) M3 ((o1.mono (gmSl_F (Nat.le_refl _))).tr (o3.mono (gmSl_F (Nat.le_succ _)))) ((o3 _ _ (by unfold gmSl; omega)).trans t1) (by rw [hx2, z]; rfl)⟩) (fun y hy2 M2 o3 ay => ⟨fun _ => ?_, fun q => absurd q (by decide)⟩)
    have o2 : gOff (gmF o t) M M2 := (o1.mono (gmSl_F (Nat.le_refl _))).tr (o3.mono (gmSl_F (Nat.le_succ _)))
    have t2 : M2 o 50 = ((t + 2 : Nat) : Int) := (o3 _ _ (by unfold gmSl; omega)).trans t1
    have ax := a2.keepS (gToN_ok oa.1 hx2).tx64 o3 (by omega)
    have e := goN (by decide) hx2 hy2
    rw [Int.toNat_natCast, Int.toNat_natCast, ax.2.2.1 (by have := kN hx2; omega), ay.2.2.1 (by have := kN hy2; omega)]
    refine ⟨⟨by omega, by omega⟩, fun _ => ⟨⟨by omega, by omega⟩, fun _ => ?_⟩⟩
    have gx2 := (gToN_ok oa.1 hx2).2.2.1
    have gy2 := (gToN_ok ob.1 hy2).2.2.1
    have e2 : gApp E 11 (fun i => if i = 0 then a else b) = (if y.nm < 0 then gE 6 else gFit (x.nm ^ y.nm.toNat)) := e
    rw [e2] at h
    have fin : ∀ (M3 : gM) (s v : Int), gOff (gmF o t) M M3 → M3 o 50 = ((t + 2 : Nat) : Int) → g32 s → g64 v → (if y.nm < 0 then gE 6 else gFit (x.nm ^ y.nm.toNat)) = ⟨s, v, []⟩ → wp l G y_GM_two (gRm (d + 6 + 1)) true (kkV X k) true 353 [.unset, .unset, .unset, .unset, .unset, .unset, .unset, .unset, .unset] [gL v, gI s, gI 2, gR G o] X M3 0 0 := fun M3 s v o3 t3 gs gv ev => by
      rw [ev] at h
      exact w_GM_two_353 (d := d + 6) hX gv gs g2 (r_become hX (by decide) gs gv (by omega) (by omega) (by omega) (fun M4 o4 a4 t4 => w_GM_two_400 hX (h M4 (o3.tr o4) a4 t4)))
    have neg : ∀ M3 : gM, gOff (gmF o t) M M3 → M3 o 50 = ((t + 2 : Nat) : Int) → ((y.nm < 0) ∨ ¬ g64 (x.nm ^ y.nm.toNat)) → wp l G y_GM_two (gRm (d + 6 + 1)) true (kkV X k) true 320 [.val (gR G o), .unset, .unset, .unset, .val (gL x.nm), .unset, .val (gL y.nm), .unset, .unset] [gI 2, gR G o] X M3 0 0 := fun M3 o3 t3 q => by
      have ev : (if y.nm < 0 then gE 6 else gFit (x.nm ^ y.nm.toNat)) = ⟨4, 6, []⟩ := by
        by_cases z : y.nm < 0
        · rw [if_pos z]; rfl
        · rw [if_neg z]; unfold gFit; rw [if_neg (q.resolve_left z)]; rfl
      refine w_GM_two_320 (d := d + 6) hX gx2 gy2 g2 (w_GM_two_325 (d := d + 6) hX gx2 gy2 (g32_c (x := 4) rfl) g2 ⟨fun _ => w_GM_two_343 (d := d + 6) hX (g32_c (x := 4) rfl) g2 (fin M3 4 6 o3 t3 (g32_c (x := 4) rfl) (g64_c (x := 6) rfl) ev), fun z => ?_⟩)
      have gy3 := gy2.2
      refine c_GM_power hX gx2 ⟨by omega, gy3⟩ (fun q2 => absurd q2 (q.resolve_left z)) (fun q2 zz => ⟨fun z => absurd rfl z, fun _ => w_GM_two_343 (d := d + 6) hX (g32_c (x := 4) rfl) g2 (fin _ 4 6 (o3.up (by unfold gmF; omega)) (by rw [gUp_k (by decide)]; exact t3) (g32_c (x := 4) rfl) (g64_c (x := 6) rfl) ev)⟩)
    refine ⟨fun q => neg M2 o2 t2 (Or.inl q), fun q => c_GM_power hX gx2 ⟨by omega, gy2.2⟩ (fun q2 => ⟨fun _ => ?_, fun z => absurd z (by decide)⟩) (fun q2 zz => ⟨fun z => absurd rfl z, fun _ => neg _ (o2.up (by unfold gmF; omega)) (by rw [gUp_k (by decide)]; exact t2) (Or.inr q2)⟩)⟩
    refine w_GM_two_325 (d := d + 6) hX gx2 gy2 (g32_c (x := 1) rfl) g2 ⟨fun z => absurd z q, fun _ => c_GM_power hX gx2 ⟨by omega, gy2.2⟩ (fun q3 => ⟨fun _ => ?_, fun z => absurd z (by decide)⟩) (fun q3 => absurd q2 q3)⟩
    rw [gUp_eq]
    refine fun gq => fin _ 1 _ ((o2.up (by unfold gmF; omega)).up (by unfold gmF; omega)) (by rw [gUp_k (by decide), gUp_k (by decide)]; exact t2) (g32_c (x := 1) rfl) gq ?_
    rw [if_neg q]
    unfold gFit
    rw [if_pos gq]
    rfl
end gcB
