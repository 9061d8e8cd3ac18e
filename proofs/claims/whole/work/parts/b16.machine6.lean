/-! The class's Machine: a step of the code. -/
/-- what a run of code from slot n on may write -/
def gxF (c n : Nat) : Nat → Nat → Prop := fun a k => gAb c n a k ∨ (a = c + 1057 ∧ k = 6)
theorem gxF_mr {c n s : Nat} (h : n ≤ s) (hs : s < 104) : ∀ a k, gMr c s a k → gxF c n a k := fun a k q => Or.inl (gAb_mr h hs a k q)
theorem gxF_ab {c n s : Nat} (h : n ≤ s) : ∀ a k, gAb c s a k → gxF c n a k := fun a k q => Or.inl (gAb_le h a k q)
theorem gxF_le {c n s : Nat} (h : n ≤ s) : ∀ a k, gxF c s a k → gxF c n a k := by
  intro a k q
  rcases q with q | q
  · exact Or.inl (gAb_le h a k q)
  · exact Or.inr q
theorem gxF_at {c n t : Nat} {M M2 : gM} {w : gVl} (o : gOff (gxF c n) M M2) (h : t < n) (hn : n ≤ 104) (hw : gvAt M (c + 1058) t w) : gvAt M2 (c + 1058) t w := by
  refine hw.keep o ?_ ?_ (fun j _ => ?_) <;> unfold gxF gAb <;> omega
theorem gEnv.keepF {X : gX} {M M2 : gM} {c v n : Nat} {E : Int → gVl} (h : gEnv X M c v E) (o : gOff (gxF c n) M M2) : gEnv X M2 c v E := by
  refine ⟨h.1, h.2.1, fun p h0 h1 => ?_⟩
  obtain ⟨q1, q2, q3, q4, q5⟩ := h.2.2 p h0 h1
  have hv := h.2.1
  have e : M2 (c + 235) p.toNat = M (c + 235) p.toNat := o _ _ (by unfold gxF gAb; omega)
  rw [e]
  refine ⟨q1, q2, q3.keep o ?_ ?_ (fun j _ => ?_), q4, q5⟩ <;> unfold gxF gAb <;> omega
/-- a value has come upon the stack -/
def gxPost (M : gM) (c t : Nat) (V : gVl) (k : gM → Prop) : Prop := ∀ M2, gOff (gxF c t) M M2 → gvAt M2 (c + 1058) t V → M2 (c + 1057) 6 = (t : Int) + 1 → k M2
section gbP
variable {l : Launch} {G : gG} {d : Nat} {X : gX} {M : gM} {c t v s0 : Nat} {Q : gQ} {E : Int → gVl} {k : gM → Prop} {V : gVl}
theorem gxTop (hn : t < 104) (ht : M (c + 1057) 6 = (t : Int)) (h : gxPost M c t V k) : gPost M c t V (fun M2 => (g32 (M2 (c + 1057) 6) → (k (gUp M2 (c + 1057) 6 (w32 ((M2 (c + 1057) 6) + 1)))))) := by
  intro M2 o a _
  have e : M2 (c + 1057) 6 = (t : Int) := (o _ _ (by unfold gMr gVs; omega)).trans ht
  rw [e, w32_id ⟨by omega, by omega⟩]
  refine h _ ((o.mono (gxF_mr (Nat.le_refl _) hn)).up (Or.inr ⟨rfl, rfl⟩)) ?_ (gUp_eq _ _ _ _)
  exact a.keep ((gOff.rf (fun a k => a = c + 1057 ∧ k = 6) M2).up (x := (t : Int) + 1) ⟨rfl, rfl⟩) (by omega) (by omega) (fun j _ => by omega)
theorem c_Ma_pushTarget {op i p q : Int} (hX : glX X c) (hE : gEnv X M c v E) (hs0 : X.2.2 (c + 1057) 4 = s0 ∧ gsX X s0) (hop : op = 4 ∨ op = 5 ∨ op = 6) (hi : 0 ≤ i ∧ i < 20000) (hp : M (s0 + 4) i.toNat = p) (bp : -1 ≤ p ∧ p < 5200) (hq : op = 6 → 0 ≤ p → i + 1 < 20000 ∧ M (s0 + 4) (i + 1).toNat = q ∧ 0 ≤ q ∧ q < 5200) (hn : t < 104) (ht : M (c + 1057) 6 = (t : Int)) (eV : V = if p < 0 then gE 2 else if op = 4 then E p else ⟨5, p * 5200 + (if op = 6 then q else p), []⟩) (h : gPost M c t V k) : cV l G y_Ma_pushTarget (gRm (d + 1 + 1)) true [gR G (c + 1057), gI op, gI i] X M k := by
  have hs : (0 : Int) ≤ (t : Int) ∧ (t : Int) < 104 := ⟨by omega, by omega⟩
  have hv := hE.2.1
  refine e_Ma_pushTarget (w_Ma_pushTarget_0 hX ⟨by omega, by omega⟩ ⟨by omega, by omega⟩ hE.1 hs0 ⟨hi, ?_⟩)
  rw [hp, ht]
  refine fun _ => ⟨fun u => ⟨fun u2 => ⟨fun u3 _ => ?_, fun u3 => ?_⟩, fun u2 _ => ?_⟩, fun u _ => ?_⟩
  · rw [if_neg (by omega), if_neg u2, if_neg u3] at eV
    exact c_put hX hs (g32_c (x := 5) rfl) ⟨by omega, by omega⟩ eV h
  · obtain ⟨q1, q2, q3, q4⟩ := hq u3 (by omega)
    rw [if_neg (by omega), if_neg u2, if_pos u3] at eV
    refine ⟨⟨by omega, q1⟩, fun _ _ => ?_⟩
    rw [q2]
    exact c_put hX hs (g32_c (x := 5) rfl) ⟨by omega, by omega⟩ eV h
  · rw [if_neg (by omega), if_pos u2] at eV
    obtain ⟨q1, q2, q3, q4, q5⟩ := hE.2.2 p (by omega) bp.2
    refine ⟨⟨by omega, bp.2⟩, fun _ => ?_⟩
    rw [eV] at h
    exact c_Vl_setFrom (gl_stk hX) hs hE.1.2 ⟨q1, q2⟩ (Or.inr (by omega)) q3 q4 (fun M2 o w => h M2 (o.mono gMr_vs) w)
  · rw [if_pos (by omega)] at eV
    exact c_putE hX hs (by decide) eV h
theorem c_Ma_pushN {op kd x : Int} (hX : glX X c) (hop : op = 0 ∧ kd = 1 ∨ op = 2 ∧ kd = 3 ∨ op = 3 ∧ kd = 4) (hx : g64 x) (hn : t < 104) (ht : M (c + 1057) 6 = (t : Int)) (h : gxPost M c t ⟨kd, x, []⟩ k) : cV l G y_Ma_push (gRm (d + 1)) true [gR G (c + 1057), gI op, gL x] X M k := by
  have hs : (0 : Int) ≤ (t : Int) ∧ (t : Int) < 104 := ⟨by omega, by omega⟩
  have hp := gxTop hn ht h
  refine e_Ma_push (w_Ma_push_0 hX ⟨by omega, by omega⟩ hx ⟨fun e _ => ?_, fun e => ?_, fun e _ => ?_, fun e _ => ?_, fun e => ?_⟩)
  · rw [ht]
    exact c_put hX hs (g32_c (x := 1) rfl) hx (by rw [show kd = 1 by omega]) hp
  · omega
  · rw [ht]
    exact c_put hX hs (g32_c (x := 3) rfl) hx (by rw [show kd = 3 by omega]) hp
  · rw [ht]
    exact c_put hX hs (g32_c (x := 4) rfl) hx (by rw [show kd = 4 by omega]) hp
  · omega
theorem c_Ma_pushT {p n : Nat} {b : List Int} (hX : glX X c) (hb : gBy M (c + 13) p n = b) (hn64 : n ≤ 64) (hpn : p + n ≤ 10480) (hn : t < 104) (ht : M (c + 1057) 6 = (t : Int)) (h : gxPost M c t (gTxt b) k) : cV l G y_Ma_push (gRm (d + 1 + 1)) true [gR G (c + 1057), gI 1, gL ((p : Int) * 240 + (n : Int))] X M k := by
  have hs : (0 : Int) ≤ (t : Int) ∧ (t : Int) < 104 := ⟨by omega, by omega⟩
  have hp := gxTop hn ht h
  have e1 : ((p : Int) * 240 + (n : Int)).tdiv 240 = (p : Int) := by rw [Int.tdiv_eq_ediv_of_nonneg (by omega)]; omega
  have e2 : ((p : Int) * 240 + (n : Int)).tmod 240 = (n : Int) := by rw [Int.tmod_eq_emod_of_nonneg (by omega)]; omega
  refine e_Ma_push (w_Ma_push_0 hX (g32_c (x := 1) rfl) ⟨by omega, by omega⟩ ⟨fun e => absurd e (by decide), fun _ _ => ?_, fun e => absurd e (by decide), fun e => absurd e (by decide), fun e => absurd rfl e.2.1⟩)
  rw [ht, e1, e2]
  refine c_Vl_setText (gl_stk hX) hs (n2 := 10480) ⟨gl_1 hX 13, gl_2 hX (by decide), gl_s hX 13 rfl, by decide⟩ ⟨by omega, by omega, by omega, by omega⟩ (fun M2 o a => hp M2 (o.mono gMr_vs) ?_)
  simp only [Int.toNat_natCast] at a
  rw [hb] at a
  have e : b.length = n := by rw [← hb, gBy_len]
  unfold gTxt
  rw [e]
  exact a
theorem c_Ma_pushR {op i x p q : Int} (hX : glX X c) (hE : gEnv X M c v E) (hs0 : X.2.2 (c + 1057) 4 = s0 ∧ gsX X s0) (hop : op = 4 ∨ op = 5 ∨ op = 6) (hx : 0 ≤ x ∧ x < 20000) (hf : M (c + 1057) 5 + x = i) (hi : 0 ≤ i ∧ i < 20000) (hp : M (s0 + 4) i.toNat = p) (bp : -1 ≤ p ∧ p < 5200) (hq : op = 6 → 0 ≤ p → i + 1 < 20000 ∧ M (s0 + 4) (i + 1).toNat = q ∧ 0 ≤ q ∧ q < 5200) (hn : t < 104) (ht : M (c + 1057) 6 = (t : Int)) (eV : V = if p < 0 then gE 2 else if op = 4 then E p else ⟨5, p * 5200 + (if op = 6 then q else p), []⟩) (h : gxPost M c t V k) : cV l G y_Ma_push (gRm (d + 1 + 1 + 1)) true [gR G (c + 1057), gI op, gL x] X M k := by
  refine e_Ma_push (w_Ma_push_0 hX ⟨by omega, by omega⟩ ⟨by omega, by omega⟩ ⟨fun e => by omega, fun e => by omega, fun e => by omega, fun e => by omega, fun _ _ => ?_⟩)
  rw [hf]
  exact c_Ma_pushTarget hX hE hs0 hop hi hp bp hq hn ht eV (gxTop hn ht h)
/-- one of several is picked -/
theorem c_Ma_pick {w : Nat} {idx nx z tk : Int} {u : gVl} {k : Int → gM → Prop} (hX : glX X c) (hO : gOld G Q) (hw : w = 24 ∨ w = 25 ∨ w = 26) (h25 : w = 25 → idx = 1) (hk : 0 ≤ idx ∧ idx ≤ 3) (hnx : 0 ≤ nx ∧ nx < 65536) (hz : 0 ≤ z ∧ z < 65536) (htk : g32 tk) (hn : t < 103) (ht : M (c + 1057) 6 = (t : Int) + 1) (hu : gvAt M (c + 1058) t u) (ou : gvOk u)
    (h0 : ∀ V M2, gxWt w u = (none, V) → gOff (gxF c t) M M2 → gvAt M2 (c + 1058) t V → M2 (c + 1057) 6 = (t : Int) + 1 → k z M2)
    (h1 : ∀ V M2, gxWt w u = (some idx, V) → gOff (gxF c t) M M2 → M2 (c + 1057) 6 = (t : Int) → k tk M2)
    (h2 : ∀ y V M2, gxWt w u = (some y, V) → y ≠ idx → gOff (gxF c t) M M2 → gvAt M2 (c + 1058) t V → M2 (c + 1057) 6 = (t : Int) + 1 → k nx M2) : cI l G y_Ma_pick (gRm (d + 8)) true [gR G (c + 1057), gI (gxOp w), gL (gEnc idx nx z), gI tk] X M k := by
  have hs : (0 : Int) ≤ (t : Int) ∧ (t : Int) < 104 := ⟨by omega, by omega⟩
  obtain ⟨g1, d1, d2, d3⟩ := gEnc_dec hk hnx hz
  have gop : g32 (gxOp w) := by rcases hw with rfl | rfl | rfl <;> exact ⟨by decide, by decide⟩
  have gi : g32 idx := ⟨by omega, by omega⟩
  have gx : g32 nx := ⟨by omega, by omega⟩
  have gz : g32 z := ⟨by omega, by omega⟩
  have gt : g32 (t : Int) := ⟨by omega, by omega⟩
  have keepT : ∀ {M2 : gM}, gOff (gMr c t) M M2 → M2 (c + 1057) 6 = (t : Int) + 1 := fun o => (o _ _ (by unfold gMr gVs; omega)).trans ht
  have wide : ∀ {M2 : gM}, gOff (gMr c t) M M2 → gOff (gxF c t) M M2 := fun o => o.mono (gxF_mr (Nat.le_refl _) (by omega))
  -- the value is set aside, or stays
  have upT : ∀ {M2 : gM} {x : Int}, gOff (gMr c t) M M2 → gOff (gxF c t) M (gUp M2 (c + 1057) 6 x) := fun o => (wide o).up (Or.inr ⟨rfl, rfl⟩)
  have upA : ∀ {M2 : gM} {x : Int} {V : gVl}, gvAt M2 (c + 1058) t V → gvAt (gUp M2 (c + 1057) 6 x) (c + 1058) t V := fun a => a.keep ((gOff.rf (fun a k => a = c + 1057 ∧ k = 6) _).up ⟨rfl, rfl⟩) (by omega) (by omega) (fun j _ => by omega)
  have turned : w ≠ 25 → u.kd ≠ 4 → ∀ (x : Int), x = (if w = 24 then 98 else 110) → wp l G y_Ma_pick (gRm (d + 8)) true (kkI X k) true 120 [.val (gR G (c + 1057)), .val (gI (gxOp w)), .unset, .unset, .val (gI tk), .val (gI idx), .val (gI nx), .val (gI z), .val (gI (t : Int)), .unset, .unset, .unset] [gI x, gI (t : Int), gR G (c + 1058)] X M 0 0 := by
    intro n25 k4 x hx
    have gx2 : g32 x := by subst hx; split <;> exact ⟨by decide, by decide⟩
    refine w_Ma_pick_120 (d := d + 7) hX gop htk gi gx gz gt gx2 gt ?_
    have last : ∀ (y : Int) (V : gVl) (M2 : gM), g64 y → gOff (gMr c t) M M2 → gvAt M2 (c + 1058) t V → (y < 1 ∨ 3 < y → gxWt w u = (none, gE 4)) → (1 ≤ y ∧ y ≤ 3 → gxWt w u = (some y, V)) → wp l G y_Ma_pick (gRm (d + 8)) true (kkI X k) true 175 [.val (gR G (c + 1057)), .unset, .unset, .unset, .val (gI tk), .val (gI idx), .val (gI nx), .val (gI z), .val (gI (t : Int)), .unset, .unset, .unset] [gL y] X M2 0 0 := by
      intro y V M2 gy o a e0 e1
      have bad : (y < 1 ∨ 3 < y) → cV l G y_Vl_set (gRm (d + 7)) true [gR G (c + 1058), gI (t : Int), gI 4, gL 4] X M2 (fun M24 => (k z M24)) := fun q =>
        c_putE hX hs (by decide) rfl (fun M3 o3 a3 => h0 _ M3 (e0 q) (wide (o.tr o3)) a3 (keepT (o.tr o3)))
      refine w_Ma_pick_175 (d := d + 7) hX htk gi gx gz gt gy ?_
      rw [keepT o, w32_id (x := (t : Int) + 1 - 0) ⟨by omega, by omega⟩, w32_id (x := (t : Int) + 1 - 1) ⟨by omega, by omega⟩]
      refine ⟨fun q => bad (Or.inl q), fun q => ⟨fun q2 _ => ⟨fun q3 => ⟨fun _ => ?_, fun q4 => absurd q4 q3⟩, fun q3 => ⟨fun q4 => absurd q3 q4, fun _ => ?_⟩⟩, fun q2 => bad (Or.inr (by omega))⟩⟩
      · exact h2 y V _ (e1 ⟨by omega, by omega⟩) q3 (upT o) (upA a) (by rw [gUp_eq]; omega)
      · exact h1 V _ (by rw [e1 ⟨by omega, by omega⟩, q3]) (upT o) (by rw [gUp_eq]; omega)
    refine c_Vl_turn (gl_stk hX) hO hs gx2 hu ou (fun z1 => ⟨fun q => absurd rfl q, fun _ => ?_⟩) (fun V hV M2 o a => ⟨fun _ => ?_, fun q => absurd q (by decide)⟩)
    · refine c_putE hX hs (by decide) rfl (fun M3 o3 a3 => h0 (gE 4) M3 ?_ (wide o3) a3 (keepT o3))
      unfold gxWt
      rw [if_neg n25, if_neg k4]
      rcases hw with rfl | rfl | rfl
      · subst hx
        rw [if_pos rfl, show gToB u = none from z1]
      · exact absurd rfl n25
      · subst hx
        rw [if_neg (by decide), show gToN u = none from z1]
    · have o2 : gOff (gMr c t) M M2 := o.mono gMr_vs
      rw [gT0, show M2 (c + 1058 + 2) t = V.nm from a.2.1]
      rcases hw with rfl | rfl | rfl
      · subst hx
        have hV2 : gToB u = some V := hV
        have ok := gToB_ok hV2
        have kV : V.kd = 3 := by
          unfold gToB at hV2
          split at hV2
          · cases hV2
          · cases hV2; rfl
        have bV := ok.2.2.2.2.2.2.1 kV
        refine ⟨fun q => absurd rfl q, fun _ => ⟨hs, fun _ => ?_⟩⟩
        rw [w64_id (x := 2 - V.nm) ⟨by omega, by omega⟩]
        refine last _ V M2 ⟨by omega, by omega⟩ o2 a (fun q => by omega) (fun _ => ?_)
        unfold gxWt
        rw [if_neg (by decide), if_neg k4, if_pos rfl, hV2]
      · exact absurd rfl n25
      · subst hx
        have hV2 : gToN u = some V := hV
        have ok := gToN_ok ou hV2
        have eW : gxWt 26 u = if V.nm < 1 ∨ 3 < V.nm then (none, gE 4) else (some V.nm, V) := by
          unfold gxWt
          rw [if_neg (by decide), if_neg k4, if_neg (by decide), hV2]
        refine ⟨fun _ => ⟨hs, fun _ => ?_⟩, fun q => absurd q (by decide)⟩
        refine last _ V M2 ok.2.2.1 o2 a (fun q => ?_) (fun q => ?_)
        · rw [eW, if_pos q]
        · rw [eW, if_neg (by omega)]
  refine e_Ma_pick (d := d + 7) (w_Ma_pick_0 (d := d + 7) hX gop g1 htk ?_)
  rw [ht, show (t : Int) + 1 - 1 = (t : Int) by omega, d1, d2, d3, w32_id gi, w32_id gx, w32_id gz, w32_id gt, gT0, show M (c + 1058 + 1) t = u.kd from hu.1]
  refine fun _ => ⟨hs, fun _ => ⟨fun q => ?_, fun q => ?_⟩⟩
  · refine w_Ma_pick_53 (d := d + 7) hX gop htk gi gx gz gt (g32_c (x := 0) rfl) ?_
    rw [ht, w32_id (x := (t : Int) + 1 - 0) ⟨by omega, by omega⟩]
    rcases hw with rfl | rfl | rfl
    · exact ⟨fun _ => ⟨fun _ => ⟨fun z1 => absurd rfl z1, fun _ => turned (by decide) q 98 rfl⟩, fun z1 => absurd rfl z1⟩, fun z1 => absurd z1 (by decide)⟩
    · refine ⟨fun z1 => absurd rfl z1, fun _ _ => ⟨fun _ => ⟨fun _ => h0 u _ ?_ (upT (gOff.rf _ _)) (upA hu) (by rw [gUp_eq]; omega), fun z1 => absurd rfl z1⟩, fun z1 => absurd rfl z1⟩⟩
      unfold gxWt
      rw [if_pos rfl, if_neg q]
    · exact ⟨fun _ => ⟨fun _ => ⟨fun _ => turned (by decide) q 110 rfl, fun z1 => absurd z1 (by decide)⟩, fun z1 => absurd rfl z1⟩, fun z1 => absurd z1 (by decide)⟩
  · refine w_Ma_pick_53 (d := d + 7) hX gop htk gi gx gz gt (g32_c (x := 1) rfl) ?_
    rw [ht, w32_id (x := (t : Int) + 1 - 1) ⟨by omega, by omega⟩]
    have noerr : w ≠ 25 → gxWt w u = (none, u) := fun n25 => by unfold gxWt; rw [if_neg n25, if_pos q]
    rcases hw with rfl | rfl | rfl
    · exact ⟨fun _ => ⟨fun z1 => absurd z1 (by decide), fun _ => h0 u M (noerr (by decide)) (gOff.rf _ _) hu ht⟩, fun z1 => absurd z1 (by decide)⟩
    · refine ⟨fun z1 => absurd rfl z1, fun _ _ => ⟨fun z1 => absurd z1 (by decide), fun _ => ⟨fun z1 => absurd z1 (by decide), fun _ => h1 u _ ?_ (upT (gOff.rf _ _)) (by rw [gUp_eq]; omega)⟩⟩⟩
      rw [h25 rfl]
      unfold gxWt
      rw [if_pos rfl, if_pos q]
    · exact ⟨fun _ => ⟨fun z1 => absurd z1 (by decide), fun _ => h0 u M (noerr (by decide)) (gOff.rf _ _) hu ht⟩, fun z1 => absurd z1 (by decide)⟩
end gbP
