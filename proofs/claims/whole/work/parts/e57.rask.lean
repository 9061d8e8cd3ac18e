/-! The reference's answers, and INPUT on both sides. -/
section ggU
variable {l : Launch} {G : gG} {d : Nat} {X : gX} {M M' M3 : gM} {o n : Nat} {T : Nat → gSht} {er nw lt ed : Nat} {S : List Int} {ch ch' : Nat} {cl cl' : Nat → Int} {V V0 V' : Int → gVl} {F F2 : gSht} {Q : gQ} {k : Int → gM → Prop}
theorem r_GMvalue (h : gLM X M o n T er nw lt ed S V ch cl) {x y s : Int} (gx : g32 x) (gy : g32 y) (gs : g32 s) (k0 : ¬ (gIs x y ∧ 0 ≤ s ∧ s ≤ 1) → k 0 (gUp M o 0 1)) (k1 : gIs x y ∧ 0 ≤ s ∧ s ≤ 1 → k (if s = 0 then (V ((x + 26 * y).toNat : Int)).kd else (V ((x + 26 * y).toNat : Int)).nm) (gUp M o 0 0)) :
    cL l G y_GM_value (gRm (d + 1)) true [gR G o, gI x, gI y, gI s] X M k := by
  refine c_GM_value h.1 gx gy gs (fun a => k0 (by unfold gIs; exact a)) (fun a => ?_)
  have hp : (x + 26 * y).toNat < 5200 := by omega
  obtain ⟨b1, b2, b3, b4, b5⟩ := h.2.2.2.1.1 _ hp
  have kk := k1 (by unfold gIs; exact a)
  rw [b2, b3, b4]
  by_cases e : s = 0
  · rw [if_pos e] at kk ⊢
    exact kk
  · rw [if_neg e] at kk ⊢
    by_cases e2 : (V ((x + 26 * y).toNat : Int)).kd = 2
    · rw [if_pos e2, ← (b1.1.2.2.2.1 e2).1]
      exact kk
    · rw [if_neg e2, if_neg e2]
      exact kk
theorem r_GMletter (h : gLM X M o n T er nw lt ed S V ch cl) {x y s : Int} (gx : g32 x) (gy : g32 y) (gs : g32 s) (k0 : ¬ gIs x y → k 0 (gUp M o 0 1)) (k2 : gIs x y → ¬ ((V ((x + 26 * y).toNat : Int)).kd = 2 ∧ 0 ≤ s ∧ s < (V ((x + 26 * y).toNat : Int)).tx.length) → k 0 (gUp M o 0 2)) (k1 : gIs x y → ((V ((x + 26 * y).toNat : Int)).kd = 2 ∧ 0 ≤ s ∧ s < (V ((x + 26 * y).toNat : Int)).tx.length) → k ((V ((x + 26 * y).toNat : Int)).tx.getD s.toNat 0) (gUp M o 0 0)) :
    cI l G y_GM_letter_2 (gRm (d + 1)) true [gR G o, gI x, gI y, gI s] X M k := by
  by_cases a : 0 ≤ x ∧ x < 26 ∧ 0 ≤ y ∧ y < 200
  · have hp : (x + 26 * y).toNat < 5200 := by omega
    obtain ⟨b1, b2, b3, b4, b5⟩ := h.2.2.2.1.1 _ hp
    have hl := h.2.2.2.1.1.len hp
    refine c_GM_letter_2 h.1 gx gy gs hl.2 (fun z => absurd a z) (fun _ z => k2 a ?_) (fun _ z => ?_)
    · rw [b2, b3] at z; exact z
    · rw [b2, b3] at z
      have := gBy_at b5 (j := s.toNat) (by omega)
      rw [show (64 * (x + 26 * y) + s).toNat = 64 * (x + 26 * y).toNat + s.toNat by omega, this]
      exact k1 a z
  · refine e_GM_letter_2 (w_GM_letter_2_0 h.1 gx gy gs (c_GM_inSheet gx gy ?_))
    rw [if_neg a]
    exact ⟨fun z => absurd rfl z, fun _ => c_GM_no h.1 (g32_c (x := 1) rfl) (k0 a)⟩
theorem r_GMcount (h : gLM X M o n T er nw lt ed S V ch cl) (htl : gTl T er nw lt n) (hn : n < 999) {x : Int} (gx : g32 x) (hk : k (gQct S er nw lt ed ch (T nw) V x) (gUp M o 0 0)) : cI l G y_GM_count (gRm (d + 1)) true [gR G o, gI x] X M k := by
  obtain ⟨a1, a2, a3, a4, a5, a6⟩ := h
  obtain ⟨t1, t2, t3, t4, t5⟩ := htl
  refine c_GM_count a1 gx (by rw [a2.1, a2.2.1, a2.2.2.1]; omega) ?_
  have e : gmCount M o x = gQct S er nw lt ed ch (T nw) V x := by
    have c4 := gmCnt_F (F := T nw) (s := nw % 41) (a3 nw t1 t2).2.1 5200 (Nat.le_refl _)
    unfold gmCount gQct
    rw [a2.2.1, a2.1, a2.2.2.1, a2.2.2.2, a6.1, a4.2.2.2.1, a4.2.1, a4.2.2.1, show (nw : Int) % 41 = ((nw % 41 : Nat) : Int) by omega, c4, show (nw : Int) - (er : Int) = ((nw - er : Nat) : Int) by omega, show (lt : Int) - (nw : Int) = ((lt - nw : Nat) : Int) by omega]
  rw [e]
  exact hk
theorem r_GMchanged (h : gLM X M o n T er nw lt ed S V ch cl) (hc : ch ≤ 800) {x : Int} (gx : g32 x) (k0 : ¬ (0 ≤ x ∧ x < ch) → k 0 (gUp M o 0 1)) (k1 : 0 ≤ x ∧ x < ch → k (cl x.toNat) (gUp M o 0 0)) : cI l G y_GM_changed (gRm (d + 1)) true [gR G o, gI x] X M k := by
  obtain ⟨a1, a2, a3, a4, a5, a6⟩ := h
  refine c_GM_changed a1 gx (by rw [a4.2.2.2.1]; omega) (fun z => k0 (by rw [a4.2.2.2.1] at z; exact z)) (fun z => ?_)
  rw [a4.2.2.2.1] at z
  rw [a4.2.2.2.2 x.toNat (by omega)]
  exact k1 z
theorem r_GMcontent (h : gLM X M o n T er nw lt ed S V ch cl) (htl : gTl T er nw lt n) (hn : n < 999) {x y s : Int} (gx : g32 x) (gy : g32 y) (gs : g32 s) (k0 : ¬ (gIs x y ∧ 0 ≤ s ∧ s ≤ 2) → k 0 (gUp M o 0 1)) (k1 : gIs x y → 0 ≤ s → s ≤ 2 → k (gQcon (T nw) (x + 26 * y).toNat s) (gUp M o 0 0)) :
    cI l G y_GM_content (gRm (d + 1)) true [gR G o, gI x, gI y, gI s] X M k := by
  obtain ⟨t1, t2, t3, t4, t5⟩ := htl
  have a1 := h.1
  refine e_GM_content (w_GM_content_0 a1 gx gy gs (c_GM_inSheet gx gy ?_))
  have no : ¬ (gIs x y ∧ 0 ≤ s ∧ s ≤ 2) → cI l G y_GM_no (gRm d) true [gR G o, gI 1] X M (fun v w => k v w) := fun a => c_GM_no a1 (g32_c (x := 1) rfl) (k0 a)
  by_cases a : 0 ≤ x ∧ x < 26 ∧ 0 ≤ y ∧ y < 200
  · rw [if_pos a]
    refine ⟨fun z => absurd z (by decide), fun _ => ⟨fun z => no (fun q => by omega), fun z => ⟨fun z2 => ?_, fun z2 => no (fun q => by omega)⟩⟩⟩
    have kk := k1 a (by omega) z2
    have h0 := h.up0 (x := 0)
    have o36 : gUp M o 0 0 o 36 = (nw : Int) := h0.2.1.2.1
    have st := h0.2.2.1 nw t1 t2
    generalize gUp M o 0 0 = N at kk h0 o36 st ⊢
    rw [o36]
    refine fun _ => c_GM_slot (by omega) (by omega) ?_
    have hp : (x + 26 * y).toNat < 5200 := by omega
    have ea : (((nw % 41 : Nat) : Int) * 5200 + (x + 26 * y)).toNat = nw % 41 * 5200 + (x + 26 * y).toNat := by omega
    have eb : (x + 26 * y) = (((x + 26 * y).toNat : Nat) : Int) := by omega
    rw [show (nw : Int) % 41 = ((nw % 41 : Nat) : Int) by omega, ea]
    have cl := st.2.1 _ hp
    cases eF : T nw (x + 26 * y).toNat with
    | none =>
      rw [gQcon_n eF] at kk
      have e19 := cl.1 eF
      rw [e19]
      exact ⟨fun _ => ⟨⟨by omega, by omega⟩, fun _ => ⟨fun y => absurd y (by decide), fun _ => kk⟩⟩, fun _ => ⟨⟨by omega, by omega⟩, fun _ => kk⟩⟩
    | some yy =>
      obtain ⟨S', tg⟩ := yy
      obtain ⟨e19, _, _, e3⟩ := cl.2 S' tg eF
      have ok := (t5 nw t1 t2 _ S' tg eF).2
      rw [gQcon_s eF] at kk
      rw [e19]
      refine ⟨fun ns => ⟨⟨by omega, by omega⟩, fun _ => ⟨fun s3 => ⟨⟨by omega, by omega⟩, ?_⟩, fun s3 => ?_⟩⟩, fun e0 => ⟨⟨by omega, by omega⟩, fun _ => by rw [if_pos e0] at kk; exact kk⟩⟩
      · obtain ⟨f, ra, b1, b2, b3, b4, b5⟩ := e3 s3
        obtain ⟨L, R, c1, c2, c3, c4, c5, c6, c7⟩ := b2
        have l50 := (gRefs_ok ok.1).2
        have hl := ok.2.2.2.1
        have r25 := st.2.2.2
        rw [b1, Int.toNat_natCast, c6, ← hl]
        refine fun _ => ⟨⟨by omega, by omega⟩, fun _ => ?_⟩
        rw [w32_id (x := x + 26 * y) ⟨by omega, by omega⟩]
        rw [if_neg ns] at kk
        have key : ∀ (u i : Nat), i + u = tg.length → wp l G y_GM_content (gRm (d + 1)) true (kkI X k) true 111 [.val (gR G o), .unset, .unset, .val (gI s), .val (gI (x + 26 * y)), .val (gI ((nw % 41 : Nat) : Int)), .val (gI (tg.length : Int)), .val (gI (gCn (fun i => gTt tg i = -1) i : Int)), .val (gI (i : Int))] [] X N 0 0 := by
          intro u
          induction u with
          | zero =>
            intro i hi
            have cb := gCn_bd (Q := fun i => gTt tg i = -1) i
            refine w_GM_content_111 a1 gs ⟨by omega, by omega⟩ ⟨by omega, by omega⟩ ⟨by omega, by omega⟩ ⟨by omega, by omega⟩ ⟨by omega, by omega⟩ ⟨fun _ => ⟨fun n1 => ?_, fun e1 => ?_⟩, fun y => absurd (by omega) y⟩
            · rw [if_neg n1] at kk
              rw [show i = tg.length by omega]
              exact kk
            · rw [if_pos e1] at kk
              exact kk
          | succ u ih =>
            intro i hi
            have cb := gCn_bd (Q := fun i => gTt tg i = -1) i
            have i2 := ih (i + 1) (by omega)
            have er : gmRa N o ((nw % 41 : Nat) : Int) (x + 26 * y) (i : Int) = ((nw % 41 * 20800 + ra + i : Nat) : Int) := by
              unfold gmRa
              rw [ea, b3]
              clear e3
              omega
            refine w_GM_content_111 a1 gs ⟨by omega, by omega⟩ ⟨by omega, by omega⟩ ⟨by omega, by omega⟩ ⟨by omega, by omega⟩ ⟨by omega, by omega⟩ ⟨fun y => absurd y (by omega), fun _ => c_GM_ref_2 a1 ⟨by omega, by omega⟩ ⟨by omega, by omega⟩ ⟨by omega, by omega⟩ (by rw [er]; omega) ?_⟩
            rw [er, Int.toNat_natCast, b5 i (by omega), w32_id (x := (i : Int) + 1) ⟨by omega, by omega⟩, show (i : Int) + 1 = ((i + 1 : Nat) : Int) by omega, w32_id (x := (gCn (fun i => gTt tg i = -1) i : Int) + 1) ⟨by omega, by omega⟩]
            have tv := ok.2.2.2.2.1 i (by omega)
            refine ⟨fun y => ?_, fun y => ?_⟩
            · rw [gCn_n (Q := fun i => gTt tg i = -1) (show ¬ gTt tg i = -1 by omega)] at i2
              exact i2
            · rw [gCn_y (Q := fun i => gTt tg i = -1) (show gTt tg i = -1 by omega)] at i2
              exact i2
        exact key tg.length 0 (by omega)
      · have r0 := (gSrt_rf s3).1
        have t0 : tg = [] := List.eq_nil_of_length_eq_zero (by rw [ok.2.2.2.1, r0]; rfl)
        rw [if_neg ns, t0] at kk
        have : (if s = 1 then ((([] : List Int).length : Nat) : Int) else (gCn (fun i => gTt [] i = -1) ([] : List Int).length : Int)) = 0 := by split <;> rfl
        rw [this] at kk
        exact kk
  · rw [if_neg a]
    exact ⟨fun _ => no (fun q => a q.1), fun z => absurd rfl z⟩
theorem r_GMreference (h : gLM X M o n T er nw lt ed S V ch cl) (htl : gTl T er nw lt n) (hn : n < 999) {x y s : Int} (gx : g32 x) (gy : g32 y) (gs : g32 s) (k0 : ¬ gIs x y → k 0 (gUp M o 0 1)) (k2 : gIs x y → (∀ S' tg, T nw (x + 26 * y).toNat = some (S', tg) → ¬ (0 ≤ s ∧ s < tg.length)) → k 0 (gUp M o 0 2)) (k1 : gIs x y → ∀ S' tg, T nw (x + 26 * y).toNat = some (S', tg) → 0 ≤ s → s < tg.length → k (gTt tg s.toNat) (gUp M o 0 0)) :
    cI l G y_GM_reference (gRm (d + 1)) true [gR G o, gI x, gI y, gI s] X M k := by
  obtain ⟨t1, t2, t3, t4, t5⟩ := htl
  have a1 := h.1
  refine e_GM_reference (w_GM_reference_0 a1 gx gy gs (c_GM_inSheet gx gy ?_))
  by_cases a : 0 ≤ x ∧ x < 26 ∧ 0 ≤ y ∧ y < 200
  · rw [if_pos a]
    refine ⟨fun _ => ?_, fun z => absurd z (by decide)⟩
    have no : (∀ S' tg, T nw (x + 26 * y).toNat = some (S', tg) → ¬ (0 ≤ s ∧ s < tg.length)) → cI l G y_GM_no (gRm d) true [gR G o, gI 2] X M (fun v w => k v w) := fun z => c_GM_no a1 (g32_c (x := 2) rfl) (k2 a z)
    have st := h.2.2.1 nw t1 t2
    rw [h.2.1.2.1]
    refine fun _ => c_GM_slot (by omega) (by omega) ?_
    have hp : (x + 26 * y).toNat < 5200 := by omega
    have ea : (((nw % 41 : Nat) : Int) * 5200 + (x + 26 * y)).toNat = nw % 41 * 5200 + (x + 26 * y).toNat := by omega
    have eb : (x + 26 * y) = (((x + 26 * y).toNat : Nat) : Int) := by omega
    rw [show (nw : Int) % 41 = ((nw % 41 : Nat) : Int) by omega, ea]
    have cl := st.2.1 _ hp
    cases eF : T nw (x + 26 * y).toNat with
    | none =>
      rw [cl.1 eF]
      exact ⟨⟨by omega, by omega⟩, fun _ => ⟨fun _ => no (fun S' tg e => by rw [eF] at e; exact nomatch e), fun z => absurd z (by decide)⟩⟩
    | some yy =>
      obtain ⟨S', tg⟩ := yy
      obtain ⟨e19, _, _, e3⟩ := cl.2 S' tg eF
      have ok := (t5 nw t1 t2 _ S' tg eF).2
      have no2 : ¬ (0 ≤ s ∧ s < tg.length) → cI l G y_GM_no (gRm d) true [gR G o, gI 2] X M (fun v w => k v w) := fun z => no (fun S2 tg2 e => by rw [eF] at e; cases e; exact z)
      rw [e19]
      refine ⟨⟨by omega, by omega⟩, fun _ => ⟨fun s3 => no2 (fun q => ?_), fun s3 => ⟨fun z => no2 (by omega), fun z => ⟨⟨by omega, by omega⟩, ?_⟩⟩⟩⟩
      · have r0 := (gSrt_rf s3).1
        have l0 : tg.length = 0 := by rw [ok.2.2.2.1, r0]; rfl
        omega
      · obtain ⟨f, ra, b1, b2, b3, b4, b5⟩ := e3 s3
        obtain ⟨L, R, c1, c2, c3, c4, c5, c6, c7⟩ := b2
        have hl := ok.2.2.2.1
        have r25 := st.2.2.2
        rw [b1, Int.toNat_natCast, c6, ← hl]
        refine fun _ => ⟨⟨by omega, by omega⟩, fun _ => ⟨fun z2 => ?_, fun z2 => no2 (by omega)⟩⟩
        have er : gmRa (gUp M o 0 0) o ((nw % 41 : Nat) : Int) (x + 26 * y) s = ((nw % 41 * 20800 + ra + s.toNat : Nat) : Int) := by
          unfold gmRa
          rw [ea, gUp_a (by omega), b3]
          clear e3
          omega
        refine c_GM_ref_2 a1 ⟨by omega, by omega⟩ ⟨by omega, by omega⟩ gs (by rw [er]; omega) ?_
        rw [er, Int.toNat_natCast, gUp_a (by omega), b5 s.toNat (by omega)]
        exact k1 a S' tg eF (by omega) z2
  · rw [if_neg a]
    exact ⟨fun z => absurd rfl z, fun _ => c_GM_no a1 (g32_c (x := 1) rfl) (k0 a)⟩
end ggU
