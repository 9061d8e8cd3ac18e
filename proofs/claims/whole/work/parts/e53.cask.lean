/-! The class's value, letter, content, reference, count. -/
noncomputable def gQcon (F : gSht) (p : Nat) (s : Int) : Int := match F p with
  | none => 0
  | some y => if s = 0 then gSrt y.1 else if s = 1 then (y.2.length : Int) else (gCn (fun i => gTt y.2 i = -1) y.2.length : Int)
theorem gQcon_s {F : gSht} {p : Nat} {s : Int} {S tg : List Int} (e : F p = some (S, tg)) : gQcon F p s = if s = 0 then gSrt S else if s = 1 then (tg.length : Int) else (gCn (fun i => gTt tg i = -1) tg.length : Int) := by
  unfold gQcon
  rw [e]
theorem gQcon_n {F : gSht} {p : Nat} {s : Int} (e : F p = none) : gQcon F p s = 0 := by
  unfold gQcon
  rw [e]
section ggQ
variable {l : Launch} {G : gG} {d Nr : Nat} {X X' : gX} {M M' N : gM} {c o n : Nat} {Rg : Nat → Nat} {v b : Nat} {w w1 : Nat → gVl} {T : Nat → gSht} {er nw lt ed : Nat} {S : List Int} {ch : Nat} {cl : Nat → Int} {F F0 F2 : gSht} {r : Nat} {Q : gQ} {K : Outcome → gX → gM → Prop} {k : Int → gM → Prop}
theorem gAt_b (hn : gCn (gnE F) 5200 ≤ 400) {p : Nat} (hp : p < 5200) : gAt F p ≤ 400 ∧ (gAt F p = 400 ↔ ¬ gnE F p) ∧ (gnE F p → gAt F p = gCn (gnE F) p) := by
  unfold gAt
  by_cases y : gnE F p
  · have := gCn_lt (Q := gnE F) hp y
    rw [if_pos y]
    exact ⟨by omega, ⟨fun e => by omega, fun e => absurd y e⟩, fun _ => rfl⟩
  · rw [if_neg y]
    exact ⟨Nat.le_refl _, ⟨fun _ => y, fun _ => rfl⟩, fun e => absurd e y⟩
theorem c_St_gone {p : Nat} {S tg : List Int} (hr : gsX X r) (h : gcSt M c r F) (hp : p < 5200) (e : F p = some (S, tg)) (hk : k (gCn (fun i => gTt tg i = -1) tg.length : Int) M) : cI l G y_St_gone (gRm d) false [gR G r, gI (gCn (gnE F) p : Int)] X M k := by
  obtain ⟨h0, h1, h2, h3, h4⟩ := h
  have lt := gCn_lt (Q := gnE F) hp (gnE_s e)
  have nx : gCn (gnE F) (p + 1) = gCn (gnE F) p + 1 := gCn_y (gnE_s e)
  have s1 := h3 (p + 1) (by omega)
  rw [nx, gSp_s e] at s1
  have sle := gSp_le (F := F) (show p + 1 ≤ 5200 from hp)
  rw [gSp_s e] at sle
  have tgs := (h4 p hp S tg e).2.2
  refine e_St_gone (w_St_gone_0 hr ⟨by omega, by omega⟩ ⟨⟨by omega, by omega⟩, ?_⟩)
  rw [Int.toNat_natCast, h3 p (by omega)]
  have key : ∀ (u i : Nat), i + u = tg.length → wp l G y_St_gone (gRm d) false (kkI X k) false 9 [.val (gR G r), .val (gI (gCn (gnE F) p : Int)), .val (gI (gCn (fun i => gTt tg i = -1) i : Int)), .val (gI ((gSp F p + i : Nat) : Int))] [] X M 0 0 := by
    intro u
    induction u with
    | zero =>
      intro i hi
      have cb := gCn_bd (Q := fun i => gTt tg i = -1) i
      refine w_St_gone_9 hr ⟨by omega, by omega⟩ ⟨by omega, by omega⟩ ⟨by omega, by omega⟩ ⟨⟨by omega, by omega⟩, ?_⟩
      rw [show ((gCn (gnE F) p : Int) + 1).toNat = gCn (gnE F) p + 1 by omega, s1]
      refine fun _ => ⟨fun _ => ?_, fun y => absurd (by omega) y⟩
      rw [show i = tg.length by omega]
      exact hk
    | succ u ih =>
      intro i hi
      have cb := gCn_bd (Q := fun i => gTt tg i = -1) i
      refine w_St_gone_9 hr ⟨by omega, by omega⟩ ⟨by omega, by omega⟩ ⟨by omega, by omega⟩ ⟨⟨by omega, by omega⟩, ?_⟩
      rw [show ((gCn (gnE F) p : Int) + 1).toNat = gCn (gnE F) p + 1 by omega, s1, Int.toNat_natCast, tgs i (by omega), w32_id (x := ((gSp F p + i : Nat) : Int) + 1) ⟨by omega, by omega⟩, show ((gSp F p + i : Nat) : Int) + 1 = ((gSp F p + (i + 1) : Nat) : Int) by omega, w32_id (x := (gCn (fun i => gTt tg i = -1) i : Int) + 1) ⟨by omega, by omega⟩]
      have i2 := ih (i + 1) (by omega)
      refine fun _ => ⟨fun y => absurd y (by omega), fun _ => ⟨⟨by omega, by omega⟩, fun _ => ⟨fun y => ?_, fun y => ?_⟩⟩⟩
      · rw [gCn_n (Q := fun i => gTt tg i = -1) y] at i2
        exact i2
      · rw [gCn_y (Q := fun i => gTt tg i = -1) y] at i2
        exact i2
  exact fun _ => key tg.length 0 (by omega)
theorem c_GLvalue (hl : gOk l G) (hN : 1 ≤ Nr) (h : gLC X M c n Rg v b w w1 T er nw lt ed S ch cl) (hz : gFr X M) {x y s : Int} (gx : g32 x) (gy : g32 y) (gs : g32 s) (k0 : ¬ (gIs x y ∧ 0 ≤ s ∧ s ≤ 1) → K (.threw (G.2.2.1 + (X.1 + 1))) (gNw X (19, 0)) M) (k1 : gIs x y ∧ 0 ≤ s ∧ s ≤ 1 → K (.returned (some (gL (if s = 0 then (gEw (T nw) w ((x + 26 * y).toNat : Int)).kd else (gEw (T nw) w ((x + 26 * y).toNat : Int)).nm)))) X M) :
    gCt l G y_GL_value (gRr 699 Nr) false [gR G c, gI x, gI y, gI s] X M K := by
  obtain ⟨t1, t2, t3, t4, t5⟩ := h.2.2.2.2.2.2.2.2.2.1
  have st := h.2.2.2.1 nw t1 t2
  have hI := h.2.2.2.2.2.1
  refine eu_GL_value (d := 691) (u_GL_value_0 h.1 gx gy gs ?_)
  by_cases hIs : gIs x y
  · have hp : (x + 26 * y).toNat < 5200 := by unfold gIs at hIs; omega
    have hp2 : 0 ≤ x + 26 * y ∧ x + 26 * y < 5200 := by unfold gIs at hIs; omega
    have at1 := hI.2.2.2.2.2.2.2.1 _ hp
    have al := (gAt_b st.2.1 hp).1
    have va := (hI.2.2.2.2.2.2.2.2.1 (gAt (T nw) (x + 26 * y).toNat) (by omega)).1
    rw [gEw_nat] at k1
    refine Or.inr (c_cell1 (d := 689) hl hIs ⟨fun e => Or.inr (c_need1 (d := 690) hl (c_GL_place hIs ⟨hp2, ?_⟩)), fun e => ⟨fun e1 => Or.inl (c_need0 (d := 690) hl hN hz (k0 (fun q => by omega))), fun e1 => Or.inr (c_need1 (d := 690) hl (c_GL_place hIs ⟨hp2, ?_⟩))⟩⟩)
    · rw [at1, Int.toNat_natCast, hI.1.1]
      refine fun _ => ⟨fun e2 => absurd e e2, fun _ => ⟨hI.1.2, ⟨by omega, by omega⟩, fun _ => ?_⟩⟩
      rw [va.1]
      have := k1 ⟨hIs, by omega, by omega⟩
      rw [if_pos e] at this
      exact this
    · rw [at1, Int.toNat_natCast, hI.1.1]
      refine fun _ => ⟨fun _ => ⟨hI.1.2, ⟨by omega, by omega⟩, fun _ => ?_⟩, fun e2 => absurd e2 e⟩
      rw [va.2.1]
      have := k1 ⟨hIs, by omega, by omega⟩
      rw [if_neg e] at this
      exact this
  · exact Or.inl (c_cell0 (d := 689) hl hN hz gx gy hIs (k0 (fun q => hIs q.1)))
theorem c_GLletter (hl : gOk l G) (hN : 1 ≤ Nr) (h : gLC X M c n Rg v b w w1 T er nw lt ed S ch cl) (hz : gFr X M) {x y s : Int} (gx : g32 x) (gy : g32 y) (gs : g32 s) (k0 : ¬ gIs x y → K (.threw (G.2.2.1 + (X.1 + 1))) (gNw X (19, 0)) M) (k2 : gIs x y → ¬ ((gEw (T nw) w ((x + 26 * y).toNat : Int)).kd = 2 ∧ 0 ≤ s ∧ s < (gEw (T nw) w ((x + 26 * y).toNat : Int)).tx.length) → K (.threw (G.2.2.1 + (X.1 + 1))) (gNw X (21, 0)) M) (k1 : gIs x y → ((gEw (T nw) w ((x + 26 * y).toNat : Int)).kd = 2 ∧ 0 ≤ s ∧ s < (gEw (T nw) w ((x + 26 * y).toNat : Int)).tx.length) → K (.returned (some (gI ((gEw (T nw) w ((x + 26 * y).toNat : Int)).tx.getD s.toNat 0)))) X M) :
    gCt l G y_GL_letter (gRr 699 Nr) false [gR G c, gI x, gI y, gI s] X M K := by
  obtain ⟨t1, t2, t3, t4, t5⟩ := h.2.2.2.2.2.2.2.2.2.1
  have st := h.2.2.2.1 nw t1 t2
  have hI := h.2.2.2.2.2.1
  refine eu_GL_letter (d := 691) (u_GL_letter_0 h.1 gx gy gs hl ?_)
  by_cases hIs : gIs x y
  · have hp : (x + 26 * y).toNat < 5200 := by unfold gIs at hIs; omega
    have hp2 : 0 ≤ x + 26 * y ∧ x + 26 * y < 5200 := by unfold gIs at hIs; omega
    have at1 := hI.2.2.2.2.2.2.2.1 _ hp
    have al := (gAt_b st.2.1 hp).1
    obtain ⟨va, vp⟩ := hI.2.2.2.2.2.2.2.2.1 (gAt (T nw) (x + 26 * y).toNat) (by omega)
    rw [gEw_nat] at k1 k2
    obtain ⟨v1, v2, v3⟩ := va
    generalize w (gAt (T nw) (x + 26 * y).toNat) = u at k1 k2 v1 v2 v3 vp
    have no : ¬ (u.kd = 2 ∧ 0 ≤ s ∧ s < u.tx.length) → (1 ≤ Nr ∧ K (.threw (G.2.2.1 + (X.1 + 1))) (gNw X (21, 0)) (gZr M (X.1 + 1))) := fun y => ⟨hN, by rw [gZr_id hz]; exact k2 hIs y⟩
    refine Or.inr (c_cell1 (d := 689) hl hIs ?_)
    rw [hI.1.1]
    refine ⟨hI.1.2, c_GL_place hIs ⟨hp2, ?_⟩⟩
    rw [at1, Int.toNat_natCast, v1, v2]
    refine fun _ => ⟨⟨by omega, by omega⟩, fun _ => ⟨fun e => no (fun q => e q.1), fun e => ⟨fun e2 => no (fun q => by omega), fun e2 => ⟨⟨by omega, by omega⟩, fun _ => ⟨fun e3 => ?_, fun e3 => no (fun q => ?_)⟩⟩⟩⟩⟩
    · obtain ⟨q1, q2⟩ := vp.1.2.2.2.1 e
      refine ⟨⟨by omega, by omega⟩, ⟨by omega, by omega⟩, fun _ => ?_⟩
      have := gBy_at v3 (j := s.toNat) (by omega)
      rw [Nat.zero_add] at this
      rw [this]
      exact k1 hIs ⟨e, by omega, by omega⟩
    · obtain ⟨q1, q2⟩ := vp.1.2.2.2.1 e
      omega
  · exact Or.inl (c_cell0 (d := 689) hl hN hz gx gy hIs (k0 hIs))
theorem c_GLcontent (hl : gOk l G) (hN : 1 ≤ Nr) (h : gLC X M c n Rg v b w w1 T er nw lt ed S ch cl) (hz : gFr X M) {x y s : Int} (gx : g32 x) (gy : g32 y) (gs : g32 s) (k0 : ¬ (gIs x y ∧ 0 ≤ s ∧ s ≤ 2) → K (.threw (G.2.2.1 + (X.1 + 1))) (gNw X (19, 0)) M) (k1 : gIs x y → 0 ≤ s → s ≤ 2 → K (.returned (some (gI (gQcon (T nw) (x + 26 * y).toNat s)))) X M) :
    gCt l G y_GL_content (gRr 699 Nr) false [gR G c, gI x, gI y, gI s] X M K := by
  obtain ⟨t1, t2, t3, t4, t5⟩ := h.2.2.2.2.2.2.2.2.2.1
  have st := h.2.2.2.1 nw t1 t2
  have hI := h.2.2.2.2.2.1
  have hR := h.2.1
  have e8 : X.2.2 (c + 23) (nw % 41) = Rg (nw % 41) := hR.1 _ (by omega)
  have sR := (hR.2.2.1 (nw % 41) (by omega)).1
  refine eu_GL_content (d := 691) (u_GL_content_0 h.1 gx gy gs ?_)
  by_cases hIs : gIs x y
  · have hp : (x + 26 * y).toNat < 5200 := by unfold gIs at hIs; omega
    have hp2 : 0 ≤ x + 26 * y ∧ x + 26 * y < 5200 := by unfold gIs at hIs; omega
    have at1 := hI.2.2.2.2.2.2.2.1 _ hp
    obtain ⟨al, a4, ae⟩ := gAt_b st.2.1 hp
    refine Or.inr (c_cell1 (d := 689) hl hIs ⟨fun e => Or.inl (c_need0 (d := 690) hl hN hz (k0 (fun q => by omega))), fun e => ⟨fun e1 => Or.inl (c_need0 (d := 690) hl hN hz (k0 (fun q => by omega))), fun e1 => Or.inr (c_need1 (d := 690) hl (c_GL_place hIs ⟨hp2, ?_⟩))⟩⟩)
    have kk := k1 hIs (by omega) (by omega)
    rw [at1, Int.toNat_natCast, h.2.2.1.1, Int.toNat_natCast, e8]
    cases eF : T nw (x + 26 * y).toNat with
    | none =>
      have q : gAt (T nw) (x + 26 * y).toNat = 400 := a4.mpr (fun z => z eF)
      refine fun _ => ⟨fun z => absurd (by omega) z, fun _ => ?_⟩
      rw [gQcon_n eF] at kk
      exact kk
    | some yy =>
      obtain ⟨S', tg⟩ := yy
      have ne : gnE (T nw) (x + 26 * y).toNat := gnE_s eF
      have q := ae ne
      have lt4 := gCn_lt (Q := gnE (T nw)) hp ne
      have l4 := st.2.1
      obtain ⟨b1, ⟨id, b2, b3⟩, b4⟩ := st.2.2.2.2 _ hp S' tg eF
      rw [gQcon_s eF] at kk
      rw [q, b2, Int.toNat_natCast, b3.2.1]
      refine fun _ => ⟨fun _ => ⟨fun z => ?_, fun z => ?_, fun z => ?_⟩, fun z => absurd z (by omega)⟩
      · have i5 := b3.1.1
        refine fun _ => ⟨⟨by omega, by omega⟩, sR, ⟨by omega, by omega⟩, fun _ => ⟨⟨by omega, by omega⟩, fun _ => ?_⟩⟩
        rw [if_pos z] at kk
        exact kk
      · refine fun _ => ⟨⟨by omega, by omega⟩, sR, c_St_refs sR st hp eF ?_⟩
        rw [if_neg (by omega), if_pos z] at kk
        exact kk
      · refine fun _ => ⟨⟨by omega, by omega⟩, sR, c_St_gone sR st hp eF ?_⟩
        rw [if_neg z.1, if_neg z.2] at kk
        exact kk
  · exact Or.inl (c_cell0 (d := 689) hl hN hz gx gy hIs (k0 (fun q => hIs q.1)))
theorem c_GLreference (hl : gOk l G) (hN : 1 ≤ Nr) (h : gLC X M c n Rg v b w w1 T er nw lt ed S ch cl) (hz : gFr X M) {x y s : Int} (gx : g32 x) (gy : g32 y) (gs : g32 s) (k0 : ¬ gIs x y → K (.threw (G.2.2.1 + (X.1 + 1))) (gNw X (19, 0)) M) (k2 : gIs x y → (∀ S' tg, T nw (x + 26 * y).toNat = some (S', tg) → ¬ (0 ≤ s ∧ s < tg.length)) → K (.threw (G.2.2.1 + (X.1 + 1))) (gNw X (21, 0)) M) (k1 : gIs x y → ∀ S' tg, T nw (x + 26 * y).toNat = some (S', tg) → 0 ≤ s → s < tg.length → K (.returned (some (gI (gTt tg s.toNat)))) X M) :
    gCt l G y_GL_reference (gRr 699 Nr) false [gR G c, gI x, gI y, gI s] X M K := by
  obtain ⟨t1, t2, t3, t4, t5⟩ := h.2.2.2.2.2.2.2.2.2.1
  have st := h.2.2.2.1 nw t1 t2
  have hI := h.2.2.2.2.2.1
  have hR := h.2.1
  have e8 : X.2.2 (c + 23) (nw % 41) = Rg (nw % 41) := hR.1 _ (by omega)
  have sR := (hR.2.2.1 (nw % 41) (by omega)).1
  refine eu_GL_reference (d := 691) (u_GL_reference_0 h.1 gx gy gs hl ?_)
  by_cases hIs : gIs x y
  · have hp : (x + 26 * y).toNat < 5200 := by unfold gIs at hIs; omega
    have hp2 : 0 ≤ x + 26 * y ∧ x + 26 * y < 5200 := by unfold gIs at hIs; omega
    have at1 := hI.2.2.2.2.2.2.2.1 _ hp
    obtain ⟨al, a4, ae⟩ := gAt_b st.2.1 hp
    have no : (∀ S' tg, T nw (x + 26 * y).toNat = some (S', tg) → ¬ (0 ≤ s ∧ s < tg.length)) → (1 ≤ Nr ∧ K (.threw (G.2.2.1 + (X.1 + 1))) (gNw X (21, 0)) (gZr M (X.1 + 1))) := fun y => ⟨hN, by rw [gZr_id hz]; exact k2 hIs y⟩
    refine Or.inr (c_cell1 (d := 689) hl hIs (c_GL_place hIs ⟨hp2, ?_⟩))
    rw [at1, h.2.2.1.1, Int.toNat_natCast, e8]
    cases eF : T nw (x + 26 * y).toNat with
    | none =>
      have q : gAt (T nw) (x + 26 * y).toNat = 400 := a4.mpr (fun z => z eF)
      exact fun _ => ⟨fun _ => no (fun S' tg e => by rw [eF] at e; exact nomatch e), fun z => absurd (by omega) z⟩
    | some yy =>
      obtain ⟨S', tg⟩ := yy
      have ne : gnE (T nw) (x + 26 * y).toNat := gnE_s eF
      have q := ae ne
      have lt4 := gCn_lt (Q := gnE (T nw)) hp ne
      have l4 := st.2.1
      obtain ⟨b1, ⟨id, b2, b3⟩, b4⟩ := st.2.2.2.2 _ hp S' tg eF
      have sle := gSp_le (F := T nw) (show (x + 26 * y).toNat + 1 ≤ 5200 from hp)
      rw [gSp_s eF] at sle
      have s2 := st.2.2.1
      have no2 : ¬ (0 ≤ s ∧ s < tg.length) → (1 ≤ Nr ∧ K (.threw (G.2.2.1 + (X.1 + 1))) (gNw X (21, 0)) (gZr M (X.1 + 1))) := fun z => no (fun S2 tg2 e => by rw [eF] at e; cases e; exact z)
      rw [q]
      refine fun _ => ⟨fun z => absurd z (by omega), fun _ => ⟨fun z => no2 (by omega), fun z _ => ⟨⟨by omega, by omega⟩, sR, c_St_refs sR st hp eF ⟨fun z2 => ?_, fun z2 => no2 (by omega)⟩⟩⟩⟩
      rw [h.2.2.1.1, Int.toNat_natCast, e8, Int.toNat_natCast, st.2.2.2.1 _ (show (x + 26 * y).toNat ≤ 5200 by omega), show ((gSp (T nw) (x + 26 * y).toNat : Int) + s).toNat = gSp (T nw) (x + 26 * y).toNat + s.toNat by omega, b4 s.toNat (by omega)]
      refine fun _ => ⟨⟨by omega, by omega⟩, sR, fun _ => ⟨⟨by omega, by omega⟩, sR, ⟨by omega, by omega⟩, fun _ => ⟨⟨by omega, by omega⟩, fun _ => ?_⟩⟩⟩
      exact k1 hIs S' tg eF (by omega) z2
  · exact Or.inl (c_cell0 (d := 689) hl hN hz gx gy hIs (k0 hIs))
end ggQ
