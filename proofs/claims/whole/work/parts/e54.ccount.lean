/-! The class's count. -/
noncomputable def gQct (S : List Int) (er nw lt ed ch : Nat) (F : gSht) (V : Int → gVl) (x : Int) : Int := if x = 0 then (S.length : Int) else if x = 1 then (ch : Int) else if x = 2 then ((nw - er : Nat) : Int) else if x = 3 then ((lt - nw : Nat) : Int) else if x = 4 then (gCn (gnE F) 5200 : Int) else if x = 5 then (gCn (gFo F) 5200 : Int) else if x = 6 then (gCn (gCy F V) 5200 : Int) else if x = 7 then (ed : Int) else -1
section ggR
variable {l : Launch} {G : gG} {d Nr : Nat} {X X' : gX} {M M' N : gM} {c o n : Nat} {Rg : Nat → Nat} {v b : Nat} {w w1 : Nat → gVl} {T : Nat → gSht} {er nw lt ed : Nat} {S : List Int} {ch : Nat} {cl : Nat → Int} {F F0 F2 : gSht} {r : Nat} {Q : gQ} {k : Int → gM → Prop}
theorem gFo_nE {p : Nat} (h : gFo F p) : gnE F p := by
  obtain ⟨S, tg, e, _⟩ := h
  exact gnE_s e
theorem gCn_fin {Q Q2 : Nat → Prop} (hq : ∀ p, Q2 p → Q p) {p : Nat} (hp : p ≤ 5200) (h : gCn Q p = gCn Q 5200) : gCn Q2 5200 = gCn Q2 p := gCn_gp hp (fun q h1 h2 y => by
  have a1 := gCn_lt (Q := Q) h2 (hq q y)
  have a2 := gCn_le (Q := Q) h1
  omega)
theorem c_GL_formulas (h : gLC X M c n Rg v b w w1 T er nw lt ed S ch cl) (hk : k (gCn (gFo (T nw)) 5200 : Int) M) : cI l G y_GL_formulas (gRm d) false [gR G c] X M k := by
  obtain ⟨t1, t2, t3, t4, t5⟩ := h.2.2.2.2.2.2.2.2.2.1
  have st := h.2.2.2.1 nw t1 t2
  have hR := h.2.1
  have e8 : X.2.2 (c + 23) (nw % 41) = Rg (nw % 41) := hR.1 _ (by omega)
  have hring : ∀ i : Nat, i < 41 → gsX X (X.2.2 (c + 23) i) := fun i hi => by rw [hR.1 i hi]; exact (hR.2.2.1 i (by omega)).1
  have l4 := st.2.1
  have key : ∀ (u q p : Nat), q + u = gCn (gnE (T nw)) 5200 → p ≤ 5200 → gCn (gnE (T nw)) p = q → wp l G y_GL_formulas (gRm d) false (kkI X k) false 4 [.val (gR G c), .val (gI (gCn (gFo (T nw)) p : Int)), .val (gI (q : Int))] [] X M 0 0 := by
    intro u
    induction u with
    | zero =>
      intro q p hq hp hc
      have cb := gCn_bd (Q := gFo (T nw)) p
      refine w_GL_formulas_4 h.1 ⟨by omega, by omega⟩ ⟨by omega, by omega⟩ hring ?_
      rw [h.2.2.1.1, Int.toNat_natCast, e8, st.1]
      refine fun _ => ⟨⟨by omega, by omega⟩, fun _ => ⟨fun _ => ?_, fun y => absurd (by omega) y⟩⟩
      rw [← gCn_fin (Q := gnE (T nw)) (fun p => gFo_nE) hp (by omega)]
      exact hk
    | succ u ih =>
      intro q p hq hp hc
      have cb := gCn_bd (Q := gFo (T nw)) p
      obtain ⟨p', p1, p2, p3, p4, p5, p6⟩ := gNxt (Q := gnE (T nw)) hp
      have p7 : p' < 5200 := p5.mpr (by omega)
      have ne := p4 p7
      cases eF : T nw p' with
      | none => exact absurd eF ne
      | some yy =>
        obtain ⟨S', tg⟩ := yy
        obtain ⟨b1, ⟨id, b2, b3⟩, b4⟩ := st.2.2.2.2 _ p7 S' tg eF
        rw [p6, hc] at b2
        have i5 := b3.1.1
        have f6 : gCn (gFo (T nw)) p' = gCn (gFo (T nw)) p := gCn_gp p1 (fun z h1 h2 y => p3 z h1 h2 (gFo_nE y))
        have i2 := ih (q + 1) (p' + 1) (by omega) (by omega) (by rw [gCn_y ne]; omega)
        refine w_GL_formulas_4 h.1 ⟨by omega, by omega⟩ ⟨by omega, by omega⟩ hring ?_
        rw [h.2.2.1.1, Int.toNat_natCast, e8, st.1, Int.toNat_natCast, b2, Int.toNat_natCast, b3.2.1, w32_id (x := (q : Int) + 1) ⟨by omega, by omega⟩, show (q : Int) + 1 = ((q + 1 : Nat) : Int) by omega, w32_id (x := (gCn (gFo (T nw)) p : Int) + 1) ⟨by omega, by omega⟩]
        refine fun _ => ⟨⟨by omega, by omega⟩, fun _ => ⟨fun y => absurd y (by omega), fun _ _ => ⟨⟨by omega, by omega⟩, ⟨by omega, by omega⟩, fun _ => ⟨⟨by omega, by omega⟩, fun _ => ⟨fun y => ?_, fun y => ?_⟩⟩⟩⟩⟩
        · rw [gCn_n (Q := gFo (T nw)) (fun ⟨S2, tg2, e2, y2⟩ => by rw [eF] at e2; cases e2; exact y y2), f6] at i2
          exact i2
        · rw [gCn_y (Q := gFo (T nw)) ⟨S', tg, eF, y⟩, f6] at i2
          exact i2
  exact e_GL_formulas (w_GL_formulas_0 h.1 (key _ 0 0 (Nat.zero_add _) (by decide) rfl))
theorem c_Rs_cycles (h : gLC X M c n Rg v b w w1 T er nw lt ed S ch cl) (hk : k (gCn (gCy (T nw) (gEw (T nw) w)) 5200 : Int) M) : cI l G y_Rs_cycles (gRm d) false [gR G (c + 234), gI (gCn (gnE (T nw)) 5200 : Int)] X M k := by
  obtain ⟨t1, t2, t3, t4, t5⟩ := h.2.2.2.2.2.2.2.2.2.1
  have st := h.2.2.2.1 nw t1 t2
  have hI := h.2.2.2.2.2.1
  have hfx := hI.2.2.2.2.2.2.2.2.2.2.2.2.1
  have hF := t5 nw t1 t2
  have l4 := st.2.1
  have cyE : ∀ p, gCy (T nw) (gEw (T nw) w) p → gnE (T nw) p := fun p y => gFo_nE y.1
  have key : ∀ (u q p : Nat), q + u = gCn (gnE (T nw)) 5200 → p ≤ 5200 → gCn (gnE (T nw)) p = q → wp l G y_Rs_cycles (gRm d) false (kkI X k) false 4 [.val (gR G (c + 234)), .val (gI (gCn (gnE (T nw)) 5200 : Int)), .val (gI (gCn (gCy (T nw) (gEw (T nw) w)) p : Int)), .val (gI (q : Int))] [] X M 0 0 := by
    intro u
    induction u with
    | zero =>
      intro q p hq hp hc
      have cb := gCn_bd (Q := gCy (T nw) (gEw (T nw) w)) p
      refine w_Rs_cycles_4 h.1 ⟨by omega, by omega⟩ ⟨by omega, by omega⟩ ⟨by omega, by omega⟩ hI.1 ⟨fun _ => ?_, fun y => absurd (by omega) y⟩
      rw [← gCn_fin (Q := gnE (T nw)) cyE hp (by omega)]
      exact hk
    | succ u ih =>
      intro q p hq hp hc
      have cb := gCn_bd (Q := gCy (T nw) (gEw (T nw) w)) p
      obtain ⟨p', p1, p2, p3, p4, p5, p6⟩ := gNxt (Q := gnE (T nw)) hp
      have p7 : p' < 5200 := p5.mpr (by omega)
      have ne := p4 p7
      have ea : gAt (T nw) p' = q := ((gAt_b l4 p7).2.2 ne).trans (by omega)
      have ev : gEw (T nw) w (p' : Int) = w q := by rw [gEw_nat, ea]
      have va := (hI.2.2.2.2.2.2.2.2.1 q (by omega)).1
      have f6 : gCn (gCy (T nw) (gEw (T nw) w)) p' = gCn (gCy (T nw) (gEw (T nw) w)) p := gCn_gp p1 (fun z h1 h2 y => p3 z h1 h2 (cyE z y))
      have i2 := ih (q + 1) (p' + 1) (by omega) (by omega) (by rw [gCn_y ne]; omega)
      have cy : gCy (T nw) (gEw (T nw) w) p' ↔ ((w q).kd = 4 ∧ (w q).nm = 8) := by
        unfold gCy
        rw [ev]
        refine ⟨fun y => y.2, fun y => ⟨?_, y⟩⟩
        cases eF : T nw p' with
        | none => exact absurd eF ne
        | some yy =>
          obtain ⟨S', tg⟩ := yy
          refine ⟨S', tg, eF, Classical.byContradiction fun n3 => ?_⟩
          have nf := hfx.nf hF p7 eF n3
          rw [ev] at nf
          rcases gSrt_c S' with z | z | z
          · obtain ⟨u2, _, e2⟩ := nf.1 z
            rw [e2] at y
            exact absurd y.1 (show ¬ (1 : Int) = 4 by decide)
          · rw [nf.2 z] at y
            exact absurd y.1 (show ¬ (2 : Int) = 4 by decide)
          · exact n3 z
      refine w_Rs_cycles_4 h.1 ⟨by omega, by omega⟩ ⟨by omega, by omega⟩ ⟨by omega, by omega⟩ hI.1 ?_
      rw [Int.toNat_natCast, va.1, va.2.1, w32_id (x := (q : Int) + 1) ⟨by omega, by omega⟩, show (q : Int) + 1 = ((q + 1 : Nat) : Int) by omega, w32_id (x := (gCn (gCy (T nw) (gEw (T nw) w)) p : Int) + 1) ⟨by omega, by omega⟩]
      refine ⟨fun y => absurd y (by omega), fun _ => ⟨⟨by omega, by omega⟩, fun _ => ⟨fun y => ?_, fun y => ⟨⟨by omega, by omega⟩, fun _ => ⟨fun z => ?_, fun z => ?_⟩⟩⟩⟩⟩
      · rw [gCn_n (Q := gCy (T nw) (gEw (T nw) w)) (fun z => y (cy.mp z).1), f6] at i2
        exact i2
      · rw [gCn_n (Q := gCy (T nw) (gEw (T nw) w)) (fun z2 => z (cy.mp z2).2), f6] at i2
        exact i2
      · rw [gCn_y (Q := gCy (T nw) (gEw (T nw) w)) (cy.mpr ⟨y, z⟩), f6] at i2
        exact i2
  exact e_Rs_cycles (w_Rs_cycles_0 h.1 ⟨by omega, by omega⟩ (key _ 0 0 (Nat.zero_add _) (by decide) rfl))
theorem c_GLcount (h : gLC X M c n Rg v b w w1 T er nw lt ed S ch cl) {x : Int} (gx : g32 x) (hk : k (gQct S er nw lt ed ch (T nw) (gEw (T nw) w) x) M) : cI l G y_GL_count (gRm (d + 1)) false [gR G c, gI x] X M k := by
  obtain ⟨t1, t2, t3, t4, t5⟩ := h.2.2.2.2.2.2.2.2.2.1
  have st := h.2.2.2.1 nw t1 t2
  have hR := h.2.1
  have e8 : X.2.2 (c + 23) (nw % 41) = Rg (nw % 41) := hR.1 _ (by omega)
  have hring : ∀ i : Nat, i < 41 → gsX X (X.2.2 (c + 23) i) := fun i hi => by rw [hR.1 i hi]; exact (hR.2.2.1 i (by omega)).1
  unfold gQct at hk
  refine e_GL_count (w_GL_count_0 h.1 gx hring ?_)
  rw [h.2.2.2.2.2.2.2.1.1, h.2.2.2.2.2.2.2.2.1.1, h.2.2.1.2.1, h.2.2.1.2.2.1, h.2.2.1.1, Int.toNat_natCast, e8, st.1, h.2.2.1.2.2.2]
  refine ⟨fun e => ?_, fun e => ?_, fun e => ?_, fun e => ?_, fun e => ?_, fun e => ?_, fun e => ?_, fun e => ?_, fun e => ?_⟩
  · rw [if_pos e] at hk; exact fun _ => hk
  · rw [if_neg (by omega), if_pos e] at hk; exact fun _ => hk
  · rw [if_neg (by omega), if_neg (by omega), if_pos e] at hk; exact fun _ => hk
  · rw [if_neg (by omega), if_neg (by omega), if_neg (by omega), if_pos e] at hk; exact fun _ => hk
  · rw [if_neg (by omega), if_neg (by omega), if_neg (by omega), if_neg (by omega), if_pos e] at hk
    exact fun _ => ⟨⟨by omega, by omega⟩, fun _ => hk⟩
  · rw [if_neg (by omega), if_neg (by omega), if_neg (by omega), if_neg (by omega), if_neg (by omega), if_pos e] at hk
    exact c_GL_formulas h hk
  · rw [if_neg (by omega), if_neg (by omega), if_neg (by omega), if_neg (by omega), if_neg (by omega), if_neg (by omega), if_pos e] at hk
    exact fun _ => ⟨⟨by omega, by omega⟩, fun _ => c_Rs_cycles h hk⟩
  · rw [if_neg (by omega), if_neg (by omega), if_neg (by omega), if_neg (by omega), if_neg (by omega), if_neg (by omega), if_neg (by omega), if_pos e] at hk; exact fun _ => hk
  · rw [if_neg (by omega), if_neg (by omega), if_neg (by omega), if_neg (by omega), if_neg (by omega), if_neg (by omega), if_neg (by omega), if_neg (by omega)] at hk; exact hk
end ggR
