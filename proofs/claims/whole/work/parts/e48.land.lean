/-! The class: a state is shown; the draft lands. -/
def gShV (F : gSht) (V0 V : Int → gVl) (ch : Nat) (cl : Nat → Int) : Prop := gFxp F V ∧ (∃ rk, gRnk F rk) ∧ (∀ p : Nat, p < 5200 → gvP (V (p : Int))) ∧ ch = gCn (gQch V0 V) 5200 ∧ ∀ p, p < 5200 → gQch V0 V p → cl (gCn (gQch V0 V) p) = (p : Int)
noncomputable def gTn (T : Nat → gSht) (nw : Nat) (F : gSht) : Nat → gSht := fun t => if t = nw + 1 then F else T t
def gEr (er nw : Nat) : Nat := if nw + 1 ≤ er + 40 then er else nw - 39
def gSwp (Rg : Nat → Nat) (m : Nat) : Nat → Nat := fun i => if i = m then Rg 41 else if i = 41 then Rg m else Rg i
section ggL
variable {l : Launch} {G : gG} {d Nr : Nat} {X X' : gX} {M M' : gM} {c o n : Nat} {Rg : Nat → Nat} {v b : Nat} {w w1 : Nat → gVl} {T : Nat → gSht} {er nw lt ed : Nat} {S : List Int} {ch : Nat} {cl : Nat → Int} {V : Int → gVl} {F F0 F2 : gSht} {r : Nat} {Q : gQ} {K : Outcome → gX → gM → Prop}
theorem gsX.xr (h : gsX X r) (s : gSm c X X') (k : ∀ j, X'.2.2 r j = X.2.2 r j) : gsX X' r := ⟨h.1, by rw [s.1]; exact h.2.1, by rw [s.2.1]; exact h.2.2.1, fun q hq => by rw [k, s.2.1, s.1]; exact h.2.2.2 q hq⟩
theorem gEw_z {p : Nat} (h : ¬ gnE F p) (h0 : w 400 = (0, 0, [])) : gEw F w (p : Int) = (0, 0, []) := by
  rw [gEw_nat]
  unfold gAt
  rw [if_neg h]
  exact h0
theorem gEw_v (h : gvT M v w) (hn : gCn (gnE F) 5200 ≤ 400) {p : Nat} (hp : p < 5200) : gvP (gEw F w (p : Int)) := by
  rw [gEw_nat]
  refine (h _ ?_).2
  unfold gAt
  have := gCn_le (Q := gnE F) (show p ≤ 5200 by omega)
  split <;> omega
theorem c_fol (hO : gOld G Q) (hX : glX X c) (hR : gRgX X c Rg) (hc : gCnr M c er nw lt ed) (hs : ∀ t, er ≤ t → t ≤ lt → gcSt M c (Rg (t % 41)) (T t)) (hz : ∀ i, i < 42 → M (Rg i + 3) 0 = 0) {i0 : Nat} (hi0 : i0 < 42) (hI : gRsI X M c (Rg i0) v b F0 w w1) (hF0 : gSok F0) (hst0 : gcSt M c (Rg i0) F0) (hct : gCtn M c n S.length) (hin : gInI M c 1 (c + 1) S) (htl : gTl T er nw lt n) (hed : ed ≤ n)
    (hk : ∀ X' M' w' ch' cl', gSm c X X' → gOff (gCR c) M M' → gLC X' M' c n Rg b v w' w T er nw lt ed S ch' cl' → gShV (T nw) (gEw F0 w) (gEw (T nw) w') ch' cl' → K (.returned (some (gI (ch' : Int)))) X' M') :
    cXI l G y_Rs_follow (gRr (d + 9 + 1) 0) true [gR G (c + 234), gR G (Rg (nw % 41))] X M (fun v2 X2 M2 => glX X2 c ∧ K (.returned (some (gI v2))) X2 M2) := by
  have c1 := hX.1
  obtain ⟨t1, t2, t3, t4, t5⟩ := htl
  have st := hs nw t1 t2
  have rb : ∀ i, i < 42 → c + 23 < Rg i ∧ Rg i + 4 < c + 234 := fun i hi => (hR.2.2.1 i hi).2
  have m42 : nw % 41 < 42 := by omega
  have pb := hI.2.2.2.2.1
  have w40 := hI.2.2.2.2.2.2.2.2.2.2.1
  refine c_Rs_follow hX hO (hR.2.2.1 _ m42).1 (rb _ m42) hI hF0 (t5 nw t1 t2) hst0 st (fun X' M' w' sm g' xr oF I' rk e7 e236 => ?_)
  have q1 : ∀ a j, a < c + 234 → M' a j = M a j := fun a j ha => oF _ _ (by unfold gFwR gFlR gxF2 gxF gAb; omega)
  have oC : gOff (gCR c) M M' := oF.mono (fun a j h => by unfold gFwR gFlR gxF2 gxF gAb at h; unfold gCR; omega)
  have w40' := I'.2.2.2.2.2.2.2.2.2.2.1
  have l8 : gCn (gQch (gEw F0 w) (gEw (T nw) w')) 5200 ≤ 800 := by
    have a1 := gCn_or (Q := gQch (gEw F0 w) (gEw (T nw) w')) (Q0 := gnE F0) (Q1 := gnE (T nw)) (fun p hq => Classical.byContradiction fun y => hq (by rw [gEw_z (fun z => y (Or.inl z)) w40, gEw_z (fun z => y (Or.inr z)) w40'])) 5200
    have a2 := hst0.2.1
    have a3 := st.2.1
    omega
  refine ⟨g', hk X' M' w' (gCn (gQch (gEw F0 w) (gEw (T nw) w')) 5200) (fun i => M' (c + 236) i) sm oC ⟨g', ⟨fun i hi => (xr _ _ (by omega) (by omega) (by omega)).trans (hR.1 i hi), (xr _ _ (by omega) (by omega) (by omega)).trans hR.2.1, fun i hi => ⟨(hR.2.2.1 i hi).1.xr sm (fun j => xr _ _ (by have := rb i hi; omega) (by have := rb i hi; omega) (by have := rb i hi; omega)), rb i hi⟩, hR.2.2.2⟩, ⟨?_, ?_, ?_, ?_⟩, fun t h1 h2 => ?_, fun i hi => (q1 _ _ (by have := rb i hi; omega)).trans (hz i hi), I', hct.kp (fun a j h1 h2 => q1 _ _ (by omega)), ⟨(q1 _ _ (by omega)).trans hin.1, fun j hj => (q1 _ _ (by omega)).trans (hin.2.1 j hj), hin.2.2⟩, ⟨e7, l8, fun i _ => rfl⟩, ⟨t1, t2, t3, t4, t5⟩, hed⟩ ⟨I'.2.2.2.2.2.2.2.2.2.2.2.2.1, rk, fun p hp => gEw_v I'.2.2.2.2.2.2.2.2.1 st.2.1 hp, rfl, e236⟩⟩
  · exact (q1 _ _ (by omega)).trans hc.1
  · exact (q1 _ _ (by omega)).trans hc.2.1
  · exact (q1 _ _ (by omega)).trans hc.2.2.1
  · exact (q1 _ _ (by omega)).trans hc.2.2.2
  · have := rb (t % 41) (by omega)
    exact (hs t h1 h2).kp (t5 t h1 h2) (fun a j h1 h2 => q1 _ _ (by omega)) (fun a j h1 => q1 _ _ (by omega))
/-- the draft lands, and is shown -/
theorem c_lf (hl : gOk l G) (hO : gOld G Q) (h : gLC X M c n Rg v b w w1 T er nw lt ed S ch cl) (hn : n < 1000) (hnw : nw + 1 ≤ n) (hed1 : ed + 1 ≤ n) (hF2 : gSok F2) (hst : gcSt M c (Rg 41) F2)
    (hk : ∀ X' M' Rg' w' ch' cl', gSm c X X' → gOff (gCR c) M M' → gLC X' M' c n Rg' b v w' w (gTn T nw F2) (gEr er nw) (nw + 1) (nw + 1) (ed + 1) S ch' cl' → gShV F2 (gEw (T nw) w) (gEw F2 w') ch' cl' → K (.returned (some (gI (ch' : Int)))) X' M') :
    cX l G y_GL_land (gRm (d + 10)) true [gR G c, gI 1] X M (fun X43 M42 => glX X43 c ∧ (g32 (M42 c 8) → (((0 : Int) ≤ M42 c 8 ∧ M42 c 8 < 41) ∧ gsX X43 (X43.2.2 (c + 23) (Int.toNat (M42 c 8))) ∧ (cXI l G y_Rs_follow (gRm (d + 10)) true [gR G (c + 234), gR G (X43.2.2 (c + 23) (Int.toNat (M42 c 8)))] X43 M42 (fun v49 X51 M48 => glX X51 c ∧ (K (.returned (some (gI v49))) X51 M48)))))) := by
  obtain ⟨hX, hR, hc, hs, hz, hI, hct, hin, hch, ⟨t1, t2, t3, t4, t5⟩, hed⟩ := h
  have c1 := hX.1
  obtain ⟨m, em⟩ : ∃ m, m = (nw + 1) % 41 := ⟨_, rfl⟩
  have m41 : m < 41 := by omega
  have rb : ∀ i, i < 42 → c + 23 < Rg i ∧ Rg i + 4 < c + 234 := fun i hi => (hR.2.2.1 i hi).2
  have e0 : w32 (((nw % 41 : Nat) : Int) + 1) = ((nw % 41 + 1 : Nat) : Int) := (w32_id ⟨by omega, by omega⟩).trans (by omega)
  have e1 : w32 ((((nw % 41 + 1 : Nat) : Int)).tmod 41) = (m : Int) := by
    rw [Int.tmod_eq_emod_of_nonneg (by omega), show (((nw % 41 + 1 : Nat) : Int)) % 41 = (m : Int) by omega]
    exact w32_id ⟨by omega, by omega⟩
  refine eu_GL_land (d := d + 2) (Nr := 0) (u_GL_land_0 hX ⟨by decide, by decide⟩ hl ⟨fun _ _ => ?_, fun h => absurd h (by decide)⟩)
  rw [hc.1, e0, e1, gUp_eq, Int.toNat_natCast, hR.1 m m41, hR.2.1]
  intro _
  have sm := (hR.2.2.1 m (by omega)).1
  have s41 := (hR.2.2.1 41 (by omega)).1
  have bm := rb m (by omega)
  have b41 := rb 41 (by omega)
  refine ⟨⟨by omega, by omega⟩, sm, fun _ => ⟨s41, ⟨by omega, by omega⟩, fun X7 e7 => ?_⟩⟩
  subst e7
  have g1 : glX (gGu X (c + 23) m (Rg 41)) c := hX.gu (i := 23) (k := m) (Rg 41) (fun q hq y => by
    have : q.1 ≠ 23 := (show ∀ q ∈ glTab, q.1 ≠ 23 by decide +kernel) q hq
    exact this y.1) ⟨by decide, by decide⟩
  refine ⟨g1, sm.grow (gGw.gu X (c + 23) m (Rg 41)) (by omega), fun X11 e11 => ?_⟩
  subst e11
  have g2 : glX (gGu (gGu X (c + 23) m (Rg 41)) c 7 (Rg m)) c := g1.gu (i := 0) (k := 7) (Rg m) (by decide) ⟨by decide, by decide⟩
  refine ⟨g2, fun _ => ?_⟩
  rw [gUp_k (by decide), hc.2.1]
  refine c_min ⟨by omega, by omega⟩ (g32_c rfl) ?_
  have e9 : min (((nw - er : Nat) : Int) + 1) 40 = ((nw + 1 - gEr er nw : Nat) : Int) := by
    unfold gEr
    split <;> omega
  rw [e9]
  intro _
  have x11 : gUp (gUp (gUp M c 8 (m : Int)) c 9 ((nw + 1 - gEr er nw : Nat) : Int)) c 10 0 c 11 = (ed : Int) := by
    rw [gUp_k (by decide), gUp_k (by decide), gUp_k (by decide)]
    exact hc.2.2.2
  rw [x11, w32_id (x := (ed : Int) + 1) ⟨by omega, by omega⟩, show (ed : Int) + 1 = ((ed + 1 : Nat) : Int) by omega]
  have y8 : gUp (gUp (gUp (gUp M c 8 (m : Int)) c 9 ((nw + 1 - gEr er nw : Nat) : Int)) c 10 0) c 11 ((ed + 1 : Nat) : Int) c 8 = (m : Int) := by rw [gUp_k (by decide), gUp_k (by decide), gUp_k (by decide), gUp_eq]
  have y9 : gUp (gUp (gUp (gUp M c 8 (m : Int)) c 9 ((nw + 1 - gEr er nw : Nat) : Int)) c 10 0) c 11 ((ed + 1 : Nat) : Int) c 9 = ((nw + 1 - gEr er nw : Nat) : Int) := by rw [gUp_k (by decide), gUp_k (by decide), gUp_eq]
  have y10 : gUp (gUp (gUp (gUp M c 8 (m : Int)) c 9 ((nw + 1 - gEr er nw : Nat) : Int)) c 10 0) c 11 ((ed + 1 : Nat) : Int) c 10 = 0 := by rw [gUp_k (by decide), gUp_eq]
  have y11 : gUp (gUp (gUp (gUp M c 8 (m : Int)) c 9 ((nw + 1 - gEr er nw : Nat) : Int)) c 10 0) c 11 ((ed + 1 : Nat) : Int) c 11 = ((ed + 1 : Nat) : Int) := gUp_eq _ _ _ _
  have y1 : gUp (gUp (gUp (gUp M c 8 (m : Int)) c 9 ((nw + 1 - gEr er nw : Nat) : Int)) c 10 0) c 11 ((ed + 1 : Nat) : Int) c 1 = M c 1 := by rw [gUp_k (by decide), gUp_k (by decide), gUp_k (by decide), gUp_k (by decide)]
  have ya : ∀ a j, a ≠ c → gUp (gUp (gUp (gUp M c 8 (m : Int)) c 9 ((nw + 1 - gEr er nw : Nat) : Int)) c 10 0) c 11 ((ed + 1 : Nat) : Int) a j = M a j := fun a j ha => by rw [gUp_a ha, gUp_a ha, gUp_a ha, gUp_a ha]
  generalize gUp (gUp (gUp (gUp M c 8 (m : Int)) c 9 ((nw + 1 - gEr er nw : Nat) : Int)) c 10 0) c 11 ((ed + 1 : Nat) : Int) = N at y8 y9 y10 y11 y1 ya ⊢
  have xs : gSm c X (gGu (gGu X (c + 23) m (Rg 41)) c 7 (Rg m)) := ((gSm.rf c X).gu (a := c + 23) m (Rg 41) (by omega)).gu (a := c) 7 (Rg m) (by omega)
  have x23 : (gGu (gGu X (c + 23) m (Rg 41)) c 7 (Rg m)).2.2 (c + 23) m = Rg 41 := (gGu_o _ _ (by omega)).trans (gGu_k _ _ _ _)
  have x23o : ∀ i, i ≠ m → (gGu (gGu X (c + 23) m (Rg 41)) c 7 (Rg m)).2.2 (c + 23) i = X.2.2 (c + 23) i := fun i hi => (gGu_o _ _ (by omega)).trans (gGu_o _ _ (by omega))
  have x7 : (gGu (gGu X (c + 23) m (Rg 41)) c 7 (Rg m)).2.2 c 7 = Rg m := gGu_k _ _ _ _
  have xo : ∀ a j, a ≠ c → a ≠ c + 23 → (gGu (gGu X (c + 23) m (Rg 41)) c 7 (Rg m)).2.2 a j = X.2.2 a j := fun a j h1 h2 => (gGu_o _ _ (by omega)).trans (gGu_o _ _ (by omega))
  generalize gGu (gGu X (c + 23) m (Rg 41)) c 7 (Rg m) = Y at g2 xs x23 x23o x7 xo ⊢
  refine ⟨rfl, g2, fun _ => ?_⟩
  rw [y8, Int.toNat_natCast, x23]
  -- the ring behind it
  have pm : gSwp Rg m m = Rg 41 := if_pos rfl
  have p41 : gSwp Rg m 41 = Rg m := by unfold gSwp; rw [if_neg (by omega), if_pos rfl]
  have po : ∀ i, i ≠ m → i ≠ 41 → gSwp Rg m i = Rg i := fun i h1 h2 => by unfold gSwp; rw [if_neg h1, if_neg h2]
  have inv : ∀ i, i < 42 → ∃ j, j < 42 ∧ gSwp Rg m i = Rg j ∧ j = (if i = m then 41 else if i = 41 then m else i) := fun i hi => by
    unfold gSwp
    split
    · exact ⟨41, by omega, rfl, rfl⟩
    · split
      · exact ⟨m, by omega, rfl, rfl⟩
      · exact ⟨i, hi, rfl, rfl⟩
  have hR2 : gRgX Y c (gSwp Rg m) := by
    refine ⟨fun i hi => ?_, x7.trans p41.symm, fun i hi => ?_, fun i j hi hj hij => ?_⟩
    · by_cases e : i = m
      · rw [e, pm]; exact x23
      · rw [po i e (by omega), x23o i e]; exact hR.1 i hi
    · obtain ⟨j, hj, e, _⟩ := inv i hi
      rw [e]
      have := rb j hj
      exact ⟨(hR.2.2.1 j hj).1.xr xs (fun k => xo _ _ (by omega) (by omega)), rb j hj⟩
    · obtain ⟨i2, hi2, e2, f2⟩ := inv i hi
      obtain ⟨j2, hj2, e3, f3⟩ := inv j hj
      rw [e2, e3]
      refine hR.2.2.2 i2 j2 hi2 hj2 (fun q => hij ?_)
      rw [f2, f3] at q
      clear f2 f3 e2 e3
      by_cases a1 : i = m
      · rw [if_pos a1] at q
        by_cases b1 : j = m
        · omega
        · rw [if_neg b1] at q
          by_cases b2 : j = 41
          · rw [if_pos b2] at q; omega
          · rw [if_neg b2] at q; omega
      · rw [if_neg a1] at q
        by_cases a2 : i = 41
        · rw [if_pos a2] at q
          by_cases b1 : j = m
          · rw [if_pos b1] at q; omega
          · rw [if_neg b1] at q
            by_cases b2 : j = 41
            · omega
            · rw [if_neg b2] at q; omega
        · rw [if_neg a2] at q
          by_cases b1 : j = m
          · rw [if_pos b1] at q; omega
          · rw [if_neg b1] at q
            by_cases b2 : j = 41
            · rw [if_pos b2] at q; omega
            · rw [if_neg b2] at q; omega
  have i0 : gSwp Rg m (nw % 41) = Rg (nw % 41) := po _ (by omega) (by omega)
  have ge : gEr er nw ≤ nw + 1 ∧ nw + 1 ≤ gEr er nw + 40 ∧ er ≤ gEr er nw := by
    unfold gEr
    split <;> omega
  have tn : gTn T nw F2 (nw + 1) = F2 := if_pos rfl
  have to : ∀ t, t ≠ nw + 1 → gTn T nw F2 t = T t := fun t ht => if_neg ht
  refine ⟨⟨by omega, by omega⟩, s41.xr xs (fun k => xo _ _ (by omega) (by omega)), ?_⟩
  have I2 : gRsI Y N c (gSwp Rg m (nw % 41)) v b (T nw) w w1 := by
    rw [i0]
    obtain ⟨a1, a2, a3, a4, a5, a6, a7, a8, a9, a10, a11, a12, a13, a14, a15, a16⟩ := hI
    have tv : ∀ {z : Nat} {u : Nat → gVl}, c + 236 < z ∧ z + 404 < c + 1047 → gvT M z u → gvT N z u := fun {z u} hz t => t.off (A := fun a _ => a = c) (fun a j y => ya a j y) (fun a j y q => by omega)
    have vx : ∀ {z : Nat}, c + 236 < z ∧ z + 404 < c + 1047 → gvX X z 401 → gvX Y z 401 := fun {z} hz y => by
      obtain ⟨h1, h2, h3, h4, h5, h6, h7, h8⟩ := y
      refine ⟨h1, by rw [xs.1]; exact h2, by rw [xs.2.1]; exact h3, h4, ?_, ?_, ?_, fun i hi => ?_⟩
      · rw [xo _ _ (by omega) (by omega), xs.2.1]; exact h5
      · rw [xo _ _ (by omega) (by omega), xs.2.1]; exact h6
      · rw [xo _ _ (by omega) (by omega), xs.2.1]; exact h7
      · rw [xo _ _ (by omega) (by omega), xs.2.1]; exact h8 i hi
    exact ⟨⟨(xo _ _ (by omega) (by omega)).trans a1.1, vx a4 a1.2⟩, ⟨(xo _ _ (by omega) (by omega)).trans a2.1, vx a5 a2.2⟩, ⟨(xo _ _ (by omega) (by omega)).trans a3.1, a3.2.xr xs (fun k => xo _ _ (by omega) (by omega))⟩, a4, a5, a6, a7, fun p hp => (ya _ _ (by omega)).trans (a8 p hp), tv a4 a9, tv a5 a10, a11, a12, a13, ⟨fun a ha j hj => by rw [ya _ _ (by omega)]; exact a14.1 a ha j hj, fun j hj => by rw [ya _ _ (by omega)]; exact a14.2 j hj⟩, (ya _ _ (by omega)).trans a15, fun e he => (ya _ _ (by omega)).trans (a16 e he)⟩
  have stk : ∀ {z : Nat} {F : gSht}, c + 23 < z → gSok F → gcSt M c z F → gcSt N c z F := fun {z F} hz hF y => y.kp hF (fun a j h1 h2 => ya _ _ (by omega)) (fun a j h1 => ya _ _ (by omega))
  have fol := c_fol (l := l) (G := G) (d := d) (X := Y) (M := N) (n := n) (Rg := gSwp Rg m) (T := gTn T nw F2) (er := gEr er nw) (nw := nw + 1) (lt := nw + 1) (ed := ed + 1) (S := S) (F0 := T nw) (i0 := nw % 41) (v := v) (b := b) (w := w) (w1 := w1) (K := K) hO g2 hR2 ⟨by rw [y8, em], by rw [y9], by rw [y10]; omega, y11⟩ (fun t h1 h2 => ?_) (fun i hi => ?_) (by omega) I2 (t5 nw t1 t2) (by rw [i0]; exact stk (rb _ (by omega)).1 (t5 nw t1 t2) (hs nw t1 t2)) ?_ ⟨y1.trans hin.1, fun j hj => (ya _ _ (by omega)).trans (hin.2.1 j hj), hin.2.2⟩ ⟨by omega, Nat.le_refl _, by omega, by omega, fun t h1 h2 => ?_⟩ (by omega) (fun X2 M2 w' ch' cl' s2 o2 L2 sh2 => ?_)
  · rw [← em, pm] at fol
    exact fol
  · by_cases e : t = nw + 1
    · rw [e, tn, ← em, pm]
      exact stk b41.1 hF2 hst
    · rw [to t e, po _ (by omega) (by omega)]
      exact stk (rb _ (by omega)).1 (t5 t (by omega) (by omega)) (hs t (by omega) (by omega))
  · obtain ⟨j, hj, e, _⟩ := inv i hi
    rw [e, ya _ _ (by have := rb j hj; omega)]
    exact hz j hj
  · exact hct.kp (M' := N) (fun a j h1 h2 => ya _ _ (by omega))
  · by_cases e : t = nw + 1
    · rw [e, tn]; exact hF2
    · rw [to t e]; exact t5 t (by omega) (by omega)
  · rw [tn] at sh2
    exact hk X2 M2 _ w' ch' cl' (xs.tr s2) ((show gOff (gCR c) M N from fun a j y => ya a j (fun z => y (by unfold gCR; omega))).tr o2) L2 sh2
theorem c_land0 (hl : gOk l G) (hN : 1 ≤ Nr) (hX : glX X c) (hz : gFr X M) (h : K (.threw (G.2.2.1 + (X.1 + 1))) (gNw X (20, 0)) M) : cT l G y_GL_land (gRr (d + 8) Nr) true [gR G c, gI 0] X M K :=
  eu_GL_land (u_GL_land_0 hX ⟨by decide, by decide⟩ hl ⟨fun e => absurd rfl e, fun _ => ⟨hN, ⟨_, rfl⟩, by rw [gZr_id hz]; exact h⟩⟩)
end ggL
