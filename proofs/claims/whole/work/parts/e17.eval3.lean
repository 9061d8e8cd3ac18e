/-! The reference's evaluate: cycles, rounds, the end. -/
noncomputable def gEc (F : gSht) (V : Int → gVl) (D : Nat → Prop) : Int → gVl := fun q => @ite gVl (gFo F q.toNat ∧ ¬ D q.toNat) (Classical.propDecidable _) (0, 0, []) (V q)
def gI7 (M0 M : gM) (o s : Nat) (F : gSht) (V : Int → gVl) (D : Nat → Prop) (n : Nat) : Prop := gOff (gEvR o) M0 M ∧ (∀ q : Nat, q < 5200 → gmRw M o q (gEc F V D q)) ∧ (∀ q : Nat, q < 5200 → gFo F q → M (o + 40) (gCn (gFo F) q) = (q : Int)) ∧ M o 66 = (n : Int) ∧ M o 51 = (s : Int) ∧ M o 65 = 0 ∧ (∀ i j, i < n → j < 448 → (gRdM M o 44 i j ↔ gRI F i j))
def gDn (M : gM) (o n : Nat) (F : gSht) (D : Nat → Prop) : Prop := (∀ i, i < n → M (o + 43) i = 0 ∨ M (o + 43) i = 1) ∧ ∀ p, p < 5200 → gFo F p → (M (o + 43) (gCn (gFo F) p) = 1 ↔ D p)
/-- a formula in a cycle -/
def gCy (F : gSht) (V : Int → gVl) (p : Nat) : Prop := gFo F p ∧ (V p).kd = 4 ∧ (V p).nm = 8
theorem gvP0 : gvP (0, 0, []) := ⟨⟨by decide, by decide, g64_c rfl, fun y => absurd y (by decide), fun _ => rfl, fun _ => rfl, fun y => absurd y (by decide), fun y => absurd y (by decide), fun b hb => absurd hb (List.not_mem_nil)⟩, by decide⟩
section geU
variable {l : Launch} {G : gG} {d : Nat} {X : gX} {M0 : gM} {o s n : Nat} {F : gSht} {V : Int → gVl} {Q : gQ}
theorem gEc_nat {D : Nat → Prop} (p : Nat) : gEc F V D (p : Int) = @ite gVl (gFo F p ∧ ¬ D p) (Classical.propDecidable _) (0, 0, []) (V p) := by
  unfold gEc
  rw [Int.toNat_natCast]
theorem gI7.env {M : gM} {D : Nat → Prop} (h : gI7 M0 M o s F V D n) (hV : ∀ p : Nat, p < 5200 → gvP (V p)) : gmEnv M o (gEc F V D) := fun p hp => by
  refine ⟨?_, h.2.1 p hp⟩
  rw [gEc_nat]
  split
  · exact gvP0
  · exact hV p hp
theorem gmRw_len {M : gM} {p : Nat} {v : gVl} (hv : gvP v) : v.tx.length ≤ 64 := by
  by_cases k : v.kd = 2
  · exact (hv.1.2.2.2.1 k).2
  · rw [hv.1.2.2.2.2.1 k]; exact Nat.zero_le _
theorem r_ev383 {k : gM → Prop} (hX : gmX X o) (hF : gSok F) (hV : gFxp F V) (en : n = gCn (gFo F) 5200) (hn2 : n ≤ 400) (hk : ∀ M, gI7 M0 M o s F V (gCyc F) n → gDn M o n F (gCyc F) → wp l G y_GM_evaluate (gRm (d + 1)) true (kkV X k) true 449 [.val (gR G o), .unset, .val (gI 1), .unset, .unset] [] X M 0 0) : ∀ (m x : Nat) (M : gM), x + m = n → gI7 M0 M o s F V (fun q => gCyc F q ∧ gCn (gFo F) q < x) n → (∀ i j, i < n → j < 448 → (gRdM M o 42 i j ↔ gWp (gRI F) n i j)) → (∀ i, i < x → (M (o + 43) i = 0 ∨ M (o + 43) i = 1) ∧ ∀ p, p < 5200 → gFo F p → gCn (gFo F) p = i → (M (o + 43) i = 1 ↔ gCyc F p)) → wp l G y_GM_evaluate (gRm (d + 1)) true (kkV X k) true 383 [.val (gR G o), .unset, .val (gI (x : Int)), .unset, .unset] [] X M 0 0 := by
  intro m
  induction m with
  | zero =>
    intro x M hx h hb hd
    obtain ⟨o0, hq, h40, h66, h51, h65, h44⟩ := id h
    refine w_GM_evaluate_383 hX ⟨by omega, by omega⟩ fun _ => ?_
    rw [h66]
    refine ⟨fun _ => hk M ⟨o0, fun q hq2 => ?_, h40, h66, h51, h65, h44⟩ ⟨fun i hi => (hd i (by omega)).1, fun p hp fo => (hd _ (by have := gCn_lt (Q := gFo F) hp fo; omega)).2 p hp fo rfl⟩, fun z => absurd (by omega) z⟩
    have := hq q hq2
    rw [gEc_nat] at this ⊢
    have e : (gFo F q ∧ ¬ (gCyc F q ∧ gCn (gFo F) q < x)) ↔ (gFo F q ∧ ¬ gCyc F q) := ⟨fun y => ⟨y.1, fun z => y.2 ⟨z, by have := gCn_lt (Q := gFo F) hq2 y.1; omega⟩⟩, fun y => ⟨y.1, fun z => y.2 z.1⟩⟩
    by_cases c : gFo F q ∧ ¬ gCyc F q
    · rw [if_pos c]; rw [if_pos (e.mpr c)] at this; exact this
    · rw [if_neg c]; rw [if_neg (fun z => c (e.mp z))] at this; exact this
  | succ m ih =>
    intro x M hx h hb hd
    obtain ⟨o0, hq, h40, h66, h51, h65, h44⟩ := id h
    obtain ⟨p, p1, p2, p3⟩ := gCn_ex (Q := gFo F) 5200 x (by omega)
    have e40 : M (o + 40) x = (p : Int) := by rw [← p3]; exact h40 p p1 p2
    have cyc : gRdM M o 42 x x ↔ gCyc F p := by
      rw [hb x x (by omega) (by omega), en, gWp_iff (fun i j h => gRI_lt h), ← p3]
      exact gRI_cyc hF p2
    have nx : w32 ((x : Int) + 1) = ((x + 1 : Nat) : Int) := (w32_id ⟨by omega, by omega⟩).trans (by omega)
    have rowp : gmRw M o p (0, 0, []) := by
      have := hq p p1
      rw [gEc_nat, if_pos ⟨p2, fun y => by have := y.2; omega⟩] at this
      exact this
    -- other places' rows
    have oth : ∀ q, q < 5200 → q ≠ p → (gEc F V (fun q => gCyc F q ∧ gCn (gFo F) q < x + 1) q = gEc F V (fun q => gCyc F q ∧ gCn (gFo F) q < x) q) := fun q hq2 ne => by
      rw [gEc_nat, gEc_nat]
      have e : (gFo F q ∧ ¬ (gCyc F q ∧ gCn (gFo F) q < x + 1)) ↔ (gFo F q ∧ ¬ (gCyc F q ∧ gCn (gFo F) q < x)) := ⟨fun y => ⟨y.1, fun z => y.2 ⟨z.1, by have := z.2; omega⟩⟩, fun y => ⟨y.1, fun z => y.2 ⟨z.1, by
        have ne2 : gCn (gFo F) q ≠ x := fun w => ne (gCn_inj y.1 p2 (by omega))
        have := z.2
        omega⟩⟩⟩
      by_cases c : gFo F q ∧ ¬ (gCyc F q ∧ gCn (gFo F) q < x)
      · rw [if_pos c, if_pos (e.mpr c)]
      · rw [if_neg c, if_neg (fun z => c (e.mp z))]
    have hd2 : ∀ (M3 : gM) (v : Int), (v = 0 ∨ v = 1) → (v = 1 ↔ gCyc F p) → (∀ i, M3 (o + 43) i = gUp M (o + 43) x v (o + 43) i) → ∀ i, i < x + 1 → (M3 (o + 43) i = 0 ∨ M3 (o + 43) i = 1) ∧ ∀ p, p < 5200 → gFo F p → gCn (gFo F) p = i → (M3 (o + 43) i = 1 ↔ gCyc F p) := by
      intro M3 v hv hv2 h3 i hi
      rw [h3]
      by_cases e : i = x
      · rw [e, gUp_eq]
        refine ⟨hv, fun p' a1 a2 a3 => ?_⟩
        have : p' = p := gCn_inj a2 p2 (by omega)
        rw [this]
        exact hv2
      · rw [gUp_k e]
        exact hd i (by omega)
    refine w_GM_evaluate_383 hX ⟨by omega, by omega⟩ fun _ => ?_
    rw [h66]
    refine ⟨fun z => absurd z (by omega), fun _ => r_reaches hX (by omega) (by omega) (fun hr => ?_) (fun hr => ?_)⟩
    · have hc := cyc.mp hr
      simp (disch := decide) only [gUp_oo, gUp_eq, Int.toNat_natCast, e40, nx]
      refine ⟨⟨by omega, by omega⟩, ⟨by omega, by omega⟩, fun _ => ⟨fun _ => ⟨⟨by omega, by omega⟩, fun _ => ⟨⟨by omega, by omega⟩, ⟨by omega, by omega⟩, fun _ => ⟨⟨by omega, by omega⟩, ?_⟩⟩⟩, fun y => absurd y (by decide)⟩⟩
      have k1 : ∀ a j, a ≠ 43 → (a ≠ 26 ∧ a ≠ 30 ∨ j ≠ p) → gUp (gUp (gUp M (o + 43) x 1) (o + 26) p 4) (o + 30) p 8 (o + a) j = M (o + a) j := fun a j h1 h2 => by
        unfold gUp
        rw [if_neg (by omega), if_neg (by omega), if_neg (by omega)]
      have ko : ∀ j, gUp (gUp (gUp M (o + 43) x 1) (o + 26) p 4) (o + 30) p 8 o j = M o j := fun j => by rw [gUp_a (by omega), gUp_a (by omega), gUp_a (by omega)]
      refine ih (x + 1) _ (by omega) ⟨?_, fun q hq2 => ?_, fun q hq2 fo => ?_, ?_, ?_, ?_, fun i j hi hj => ?_⟩ (fun i j hi hj => ?_) (hd2 _ 1 (Or.inr rfl) ⟨fun _ => hc, fun _ => rfl⟩ (fun i => by rw [gUp_a (by omega), gUp_a (by omega)]))
      · refine ((o0.up ?_).up ?_).up ?_ <;> unfold gEvR <;> omega
      · by_cases e : q = p
        · rw [e, gEc_nat, if_neg (fun y => y.2 ⟨hc, by omega⟩)]
          obtain ⟨S, tg, eF, _⟩ := id p2
          have v := (hV p p1).2 S tg eF
          rw [if_pos hc] at v
          rw [v]
          refine ⟨?_, ?_, ?_, rfl⟩
          · rw [gUp_a (by omega), gUp_eq]; rfl
          · rw [k1 27 _ (by decide) (Or.inl (by decide))]; exact rowp.2.1
          · rw [gUp_eq]; rfl
        · rw [oth q hq2 e]
          obtain ⟨b1, b2, b3, b4⟩ := hq q hq2
          refine ⟨?_, ?_, ?_, ?_⟩
          · rw [k1 26 _ (by decide) (Or.inr e)]; exact b1
          · rw [k1 27 _ (by decide) (Or.inr e)]; exact b2
          · rw [k1 30 _ (by decide) (Or.inr e)]; exact b3
          · refine Eq.trans (gBy_congr _ _ _ (fun j hj => k1 32 _ (by decide) (Or.inl (by decide)))) b4
      · rw [k1 40 _ (by decide) (Or.inl (by decide))]; exact h40 q hq2 fo
      · rw [ko]; exact h66
      · rw [ko]; exact h51
      · rw [ko]; exact h65
      · have : gRdM (gUp (gUp (gUp M (o + 43) x 1) (o + 26) p 4) (o + 30) p 8) o 44 i j ↔ gRdM M o 44 i j := by
          unfold gRdM
          rw [k1 44 _ (by decide) (Or.inl (by decide))]
        rw [this]
        exact h44 i j hi hj
      · have : gRdM (gUp (gUp (gUp M (o + 43) x 1) (o + 26) p 4) (o + 30) p 8) o 42 i j ↔ gRdM M o 42 i j := by
          unfold gRdM
          rw [k1 42 _ (by decide) (Or.inl (by decide))]
        rw [this]
        exact hb i j hi hj
    · have hc : ¬ gCyc F p := fun y => hr (cyc.mpr y)
      simp (disch := decide) only [gUp_oo, gUp_eq, Int.toNat_natCast, e40, nx]
      refine ⟨⟨by omega, by omega⟩, ⟨by omega, by omega⟩, fun _ => ⟨fun y => absurd trivial y, fun _ => ?_⟩⟩
      have k1 : ∀ a j, a ≠ 43 → gUp M (o + 43) x 0 (o + a) j = M (o + a) j := fun a j h1 => gUp_a (by omega)
      have ko : ∀ j, gUp M (o + 43) x 0 o j = M o j := fun j => gUp_a (by omega)
      refine ih (x + 1) _ (by omega) ⟨?_, fun q hq2 => ?_, fun q hq2 fo => ?_, ?_, ?_, ?_, fun i j hi hj => ?_⟩ (fun i j hi hj => ?_) (hd2 _ 0 (Or.inl rfl) ⟨fun y => absurd y (by decide), fun y => absurd y hc⟩ (fun i => rfl))
      · exact o0.up (by unfold gEvR; omega)
      · have e1 : gEc F V (fun q => gCyc F q ∧ gCn (gFo F) q < x + 1) q = gEc F V (fun q => gCyc F q ∧ gCn (gFo F) q < x) q := by
          by_cases e : q = p
          · rw [e, gEc_nat, gEc_nat, if_pos ⟨p2, fun y => hc y.1⟩, if_pos ⟨p2, fun y => hc y.1⟩]
          · exact oth q hq2 e
        rw [e1]
        obtain ⟨b1, b2, b3, b4⟩ := hq q hq2
        refine ⟨?_, ?_, ?_, ?_⟩
        · rw [k1 26 _ (by decide)]; exact b1
        · rw [k1 27 _ (by decide)]; exact b2
        · rw [k1 30 _ (by decide)]; exact b3
        · refine Eq.trans (gBy_congr _ _ _ (fun j hj => k1 32 _ (by decide))) b4
      · rw [k1 40 _ (by decide)]; exact h40 q hq2 fo
      · rw [ko]; exact h66
      · rw [ko]; exact h51
      · rw [ko]; exact h65
      · have : gRdM (gUp M (o + 43) x 0) o 44 i j ↔ gRdM M o 44 i j := by
          unfold gRdM
          rw [k1 44 _ (by decide)]
        rw [this]
        exact h44 i j hi hj
      · have : gRdM (gUp M (o + 43) x 0) o 42 i j ↔ gRdM M o 42 i j := by
          unfold gRdM
          rw [k1 42 _ (by decide)]
        rw [this]
        exact hb i j hi hj
theorem r_ready {M : gM} {i : Nat} {k : Int → gM → Prop} (hX : gmX X o) (hi : i < 400) (hn : n ≤ 400) (h66 : M o 66 = (n : Int)) (hd : ∀ j, j < n → M (o + 43) j = 0 ∨ M (o + 43) j = 1) (h1 : (∀ j, j < n → M (o + 43) j = 1 ∨ ¬ gRdM M o 44 i j) → k 1 M) (h0 : (∃ j, j < n ∧ M (o + 43) j = 0 ∧ gRdM M o 44 i j) → k 0 M) : cZ l G y_GM_ready (gRm d) false [gR G o, gI (i : Int)] X M k := by
  have gi : g32 (i : Int) := ⟨by omega, by omega⟩
  have key : ∀ (m x : Nat), x + m = n → (∀ j, j < x → M (o + 43) j = 1 ∨ ¬ gRdM M o 44 i j) → wp l G y_GM_ready (gRm d) false (kkZ X k) false 2 [.val (gR G o), .val (gI (i : Int)), .val (gI (x : Int))] [] X M 0 0 := by
    intro m
    induction m with
    | zero =>
      intro x hx h
      refine w_GM_ready_2 hX gi ⟨by omega, by omega⟩ fun _ => ?_
      rw [h66]
      exact ⟨fun _ => h1 (fun j hj => h j (by omega)), fun z => absurd (by omega) z⟩
    | succ m ih =>
      intro x hx h
      have nx : w32 ((x : Int) + 1) = ((x + 1 : Nat) : Int) := (w32_id ⟨by omega, by omega⟩).trans (by omega)
      have go : (M (o + 43) x = 1 ∨ ¬ gRdM M o 44 i x) → wp l G y_GM_ready (gRm d) false (kkZ X k) false 2 [.val (gR G o), .val (gI (i : Int)), .val (gI ((x + 1 : Nat) : Int))] [] X M 0 0 := fun y => ih (x + 1) (by omega) (fun j hj => by
        by_cases e : j = x
        · rw [e]; exact y
        · exact h j (by omega))
      refine w_GM_ready_2 hX gi ⟨by omega, by omega⟩ fun _ => ?_
      rw [h66, nx, Int.toNat_natCast, gShr_6 (by omega), gAnd_63 (by omega), show (7 * (i : Int) + ((x / 64 : Nat) : Int)).toNat = 7 * i + x / 64 by omega, gBt_ushr (Nat.mod_lt _ (by decide))]
      have dx := hd x (by omega)
      refine ⟨fun z => absurd z (by omega), fun _ => ⟨⟨by omega, by omega⟩, fun _ => ⟨fun z => go (Or.inl (by omega)), fun z => ⟨⟨by omega, by omega⟩, fun _ => ⟨fun z2 => go (Or.inr (fun y => z2 ?_)), fun z2 => h0 ⟨x, by omega, z, ?_⟩⟩⟩⟩⟩⟩
      · unfold gRdM at y
        rw [if_pos y]
      · unfold gRdM
        refine Classical.byContradiction fun y => ?_
        rw [if_neg y] at z2
        exact absurd z2 (by decide)
  exact e_GM_ready (w_GM_ready_0 hX gi (key n 0 (by omega) (fun j hj => absurd hj (Nat.not_lt_zero _))))
def gUnd (M : gM) (o : Nat) : Nat → Nat := fun i => if M (o + 43) i = 1 then 0 else 1
theorem r_ev449 {k : gM → Prop} {rk : Nat → Nat} (hX : gmX X o) (hO : gOld G Q) (hst : gmSt M0 o s F) (hF : gSok F) (hV : gFxp F V) (hVp : ∀ p : Nat, p < 5200 → gvP (V p)) (hrk : gRnk F rk) (en : n = gCn (gFo F) 5200) (hn2 : n ≤ 400) (hk : ∀ M, gI7 M0 M o s F V (fun _ => True) n → wp l G y_GM_evaluate (gRm (d + 111)) true (kkV X k) true 515 [.val (gR G o), .unset, .unset, .val (gI 0), .unset] [] X M 0 0) : ∀ (u : Nat) (M : gM) (D : Nat → Prop), gI7 M0 M o s F V D n → gDn M o n F D → (∀ p, gCyc F p → D p) → gSu (gUnd M o) n ≤ u → wp l G y_GM_evaluate (gRm (d + 111)) true (kkV X k) true 449 [.val (gR G o), .unset, .val (gI 1), .unset, .unset] [] X M 0 0 := by
  have fin : ∀ (M : gM) (D : Nat → Prop), gI7 M0 M o s F V D n → (∀ p, gCyc F p → D p) → (∀ p, p < 5200 → gFo F p → D p ∨ ∃ q, gEdg F p q ∧ gFo F q ∧ ¬ D q) → wp l G y_GM_evaluate (gRm (d + 111)) true (kkV X k) true 449 [.val (gR G o), .unset, .val (gI 0), .unset, .unset] [] X M 0 0 := by
    intro M D h hc hr
    have all : ∀ (m p : Nat), rk p ≤ m → p < 5200 → gFo F p → D p := by
      intro m
      induction m with
      | zero =>
        intro p hm hp fo
        rcases hr p hp fo with z | ⟨q, q1, q2, q3⟩
        · exact z
        · refine Classical.byContradiction fun y => ?_
          have := hrk p q (fun z => y (hc p z)) q1
          omega
      | succ m ih =>
        intro p hm hp fo
        rcases hr p hp fo with z | ⟨q, q1, q2, q3⟩
        · exact z
        · refine Classical.byContradiction fun y => ?_
          have := hrk p q (fun z => y (hc p z)) q1
          obtain ⟨S, tg, e, _⟩ := id q2
          exact q3 (ih q (by omega) (hF q S tg e).1 q2)
    refine w_GM_evaluate_449 hX (g32_c rfl) ⟨fun _ => hk M ⟨h.1, fun q hq => ?_, h.2.2⟩, fun y => absurd rfl y⟩
    have := h.2.1 q hq
    rw [gEc_nat] at this ⊢
    rw [if_neg (fun y => y.2 trivial)]
    rw [if_neg (fun y => y.2 (all (rk q) q (Nat.le_refl _) hq y.1))] at this
    exact this
  intro u
  induction u with
  | zero =>
    intro M D h hd hc hu
    -- nothing is undone
    have dn : ∀ p, p < 5200 → gFo F p → D p := fun p hp fo => by
      refine (hd.2 p hp fo).mp (Decidable.byContradiction fun y => ?_)
      have := gSu_lt (f := fun _ => 0) (g := gUnd M o) (x := gCn (gFo F) p) n (fun _ _ => Nat.zero_le _) (by rw [en]; exact gCn_lt hp fo) (by unfold gUnd; rw [if_neg y]; decide)
      omega
    have h66 := h.2.2.2.1
    have l457 : ∀ (m i : Nat), i + m = n → wp l G y_GM_evaluate (gRm (d + 111)) true (kkV X k) true 457 [.val (gR G o), .unset, .val (gI 0), .val (gI (i : Int)), .unset] [] X M 0 0 := by
      intro m
      induction m with
      | zero =>
        intro i hi
        refine w_GM_evaluate_457 hX (g32_c rfl) ⟨by omega, by omega⟩ fun _ => ?_
        rw [h66]
        exact ⟨fun _ => fin M D h hc (fun p hp fo => Or.inl (dn p hp fo)), fun z => absurd (by omega) z⟩
      | succ m ih =>
        intro i hi
        obtain ⟨p, p1, p2, p3⟩ := gCn_ex (Q := gFo F) 5200 i (by omega)
        have d1 : M (o + 43) i = 1 := by rw [← p3]; exact (hd.2 p p1 p2).mpr (dn p p1 p2)
        refine w_GM_evaluate_457 hX (g32_c rfl) ⟨by omega, by omega⟩ fun _ => ?_
        rw [h66, Int.toNat_natCast, d1, w32_id (x := (i : Int) + 1) ⟨by omega, by omega⟩, show (i : Int) + 1 = ((i + 1 : Nat) : Int) by omega]
        exact ⟨fun z => absurd z (by omega), fun _ => ⟨⟨by omega, by omega⟩, fun _ => ⟨fun _ => ih (i + 1) (by omega), fun z => absurd z (by decide)⟩⟩⟩
    exact w_GM_evaluate_449 hX (g32_c rfl) ⟨fun y => absurd y (by decide), fun _ => l457 n 0 (by omega)⟩
  | succ u ihu =>
    intro M D h hd hc hu
    have l457 : ∀ (m i : Nat) (M : gM) (D : Nat → Prop) (fl : Int), i + m = n → gI7 M0 M o s F V D n → gDn M o n F D → (∀ p, gCyc F p → D p) → (fl = 0 ∨ fl = 1) → (fl = 0 → ∀ p, p < 5200 → gFo F p → gCn (gFo F) p < i → D p ∨ ∃ q, gEdg F p q ∧ gFo F q ∧ ¬ D q) → gSu (gUnd M o) n ≤ u + 1 → (fl = 1 → gSu (gUnd M o) n ≤ u) → wp l G y_GM_evaluate (gRm (d + 111)) true (kkV X k) true 457 [.val (gR G o), .unset, .val (gI fl), .val (gI (i : Int)), .unset] [] X M 0 0 := by
      intro m
      induction m with
      | zero =>
        intro i M D fl hi h hd hc hfl hr hu hu1
        have h66 := h.2.2.2.1
        refine w_GM_evaluate_457 hX (by rcases hfl with e | e <;> rw [e] <;> exact g32_c rfl) ⟨by omega, by omega⟩ fun _ => ?_
        rw [h66]
        refine ⟨fun _ => ?_, fun z => absurd (by omega) z⟩
        rcases hfl with e | e
        · rw [e]
          exact fin M D h hc (fun p hp fo => hr e p hp fo (by have := gCn_lt (Q := gFo F) hp fo; omega))
        · rw [e]
          exact ihu M D h hd hc (hu1 e)
      | succ m ih =>
        intro i M D fl hi h hd hc hfl hr hu hu1
        obtain ⟨o0, hq, h40, h66, h51, h65, h44⟩ := id h
        obtain ⟨p, p1, p2, p3⟩ := gCn_ex (Q := gFo F) 5200 i (by omega)
        obtain ⟨S, tg, eF, h3⟩ := id p2
        have e40 : M (o + 40) i = (p : Int) := by rw [← p3]; exact h40 p p1 p2
        have gfl : g32 fl := by rcases hfl with e | e <;> rw [e] <;> exact g32_c rfl
        have ni : w32 ((i : Int) + 1) = ((i + 1 : Nat) : Int) := (w32_id ⟨by omega, by omega⟩).trans (by omega)
        have di := hd.1 i (by omega)
        have dp : M (o + 43) i = 1 ↔ D p := by rw [← p3]; exact hd.2 p p1 p2
        refine w_GM_evaluate_457 hX gfl ⟨by omega, by omega⟩ fun _ => ?_
        rw [h66, Int.toNat_natCast, ni]
        have skip : (D p ∨ ∃ q, gEdg F p q ∧ gFo F q ∧ ¬ D q) → wp l G y_GM_evaluate (gRm (d + 111)) true (kkV X k) true 457 [.val (gR G o), .unset, .val (gI fl), .val (gI ((i + 1 : Nat) : Int)), .unset] [] X M 0 0 := fun y => ih (i + 1) M D fl (by omega) h hd hc hfl (fun e p' a1 a2 a3 => by
          by_cases e2 : gCn (gFo F) p' = i
          · have : p' = p := gCn_inj a2 p2 (by omega)
            rw [this]; exact y
          · exact hr e p' a1 a2 (by omega)) hu hu1
        refine ⟨fun z => absurd z (by omega), fun _ => ⟨⟨by omega, by omega⟩, fun _ => ⟨fun z => skip (Or.inl (dp.mp (by omega))), fun z => ?_⟩⟩⟩
        have nD : ¬ D p := fun y => by have := dp.mpr y; omega
        refine r_ready hX (by omega) hn2 h66 hd.1 (fun hrd => ⟨fun _ => ?_, fun y => absurd y (by decide)⟩) (fun ⟨j, j1, j2, j3⟩ => ⟨fun y => absurd rfl y, fun _ => skip (Or.inr ?_)⟩)
        · -- it is worked out
          have sm0 : ∀ i j, 1 ≤ i → i ≤ 25 → M (o + i) j = M0 (o + i) j := fun i j a b => o0 _ _ (by unfold gEvR gmF; omega)
          have cl := hst.2.1 p p1
          rw [eF] at cl
          have cl2 : gmCl M o s p (some (S, tg)) := cl.kp sm0 (fun j hj => o0 _ _ (by unfold gEvR gmF; omega))
          have ok := (hF p S tg eF).2
          have env := h.env hVp
          have oe : gOut (gEc F V D) S tg = V p := by
            have v := (hV p p1).2 S tg eF
            rw [if_neg (fun y => nD (hc p y))] at v
            rw [v]
            refine gOut_congr ok (fun q ql hcov => ?_)
            rw [gEc_nat]
            refine if_neg (fun y => y.2 ?_)
            obtain ⟨fq, _⟩ := y
            have edge : gEdg F p q := ⟨⟨S, tg, eF, hcov⟩, fun z => by obtain ⟨S2, tg2, e2, _⟩ := fq; rw [e2] at z; cases z⟩
            have lt := gCn_lt (Q := gFo F) ql fq
            rcases hrd (gCn (gFo F) q) (by omega) with y | y
            · exact (hd.2 q ql fq).mp y
            · exact absurd ((h44 i (gCn (gFo F) q) (by omega) (by omega)).mpr ⟨p, q, p2, fq, p1, ql, p3, rfl, edge⟩) y
          refine ⟨⟨by omega, by omega⟩, fun _ => ?_⟩
          rw [e40]
          refine r_workOut (d := d) hX hO h51 hst.1 p1 cl2 h3 ok (by rw [sm0 25 _ (by decide) (by decide)]; exact hst.2.2.2) env (fun M3 o3 env3 => ⟨⟨by omega, by omega⟩, ?_⟩)
          rw [oe] at env3
          have k3 : ∀ a j, a = 40 ∨ a = 43 ∨ a = 44 → M3 (o + a) j = M (o + a) j := fun a j ha => o3 _ _ (by unfold gmWo gmF; omega)
          have ko : ∀ j, j = 51 ∨ j = 65 ∨ j = 66 → M3 o j = M o j := fun j hj => o3 _ _ (by unfold gmWo gmF; omega)
          have eqE : ∀ q : Nat, q < 5200 → gVup (gEc F V D) p (V p) q = gEc F V (fun r => D r ∨ r = p) q := fun q hq2 => by
            unfold gVup
            rw [gEc_nat, gEc_nat]
            by_cases e : q = p
            · rw [e, if_pos rfl, if_neg (fun y => y.2 (Or.inr rfl))]
            · rw [if_neg (by omega)]
              by_cases c : gFo F q ∧ ¬ D q
              · rw [if_pos c, if_pos ⟨c.1, fun y => y.elim c.2 e⟩]
              · rw [if_neg c, if_neg (fun y => c ⟨y.1, fun w => y.2 (Or.inl w)⟩)]
          have g1 : ∀ a j, a ≠ 43 → gUp M3 (o + 43) i 1 (o + a) j = M3 (o + a) j := fun a j ha => gUp_a (by omega)
          have dec : gSu (gUnd (gUp M3 (o + 43) i 1) o) n + 1 ≤ gSu (gUnd M o) n := by
            refine gSu_lt (x := i) n (fun e he => ?_) (by omega) ?_
            · unfold gUnd
              by_cases q : e = i
              · rw [q, gUp_eq, if_pos rfl]; exact Nat.zero_le _
              · rw [gUp_k q, k3 43 _ (by omega)]; exact Nat.le_refl _
            · unfold gUnd
              rw [gUp_eq, if_pos rfl, if_neg (by omega)]; decide
          refine ih (i + 1) _ (fun r => D r ∨ r = p) 1 (by omega) ⟨?_, fun q hq2 => ?_, fun q hq2 fo => ?_, ?_, ?_, ?_, fun i2 j hi2 hj => ?_⟩ ⟨fun j hj => ?_, fun q hq2 fo => ?_⟩ (fun q y => Or.inl (hc q y)) (Or.inr rfl) (fun y => absurd y (by decide)) (by omega) (fun _ => by omega)
          · refine (o0.tr (o3.mono (fun a k h => ?_))).up (by unfold gEvR; omega)
            unfold gmWo at h
            unfold gEvR
            rcases h with h | h | h | h
            · exact Or.inl h
            · omega
            · omega
            · omega
          · have := (env3 q hq2).2
            rw [eqE q hq2] at this
            obtain ⟨b1, b2, b3, b4⟩ := this
            refine ⟨?_, ?_, ?_, ?_⟩
            · rw [g1 26 _ (by decide)]; exact b1
            · rw [g1 27 _ (by decide)]; exact b2
            · rw [g1 30 _ (by decide)]; exact b3
            · refine Eq.trans (gBy_congr _ _ _ (fun j hj => g1 32 _ (by decide))) b4
          · rw [g1 40 _ (by decide), k3 40 _ (by omega)]; exact h40 q hq2 fo
          · rw [gUp_a (by omega), ko _ (by omega)]; exact h66
          · rw [gUp_a (by omega), ko _ (by omega)]; exact h51
          · rw [gUp_a (by omega), ko _ (by omega)]; exact h65
          · have : gRdM (gUp M3 (o + 43) i 1) o 44 i2 j ↔ gRdM M o 44 i2 j := by
              unfold gRdM
              rw [g1 44 _ (by decide), k3 44 _ (by omega)]
            rw [this]
            exact h44 i2 j hi2 hj
          · by_cases q : j = i
            · rw [q, gUp_eq]; exact Or.inr rfl
            · rw [gUp_k q, k3 43 _ (by omega)]; exact hd.1 j hj
          · by_cases e : q = p
            · rw [e, p3, gUp_eq]
              exact ⟨fun _ => Or.inr rfl, fun _ => rfl⟩
            · have ne : gCn (gFo F) q ≠ i := fun y => e (gCn_inj fo p2 (by omega))
              rw [gUp_k ne, k3 43 _ (by omega), hd.2 q hq2 fo]
              exact ⟨fun y => Or.inl y, fun y => y.resolve_right e⟩
        · obtain ⟨p', q, a1, a2, a3, a4, a5, a6, a7⟩ := (h44 i j (by omega) (by omega)).mp j3
          have : p' = p := gCn_inj a1 p2 (by omega)
          rw [this] at a7
          refine ⟨q, a7, a2, fun y => ?_⟩
          have := (hd.2 q a4 a2).mpr y
          rw [a6] at this
          omega
    refine w_GM_evaluate_449 hX (g32_c rfl) ⟨fun y => absurd y (by decide), fun _ => l457 n 0 M D 0 (by omega) h hd hc (Or.inl rfl) (fun _ p _ _ a3 => by omega) hu (fun y => absurd y (by decide))⟩
end geU
