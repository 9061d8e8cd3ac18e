/-! The reference: a name looked up; trees as nodes. -/
theorem gSl7 : gSl 7 = 317 := by decide +kernel
theorem gNk38 : gNk 38 = 317 := rfl
section gcH
variable {l : Launch} {G : gG} {d : Nat} {X : gX} {M : gM} {o : Nat} {Q : gQ}
theorem r_takes {a b : Nat} {w : Int} {k : Int → gM → Prop} (hX : gmX X o) (hO : gOld G Q) (hab : a ≤ b ∧ b ≤ 90000) (hw : gNmW (gBy M (o + 1) a (b - a)) = w) (h0 : w = -1 → ∀ M2, gOff (fun x j => x = o ∧ j = 55) M M2 → k (-1) M2) (h1 : ∀ i : Nat, i < 38 → w = ((i + 14 : Nat) : Int) → ∀ M2, gOff (fun x j => x = o ∧ j = 55) M M2 → M2 o 55 = (i : Int) → k ((gNk i + (gTi (i + 14)).length + 1 : Nat) : Int) M2) : cI l G y_GM_takes (gRm (d + 5)) true [gR G o, gI (a : Int), gI (b : Int)] X M k := by
  have ga : g32 (a : Int) := ⟨by omega, by omega⟩
  have gb : g32 (b : Int) := ⟨by omega, by omega⟩
  have key : ∀ (n i : Nat) (M1 : gM), i + n = 38 → gOff (fun x j => x = o ∧ j = 55) M M1 → M1 o 55 = (i : Int) → gNmF (gBy M (o + 1) a (b - a)) n (i + 14) = w → wp l G y_GM_takes (gRm (d + 5)) true (kkI X k) true 7 [.val (gR G o), .val (gI (a : Int)), .val (gI (b : Int)), .val (gI (gNk i : Int)), .unset, .unset, .unset] [] X M1 0 0 := by
    intro n
    induction n with
    | zero =>
      intro i M1 hi o1 m1 hf
      have e : i = 38 := by omega
      subst e
      refine w_GM_takes_7 hX hO ga gb ⟨by rw [gNk38]; decide, by rw [gNk38]; decide⟩ ⟨fun _ => h0 hf.symm M1 o1, fun z => absurd (by rw [gSl7, gNk38]; decide) z⟩
    | succ n ih =>
      intro i M1 hi o1 m1 hf
      obtain ⟨k1, k2, k3, k4⟩ := gNk_1 i (by omega)
      have k5 := gNk_2 i (by omega)
      have k6 := gNk_3 i (by omega)
      generalize hT : gTi (i + 14) = T at k1 k3 k5 h1
      rw [show gNmF (gBy M (o + 1) a (b - a)) (n + 1) (i + 14) = (if gTi (i + 14) = gBy M (o + 1) a (b - a) then ((i + 14 : Nat) : Int) else gNmF (gBy M (o + 1) a (b - a)) n (i + 14 + 1)) from rfl, hT] at hf
      have e1 : ∀ j, M1 (o + 1) j = M (o + 1) j := fun j => o1 _ _ (by omega)
      -- to the next name
      have nxt : T ≠ gBy M (o + 1) a (b - a) → ∀ (m j : Nat), gNk i + j + m + 1 = gNk (i + 1) → wp l G y_GM_takes (gRm (d + 5)) true (kkI X k) true 118 [.val (gR G o), .val (gI (a : Int)), .val (gI (b : Int)), .val (gI ((gNk i + j : Nat) : Int)), .unset, .unset, .unset] [] X M1 0 0 := by
        intro ne m
        rw [if_neg ne] at hf
        induction m with
        | zero =>
          intro j hj
          refine w_GM_takes_118 hX hO ga gb ⟨by omega, by omega⟩ ⟨⟨by omega, by rw [gSl7]; omega⟩, ?_⟩
          rw [Int.toNat_natCast, show gNk i + j = gNk (i + 1) - 1 by omega, k4, m1, w32_id (x := (i : Int) + 1) ⟨by omega, by omega⟩]
          refine ⟨fun _ _ => ?_, fun z => absurd rfl z⟩
          rw [w32_id (x := ((gNk (i + 1) - 1 : Nat) : Int) + 1) ⟨by omega, by omega⟩, show ((gNk (i + 1) - 1 : Nat) : Int) + 1 = (gNk (i + 1) : Int) by omega]
          refine ih (i + 1) _ (by omega) (o1.up ⟨rfl, rfl⟩) (by rw [gUp_eq]; omega) ?_
          rw [show i + 1 + 14 = i + 14 + 1 by omega]
          exact hf
        | succ m ihm =>
          intro j hj
          have i1 := ihm (j + 1) (by omega)
          refine w_GM_takes_118 hX hO ga gb ⟨by omega, by omega⟩ ⟨⟨by omega, by rw [gSl7]; omega⟩, ?_⟩
          rw [Int.toNat_natCast]
          refine ⟨fun z => absurd z (k6 j (by omega)), fun _ => ?_⟩
          rw [w32_id (x := ((gNk i + j : Nat) : Int) + 1) ⟨by omega, by omega⟩, show ((gNk i + j : Nat) : Int) + 1 = ((gNk i + (j + 1) : Nat) : Int) by omega]
          exact i1
      have no : T ≠ gBy M (o + 1) a (b - a) → ∀ x6 : Int, g32 x6 → wp l G y_GM_takes (gRm (d + 5)) true (kkI X k) true 59 [.val (gR G o), .val (gI (a : Int)), .val (gI (b : Int)), .val (gI (gNk i : Int)), .val (gI (T.length : Int)), .val (gI 0), .val (gI x6)] [] X M1 0 0 := fun ne x6 g6 =>
        w_GM_takes_59 hX hO ga gb ⟨by omega, by omega⟩ ⟨by omega, by omega⟩ (g32_c (x := 0) rfl) g6 ⟨fun _ => ⟨fun _ => nxt ne (gNk (i + 1) - 1 - gNk i) 0 (by omega), fun z => absurd rfl z⟩, fun z => absurd rfl z⟩
      have cmp : b - a = T.length → ∀ (m q : Nat), q + m = T.length → (∀ j, j < q → M (o + 1) (a + j) = T.getD j 0) → wp l G y_GM_takes (gRm (d + 5)) true (kkI X k) true 59 [.val (gR G o), .val (gI (a : Int)), .val (gI (b : Int)), .val (gI (gNk i : Int)), .val (gI (T.length : Int)), .val (gI 1), .val (gI (q : Int))] [] X M1 0 0 := by
        intro el m
        induction m with
        | zero =>
          intro q hq hp
          have eT : T = gBy M (o + 1) a (b - a) := by
            rw [el]
            exact (gBy_of T a (fun j hj => hp j (by omega))).symm
          rw [if_pos eT] at hf
          refine w_GM_takes_59 hX hO ga gb ⟨by omega, by omega⟩ ⟨by omega, by omega⟩ (g32_c (x := 1) rfl) ⟨by omega, by omega⟩ ⟨fun z => absurd z (by decide), fun _ => ⟨fun _ => ⟨fun z => absurd z (by decide), fun _ => ?_⟩, fun z => absurd (by omega) z⟩⟩
          rw [w32_id (x := (gNk i : Int) + (T.length : Int) + 1) ⟨by omega, by omega⟩, show (gNk i : Int) + (T.length : Int) + 1 = ((gNk i + T.length + 1 : Nat) : Int) by omega]
          have := h1 i (by omega) hf.symm M1 o1 m1
          rw [hT] at this
          exact this
        | succ m ihm =>
          intro q hq hp
          have kq := k5 q (by omega)
          refine w_GM_takes_59 hX hO ga gb ⟨by omega, by omega⟩ ⟨by omega, by omega⟩ (g32_c (x := 1) rfl) ⟨by omega, by omega⟩ ⟨fun z => absurd z (by decide), fun _ => ⟨fun z => absurd z (by omega), fun _ => ⟨⟨by omega, by omega⟩, ?_⟩⟩⟩
          rw [show ((a : Int) + (q : Int)).toNat = a + q by omega, e1, w32_id (x := (gNk i : Int) + (q : Int)) ⟨by omega, by omega⟩, show ((gNk i : Int) + (q : Int)).toNat = gNk i + q by omega, kq.1, w32_id (x := (q : Int) + 1) ⟨by omega, by omega⟩]
          refine fun _ => ⟨⟨by omega, by rw [gSl7]; omega⟩, fun z => no (fun eT => z ?_) _ ⟨by omega, by omega⟩, fun z => ?_⟩
          · have : (gBy M (o + 1) a (b - a)).getD q 0 = M (o + 1) (a + q) := gBy_getD (by omega)
            rw [← this, ← eT]
          · have i1 := ihm (q + 1) (by omega) (fun j hj => by
              by_cases e : j = q
              · rw [e]; exact z
              · exact hp j (by omega))
            rw [show ((q + 1 : Nat) : Int) = (q : Int) + 1 by omega] at i1
            exact i1
      have col : ∀ (m q : Nat), q + m = T.length → wp l G y_GM_takes (gRm (d + 5)) true (kkI X k) true 20 [.val (gR G o), .val (gI (a : Int)), .val (gI (b : Int)), .val (gI (gNk i : Int)), .val (gI (q : Int)), .unset, .unset] [] X M1 0 0 := by
        intro m
        induction m with
        | zero =>
          intro q hq
          have e : q = T.length := by omega
          subst e
          refine w_GM_takes_20 hX hO ga gb ⟨by omega, by omega⟩ ⟨by omega, by omega⟩ ?_
          rw [w32_id (x := (gNk i : Int) + (T.length : Int)) ⟨by omega, by omega⟩, show ((gNk i : Int) + (T.length : Int)).toNat = gNk i + T.length by omega, k3, w32_id (x := (b : Int) - (a : Int)) ⟨by omega, by omega⟩]
          refine ⟨⟨by omega, by rw [gSl7]; omega⟩, fun _ => ⟨fun z => no (fun eT => z ?_) 0 (g32_c (x := 0) rfl), fun z => cmp (by omega) T.length 0 (by omega) (fun j hj => absurd hj (by omega))⟩, fun z => absurd rfl z⟩
          have := congrArg List.length eT
          rw [gBy_len] at this
          omega
        | succ m ihm =>
          intro q hq
          have i1 := ihm (q + 1) (by omega)
          have kq := k5 q (by omega)
          refine w_GM_takes_20 hX hO ga gb ⟨by omega, by omega⟩ ⟨by omega, by omega⟩ ?_
          rw [w32_id (x := (gNk i : Int) + (q : Int)) ⟨by omega, by omega⟩, show ((gNk i : Int) + (q : Int)).toNat = gNk i + q by omega, w32_id (x := (q : Int) + 1) ⟨by omega, by omega⟩]
          refine ⟨⟨by omega, by rw [gSl7]; omega⟩, fun z => absurd z kq.2, fun _ => ?_⟩
          rw [show ((q + 1 : Nat) : Int) = (q : Int) + 1 by omega] at i1
          exact i1
      exact w_GM_takes_7 hX hO ga gb ⟨by omega, by omega⟩ ⟨fun z => absurd z (by rw [gSl7]; omega), fun _ => col T.length 0 (by omega)⟩
  refine e_GM_takes (Q := Q) (w_GM_takes_0 hX hO ga gb ?_)
  exact key 38 0 _ (by omega) ((gOff.rf _ M).up ⟨rfl, rfl⟩) (gUp_eq _ _ _ _) hw
end gcH
/-- a node of a sort -/
def gNr (M : gM) (o : Nat) (n s : Int) : Prop := 0 ≤ n ∧ n < 90000 ∧ M (o + 2) n.toNat = s
/-- the reference's node n is the tree (the first), or the first of these arguments (the second); L: where the formula's bytes lie -/
def gxNd (M : gM) (o L : Nat) : gEx → (Int → Prop) × (Int → Prop)
  | .num x => (fun n => gNr M o n 0 ∧ M (o + 6) n.toNat = x, fun _ => True)
  | .var i => (fun n => gNr M o n 2 ∧ M (o + 3) n.toNat = (i : Int), fun _ => False)
  | .neg a => (fun n => gNr M o n 5 ∧ (gxNd M o L a).1 (M (o + 3) n.toNat), fun _ => False)
  | .mulR a k => (fun n => gNr M o n (if k = 0 then 9 else 6) ∧ (gxNd M o L a).1 (M (o + 3) n.toNat), fun _ => False)
  | .mulL k (.num q) => (fun n => gNr M o n 1 ∧ M (o + 3) n.toNat = (L : Int) + k ∧ M (o + 4) n.toNat = (L : Int) + q, fun _ => False)
  | .mulL k (.var _) => (fun n => gNr M o n 4 ∧ M (o + 6) n.toNat = k, fun _ => False)
  | .mulL k (.add a b) => (fun n => gNr M o n 7 ∧ M (o + 6) n.toNat = gOpc k.toNat ∧ (gxNd M o L a).1 (M (o + 3) n.toNat) ∧ (gxNd M o L b).1 (M (o + 4) n.toNat), fun _ => False)
  | .mulL k (.neg _) => (fun n => gNr M o n 3 ∧ M (o + 3) n.toNat = k, fun _ => False)
  | .mulL _ (.sub _ _) => (fun _ => False, fun _ => False)
  | .mulL _ (.mulL _ _) => (fun _ => False, fun _ => False)
  | .mulL _ (.mulR _ _) => (fun _ => False, fun _ => False)
  | .sub f as => (match f with | .num w => (fun n => gNr M o n 8 ∧ M (o + 4) n.toNat = ((gxAL as).length : Int) ∧ (gxNd M o L as).2 (M (o + 3) n.toNat) ∧ ∃ a b : Nat, a ≤ b ∧ b ≤ 90000 ∧ M (o + 6) n.toNat = (a : Int) * 1048576 + (b : Int) ∧ gNmW (gBy M (o + 1) a (b - a)) = w) | _ => fun _ => False, fun _ => False)
  | .add x xs => (fun _ => False, fun n => (gxNd M o L x).1 n ∧ (gxNd M o L xs).2 (M (o + 5) n.toNat))
theorem gxNd_off {M M2 : gM} {o L : Nat} (h : ∀ i, 1 ≤ i → i ≤ 6 → M2 (o + i) = M (o + i)) : ∀ e : gEx, gxNd M2 o L e = gxNd M o L e ∧ (∀ a b, e = .add a b → gxNd M2 o L a = gxNd M o L a ∧ gxNd M2 o L b = gxNd M o L b) := by
  have h1 := h 1 (by omega) (by omega)
  have h2 := h 2 (by omega) (by omega)
  have h3 := h 3 (by omega) (by omega)
  have h4 := h 4 (by omega) (by omega)
  have h5 := h 5 (by omega) (by omega)
  have h6 := h 6 (by omega) (by omega)
  have hr : ∀ n s, gNr M2 o n s = gNr M o n s := fun n s => by unfold gNr; rw [h2]
  have hby : ∀ a n, gBy M2 (o + 1) a n = gBy M (o + 1) a n := fun a n => gBy_congr _ _ _ (fun j _ => by rw [h1])
  intro e
  induction e with
  | num x => exact ⟨by unfold gxNd; simp only [hr, h6], fun a b q => by cases q⟩
  | var i => exact ⟨by unfold gxNd; simp only [hr, h3], fun a b q => by cases q⟩
  | neg a ih => exact ⟨by unfold gxNd; simp only [hr, h3, ih.1], fun a b q => by cases q⟩
  | mulR a k ih => exact ⟨by unfold gxNd; simp only [hr, h3, ih.1], fun a b q => by cases q⟩
  | mulL k a ih =>
    refine ⟨?_, fun a b q => by cases q⟩
    cases a with
    | num q => unfold gxNd; simp only [hr, h3, h4]
    | var i => unfold gxNd; simp only [hr, h6]
    | add x y =>
      obtain ⟨i1, i2⟩ := ih.2 x y rfl
      unfold gxNd
      simp only [hr, h3, h4, h6, i1, i2]
    | neg x => unfold gxNd; simp only [hr, h3]
    | sub => rfl
    | mulL => rfl
    | mulR => rfl
  | add x xs ihx ihs =>
    refine ⟨?_, fun a b q => by cases q; exact ⟨ihx.1, ihs.1⟩⟩
    unfold gxNd
    simp only [h5, ihx.1, ihs.1]
  | sub f as _ ih =>
    refine ⟨?_, fun a b q => by cases q⟩
    cases f with
    | num w => unfold gxNd; simp only [hr, h3, h4, h6, ih.1, hby]
    | _ => rfl
/-- how deep the reference goes to work a tree out -/
def gxH : gEx → Nat
  | .num _ => 0
  | .var _ => 0
  | .neg a => gxH a + 1
  | .mulR a _ => gxH a + 1
  | .mulL _ a => gxH a + 1
  | .sub _ a => gxH a + 3
  | .add a b => max (gxH a) (gxH b)
theorem gxH_mem : ∀ (e : gEx), ∀ x ∈ gxAL e, gxH x ≤ gxH e := by
  intro e
  induction e with
  | add x xs _ ih =>
    intro y hy
    show gxH y ≤ max (gxH x) (gxH xs)
    rcases List.mem_cons.mp hy with q | q
    · rw [q]; omega
    · have := ih y q; omega
  | _ => intro y hy; cases hy
