/-! What a token of a kind is; the class's questions of tokens. -/
theorem gIteU {p : Prop} {i : Decidable p} {a b : Int} (ha : 0 ≤ a ∧ (a ≤ 16 ∨ a = 24)) (hb : 0 ≤ b ∧ (b ≤ 16 ∨ b = 24)) : 0 ≤ ite p a b ∧ (ite p a b ≤ 16 ∨ ite p a b = 24) := by
  split
  · exact ha
  · exact hb
theorem gSgk_23 (x : Int) : 0 ≤ gSgk x ∧ (gSgk x ≤ 16 ∨ gSgk x = 24) := by
  unfold gSgk
  repeat (refine gIteU ⟨by decide, by decide⟩ ?_)
  exact ⟨by decide, by decide⟩
theorem gTkO_k {S : List Int} {t : gTkn} (h : gTkO S t) : 0 ≤ t.1 ∧ t.1 < 23 ∧ t.2.1 < t.2.2 ∧ t.2.2 ≤ S.length := by
  obtain ⟨h1, h2, h3⟩ := h
  obtain ⟨kd, p, q⟩ := t
  dsimp only at h1 h2 h3 ⊢
  unfold gTn1 at h2
  split at h2
  · have e1 := congrArg Prod.fst h2
    have e2 := congrArg Prod.snd h2
    dsimp only at e1 e2
    have := gQuo_le S (S.length - p) (p + 1)
    split at e1
    · exact ⟨by omega, by omega, by omega, by omega⟩
    · exact absurd e1.symm h3
  · split at h2
    · rename_i hw
      have e1 := congrArg Prod.fst h2
      have e2 := congrArg Prod.snd h2
      dsimp only at e1 e2
      have rn : p < gRun S (S.length - p) p := by
        rw [show S.length - p = S.length - p - 1 + 1 by omega]
        unfold gRun
        rw [if_pos ⟨by omega, hw⟩]
        exact (gRun_le S _ (p + 1)).1
      have r2 := (gRun_le S (S.length - p) p).2 (by omega)
      rw [← e2]
      refine ⟨?_, ?_, rn, r2⟩
      all_goals
        unfold gWd at e1
        (repeat' split at e1)
        all_goals omega
    · have e0 : ∀ z : Int, z ≠ 0 → gSn S p = z → p + 1 < S.length := fun z hz e => by
        unfold gSn at e
        split at e
        · assumption
        · exact absurd e.symm hz
      have hs := gSgk_23 (S.getD p 0)
      split at h2
      · rename_i z; cases h2; have := e0 _ (by decide) z.2; exact ⟨by decide, by decide, by omega, by omega⟩
      · split at h2
        · rename_i z; cases h2; have := e0 _ (by decide) z.2; exact ⟨by decide, by decide, by omega, by omega⟩
        · split at h2
          · rename_i z; cases h2; have := e0 _ (by decide) z.2; exact ⟨by decide, by decide, by omega, by omega⟩
          · cases h2
            exact ⟨by omega, by omega, by omega, by omega⟩
theorem gTkO_w {S : List Int} {t : gTkn} (h : gTkO S t) (hk : 17 ≤ t.1 ∧ t.1 ≠ 18) : gAll gWb S t.2.1 t.2.2 ∧ gWd S t.2.1 t.2.2 = t.1 := by
  obtain ⟨h1, h2, h3⟩ := h
  obtain ⟨kd, p, q⟩ := t
  dsimp only at h1 h2 h3 hk ⊢
  unfold gTn1 at h2
  split at h2
  · have e1 := congrArg Prod.fst h2
    dsimp only at e1
    split at e1
    · exact absurd e1.symm hk.2
    · exact absurd e1.symm h3
  · split at h2
    · cases h2
      exact ⟨gRun_all S _ p, rfl⟩
    · have hs := gSgk_23 (S.getD p 0)
      (repeat' split at h2)
      all_goals (cases h2; omega)
theorem gTkO_18 {S : List Int} {t : gTkn} (h : gTkO S t) (hk : t.1 = 18) : t.2.1 + 1 ≤ t.2.2 - 1 ∧ t.2.2 - 1 - (t.2.1 + 1) ≤ 64 := by
  obtain ⟨h1, h2, h3⟩ := h
  obtain ⟨kd, p, q⟩ := t
  dsimp only at h1 h2 h3 hk ⊢
  unfold gTn1 at h2
  split at h2
  · have e1 := congrArg Prod.fst h2
    have e2 := congrArg Prod.snd h2
    dsimp only at e1 e2
    have := gQuo_le S (S.length - p) (p + 1)
    split at e1
    · omega
    · exact absurd e1.symm h3
  · exfalso
    split at h2
    · have e1 := congrArg Prod.fst h2
      dsimp only at e1
      unfold gWd at e1
      (repeat' split at e1)
      all_goals omega
    · have hs := gSgk_23 (S.getD p 0)
      (repeat' split at h2)
      all_goals (cases h2; omega)
theorem gTkO_19 {S : List Int} {t : gTkn} (h : gTkO S t) (hk : t.1 = 19) : 0 ≤ gPl S t.2.1 t.2.2 ∧ gPl S t.2.1 t.2.2 < 5200 ∧ gPa S t.2.1 + 1 < t.2.2 := by
  have h2 := (gTkO_w h (by omega)).2
  have hA := (gTkO_w h (by omega)).1
  have hb := gTkO_k h
  generalize t.2.1 = p at h2 hA hb ⊢
  generalize t.2.2 = q at h2 hA hb ⊢
  have h3 : 0 ≤ gPl S p q := by
    unfold gWd at h2
    split at h2
    · assumption
    · (repeat' split at h2)
      all_goals omega
  refine ⟨h3, ?_⟩
  unfold gPl at h3 ⊢
  split at h3
  · omega
  · rename_i n1
    rw [if_neg n1]
    have hc : gCap (S.getD (gPa S p) 0) := Decidable.byContradiction (dec := gDCap _) fun z => n1 (Or.inr z)
    unfold gCap at hc
    split at h3
    · omega
    · rename_i n2
      rw [if_neg n2]
      split at h3
      · omega
      · split at h3
        · rename_i r hr
          refine ⟨by omega, ?_⟩
          have : gPa S p + 1 ≤ gPb S p q := by unfold gPb; split <;> omega
          omega
        · omega
theorem gTkO_17 {S : List Int} {t : gTkn} (h : gTkO S t) (hk : t.1 = 17) : ∃ z, gNum (gSbs S t.2.1 t.2.2) = some z := by
  have h2 := (gTkO_w h (by omega)).2
  rw [hk] at h2
  unfold gWd at h2
  split at h2
  · omega
  · split at h2
    · rename_i z
      exact Option.isSome_iff_exists.1 z
    · (repeat' split at h2)
      all_goals omega
section gdD
variable {l : Launch} {G : gG} {d : Nat} {X : gX} {M : gM} {c : Nat} {Q : gQ} {S : List Int} {ts : List gTkn}
theorem c_Tk_fixedOf {j : Nat} {k : Int → gM → Prop} (hX : glX X c) (hI : gInp M c S) (hW : gTkW M c S ts) (hj : j < ts.length) (hj2 : j < 104) (ho : gTkO S (gTs ts j)) (hk : (gTs ts j).1 = 19) (h : k (gFx S (gTs ts j).2.1) M) : cI l G y_Tk_fixedOf (gRm d) false [gR G (c + 16), gI (j : Int)] X M k := by
  have hl := hI.2.1
  have hr := hW.2 j hj
  have hb := gTkO_k ho
  have h19 := gTkO_19 ho hk
  generalize (gTs ts j).2.1 = p at h hr hb h19
  generalize (gTs ts j).2.2 = q at hr hb h19
  obtain ⟨eB, b1, b2⟩ := hI.b (j := p) (by omega)
  have s37 : ∀ x2 s0 : Int, (x2 = if S.getD p 0 = 36 then 1 else 0) → (p : Int) + s0 = ((gPa S p + 1 : Nat) : Int) → g32 s0 → wp l G y_Tk_fixedOf (gRm d) false (kkI X k) false 37 [.val (gR G (c + 16)), .unset, .val (gI x2), .unset, .unset] [gI s0, gI (p : Int)] X M 0 0 := by
    intro x2 s0 e2 e0 g0
    obtain ⟨eB2, c1, c2⟩ := hI.b (j := gPa S p + 1) (by omega)
    have g2 : g32 x2 := by rw [e2]; split <;> exact g32_c rfl
    refine w_Tk_fixedOf_37 hX g2 g0 ⟨by omega, by omega⟩ ?_
    rw [e0, Int.toNat_natCast, eB2]
    refine ⟨⟨by omega, by omega⟩, fun _ => ⟨fun z => ⟨fun z2 => ⟨fun _ => ?_, fun y => absurd rfl y⟩, fun z2 => ⟨fun _ => ?_, fun y => absurd rfl y⟩⟩, fun z => ⟨fun z2 => ⟨fun y => absurd y (by decide), fun _ => ?_⟩, fun z2 => ⟨fun y => absurd y (by decide), fun _ => ?_⟩⟩⟩⟩
    all_goals
      unfold gFx at h
      first | rw [if_neg z] at h | rw [if_pos z] at h
      rw [← e2] at h
    · rw [z2] at h; exact h
    · rw [show x2 = 1 by split at e2 <;> omega] at h; exact h
    · rw [z2] at h; exact h
    · rw [show x2 = 1 by split at e2 <;> omega] at h; exact h
  have s21 : ∀ s0 : Int, (s0 = if S.getD p 0 = 36 then 1 else 0) → wp l G y_Tk_fixedOf (gRm d) false (kkI X k) false 21 [.val (gR G (c + 16)), .val (gI (j : Int)), .unset, .unset, .unset] [gI s0] X M 0 0 := by
    intro s0 e0
    have g2 : g32 s0 := by rw [e0]; split <;> exact g32_c rfl
    refine w_Tk_fixedOf_21 hX ⟨by omega, by omega⟩ g2 ?_
    rw [Int.toNat_natCast, hr.2.1]
    refine ⟨⟨by omega, by omega⟩, fun _ => ⟨fun z => s37 _ 1 e0 ?_ (g32_c rfl), fun z => s37 _ 2 e0 ?_ (g32_c rfl)⟩⟩
    · unfold gPa
      rw [if_neg (fun y => by rw [if_pos y] at e0; omega)]
      omega
    · unfold gPa
      rw [if_pos (Decidable.byContradiction fun y => z (by rw [if_neg y] at e0; exact e0))]
      omega
  refine e_Tk_fixedOf (w_Tk_fixedOf_0 hX ⟨by omega, by omega⟩ ?_)
  rw [Int.toNat_natCast, hr.2.1, Int.toNat_natCast, eB]
  refine ⟨⟨by omega, by omega⟩, fun _ => ⟨⟨by omega, by omega⟩, fun _ => ⟨fun z => s21 0 (by rw [if_neg z]), fun z => s21 1 (by rw [if_pos z])⟩⟩⟩
theorem c_Tk_numberOf {j : Nat} {z : Int} {k : Int → gM → Prop} (hX : glX X c) (hI : gInp M c S) (hW : gTkW M c S ts) (hj : j < ts.length) (hj2 : j < 104) (ho : gTkO S (gTs ts j)) (hz : gNum (gSbs S (gTs ts j).2.1 (gTs ts j).2.2) = some z) (h : k z M) : cL l G y_Tk_numberOf (gRm (d + 1)) false [gR G (c + 16), gI (j : Int)] X M k := by
  have hr := hW.2 j hj
  have hb := gTkO_k ho
  refine e_Tk_numberOf (w_Tk_numberOf_0 hX ⟨by omega, by omega⟩ ?_)
  rw [Int.toNat_natCast, hr.2.1, hr.2.2.1]
  exact ⟨⟨by omega, by omega⟩, fun _ => ⟨⟨by omega, by omega⟩, fun _ => c_Tk_numIn hX hI ⟨by omega, by omega⟩ hz h⟩⟩
theorem gWti_66 : ∀ i, i < 52 → gWti i < 66 := by decide +kernel
theorem c_Tk_workOf {j : Nat} {k : Int → gM → Prop} (hX : glX X c) (hO : gOld G Q) (hI : gInp M c S) (hW : gTkW M c S ts) (hj : j < ts.length) (hj2 : j < 104) (ho : gTkO S (gTs ts j)) (h : k (gNmW (gSbs S (gTs ts j).2.1 (gTs ts j).2.2)) M) : cI l G y_Tk_workOf (gRm (d + 6)) false [gR G (c + 16), gI (j : Int)] X M k := by
  have hr := hW.2 j hj
  have hb := gTkO_k ho
  generalize (gTs ts j).2.1 = p at h hr hb
  generalize (gTs ts j).2.2 = q at h hr hb
  unfold gNmW at h
  have key : ∀ (n i : Nat), i + n = 52 → gNmF (gSbs S p q) 38 14 = gNmF (gSbs S p q) n i → wp l G y_Tk_workOf (gRm (d + 6)) false (kkI X k) false 3 [.val (gR G (c + 16)), .val (gI (j : Int)), .val (gI (i : Int))] [] X M 0 0 := by
    intro n
    induction n with
    | zero =>
      intro i hi e
      rw [e] at h
      exact w_Tk_workOf_3 (Q := Q) (d := d + 5) hX hO ⟨by omega, by omega⟩ ⟨by omega, by omega⟩ ⟨fun _ => h, fun z => absurd (by omega) z⟩
    | succ n ih =>
      intro i hi e
      have e2 : gNmF (gSbs S p q) (n + 1) i = if gTi i = gSbs S p q then (i : Int) else gNmF (gSbs S p q) n (i + 1) := rfl
      refine w_Tk_workOf_3 (Q := Q) (d := d + 5) hX hO ⟨by omega, by omega⟩ ⟨by omega, by omega⟩ ⟨fun z => absurd z (by omega), fun _ => ?_⟩
      rw [Int.toNat_natCast, hr.2.1, hr.2.2.1, Int.toNat_natCast, w32_id (x := (i : Int) + 1) ⟨by omega, by omega⟩, show (i : Int) + 1 = ((i + 1 : Nat) : Int) by omega]
      refine ⟨⟨by omega, by omega⟩, fun _ => ⟨⟨by omega, by omega⟩, fun _ => ⟨⟨by omega, by omega⟩, c_Tk_spells hX hO hI ⟨by omega, by omega⟩ (gWti_66 i (by omega)) (fun e3 => ⟨fun y => absurd y (by decide), fun _ => ?_⟩) (fun e3 => ⟨fun _ => ih (i + 1) (by omega) ?_, fun y => absurd rfl y⟩)⟩⟩⟩
      · rw [e, e2, if_pos (show gTi i = gSbs S p q from e3.symm)] at h; exact h
      · rw [e, e2, if_neg (fun y : gTi i = gSbs S p q => e3 y.symm)]
  exact e_Tk_workOf (Q := Q) (w_Tk_workOf_0 (Q := Q) (d := d + 5) hX hO ⟨by omega, by omega⟩ (key 38 14 rfl rfl))
end gdD
