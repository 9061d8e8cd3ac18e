/-! The reference's evaluate: what places hold before its formulas are worked out. -/
section geR
variable {M M2 : gM} {o : Nat}
theorem gFrm.kp {f : Nat} {S : List Int} (h : gFrm M o f S) (h1 : ∀ i j, 1 ≤ i → i ≤ 25 → M2 (o + i) j = M (o + i) j) (h0 : ∀ j, j = 2 ∨ j = 9 ∨ j = 13 ∨ j = 17 → M2 o j = M o j) : gFrm M2 o f S := by
  obtain ⟨L, R, a1, a2, a3, a4, a5, a6, a7, a8, a9, a10, a11⟩ := h
  refine ⟨L, R, a1.kp (fun j => h1 1 j (by decide) (by decide)), by rw [h0 2 (by omega)]; exact a2, a3, by rw [h0 13 (by omega)]; exact a4, by rw [h1 8 _ (by decide) (by decide)]; exact a5, by rw [h1 9 _ (by decide) (by decide)]; exact a6, by rw [h0 17 (by omega)]; exact a7, a8, fun i hi => ?_, fun q => by rw [h1 7 _ (by decide) (by decide)]; exact a10 q, fun e rs q => ?_⟩
  · rw [h1 10 _ (by decide) (by decide), h1 11 _ (by decide) (by decide), h1 12 _ (by decide) (by decide)]
    exact a9 i hi
  · obtain ⟨lo, hi, v, b1, b2, b3⟩ := a11 e rs q
    exact ⟨lo, hi, v, by rw [h1 7 _ (by decide) (by decide)]; exact b1, b2.kp (fun i j c1 c2 _ _ _ => h1 i j (by omega) (by omega)) (fun j => h1 1 j (by decide) (by decide)), by rw [h0 9 (by omega)]; exact b3⟩
theorem gmCl.kp {s p : Nat} {x : Option (List Int × List Int)} (h : gmCl M o s p x) (h1 : ∀ i j, 1 ≤ i → i ≤ 25 → M2 (o + i) j = M (o + i) j) (h0 : ∀ j, j = 2 ∨ j = 9 ∨ j = 13 ∨ j = 17 → M2 o j = M o j) : gmCl M2 o s p x := by
  refine ⟨fun e => by rw [h1 19 _ (by decide) (by decide)]; exact h.1 e, fun S tg e => ?_⟩
  obtain ⟨a1, a2, a3, a4⟩ := h.2 S tg e
  refine ⟨by rw [h1 19 _ (by decide) (by decide)]; exact a1, fun q => by rw [h1 23 _ (by decide) (by decide)]; exact a2 q, fun q => ?_, fun q => ?_⟩
  · obtain ⟨L, b1, b2, b3, b4⟩ := a3 q
    exact ⟨L, by rw [h1 20 _ (by decide) (by decide)]; exact b1, by rw [h1 21 _ (by decide) (by decide)]; exact b2, b3.kp (fun j => h1 1 j (by decide) (by decide)), by rw [h0 2 (by omega)]; exact b4⟩
  · obtain ⟨f, ra, b1, b2, b3, b4, b5⟩ := a4 q
    exact ⟨f, ra, by rw [h1 20 _ (by decide) (by decide)]; exact b1, b2.kp h1 h0, by rw [h1 22 _ (by decide) (by decide)]; exact b3, by rw [h1 25 _ (by decide) (by decide)]; exact b4, fun i hi => by rw [h1 24 _ (by decide) (by decide)]; exact b5 i hi⟩
theorem gmSt.kp {s : Nat} {F : gSht} (h : gmSt M o s F) (h1 : ∀ i j, 1 ≤ i → i ≤ 25 → M2 (o + i) j = M (o + i) j) (h0 : ∀ j, j = 2 ∨ j = 9 ∨ j = 13 ∨ j = 17 → M2 o j = M o j) : gmSt M2 o s F := ⟨h.1, fun p hp => (h.2.1 p hp).kp h1 h0, by rw [h1 25 _ (by decide) (by decide)]; exact h.2.2.1, by rw [h1 25 _ (by decide) (by decide)]; exact h.2.2.2⟩
end geR
/-- what evaluate writes -/
def gEvR (o : Nat) : Nat → Nat → Prop := fun a k => gmF o 0 a k ∨ (a = o ∧ (k = 51 ∨ k = 52 ∨ k = 65 ∨ k = 66)) ∨ a = o + 26 ∨ a = o + 27 ∨ a = o + 30 ∨ a = o + 32 ∨ (o + 40 ≤ a ∧ a ≤ o + 44)
def gmRw (M : gM) (o p : Nat) (v : gVl) : Prop := M (o + 26) p = v.kd ∧ M (o + 27) p = (v.tx.length : Int) ∧ M (o + 30) p = (if v.kd = 2 then 0 else v.nm) ∧ gBy M (o + 32) (64 * p) v.tx.length = v.tx
noncomputable def gIx (F : gSht) (q : Nat) : Int := @ite Int (gFo F q) (Classical.propDecidable _) (gCn (gFo F) q : Int) (-1)
theorem gSrt_c (S : List Int) : gSrt S = 1 ∨ gSrt S = 2 ∨ gSrt S = 3 := by
  unfold gSrt
  split
  · exact Or.inr (Or.inr rfl)
  · split
    · exact Or.inl rfl
    · exact Or.inr (Or.inl rfl)
/-- nothing but a formula reads -/
theorem gSrt_rf {S : List Int} (h : gSrt S ≠ 3) : gRefs S = [] ∧ (gSrt S = 1 → ∃ z, gNum S = some z ∧ gTree S = some (.num z, [])) ∧ (gSrt S = 2 → gNum S = none ∧ gTree S = some (.mulL 0 (.num (S.length : Int)), [])) := by
  unfold gSrt at h
  have h61 : ¬ S.getD 0 0 = 61 := fun q => h (by rw [if_pos q])
  unfold gRefs gTree gSrt
  rw [if_neg h61, if_neg h61]
  cases hz : gNum S with
  | some z => exact ⟨rfl, fun _ => ⟨z, rfl, rfl⟩, fun q => absurd (show (1 : Int) = 2 from q) (by decide)⟩
  | none => exact ⟨rfl, fun q => absurd q (by decide), fun _ => ⟨rfl, rfl⟩⟩
theorem gEdg.fo {F : gSht} {p q : Nat} (hF : gSok F) (h : gEdg F p q) : gFo F p := by
  obtain ⟨⟨S, tg, e, k, k1, _⟩, _⟩ := h
  refine ⟨S, tg, e, Decidable.byContradiction fun y => ?_⟩
  have := (hF p S tg e).2.2.2.2.1
  rw [(gSrt_rf y).1] at this
  have : tg.length = 0 := this
  omega
theorem gCyc.fo {F : gSht} {p : Nat} (hF : gSok F) (h : gCyc F p) : gFo F p := by
  obtain ⟨k, x, hx, _⟩ := h
  exact gEdg.fo hF hx
/-- the value of what is no formula -/
theorem gFxp.nf {F : gSht} {V : Int → gVl} {p : Nat} {S tg : List Int} (hF : gSok F) (h : gFxp F V) (hp : p < 5200) (e : F p = some (S, tg)) (h3 : gSrt S ≠ 3) : (gSrt S = 1 → ∃ z, gNum S = some z ∧ V p = gN z) ∧ (gSrt S = 2 → V p = gTxt S) := by
  have nc : ¬ gCyc F p := fun q => by
    obtain ⟨S2, tg2, e2, y⟩ := q.fo hF
    rw [e] at e2
    cases e2
    exact h3 y
  have v := (h p hp).2 S tg e
  rw [if_neg nc] at v
  obtain ⟨_, r1, r2⟩ := gSrt_rf h3
  refine ⟨fun q => ?_, fun q => ?_⟩
  · obtain ⟨z, z1, z2⟩ := r1 q
    refine ⟨z, z1, ?_⟩
    rw [v]
    unfold gOut
    rw [z2]
    rfl
  · obtain ⟨z1, z2⟩ := r2 q
    rw [v]
    unfold gOut
    rw [z2]
    show gxTp (gTxt ((S.drop 0).take ((S.length : Int) - 0).toNat)) = gTxt S
    rw [List.drop_zero, show ((S.length : Int) - 0).toNat = S.length by omega, List.take_length]
    rfl
section geS
variable {l : Launch} {G : gG} {d : Nat} {X : gX} {M0 : gM} {o s : Nat} {F : gSht} {V : Int → gVl}
noncomputable def gE0 (F : gSht) (V : Int → gVl) (p : Nat) : gVl := @ite gVl (gFo F p) (Classical.propDecidable _) (0, 0, []) (V p)
def gI12 (M0 M : gM) (o s : Nat) (F : gSht) (V : Int → gVl) (p : Nat) : Prop := gOff (gEvR o) M0 M ∧ (∀ q, q < p → gmRw M o q (gE0 F V q) ∧ M (o + 41) q = gIx F q ∧ (gFo F q → M (o + 40) (gCn (gFo F) q) = (q : Int))) ∧ M o 66 = (gCn (gFo F) p : Int) ∧ M o 51 = (s : Int)
theorem r_ev12 {k : gM → Prop} (hX : gmX X o) (hst : gmSt M0 o s F) (hF : gSok F) (hV : gFxp F V) (hn : gCn (gFo F) 5200 ≤ 400) (hk : ∀ M, gI12 M0 M o s F V 5200 → wp l G y_GM_evaluate (gRm (d + 1)) true (kkV X k) true 213 [.val (gR G o), .unset, .val (gI 0), .unset, .unset] [] X M 0 0) : ∀ (m p : Nat) (M : gM), p + m = 5200 → gI12 M0 M o s F V p → wp l G y_GM_evaluate (gRm (d + 1)) true (kkV X k) true 12 [.val (gR G o), .val (gI (s : Int)), .val (gI (p : Int)), .unset, .unset] [] X M 0 0 := by
  have hs := hst.1
  intro m
  induction m with
  | zero =>
    intro p M hp h
    have e : p = 5200 := by omega
    subst e
    exact w_GM_evaluate_12 hX ⟨by omega, by omega⟩ ⟨by omega, by omega⟩ ⟨fun _ => hk M h, fun z => absurd (by decide) z⟩
  | succ m ih =>
    intro p M hp h
    obtain ⟨o0, hq, h66, h51⟩ := id h
    have sm : ∀ i j, 1 ≤ i → i ≤ 25 → M (o + i) j = M0 (o + i) j := fun i j h1 h2 => o0 _ _ (by unfold gEvR gmF; omega)
    have gs : g32 (s : Int) := ⟨by omega, by omega⟩
    have gp : g32 (p : Int) := ⟨by omega, by omega⟩
    have ea : ((s : Int) * 5200 + (p : Int)).toNat = s * 5200 + p := by omega
    have cl := hst.2.1 p (by omega)
    have kle : gCn (gFo F) p ≤ gCn (gFo F) 5200 := gCn_le (by omega)
    -- the bytes, and the end of one place
    have s122 : ∀ (sv lv : Int) (tx : List Int) (v : gVl), v = gE0 F V p → v.tx = tx → sv = v.kd → lv = (if v.kd = 2 then 0 else v.nm) → tx.length ≤ 64 → (tx ≠ [] → ∃ L : Nat, M0 (o + 20) (s * 5200 + p) = (L : Int) ∧ gInm M0 o L tx) → wp l G y_GM_evaluate (gRm (d + 1)) true (kkV X k) true 122 [.val (gR G o), .val (gI (s : Int)), .val (gI (p : Int)), .val (gI (w32 ((s : Int) * 5200 + (p : Int)))), .val (gI 0)] [] X (gUp (gUp (gUp (gUp M (o + 41) p (-1)) (o + 26) p sv) (o + 30) p lv) (o + 27) p (tx.length : Int)) 0 0 := by
      intro sv lv tx v ev et e1 e3 hl hL
      rw [w32_id (x := (s : Int) * 5200 + (p : Int)) ⟨by omega, by omega⟩]
      have o1 : gOff (gEvR o) M0 (gUp (gUp (gUp (gUp M (o + 41) p (-1)) (o + 26) p sv) (o + 30) p lv) (o + 27) p (tx.length : Int)) := by
        refine (((o0.up ?_).up ?_).up ?_).up ?_ <;> unfold gEvR <;> omega
      have k1 : ∀ a q, a = 26 ∨ a = 27 ∨ a = 30 ∨ a = 32 ∨ a = 40 ∨ a = 41 → q ≠ p ∨ a = 32 ∨ a = 40 → gUp (gUp (gUp (gUp M (o + 41) p (-1)) (o + 26) p sv) (o + 30) p lv) (o + 27) p (tx.length : Int) (o + a) q = M (o + a) q := fun a q ha hq => by
        unfold gUp
        rw [if_neg (by omega), if_neg (by omega), if_neg (by omega), if_neg (by omega)]
      have m26 : gUp (gUp (gUp (gUp M (o + 41) p (-1)) (o + 26) p sv) (o + 30) p lv) (o + 27) p (tx.length : Int) (o + 26) p = v.kd := by rw [gUp_a (by omega), gUp_a (by omega), gUp_eq]; exact e1
      have m30 : gUp (gUp (gUp (gUp M (o + 41) p (-1)) (o + 26) p sv) (o + 30) p lv) (o + 27) p (tx.length : Int) (o + 30) p = if v.kd = 2 then 0 else v.nm := by rw [gUp_a (by omega), gUp_eq]; exact e3
      have m27 : gUp (gUp (gUp (gUp M (o + 41) p (-1)) (o + 26) p sv) (o + 30) p lv) (o + 27) p (tx.length : Int) (o + 27) p = (tx.length : Int) := gUp_eq _ _ _ _
      have m41 : gUp (gUp (gUp (gUp M (o + 41) p (-1)) (o + 26) p sv) (o + 30) p lv) (o + 27) p (tx.length : Int) (o + 41) p = -1 := by rw [gUp_a (by omega), gUp_a (by omega), gUp_a (by omega), gUp_eq]
      have mo : ∀ j, gUp (gUp (gUp (gUp M (o + 41) p (-1)) (o + 26) p sv) (o + 30) p lv) (o + 27) p (tx.length : Int) o j = M o j := fun j => by rw [gUp_a (by omega), gUp_a (by omega), gUp_a (by omega), gUp_a (by omega)]
      generalize gUp (gUp (gUp (gUp M (o + 41) p (-1)) (o + 26) p sv) (o + 30) p lv) (o + 27) p (tx.length : Int) = N0 at o1 k1 m26 m30 m27 m41 mo ⊢
      have key : ∀ (u j : Nat) (M5 : gM), j + u = tx.length → gOff (fun a k => a = o + 32 ∧ 64 * p ≤ k ∧ k < 64 * p + 64) N0 M5 → (∀ i, i < j → M5 (o + 32) (64 * p + i) = tx.getD i 0) → wp l G y_GM_evaluate (gRm (d + 1)) true (kkV X k) true 122 [.val (gR G o), .val (gI (s : Int)), .val (gI (p : Int)), .val (gI ((s : Int) * 5200 + (p : Int))), .val (gI (j : Int))] [] X M5 0 0 := by
        intro u
        induction u with
        | zero =>
          intro j M5 hj o5 hb
          have e27 : M5 (o + 27) p = (tx.length : Int) := (o5 _ _ (by omega)).trans m27
          have o05 := o1.tr (o5.mono (fun a k h => by unfold gEvR; omega : ∀ a k, (a = o + 32 ∧ 64 * p ≤ k ∧ k < 64 * p + 64) → gEvR o a k))
          have e19 : M5 (o + 19) (s * 5200 + p) = M0 (o + 19) (s * 5200 + p) := o05 _ _ (by unfold gEvR gmF; omega)
          have e66 : M5 o 66 = (gCn (gFo F) p : Int) := (o5 _ _ (by omega)).trans ((mo 66).trans h66)
          have e51 : M5 o 51 = (s : Int) := (o5 _ _ (by omega)).trans ((mo 51).trans h51)
          -- rows of other places, and of this one
          have row : ∀ (M6 : gM), (∀ a q, a = 26 ∨ a = 27 ∨ a = 30 ∨ a = 32 → M6 (o + a) q = M5 (o + a) q) → ∀ q, q < p + 1 → gmRw M6 o q (gE0 F V q) := by
            intro M6 h6 q hq2
            unfold gmRw
            rw [h6 26 _ (by omega), h6 27 _ (by omega), h6 30 _ (by omega)]
            have by6 : ∀ n, gBy M6 (o + 32) (64 * q) n = gBy M5 (o + 32) (64 * q) n := fun n => gBy_congr _ _ _ (fun j _ => h6 32 _ (by omega))
            rw [by6]
            by_cases e : q = p
            · rw [e, ← ev]
              refine ⟨(o5 _ _ (by omega)).trans m26, by rw [e27, et], (o5 _ _ (by omega)).trans m30, ?_⟩
              rw [et]
              exact gBy_of _ _ (fun i hi => hb i (by omega))
            · obtain ⟨b1, b2, b3, b4⟩ := (hq q (by omega)).1
              refine ⟨?_, ?_, ?_, ?_⟩
              · rw [o5 _ _ (by omega), k1 26 q (by omega) (Or.inl e)]; exact b1
              · rw [o5 _ _ (by omega), k1 27 q (by omega) (Or.inl e)]; exact b2
              · rw [o5 _ _ (by omega), k1 30 q (by omega) (Or.inl e)]; exact b3
              · have hlen : (gE0 F V q).tx.length ≤ 64 := by
                  have hV2 := hV q (by omega)
                  unfold gE0
                  split
                  · exact Nat.zero_le _
                  · rename_i nf
                    cases hFq : F q with
                    | none => rw [hV2.1 hFq]; exact Nat.zero_le _
                    | some x =>
                      obtain ⟨S, tg⟩ := x
                      have n3 : gSrt S ≠ 3 := fun y => nf ⟨S, tg, hFq, y⟩
                      have vv := hV.nf hF (by omega) hFq n3
                      rcases gSrt_c S with c | c | c
                      · obtain ⟨z, _, z2⟩ := vv.1 c
                        rw [z2]; exact Nat.zero_le _
                      · rw [vv.2 c]
                        show S.length ≤ 64
                        have hb2 := (hF q S tg hFq).2.2.2.1
                        have z1 := ((gSrt_rf n3).2.2 c).1
                        refine Decidable.byContradiction fun y => hb2 (Or.inr ⟨z1, ?_⟩)
                        rw [if_neg (fun y2 => n3 (by unfold gSrt; rw [if_pos y2]))]
                        omega
                      · exact absurd c n3
                rw [← b4, gBy_len]
                exact gBy_congr _ _ _ (fun j hj => by rw [o5 _ _ (by omega), k1 32 _ (by omega) (by omega)])
          have nxt : w32 ((p : Int) + 1) = ((p + 1 : Nat) : Int) := (w32_id ⟨by omega, by omega⟩).trans (by omega)
          refine w_GM_evaluate_122 hX gs gp ⟨by omega, by omega⟩ ⟨by omega, by omega⟩ ⟨⟨by omega, by omega⟩, fun _ => ?_⟩
          rw [Int.toNat_natCast, e27, ea, e19, nxt]
          refine ⟨fun _ => ⟨⟨by omega, by omega⟩, fun _ => ⟨fun z => ?_, fun z => ?_⟩⟩, fun z => absurd (by omega) z⟩
          · have nf : ¬ gFo F p := by
              rintro ⟨S, tg, e, y⟩
              rw [e] at cl
              exact z (((cl.2 S tg rfl).1).trans y)
            refine ih (p + 1) M5 (by omega) ⟨o05, fun q hq2 => ⟨row M5 (fun _ _ _ => rfl) q hq2, ?_⟩, by rw [gCn_n nf]; exact e66, e51⟩
            by_cases e : q = p
            · rw [e]
              refine ⟨?_, fun y => absurd y nf⟩
              unfold gIx
              rw [if_neg nf]
              exact (o5 _ _ (by omega)).trans m41
            · obtain ⟨_, b1, b2⟩ := hq q (by omega)
              refine ⟨?_, fun y => ?_⟩
              · rw [o5 _ _ (by omega), k1 41 q (by omega) (Or.inl e)]; exact b1
              · rw [o5 _ _ (by omega), k1 40 _ (by omega) (by omega)]; exact b2 y
          · have fo : gFo F p := by
              cases hFp : F p with
              | none => rw [hFp] at cl; rw [cl.1 rfl] at z; exact absurd z (by decide)
              | some x =>
                obtain ⟨S, tg⟩ := x
                rw [hFp] at cl
                exact ⟨S, tg, hFp, ((cl.2 S tg rfl).1).symm.trans z⟩
            have lt := gCn_lt (Q := gFo F) (p := p) (n := 5200) (by omega) fo
            have nx66 : w32 ((gCn (gFo F) p : Int) + 1) = ((gCn (gFo F) p + 1 : Nat) : Int) := (w32_id ⟨by omega, by omega⟩).trans (by omega)
            simp (disch := decide) only [gUp_o, gUp_oo, gUp_ao, e66, Int.toNat_natCast, nx66]
            refine fun _ => ⟨⟨by omega, by omega⟩, fun _ => ⟨⟨by omega, by omega⟩, fun _ => ?_⟩⟩
            have o6 : gOff (gEvR o) M0 (gUp (gUp (gUp M5 (o + 41) p (gCn (gFo F) p : Int)) (o + 40) (gCn (gFo F) p) (p : Int)) o 66 ((gCn (gFo F) p + 1 : Nat) : Int)) := by
              refine ((o05.up ?_).up ?_).up ?_ <;> unfold gEvR <;> omega
            refine ih (p + 1) _ (by omega) ⟨o6, fun q hq2 => ⟨row _ (fun a q ha => ?_) q hq2, ?_⟩, ?_, ?_⟩
            · rw [gUp_a (by omega), gUp_a (by omega), gUp_a (by omega)]
            · by_cases e : q = p
              · rw [e]
                refine ⟨?_, fun _ => ?_⟩
                · unfold gIx
                  rw [if_pos fo, gUp_a (by omega), gUp_a (by omega), gUp_eq]
                · rw [gUp_a (by omega), gUp_eq]
              · obtain ⟨_, b1, b2⟩ := hq q (by omega)
                refine ⟨?_, fun y => ?_⟩
                · rw [gUp_a (by omega), gUp_a (by omega), gUp_k e, o5 _ _ (by omega), k1 41 q (by omega) (Or.inl e)]; exact b1
                · have ne : gCn (gFo F) q ≠ gCn (gFo F) p := fun y2 => e (gCn_inj y fo y2)
                  rw [gUp_a (by omega), gUp_k ne, gUp_a (by omega), o5 _ _ (by omega), k1 40 _ (by omega) (by omega)]; exact b2 y
            · rw [gUp_eq, gCn_y fo]
            · rw [gUp_k (by decide), gUp_a (by omega), gUp_a (by omega)]; exact e51
        | succ u ihu =>
          intro j M5 hj o5 hb
          have e27 : M5 (o + 27) p = (tx.length : Int) := (o5 _ _ (by omega)).trans m27
          have o05 := o1.tr (o5.mono (fun a k h => by unfold gEvR; omega : ∀ a k, (a = o + 32 ∧ 64 * p ≤ k ∧ k < 64 * p + 64) → gEvR o a k))
          obtain ⟨L, L1, L2⟩ := hL (fun y => by rw [y] at hj; have : j + (u + 1) = 0 := hj; omega)
          obtain ⟨b1, b2, b3⟩ := L2.b (j := j) (by omega)
          have e20 : M5 (o + 20) (s * 5200 + p) = (L : Int) := (o05 _ _ (by unfold gEvR gmF; omega)).trans L1
          have e1 : M5 (o + 1) (L + j) = tx.getD j 0 := (o05 _ _ (by unfold gEvR gmF; omega)).trans b1
          have l2 := L2.2.2.1
          refine w_GM_evaluate_122 hX gs gp ⟨by omega, by omega⟩ ⟨by omega, by omega⟩ ⟨⟨by omega, by omega⟩, fun _ => ?_⟩
          rw [Int.toNat_natCast, e27, ea, e20, show ((L : Int) + (j : Int)).toNat = L + j by omega, e1, gByte_id ⟨by omega, by omega⟩, show (64 * (p : Int) + (j : Int)).toNat = 64 * p + j by omega, w32_id (x := (j : Int) + 1) ⟨by omega, by omega⟩, show (j : Int) + 1 = ((j + 1 : Nat) : Int) by omega]
          refine ⟨fun z => absurd z (by omega), fun _ => ⟨⟨by omega, by omega⟩, fun _ => ⟨⟨by omega, by omega⟩, fun _ => ⟨⟨by omega, by omega⟩, ihu (j + 1) _ (by omega) (o5.up ⟨rfl, by omega, by omega⟩) (fun i hi => ?_)⟩⟩⟩⟩
          by_cases e : i = j
          · rw [e, gUp_eq]
          · rw [gUp_k (by omega)]; exact hb i (by omega)
      exact key tx.length 0 N0 (by omega) (gOff.rf _ _) (fun i hi => absurd hi (Nat.not_lt_zero _))
    have s19 : M (o + 19) (s * 5200 + p) = M0 (o + 19) (s * 5200 + p) := sm 19 _ (by decide) (by decide)
    have s20 : M (o + 20) (s * 5200 + p) = M0 (o + 20) (s * 5200 + p) := sm 20 _ (by decide) (by decide)
    have s21 : M (o + 21) (s * 5200 + p) = M0 (o + 21) (s * 5200 + p) := sm 21 _ (by decide) (by decide)
    have s23 : M (o + 23) (s * 5200 + p) = M0 (o + 23) (s * 5200 + p) := sm 23 _ (by decide) (by decide)
    refine w_GM_evaluate_12 hX gs gp ⟨fun z => absurd z (by omega), fun _ => ?_⟩
    rw [ea, Int.toNat_natCast]
    simp (disch := decide) only [gUp_oo, s19, s20, s21, s23]
    have okp : (0 : Int) ≤ (p : Int) ∧ (p : Int) < 5200 := ⟨by omega, by omega⟩
    have oka : (0 : Int) ≤ (s : Int) * 5200 + (p : Int) ∧ (s : Int) * 5200 + (p : Int) < 218400 := ⟨by omega, by omega⟩
    cases hFp : F p with
    | none =>
      rw [hFp] at cl
      have e19 := cl.1 rfl
      have nf : ¬ gFo F p := fun ⟨S, tg, e, _⟩ => by rw [hFp] at e; cases e
      have f := s122 0 0 [] (0, 0, []) (by unfold gE0; rw [if_neg nf, (hV p (by omega)).1 hFp]) rfl rfl rfl (by decide) (fun y => absurd rfl y)
      rw [e19]
      exact ⟨okp, oka, fun _ => ⟨fun _ => ⟨oka, fun _ => ⟨okp, oka, fun _ => ⟨fun _ => ⟨okp, oka, fun _ => ⟨fun _ => ⟨okp, f⟩, fun y => absurd y (by decide)⟩⟩, fun y => absurd y (by decide)⟩⟩⟩, fun y => absurd y (by decide)⟩⟩
    | some x =>
      obtain ⟨S, tg⟩ := x
      rw [hFp] at cl
      obtain ⟨e19, c1, c2, c3⟩ := cl.2 S tg rfl
      rw [e19]
      rcases gSrt_c S with c | c | c
      · have n3 : gSrt S ≠ 3 := by rw [c]; decide
        have nf : ¬ gFo F p := fun ⟨S2, tg2, e, y⟩ => by rw [hFp] at e; cases e; exact n3 y
        obtain ⟨z, z1, z2⟩ := (hV.nf hF (by omega) hFp n3).1 c
        have e23 := c1 c
        rw [z1] at e23
        cases e23
        have f := s122 1 (M0 (o + 23) (s * 5200 + p)) [] (gN (M0 (o + 23) (s * 5200 + p))) (by unfold gE0; rw [if_neg nf, z2]) rfl rfl rfl (by decide) (fun y => absurd rfl y)
        rw [c]
        exact ⟨okp, oka, fun _ => ⟨fun _ => ⟨oka, fun _ => ⟨okp, oka, fun _ => ⟨fun y => absurd rfl y, fun _ => ⟨oka, fun _ => ⟨okp, oka, fun _ => ⟨fun _ => ⟨okp, f⟩, fun y => absurd y (by decide)⟩⟩⟩⟩⟩⟩, fun y => absurd y (by decide)⟩⟩
      · have n3 : gSrt S ≠ 3 := by rw [c]; decide
        have nf : ¬ gFo F p := fun ⟨S2, tg2, e, y⟩ => by rw [hFp] at e; cases e; exact n3 y
        have z2 := (hV.nf hF (by omega) hFp n3).2 c
        obtain ⟨L, L1, L2, L3, L4⟩ := c2 c
        have hl : S.length ≤ 64 := by
          have hb2 := (hF p S tg hFp).2.2.2.1
          have z1 := ((gSrt_rf n3).2.2 c).1
          refine Decidable.byContradiction fun y => hb2 (Or.inr ⟨z1, ?_⟩)
          rw [if_neg (fun y2 => n3 (by unfold gSrt; rw [if_pos y2]))]
          omega
        have f := s122 2 0 S (gTxt S) (by unfold gE0; rw [if_neg nf, z2]) rfl rfl rfl hl (fun _ => ⟨L, L1, L3⟩)
        rw [c, L2, L1, w32_id (x := ((L + S.length : Nat) : Int) - (L : Int)) ⟨by omega, by omega⟩, show ((L + S.length : Nat) : Int) - (L : Int) = (S.length : Int) by omega]
        exact ⟨okp, oka, fun _ => ⟨fun _ => ⟨oka, fun _ => ⟨okp, oka, fun _ => ⟨fun _ => ⟨okp, oka, fun _ => ⟨fun y => absurd rfl y, fun _ => ⟨oka, fun _ => ⟨oka, fun _ => ⟨okp, f⟩⟩⟩⟩⟩, fun y => absurd y (by decide)⟩⟩⟩, fun y => absurd y (by decide)⟩⟩
      · have fo : gFo F p := ⟨S, tg, hFp, c⟩
        have f := s122 0 0 [] (0, 0, []) (by unfold gE0; rw [if_pos fo]) rfl rfl rfl (by decide) (fun y => absurd rfl y)
        rw [c]
        exact ⟨okp, oka, fun _ => ⟨fun y => absurd rfl y, fun _ => ⟨okp, oka, fun _ => ⟨fun _ => ⟨okp, oka, fun _ => ⟨fun _ => ⟨okp, f⟩, fun y => absurd y (by decide)⟩⟩, fun y => absurd y (by decide)⟩⟩⟩⟩
end geS
