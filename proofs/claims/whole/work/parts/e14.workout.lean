/-! The reference: the value of one formula. -/
def gmWo (o p : Nat) : Nat → Nat → Prop := fun a k => gmF o 0 a k ∨ (a = o ∧ k = 52) ∨ ((a = o + 26 ∨ a = o + 27 ∨ a = o + 30) ∧ k = p) ∨ (a = o + 32 ∧ 64 * p ≤ k ∧ k < 64 * p + 64)
def gVup (E : Int → gVl) (p : Nat) (v : gVl) : Int → gVl := fun q => if q = (p : Int) then v else E q
theorem gTZ0 : Int.toNat (0 : Int) = 0 := rfl
section geQ
variable {l : Launch} {G : gG} {d : Nat} {X : gX} {M M2 : gM} {o : Nat} {Q : gQ} {E : Int → gVl}
theorem gmEnv.up {p : Nat} {v : gVl} (h : gmEnv M o E) (q : gOff (gmWo o p) M M2) (hv : gvP v) (h1 : M2 (o + 26) p = v.kd) (h2 : M2 (o + 27) p = (v.tx.length : Int)) (h3 : M2 (o + 30) p = if v.kd = 2 then 0 else v.nm) (h4 : gBy M2 (o + 32) (64 * p) v.tx.length = v.tx) : gmEnv M2 o (gVup E p v) := by
  intro r hr
  unfold gVup
  by_cases e : r = p
  · rw [e, if_pos rfl]
    exact ⟨hv, h1, h2, h3, h4⟩
  · rw [if_neg (by omega)]
    obtain ⟨a1, a2, a3, a4, a5⟩ := h r hr
    refine ⟨a1, ?_, ?_, ?_, ?_⟩
    · rw [q _ _ (by unfold gmWo gmF; omega)]; exact a2
    · rw [q _ _ (by unfold gmWo gmF; omega)]; exact a3
    · rw [q _ _ (by unfold gmWo gmF; omega)]; exact a4
    · rw [← a5]
      have hl : (E (r : Int)).tx.length ≤ 64 := by
        by_cases k : (E (r : Int)).kd = 2
        · exact (a1.1.2.2.2.1 k).2
        · rw [a1.1.2.2.2.2.1 k]; exact Nat.zero_le _
      rw [gBy_len]
      exact gBy_congr _ _ _ (fun j hj => q _ _ (by unfold gmWo gmF; omega))
theorem r_wo48 {p : Nat} {V0 : gVl} {k : gM → Prop} (hX : gmX X o) (hp : p < 5200) (hv : gvP V0) (hE : gmEnv M o E) (q : gOff (gmWo o p) M M2) (ha : gmAt M2 o 0 V0) (hk : ∀ M3, gOff (gmWo o p) M M3 → gmEnv M3 o (gVup E p (gxTp V0)) → k M3) : wp l G y_GM_workOut (gRm (d + 1)) true (kkV X k) true 48 [.val (gR G o), .val (gI (p : Int)), .unset, .unset] [] X M2 0 0 := by
  obtain ⟨a1, a2, a3, a4⟩ := ha
  rw [Nat.mul_zero] at a4
  obtain ⟨⟨v1, v2, v3, v4, v5, v6, v7, v8, v9⟩, v10⟩ := id hv
  have gp : g32 (p : Int) := ⟨by omega, by omega⟩
  have fin : ∀ (sv lv nv : Int), sv = (gxTp V0).kd → nv = ((gxTp V0).tx.length : Int) → lv = (if (gxTp V0).kd = 2 then 0 else (gxTp V0).nm) → wp l G y_GM_workOut (gRm (d + 1)) true (kkV X k) true 136 [.val (gR G o), .val (gI (p : Int)), .unset, .val (gI 0)] [] X (gUp (gUp (gUp M2 (o + 26) p sv) (o + 30) p lv) (o + 27) p nv) 0 0 := by
    intro sv lv nv e1 e2 e3
    have tv : gvP (gxTp V0) ∧ (∀ j, j < (gxTp V0).tx.length → M2 (o + 37) j = (gxTp V0).tx.getD j 0 ∧ 32 ≤ (gxTp V0).tx.getD j 0 ∧ (gxTp V0).tx.getD j 0 ≤ 126) ∧ (gxTp V0).tx.length ≤ 64 := by
      unfold gxTp
      split
      · exact ⟨⟨⟨by decide, by decide, g64_c rfl, fun y => absurd y (by decide), fun _ => rfl, fun y => absurd y (by decide), fun y => absurd y (by decide), fun y => absurd y (by decide), fun b hb => absurd hb (List.not_mem_nil)⟩, by decide⟩, fun j hj => absurd hj (Nat.not_lt_zero _), Nat.zero_le _⟩
      · refine ⟨hv, fun j hj => ⟨?_, ?_⟩, ?_⟩
        · have := gBy_at a4 hj
          rw [Nat.zero_add] at this
          exact this
        · refine v9 _ ?_
          rw [List.getD_eq_getElem?_getD, List.getElem?_eq_getElem hj]
          exact List.getElem_mem _
        · by_cases y : V0.kd = 2
          · exact (v4 y).2
          · rw [v5 y]; exact Nat.zero_le _
    generalize gxTp V0 = W at e1 e2 e3 tv hk
    obtain ⟨tv, tb, tl⟩ := tv
    have o1 : gOff (gmWo o p) M (gUp (gUp (gUp M2 (o + 26) p sv) (o + 30) p lv) (o + 27) p nv) := by
      refine ((q.up ?_).up ?_).up ?_ <;> unfold gmWo <;> omega
    have m26 : gUp (gUp (gUp M2 (o + 26) p sv) (o + 30) p lv) (o + 27) p nv (o + 26) p = W.kd := by rw [gUp_a (by omega), gUp_a (by omega), gUp_eq]; exact e1
    have m30 : gUp (gUp (gUp M2 (o + 26) p sv) (o + 30) p lv) (o + 27) p nv (o + 30) p = if W.kd = 2 then 0 else W.nm := by rw [gUp_a (by omega), gUp_eq]; exact e3
    have m27 : gUp (gUp (gUp M2 (o + 26) p sv) (o + 30) p lv) (o + 27) p nv (o + 27) p = (W.tx.length : Int) := by rw [gUp_eq]; exact e2
    have m37 : ∀ j, gUp (gUp (gUp M2 (o + 26) p sv) (o + 30) p lv) (o + 27) p nv (o + 37) j = M2 (o + 37) j := fun j => by rw [gUp_a (by omega), gUp_a (by omega), gUp_a (by omega)]
    generalize gUp (gUp (gUp M2 (o + 26) p sv) (o + 30) p lv) (o + 27) p nv = N0 at o1 m26 m30 m27 m37 ⊢
    have key : ∀ (m j : Nat) (M5 : gM), j + m = W.tx.length → gOff (fun a k => a = o + 32 ∧ 64 * p ≤ k ∧ k < 64 * p + 64) N0 M5 → (∀ i, i < j → M5 (o + 32) (64 * p + i) = W.tx.getD i 0) → wp l G y_GM_workOut (gRm (d + 1)) true (kkV X k) true 136 [.val (gR G o), .val (gI (p : Int)), .unset, .val (gI (j : Int))] [] X M5 0 0 := by
      intro m
      induction m with
      | zero =>
        intro j M5 hj o5 hb
        have e27 : M5 (o + 27) p = (W.tx.length : Int) := (o5 _ _ (by omega)).trans m27
        refine w_GM_workOut_136 hX gp ⟨by omega, by omega⟩ ⟨⟨by omega, by omega⟩, fun _ => ?_⟩
        rw [Int.toNat_natCast, e27]
        refine ⟨fun _ => hk M5 (o1.tr (o5.mono (fun a k h => Or.inr (Or.inr (Or.inr h))))) (hE.up (o1.tr (o5.mono (fun a k h => Or.inr (Or.inr (Or.inr h))))) tv ((o5 _ _ (by omega)).trans m26) e27 ((o5 _ _ (by omega)).trans m30) (gBy_of _ _ (fun i hi => hb i (by omega)))), fun z => absurd (by omega) z⟩
      | succ m ih =>
        intro j M5 hj o5 hb
        have e27 : M5 (o + 27) p = (W.tx.length : Int) := (o5 _ _ (by omega)).trans m27
        obtain ⟨t1, t2, t3⟩ := tb j (by omega)
        have e37 : M5 (o + 37) j = W.tx.getD j 0 := (o5 _ _ (by omega)).trans ((m37 j).trans t1)
        refine w_GM_workOut_136 hX gp ⟨by omega, by omega⟩ ⟨⟨by omega, by omega⟩, fun _ => ?_⟩
        rw [Int.toNat_natCast, e27, Int.toNat_natCast, e37, gByte_id ⟨by omega, by omega⟩, show (64 * (p : Int) + (j : Int)).toNat = 64 * p + j by omega, w32_id (x := (j : Int) + 1) ⟨by omega, by omega⟩, show (j : Int) + 1 = ((j + 1 : Nat) : Int) by omega]
        refine ⟨fun z => absurd z (by omega), fun _ => ⟨⟨by omega, by omega⟩, fun _ => ⟨⟨by omega, by omega⟩, ih (j + 1) _ (by omega) (o5.up ⟨rfl, by omega, by omega⟩) (fun i hi => ?_)⟩⟩⟩
        by_cases e : i = j
        · rw [e, gUp_eq]
        · rw [gUp_k (by omega)]; exact hb i (by omega)
    exact key W.tx.length 0 N0 (by omega) (gOff.rf _ _) (fun i hi => absurd hi (Nat.not_lt_zero _))
  have kdc : V0.kd = 0 ∨ V0.kd = 1 ∨ V0.kd = 2 ∨ V0.kd = 3 ∨ V0.kd = 4 := by omega
  refine w_GM_workOut_48 hX gp ?_
  simp (disch := decide) only [gUp_oo, gTZ0, Int.toNat_natCast, a1, a2]
  have tp0 : V0.kd ≠ 0 → gxTp V0 = V0 := fun y => if_neg y
  rcases kdc with y | y | y | y | y
  · have tp : gxTp V0 = gN 0 := if_pos y
    have f := fin 1 0 0 (by rw [tp]; rfl) (by rw [tp]; rfl) (by rw [tp]; rfl)
    rw [y]
    refine ⟨⟨by decide, by decide⟩, fun _ => ⟨fun z => absurd rfl z, fun _ => ⟨⟨by omega, by omega⟩, ⟨by decide, by decide⟩, fun _ => ⟨fun _ => ⟨⟨by omega, by omega⟩, ⟨by decide, by decide⟩, fun _ => ⟨fun _ => ⟨⟨by omega, by omega⟩, f⟩, fun z => absurd z (by decide)⟩⟩, fun z => absurd rfl z⟩⟩⟩⟩
  · rw [tp0 (by omega)] at fin
    have e0 : V0.tx = [] := v5 (by omega)
    have f := fin 1 (M2 (o + 36) 0) 0 y.symm (by rw [e0]; rfl) (by rw [if_neg (by omega)]; exact a3 (by omega))
    rw [y]
    refine ⟨⟨by decide, by decide⟩, fun _ => ⟨fun _ => ⟨⟨by decide, by decide⟩, fun _ => ⟨⟨by omega, by omega⟩, ⟨by decide, by decide⟩, fun _ => ⟨fun z => absurd z (by decide), fun _ => ⟨⟨by decide, by decide⟩, fun _ => ⟨fun _ => ⟨⟨by decide, by decide⟩, fun _ => ⟨⟨by omega, by omega⟩, ⟨by decide, by decide⟩, fun _ => ⟨fun _ => ⟨⟨by omega, by omega⟩, f⟩, fun z => absurd z (by decide)⟩⟩⟩, fun z => absurd z (by decide)⟩⟩⟩⟩⟩, fun z => absurd z (by decide)⟩⟩
  · rw [tp0 (by omega)] at fin
    have f := fin 2 0 (V0.tx.length : Int) y.symm rfl (by rw [if_pos y])
    rw [y]
    refine ⟨⟨by decide, by decide⟩, fun _ => ⟨fun _ => ⟨⟨by decide, by decide⟩, fun _ => ⟨⟨by omega, by omega⟩, ⟨by decide, by decide⟩, fun _ => ⟨fun z => absurd z (by decide), fun _ => ⟨⟨by decide, by decide⟩, fun _ => ⟨fun z => absurd rfl z, fun _ => ⟨⟨by omega, by omega⟩, ⟨by decide, by decide⟩, fun _ => ⟨fun z => absurd rfl z, fun _ => ⟨⟨by decide, by decide⟩, fun _ => ⟨⟨by omega, by omega⟩, f⟩⟩⟩⟩⟩⟩⟩⟩⟩, fun z => absurd z (by decide)⟩⟩
  · rw [tp0 (by omega)] at fin
    have e0 : V0.tx = [] := v5 (by omega)
    have f := fin 3 (M2 (o + 36) 0) 0 y.symm (by rw [e0]; rfl) (by rw [if_neg (by omega)]; exact a3 (by omega))
    rw [y]
    refine ⟨⟨by decide, by decide⟩, fun _ => ⟨fun _ => ⟨⟨by decide, by decide⟩, fun _ => ⟨⟨by omega, by omega⟩, ⟨by decide, by decide⟩, fun _ => ⟨fun z => absurd z (by decide), fun _ => ⟨⟨by decide, by decide⟩, fun _ => ⟨fun _ => ⟨⟨by decide, by decide⟩, fun _ => ⟨⟨by omega, by omega⟩, ⟨by decide, by decide⟩, fun _ => ⟨fun _ => ⟨⟨by omega, by omega⟩, f⟩, fun z => absurd z (by decide)⟩⟩⟩, fun z => absurd z (by decide)⟩⟩⟩⟩⟩, fun z => absurd z (by decide)⟩⟩
  · rw [tp0 (by omega)] at fin
    have e0 : V0.tx = [] := v5 (by omega)
    have f := fin 4 (M2 (o + 36) 0) 0 y.symm (by rw [e0]; rfl) (by rw [if_neg (by omega)]; exact a3 (by omega))
    rw [y]
    refine ⟨⟨by decide, by decide⟩, fun _ => ⟨fun _ => ⟨⟨by decide, by decide⟩, fun _ => ⟨⟨by omega, by omega⟩, ⟨by decide, by decide⟩, fun _ => ⟨fun z => absurd z (by decide), fun _ => ⟨⟨by decide, by decide⟩, fun _ => ⟨fun _ => ⟨⟨by decide, by decide⟩, fun _ => ⟨⟨by omega, by omega⟩, ⟨by decide, by decide⟩, fun _ => ⟨fun _ => ⟨⟨by omega, by omega⟩, f⟩, fun z => absurd z (by decide)⟩⟩⟩, fun z => absurd z (by decide)⟩⟩⟩⟩⟩, fun z => absurd z (by decide)⟩⟩
theorem r_workOut {s p : Nat} {S tg : List Int} {k : gM → Prop} (hX : gmX X o) (hO : gOld G Q) (hs : M o 51 = (s : Int)) (hs2 : s < 42) (hp : p < 5200) (hcl : gmCl M o s p (some (S, tg))) (h3 : gSrt S = 3) (hok : gCok S tg) (hre : M (o + 25) s ≤ 20750) (hE : gmEnv M o E) (hk : ∀ M3, gOff (gmWo o p) M M3 → gmEnv M3 o (gVup E p (gOut E S tg)) → k M3) : cV l G y_GM_workOut (gRm (d + 110)) true [gR G o, gI (p : Int)] X M k := by
  obtain ⟨f, ra, e20, ⟨L, R, fI, _, f1, _, f8, f9, _, fR, fr, fN, fS⟩, e22, e25, e24⟩ := (hcl.2 S tg rfl).2.2.2 h3
  have gp : g32 (p : Int) := ⟨by omega, by omega⟩
  have et : gTree S = gForm S := by
    unfold gSrt at h3
    unfold gTree
    split at h3
    · rename_i y; rw [if_pos y]
    · split at h3 <;> exact absurd h3 (by decide)
  have o1 : gOff (gmWo o p) M (gUp (gUp M o 52 (p : Int)) o 50 0) := by
    refine ((gOff.rf _ M).up ?_).up ?_ <;> unfold gmWo gmF <;> omega
  have hE1 : gmEnv (gUp (gUp M o 52 (p : Int)) o 50 0) o E := fun r hr => by
    have e : ∀ a j, 1 ≤ a → gUp (gUp M o 52 (p : Int)) o 50 0 (o + a) j = M (o + a) j := fun a j ha => by rw [gUp_a (by omega), gUp_a (by omega)]
    obtain ⟨b1, b2, b3, b4, b5⟩ := hE r hr
    refine ⟨b1, by rw [e 26 _ (by decide)]; exact b2, by rw [e 27 _ (by decide)]; exact b3, by rw [e 30 _ (by decide)]; exact b4, ?_⟩
    refine Eq.trans (gBy_congr _ _ _ (fun j hj => e 32 _ (by decide))) b5
  have t50 : gUp (gUp M o 52 (p : Int)) o 50 0 o 50 = ((0 : Nat) : Int) := gUp_eq _ _ _ _
  have t52 : gUp (gUp M o 52 (p : Int)) o 50 0 o 52 = (p : Int) := by rw [gUp_k (by decide), gUp_eq]
  have t51 : gUp (gUp M o 52 (p : Int)) o 50 0 o 51 = (s : Int) := by rw [gUp_k (by decide), gUp_k (by decide)]; exact hs
  have tO : ∀ a j, 1 ≤ a → gUp (gUp M o 52 (p : Int)) o 50 0 (o + a) j = M (o + a) j := fun a j ha => by rw [gUp_a (by omega), gUp_a (by omega)]
  refine e_GM_workOut (d := d + 109) (w_GM_workOut_0 hX gp fun _ => ?_)
  rw [hs, show ((s : Int) * 5200 + (p : Int)).toNat = s * 5200 + p by omega, e20, Int.toNat_natCast]
  refine ⟨⟨by omega, by omega⟩, fun _ => ⟨⟨by omega, by omega⟩, fun _ => ⟨fun z => ?_, fun z => ?_⟩⟩⟩
  · cases hf : gForm S with
    | none => have := fN hf; omega
    | some q =>
      obtain ⟨e, rs⟩ := q
      obtain ⟨lo, hi, v, v1, v2, v3⟩ := fS e rs hf
      have ht : gTree S = some (e, rs) := et.trans hf
      have wf := gTree_wf ht hok.1 hok.2.2.1
      have er : gRefs S = rs := by unfold gRefs; rw [ht]
      have hn := hok.2.2.2.1
      rw [er] at hn
      have hS : ∀ b ∈ S, 32 ≤ b ∧ b ≤ 126 := fI.2.2.2
      have hC : gmCx (gUp (gUp M o 52 (p : Int)) o 50 0) o L E (fun i => gTt tg i.toNat) S (gPP rs) (gRR rs) := by
        refine ⟨hE1, ⟨by rw [t51]; omega, by rw [t51]; omega, by rw [t52]; omega, by rw [t52]; omega⟩, fun i hi => ?_, hok.tk ht, ?_, fI.2.2.1⟩
        · have hi : 0 ≤ i ∧ i < (rs.length : Int) := hi
          have vra : gmRa (gUp (gUp M o 52 (p : Int)) o 50 0) o (s : Int) (p : Int) i = ((s * 20800 + ra + i.toNat : Nat) : Int) := by
            unfold gmRa
            rw [show ((s : Int) * 5200 + (p : Int)).toNat = s * 5200 + p by omega, tO 22 _ (by decide), e22]
            omega
          refine ⟨⟨hi.1, by have := wf.2.2.2.2; omega⟩, ?_, ?_⟩
          · rw [t51, t52, vra]
            have := wf.2.2.2.2
            omega
          · unfold gmRf
            rw [t51, t52, vra, Int.toNat_natCast, tO 24 _ (by decide)]
            exact e24 i.toNat (by omega)
        · refine gBy_of S L (fun j hj => ?_)
          rw [tO 1 _ (by decide)]
          exact fI.1 j hj
      rw [v1]
      refine (gxGm_all (l := l) (G := G) (X := X) (o := o) (L := L) (E := E) (T := fun i => gTt tg i.toNat) (S := S) (P := gPP rs) (R := gRR rs) hX hO hS e).1 wf.1 wf.2.1 (d + 109) 0 _ v _ (by have := wf.2.2.2.1; omega) hC ?_ t50 (by have := wf.2.2.1; omega) (fun M4 o4 a4 t4 => ?_)
      · exact (v2.kp (fun i j a1 a2 _ _ _ => tO i j (by omega)) (fun j => tO 1 j (by decide))).nd
      · have ev : gOut E S tg = gxTp (gxEv E (fun i => gTt tg i.toNat) S e).1 := by unfold gOut; rw [ht]
        rw [ev] at hk
        exact r_wo48 (d := d + 109) hX hp (gm_vP hC hS wf.1 wf.2.1) hE (o1.tr (o4.mono (fun a k h => Or.inl h))) a4 hk
  · cases hf : gForm S with
    | some q =>
      obtain ⟨e, rs⟩ := q
      obtain ⟨lo, hi, v, v1, v2, v3⟩ := fS e rs hf
      have := v2.1
      omega
    | none =>
      refine r_fault (d := d + 108) hX (by decide) (by decide) t50 (fun M4 o4 a4 t4 => ?_)
      have ev : gOut E S tg = gxTp (gE 1) := by
        unfold gOut
        rw [et, hf]
        rfl
      rw [ev] at hk
      refine r_wo48 (d := d + 109) hX hp ⟨⟨by decide, by decide, g64_c rfl, fun y => absurd y (by decide), fun _ => rfl, fun y => absurd y (by decide), fun y => absurd y (by decide), fun _ => by decide, fun b hb => absurd hb (List.not_mem_nil)⟩, by decide⟩ hE (o1.tr (o4.mono (fun a k h => Or.inl h))) a4 hk
end geQ
