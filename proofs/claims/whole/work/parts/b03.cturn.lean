/-! The class's Values: a value turned into what is asked. -/
section gbT
variable {l : Launch} {G : gG} {d : Nat} {X : gX} {M : gM} {v n : Nat} {i : Int} {w : gVl} {Q : gQ}
theorem gVs1 (v i : Nat) : gVs v i (v + 1) i := Or.inl ⟨rfl, rfl⟩
theorem gVs2 (v i : Nat) : gVs v i (v + 2) i := Or.inr (Or.inl ⟨rfl, rfl⟩)
theorem gVs3 (v i j : Nat) : gVs v i (v + 4 + i) j := Or.inr (Or.inr rfl)
theorem c_Vl_toNumber {k : Int → gM → Prop} (hV : gvX X v n) (hi : 0 ≤ i ∧ i < (n : Int)) (hw : gvAt M v i.toNat w) (ok : gvOk w) (h0 : gToN w = none → k 0 M) (h1 : ∀ u, gToN w = some u → ∀ M2, gOff (gVs v i.toNat) M M2 → gvAt M2 v i.toNat u → k 1 M2) : cZ l G y_Vl_toNumber (gRm (d + 1)) true [gR G v, gI i] X M k := by
  obtain ⟨a1, a2, a3⟩ := hw
  have hr := gv_row hV hi
  have hr2 : 1 ≤ v + 4 + i.toNat ∧ v + 4 + i.toNat ≤ X.1 ∧ X.2.1 (v + 4 + i.toNat) = (2, 64) ∧ 64 ≤ 2147483647 := ⟨hr.2.2.1, hr.2.2.2, hr.2.1, by decide⟩
  refine e_Vl_toNumber (w_Vl_toNumber_0 hV (gv_i hV hi) ?_)
  simp only [a1, a2]
  refine ⟨hi, fun _ => ⟨hi, fun _ => ⟨fun e => ⟨hi, h1 ⟨1, w.nm, []⟩ (by unfold gToN; rw [if_neg e]) _ ((gOff.rf _ M).up (gVs1 _ _)) ⟨gUp_eq _ _ _ _, ?_, rfl⟩⟩, fun e => ⟨hi, ?_⟩⟩⟩⟩
  · simp (disch := omega) only [gUp_eq, gUp_a, gUp_k, gCp_a, gCp_out, gFl_a, gFl_out]
    exact a2
  · obtain ⟨e1, e2⟩ := ok.2.2.2.1 e
    have eT : gBy M (v + 4 + i.toNat) (Int.toNat 0) (w.nm - 0).toNat = w.tx := by
      rw [show (w.nm - 0).toNat = w.tx.length by omega]
      exact a3
    have eN : gToN w = (gNum w.tx).map (fun x => ⟨1, x, []⟩) := if_pos e
    refine c_Vl_isNumber hr2 ⟨by decide, by omega⟩ ⟨by omega, by omega⟩ ?_ ?_
    · rw [eT]
      intro hn
      exact ⟨fun q => absurd rfl q, fun _ => h0 (by rw [eN, hn]; rfl)⟩
    · rw [eT]
      intro z hz
      refine ⟨fun _ => ⟨hi, c_Vl_numberIn hr2 ⟨by decide, by omega⟩ ⟨by omega, by omega⟩ (z := z) (by rw [eT]; exact hz) ⟨hi, hi, h1 ⟨1, z, []⟩ (by rw [eN, hz]; rfl) _ (((gOff.rf _ M).up (gVs2 _ _)).up (gVs1 _ _)) ⟨gUp_eq _ _ _ _, ?_, rfl⟩⟩⟩, fun q => absurd q (by decide)⟩
      simp (disch := omega) only [gUp_eq, gUp_a, gUp_k, gCp_a, gCp_out, gFl_a, gFl_out]
theorem c_Vl_toTruth {k : Int → gM → Prop} (hV : gvX X v n) (hi : 0 ≤ i ∧ i < (n : Int)) (hw : gvAt M v i.toNat w) (h0 : gToB w = none → k 0 M) (h1 : ∀ u, gToB w = some u → ∀ M2, gOff (gVs v i.toNat) M M2 → gvAt M2 v i.toNat u → k 1 M2) : cZ l G y_Vl_toTruth (gRm (d + 1 + 1)) true [gR G v, gI i] X M k := by
  obtain ⟨a1, a2, a3⟩ := hw
  refine e_Vl_toTruth (w_Vl_toTruth_0 hV (gv_i hV hi) ?_)
  simp only [a1, a2]
  refine ⟨hi, fun _ => ⟨fun e => ⟨hi, fun _ => ⟨fun e2 => c_Vl_setTruth hV hi (by decide) (h1 ⟨3, 0, []⟩ ?_ _ (gVset_off _ _ _ _ _) (gVset_at _ _ _ _ _)), fun e2 => c_Vl_setTruth hV hi (by decide) (h1 ⟨3, 1, []⟩ ?_ _ (gVset_off _ _ _ _ _) (gVset_at _ _ _ _ _))⟩⟩, fun e => h0 (if_pos e)⟩⟩
  · unfold gToB; rw [if_neg e, if_pos e2]
  · unfold gToB; rw [if_neg e, if_neg e2]
theorem c_Vl_writeWord {t : Nat} {k : gM → Prop} (hV : gvX X v n) (hO : gOld G Q) (hi : 0 ≤ i ∧ i < (n : Int)) (ht : t < 66) (hl : gSl t ≤ 64) (h : ∀ M2, gOff (gVs v i.toNat) M M2 → M2 (v + 1) i.toNat = M (v + 1) i.toNat → M2 (v + 2) i.toNat = (gSl t : Int) → gBy M2 (v + 4 + i.toNat) 0 (gSby.getD t []).length = gSby.getD t [] → k M2) : cV l G y_Vl_writeWord (gRm (d + 5)) true [gR G v, gI i, .ref (Q.2.1 t)] X M k := by
  have gi := gv_i hV hi
  have key : ∀ (m q : Nat), q + m = gSl t → wp l G y_Vl_writeWord (gRm (d + 5)) true (kkV X k) true 2 [.val (gR G v), .val (gI i), .val (.ref (Q.2.1 t)), .val (gI (q : Int))] [] X (gFl M (v + 4 + i.toNat) 0 (gSc t) q) 0 0 := by
    intro m
    induction m with
    | zero =>
      intro q hq
      have e : q = gSl t := by omega
      subst e
      refine w_Vl_writeWord_2 hV hO gi ⟨by omega, by omega⟩ ht ⟨fun _ => ⟨hi, h _ ?_ ?_ ?_ ?_⟩, fun a => absurd (by omega) a⟩
      · exact ((gOff.rf _ M).fl (fun j _ _ => gVs3 _ _ _)).up (gVs2 _ _)
      · simp (disch := omega) only [gUp_eq, gUp_a, gUp_k, gCp_a, gCp_out, gFl_a, gFl_out]
      · simp (disch := omega) only [gUp_eq, gUp_a, gUp_k, gCp_a, gCp_out, gFl_a, gFl_out]
      · refine gBy_of _ _ (fun j hj => ?_)
        rw [gUp_a (by omega), gFl_in (by omega) (by unfold gSl; omega)]
        unfold gSc
        congr 1
        omega
    | succ m ih =>
      intro q hq
      have i1 := ih (q + 1) (by omega)
      have hb := gSc_ok ht q
      refine w_Vl_writeWord_2 hV hO gi ⟨by omega, by omega⟩ ht ⟨fun a => absurd a (by omega), fun _ => ⟨hi, ⟨by omega, by omega⟩, ⟨by omega, by omega⟩, ?_⟩⟩
      rw [gI_w, Int.toNat_natCast, gByte_id (gByte_ok _), gByte_id ⟨by omega, by omega⟩]
      rw [← gFl_s, Nat.zero_add] at i1
      exact i1
  refine e_Vl_writeWord (w_Vl_writeWord_0 hV hO gi ht ?_)
  have k0 := key (gSl t) 0 (by omega)
  rw [gFl_0] at k0
  exact k0
theorem c_jMath_abs_2 {x : Int} {k : Int → gM → Prop} (hx : -9223372036854775808 < x ∧ x < 9223372036854775808) (h : k (x.natAbs : Int) M) : cL l G y_jMath_abs_2 (gRm d) false [gL x] X M k := by
  refine e_jMath_abs_2 (w_jMath_abs_2_0 ⟨by omega, hx.2⟩ ⟨fun e => ?_, fun e => ?_⟩)
  · rw [show (x.natAbs : Int) = x by omega] at h; exact h
  · rw [show (x.natAbs : Int) = -x by omega] at h
    rw [w64_id ⟨by omega, by omega⟩]; exact h
theorem c_Vl_writeDigits {x : Int} {k : gM → Prop} (hV : gvX X v n) (hi : 0 ≤ i ∧ i < (n : Int)) (hx : g64 x) (hM : M (v + 2) i.toNat = x) (h : ∀ M2, gOff (gVs v i.toNat) M M2 → M2 (v + 1) i.toNat = M (v + 1) i.toNat → M2 (v + 2) i.toNat = ((gDL x).reverse.length : Int) → gBy M2 (v + 4 + i.toNat) 0 (gDL x).reverse.length = (gDL x).reverse → k M2) : cV l G y_Vl_writeDigits (gRm (d + 1)) true [gR G v, gI i] X M k := by
  have gi := gv_i hV hi
  have hlen := gDL_len hx
  have hr := gv_row hV hi
  have hr2 : 1 ≤ v + 4 + i.toNat ∧ v + 4 + i.toNat ≤ X.1 ∧ X.2.1 (v + 4 + i.toNat) = (2, 64) := ⟨hr.2.2.1, hr.2.2.2, hr.2.1⟩
  -- the second loop: ends change places
  have two : ∀ (m q : Nat), q + m = (gDL x).length / 2 → wp l G y_Vl_writeDigits (gRm (d + 1)) true (kkV X k) true 98 [.val (gR G v), .val (gI i), .val (gR G (v + 4 + i.toNat)), .unset, .unset, .val (gI ((gDL x).length : Int)), .val (gI (q : Int)), .unset] [] X (gFl M (v + 4 + i.toNat) 0 (fun p => if p < q ∨ (gDL x).length - q ≤ p then (gDL x).getD ((gDL x).length - 1 - p) 0 else (gDL x).getD p 0) (gDL x).length) 0 0 := by
    intro m
    induction m with
    | zero =>
      intro q hq
      refine w_Vl_writeDigits_98 hV gi ⟨by omega, by omega⟩ ⟨by omega, by omega⟩ hr2 ⟨fun _ => ⟨hi, h _ ?_ ?_ ?_ ?_⟩, fun a => absurd (by rw [Int.tdiv_eq_ediv_of_nonneg (by omega), w32_id ⟨by omega, by omega⟩]; omega) a⟩
      · exact ((gOff.rf _ M).fl (fun j _ _ => gVs3 _ _ _)).up (gVs2 _ _)
      · simp (disch := omega) only [gUp_eq, gUp_a, gUp_k, gCp_a, gCp_out, gFl_a, gFl_out]
      · rw [List.length_reverse]; simp (disch := omega) only [gUp_eq, gUp_a, gUp_k, gCp_a, gCp_out, gFl_a, gFl_out]
      · refine gBy_of _ _ (fun j hj => ?_)
        rw [List.length_reverse] at hj
        rw [gUp_a (by omega), gFl_in (by omega) (by omega), Nat.zero_add, Nat.sub_zero]
        rw [List.getD_eq_getElem?_getD (l := (gDL x).reverse), List.getElem?_reverse hj, List.getD_eq_getElem?_getD, List.getD_eq_getElem?_getD]
        by_cases c : j < q ∨ (gDL x).length - q ≤ j
        · rw [if_pos c]
        · rw [if_neg c, show (gDL x).length - 1 - j = j by omega]
    | succ m ih =>
      intro q hq
      have i1 := ih (q + 1) (by omega)
      refine w_Vl_writeDigits_98 hV gi ⟨by omega, by omega⟩ ⟨by omega, by omega⟩ hr2 ⟨fun a => absurd a (by rw [Int.tdiv_eq_ediv_of_nonneg (by omega), w32_id ⟨by omega, by omega⟩]; omega), fun _ => ⟨⟨by omega, by omega⟩, fun c1 => ⟨⟨by omega, by omega⟩, fun c2 => ⟨⟨by omega, by omega⟩, ⟨by omega, by omega⟩, ?_⟩⟩⟩⟩
      rw [gI_w, gByte_id c2, gByte_id c1]
      rw [show ((gDL x).length : Int) - 1 - (q : Int) = (((gDL x).length - 1 - q : Nat) : Int) by omega, Int.toNat_natCast, Int.toNat_natCast]
      rw [gFl_in (j := (gDL x).length - 1 - q) (by omega) (by omega), gFl_in (j := q) (by omega) (by omega)]
      have eM : (gUp (gUp (gFl M (v + 4 + i.toNat) 0 (fun p => if p < q ∨ (gDL x).length - q ≤ p then (gDL x).getD ((gDL x).length - 1 - p) 0 else (gDL x).getD p 0) (gDL x).length) (v + 4 + i.toNat) q ((fun p => if p < q ∨ (gDL x).length - q ≤ p then (gDL x).getD ((gDL x).length - 1 - p) 0 else (gDL x).getD p 0) ((gDL x).length - 1 - q - 0))) (v + 4 + i.toNat) ((gDL x).length - 1 - q) ((fun p => if p < q ∨ (gDL x).length - q ≤ p then (gDL x).getD ((gDL x).length - 1 - p) 0 else (gDL x).getD p 0) (q - 0))) = gFl M (v + 4 + i.toNat) 0 (fun p => if p < q + 1 ∨ (gDL x).length - (q + 1) ≤ p then (gDL x).getD ((gDL x).length - 1 - p) 0 else (gDL x).getD p 0) (gDL x).length := by
        funext c j
        unfold gUp gFl
        dsimp only
        generalize (gDL x).length = L at *
        generalize (gDL x).getD = F at *
        by_cases hc : c = v + 4 + i.toNat
        · subst hc
          by_cases j1 : j = L - 1 - q
          · subst j1
            rw [if_pos ⟨rfl, rfl⟩, if_neg (by omega), if_pos ⟨rfl, by omega, by omega⟩, if_pos (by omega)]
            congr 1
            omega
          · rw [if_neg (fun q => j1 q.2)]
            by_cases j2 : j = q
            · subst j2
              rw [if_pos ⟨rfl, rfl⟩, if_neg (by omega), if_pos ⟨rfl, by omega, by omega⟩, if_pos (by omega)]
              rfl
            · rw [if_neg (fun q => j2 q.2)]
              by_cases j3 : j < L
              · have g : v + 4 + i.toNat = v + 4 + i.toNat ∧ 0 ≤ j ∧ j < 0 + L := ⟨rfl, by omega, by omega⟩
                rw [if_pos g, if_pos g]
                by_cases j4 : j - 0 < q ∨ L - q ≤ j - 0
                · rw [if_pos j4, if_pos (by omega)]
                · rw [if_neg j4, if_neg (by omega)]
              · rw [if_neg (by omega), if_neg (by omega)]
        · rw [if_neg (fun q => hc q.1), if_neg (fun q => hc q.1), if_neg (fun q => hc q.1), if_neg (fun q => hc q.1)]
      rw [eM]
      exact i1
  have mid : ∀ L : Int, L = ((gDL x).length : Int) → wp l G y_Vl_writeDigits (gRm (d + 1)) true (kkV X k) true 98 [.val (gR G v), .val (gI i), .val (gR G (v + 4 + i.toNat)), .unset, .unset, .val (gI L), .val (gI 0), .unset] [] X (gFl M (v + 4 + i.toNat) 0 (fun p => (gDL x).getD p 0) (gDL x).length) 0 0 := by
    intro L hL
    subst hL
    have w := two ((gDL x).length / 2) 0 (by omega)
    have e : gFl M (v + 4 + i.toNat) 0 (fun p => if p < 0 ∨ (gDL x).length - 0 ≤ p then (gDL x).getD ((gDL x).length - 1 - p) 0 else (gDL x).getD p 0) (gDL x).length = gFl M (v + 4 + i.toNat) 0 (fun p => (gDL x).getD p 0) (gDL x).length := by
      funext c j
      unfold gFl
      by_cases hc : c = v + 4 + i.toNat ∧ 0 ≤ j ∧ j < 0 + (gDL x).length
      · rw [if_pos hc, if_pos hc]
        exact if_neg (by omega)
      · rw [if_neg hc, if_neg hc]
    rw [e] at w
    exact w
  -- the first loop: digits, the last one first
  have one : ∀ (m q : Nat) (r : Int) (pre : List Int) (mo : Int), r.natAbs ≤ m → g64 r → pre.length = q → (mo = 1 → gDg x.natAbs = pre ++ gDg r.natAbs) → (mo = 0 → gDg x.natAbs = pre) → (mo = 0 ∨ mo = 1) → wp l G y_Vl_writeDigits (gRm (d + 1)) true (kkV X k) true 20 [.val (gR G v), .val (gI i), .val (gR G (v + 4 + i.toNat)), .val (gL r), .unset, .val (gI (q : Int)), .val (gI mo), .unset] [] X (gFl M (v + 4 + i.toNat) 0 (fun p => (gDL x).getD p 0) q) 0 0 := by
    have fin : ∀ (q : Nat) (r : Int) (pre : List Int), g64 r → pre.length = q → gDg x.natAbs = pre → wp l G y_Vl_writeDigits (gRm (d + 1)) true (kkV X k) true 20 [.val (gR G v), .val (gI i), .val (gR G (v + 4 + i.toNat)), .val (gL r), .unset, .val (gI (q : Int)), .val (gI 0), .unset] [] X (gFl M (v + 4 + i.toNat) 0 (fun p => (gDL x).getD p 0) q) 0 0 := by
      intro q r pre gr hq hD
      have hql : q ≤ (gDL x).length := by unfold gDL; rw [List.length_append, hD, hq]; omega
      refine w_Vl_writeDigits_20 hV gi hr2 gr ⟨by omega, by omega⟩ ⟨by omega, by omega⟩ ⟨fun _ => ⟨hi, ?_⟩, fun a => absurd rfl a⟩
      rw [gFl_a (by omega), hM]
      refine fun _ => ⟨fun e => ?_, fun e => ⟨⟨by omega, by omega⟩, ?_⟩⟩
      · have hL : (gDL x).length = q := by unfold gDL; rw [List.length_append, hD, hq, if_neg (by omega)]; rfl
        have w := mid (q : Int) (by omega)
        rw [hL] at w
        exact w
      · have hL : (gDL x).length = q + 1 := by unfold gDL; rw [List.length_append, hD, hq, if_pos (by omega)]; rfl
        have w := mid (w32 ((q : Int) + 1)) (by rw [w32_id ⟨by omega, by omega⟩]; omega)
        rw [hL, ← gFl_s, Nat.zero_add] at w
        have e45 : (gDL x).getD q 0 = 45 := by
          unfold gDL
          rw [hD, if_pos (by omega), ← hq, List.getD_eq_getElem?_getD, List.getElem?_append_right (Nat.le_refl _), Nat.sub_self]
          rfl
        rw [e45] at w
        rw [Int.toNat_natCast, gByte_id (by decide)]
        exact w
    intro m
    induction m with
    | zero =>
      intro q r pre mo hr0 gr hq hD hE hmo
      rcases hmo with rfl | rfl
      · exact fin q r pre gr hq (hE rfl)
      · have e0 : r = 0 := by omega
        subst e0
        have hD1 := hD rfl
        have ep : gDg x.natAbs = pre ++ [48] := by rw [hD1, gDg_s (by decide)]; rfl
        have hql : q < (gDL x).length := by unfold gDL; rw [List.length_append, ep, List.length_append, hq]; show q < q + 1 + _; omega
        refine w_Vl_writeDigits_20 hV gi hr2 gr ⟨by omega, by omega⟩ ⟨by omega, by omega⟩ ⟨fun a => absurd a (by decide), fun _ => ⟨fun a => absurd a (by omega), fun _ => c_jMath_abs_2 (by decide) ⟨⟨by omega, by omega⟩, fun _ => ?_, fun a => absurd (by decide) a⟩⟩⟩
        rw [gI_w, Int.toNat_natCast]
        have w := fin (q + 1) (w64 (Int.tdiv 0 10)) (pre ++ [48]) (w64_ok _) (by rw [List.length_append, hq]; rfl) ep
        rw [← gFl_s, Nat.zero_add] at w
        have e48 : (gDL x).getD q 0 = 48 := by
          unfold gDL
          rw [ep, List.append_assoc, ← hq, List.getD_eq_getElem?_getD, List.getElem?_append_right (Nat.le_refl _), Nat.sub_self]
          rfl
        rw [e48] at w
        exact w
    | succ m ih =>
      intro q r pre mo hr0 gr hq hD hE hmo
      rcases hmo with rfl | rfl
      · exact fin q r pre gr hq (hE rfl)
      · have hD1 := hD rfl
        have gt := g_tmod10 r
        have gd := g_tdiv10 r
        have na : (r.tmod 10).natAbs = r.natAbs % 10 := by split at gt <;> omega
        have nd : (r.tdiv 10).natAbs = r.natAbs / 10 := by split at gd <;> omega
        have hc : ∃ tl, gDg r.natAbs = (48 + ((r.natAbs % 10 : Nat) : Int)) :: tl := by
          by_cases e : r.natAbs / 10 = 0
          · exact ⟨[], gDg_s e⟩
          · exact ⟨_, gDg_b e⟩
        obtain ⟨tl, htl⟩ := hc
        have ep : gDg x.natAbs = pre ++ (48 + ((r.natAbs % 10 : Nat) : Int)) :: tl := by rw [hD1, htl]
        have hql : q < (gDL x).length := by unfold gDL; rw [List.length_append, ep, List.length_append, hq, List.length_cons]; omega
        have eC : (gDL x).getD q 0 = 48 + ((r.natAbs % 10 : Nat) : Int) := by
          unfold gDL
          rw [ep, List.append_assoc, ← hq, List.getD_eq_getElem?_getD, List.getElem?_append_right (Nat.le_refl _), Nat.sub_self]
          rfl
        have e64 : w64 (r.tdiv 10) = r.tdiv 10 := w64_id (g64_tdiv gr (by omega))
        have hU : gUp (gFl M (v + 4 + i.toNat) 0 (fun p => (gDL x).getD p 0) q) (v + 4 + i.toNat) (Int.toNat (q : Int)) (gByte (gByte (48 + ((r.tmod 10).natAbs : Int)))) = gFl M (v + 4 + i.toNat) 0 (fun p => (gDL x).getD p 0) (q + 1) := by
          rw [na, gByte_id (gByte_ok _), gByte_id ⟨by omega, by omega⟩, ← gFl_s, Nat.zero_add, Int.toNat_natCast, eC]
        refine w_Vl_writeDigits_20 hV gi hr2 gr ⟨by omega, by omega⟩ ⟨by omega, by omega⟩ ⟨fun a => absurd a (by decide), fun _ => ⟨fun a => absurd a (by omega), fun _ => c_jMath_abs_2 ⟨by split at gt <;> omega, by split at gt <;> omega⟩ ⟨⟨by omega, by omega⟩, fun e => ?_, fun e => ?_⟩⟩⟩
        · rw [gI_w, hU]
          refine fin (q + 1) _ (pre ++ [48 + ((r.natAbs % 10 : Nat) : Int)]) (w64_ok _) (by rw [List.length_append, hq]; rfl) ?_
          rw [hD1, gDg_s (by rw [e64] at e; omega)]
        · rw [gI_w, hU, e64]
          rw [e64] at e
          have eb : ¬ r.natAbs / 10 = 0 := by omega
          refine ih (q + 1) (r.tdiv 10) (pre ++ [48 + ((r.natAbs % 10 : Nat) : Int)]) 1 (by omega) (g64_tdiv gr (by omega)) (by rw [List.length_append, hq]; rfl) (fun _ => ?_) (fun a => absurd a (by decide)) (Or.inr rfl)
          rw [hD1, nd, gDg_b eb, List.append_assoc]
          rfl
  refine e_Vl_writeDigits (w_Vl_writeDigits_0 hV gi ?_)
  rw [hM]
  refine ⟨hi, hi, fun _ => ?_⟩
  have w := one x.natAbs 0 x [] 1 (Nat.le_refl _) hx rfl (fun _ => rfl) (fun a => absurd a (by decide)) (Or.inr rfl)
  rw [gFl_0] at w
  exact w
theorem c_Vl_toText {k : gM → Prop} (hV : gvX X v n) (hO : gOld G Q) (hi : 0 ≤ i ∧ i < (n : Int)) (hw : gvAt M v i.toNat w) (ok : gvOk w) (h : ∀ M2, gOff (gVs v i.toNat) M M2 → gvAt M2 v i.toNat (gToT w) → k M2) : cV l G y_Vl_toText (gRm (d + 6)) true [gR G v, gI i] X M k := by
  obtain ⟨a1, a2, a3⟩ := hw
  refine e_Vl_toText (Q := Q) (w_Vl_toText_0 hV hO (gv_i hV hi) ?_)
  simp only [a1, a2]
  refine ⟨hi, fun _ => ⟨fun e => ⟨hi, fun _ => ⟨fun e2 => ⟨hi, h _ ((gOff.rf _ M).up (gVs1 _ _)) ?_⟩, fun e2 => ⟨hi, fun _ => ⟨fun e3 => c_Vl_writeWord hV hO hi (by decide) (by decide) ?_, fun e3 => c_Vl_writeWord hV hO hi (by decide) (by decide) ?_⟩⟩⟩⟩, fun e => c_Vl_writeDigits hV hi ok.2.2.1 a2 ?_⟩⟩
  · have eT : gToT w = ⟨2, w.nm, w.tx⟩ := by unfold gToT; rw [if_neg e, if_neg e2]
    rw [eT]
    refine ⟨gUp_eq _ _ _ _, ?_, ?_⟩
    · simp (disch := omega) only [gUp_eq, gUp_a, gUp_k, gCp_a, gCp_out, gFl_a, gFl_out]
      exact a2
    · exact (gBy_congr _ _ _ (fun j hj => gUp_a (by omega))).trans a3
  · intro M2 o1 o2 o3 o4
    have eT : gToT w = gTxt [70, 65, 76, 83, 69] := by unfold gToT; rw [if_neg e, if_pos e2, if_pos e3]
    refine ⟨hi, h _ (o1.up (gVs1 _ _)) ?_⟩
    rw [eT]
    refine ⟨gUp_eq _ _ _ _, ?_, ?_⟩
    · simp (disch := omega) only [gUp_eq, gUp_a, gUp_k, gCp_a, gCp_out, gFl_a, gFl_out]
      exact o3
    · exact (gBy_congr _ _ _ (fun j hj => gUp_a (by omega))).trans o4
  · intro M2 o1 o2 o3 o4
    have eT : gToT w = gTxt [84, 82, 85, 69] := by unfold gToT; rw [if_neg e, if_pos e2, if_neg e3]
    refine ⟨hi, h _ (o1.up (gVs1 _ _)) ?_⟩
    rw [eT]
    refine ⟨gUp_eq _ _ _ _, ?_, ?_⟩
    · simp (disch := omega) only [gUp_eq, gUp_a, gUp_k, gCp_a, gCp_out, gFl_a, gFl_out]
      exact o3
    · exact (gBy_congr _ _ _ (fun j hj => gUp_a (by omega))).trans o4
  · intro M2 o1 o2 o3 o4
    have eT : gToT w = gTxt (gDL w.nm).reverse := by unfold gToT; rw [if_pos e]
    refine ⟨hi, h _ (o1.up (gVs1 _ _)) ?_⟩
    rw [eT]
    refine ⟨gUp_eq _ _ _ _, ?_, ?_⟩
    · simp (disch := omega) only [gUp_eq, gUp_a, gUp_k, gCp_a, gCp_out, gFl_a, gFl_out]
      exact o3
    · exact (gBy_congr _ _ _ (fun j hj => gUp_a (by omega))).trans o4
theorem c_Vl_turn {a : Int} {k : Int → gM → Prop} (hV : gvX X v n) (hO : gOld G Q) (hi : 0 ≤ i ∧ i < (n : Int)) (ha : g32 a) (hw : gvAt M v i.toNat w) (ok : gvOk w) (h0 : gTurn w a = none → k 0 M) (h1 : ∀ u, gTurn w a = some u → ∀ M2, gOff (gVs v i.toNat) M M2 → gvAt M2 v i.toNat u → k 1 M2) : cZ l G y_Vl_turn (gRm (d + 7)) true [gR G v, gI i, gI a] X M k := by
  refine e_Vl_turn (w_Vl_turn_0 hV (gv_i hV hi) ha ⟨fun e => ?_, fun e => ?_, fun e => ?_, fun e => ?_⟩)
  · have eT : gTurn w a = gToB w := by unfold gTurn; rw [if_neg (by omega), if_neg (by omega), if_pos e]
    rw [eT] at h0 h1
    exact c_Vl_toTruth hV hi hw h0 h1
  · have eT : gTurn w a = gToN w := by unfold gTurn; rw [if_pos e]
    rw [eT] at h0 h1
    exact c_Vl_toNumber hV hi hw ok h0 h1
  · have eT : gTurn w a = some (gToT w) := by unfold gTurn; rw [if_neg (by omega), if_pos e]
    rw [eT] at h1
    exact c_Vl_toText hV hO hi hw ok (fun M2 o1 o2 => h1 _ rfl M2 o1 o2)
  · have eT : gTurn w a = some w := by unfold gTurn; rw [if_neg e.2.1, if_neg e.2.2, if_neg e.1]
    exact h1 w eT M (gOff.rf _ _) hw
end gbT
