/-! The reference: functions of arguments that are ready. -/
theorem gSgn_bits {x : Int} (hx : g64 x) : w32 (gLor (gLshr x 63) (gLushr (-x) 63)) = gSgn x := by
  have e1 : gLshr x 63 = x / 9223372036854775808 := gLshr_div (n := 63) hx (by decide)
  have hx2 := hx
  unfold g64 at hx2
  unfold gSgn
  by_cases h : x < 0
  · rw [if_pos h, e1, show x / 9223372036854775808 = -1 by omega]
    have : gLor (-1) (gLushr (-x) 63) = -1 := by
      show (BitVec.allOnes 64 ||| gBv (gLushr (-x) 63)).toInt = -1
      rw [BitVec.allOnes_or]
      decide
    rw [this]
    decide
  · rw [if_neg h, e1, show x / 9223372036854775808 = 0 by omega]
    have e2 : gLor 0 (gLushr (-x) 63) = gLushr (-x) 63 := by
      show (0#64 ||| gBv (gLushr (-x) 63)).toInt = _
      rw [BitVec.zero_or, gBv_int (show g64 (gLushr (-x) 63) from g64_of _)]
    rw [e2]
    by_cases h0 : 0 < x
    · rw [if_pos h0]
      have e3 : gLushr (-x) 63 = (gBv (-x) >>> (63 : Nat)).toInt := by
        show (gBv (-x) >>> (((Int32.ofInt 63).toInt64.toUInt64 &&& Int64.toUInt64 63).toBitVec % 64)).toInt = _
        rw [show gBv (-x) >>> (((Int32.ofInt 63).toInt64.toUInt64 &&& Int64.toUInt64 63).toBitVec % 64) = gBv (-x) >>> (((Int32.ofInt 63).toInt64.toUInt64 &&& Int64.toUInt64 63).toBitVec % 64).toNat from rfl, show (((Int32.ofInt 63).toInt64.toUInt64 &&& Int64.toUInt64 63).toBitVec % 64).toNat = 63 from gShu (n := 63) (by decide)]
      have e4 : (gBv (-x)).toInt = -x := gBv_int ⟨by omega, by omega⟩
      have m : (gBv (-x)).msb = true := (g_msb _).mp (by rw [e4]; omega)
      have n1 : 2 ^ 63 ≤ (gBv (-x)).toNat := by
        have := BitVec.msb_eq_decide (gBv (-x))
        rw [m] at this
        exact of_decide_eq_true this.symm
      have n2 := (gBv (-x)).isLt
      have n3 : (gBv (-x) >>> (63 : Nat)).toNat = 1 := by
        rw [BitVec.toNat_ushiftRight, Nat.shiftRight_eq_div_pow]
        omega
      rw [e3, BitVec.toInt_eq_toNat_of_lt (by rw [n3]; decide), n3]
      decide
    · have : x = 0 := by omega
      subst this
      decide
section gcF
variable {l : Launch} {G : gG} {d : Nat} {X : gX} {M : gM} {o t w : Nat} {Q : gQ} {E : Int → gVl} {k : gM → Prop} {as : Nat → gVl}
theorem r_text {f : Int} {s : Nat} (hX : gmX X o) (hw : 34 ≤ w ∧ w ≤ 41) (hf : f = (w : Int) - 14) (hst : s + gSl (gWta w) = t) (hn : t < 1200) (ht : M o 50 = (t : Int)) (hA : ∀ i, i < gSl (gWta w) → gvOk (as i) ∧ gSuit (gSc (gWta w) i) (as i) ∧ gmAt M o (s + i) (as i)) (h : gmPost M o t (gWk E w (as 0) (as 1) (as 2)) k) : cV l G y_GM_text (gRm (d + 1 + 1 + 1)) true [gR G o, gI f, gI (s : Int)] X M k := by
  have hw2 : w = 34 ∨ w = 35 ∨ w = 36 ∨ w = 37 ∨ w = 38 ∨ w = 39 ∨ w = 40 ∨ w = 41 := by omega
  have l1 : 1 ≤ gSl (gWta w) ∧ gSc (gWta w) 0 = 116 := by rcases hw2 with rfl | rfl | rfl | rfl | rfl | rfl | rfl | rfl <;> decide
  have l2 : 37 ≤ w → 2 ≤ gSl (gWta w) := by rcases hw2 with rfl | rfl | rfl | rfl | rfl | rfl | rfl | rfl <;> decide
  obtain ⟨oa, sa, ha⟩ := hA 0 (by omega)
  have ka := gSuit_t sa l1.2
  obtain ⟨na, la⟩ := oa.2.2.2.1 ka
  have gs : g32 (s : Int) := ⟨by omega, by omega⟩
  have gf : g32 f := ⟨by omega, by omega⟩
  have b0 : (0 : Int) ≤ (s : Int) ∧ (s : Int) < 1200 := ⟨by omega, by omega⟩
  have fin : ∀ {V : gVl}, gmPost M o t V k → gmPost M o t V (fun M4 => wp l G y_GM_text (gRm (d + 1 + 1 + 1)) true (kkV X k) true 366 [.unset, .unset, .unset, .unset, .unset, .unset, .unset, .unset] [] X M4 0 0) := fun hh M2 o2 a2 t2 => w_GM_text_366 (d := d + 1 + 1) hX (hh M2 o2 a2 t2)
  -- letters changed one by one
  have cas : ∀ g : Int → Int, (f = 21 ∧ g = gUpc ∨ f = 22 ∧ g = gLoc) → gmPost M o t (gTxt ((as 0).tx.map g)) k → cV l G y_GM_push (gRm (d + 1 + 1)) true [gR G o, gI 2, gL 0] X M (fun M5 => (g32 (M5 o 50) → ((0 ≤ (s : Int) ∧ (s : Int) < 1200) ∧ (g32 (M5 (o + 35) (Int.toNat (s : Int))) → ((0 ≤ (M5 o 50) - 1 ∧ (M5 o 50) - 1 < 1200) ∧ (wp l G y_GM_text (gRm (d + 1 + 1 + 1)) true (kkV X k) true 105 [.val (gR G o), .val (gI f), .val (gI (s : Int)), .unset, .unset, .val (gI 0), .unset, .unset] [] X (gUp M5 (o + 35) (Int.toNat ((M5 o 50) - 1)) (M5 (o + 35) (Int.toNat (s : Int)))) 0 0)))))) := by
    intro g hg hh
    refine c_GM_push hX (g32_c (x := 2) rfl) (g64_c (x := 0) rfl) ⟨by omega, by omega⟩ ?_
    have pa := gmPush_at (M := M) (o := o) (t := t) (s := 2) (v := 0) ht
    have a1 : gmAt (gmPush M o 2 0) o s (as 0) := ha.keepF oa.tx64 pa.1 (by omega)
    rw [pa.2.2, Int.toNat_natCast, a1.2.1, show (t : Int) + 1 - 1 = (t : Int) by omega, Int.toNat_natCast]
    refine fun _ => ⟨b0, fun _ => ⟨⟨by omega, by omega⟩, ?_⟩⟩
    have key : ∀ (m q : Nat), q + m = (as 0).tx.length → wp l G y_GM_text (gRm (d + 1 + 1 + 1)) true (kkV X k) true 105 [.val (gR G o), .val (gI f), .val (gI (s : Int)), .unset, .unset, .val (gI (q : Int)), .unset, .unset] [] X (gFl (gUp (gmPush M o 2 0) (o + 35) t ((as 0).tx.length : Int)) (o + 37) (64 * t) (fun j => g ((as 0).tx.getD j 0)) q) 0 0 := by
      intro m
      induction m with
      | zero =>
        intro q hq
        have e : q = (as 0).tx.length := by omega
        subst e
        refine w_GM_text_105 (d := d + 1 + 1) hX gf gs ⟨by omega, by omega⟩ ⟨b0, ?_⟩
        rw [Int.toNat_natCast, gFl_oo (by decide), gUp_k (by omega), a1.2.1]
        refine fun _ => ⟨fun _ => w_GM_text_366 (d := d + 1 + 1) hX (hh _ ?_ ⟨?_, ?_, fun q => absurd rfl q, ?_⟩ ?_), fun y => absurd (Int.le_refl _) y⟩
        · exact (pa.1.up (by unfold gmF; omega)).fl (fun j _ _ => by unfold gmF; omega)
        · rw [gFl_oo (by decide), gUp_oo (by decide), pa.2.1.1]; rfl
        · rw [gFl_oo (by decide), gUp_eq]
          show _ = (((as 0).tx.map g).length : Int)
          rw [List.length_map]
        · show gBy _ (o + 37) (64 * t) ((as 0).tx.map g).length = (as 0).tx.map g
          refine gBy_of _ _ (fun j hj => ?_)
          rw [List.length_map] at hj
          rw [gFl_in (by omega) (by omega), show 64 * t + j - 64 * t = j by omega, List.getD_eq_getElem?_getD, List.getD_eq_getElem?_getD, List.getElem?_map, List.getElem?_eq_getElem hj]
          rfl
        · rw [gFl_o (by decide), gUp_o (by decide)]
          exact pa.2.2
      | succ m ih =>
        intro q hq
        have i1 := ih (q + 1) (by omega)
        have hbx := oa.2.2.2.2.2.2.2.2 ((as 0).tx.getD q 0) (by rw [List.getD_eq_getElem?_getD, List.getElem?_eq_getElem (by omega)]; exact List.getElem_mem _)
        generalize hMM : gFl (gUp (gmPush M o 2 0) (o + 35) t ((as 0).tx.length : Int)) (o + 37) (64 * t) (fun j => g ((as 0).tx.getD j 0)) q = MM
        have m1 : MM (o + 35) s = ((as 0).tx.length : Int) := by rw [← hMM, gFl_oo (by decide), gUp_k (by omega), a1.2.1]
        have m2 : MM (o + 37) (64 * s + q) = (as 0).tx.getD q 0 := by
          rw [← hMM, gFl_out (by omega), gUp_oo (by decide)]
          exact gBy_at a1.2.2.2 (by omega)
        have m3 : MM o 50 = (t : Int) + 1 := by rw [← hMM, gFl_o (by decide), gUp_o (by decide)]; exact pa.2.2
        have last : ∀ x6 : Int, x6 = g ((as 0).tx.getD q 0) → 0 ≤ x6 ∧ x6 < 128 → wp l G y_GM_text (gRm (d + 1 + 1 + 1)) true (kkV X k) true 171 [.val (gR G o), .val (gI f), .val (gI (s : Int)), .unset, .unset, .val (gI (q : Int)), .val (gI x6), .unset] [] X MM 0 0 := by
          intro x6 e6 b6
          refine w_GM_text_171 (d := d + 1 + 1) hX gf gs ⟨by omega, by omega⟩ ⟨by omega, by omega⟩ ?_
          rw [m3, show 64 * ((t : Int) + 1 - 1) + (q : Int) = ((64 * t + q : Nat) : Int) by omega, Int.toNat_natCast, gI_w, gByte_id (gByte_ok _), gByte_id ⟨by omega, by omega⟩]
          refine fun _ => ⟨⟨by omega, by omega⟩, ?_⟩
          rw [← gFl_s, hMM, ← e6] at i1
          exact i1
        refine w_GM_text_105 (d := d + 1 + 1) hX gf gs ⟨by omega, by omega⟩ ⟨b0, ?_⟩
        rw [Int.toNat_natCast, m1]
        refine fun _ => ⟨fun y => absurd y (by omega), fun _ => c_GM_byteAt hX b0 ⟨by omega, by omega⟩ ?_⟩
        rw [show (64 * (s : Int) + (q : Int)).toNat = 64 * s + q by omega, m2]
        intro _
        generalize (as 0).tx.getD q 0 = c at last hbx
        have s148 : ∀ x6 : Int, (f = 21 → x6 = g c) → (f = 22 → x6 = c) → 0 ≤ x6 ∧ x6 < 128 → wp l G y_GM_text (gRm (d + 1 + 1 + 1)) true (kkV X k) true 148 [.val (gR G o), .val (gI f), .val (gI (s : Int)), .unset, .unset, .val (gI (q : Int)), .val (gI x6), .unset] [] X MM 0 0 := by
          intro x6 e1 e2 b6
          refine w_GM_text_148 (d := d + 1 + 1) hX gf gs ⟨by omega, by omega⟩ ⟨by omega, by omega⟩ ⟨fun n22 => last x6 (e1 (by omega)) b6, fun y22 => ?_⟩
          have eg : g = gLoc := by
            rcases hg with u | u
            · omega
            · exact u.2
          have ec := e2 y22
          subst ec
          rw [eg] at last
          unfold gLoc at last
          refine ⟨fun z => last x6 (by rw [if_neg (by omega)]) b6, fun z => ⟨fun z2 => last x6 (by rw [if_neg (by omega)]) b6, fun z2 => ?_⟩⟩
          rw [w32_id (x := x6 + 32) ⟨by omega, by omega⟩]
          exact last _ (by rw [if_pos (by omega)]) ⟨by omega, by omega⟩
        refine ⟨fun n21 => s148 c (fun e => absurd e n21) (fun _ => rfl) ⟨by omega, by omega⟩, fun y21 => ?_⟩
        have eg : g = gUpc := by
          rcases hg with u | u
          · exact u.2
          · omega
        rw [eg] at s148
        unfold gUpc at s148
        refine ⟨fun z => s148 c (fun _ => by rw [if_neg (by omega)]) (fun e => by omega) ⟨by omega, by omega⟩, fun z => ⟨fun z2 => s148 c (fun _ => by rw [if_neg (by omega)]) (fun e => by omega) ⟨by omega, by omega⟩, fun z2 => ?_⟩⟩
        rw [w32_id (x := c + -32) ⟨by omega, by omega⟩]
        exact s148 _ (fun _ => by rw [if_pos (by omega)]; omega) (fun e => by omega) ⟨by omega, by omega⟩
    have k0 := key (as 0).tx.length 0 (by omega)
    rw [gFl_0] at k0
    exact k0
  have main : ∀ s0 : Int, g64 s0 → (37 ≤ w → s0 = M (o + 36) (s + 1)) → wp l G y_GM_text (gRm (d + 1 + 1 + 1)) true (kkV X k) true 18 [.val (gR G o), .val (gI f), .val (gI (s : Int)), .unset, .unset, .unset, .unset, .unset] [gL s0] X M 0 0 := by
    intro s0 g0 hs0
    refine w_GM_text_18 (d := d + 1 + 1) hX gf gs g0 ?_
    rcases hw2 with rfl | rfl | rfl | rfl | rfl | rfl | rfl | rfl
    · have hf : f = 20 := hf
      simp only [hf, Int.reduceEq, Int.reduceNeg, not_true_eq_false, not_false_eq_true, true_and, and_true, false_and, and_false, true_implies, false_implies, implies_true, and_self]
      refine ⟨b0, ?_⟩
      rw [Int.toNat_natCast, show M (o + 35) s = ((as 0).tx.length : Int) from ha.2.1]
      refine fun _ => r_push hX (g32_c (x := 1) rfl) ⟨by omega, by omega⟩ hn ht (fin ?_)
      have h2 : gmPost M o t (gN (as 0).nm) k := h
      rw [na] at h2
      exact h2
    · have hf2 : f = 21 := hf
      simp only [hf2, Int.reduceEq, Int.reduceNeg, not_true_eq_false, not_false_eq_true, true_and, and_true, false_and, and_false, true_implies, false_implies, implies_true, and_self]
      have := cas gUpc (Or.inl ⟨hf2, rfl⟩) h
      rw [hf2] at this
      exact this
    · have hf2 : f = 22 := hf
      simp only [hf2, Int.reduceEq, Int.reduceNeg, not_true_eq_false, not_false_eq_true, true_and, and_true, false_and, and_false, true_implies, false_implies, implies_true, and_self]
      have := cas gLoc (Or.inr ⟨hf2, rfl⟩) h
      rw [hf2] at this
      exact this
    · have hf : f = 23 := hf
      simp only [hf, Int.reduceEq, Int.reduceNeg, not_true_eq_false, not_false_eq_true, true_and, and_true, false_and, and_false, true_implies, false_implies, implies_true, and_self]
      obtain ⟨ob, sb, hb⟩ := hA 1 (by decide)
      have kb : (as 1).kd = 1 := sb
      have e1 : s0 = (as 1).nm := (hs0 (by decide)).trans (hb.2.2.1 (by omega))
      rw [e1] at g0 ⊢
      have h2 : gmPost M o t (if (as 1).nm < 0 then gE 4 else gTxt ((as 0).tx.take (as 1).nm.toNat)) k := h
      refine ⟨fun z => ?_, fun z => ?_⟩
      · rw [if_neg (by omega)] at h2
        refine r_piece hX (by omega) hn ht ha oa (by decide) ⟨z, g0⟩ (fin ?_)
        have e2 : ((as 0).tx.drop (0 : Int).toNat).take (gmPl ((as 0).tx.length : Int) 0 (as 1).nm).toNat = (as 0).tx.take (as 1).nm.toNat := by
          show ((as 0).tx.drop 0).take _ = _
          rw [List.drop_zero]
          unfold gmPl
          by_cases q : (as 1).nm ≤ ((as 0).tx.length : Int)
          · rw [if_pos (by omega), show max 0 (min ((as 0).tx.length : Int) (0 + (as 1).nm) - 0) = (as 1).nm by omega]
          · rw [List.take_of_length_le (by split <;> omega), List.take_of_length_le (by omega)]
        rw [e2]
        exact h2
      · rw [if_pos (by omega)] at h2
        exact r_fault hX (by decide) hn ht (fin h2)
    · have hf : f = 24 := hf
      simp only [hf, Int.reduceEq, Int.reduceNeg, not_true_eq_false, not_false_eq_true, true_and, and_true, false_and, and_false, true_implies, false_implies, implies_true, and_self]
      obtain ⟨ob, sb, hb⟩ := hA 1 (by decide)
      have kb : (as 1).kd = 1 := sb
      have e1 : s0 = (as 1).nm := (hs0 (by decide)).trans (hb.2.2.1 (by omega))
      rw [e1] at g0 ⊢
      have h2 : gmPost M o t (if (as 1).nm < 0 then gE 4 else gTxt ((as 0).tx.drop ((as 0).tx.length - (as 1).nm.toNat))) k := h
      rw [Int.toNat_natCast, show M (o + 35) s = ((as 0).tx.length : Int) from ha.2.1]
      have pc : ∀ f0 : Int, 0 ≤ f0 ∧ f0 ≤ 64 → f0.toNat = (as 0).tx.length - (as 1).nm.toNat → ¬ (as 1).nm < 0 → wp l G y_GM_text (gRm (d + 1 + 1 + 1)) true (kkV X k) true 265 [.unset, .unset, .unset, .unset, .unset, .unset, .unset, .unset] [gL f0, gI (s : Int), gR G o] X M 0 0 := by
        intro f0 bf ef nn
        rw [if_neg nn] at h2
        refine w_GM_text_265 (d := d + 1 + 1) hX ⟨by omega, by omega⟩ gs (r_piece hX (by omega) hn ht ha oa bf ⟨by decide, g64_c (x := 64) rfl⟩ (fin ?_))
        have e2 : ((as 0).tx.drop f0.toNat).take (gmPl ((as 0).tx.length : Int) f0 64).toNat = (as 0).tx.drop ((as 0).tx.length - (as 1).nm.toNat) := by
          rw [List.take_of_length_le (by rw [List.length_drop]; unfold gmPl; rw [if_pos (by decide)]; omega), ef]
        rw [e2]
        exact h2
      refine ⟨fun z => ⟨b0, fun _ => ⟨fun z2 => ⟨b0, fun _ => ?_⟩, fun z2 => pc 0 (by decide) (by show 0 = _; omega) (by omega)⟩⟩, fun z => ?_⟩
      · rw [w64_id (x := ((as 0).tx.length : Int) - (as 1).nm) ⟨by omega, by omega⟩]
        exact pc _ ⟨by omega, by omega⟩ (by omega) (by omega)
      · rw [if_pos (by omega)] at h2
        exact r_fault hX (by decide) hn ht (fin h2)
    · have hf : f = 25 := hf
      simp only [hf, Int.reduceEq, Int.reduceNeg, not_true_eq_false, not_false_eq_true, true_and, and_true, false_and, and_false, true_implies, false_implies, implies_true, and_self]
      obtain ⟨ob, sb, hb⟩ := hA 1 (by decide)
      obtain ⟨oc, sc, hc⟩ := hA 2 (by decide)
      have kb : (as 1).kd = 1 := sb
      have kc : (as 2).kd = 1 := sc
      have e1 : s0 = (as 1).nm := (hs0 (by decide)).trans (hb.2.2.1 (by omega))
      rw [e1] at g0 ⊢
      have e2 : M (o + 36) ((s : Int) + 2).toNat = (as 2).nm := by rw [show ((s : Int) + 2).toNat = s + 2 by omega]; exact hc.2.2.1 (by omega)
      rw [e2]
      have sl : gSl (gWta 39) = 3 := by decide
      have h2 : gmPost M o t (if (as 1).nm < 1 ∨ (as 2).nm < 0 then gE 4 else gTxt (((as 0).tx.drop ((as 1).nm - 1).toNat).take (as 2).nm.toNat)) k := h
      have bad : ((as 1).nm < 1 ∨ (as 2).nm < 0) → wp l G y_GM_text (gRm (d + 1 + 1 + 1)) true (kkV X k) true 297 [.val (gR G o), .unset, .unset, .unset, .unset, .unset, .unset, .unset] [] X M 0 0 := fun q => by
        rw [if_pos q] at h2
        exact w_GM_text_297 (d := d + 1 + 1) hX (r_fault hX (by decide) hn ht (fin h2))
      refine ⟨⟨by omega, by omega⟩, fun g2 => ⟨fun z => bad (Or.inl z), fun z => ⟨fun z2 => ?_, fun z2 => bad (Or.inr (by omega))⟩⟩⟩
      rw [if_neg (by omega)] at h2
      have g0' := g0
      unfold g64 at g0'
      refine c_minL ⟨by omega, by omega⟩ (g64_c (x := 64) rfl) (r_piece hX (by omega) hn ht ha oa ⟨by omega, by omega⟩ ⟨z2, g2⟩ (fin ?_))
      have e3 : ((as 0).tx.drop (min ((as 1).nm - 1) 64).toNat).take (gmPl ((as 0).tx.length : Int) (min ((as 1).nm - 1) 64) (as 2).nm).toNat = ((as 0).tx.drop ((as 1).nm - 1).toNat).take (as 2).nm.toNat := by
        by_cases q : (as 1).nm - 1 ≤ 64
        · rw [show min ((as 1).nm - 1) 64 = (as 1).nm - 1 by omega]
          unfold gmPl
          by_cases q2 : ((as 1).nm - 1) + (as 2).nm ≤ ((as 0).tx.length : Int)
          · rw [if_pos (by omega), show max 0 (min ((as 0).tx.length : Int) ((as 1).nm - 1 + (as 2).nm) - ((as 1).nm - 1)) = (as 2).nm by omega]
          · rw [List.take_of_length_le (by rw [List.length_drop]; split <;> omega), List.take_of_length_le (by rw [List.length_drop]; omega)]
        · rw [List.drop_of_length_le (by omega), List.drop_of_length_le (by omega), List.take_nil, List.take_nil]
      rw [e3]
      exact h2
    · have hf : f = 26 := hf
      simp only [hf, Int.reduceEq, Int.reduceNeg, not_true_eq_false, not_false_eq_true, true_and, and_true, false_and, and_false, true_implies, false_implies, implies_true, and_self]
      obtain ⟨ob, sb, hb⟩ := hA 1 (by decide)
      have h2 : gmPost M o t (match gFind (as 0).tx (as 1).tx 0 with | some p => gN ((p : Int) + 1) | none => gE 4) k := h
      rw [show (s : Int) + 1 = ((s + 1 : Nat) : Int) by omega]
      have sl : gSl (gWta 40) = 2 := by decide
      refine r_find (p := 0) hX (by omega) (by omega) ha oa hb ob (by decide) ?_
      have lb := ob.tx64
      cases hq : gFind (as 0).tx (as 1).tx 0 with
      | none =>
        rw [hq] at h2
        refine ⟨fun z => absurd z (by decide), fun _ => r_fault hX (by decide) hn ht (fin h2)⟩
      | some p =>
        rw [hq] at h2
        have bp := gFnd_ok _ _ _ _ _ hq
        refine ⟨fun _ => ?_, fun z => absurd (by show (0 : Int) ≤ (p : Int); omega) z⟩
        dsimp only
        rw [w32_id (x := (p : Int) + 1) ⟨by omega, by omega⟩]
        exact r_push hX (g32_c (x := 1) rfl) ⟨by omega, by omega⟩ hn ht (fin h2)
    · have hf : f = 27 := hf
      simp only [hf, Int.reduceEq, Int.reduceNeg, not_true_eq_false, not_false_eq_true, true_and, and_true, false_and, and_false, true_implies, false_implies, implies_true, and_self]
      obtain ⟨ob, sb, hb⟩ := hA 1 (by decide)
      obtain ⟨oc, sc, hc⟩ := hA 2 (by decide)
      have sl : gSl (gWta 41) = 3 := by decide
      exact r_replace hX (by omega) hn ht ha oa hb ob hc oc (fin h)
  refine e_GM_text (w_GM_text_0 (d := d + 1 + 1) hX gf gs ⟨fun z => main 0 (g64_c (x := 0) rfl) (fun q => by omega), fun z => ⟨⟨by omega, by have := l2 (by omega); omega⟩, ?_⟩⟩)
  rw [show ((s : Int) + 1).toNat = s + 1 by omega]
  exact fun g => main _ g (fun _ => rfl)
end gcF
