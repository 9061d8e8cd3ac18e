/-! The class's Reader: refs and texts. -/
section gdJ
variable {l : Launch} {G : gG} {d : Nat} {X : gX} {M M2 : gM} {c : Nat} {Q : gQ} {S : List Int} {ts : List gTkn} {id R0 a cs bs mk cb rf : Nat} {rs : List gRf} {k : gM → Prop}
theorem gAr_off {p s : Int} : gOff (gRdR c id cs rf bs mk) M (gAr M c id rf p s) := by
  unfold gAr
  have o1 : gOff (gRdR c id cs rf bs mk) M (gUp (gUp M (c + 11) rf p) (c + 12) rf s) := by
    refine ((gOff.rf _ M).up ?_).up ?_ <;> unfold gRdR <;> omega
  have o2 : gRdR c id cs rf bs mk (c + 2) 13 := by unfold gRdR; omega
  split
  · exact o1.up o2
  · exact (o1.up (by unfold gRdR; omega)).up o2
theorem gAr_st {p s : Int} (h : gRwh M c a cs rf bs) : gRwh (gAr M c id rf p s) c a cs (rf + 1) bs := by
  obtain ⟨h1, h2, h3, h4⟩ := h
  unfold gAr gRwh
  split
  · simp (disch := omega) only [gUp_eq, gUp_a, gUp_k]
    exact ⟨h1, h2, trivial, h4⟩
  · simp (disch := omega) only [gUp_eq, gUp_a, gUp_k]
    exact ⟨h1, h2, trivial, h4⟩
theorem gAr_f {p s : Int} : gAr M c id rf p s (c + 14) 5 = M (c + 14) 5 := by
  unfold gAr
  split
  · rw [gUp_a (by omega), gUp_a (by omega), gUp_a (by omega)]
  · rw [gUp_a (by omega), gUp_a (by omega), gUp_a (by omega), gUp_a (by omega)]
theorem gRng_app (rs : List gRf) (r : gRf) : gRng (rs ++ [r]) = gRng rs + (if r.2.2 = 1 then 1 else 0) := by
  unfold gRng
  rw [List.countP_append, List.countP_cons, List.countP_nil]
  by_cases q : r.2.2 = 1
  · rw [if_pos q, if_pos (decide_eq_true q)]
  · rw [if_neg q, if_neg (fun y => q (of_decide_eq_true y))]
theorem gRfM.ar {r : gRf} (h : gRfM M c id R0 rs) (h4 : gAnd (r.2.1 + 4 * r.2.2) 4 = 0 ↔ r.2.2 ≠ 1) : gRfM (gAr M c id (R0 + rs.length) r.1 (r.2.1 + 4 * r.2.2)) c id R0 (rs ++ [r]) := by
  have key : ∀ M3 : gM, (∀ i, i < rs.length → M3 (c + 11) (R0 + i) = M (c + 11) (R0 + i) ∧ M3 (c + 12) (R0 + i) = M (c + 12) (R0 + i)) → M3 (c + 11) (R0 + rs.length) = r.1 → M3 (c + 12) (R0 + rs.length) = r.2.1 + 4 * r.2.2 → M3 (c + 8) id = ((gRng (rs ++ [r]) : Nat) : Int) → gRfM M3 c id R0 (rs ++ [r]) := by
    intro M3 q1 q2 q3 q4
    refine ⟨fun i hi => ?_, q4⟩
    rw [List.length_append] at hi
    have hi : i < rs.length + 1 := hi
    by_cases e : i = rs.length
    · rw [e, List.getD_eq_getElem?_getD, List.getElem?_append_right (Nat.le_refl _), Nat.sub_self]
      exact ⟨q2, q3⟩
    · rw [List.getD_eq_getElem?_getD, List.getElem?_append_left (by omega), ← List.getD_eq_getElem?_getD, (q1 i (by omega)).1, (q1 i (by omega)).2]
      exact h.1 i (by omega)
  unfold gAr
  by_cases z : gAnd (r.2.1 + 4 * r.2.2) 4 = 0
  · rw [if_pos z]
    refine key _ (fun i hi => ?_) ?_ ?_ ?_
    · simp (disch := omega) only [gUp_eq, gUp_a, gUp_k]; exact ⟨trivial, trivial⟩
    · rw [gUp_a (by omega), gUp_a (by omega), gUp_eq]
    · rw [gUp_a (by omega), gUp_eq]
    · rw [gUp_a (by omega), gUp_a (by omega), gUp_a (by omega), h.2, gRng_app, if_neg (h4.1 z)]
      rfl
  · rw [if_neg z]
    refine key _ (fun i hi => ?_) ?_ ?_ ?_
    · simp (disch := omega) only [gUp_eq, gUp_a, gUp_k]; exact ⟨trivial, trivial⟩
    · rw [gUp_a (by omega), gUp_a (by omega), gUp_a (by omega), gUp_eq]
    · rw [gUp_a (by omega), gUp_a (by omega), gUp_eq]
    · rw [gUp_a (by omega), gUp_eq, h.2, gRng_app, if_pos (Decidable.byContradiction fun y => z (h4.2 y))]
      rfl
theorem gAnd_4 {f x : Int} (hf : f = 0 ∨ f = 1 ∨ f = 2 ∨ f = 3) (hx : x = 0 ∨ x = 1 ∨ x = 2) : gAnd (f + 4 * x) 4 = 0 ↔ x ≠ 1 := by
  rcases hf with e | e | e | e <;> rcases hx with y | y | y <;> rw [e, y] <;> decide
/-- a ref of token j is written; x: its corner -/
theorem gRd_ref {j x : Nat} {kk : Int → gM → Prop} (hX : glX X c) (hts : ts.length ≤ 100) (hto : ∀ t ∈ ts, gTkO S t ∧ 1 ≤ t.2.1) (hid : id < 513) (k1 : gRkp M c S ts id R0) (k2 : gRwh M c a cs (R0 + rs.length) bs) (k4 : gRfM M c id R0 rs) (k5 : R0 + rs.length ≤ 10340) (hj : gTK ts j = 19) (hx : x ≤ 2) (h : ∀ M3, gOff (gRdR c id cs (R0 + rs.length) bs mk) M M3 → gRwh M3 c a cs (R0 + (rs ++ [gRfA S ts j (x : Int)]).length) bs → M3 (c + 14) 5 = M (c + 14) 5 → gRfM M3 c id R0 (rs ++ [gRfA S ts j (x : Int)]) → kk (rs.length : Int) M3) : cI l G y_Rd_addRef (gRm (d + 1)) true [gR G (c + 14), gI (j : Int), gI ((4 * x : Nat) : Int)] X M kk := by
  have l1 := gTK_lt (ts := ts) (a := j) (by rw [hj]; decide)
  have ho := (hto _ (gTs_mem l1)).1
  have g8 := gRng_le rs
  have h8 := k4.2
  have hf := gFx_rng S (gTs ts j).2.1
  refine c_Rd_addRef hX k1.1 k1.2.1 hts l1 ho hj (by omega) k1.2.2.1 hid k2.2.2.1 (by omega) k1.2.2.2 (by omega) (by rw [h8]; omega) ?_
  rw [show R0 + rs.length - R0 = rs.length by omega, show ((4 * x : Nat) : Int) = 4 * (x : Int) by omega]
  refine h _ gAr_off ?_ gAr_f ?_
  · rw [List.length_append]
    exact gAr_st k2
  · exact k4.ar (r := gRfA S ts j (x : Int)) (gAnd_4 hf (by show (x : Int) = 0 ∨ (x : Int) = 1 ∨ (x : Int) = 2; omega))
/-- a text is written -/
theorem gRd_text (hX : glX X c) (hts : ts.length ≤ 100) (hto : ∀ t ∈ ts, gTkO S t ∧ 1 ≤ t.2.1) (hln : ∀ x, gTln ts x ≤ 240) (hp : gRpre M c S ts id R0 a cs bs rs) (hk : gTK ts a = 18) (hO : gRpO M c S ts id R0 mk cs a cs bs rs (some (.mulL ((gTs ts a).2.1 + 1 : Nat) (.num ((gTs ts a).2.2 - 1 : Nat)), a + 1, rs)) k) : cV l G y_Cn_emitText (gRm (d + 1)) true [gR G (c + 2), gR G (c + 1), gI (((gTs ts a).2.1 : Int) + 1), gI (((gTs ts a).2.2 : Int) - ((gTs ts a).2.1 : Int) - 2)] X (gUp M (c + 14) 4 ((a + 1 : Nat) : Int)) (fun M9 => k M9) := by
  have l1 := gTK_lt (ts := ts) (a := a) (by rw [hk]; decide)
  have ho := (hto _ (gTs_mem l1)).1
  have h18 := gTkO_18 ho hk
  have hb := gTkO_k ho
  have hln1 := hln (a + 1)
  have hln0 := hln a
  have eln : gTln ts (a + 1) = gTln ts a + ((gTs ts a).2.2 - (gTs ts a).2.1) := rfl
  obtain ⟨k1, k2, k3, k4, k5, k6⟩ := hp.ad l1
  have c5 := hp.2.2.2.2.1
  unfold gRcap at c5
  have hl := k1.1.2.1
  generalize (gTs ts a).2.1 = p at *
  generalize (gTs ts a).2.2 = q at *
  rw [show (p : Int) + 1 = ((p + 1 : Nat) : Int) by omega, show (q : Int) - (p : Int) - 2 = ((q - p - 2 : Nat) : Int) by omega]
  refine c_Cn_emitText hX (by omega) k2.2.1 (by omega) k2.2.2.2 (by omega) ?_
  generalize hM1 : gUp M (c + 14) 4 ((a + 1 : Nat) : Int) = M1 at *
  have oM1 : gOff (gRdR c id cs (R0 + rs.length) bs mk) M M1 := by rw [← hM1]; exact gAd_off
  have o1 : gOff (gRdR c id cs (R0 + rs.length) bs mk) M1 (gUp (gEm (gCp M1 (c + 13) (c + 1) (p + 1) bs (q - p - 2)) c cs 1 ((bs : Int) * 240 + ((q - p - 2 : Nat) : Int))) (c + 2) 14 ((bs + (q - p - 2) : Nat) : Int)) := by
    refine (((gOff.rf _ M1).cp (fun j _ _ => ?_)).tr gEm_off).up ?_ <;> unfold gRdR <;> omega
  have hlen : (gxLn (.mulL ((p + 1 : Nat) : Int) (.num ((q - 1 : Nat) : Int)))).1 = 1 := rfl
  refine hO.2 _ _ _ rfl _ (bs + (q - p - 2)) (oM1.tr o1) ?_ ?_ ?_ ?_ ?_
  · rw [gUp_a (by omega), gEm_f, gCp_a (by omega)]; exact k3
  · rw [hlen]
    unfold gEm gRwh
    simp (disch := omega) only [gUp_eq, gUp_a, gUp_k, gCp_a]
    exact ⟨k2.1, trivial, k2.2.2.1, trivial⟩
  · rw [hlen]
    unfold gRbd
    omega
  · unfold gEm
    refine ⟨fun i hi => ?_, ?_⟩
    · simp (disch := omega) only [gUp_eq, gUp_a, gUp_k, gCp_a]; exact k4.1 i hi
    · simp (disch := omega) only [gUp_eq, gUp_a, gUp_k, gCp_a]; exact k4.2
  · have en : (((q - 1 : Nat) : Int) - ((p + 1 : Nat) : Int)) = ((q - p - 2 : Nat) : Int) := by omega
    refine ⟨bs, ?_, by omega, ?_⟩
    · rw [en]
      unfold gEm gAt2
      simp (disch := omega) only [gUp_eq, gUp_a, gUp_k]
      exact ⟨trivial, trivial⟩
    · rw [en, Int.toNat_natCast, Int.toNat_natCast]
      have e1 : gBy M1 (c + 1) (p + 1) (p + 1 + (q - p - 2) - (p + 1)) = gSbs S (p + 1) (p + 1 + (q - p - 2)) := k1.1.sub (by omega)
      unfold gSbs at e1
      rw [show p + 1 + (q - p - 2) - (p + 1) = q - p - 2 by omega] at e1
      rw [← e1]
      refine gBy_congr _ _ _ (fun j hj => ?_)
      unfold gEm
      rw [gUp_a (by omega), gUp_a (by omega), gUp_a (by omega), gUp_a (by omega), gCp_in (by omega) (by omega), show bs + j - bs = j by omega]
end gdJ
