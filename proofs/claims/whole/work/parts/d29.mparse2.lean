/-! The reference's parser: what comes out; literals and refs. -/
section gdAD
variable (M : gM) (o L : Nat) (S : List Int) (ts : List gTkn) (F R0 D ab Nb Rb : Nat) (k : Int → gM → Prop)
def gPbF : Prop := ∀ (v : Int) (M2 : gM) (a' N' R' : Nat), gOff (gPaR o Nb Rb) M M2 → gPct M2 o 1 D a' N' R' → gPbd ab Nb Rb a' N' R' → a' + D ≤ ts.length + 26 → 0 ≤ v ∧ v < 90000 → k v M2
def gPgF (y : gPr) : Prop := ∀ (e : gEx) (a' : Nat) (rs' : List gRf), y = some (e, a', rs') → ∀ (v : Int) (M2 : gM) (N' : Nat), gOff (gPaR o Nb Rb) M M2 → gPst M2 o L S ts F R0 D a' N' rs' → gPbd ab Nb Rb a' N' (R0 + rs'.length) → gxNs M2 o L (L + S.length) Nb N' e v → k v M2
def gPoF (y : gPr) : Prop := (y = none → gPbF M o ts D ab Nb Rb k) ∧ gPgF M o L S ts F R0 D ab Nb Rb k y
end gdAD
section gdAE
variable {l : Launch} {G : gG} {d : Nat} {X : gX} {M M1 M2 : gM} {o L : Nat} {S : List Int} {ts : List gTkn} {F R0 D a N R ab Nb Rb a1 N1 R1 : Nat} {rs : List gRf} {k : Int → gM → Prop}
theorem gPbF.step (h : gPbF M o ts D ab Nb Rb k) (q : gOff (gPaR o Nb Rb) M M1) (b : gPbd ab Nb Rb a1 N1 R1) : gPbF M1 o ts D a1 N1 R1 k := fun v M2 a' N' R' q2 c b2 l hv => h v M2 a' N' R' (q.tr (q2.mono (gPaR_le ⟨b.2.1, b.2.2.2.1⟩))) c (b.tr b2) l hv
theorem gPct.of {b : Int} (h : gPct M o b D a N R) (e : ∀ j, j = 9 ∨ j = 17 ∨ j = 25 ∨ j = 26 ∨ j = 27 → M2 o j = M o j) : gPct M2 o b D a N R := by
  unfold gPct
  rw [e 27 (by omega), e 26 (by omega), e 25 (by omega), e 9 (by omega), e 17 (by omega)]
  exact h
theorem gPas1.ct {b : Int} (h : gPct M o b D a N R) (q : gOff (gPas1 o) M M2) (h27 : M2 o 27 = 1) (h25 : M2 o 25 = ((a + 1 : Nat) : Int)) : gPct M2 o 1 D (a + 1) N R := ⟨h27, (q _ _ (by unfold gPas1; omega)).trans h.2.1, h25, (q _ _ (by unfold gPas1; omega)).trans h.2.2.2.1, (q _ _ (by unfold gPas1; omega)).trans h.2.2.2.2⟩
/-- at one further, in a good state -/
theorem gPst.at1 (hp : gPst M o L S ts F R0 D a N rs) (hl : a < ts.length) : gPst (gUp M o 25 ((a + 1 : Nat) : Int)) o L S ts F R0 D (a + 1) N rs ∧ gOff (gPaR o N (R0 + rs.length)) M (gUp M o 25 ((a + 1 : Nat) : Int)) := by
  obtain ⟨tk, rf, ct, cp, al⟩ := hp
  have q : gOff (gPaR o N (R0 + rs.length)) M (gUp M o 25 ((a + 1 : Nat) : Int)) := (gOff.rf _ _).up (by unfold gPaR; omega)
  refine ⟨⟨tk.kp q, rf.kp q (Nat.le_refl _), ⟨?_, ?_, gUp_eq _ _ _ _, ?_, ?_⟩, ?_, hl⟩, q⟩
  · rw [gUp_k (by decide)]; exact ct.1
  · rw [gUp_k (by decide)]; exact ct.2.1
  · rw [gUp_k (by decide)]; exact ct.2.2.2.1
  · rw [gUp_k (by decide)]; exact ct.2.2.2.2
  · unfold gPcp at cp ⊢
    omega
/-- another depth -/
theorem gPst.dp {E : Nat} (hp : gPst M o L S ts F R0 D a N rs) : gPst (gUp M o 26 (E : Int)) o L S ts F R0 E a N rs ∧ gOff (gPaR o N (R0 + rs.length)) M (gUp M o 26 (E : Int)) := by
  obtain ⟨tk, rf, ct, cp, al⟩ := hp
  have q : gOff (gPaR o N (R0 + rs.length)) M (gUp M o 26 (E : Int)) := (gOff.rf _ _).up (by unfold gPaR; omega)
  refine ⟨⟨tk.kp q, rf.kp q (Nat.le_refl _), ⟨?_, gUp_eq _ _ _ _, ?_, ?_, ?_⟩, cp, al⟩, q⟩
  · rw [gUp_k (by decide)]; exact ct.1
  · rw [gUp_k (by decide)]; exact ct.2.2.1
  · rw [gUp_k (by decide)]; exact ct.2.2.2.1
  · rw [gUp_k (by decide)]; exact ct.2.2.2.2
theorem gPct.dp {b : Int} {E : Nat} (h : gPct M o b D a N R) : gPct (gUp M o 26 (E : Int)) o b E a N R := by
  refine ⟨?_, gUp_eq _ _ _ _, ?_, ?_, ?_⟩
  · rw [gUp_k (by decide)]; exact h.1
  · rw [gUp_k (by decide)]; exact h.2.2.1
  · rw [gUp_k (by decide)]; exact h.2.2.2.1
  · rw [gUp_k (by decide)]; exact h.2.2.2.2
/-- a node where all is lost -/
theorem r_nodeB {s x y v : Int} {a' N' R' : Nat} (hX : gmX X o) (h : gPbF M o ts D ab Nb Rb k) (q : gOff (gPaR o Nb Rb) M M2) (c : gPct M2 o 1 D a' N' R') (b : gPbd ab Nb Rb a' N' R') (b2 : N' + 1 + ab ≤ Nb + a') (l2 : a' + D ≤ ts.length + 26) (hN : N' < 89999) (gs : g32 s) (gx : g32 x) (gy : g32 y) (gv : g64 v) : cI l G y_GM_node (gRm d) true [gR G o, gI s, gI x, gI y, gL v] X M2 k := by
  have b3 := b
  unfold gPbd at b3
  refine r_node hX c.2.2.2.1 (by omega) gs gx gy gv (fun M3 oA n9 oj _ _ _ _ => h _ M3 a' (N' + 1) R' (q.tr ((oA Rb).mono (gPaR_le ⟨b3.2.1, Nat.le_refl _⟩))) ⟨(oj _ (by decide)).trans c.1, (oj _ (by decide)).trans c.2.1, (oj _ (by decide)).trans c.2.2.1, n9, (oj _ (by decide)).trans c.2.2.2.2⟩ ?_ l2 ⟨by omega, by omega⟩)
  unfold gPbd
  omega
/-- a node in a good state, behind a token that was passed -/
theorem r_nodeG {s x y v : Int} {e : gEx} (hX : gmX X o) (hp : gPst M o L S ts F R0 D a N rs) (b : gPbd ab Nb Rb a N (R0 + rs.length)) (b2 : N + 1 + ab ≤ Nb + a) (hc : N + 1 ≤ 89800 + a) (h : gPgF M o L S ts F R0 D ab Nb Rb k (some (e, a, rs))) (gs : g32 s) (gx : g32 x) (gy : g32 y) (gv : g64 v) (hts : ts.length ≤ 100) (hnd : ∀ M3, gOff (gPaR o N (R0 + rs.length)) M M3 → M3 (o + 2) N = s → M3 (o + 3) N = x → M3 (o + 4) N = y → M3 (o + 6) N = v → gxNs M3 o L (L + S.length) Nb (N + 1) e (N : Int)) : cI l G y_GM_node (gRm d) true [gR G o, gI s, gI x, gI y, gL v] X M k := by
  obtain ⟨tk, rf, ct, cp, al⟩ := hp
  have b3 := b
  unfold gPbd at b3
  refine r_node hX ct.2.2.2.1 (by omega) gs gx gy gv (fun M3 oA n9 oj e2 e3 e4 e6 => h e a rs rfl _ M3 (N + 1) ((oA Rb).mono (gPaR_le ⟨b3.2.1, Nat.le_refl _⟩)) ⟨tk.kp (oA (R0 + rs.length)), rf.kp (oA (R0 + rs.length)) (Nat.le_refl _), ⟨(oj _ (by decide)).trans ct.1, (oj _ (by decide)).trans ct.2.1, (oj _ (by decide)).trans ct.2.2.1, n9, (oj _ (by decide)).trans ct.2.2.2.2⟩, ⟨hc, cp.2⟩, al⟩ ?_ (hnd M3 (oA _) e2 e3 e4 e6))
  unfold gPbd
  omega
theorem gPgF.step {y : gPr} (h : gPgF M o L S ts F R0 D ab Nb Rb k y) (q : gOff (gPaR o Nb Rb) M M1) : gPgF M1 o L S ts F R0 D ab Nb Rb k y := fun e a' rs' hy v M2 N' q2 p b n => h e a' rs' hy v M2 N' (q.tr q2) p b n
theorem gPoF.step {y : gPr} (h : gPoF M o L S ts F R0 D ab Nb Rb k y) (q : gOff (gPaR o Nb Rb) M M1) : gPoF M1 o L S ts F R0 D ab Nb Rb k y := ⟨fun e => (h.1 e).step q (gPbd.rf _ _ _), h.2.step q⟩
/-- a literal: one token, one node without children -/
theorem r_lit {s x y v : Int} {e : gEx} (hX : gmX X o) (hts : ts.length ≤ 100) (hp : gPst M o L S ts F R0 D a N rs) (hl : a < ts.length) (hD : D ≤ 21) (h : gPoF M o L S ts F R0 D a N (R0 + rs.length) k (if 20 < D then none else some (e, a + 1, rs))) (gs : g32 s) (gx : g32 x) (gy : g32 y) (gv : g64 v) (hnd : ∀ M3 : gM, M3 (o + 2) N = s → M3 (o + 3) N = x → M3 (o + 4) N = y → M3 (o + 6) N = v → (gxNd M3 o L e).1 (N : Int)) :
    (D ≤ 20 → cI l G y_GM_node (gRm d) true [gR G o, gI s, gI x, gI y, gL v] X (gUp M o 25 ((a + 1 : Nat) : Int)) k) ∧ (20 < D → ∀ M2, gOff (gPas1 o) M M2 → M2 o 27 = 1 → M2 o 25 = ((a + 1 : Nat) : Int) → cI l G y_GM_node (gRm d) true [gR G o, gI s, gI x, gI y, gL v] X M2 k) := by
  have cp := hp.2.2.2.1
  unfold gPcp at cp
  refine ⟨fun q => ?_, fun q M2 o2 f2 a2 => ?_⟩
  · rw [if_neg (by omega)] at h
    obtain ⟨p1, q1⟩ := hp.at1 hl
    refine r_nodeG hX p1 (by unfold gPbd; omega) (by omega) (by omega) (h.2.step q1) gs gx gy gv hts (fun M3 o3 e2 e3 e4 e6 => ⟨by omega, by omega, fun M4 z z1 => hnd M4 ?_ ?_ ?_ ?_⟩)
    · rw [z 2 N (by omega) (by omega) (by omega) (by omega) (by omega)]; exact e2
    · rw [z 3 N (by omega) (by omega) (by omega) (by omega) (by omega)]; exact e3
    · rw [z 4 N (by omega) (by omega) (by omega) (by omega) (by omega)]; exact e4
    · rw [z 6 N (by omega) (by omega) (by omega) (by omega) (by omega)]; exact e6
  · rw [if_pos q] at h
    exact r_nodeB hX (h.1 rfl) (o2.mono gPas1_R) (gPas1.ct hp.2.2.1 o2 f2 a2) (by unfold gPbd; omega) (by omega) (by omega) (by omega) gs gx gy gv
/-- a ref is noted -/
theorem r_refN {c : Int} {kk : Int → gM → Prop} (hX : gmX X o) (hts : ts.length ≤ 100) (hto : ∀ t ∈ ts, gTkO S t ∧ 1 ≤ t.2.1) (hp : gPst M o L S ts F R0 D a N rs) (hk : gTK ts a = 19) (hc : g32 c)
    (h1 : D ≤ 20 → ∀ M2, gOff (gPaR o N (R0 + rs.length)) M M2 → gPst M2 o L S ts F R0 D (a + 1) N (rs ++ [gRfA S ts a c]) → kk (rs.length : Int) M2)
    (h0 : 20 < D → ∀ M2, gOff (gPaR o N (R0 + rs.length)) M M2 → gPct M2 o 1 D (a + 1) N (R0 + rs.length + 1) → kk (rs.length : Int) M2) : cI l G y_GM_ref (gRm (d + 1)) true [gR G o, gI c] X M kk := by
  obtain ⟨tk, rf, ct, cp, al⟩ := hp
  have l1 := gTK_lt (ts := ts) (a := a) (by rw [hk]; decide)
  unfold gPcp at cp
  have t1 := (tk.2.2 a l1).2.2.2.2 hk
  obtain ⟨c27, c26, c25, c9, c17⟩ := ct
  refine c_GM_ref hX hc (by omega) (by omega) (by rw [rf.1]; have := rf.2.2.1; omega) (by rw [rf.1, Int.toNat_natCast, rf.2.1]; omega) ?_
  rw [rf.1, Int.toNat_natCast, rf.2.1, c17, show ((R0 + rs.length : Nat) : Int) - (R0 : Int) = (rs.length : Int) by omega]
  have d10 : gmRefD M o c = gUp (gUp (gUp M (o + 10) (R0 + rs.length) (M (o + 16) a)) (o + 11) (R0 + rs.length) (M (o + 17) a)) (o + 12) (R0 + rs.length) c := by
    unfold gmRefD
    rw [c17, c25, Int.toNat_natCast, Int.toNat_natCast]
  rw [d10]
  generalize hM1 : gUp (gUp (gUp M (o + 10) (R0 + rs.length) (M (o + 16) a)) (o + 11) (R0 + rs.length) (M (o + 17) a)) (o + 12) (R0 + rs.length) c = M1
  have q1 : gOff (gPaR o N (R0 + rs.length)) M M1 := by
    rw [← hM1]
    refine (((gOff.rf _ M).up ?_).up ?_).up ?_ <;> unfold gPaR <;> omega
  have oj : ∀ j, M1 o j = M o j := fun j => by rw [← hM1, gUp_a (by omega), gUp_a (by omega), gUp_a (by omega)]
  have w10 : M1 (o + 10) (R0 + rs.length) = M (o + 16) a := by rw [← hM1, gUp_a (by omega), gUp_a (by omega), gUp_eq]
  have w11 : M1 (o + 11) (R0 + rs.length) = M (o + 17) a := by rw [← hM1, gUp_a (by omega), gUp_eq]
  have w12 : M1 (o + 12) (R0 + rs.length) = c := by rw [← hM1, gUp_eq]
  clear hM1 d10
  by_cases q : D ≤ 20
  · have e : gmPass M1 o = gUp M1 o 25 ((a + 1 : Nat) : Int) := by
      unfold gmPass
      rw [oj, oj, oj, if_neg (by rw [c26, tk.2.1, c25]; omega), c25]
      rfl
    rw [e]
    have q2 : gOff (gPaR o N (R0 + rs.length)) M (gUp (gUp M1 o 25 ((a + 1 : Nat) : Int)) o 17 (((R0 + rs.length : Nat) : Int) + 1)) := (q1.up (by unfold gPaR; omega)).up (by unfold gPaR; omega)
    refine h1 q _ q2 ⟨tk.kp q2, ⟨?_, ?_, rf.2.2.1, fun i hi => ?_⟩, ⟨?_, ?_, ?_, ?_, ?_⟩, ?_, l1⟩
    · rw [q2 _ _ (by unfold gPaR; omega)]; exact rf.1
    · rw [q2 _ _ (by unfold gPaR; omega)]; exact rf.2.1
    · rw [List.length_append] at hi
      have hi : i < rs.length + 1 := hi
      by_cases e : i < rs.length
      · rw [q2 (o + 10) (R0 + i) (by unfold gPaR; omega), q2 (o + 11) (R0 + i) (by unfold gPaR; omega), q2 (o + 12) (R0 + i) (by unfold gPaR; omega), List.getD_eq_getElem?_getD, List.getElem?_append_left e, ← List.getD_eq_getElem?_getD]
        exact rf.2.2.2 i e
      · have e : i = rs.length := by omega
        subst e
        rw [List.getD_eq_getElem?_getD, List.getElem?_append_right (Nat.le_refl _), Nat.sub_self]
        show _ = gPl S (gTs ts a).2.1 (gTs ts a).2.2 ∧ _ = gFx S (gTs ts a).2.1 ∧ _ = c
        rw [gUp_a (by omega), gUp_a (by omega), gUp_a (by omega), gUp_a (by omega), gUp_a (by omega), gUp_a (by omega), w10, w11, w12]
        exact ⟨t1.1, t1.2, rfl⟩
    · rw [gUp_k (by decide), gUp_k (by decide), oj]; exact c27
    · rw [gUp_k (by decide), gUp_k (by decide), oj]; exact c26
    · rw [gUp_k (by decide), gUp_eq]
    · rw [gUp_k (by decide), gUp_k (by decide), oj]; exact c9
    · rw [gUp_eq, List.length_append]; show ((R0 + rs.length : Nat) : Int) + 1 = ((R0 + (rs.length + 1) : Nat) : Int); omega
    · rw [List.length_append]
      show N ≤ 89800 + (a + 1) ∧ R0 + (rs.length + 1) ≤ 44800 + (a + 1)
      omega
  · obtain ⟨e1, e2, e3⟩ := gmPass_b (M := M1) (o := o) (b := 0) (a := a) (Or.inr (Or.inl (by rw [oj, c26]; omega))) (by rw [oj]; exact c27) (by rw [oj]; exact c25)
    have k1 := fun j (h : j ≠ 25 ∧ j ≠ 27) => e1 o j (by unfold gPas1; omega)
    refine h0 (by omega) _ ((q1.tr (e1.mono gPas1_R)).up (by unfold gPaR; omega)) ⟨?_, ?_, ?_, ?_, ?_⟩
    · rw [gUp_k (by decide)]; exact e2
    · rw [gUp_k (by decide), k1 _ (by decide), oj]; exact c26
    · rw [gUp_k (by decide)]; exact e3
    · rw [gUp_k (by decide), k1 _ (by decide), oj]; exact c9
    · rw [gUp_eq]; omega
end gdAE
