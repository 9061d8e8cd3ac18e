/-! The class's Contents and Reader: the small steps. -/
/-- a step of the code written at cs -/
def gEm (M : gM) (c cs : Nat) (op x : Int) : gM := gUp (gUp (gUp M (c + 9) cs op) (c + 10) cs x) (c + 2) 12 ((cs + 1 : Nat) : Int)
/-- a ref written at rf -/
def gAr (M : gM) (c id rf : Nat) (p s : Int) : gM := gUp (if gAnd s 4 = 0 then gUp (gUp M (c + 11) rf p) (c + 12) rf s else gUp (gUp (gUp M (c + 11) rf p) (c + 12) rf s) (c + 8) id (M (c + 8) id + 1)) (c + 2) 13 ((rf + 1 : Nat) : Int)
section gdF
variable {l : Launch} {G : gG} {d : Nat} {X : gX} {M : gM} {c : Nat} {Q : gQ} {S : List Int} {ts : List gTkn}
theorem c_Cn_emit {cs : Nat} {op x : Int} {k : gM → Prop} (hX : glX X c) (hop : g32 op) (hx : g64 x) (hcs : M (c + 2) 12 = (cs : Int)) (hc : cs < 10480) (h : k (gEm M c cs op x)) : cV l G y_Cn_emit (gRm d) true [gR G (c + 2), gI op, gL x] X M k := by
  refine e_Cn_emit (w_Cn_emit_0 hX hop hx ?_)
  simp (disch := omega) only [gUp_eq, gUp_a, gUp_k, hcs, Int.toNat_natCast]
  rw [w32_id (x := (cs : Int) + 1) ⟨by omega, by omega⟩]
  exact fun _ => ⟨⟨by omega, by omega⟩, fun _ => ⟨⟨by omega, by omega⟩, fun _ => h⟩⟩
theorem c_Cn_emitText {cs bs : Nat} {a n : Nat} {k : gM → Prop} (hX : glX X c) (ha : a + n ≤ 240) (hcs : M (c + 2) 12 = (cs : Int)) (hc : cs < 10480) (hbs : M (c + 2) 14 = (bs : Int)) (hb : bs + n ≤ 10480) (h : k (gUp (gEm (gCp M (c + 13) (c + 1) a bs n) c cs 1 ((bs : Int) * 240 + (n : Int))) (c + 2) 14 ((bs + n : Nat) : Int))) : cV l G y_Cn_emitText (gRm (d + 1)) true [gR G (c + 2), gR G (c + 1), gI (a : Int), gI (n : Int)] X M k := by
  refine e_Cn_emitText (w_Cn_emitText_0 hX (gl_inp hX) ⟨by omega, by omega⟩ ⟨by omega, by omega⟩ ?_)
  have e1 : gCp M (c + 13) (c + 1) a bs n (c + 2) 14 = (bs : Int) := (gCp_a (by omega)).trans hbs
  have e2 : gCp M (c + 13) (c + 1) a bs n (c + 2) 12 = (cs : Int) := (gCp_a (by omega)).trans hcs
  rw [hbs, Int.toNat_natCast, Int.toNat_natCast, Int.toNat_natCast, e1]
  refine fun _ => ⟨⟨by omega, by omega, by omega, by omega, by omega⟩, fun _ => c_Cn_emit hX (g32_c rfl) ⟨by omega, by omega⟩ e2 hc ?_⟩
  have e3 : gEm (gCp M (c + 13) (c + 1) a bs n) c cs 1 ((bs : Int) * 240 + (n : Int)) (c + 2) 14 = (bs : Int) := by
    unfold gEm
    rw [gUp_k (by decide), gUp_a (by omega), gUp_a (by omega), e1]
  intro _
  rw [e3, w32_id (x := (bs : Int) + (n : Int)) ⟨by omega, by omega⟩]
  exact h
theorem c_Cn_addRef {id rf R0 : Nat} {p s : Int} {k : Int → gM → Prop} (hX : glX X c) (hp : g32 p) (hs : g32 s) (hid : M (c + 2) 11 = (id : Int)) (hid2 : id < 513) (hrf : M (c + 2) 13 = (rf : Int)) (hr : rf < 10480) (hR : M (c + 6) id = (R0 : Int)) (hR2 : R0 ≤ rf) (h8 : 0 ≤ M (c + 8) id ∧ M (c + 8) id < 100000) (h : k (((rf - R0 : Nat)) : Int) (gAr M c id rf p s)) : cI l G y_Cn_addRef (gRm d) true [gR G (c + 2), gI p, gI s] X M k := by
  refine e_Cn_addRef (w_Cn_addRef_0 hX hp hs ?_)
  simp (disch := omega) only [gUp_eq, gUp_a, gUp_k, hrf, hid, hR, Int.toNat_natCast]
  rw [w32_id (x := (rf : Int) + 1) ⟨by omega, by omega⟩, w32_id (x := (rf : Int) + 1 - 1 - (R0 : Int)) ⟨by omega, by omega⟩, w32_id (x := M (c + 8) id + 1) ⟨by omega, by omega⟩, show (rf : Int) + 1 - 1 - (R0 : Int) = ((rf - R0 : Nat) : Int) by omega]
  unfold gAr at h
  refine fun _ => ⟨⟨by omega, by omega⟩, fun _ => ⟨⟨by omega, by omega⟩, fun z => ?_, fun z => ?_⟩⟩
  · rw [if_pos z] at h
    exact fun _ _ _ => ⟨⟨by omega, by omega⟩, fun _ => h⟩
  · rw [if_neg z] at h
    exact fun _ => ⟨⟨by omega, by omega⟩, fun _ => ⟨⟨by omega, by omega⟩, fun _ _ _ => ⟨⟨by omega, by omega⟩, fun _ => h⟩⟩⟩
theorem gFx_rng (S : List Int) (p : Nat) : gFx S p = 0 ∨ gFx S p = 1 ∨ gFx S p = 2 ∨ gFx S p = 3 := by
  unfold gFx
  split <;> split <;> decide
theorem gOr_add {f x : Int} (hf : f = 0 ∨ f = 1 ∨ f = 2 ∨ f = 3) (hx : x = 0 ∨ x = 4 ∨ x = 8) : gOr f x = f + x := by
  rcases hf with e | e | e | e <;> rcases hx with y | y | y <;> rw [e, y] <;> decide
theorem c_Rd_addRef {id rf R0 j : Nat} {x : Int} {k : Int → gM → Prop} (hX : glX X c) (hI : gInp M c S) (hT : gTkR M c S ts) (hts : ts.length ≤ 100) (hj : j < ts.length) (ho : gTkO S (gTs ts j)) (hk : (gTs ts j).1 = 19) (hx : x = 0 ∨ x = 4 ∨ x = 8) (hid : M (c + 2) 11 = (id : Int)) (hid2 : id < 513) (hrf : M (c + 2) 13 = (rf : Int)) (hr : rf < 10480) (hR : M (c + 6) id = (R0 : Int)) (hR2 : R0 ≤ rf) (h8 : 0 ≤ M (c + 8) id ∧ M (c + 8) id < 100000) (h : k (((rf - R0 : Nat)) : Int) (gAr M c id rf (gPl S (gTs ts j).2.1 (gTs ts j).2.2) (gFx S (gTs ts j).2.1 + x))) : cI l G y_Rd_addRef (gRm (d + 1)) true [gR G (c + 14), gI (j : Int), gI x] X M k := by
  have h19 := gTkO_19 ho hk
  have hr19 := (hT.1.2 j hj).2.2.2 hk
  have hf := gFx_rng S (gTs ts j).2.1
  refine e_Rd_addRef (w_Rd_addRef_0 hX ⟨by omega, by omega⟩ ⟨by omega, by omega⟩ ?_)
  rw [Int.toNat_natCast, hr19]
  refine ⟨⟨by omega, by omega⟩, fun _ => c_Tk_fixedOf hX hI hT.1 hj (by omega) ho hk ?_⟩
  rw [gOr_add hf hx]
  exact c_Cn_addRef hX ⟨by omega, by omega⟩ ⟨by omega, by omega⟩ hid hid2 hrf hr hR hR2 h8 h
/-- the kinds of tokens, also of those behind the last one -/
theorem gTkR.kd (hT : gTkR M c S ts) {j : Nat} (hj : j < ts.length + 4) : M (c + 17) j = gTK ts j := by
  by_cases q : j < ts.length
  · exact (hT.1.2 j q).1
  · rw [hT.2 j (by omega) hj]
    unfold gTK
    rw [gTs_o (by omega)]
theorem c_Rd_expect {a : Nat} {x : Int} {k : gM → Prop} (hX : glX X c) (hT : gTkR M c S ts) (hts : ts.length ≤ 100) (hx : g32 x) (ha : M (c + 14) 4 = (a : Int)) (ha2 : a ≤ ts.length) (hf : M (c + 14) 5 = 0) (h1 : gTK ts a = x → k (gUp M (c + 14) 4 ((a + 1 : Nat) : Int))) (h0 : gTK ts a ≠ x → k (gUp M (c + 14) 5 1)) : cV l G y_Rd_expect (gRm d) true [gR G (c + 14), gI x] X M k := by
  refine e_Rd_expect (w_Rd_expect_0 hX hx ?_)
  rw [hf, ha, Int.toNat_natCast, hT.kd (by omega), w32_id (x := (a : Int) + 1) ⟨by omega, by omega⟩]
  exact fun _ => ⟨fun z => absurd rfl z, fun _ _ => ⟨⟨by omega, by omega⟩, fun _ => ⟨h0, fun z _ => h1 z⟩⟩⟩
theorem c_Rd_expectF {x : Int} {k : gM → Prop} (hX : glX X c) (hx : g32 x) (hf : M (c + 14) 5 = 1) (h : k (gUp M (c + 14) 5 1)) : cV l G y_Rd_expect (gRm d) true [gR G (c + 14), gI x] X M k := by
  refine e_Rd_expect (w_Rd_expect_0 hX hx ?_)
  rw [hf]
  exact fun _ => ⟨fun _ => h, fun z => absurd z (by decide)⟩
theorem c_Rd_endsArgument {a : Nat} {k : Int → gM → Prop} (hX : glX X c) (hT : gTkR M c S ts) (hts : ts.length ≤ 100) (ha2 : a < ts.length + 4) (h1 : gTK ts a = 15 ∨ gTK ts a = 14 → k 1 M) (h0 : ¬ (gTK ts a = 15 ∨ gTK ts a = 14) → k 0 M) : cZ l G y_Rd_endsArgument (gRm d) false [gR G (c + 14), gI (a : Int)] X M k := by
  refine e_Rd_endsArgument (w_Rd_endsArgument_0 hX ⟨by omega, by omega⟩ ?_)
  rw [Int.toNat_natCast, hT.kd (by omega)]
  exact ⟨⟨by omega, by omega⟩, fun _ => ⟨fun z => h1 (Or.inl z), fun z => ⟨⟨by omega, by omega⟩, fun _ => ⟨fun z2 => h0 (fun y => y.elim z z2), fun z2 => h1 (Or.inr z2)⟩⟩⟩⟩
theorem c_Rd_replaceCode {b : Nat} {x : Int} {k : gM → Prop} (hX : glX X c) (hb : b < 10480) (hx : g32 x) (h : k (gEm (gUp M (c + 2) 12 (b : Int)) c b 3 x)) : cV l G y_Rd_replaceCode (gRm (d + 1)) true [gR G (c + 14), gI (b : Int), gI x] X M k :=
  e_Rd_replaceCode (w_Rd_replaceCode_0 hX ⟨by omega, by omega⟩ hx (c_Cn_emit hX (g32_c rfl) (g64_32 hx) (gUp_eq _ _ _ _) hb h))
theorem gSw_24 : gSw 24 = 1 ∧ gSw 26 = 2 ∧ gSw 25 ≠ 1 ∧ gSw 25 ≠ 2 := by decide +kernel
theorem gWgr_5 : ∀ w, w < 52 → gWgr w = 5 → w = 24 ∨ w = 25 ∨ w = 26 := by decide +kernel
/-- the op of the pick that opens argument i of w -/
theorem c_Rd_openPick {w i D cs : Nat} {k : gM → Prop} (hX : glX X c) (hO : gOld G Q) (hw : w = 24 ∨ w = 25 ∨ w = 26) (hi : 1 ≤ i ∧ i ≤ 3) (hD : D ≤ 20) (hcs : M (c + 2) 12 = (cs : Int)) (hc : cs + 1 < 10480) (h1 : i = 1 → k (gEm (gUp M (c + 15) (D * 4 + i) (cs : Int)) c cs (gxOp w) 0)) (h2 : 1 < i → k (gEm (gUp (gEm M c cs 10 0) (c + 15) (D * 4 + i) ((cs + 1 : Nat) : Int)) c (cs + 1) (gxOp w) 0)) : cV l G y_Rd_openPick (gRm (d + 1)) true [gR G (c + 14), gI (w : Int), gI (i : Int), gI (D : Int)] X M k := by
  have sw := gSw_24
  have key : ∀ (M2 : gM) (c2 : Nat) (kk : gM → Prop), M2 (c + 2) 12 = (c2 : Int) → c2 < 10480 → kk (gEm (gUp M2 (c + 15) (D * 4 + i) (c2 : Int)) c c2 (gxOp w) 0) → (gSw w = 1 → cV l G y_Cn_emit (gRm d) true [gR G (c + 2), gI 7, gL 0] X (gUp M2 (c + 15) (D * 4 + i) (c2 : Int)) kk) ∧ (gSw w = 2 → cV l G y_Cn_emit (gRm d) true [gR G (c + 2), gI 8, gL 0] X (gUp M2 (c + 15) (D * 4 + i) (c2 : Int)) kk) ∧ (¬ gSw w = 1 ∧ ¬ gSw w = 2 → cV l G y_Cn_emit (gRm d) true [gR G (c + 2), gI 9, gL 0] X (gUp M2 (c + 15) (D * 4 + i) (c2 : Int)) kk) := by
    intro M2 c2 kk e1 e2 hk
    have e3 : gUp M2 (c + 15) (D * 4 + i) (c2 : Int) (c + 2) 12 = (c2 : Int) := (gUp_a (by omega)).trans e1
    rcases hw with e | e | e <;> subst e
    · exact ⟨fun _ => c_Cn_emit hX (g32_c rfl) (g64_32 (g32_c rfl)) e3 e2 hk, fun z => absurd (sw.1.symm.trans z) (by decide), fun z => absurd sw.1 z.1⟩
    · exact ⟨fun z => absurd z sw.2.2.1, fun z => absurd z sw.2.2.2, fun _ => c_Cn_emit hX (g32_c rfl) (g64_32 (g32_c rfl)) e3 e2 hk⟩
    · exact ⟨fun z => absurd (sw.2.1.symm.trans z) (by decide), fun _ => c_Cn_emit hX (g32_c rfl) (g64_32 (g32_c rfl)) e3 e2 hk, fun z => absurd sw.2.1 z.2⟩
  refine e_Rd_openPick (Q := Q) (w_Rd_openPick_0 (Q := Q) hX hO ⟨by omega, by omega⟩ ⟨by omega, by omega⟩ ⟨by omega, by omega⟩ ⟨fun z => ?_, fun z => ?_⟩)
  · rw [hcs, show ((D : Int) * 4 + (i : Int)).toNat = D * 4 + i by omega, Int.toNat_natCast]
    exact fun _ => ⟨⟨by omega, by omega⟩, ⟨by omega, by omega⟩, key M cs k hcs (by omega) (h1 (by omega))⟩
  · refine c_Cn_emit hX (g32_c rfl) (g64_32 (g32_c rfl)) hcs (by omega) ?_
    have e4 : gEm M c cs 10 0 (c + 2) 12 = ((cs + 1 : Nat) : Int) := gUp_eq _ _ _ _
    rw [e4, show ((D : Int) * 4 + (i : Int)).toNat = D * 4 + i by omega, Int.toNat_natCast]
    exact fun _ => ⟨⟨by omega, by omega⟩, ⟨by omega, by omega⟩, key (gEm M c cs 10 0) (cs + 1) k e4 (by omega) (h2 (by omega))⟩
end gdF
