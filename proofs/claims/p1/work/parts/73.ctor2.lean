/-! The constructors' contracts, continued: Boxes, Order, Machine, Reader, Results. -/
def gNo (i k : Nat) (F : List (Nat × Nat × Nat)) : Prop := ∀ q ∈ F, ¬ (q.1 = i ∧ q.2.1 = k)
theorem gNo.of {i : Nat} {F : List (Nat × Nat × Nat)} (h : ∀ q ∈ F, q.1 ≠ i) (k : Nat) : gNo i k F := fun q hq e => h q hq e.1
theorem gNo.cons {i k i' k' t : Nat} {F : List (Nat × Nat × Nat)} (h : ¬ (i' = i ∧ k' = k)) (h2 : gNo i k F) : gNo i k ((i', k', t) :: F) := fun q hq => by
  rcases List.mem_cons.mp hq with rfl | hq
  · exact h
  · exact h2 q hq
theorem gNo.bf {i k i' : Nat} : ∀ (qs : List (Nat × Nat × Nat)) {j : Nat} {F : List (Nat × Nat × Nat)}, (∀ q ∈ qs, ¬ (i' = i ∧ q.1 = k)) → gNo i k F → gNo i k (gBF i' j qs F)
  | [], _, _, _, h => h
  | q :: qs, _, _, hq, h => gNo.bf qs (fun r hr => hq r (List.mem_cons_of_mem _ hr)) (gNo.cons (hq q List.mem_cons_self) h)
theorem gKn.gro {X X' : gX} {c a : Nat} {F S : List (Nat × Nat × Nat)} (h : gKn X c F S) (g : gGw X X' a) (ha : X.1 < a) : gKn X' c F S :=
  ⟨fun q hq => ⟨Nat.le_trans (h.1 q hq).1 g.1, (g.2.2 _ _ (h.1 q hq).1 (by have := (h.1 q hq).1; omega)).trans (h.1 q hq).2⟩, fun q hq => ⟨Nat.le_trans (h.2 q hq).1 g.1, (g.2.1 _ (h.2 q hq).1).trans (h.2 q hq).2⟩⟩
section gCtor2
variable {l : Launch} {G : gG} {d : Nat} {X : gX} {M : gM} {K : Outcome → gX → gM → Prop}
theorem c_Bx_init {c : Nat} {F S : List (Nat × Nat × Nat)} (h1 : 1 ≤ c) (hk : gKn X c F S) (hj : X.1 = c + 1167) (hs : (1167, 8, 7) ∈ S) (hz : gFr X M) (hn : ∀ q ∈ F, q.1 ≠ 1167) (k : ∀ X', X'.1 = c + 1167 → gKn X' c ((1167, 2, 237) :: (1167, 1, 235) :: (1167, 0, 1058) :: F) S → gGw X X' (c + 1167) → gFr X' M → K (.returned none) X' M) : gCt l G y_Bx_init (gRk (d + 1) 0 0) true [gR G (c + 1167), gR G (c + 1058), gR G (c + 235), gR G (c + 237)] X M K := by
  refine me_Bx_init (m_Bx_init_0 (by omega) (by omega) (hk.s hs) hz (by omega) (by omega) (by omega) ?_)
  refine k _ hj ?_ (((gGw.gu X (c + 1167) 0 _).tr (gGw.gu _ (c + 1167) 1 _)).tr (gGw.gu _ (c + 1167) 2 _)) (((hz.gu _ _ _).gu _ _ _).gu _ _ _)
  refine gKn.gu (gKn.gu (gKn.gu hk rfl rfl (by omega) (gNo.of hn 0)) rfl rfl (by show c + 1167 ≤ X.1; omega) ?_) rfl rfl (by show c + 1167 ≤ X.1; omega) ?_
  · exact gNo.cons (by decide) (gNo.of hn 1)
  · exact gNo.cons (by decide) (gNo.cons (by decide) (gNo.of hn 2))
abbrev qOr : List (Nat × Nat × Nat) := [(1, 1, 2800), (2, 0, 400), (3, 3, 400), (4, 0, 400), (5, 0, 400), (6, 0, 400), (7, 3, 400), (8, 0, 400), (9, 0, 400)]
theorem c_Or_init {c : Nat} {F S : List (Nat × Nat × Nat)} (h1 : 1 ≤ c) (hk : gKn X c F S) (hj : X.1 = c + 1047) (hs : (1047, 12, 13) ∈ S) (hz : gFr X M) (hn : ∀ q ∈ F, q.1 ≠ 1047) (k : ∀ X', X'.1 = c + 1056 → gKn X' c ((1047, 0, 2) :: gBF 1047 1047 qOr F) (gBS 1047 qOr S) → gGw X X' (c + 1047) → gFr X' M → K (.returned none) X' M) : gCt l G y_Or_init (gRk (d + 1) 9 6000) true [gR G (c + 1047), gR G (c + 2)] X M K := by
  have hb := gKn.bld qOr hk hj (Nat.le_refl 1047) (by decide) (fun q hq r _ e => hn q hq e.1)
  have e1 : (gBld X (c + 1047) qOr).1 = c + 1056 := by rw [gBld_1, hj]; rfl
  refine me_Or_init (m_Or_init_0 (by omega) (by omega) (hk.s hs) hz (by omega) ?_)
  refine k (gGu (gBld X (c + 1047) qOr) (c + 1047) 0 (c + 2)) e1 (hb.gu rfl rfl (by omega) (gNo.bf qOr (by decide) (gNo.of hn 0))) ((gBld_w _ qOr X).tr (gGw.gu _ _ _ _)) ((gBld_z _ qOr X hz).gu _ _ _)
theorem c_Ma_init (hok : gOk l G) {c : Nat} {F S : List (Nat × Nat × Nat)} (h1 : 1 ≤ c) (hk : gKn X c F S) (hj : X.1 = c + 1057) (hs : (1057, 11, 7) ∈ S) (hz : gFr X M) (hn : ∀ q ∈ F, q.1 ≠ 1057)
    (k : ∀ X', X'.1 = c + 1167 → gKn X' c ((1057, 3, 1167) :: (1167, 2, 237) :: (1167, 1, 235) :: (1167, 0, 1058) :: (1057, 4, 24) :: (1057, 2, 2) :: (1057, 1, 1166) :: (1057, 0, 1058) :: F) ((1167, 8, 7) :: (1166, 2, 64) :: S) → gvX X' (c + 1058) 104 → gGw X X' (c + 1057) → gFr X' M → K (.returned none) X' M) :
    gCt l G y_Ma_init (gRk (d + 2) 110 7042) true [gR G (c + 1057), gR G (c + 2), gR G (c + 235), gR G (c + 24), gR G (c + 237)] X M K := by
  refine me_Ma_init (m_Ma_init_0 (by omega) (by omega) (hk.s hs) hz (by omega) (by omega) (by omega) (by omega) ?_)
  have e0 : X.1 + 1 = c + 1058 := by omega
  rw [e0]
  refine c_Vl_init (n := 104) hok (by omega) (by show X.1 + 1 = _; omega) (by rw [← e0]; exact gNw_n X _) (hz.nw _) (by decide) (fun X1 f1 hv hg hz1 => ?_)
  rw [← e0] at hg
  have hg1 : gGw X X1 (c + 1057) := hg.new _
  have hk1 : gKn X1 c F S := hk.gro (hg.new (X.1 + 1)) (by omega)
  have f1' : X1.1 = c + 1165 := by omega
  have hk4 : gKn (gGu (gGu (gMk (gGu X1 (c + 1057) 0 (c + 1058)) (c + 1057) 1 (2, 64)) (c + 1057) 2 (c + 2)) (c + 1057) 4 (c + 24)) c ((1057, 4, 24) :: (1057, 2, 2) :: (1057, 1, 1166) :: (1057, 0, 1058) :: F) ((1166, 2, 64) :: S) := by
    have a1 := gKn.gu hk1 (i := 1057) (k := 0) (t := 1058) rfl rfl (by omega) (gNo.of hn 0)
    have a2 := a1.mk (i := 1057) (j := 1165) (k := 1) (sh := (2, 64)) f1' (by decide) (gNo.cons (by decide) (gNo.of hn 1))
    have a3 := gKn.gu a2 (i := 1057) (k := 2) (t := 2) rfl rfl (by show c + 1057 ≤ X1.1 + 1; omega) (gNo.cons (by decide) (gNo.cons (by decide) (gNo.of hn 2)))
    exact gKn.gu a3 (i := 1057) (k := 4) (t := 24) rfl rfl (by show c + 1057 ≤ X1.1 + 1; omega) (gNo.cons (by decide) (gNo.cons (by decide) (gNo.cons (by decide) (gNo.of hn 4))))
  have hg4 : gGw X1 (gGu (gGu (gMk (gGu X1 (c + 1057) 0 (c + 1058)) (c + 1057) 1 (2, 64)) (c + 1057) 2 (c + 2)) (c + 1057) 4 (c + 24)) (c + 1057) := ((gGw.gu X1 _ 0 _).tr (gGw.mk _ _ 1 _)).tr ((gGw.gu _ _ 2 _).tr (gGw.gu _ _ 4 _))
  have hz4 : gFr (gGu (gGu (gMk (gGu X1 (c + 1057) 0 (c + 1058)) (c + 1057) 1 (2, 64)) (c + 1057) 2 (c + 2)) (c + 1057) 4 (c + 24)) M := ((((hz1.gu _ _ _).mk _ _ _).gu _ _ _).gu _ _ _)
  have f4 : (gGu (gGu (gMk (gGu X1 (c + 1057) 0 (c + 1058)) (c + 1057) 1 (2, 64)) (c + 1057) 2 (c + 2)) (c + 1057) 4 (c + 24)).1 = c + 1166 := by show X1.1 + 1 = _; omega
  have hs1 := hk1.s hs
  have hv4 := hv.grow hg4 (by omega) (by omega)
  refine ⟨rfl, by omega, hs1, hz1, ?_⟩
  generalize gGu (gGu (gMk (gGu X1 (c + 1057) 0 (c + 1058)) (c + 1057) 1 (2, 64)) (c + 1057) 2 (c + 2)) (c + 1057) 4 (c + 24) = Y at hk4 hg4 hz4 f4 hv4 ⊢
  have e5 : Y.1 + 1 = c + 1167 := by omega
  have e6 : (gNw Y (8, 7)).2.2 (c + 1057) 0 = c + 1058 := (gNw_r (by omega) 0).trans (hk4.f (i := 1057) (List.mem_of_getElem? (i := 3) rfl))
  rw [e5, e6]
  refine c_Bx_init h1 (hk4.nw (sh := (8, 7)) (j := 1166) f4) (by show Y.1 + 1 = _; omega) (List.mem_of_getElem? (i := 0) rfl) (hz4.nw _) ?_ (fun X7 f7 hk7 hg7 hz7 => ?_)
  · intro q hq
    have := (hk4.1 q hq).1
    omega
  rw [← e5] at hg7
  have hv7 := hv4.grow (hg7.new (Y.1 + 1)) (by omega) (by omega)
  have hgA : gGw X X7 (c + 1057) := (hg1.tr hg4).tr (hg7.new _)
  refine ⟨rfl, by omega, ?_, hz7, ?_⟩
  · exact (hg7.new (c + 1057)).2.1 _ (by omega) |>.trans ((hg4.2.1 _ (by omega)).trans hs1)
  · refine k _ f7 (gKn.gu hk7 (i := 1057) (k := 3) (t := 1167) rfl rfl (by omega) ?_) (hv7.grow (gGw.gu X7 (c + 1057) 3 _) (by omega) (by omega)) (hgA.tr (gGw.gu X7 _ 3 _)) (hz7.gu _ _ _)
    exact gNo.cons (by decide) (gNo.cons (by decide) (gNo.cons (by decide) (gNo.cons (by decide) (gNo.cons (by decide) (gNo.cons (by decide) (gNo.cons (by decide) (gNo.of hn 3)))))))
theorem c_Rd_init {c : Nat} {F S : List (Nat × Nat × Nat)} (h1 : 1 ≤ c) (hk : gKn X c F S) (hj : X.1 = c + 14) (hs : (14, 13, 6) ∈ S) (hz : gFr X M) (hn : ∀ q ∈ F, q.1 ≠ 14)
    (k : ∀ X', X'.1 = c + 20 → gKn X' c ((14, 2, 16) :: (16, 0, 1) :: gBF 16 16 qTk ((14, 1, 2) :: (14, 0, 1) :: (14, 3, 15) :: F)) (gBS 16 qTk ((16, 16, 6) :: (15, 0, 84) :: S)) → gFr X' M → K (.returned none) X' M) :
    gCt l G y_Rd_init (gRk (d + 2) 6 506) true [gR G (c + 14), gR G (c + 1), gR G (c + 2)] X M K := by
  refine me_Rd_init (m_Rd_init_0 (by omega) (by omega) (hk.s hs) hz (by omega) (by omega) ?_)
  have a1 := hk.mk (i := 14) (j := 14) (k := 3) (sh := (0, 84)) hj (Nat.le_refl _) (gNo.of hn 3)
  have a2 := gKn.gu a1 (i := 14) (k := 0) (t := 1) rfl rfl (by show c + 14 ≤ X.1 + 1; omega) (gNo.cons (by decide) (gNo.of hn 0))
  have a3 := gKn.gu a2 (i := 14) (k := 1) (t := 2) rfl rfl (by show c + 14 ≤ X.1 + 1; omega) (gNo.cons (by decide) (gNo.cons (by decide) (gNo.of hn 1)))
  have f3 : (gGu (gGu (gMk X (c + 14) 3 (0, 84)) (c + 14) 0 (c + 1)) (c + 14) 1 (c + 2)).1 = c + 15 := by show X.1 + 1 = _; omega
  have hz3 : gFr (gGu (gGu (gMk X (c + 14) 3 (0, 84)) (c + 14) 0 (c + 1)) (c + 14) 1 (c + 2)) M := ((hz.mk _ _ _).gu _ _ _).gu _ _ _
  have s3 : (gGu (gGu (gMk X (c + 14) 3 (0, 84)) (c + 14) 0 (c + 1)) (c + 14) 1 (c + 2)).2.1 (c + 14) = (13, 6) := a3.s (List.mem_cons_of_mem _ hs)
  generalize gGu (gGu (gMk X (c + 14) 3 (0, 84)) (c + 14) 0 (c + 1)) (c + 14) 1 (c + 2) = Y at a3 f3 hz3 s3 ⊢
  have e5 : Y.1 + 1 = c + 16 := by omega
  rw [e5]
  have a4 := a3.nw (sh := (16, 6)) (j := 15) f3
  refine c_Tk_init h1 a4 (by show Y.1 + 1 = _; omega) (List.mem_of_getElem? (i := 0) rfl) (hz3.nw _) ?_ (fun X1 f1 hk1 hz1 => ?_)
  · intro q hq
    have := (a3.1 q hq).1
    omega
  refine ⟨rfl, by omega, ?_, hz1, ?_⟩
  · refine hk1.s (i := 14) (sh := (13, 6)) ?_
    simp only [gBS, List.mem_cons]
    exact Or.inr (Or.inr (Or.inr (Or.inr (Or.inr (Or.inr hs)))))
  · refine k _ f1 (gKn.gu hk1 (i := 14) (k := 2) (t := 16) rfl rfl (by omega) ?_) (hz1.gu _ _ _)
    exact gNo.cons (by decide) (gNo.bf qTk (by decide) (gNo.cons (by decide) (gNo.cons (by decide) (gNo.cons (by decide) (gNo.of hn 2)))))
end gCtor2
