/-! The constructors' contracts: what is known of the cells that they make. -/
def gBld (X : gX) (a : Nat) : List (Nat × Nat × Nat) → gX
  | [] => X
  | q :: qs => gBld (gMk X a q.1 q.2) a qs
def gBF (i : Nat) : Nat → List (Nat × Nat × Nat) → List (Nat × Nat × Nat) → List (Nat × Nat × Nat)
  | _, [], F => F
  | j, q :: qs, F => gBF i (j + 1) qs ((i, q.1, j + 1) :: F)
def gBS : Nat → List (Nat × Nat × Nat) → List (Nat × Nat × Nat) → List (Nat × Nat × Nat)
  | _, [], S => S
  | j, q :: qs, S => gBS (j + 1) qs ((j + 1, q.2) :: S)
theorem gBld_1 (a : Nat) : ∀ (qs : List (Nat × Nat × Nat)) (X : gX), (gBld X a qs).1 = X.1 + qs.length
  | [], X => rfl
  | q :: qs, X => by
    show (gBld (gMk X a q.1 q.2) a qs).1 = _
    rw [gBld_1 a qs]
    show X.1 + 1 + qs.length = X.1 + (qs.length + 1)
    omega
theorem gBld_w (a : Nat) : ∀ (qs : List (Nat × Nat × Nat)) (X : gX), gGw X (gBld X a qs) a
  | [], X => gGw.rf X a
  | q :: qs, X => (gGw.mk X a q.1 q.2).tr (gBld_w a qs _)
theorem gBld_z (a : Nat) {M : gM} : ∀ (qs : List (Nat × Nat × Nat)) (X : gX), gFr X M → gFr (gBld X a qs) M
  | [], _, h => h
  | q :: qs, X, h => gBld_z a qs _ (h.mk a q.1 q.2)
theorem gKn.bld {c i : Nat} : ∀ (qs : List (Nat × Nat × Nat)) {X : gX} {j : Nat} {F S : List (Nat × Nat × Nat)}, gKn X c F S → X.1 = c + j → i ≤ j → (qs.map (·.1)).Nodup → (∀ q ∈ F, ∀ r ∈ qs, ¬ (q.1 = i ∧ q.2.1 = r.1)) → gKn (gBld X (c + i) qs) c (gBF i j qs F) (gBS j qs S)
  | [], _, _, _, _, h, _, _, _, _ => h
  | q :: qs, X, j, F, S, h, hj, hi, hd, hn => by
    obtain ⟨hd1, hd2⟩ := List.nodup_cons.mp hd
    refine gKn.bld qs (h.mk hj hi (fun r hr => hn r hr q List.mem_cons_self)) (by show X.1 + 1 = _; omega) (by omega) hd2 (fun r hr t ht e => ?_)
    rcases List.mem_cons.mp hr with rfl | hr
    · exact hd1 (List.mem_map.mpr ⟨t, ht, e.2.symm⟩)
    · exact hn r hr t (List.mem_cons_of_mem _ ht) e
theorem gKn.f {X : gX} {c i k t : Nat} {F S : List (Nat × Nat × Nat)} (h : gKn X c F S) (m : (i, k, t) ∈ F) : X.2.2 (c + i) k = c + t := (h.1 _ m).2
theorem gKn.s {X : gX} {c i : Nat} {sh : Nat × Nat} {F S : List (Nat × Nat × Nat)} (h : gKn X c F S) (m : (i, sh) ∈ S) : X.2.1 (c + i) = sh := (h.2 _ m).2
theorem gKn.l {X : gX} {c i : Nat} {sh : Nat × Nat} {F S : List (Nat × Nat × Nat)} (h : gKn X c F S) (m : (i, sh) ∈ S) : c + i ≤ X.1 := (h.2 _ m).1
theorem gKn.one {X : gX} {c : Nat} {sh : Nat × Nat} (h : c ≤ X.1) (hs : X.2.1 c = sh) : gKn X c [] [(0, sh)] := by
  refine ⟨fun q hq => absurd hq List.not_mem_nil, fun q hq => ?_⟩
  obtain rfl := List.mem_singleton.mp hq
  exact ⟨h, hs⟩
section gCtor
variable {l : Launch} {G : gG} {d : Nat} {X : gX} {M : gM} {K : Outcome → gX → gM → Prop}
theorem c_St_init {a : Nat} (h1 : 1 ≤ a) (ha : X.1 = a) (hs : X.2.1 a = (15, 5)) (hz : gFr X M) (k : ∀ X', X'.1 = a + 4 → gsX X' a → gGw X X' a → gFr X' M → K (.returned none) X' M) : gCt l G y_St_init (gRk (d + 1) 4 21201) true [gR G a] X M K := by
  have hk : gKn X a [] [(0, 15, 5)] := gKn.one (by omega) hs
  have hb := gKn.bld (i := 0) [(1, 0, 400), (2, 0, 400), (3, 0, 401), (4, 0, 20000)] hk (j := 0) ha (Nat.le_refl 0) (by decide) (fun q hq => absurd hq List.not_mem_nil)
  have e1 : (gBld X a [(1, 0, 400), (2, 0, 400), (3, 0, 401), (4, 0, 20000)]).1 = a + 4 := by rw [gBld_1, ha]; rfl
  refine me_St_init (m_St_init_0 h1 (by omega) hs hz ?_)
  refine k (gBld X a [(1, 0, 400), (2, 0, 400), (3, 0, 401), (4, 0, 20000)]) e1 ⟨h1, by omega, hb.s (i := 0) (by decide), fun q hq => ?_⟩ (gBld_w a _ X) (gBld_z a _ X hz)
  refine ⟨?_, ?_, by omega, ?_⟩
  · exact hb.f (i := 0) (k := q.1) (t := q.1) ((by decide : ∀ q ∈ gsTab, (0, q.1, q.1) ∈ gBF 0 0 [(1, 0, 400), (2, 0, 400), (3, 0, 401), (4, 0, 20000)] []) q hq)
  · exact hb.s (i := q.1) ((by decide : ∀ q ∈ gsTab, (q.1, 0, q.2) ∈ gBS 0 [(1, 0, 400), (2, 0, 400), (3, 0, 401), (4, 0, 20000)] [(0, 15, 5)]) q hq)
  · exact hb.l (i := q.1) ((by decide : ∀ q ∈ gsTab, (q.1, 0, q.2) ∈ gBS 0 [(1, 0, 400), (2, 0, 400), (3, 0, 401), (4, 0, 20000)] [(0, 15, 5)]) q hq)
theorem c_Vl_init (hok : gOk l G) {a n : Nat} (h1 : 1 ≤ a) (ha : X.1 = a) (hs : X.2.1 a = (17, 3)) (hz : gFr X M) (hn8 : n ≤ 8000000) (k : ∀ X', X'.1 = a + 3 + n → gvX X' a n → gGw X X' a → gFr X' M → K (.returned none) X' M) : gCt l G y_Vl_init (gRk (d + 1) (3 + n) (67 * n)) true [gR G a, gI (n : Int)] X M K := by
  refine me_Vl_init (m_Vl_init_0 hok h1 (by omega) hs hz hn8 ?_)
  have hk : gKn X a [] [(0, 17, 3)] := gKn.one (by omega) hs
  have hb : gKn (gBld X a [(0, 0, n), (1, 1, n)]) a [(0, 1, 2), (0, 0, 1)] [(2, 1, n), (1, 0, n), (0, 17, 3)] := gKn.bld (i := 0) [(0, 0, n), (1, 1, n)] hk (j := 0) ha (Nat.le_refl 0) (show ([0, 1] : List Nat).Nodup by decide) (fun q hq => absurd hq List.not_mem_nil)
  have hw : gGw X (gBld X a [(0, 0, n), (1, 1, n)]) a := gBld_w a _ X
  have hzz : gFr (gBld X a [(0, 0, n), (1, 1, n)]) M := gBld_z a _ X hz
  have e1 : (gBld X a [(0, 0, n), (1, 1, n)]).1 = a + 2 := by rw [gBld_1, ha]; rfl
  change K (.returned none) (gGu (gMu (gBld X a [(0, 0, n), (1, 1, n)]) n 64) a 2 ((gBld X a [(0, 0, n), (1, 1, n)]).1 + 1)) M
  generalize gBld X a [(0, 0, n), (1, 1, n)] = Y at hb hw hzz e1 ⊢
  have f0 : Y.2.2 a 0 = a + 1 := hb.f (i := 0) (by decide)
  have f1 : Y.2.2 a 1 = a + 2 := hb.f (i := 0) (by decide)
  have s0 : Y.2.1 a = (17, 3) := hb.s (i := 0) (List.mem_of_getElem? (i := 2) rfl)
  have s1 : Y.2.1 (a + 1) = (0, n) := hb.s (i := 1) (List.mem_of_getElem? (i := 1) rfl)
  have s2 : Y.2.1 (a + 2) = (1, n) := hb.s (i := 2) (List.mem_of_getElem? (i := 0) rfl)
  refine k _ (by show Y.1 + 1 + n = _; omega) ⟨h1, by show _ ≤ Y.1 + 1 + n; omega, (gMu_s (by omega)).trans s0, by omega, ⟨?_, (gMu_s (by omega)).trans s1⟩, ⟨?_, (gMu_s (by omega)).trans s2⟩, ⟨?_, ?_⟩, fun i hi => ⟨?_, ?_⟩⟩ (hw.tr ((gGw.mu Y a n 64).tr (gGw.gu _ a 2 _))) ((hzz.mu n 64).gu a 2 _)
  · rw [gGu_o _ _ (by omega), gMu_r (by omega)]; exact f0
  · rw [gGu_o _ _ (by omega), gMu_r (by omega)]; exact f1
  · rw [gGu_k, e1]
  · show (gMu Y n 64).2.1 (a + 3) = _
    unfold gMu
    dsimp only
    rw [if_neg (by omega), if_pos (by omega)]
  · rw [gGu_o _ _ (by omega)]
    unfold gMu
    dsimp only
    rw [if_neg (by omega), if_pos (by omega), if_pos hi]
    omega
  · show (gMu Y n 64).2.1 (a + 4 + i) = _
    unfold gMu
    dsimp only
    rw [if_neg (by omega), if_neg (by omega)]
abbrev qCn : List (Nat × Nat × Nat) := [(0, 0, 513), (1, 0, 513), (2, 0, 513), (3, 0, 513), (4, 0, 513), (5, 0, 513), (6, 0, 10480), (7, 1, 10480), (8, 0, 10480), (9, 0, 10480), (10, 2, 10480)]
theorem c_Cn_init {c : Nat} {F S : List (Nat × Nat × Nat)} (h1 : 1 ≤ c) (hk : gKn X c F S) (hj : X.1 = c + 2) (hs : (2, 9, 15) ∈ S) (hz : gFr X M) (hn : ∀ q ∈ F, q.1 ≠ 2) (k : ∀ X', X'.1 = c + 13 → gKn X' c (gBF 2 2 qCn F) (gBS 2 qCn S) → gFr X' (gUp M (c + 2) 11 1) → K (.returned none) X' (gUp M (c + 2) 11 1)) : gCt l G y_Cn_init (gRk (d + 1) 11 55478) true [gR G (c + 2)] X M K := by
  refine me_Cn_init (m_Cn_init_0 (by omega) (by omega) (hk.s hs) hz ?_)
  refine k (gBld X (c + 2) qCn) (by rw [gBld_1, hj]; rfl) (gKn.bld qCn hk hj (Nat.le_refl _) (by decide) (fun q hq r _ e => hn q hq e.1)) ?_
  exact (gBld_z (c + 2) qCn X hz).up (by rw [gBld_1, hj]; show c + 2 ≤ c + 2 + 11; omega) 11 1
abbrev qTk : List (Nat × Nat × Nat) := [(1, 0, 104), (2, 0, 104), (3, 0, 104), (4, 0, 104)]
theorem c_Tk_init {c : Nat} {F S : List (Nat × Nat × Nat)} (h1 : 1 ≤ c) (hk : gKn X c F S) (hj : X.1 = c + 16) (hs : (16, 16, 6) ∈ S) (hz : gFr X M) (hn : ∀ q ∈ F, q.1 ≠ 16) (k : ∀ X', X'.1 = c + 20 → gKn X' c ((16, 0, 1) :: gBF 16 16 qTk F) (gBS 16 qTk S) → gFr X' M → K (.returned none) X' M) : gCt l G y_Tk_init (gRk (d + 1) 4 416) true [gR G (c + 16), gR G (c + 1)] X M K := by
  have hb := gKn.bld qTk hk hj (Nat.le_refl 16) (by decide) (fun q hq r _ e => hn q hq e.1)
  have e1 : (gBld X (c + 16) qTk).1 = c + 20 := by rw [gBld_1, hj]; rfl
  refine me_Tk_init (m_Tk_init_0 (by omega) (by omega) (hk.s hs) hz (by omega) ?_)
  refine k (gGu (gBld X (c + 16) qTk) (c + 16) 0 (c + 1)) e1 (hb.gu rfl rfl (by omega) (fun q hq e => ?_)) ((gBld_z _ qTk X hz).gu _ _ _)
  have h9 : ∀ q ∈ gBF 16 16 qTk F, q ∈ F ∨ q.2.1 ≠ 0 := by
    intro q hq
    simp only [gBF, List.mem_cons] at hq
    rcases hq with rfl | rfl | rfl | rfl | hq
    · exact Or.inr (by decide)
    · exact Or.inr (by decide)
    · exact Or.inr (by decide)
    · exact Or.inr (by decide)
    · exact Or.inl hq
  rcases h9 q hq with h | h
  · exact hn q h e.1
  · exact h e.2
theorem c_Ed_init {c : Nat} {F S : List (Nat × Nat × Nat)} (h1 : 1 ≤ c) (hk : gKn X c F S) (hj : X.1 = c + 21) (hs : (21, 10, 8) ∈ S) (hz : gFr X M) (hn : ∀ q ∈ F, q.1 ≠ 21) (k : ∀ X', X'.1 = c + 22 → gKn X' c ((21, 0, 2) :: (21, 1, 22) :: F) ((22, 0, 50) :: S) → gFr X' M → K (.returned none) X' M) : gCt l G y_Ed_init (gRk (d + 1) 1 50) true [gR G (c + 21), gR G (c + 2)] X M K := by
  refine me_Ed_init (m_Ed_init_0 (by omega) (by omega) (hk.s hs) hz (by omega) ?_)
  have hb := hk.mk (k := 1) (sh := (0, 50)) hj (Nat.le_refl 21) (fun q hq e => hn q hq e.1)
  refine k _ (by show X.1 + 1 = _; omega) (hb.gu (t := 2) rfl rfl (by show c + 21 ≤ X.1 + 1; omega) (fun q hq e => ?_)) ((hz.mk _ _ _).gu _ _ _)
  rcases List.mem_cons.mp hq with rfl | hq
  · exact absurd e.2 (by decide)
  · exact hn q hq e.1
end gCtor
