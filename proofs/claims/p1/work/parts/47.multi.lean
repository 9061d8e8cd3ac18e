/-! An array of arrays of bytes is made. What isn't made yet is 0. -/
def gFr (X : gX) (M : gM) : Prop := ∀ b j : Nat, X.1 < b → M b j = 0
theorem gZr_id {X : gX} {M : gM} (h : gFr X M) : gZr M (X.1 + 1) = M := by
  funext b j
  unfold gZr
  split
  · next e => exact (h b j (by omega)).symm
  · rfl
theorem gFr.nw {X : gX} {M : gM} (h : gFr X M) (sh : Nat × Nat) : gFr (gNw X sh) M := fun b j hb => h b j (by unfold gNw at hb; dsimp only at hb; omega)
theorem gFr.gu {X : gX} {M : gM} (h : gFr X M) (a k r : Nat) : gFr (gGu X a k r) M := h
theorem gFr.up {X : gX} {M : gM} (h : gFr X M) {a : Nat} (ha : a ≤ X.1) (k : Nat) (x : Int) : gFr X (gUp M a k x) := fun b j hb => by
  unfold gUp
  rw [if_neg (fun q => by omega)]
  exact h b j hb
def gMu (X : gX) (N k : Nat) : gX := (X.1 + 1 + N, fun b => if b ≤ X.1 then X.2.1 b else if b = X.1 + 1 then (4, N) else (2, k), fun b j => if b ≤ X.1 then X.2.2 b j else if b = X.1 + 1 then (if j < N then X.1 + 2 + j else 0) else 0)
theorem gFr.mu {X : gX} {M : gM} (h : gFr X M) (N k : Nat) : gFr (gMu X N k) M := fun b j hb => h b j (by unfold gMu at hb; dsimp only at hb; omega)
theorem g_outer (c : ClassId) (N h0 : Nat) : ∀ i, Jvm.Free.Multi.outerC c N h0 i = { cls := c, slots := (Jvm.Free.Multi.outerC c N h0 i).slots, vm := .none }
  | 0 => rfl
  | i + 1 => by
    have ih := g_outer c N h0 i
    show (Jvm.Free.Multi.outerC c N h0 i).setSlot i _ = { cls := c, slots := ((Jvm.Free.Multi.outerC c N h0 i).setSlot i _).slots, vm := .none }
    rw [ih]
    rfl
theorem gRep.mu {G : gG} {X : gX} {M : gM} {N k : Nat} {H H1 : Heap} (h : gRep G X M H) (hf : gFr X M) (hz : H1.size = H.size + 1 + N) (ho : ∀ q, q < H.size → H1[q]? = H[q]?)
    (hc : ∃ cell : Cell, H1[H.size]? = some cell ∧ cell = { cls := G.2.1 4, slots := cell.slots, vm := .none } ∧ cell.slots.size = N ∧ ∀ j, j < N → cell.slots[j]? = some (.ref (H.size + 1 + j)))
    (hi : ∀ j, j < N → H1[H.size + 1 + j]? = some { cls := G.2.1 2, slots := Array.replicate k (.int 0), vm := .none }) : gRep G (gMu X N k) M H1 := by
  have hs := h.1
  refine ⟨by rw [hz, hs]; unfold gMu; dsimp only; omega, fun q hq => (ho q (by omega)).trans (h.2.1 q hq), fun b hb1 hb2 => ?_⟩
  have hb2' : b ≤ X.1 + 1 + N := hb2
  by_cases e : b ≤ X.1
  · obtain ⟨c1, c2⟩ := h.2.2 b hb1 e
    have e2 : (gMu X N k).2.1 b = X.2.1 b := by unfold gMu; dsimp only; rw [if_pos e]
    refine ⟨c1.other e2 (fun j _ => ?_) (ho _ (by omega)), fun j hj => ?_⟩
    · unfold gVal
      rw [e2]
      unfold gMu
      dsimp only
      rw [if_pos e]
    · rw [e2] at hj ⊢
      exact c2 j hj
  · by_cases e1 : b = X.1 + 1
    · subst e1
      have e2 : (gMu X N k).2.1 (X.1 + 1) = (4, N) := by unfold gMu; dsimp only; rw [if_neg e, if_pos rfl]
      have e3 : ∀ j, j < N → (gMu X N k).2.2 (X.1 + 1) j = X.1 + 2 + j := fun j hj => by unfold gMu; dsimp only; rw [if_neg e, if_pos rfl, if_pos hj]
      refine ⟨?_, fun j hj => by rw [e2]; exact True.intro⟩
      unfold gCe
      rw [e2, if_pos (by dsimp only; omega)]
      obtain ⟨cell, h1, e4, h4, h5⟩ := hc
      have hq : G.2.2.1 + (X.1 + 1) = H.size := by rw [hs]; omega
      rw [hq, h1]
      unfold arrV
      rw [e4]
      dsimp only
      congr 2
      apply Array.ext
      · rw [h4]; simp
      · intro i i1 i2
        have h6 := h5 i (by omega)
        rw [Array.getElem?_eq_getElem i1] at h6
        rw [Option.some.inj h6]
        simp only [Array.getElem_ofFn]
        unfold gVal
        rw [e2, e3 i (by omega)]
        show _ = gR G (X.1 + 2 + i)
        rw [gR_ref G (by omega), hs]
        have e7 : G.2.2.1 + 1 + X.1 + 1 + i = G.2.2.1 + (X.1 + 2 + i) := by omega
        rw [e7]
    · obtain ⟨j, rfl⟩ : ∃ j, b = X.1 + 2 + j := ⟨b - (X.1 + 2), by omega⟩
      have e2 : (gMu X N k).2.1 (X.1 + 2 + j) = (2, k) := by unfold gMu; dsimp only; rw [if_neg e, if_neg e1]
      refine ⟨?_, fun i hi2 => ?_⟩
      · unfold gCe
        rw [e2, if_pos (by dsimp only; omega)]
        have hq : G.2.2.1 + (X.1 + 2 + j) = H.size + 1 + j := by rw [hs]; omega
        rw [hq, hi j (by omega)]
        unfold arrV
        congr 2
        apply Array.ext
        · simp
        · intro i i1 i2
          simp only [Array.getElem_replicate, Array.getElem_ofFn]
          unfold gVal
          rw [e2, hf (X.1 + 2 + j) i (by omega)]
          rfl
      · rw [e2, hf (X.1 + 2 + j) i (by omega)]
        show (-128 : Int) ≤ 0 ∧ (0 : Int) < 128
        decide
section gMulti
variable {l : Launch} {G : gG} {y : gMt} {rm : Room} {fr md : Bool} {K : Outcome → gX → gM → Prop} {pc : Nat} {L : List Slot} {st : List Value} {X : gX} {M : gM} {cs ss : Nat}
theorem wp_multi {n k : Int} {N Q index : Nat} (hd : decode y.2.1 pc = .ok (.multianewarray index 2, 4)) (hw : Cond.classLink y.1.cls index "[[B" ∈ gTb) (hw2 : ∀ U, gSP G U → ∀ args : Array Value, (Cond.arrayOver (.array .byte)).before args U = true) (hw3 : Cond.arrayClass .byte ∈ gTb) (hn : n = (N : Int)) (hk : k = (Q : Int)) (hN : N ≤ 8000000) (hQ : Q ≤ 8000000) (hcs : cs + (1 + N) ≤ rm.cells) (hss : ss + (N + N * Q) ≤ rm.slots) (hf : gFr X M)
    (kk : wp l G y rm fr K true (pc + 4) L (gR G (X.1 + 1) :: st) (gMu X N Q) M (cs + 1 + N) (ss + N + N * Q)) : wp l G y rm fr K md pc L (gI k :: gI n :: st) X M cs ss := by
  intro p e s m args below meth c H locs ls hC hS hR hL T hT Xs
  have hts : ∀ w ∈ gTb, w.before args s = true := fun w h => hC.2.2.2.2.2.1 w h
  have hgn : g32 n := by unfold g32; omega
  have hgk : g32 k := by unfold g32; omega
  have hcn : (Int32.ofInt n).toNatClampNeg = N := by rw [g_clamp hgn (by omega)]; omega
  have hck : (Int32.ofInt k).toNatClampNeg = Q := by rw [g_clamp hgk (by omega)]; omega
  have e9 : ("[" ++ (FieldType.array .byte).toString) = "[[B" := by decide +kernel
  obtain ⟨vm₁, cA, comp, hW, hfA, hfC, -, -, X1, step⟩ := Xs.multianewarray2F hC.1 (own := y.1.cls) (index := index) (ty := .byte) hC.2.2.2.2.1 (by rw [e9]; exact hts _ hw) (hw2 s (gNow hC) args) (hts _ hw3) (g := F0 m pc ls (gI k :: gI n :: st)) rfl (by rw [hC.2.1]; exact hd) (n := Int32.ofInt n) (k := Int32.ofInt k) (rest := st) rfl
    (by rw [gz32, g32_lt hgn g32_0]; omega) (by rw [gz32, g32_lt hgk g32_0]; omega) (by rw [hcn]; omega) (by rw [hck]; show Q * 1 ≤ _; omega) (by rw [hck]; omega) rfl rfl (by rw [hcn]; exact hcs) (by rw [hcn, hck]; exact hss)
  rw [hcn, hck] at X1 step
  have hcA : cA = G.2.1 4 := Option.some.inj (hfA.symm.trans (hC.2.2.2.2.2.2.2.2.1.2 4 _ (gTy_at G (by omega))).2)
  have hcB : comp = G.2.1 2 := Option.some.inj (hfC.symm.trans (hC.2.2.2.2.2.2.2.2.1.2 2 _ (gTy_at G (by omega))).2)
  subst hcA; subst hcB
  obtain ⟨f1, f2, f3, f4⟩ := Jvm.Free.Multi.fill_facts (T.setVm vm₁) (G.2.1 4) (G.2.1 2) N Q (defaultValue .byte) N
  obtain ⟨o1, o2, o3⟩ := Jvm.Free.Multi.outerC_facts (G.2.1 4) N (T.setVm vm₁).heap.size N
  have hsz : (T.setVm vm₁).heap.size = H.size := by rw [← hT]; rfl
  rw [hsz] at f1 f2 o3
  have ho : ∀ q, q < H.size → (Jvm.Free.Multi.fill (T.setVm vm₁) (G.2.1 4) (G.2.1 2) N Q (defaultValue .byte) N).heap[q]? = H[q]? := fun q hq => by
    rw [Jvm.Free.Multi.fill_old (T.setVm vm₁) (G.2.1 4) (G.2.1 2) N Q _ (by rw [hsz]; exact hq), ← hT]
    rfl
  have hi : ∀ j, j < N → (Jvm.Free.Multi.fill (T.setVm vm₁) (G.2.1 4) (G.2.1 2) N Q (defaultValue .byte) N).heap[H.size + 1 + j]? = some { cls := G.2.1 2, slots := Array.replicate Q (.int 0), vm := .none } := fun j hj => by
    have h9 := Jvm.Free.Multi.fill_inner (T.setVm vm₁) (G.2.1 4) (G.2.1 2) N Q (defaultValue .byte) N j hj
    rw [hsz] at h9
    exact h9
  have hS' := gS_t hS
  obtain ⟨t, a1, b1⟩ := kk p e s m args below meth c _ locs ls hC ⟨Nat.le_trans hS'.1 (by rw [f1]; omega), fun x h1 h2 => (ho x (Nat.lt_of_lt_of_le h1 hS'.1)).trans (hS'.2.1 x h1 h2), hS'.2.2⟩
    (hR.mu hf f1 ho ⟨_, f2, g_outer _ _ _ _, o3, fun j hj => by rw [Jvm.Free.Multi.outerC_slot (G.2.1 4) N H.size N j hj, if_pos hj]⟩ hi) hL _ rfl X1
  refine ⟨t, step t ?_, b1⟩
  have e8 : (Value.ref T.heap.size) = gR G (X.1 + 1) := by rw [hT]; exact g_size hR
  rw [e8]
  exact a1
end gMulti
