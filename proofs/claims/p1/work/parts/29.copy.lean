/-! System.arraycopy over wp. -/
def gCp (M : gM) (a a0 : Nat) (sp dp n : Nat) : gM := fun b j => if b = a ∧ dp ≤ j ∧ j < dp + n then M a0 (sp + (j - dp)) else M b j
theorem gRep.cp {G : gG} {X : gX} {M : gM} {a a0 sp dp n t n0 n1 : Nat} {H H1 : Heap} (h : gRep G X M H) (hz : H1.size = H.size) (ho : ∀ q, q ≠ G.2.2.1 + a → H1[q]? = H[q]?) (h1 : 1 ≤ a) (h01 : 1 ≤ a0) (h02 : a0 ≤ X.1) (hs : X.2.1 a = (t, n1)) (hs0 : X.2.1 a0 = (t, n0)) (ht : t < 4) (h4 : sp + n ≤ n0)
    (e : H1[G.2.2.1 + a]? = some (arrV (G.2.1 t) n1 (va_cpy (gVal G X M a0) (gVal G X M a) sp dp n))) : gRep G X (gCp M a a0 sp dp n) H1 := by
  refine ⟨hz.trans h.1, fun q hq => (ho q (by omega)).trans (h.2.1 q hq), fun b hb1 hb2 => ?_⟩
  obtain ⟨c1, c2⟩ := h.2.2 b hb1 hb2
  have hkd : ∀ i j, gKd t i = gKd t j := by
    intro i j
    have : t = 0 ∨ t = 1 ∨ t = 2 ∨ t = 3 := by omega
    rcases this with rfl | rfl | rfl | rfl <;> rfl
  have hk2 : ∀ i, gKd t i ≠ 2 := by
    intro i
    have : t = 0 ∨ t = 1 ∨ t = 2 ∨ t = 3 := by omega
    rcases this with rfl | rfl | rfl | rfl
    · show (0 : Nat) ≠ 2; decide
    · show (1 : Nat) ≠ 2; decide
    · show (3 : Nat) ≠ 2; decide
    · show (4 : Nat) ≠ 2; decide
  by_cases eb : b = a
  · subst eb
    refine ⟨?_, fun j hj => ?_⟩
    · unfold gCe
      rw [hs, if_pos (by dsimp only; omega), e]
      congr 2
      funext j
      unfold va_cpy gVal gCp
      rw [hs, hs0]
      by_cases q : dp ≤ j ∧ j < dp + n
      · rw [if_pos q, if_pos ⟨rfl, q⟩]
        dsimp only
        rw [hkd (sp + (j - dp)) j]
        unfold gV
        split <;> first | rfl | (next hh => exact absurd hh (hk2 j))
      · rw [if_neg q, if_neg (fun z => q z.2)]
    · unfold gCp
      split
      · next q =>
        have h3 := (h.2.2 a0 h01 h02).2 (sp + (j - dp)) (by rw [hs0]; dsimp only; omega)
        rw [hs0] at h3
        rw [hs]
        dsimp only at h3 ⊢
        rw [hkd j (sp + (j - dp))]
        exact h3
      · exact c2 j hj
  · refine ⟨c1.other rfl (fun j _ => ?_) (ho _ (by omega)), fun j hj => ?_⟩
    · unfold gVal gCp
      rw [if_neg (fun q => eb q.1)]
    · unfold gCp
      rw [if_neg (fun q => eb q.1)]
      exact c2 j hj
section gCopy
variable {l : Launch} {G : gG} {y : gMt} {rm : Room} {fr md : Bool} {K : Outcome → gX → gM → Prop} {pc : Nat} {L L' : List Slot} {st : List Value} {X : gX} {M : gM} {cs ss : Nat}
theorem wp_copy {a a0 t n0 n1 index : Nat} {sp dp n : Int} (hd : decode y.2.1 pc = .ok (.invokestatic index, 3)) (hl : Cond.methodLink y.1.cls index arraycopyName ∈ gTb) (hnat : Cond.native arraycopyName ∈ gTb) (hst : Cond.static arraycopyName ∈ gTb) (hini : Cond.initialized "java/lang/System" ∈ gTb)
    (ht : t < 4) (h01 : 1 ≤ a0) (h02 : a0 ≤ X.1) (hs0 : X.2.1 a0 = (t, n0)) (h1 : 1 ≤ a) (h2 : a ≤ X.1) (hs : X.2.1 a = (t, n1)) (hn0 : n0 ≤ 2147483647) (hn1 : n1 ≤ 2147483647) (hb : 0 ≤ sp ∧ 0 ≤ dp ∧ 0 ≤ n ∧ sp + n ≤ (n0 : Int) ∧ dp + n ≤ (n1 : Int))
    (hf : 1 ≤ rm.frames) (hlo : (st.map fun v => v.category).sum + (nativeFrameWords "java/lang/System" "arraycopy" 5 + 11) ≤ rm.locals)
    (kk : wp l G y rm fr K true (pc + 3) L st X (gCp M a a0 sp.toNat dp.toNat n.toNat) cs ss) : wp l G y rm fr K md pc L (gI n :: gI dp :: gR G a :: gI sp :: gR G a0 :: st) X M cs ss := by
  intro p e s m args below meth c H locs ls hC hS hR hL T hT Xs
  have hts : ∀ w ∈ gTb, w.before args s = true := fun w h => hC.2.2.2.2.2.1 w h
  have hc0 := (hR.2.2 a0 h01 h02).1.arr hs0 (by omega)
  have hc1 := (hR.2.2 a h1 h2).1.arr hs (by omega)
  have gsp : g32 sp := by unfold g32; omega
  have gdp : g32 dp := by unfold g32; omega
  have gn : g32 n := by unfold g32; omega
  have hK := hC.2.2.2.2.2.2.2.2.1
  obtain ⟨-, k0, hk0, cm0, hkk0⟩ := (hK.2 t _ (gTy_at G (by omega))).1 n0 (gVal G X M a0)
  obtain ⟨-, k1, hk1, cm1, hkk1⟩ := (hK.2 t _ (gTy_at G (by omega))).1 n1 (gVal G X M a)
  have hprim : refKind (gFt t) = false := by
    have : t = 0 ∨ t = 1 ∨ t = 2 ∨ t = 3 := by omega
    rcases this with rfl | rfl | rfl | rfl <;> rfl
  rw [gR_ref G (r := a) (by omega), gR_ref G (r := a0) (by omega)]
  obtain ⟨vm', X', step⟩ := Xs.arraycopy hC.1 hC.2.2.2.2.1 (hts _ hl) (hts _ hnat) (hts _ hst) (hts _ hini) (src := G.2.2.1 + a0) (dst := G.2.2.1 + a) (cs := arrV (G.2.1 t) n0 (gVal G X M a0)) (cd := arrV (G.2.1 t) n1 (gVal G X M a)) (srcPos := Int32.ofInt sp) (destPos := Int32.ofInt dp) (n := Int32.ofInt n) (by rw [hT]; exact hc0) (by rw [hT]; exact hc1)
    (fun _ h => by cases h) (fun _ h => by cases h) (fun h => by cases h) (fun h => by cases h) hk0 hk1 hkk0 hkk1 (by simp [hprim]) (by rw [gz32, g32_lt gsp g32_0]; omega) (by rw [gz32, g32_lt gdp g32_0]; omega) (by rw [gz32, g32_lt gn g32_0]; omega)
    (by rw [g32_toInt gsp, g32_toInt gn, arrV_size]; omega)
    (by rw [g32_toInt gdp, g32_toInt gn, arrV_size]; omega)
    (fun vm₁ _ i hi => by
      rw [g_clamp gn (by omega)] at hi
      rw [g_clamp gsp (by omega)]
      have e9 : (arrV (G.2.1 t) n0 (gVal G X M a0)).slots.getD (sp.toNat + i) .null = gVal G X M a0 (sp.toNat + i) := by
        rw [Array.getD_eq_getD_getElem?, arrV_read _ _ (by omega)]
        rfl
      have hrg := (hR.2.2 a0 h01 h02).2 (sp.toNat + i) (by rw [hs0]; dsimp only; omega)
      rw [hs0] at hrg
      rw [e9]
      unfold gVal
      rw [hs0]
      have : t = 0 ∨ t = 1 ∨ t = 2 ∨ t = 3 := by omega
      rcases this with rfl | rfl | rfl | rfl
      · exact ⟨rfl, trivial⟩
      · exact ⟨rfl, trivial⟩
      · refine ⟨?_, trivial⟩
        have hr2 : -128 ≤ M a0 (sp.toNat + i) ∧ M a0 (sp.toNat + i) < 128 := hrg
        have g1 : g32 (M a0 (sp.toNat + i)) := g32_b hr2
        show (decide (-128 ≤ Int32.ofInt (M a0 (sp.toNat + i))) && decide (Int32.ofInt (M a0 (sp.toNat + i)) ≤ 127)) = true
        rw [show (-128 : Int32) = Int32.ofInt (-128) from rfl, show (127 : Int32) = Int32.ofInt 127 from rfl, Bool.and_eq_true, decide_eq_true_eq, decide_eq_true_eq, g32_le (g32_c rfl) g1, g32_le g1 (g32_c rfl)]
        omega
      · refine ⟨?_, trivial⟩
        have hr2 : 0 ≤ M a0 (sp.toNat + i) ∧ M a0 (sp.toNat + i) ≤ 1 := hrg
        have h9 : M a0 (sp.toNat + i) = 0 ∨ M a0 (sp.toNat + i) = 1 := by omega
        show fits .boolean (gI (M a0 (sp.toNat + i))) = true
        rcases h9 with h9 | h9 <;> rw [h9] <;> rfl)
    (g := F0 m pc ls (gI n :: gI dp :: .ref (G.2.2.1 + a) :: gI sp :: .ref (G.2.2.1 + a0) :: st)) rfl (hL.1.trans hC.2.2.2.1.symm) (rest := st) rfl (by rw [hC.2.1]; exact hd) hf (by show 2 * 0 + _ + _ ≤ _; omega)
  have e1 : copied (arrV (G.2.1 t) n0 (gVal G X M a0)) (arrV (G.2.1 t) n1 (gVal G X M a)) (Int32.ofInt sp) (Int32.ofInt dp) (Int32.ofInt n) = arrV (G.2.1 t) n1 (va_cpy (gVal G X M a0) (gVal G X M a) sp.toNat dp.toNat n.toNat) := by
    show (arrV (G.2.1 t) n1 (gVal G X M a)).storeRun (Int32.ofInt dp).toNatClampNeg ((arrV (G.2.1 t) n0 (gVal G X M a0)).stretch (Int32.ofInt sp).toNatClampNeg (Int32.ofInt n).toNatClampNeg) = _
    rw [g_clamp gsp (by omega), g_clamp gn (by omega), g_clamp gdp (by omega)]
    exact va_copied (fun z : Value => z) _ _ _ _ (by omega)
  rw [e1] at X' step
  have hl2 : G.2.2.1 + a < H.size := (Array.getElem?_eq_some_iff.mp hc1).1
  have oq : ∀ q : Nat, q ≠ G.2.2.1 + a → (H.setIfInBounds (G.2.2.1 + a) (arrV (G.2.1 t) n1 (va_cpy (gVal G X M a0) (gVal G X M a) sp.toNat dp.toNat n.toNat)))[q]? = H[q]? := fun q hq => by simp [Array.getElem?_setIfInBounds, Ne.symm hq]
  have hheap : ((T.setVm vm').setCell (G.2.2.1 + a) (arrV (G.2.1 t) n1 (va_cpy (gVal G X M a0) (gVal G X M a) sp.toNat dp.toNat n.toNat))).heap = H.setIfInBounds (G.2.2.1 + a) (arrV (G.2.1 t) n1 (va_cpy (gVal G X M a0) (gVal G X M a) sp.toNat dp.toNat n.toNat)) := by rw [← hT]; rfl
  have hSt := gS_t hS
  obtain ⟨t2, a1, b1⟩ := kk p e s m args below meth c _ _ ls hC ⟨by simp; exact hSt.1, fun q g1 g2 => by
      rw [oq q (fun e => g2 (by rw [e]; exact gA_pos h1))]
      exact hSt.2.1 q g1 g2, fun q hq => by
      rcases List.mem_append.mp hq with h | h
      · exact hSt.2.2 q h
      · obtain ⟨z, -, hz⟩ := List.mem_map.mp h
        rw [← hz]
        exact gA_pos h1⟩ (hR.cp (by simp) oq h1 h01 h02 hs hs0 ht (by omega) (by simp [Array.getElem?_setIfInBounds, hl2])) hL _ hheap X'
  exact ⟨t2, step t2 a1, b1⟩
end gCopy
theorem g_cplo (d : Nat) : (([] : List Value).map fun v => v.category).sum + (nativeFrameWords "java/lang/System" "arraycopy" 5 + 11) ≤ (gRm (d + 1)).locals := by
  have h : nativeFrameWords "java/lang/System" "arraycopy" 5 ≤ 60 := by decide +kernel
  show 0 + _ ≤ 100 * (d + 1)
  omega
theorem g_cpfr (d : Nat) : 1 ≤ (gRm (d + 1)).frames := Nat.le_add_left 1 d
