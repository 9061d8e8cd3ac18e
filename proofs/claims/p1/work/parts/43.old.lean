/-! Cells that were there before: statics, constants' fields, their arrays, over wp. What is known of them comes out of gSP. -/
section gOld
variable {l : Launch} {G : gG} {y z : gMt} {rm rm' : Room} {fr fz md : Bool} {K Kz : Outcome → gX → gM → Prop} {pc : Nat} {L : List Slot} {st : List Value} {X : gX} {M : gM} {cs ss : Nat}
theorem wp_oiald {t N : Nat} {f : Nat → Int} {i : Int} (hd : decode y.2.1 pc = .ok (.iaload, 1)) (hT : ∀ U, gSP G U → va_T .int t N (fun j => gI (f j)) (gA G true) U U.heap) (hg : g32 i) (h0 : 0 ≤ i) (hi : i < (N : Int)) (kk : wp l G y rm fr K md (pc + 1) L (gI (f i.toNat) :: st) X M cs ss) : wp l G y rm fr K md pc L (gI i :: .ref t :: st) X M cs ss := by
  intro p e s m args below meth c H locs ls hC hS hR hL
  obtain ⟨cell, h1, h2, h3, h4, h5, h6, h7⟩ := (hT s (gNow hC)).kept (gS_t hS).2.1
  refine W.iald (v := gI (f i.toNat)) hC.1 hC.2.1 h1 h2 h3 ?_ ?_ rfl rfl hd (kk p e s m args below meth c H locs ls hC hS hR hL)
  · rw [g_clamp hg h0, gz32, g32_lt hg g32_0]; omega
  · rw [g_clamp hg h0]; exact h6 _ (by omega)
theorem wp_olen {ty : FieldType} {t N : Nat} {f : Nat → Value} (hd : decode y.2.1 pc = .ok (.arraylength, 1)) (hT : ∀ U, gSP G U → va_T ty t N f (gA G true) U U.heap) (kk : wp l G y rm fr K md (pc + 1) L (gI (N : Int) :: st) X M cs ss) : wp l G y rm fr K md pc L (.ref t :: st) X M cs ss := by
  intro p e s m args below meth c H locs ls hC hS hR hL
  obtain ⟨cell, h1, h2, h3, h4, h5, h6, h7⟩ := (hT s (gNow hC)).kept (gS_t hS).2.1
  exact W.alen (n := Int32.ofInt N) hC.1 hC.2.1 h1 h2 (by rw [h5]; exact Int32.ofInt_eq_ofNat.symm) rfl rfl hd (kk p e s m args below meth c H locs ls hC hS hR hL)
end gOld
section gLdcS
variable {l : Launch} {G : gG} {y : gMt} {rm : Room} {fr md : Bool} {K : Outcome → gX → gM → Prop} {pc : Nat} {L : List Slot} {st : List Value} {X : gX} {M : gM} {cs ss : Nat}
end gLdcS
