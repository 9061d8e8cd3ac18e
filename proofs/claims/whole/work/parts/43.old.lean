/-! Cells that were there before: statics, constants' fields, their arrays, over wp. What is known of them comes out of gSP. -/
section gOld
variable {l : Launch} {G : gG} {y z : gMt} {rm rm' : Room} {fr fz md : Bool} {K Kz : Outcome → gX → gM → Prop} {pc : Nat} {L : List Slot} {st : List Value} {X : gX} {M : gM} {cs ss : Nat}
theorem wp_gets {C n d : String} {v : Value} {index : Nat} (hd : decode y.2.1 pc = .ok (.getstatic index, 3)) (hw : Cond.fieldLink y.1.cls index C n d ∈ gTb) (hZ : ∀ U, gSP G U → va_Z C n d v (gA G true) U U.heap) (kk : wp l G y rm fr K md (pc + 3) L (v :: st) X M cs ss) : wp l G y rm fr K md pc L st X M cs ss := by
  intro p e s m args below meth c H locs ls hC hS hR hL
  have hts : ∀ w ∈ gTb, w.before args s = true := fun w h => hC.2.2.2.2.2.1 w h
  exact va_gets hC.1 hC.2.1 (hZ s (gNow hC)) (gS_t hS) hC.2.2.2.2.1 (hts _ hw) (fun _ h => h) hd (kk p e s m args below meth c H locs ls hC hS hR hL)
theorem wp_getsN {C n d host : String} {v : Value} {index : Nat} (hd : decode y.2.1 pc = .ok (.getstatic index, 3)) (hw : Cond.fieldLinkNest y.1.cls index C n d host ∈ gNst) (hZ : ∀ U, gSP G U → va_Z C n d v (gA G true) U U.heap) (kk : wp l G y rm fr K md (pc + 3) L (v :: st) X M cs ss) : wp l G y rm fr K md pc L st X M cs ss := by
  intro p e s m args below meth c H locs ls hC hS hR hL
  exact va_getsN hC.1 hC.2.1 (hZ s (gNow hC)) (gS_t hS) hC.2.2.2.2.1 ((gNow hC).1 _ hw _) (fun _ h => h) hd (kk p e s m args below meth c H locs ls hC hS hR hL)
theorem wp_oget {o n d : String} {v : Value} {index q : Nat} (hd : decode y.2.1 pc = .ok (.getfield index, 3)) (hw : Cond.fieldLink y.1.cls index o n d ∈ gTb) (hF : ∀ U, gSP G U → va_OF o n d v q (gA G true) U U.heap) (kk : wp l G y rm fr K md (pc + 3) L (v :: st) X M cs ss) : wp l G y rm fr K md pc L (.ref q :: st) X M cs ss := by
  intro p e s m args below meth c H locs ls hC hS hR hL
  have hts : ∀ w ∈ gTb, w.before args s = true := fun w h => hC.2.2.2.2.2.1 w h
  exact vk_getf hC.1 hC.2.1 (hF s (gNow hC)) (gS_t hS) hC.2.2.2.2.1 (hts _ hw) (fun _ h => h) hd (kk p e s m args below meth c H locs ls hC hS hR hL)
theorem wp_oiald {t N : Nat} {f : Nat → Int} {i : Int} (hd : decode y.2.1 pc = .ok (.iaload, 1)) (hT : ∀ U, gSP G U → va_T .int t N (fun j => gI (f j)) (gA G true) U U.heap) (hg : g32 i) (h0 : 0 ≤ i) (hi : i < (N : Int)) (kk : wp l G y rm fr K md (pc + 1) L (gI (f i.toNat) :: st) X M cs ss) : wp l G y rm fr K md pc L (gI i :: .ref t :: st) X M cs ss := by
  intro p e s m args below meth c H locs ls hC hS hR hL
  obtain ⟨cell, h1, h2, h3, h4, h5, h6, h7⟩ := (hT s (gNow hC)).kept (gS_t hS).2.1
  refine W.iald (v := gI (f i.toNat)) hC.1 hC.2.1 h1 h2 h3 ?_ ?_ rfl rfl hd (kk p e s m args below meth c H locs ls hC hS hR hL)
  · rw [g_clamp hg h0, gz32, g32_lt hg g32_0]; omega
  · rw [g_clamp hg h0]; exact h6 _ (by omega)
theorem wp_obald {t N : Nat} {f : Nat → Int} {i : Int} (hd : decode y.2.1 pc = .ok (.baload, 1)) (hT : ∀ U, gSP G U → va_T .byte t N (fun j => gI (f j)) (gA G true) U U.heap) (hg : g32 i) (h0 : 0 ≤ i) (hi : i < (N : Int)) (kk : wp l G y rm fr K md (pc + 1) L (gI (f i.toNat) :: st) X M cs ss) : wp l G y rm fr K md pc L (gI i :: .ref t :: st) X M cs ss := by
  intro p e s m args below meth c H locs ls hC hS hR hL
  obtain ⟨cell, h1, h2, h3, h4, h5, h6, h7⟩ := (hT s (gNow hC)).kept (gS_t hS).2.1
  refine W.bald (v := gI (f i.toNat)) hC.1 hC.2.1 h1 h2 h3 ?_ ?_ rfl rfl hd (kk p e s m args below meth c H locs ls hC hS hR hL)
  · rw [g_clamp hg h0, gz32, g32_lt hg g32_0]; omega
  · rw [g_clamp hg h0]; exact h6 _ (by omega)
theorem wp_oaald {C : String} {t N : Nat} {f : Nat → Nat} {i : Int} (hd : decode y.2.1 pc = .ok (.aaload, 1)) (hT : ∀ U, gSP G U → va_T (.object C) t N (fun j => .ref (f j)) (gA G true) U U.heap) (hg : g32 i) (h0 : 0 ≤ i) (hi : i < (N : Int)) (kk : wp l G y rm fr K md (pc + 1) L (.ref (f i.toNat) :: st) X M cs ss) : wp l G y rm fr K md pc L (gI i :: .ref t :: st) X M cs ss := by
  intro p e s m args below meth c H locs ls hC hS hR hL
  obtain ⟨cell, h1, h2, h3, h4, h5, h6, h7⟩ := (hT s (gNow hC)).kept (gS_t hS).2.1
  refine W.aald (v := .ref (f i.toNat)) (ty := .object C) hC.1 hC.2.1 h1 h2 rfl h3 ?_ ?_ rfl rfl hd (kk p e s m args below meth c H locs ls hC hS hR hL)
  · rw [g_clamp hg h0, gz32, g32_lt hg g32_0]; omega
  · rw [g_clamp hg h0]; exact h6 _ (by omega)
theorem wp_olen {ty : FieldType} {t N : Nat} {f : Nat → Value} (hd : decode y.2.1 pc = .ok (.arraylength, 1)) (hT : ∀ U, gSP G U → va_T ty t N f (gA G true) U U.heap) (kk : wp l G y rm fr K md (pc + 1) L (gI (N : Int) :: st) X M cs ss) : wp l G y rm fr K md pc L (.ref t :: st) X M cs ss := by
  intro p e s m args below meth c H locs ls hC hS hR hL
  obtain ⟨cell, h1, h2, h3, h4, h5, h6, h7⟩ := (hT s (gNow hC)).kept (gS_t hS).2.1
  exact W.alen (n := Int32.ofInt N) hC.1 hC.2.1 h1 h2 (by rw [h5]; exact Int32.ofInt_eq_ofNat.symm) rfl rfl hd (kk p e s m args below meth c H locs ls hC hS hR hL)
theorem wp_acmp_ne {a b : Nat} {off : Int} {tgt : Nat} (hd : decode y.2.1 pc = .ok (.if_acmp .ne off, 3)) (ht : (pc : Int) + off = (tgt : Int)) (kt : ¬ a = b → wp l G y rm fr K md tgt L st X M cs ss) (kf : a = b → wp l G y rm fr K md (pc + 3) L st X M cs ss) : wp l G y rm fr K md pc L (.ref b :: .ref a :: st) X M cs ss := by
  intro p e s m args below meth c H locs ls hC hS hR hL
  exact lv_acmp_ne (rx := some a) (ry := some b) hC.1 hC.2.1 hd ht (fun h => kt (fun h2 => h (by rw [h2])) p e s m args below meth c H locs ls hC hS hR hL) (fun h => kf (Option.some.inj h) p e s m args below meth c H locs ls hC hS hR hL)
theorem wp_acmp_eq {a b : Nat} {off : Int} {tgt : Nat} (hd : decode y.2.1 pc = .ok (.if_acmp .eq off, 3)) (ht : (pc : Int) + off = (tgt : Int)) (kt : a = b → wp l G y rm fr K md tgt L st X M cs ss) (kf : ¬ a = b → wp l G y rm fr K md (pc + 3) L st X M cs ss) : wp l G y rm fr K md pc L (.ref b :: .ref a :: st) X M cs ss := by
  intro p e s m args below meth c H locs ls hC hS hR hL
  exact lv_acmp_eq (rx := some a) (ry := some b) hC.1 hC.2.1 hd ht (fun h => kt (Option.some.inj h) p e s m args below meth c H locs ls hC hS hR hL) (fun h => kf (fun h2 => h (by rw [h2])) p e s m args below meth c H locs ls hC hS hR hL)
/-- a call on an object that was there before -/
theorem wp_callO {As : List Value} {index n q : Nat} {C : String} (hd : decode y.2.1 pc = .ok (.invokevirtual index, 3)) (hz : gCal z n) (hl : Cond.methodLink y.1.cls index z.1 ∈ gTb) (hin : Cond.instanceMethod z.1 ∈ gTb) (hse : Cond.selects C z.1 z.1 ∈ gTb) (hO : ∀ U, gSP G U → va_O C q (gA G true) U U.heap) (hM : gCt l G z rm' fz (.ref q :: As) X M Kz) (hret : ∀ o X' M', Kz o X' M' → ∃ v, o = .returned v) {md' : Bool} (hm1 : md = true → md' = true) (hm2 : fz = true → md' = true) (hn : As.length = n)
    (hRm : rm'.frames + 1 ≤ rm.frames ∧ 8 + (z.2.2.1 + 11) + rm'.locals ≤ rm.locals) (hW : (st.map fun v => v.category).sum ≤ 8) (hf : cs + rm'.cells ≤ rm.cells ∧ ss + rm'.slots ≤ rm.slots) {st0 : List Value} (h0 : st0 = As.reverse ++ .ref q :: st)
    (kk : ∀ (v : Option Value) (X' : gX) (M' : gM), Kz (.returned v) X' M' → wp l G y rm fr K md' (pc + 3) L (v.toList ++ st) X' M' (cs + rm'.cells) (ss + rm'.slots)) : wp l G y rm fr K md pc L st0 X M cs ss := by
  subst h0
  intro p e s m args below meth c H locs ls hC hS hR hL
  obtain ⟨cell, h1, h2, h3, -⟩ := (hO s (gNow hC)).kept (gS_t hS).2.1
  exact gAfter hm1 hm2 (va_runV (gFix hC) (hM.met hret) ⟨gCallB hC hz hl hRm, hC.2.2.2.2.2.1 _ hin, hC.2.2.2.2.2.1 _ hse⟩ ⟨(gPre hC hR).1, ⟨cell, h1, h2, h3⟩, (gPre hC hR).2⟩ rfl hn hL.1 rfl (lv_room hW) hd hf) hC hS hL kk
end gOld
section gLdcS
variable {l : Launch} {G : gG} {y : gMt} {rm : Room} {fr md : Bool} {K : Outcome → gX → gM → Prop} {pc : Nat} {L : List Slot} {st : List Value} {X : gX} {M : gM} {cs ss : Nat}
theorem wp_ldcS {tx : String} {index q : Nat} (hd : decode y.2.1 pc = .ok (.ldc index, 2)) (hZ : ∀ U, gSP G U → vk_R y.1.cls index tx q U) (kk : wp l G y rm fr K md (pc + 2) L (.ref q :: st) X M cs ss) : wp l G y rm fr K md pc L st X M cs ss := by
  intro p e s m args below meth c H locs ls hC hS hR hL
  exact va_ldcS hC.1 hC.2.1 hC.2.2.2.2.1 (hZ s (gNow hC)) hd (kk p e s m args below meth c H locs ls hC hS hR hL)
theorem wp_ldcSW {tx : String} {index q : Nat} (hd : decode y.2.1 pc = .ok (.ldc_w index, 3)) (hZ : ∀ U, gSP G U → vk_R y.1.cls index tx q U) (kk : wp l G y rm fr K md (pc + 3) L (.ref q :: st) X M cs ss) : wp l G y rm fr K md pc L st X M cs ss := by
  intro p e s m args below meth c H locs ls hC hS hR hL T hT Xs
  obtain ⟨t, a1, b1⟩ := kk p e s m args below meth c H locs ls hC hS hR hL T hT Xs
  refine ⟨t, ?_, b1⟩
  have h9 := hZ s (gNow hC)
  obtain ⟨k, cf, i, a', hk, hcf, hcp, -, hr, hev'⟩ := Cond.stringRef_spec hC.2.2.2.2.1 h9.1
  cases h9.2.symm.trans hev'
  obtain ⟨k', hk', he⟩ := Xs.warmed.alike.2.2 _ _ hk
  have hr' : k'.resolved[index]? = some (some (.string q)) := by
    rcases Xs.warmed.entry hk hk' index with h | ⟨h, -⟩
    · rw [h]; exact hr
    · rw [hr] at h; cases h
  jvm_step Xs.here [hC.1, hC.2.1, hd, ldc_w.wp_string (e := e) (s := T) (f := F0 m pc ls st) Xs.here.top hk' (by rw [he]; exact hcf) hcp hr']
  exact a1
end gLdcS
