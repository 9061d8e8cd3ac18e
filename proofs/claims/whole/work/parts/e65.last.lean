/-! From the start of the law to its end. Written by wip/whole/gen_last.py -/
/-- what is known of every state of the run, the constants among it -/
def gP1 (b L n : Nat) (xs : Nat → Int) (G0 : gG) (Q : gQ) : State → Prop := fun U => gP0 b L n xs U ∧ (∀ i, i < 52 → gOw G0 Q U i) ∧ (∀ t, t < 66 → gOs G0 Q U t) ∧ gOa G0 Q U
theorem gBridgeO {p : Program} {e : Env} {s : State} {m : MethodId} {below : List Frame} {meth : Method} {c : Code} {l : Launch} {b L : Nat} {xs : Nat → Int32} {K : Outcome → gX → gM → Prop} (hnt : ∀ e : Env, l.admits e → e.platform.stackTraces = false) (hnm : s.methodNamed? x = some m) (hname : meth.name = x.name) (hts1 : ∀ w ∈ tables_1, w.before #[Value.ref b] s = true) (C0 : lw_At p s m meth c b L xs) (hK : ∀ o X M, K o X M → o = .returned (some (gI 1)))
    (hw : ∀ (G : gG) (Q : gQ), gOk l G → gOld G Q → (∀ U, gSP G U → va_T .int b L (fun j => gI (xs j).toInt) (gA G true) U U.heap) → wp l G y_Lw_law room_1 true K false 0 [.val (.ref b), .unset, .unset, .unset, .unset, .unset, .unset, .unset] [] gX0 (fun _ _ => 0) 0 0) : W p l e room_1 s m #[Value.ref b] below meth c s.heap [] 0 0 (lw_Z below #[Value.ref b] s) (entryFrame m ([Value.ref b] : List Value).toArray 8) := by
  obtain ⟨hexec, hcode, hret, hml, hown, hts, hX, hbl, hlocks, hgv⟩ := C0
  have hTb : ∀ w ∈ gTb, w.before #[Value.ref b] s = true := fun w hw => hts w (List.mem_filter.mp hw).1
  have hfl := flat_of_before _ hgv
  have hxn : ∀ w ∈ gXn, w.before #[Value.ref b] s = true := by
    intro w hw
    simp only [gXn, List.mem_cons, List.not_mem_nil, or_false] at hw
    rcases hw with rfl | rfl | rfl | rfl <;> exact hfl _ (by decide +kernel)
  obtain ⟨D, E, hKK⟩ := gK_ex hTb (hts1 _ (by decide +kernel)) (hts1 _ (by decide +kernel))
  obtain ⟨n, hn⟩ : ∃ n, n + 1 = s.heap.size := ⟨s.heap.size - 1, by omega⟩
  have hT : va_T .int b L (fun j => gI (xs j).toInt) (fun q => true = true ∧ n < q) s s.heap := by
    obtain ⟨scr, h1, h2, h3, h4, h5⟩ := hX
    refine ⟨scr, h1, h2, h3, Nat.le_of_eq h4.symm, by rw [h4], fun j hj => ?_, fun h => ?_⟩
    · rw [h5 j hj]
      show some (Value.int (xs j)) = some (Value.int (Int32.ofInt (xs j).toInt))
      rw [Int32.ofInt_toInt]
    · have := h.2
      omega
  obtain ⟨Q, hQ⟩ := gOld_s (G := (D, E, n, s.heap, fun _ => True)) (fun w hw => hfl w hw) hts1 hn
  have hSt : gSt (D, E, n, s.heap, gP1 b L n (fun j => (xs j).toInt) (D, E, n, s.heap, fun _ => True) Q) s := by
    intro U hW hq
    have h0 := gSt_ex (D := D) (E := E) hts1 hxn hT hn U hW hq
    exact ⟨h0.1, h0.2, gOld_u hW (fun q h => hq q (by show q ≤ n; omega)) hQ⟩
  have hl := lv_entry [Value.ref b] (n := 8) (show 1 ≤ 8 by decide)
  have k := hw (D, E, n, s.heap, gP1 b L n (fun j => (xs j).toInt) (D, E, n, s.heap, fun _ => True) Q) Q ⟨hnt, fun U hU w hw args => hU.2.1.1 w hw args⟩ (fun U hU => hU.2.2) (fun U hU => hU.2.1.2) p e s m #[Value.ref b] below meth c s.heap [] (gEn [.ref b] 8).toArray ⟨hexec, hcode, hret, hml, hown, hTb, hlocks, hname, hKK _ _ _, fun h => absurd rfl h, hSt, fun _ _ => rfl, hnm⟩ va_S.rf ⟨by show s.heap.size = n + 1 + 0; omega, fun _ _ => rfl, fun a h1 h2 => absurd (Nat.le_trans h1 h2) (by decide)⟩ ⟨hl.1, hl.2.1, fun i v hi => by rw [← Array.getElem?_toList]; exact hi⟩
  rw [lg_entry_eq]
  refine W.post (fun t h => ?_) k
  obtain ⟨o, h1, h2, ⟨⟨X, M, h3, -⟩, -⟩, Lc, ⟨h5, h6⟩, h7⟩ := h
  have ho := hK _ _ _ h3
  exact ⟨o, h1, h2, ho, ⟨_, ho⟩, h5, gForget h6 (fun q hq => by have h8 : n < q.base := (h7 q hq).2; omega)⟩
/-- the whole: scripts of at most 3584 ints -/
theorem whole_start {p : Program} {e : Env} {s : State} {m : MethodId} {below : List Frame} {meth : Method} {c : Code} (l : Launch) {b L : Nat} {xs : Nat → Int32} (hnt : ∀ e : Env, l.admits e → e.platform.stackTraces = false) (hnm : s.methodNamed? x = some m) (hname : meth.name = x.name) (hts1 : ∀ w ∈ tables_1, w.before #[Value.ref b] s = true) (hL : L ≤ 3584) (C0 : lw_At p s m meth c b L xs) : W p l e room_1 s m #[Value.ref b] below meth c s.heap [] 0 0 (lw_Z below #[Value.ref b] s) (entryFrame m ([Value.ref b] : List Value).toArray 8) :=
  gBridgeO hnt hnm hname hts1 C0 (fun _ _ _ h => h) (fun G Q hok hO hscr => v_entry hok hO hscr hL (fun j => g32_of (xs j)))
set_option maxHeartbeats 4000000 in
theorem lw_walk (l : Launch) (hnt : ∀ e : Env, l.admits e → e.platform.stackTraces = false) (b : Addr) (xs : List Int32) : MetFree l x (headSpec (Jvm.Cond.code x code maxLocals ret :: tables_1) room_1) (lw_P b xs) (fun _ _ _ _ _ => True) lw_Q := by
  refine MetFree.of_bodyS (code := code) (maxLocals := maxLocals) (ret := ret) (by decide) ?_ ?_
  · intro args s m h hn
    obtain ⟨meth, c, h1, h2, h3, h4, h5, h6, -, -⟩ := Cond.code_spec hn (atoms_spec (ws := Jvm.Cond.code x code maxLocals ret :: tables_1) h _ List.mem_cons_self)
    exact ⟨meth, c, h1, h2, h3, h4, h5, h6⟩
  · intro p e s m args below meth c s₁ B hml0 hP _
    obtain ⟨rfl, hx, hbd, hgv⟩ := hP
    obtain ⟨scr, harrAt, hlist, hof, hsmall⟩ := hx
    obtain ⟨hcb, hkn, -, -⟩ := State.arrayAt?_spec harrAt
    have hown : s.vm.findClass R_law = some m.cls := findClass_of_methodNamed B.named
    have hts0 : ∀ c ∈ (Jvm.Cond.code x code maxLocals ret :: tables_1), c.before #[Value.ref b] s = true := atoms_spec (ws := Jvm.Cond.code x code maxLocals ret :: tables_1) B.pre
    have hts : ∀ w ∈ lw_tbl, w.before #[Value.ref b] s = true := k2_hts_sels lw_privs (fun w hw => hts0 w (List.mem_cons_of_mem _ hw)) lw_privs_ok
    have hml : c.maxLocals = 8 := B.maxLocals_eq (hts0 _ List.mem_cons_self)
    have X₀ : Stand p l e room_1 s m #[Value.ref b] below meth c s₁ [] 0 0 := Stand.of_body B
    have hh0 : s₁.heap = s.heap := by rw [B.state]; rfl
    have hsz : scr.slots.size = xs.length := by rw [← Array.length_toList, hlist, List.length_map]
    have hval : ∀ j : Nat, j < xs.length → scr.slots[j]? = some (.int (xs.getD j 0)) := fun j hj => by
      rw [← Array.getElem?_toList, hlist]
      simp [hj]
    have hbl : b < s.heap.size := (Array.getElem?_eq_some_iff.mp hcb).1
    have hX : va_X b xs.length (fun j => xs.getD j 0) s s.heap := ⟨scr, hcb, hof, hkn, hsz, hval⟩
    have K : W p l e room_1 s m #[Value.ref b] below meth c s₁.heap [] 0 0 (lw_Z below #[Value.ref b] s) (entryFrame m ([Value.ref b] : List Value).toArray 8) := by
      rw [hh0]
      exact whole_start l hnt B.named (name_of_methodNamed B.named B.method).1 (fun w hw => hts0 w (List.mem_cons_of_mem _ hw)) hbd ⟨B.exec, B.bytes, B.returns, hml, hown, hts, hX, hbl, B.notSynchronized, hgv⟩
    obtain ⟨t, a1, o, b1, b2, b3⟩ := K s₁ rfl X₀
    exact ⟨t, o, a1, b1, b2, b3⟩
theorem lw_pre_spec {args : Array Value} {s : State} (h : (Jvm.Cond.and given_1 narrow_1).before args s = true) (hr : rest_1_c.before args s = true) : ∃ (b : Addr) (xs : List Int32), lw_P b xs args s := by
  have hs := flat_of_before _ h
  have hq := flat_of_before _ hr
  have hc : (Cond.count 1).before args s = true := hs _ (by decide +kernel)
  have harr : (Cond.arrayOf (.arg 0) .int).before args s = true := hs _ (by decide +kernel)
  have hle : (Cond.le (.length (.arg 0)) (.int 3584)).before args s = true := hs _ (by decide +kernel)
  have hlen : (Cond.isInt (.length (.arg 0))).before args s = true := hq _ (by decide +kernel)
  have hall : (Cond.all (.arg 0) (.isInt (.elem (.arg 0) (.index 0)))).before args s = true := hq _ (by decide +kernel)
  obtain ⟨b, xs, hb, hx⟩ := State.ints_of_pre rfl harr hlen hall
  have hsm : xs.length < 2 ^ 31 := hx.choose_spec.2.2.2
  have hev : (Term.length (.arg 0)).eval args s none [] s = some (.int xs.length.toInt32) := hx.length_eval hb
  have hv := Cond.le_ints hev (show (Term.int 3584).eval args s none [] s = some (.int 3584) from rfl)
  have hd : xs.length.toInt32 ≤ 3584 := by
    simpa [Cond.before, Cond.holds, hv] using hle
  have hN : xs.length ≤ 3584 := (Int32.ofNat_le_ofNat hsm (by decide)).mp (show Int32.ofNat xs.length ≤ Int32.ofNat 3584 from hd)
  exact ⟨b, xs, Cond.one_arg hc (show args[0]? = some (.ref b) from hb), hx, hN, h⟩
theorem lw_comes (l : Launch) (hnt : ∀ e : Env, l.admits e → e.platform.stackTraces = false) : Comes l x (Jvm.Cond.code x code maxLocals ret :: tables_1) room_1 (fun tb e args s => Calls_1 tb e args s ∧ rest_1 tb e args s ∧ Pre_1 tb e args s)
    (fun _ _ args s o t => lw_Q args s o t) := by
  intro p e ha hc hk s m args below hf hfit hheap happ hpre
  obtain ⟨b, xs, hP⟩ := lw_pre_spec hpre.2.2 hpre.2.1
  obtain ⟨k, o, h1, h2, h3, hQ⟩ := lw_walk l hnt b xs p e ha hc hk s m args below hf ((Spec.applies_iff_loose hf).mp happ).1 hP trivial
  exact ⟨k, o, h1, h2, h3, hQ⟩
theorem lw_frame {s t : State} {o : Outcome} {args : Array Value} (h : Framed s o t [] 132966 8697208) :
    Framed s o t (fieldLocs frame_1_writes args s ++ arrayLocs frame_1_arrays args s ++ staticLocs frame_1_statics s) 132966 8697208 := h
theorem lw_limb (L : Cond) (hL : ∀ (args : Array Value) (s t : State), L.after args s (.returned (some (.int 1))) t = true) :
    ArmFor flags0 classFile x code maxLocals ret World_1 tables_1 room_1 Calls_1 rest_1 Pre_1
      (fun tb e a s o t => postC L tb e a s o t ∧ Framed s o t (fieldLocs frame_1_writes a s ++ arrayLocs frame_1_arrays a s ++ staticLocs frame_1_statics s) 132966 8697208) := by
  intro l hfg _ _ p e ha hc hk s m args below hf hfit hheap happ hpre
  obtain ⟨k, o, h1, h2, h3, rfl, hF⟩ := lw_comes l (gNt hfg) p e ha hc hk s m args below hf hfit hheap happ hpre
  exact ⟨k, _, h1, h2, h3, hL args s _, lw_frame hF⟩
theorem i_vc : Claimed_1_1 ∧ Claimed_1_2 := ⟨lw_limb limb_1_1 (fun args s t => by simp [limb_1_1, Cond.after, Cond.holds, Cond.value]), lw_limb limb_1_2 (fun args s t => Cond.after_iff.mpr (by
  first | (rw [show limb_1_2 = Cond.eq .result (.int 1) from rfl, Cond.eq_ints (x := 1) (y := 1) rfl rfl]; simp; done) | (simp [limb_1_2, Cond.value, Term.eval]; done)))⟩
