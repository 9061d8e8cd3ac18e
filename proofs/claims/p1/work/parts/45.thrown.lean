/-! A callee that throws, out of a caller that has no handler. -/
section gThrown
variable {l : Launch} {G : gG} {y z : gMt} {rm rm' : Room} {fr fz md : Bool} {K Kz : Outcome → gX → gM → Prop} {pc : Nat} {L : List Slot} {st : List Value} {X : gX} {M : gM} {cs ss : Nat}
/-- behind the invoking instruction's own step: the callee throws, the caller stands again, with the throw on top -/
theorem gBackT {p : Program} {e : Env} {s : State} {m : MethodId} {args : Array Value} {below : List Frame} {meth : Method} {c : Code} {U : State} {locs : List Loc} {av : List Value} {ig : Instr} {len : Nat} {mk : MethodId}
    (Xs : Stand p l e rm s m args below meth c U locs cs ss) (hM : gCt l G z rm' fz av X M Kz) (hthr : ∀ o X' M', Kz o X' M' → ∃ a, o = .threw a)
    (hws : ∀ w ∈ gW z, w.before av.toArray U = true) (hini : (Cond.initialized z.1.cls).before av.toArray U = true) (hPc : gPc G av X M av.toArray U)
    (hRm : rm'.frames + 1 ≤ rm.frames ∧ 8 + (z.2.2.1 + 11) + rm'.locals ≤ rm.locals) (hf : cs + rm'.cells ≤ rm.cells ∧ ss + rm'.slots ≤ rm.slots)
    {g : JFrame} (hg : g.method = m) (hsize : g.locals.size = c.maxLocals) (hdg : decode c.code g.pc = .ok (ig, len)) (hW : 2 * g.monitorRoom + (g.stack.map fun v => v.category).sum ≤ 8) (hn : U.methodNamed? z.1 = some mk) :
    ∃ (v : Addr) (T' : State) (Lc : List Loc) (X' : gX) (M' : gM), Stand p l e rm s m args below meth c T' (locs ++ Lc) (cs + rm'.cells) (ss + rm'.slots) ∧ (∀ q ∈ Lc, gA G fz q.base) ∧ Kz (.threw v) X' M' ∧ gRep G X' M' T'.heap ∧ U.heap.size ≤ T'.heap.size ∧ (∀ q : Nat, q < U.heap.size → ¬ gA G fz q → T'.heap[q]? = U.heap[q]?) ∧
      Steps p.tables e below (doInvoke e (U.setTop g) [] mk av.toArray).1 ((T'.setTop g).pushFrame (.throwing v)) := by
  have hcode := hws _ List.mem_cons_self
  obtain ⟨methY, cY, hmY, hcY, -, hlY, -, -, -, -⟩ := Cond.code_spec hn hcode
  obtain ⟨kY, hkY, -⟩ := className_of_methodNamed hn
  have hinitY : kY.init = .initialized := Cond.initialized_spec (findClass_of_methodNamed hn) hkY hini
  have h : At U g.method c below := by rw [hg]; exact Xs.here
  have happ : (headSpec (gW z) rm').appliesLoose z.1 e.platform (U.calling g mk av.toArray) = true :=
    Spec.appliesLoose_calling (g := g) h hdg hn hkY hinitY
      (Xs.room_calling (g := g) (R' := (headSpec (gW z) rm').room) hsize hmY hcY hRm.1 (by rw [hlY]; show _ + rm'.locals ≤ _; have := hRm.2; omega) hf.1 hf.2) (atoms_intro hws)
  obtain ⟨mid, hmid⟩ := h.above
  have hfr : (U.setTop g).frames = (.java g :: mid) ++ below := by rw [State.frames_setTop' g h.top, hmid]; rfl
  unfold gCt at hM
  obtain ⟨o, s₂, hsteps, -, hend, hq⟩ := Steps.callFree hM p Xs.admits Xs.cas Xs.clock (acts := []) hfr happ (gBlind G av X M _ _ g mk hPc) trivial
  obtain ⟨⟨⟨X', M', hk, hR'⟩, hz, hkp⟩, Lc, ⟨hW2, hsame⟩, hLc⟩ := hq
  obtain ⟨v, rfl⟩ := hthr _ _ _ hk
  rw [State.frames_setTop' g h.top, Xs.tail] at hend
  obtain ⟨T', X2, hW', hsame', ht⟩ := Xs.outOfThrown (g := g) hg (mk := mk) (a := av.toArray) (t := s₂) (x := v) hend hW2 hsame
  have hheap : s₂.heap = T'.heap := by rw [ht]; rfl
  refine ⟨v, T', Lc, X', M', X2, hLc, hk, by rw [← hheap]; exact hR', by rw [← hheap]; exact hz, fun q h1 h2 => by rw [← hheap]; exact hkp q h1 h2, ?_⟩
  rw [← ht]
  exact hsteps
/-- the caller's end behind a throwing callee -/
theorem gLeaves (hne : y.1.cls ≠ "GridLedgerLaw") {p : Program} {e : Env} {s : State} {m : MethodId} {args : Array Value} {below : List Frame} {meth : Method} {c : Code} {H : Heap} {T T' : State} {locs Lc : List Loc} {ls : Array Slot} {v : Addr} {X' : gX} {M' : gM} {g : JFrame}
    (hC : gCx G y p s m args meth c) (hS : va_S (gA G md) s.heap H locs) (hm : md = true → fr = true) (hz : fz = true → fr = true) (X2 : Stand p l e rm s m args below meth c T' (locs ++ Lc) (cs + rm'.cells) (ss + rm'.slots)) (hLc : ∀ q ∈ Lc, gA G fz q.base)
    (hsz : H.size ≤ T'.heap.size) (hkp : ∀ q : Nat, q < H.size → ¬ gA G fz q → T'.heap[q]? = H[q]?) (hR : gRep G X' M' T'.heap) (kk : K (.threw v) X' M') (hf : cs + rm'.cells ≤ rm.cells ∧ ss + rm'.slots ≤ rm.slots) (hg : g = F0 m pc ls st)
    (hst : Steps p.tables e below T ((T'.setTop g).pushFrame (.throwing v))) : ∃ t, Steps p.tables e below T t ∧ gMQ below (gQc G fr K) args s rm.cells rm.slots (gA G fr) t := by
  subst hg
  have hlocks : meth.locks = false := hC.2.2.2.2.2.2.1
  have hex : c.exceptionTable.toList = [] := by
    have := hC.2.2.2.2.2.2.2.2.2.1 hne
    simpa using this
  obtain ⟨w1, w2, w3, w4, w5⟩ := X2.leaveThrown v (g := F0 m pc ls st) rfl rfl rfl (fun x hx => by rw [hex] at hx; cases hx)
  refine ⟨_, hst.trans w1, .threw v, w2, w3, ⟨⟨X', M', kk, hR⟩, ⟨Nat.le_trans hS.1 hsz, fun q h1 h2 => ?_⟩⟩, locs ++ Lc, ⟨w4, State.sameButNew.mono w5 hf.1 hf.2⟩, fun q hq => ?_⟩
  · show T'.heap[q]? = _
    rw [hkp q (Nat.lt_of_lt_of_le h1 hS.1) (fun h => h2 (gA_le hz h))]
    exact hS.2.1 q h1 (fun h => h2 (gA_le hm h))
  · rcases List.mem_append.mp hq with h | h
    · exact gA_le hm (hS.2.2 q h)
    · exact gA_le hz (hLc q h)
theorem wp_callSt (hne : y.1.cls ≠ "GridLedgerLaw") {As : List Value} {index n : Nat} (hd : decode y.2.1 pc = .ok (.invokestatic index, 3)) (hz : gCal z n) (hl : Cond.methodLink y.1.cls index z.1 ∈ gTb) (hst : Cond.static z.1 ∈ gTb) (hM : gCt l G z rm' fz As X M Kz) (hthr : ∀ o X' M', Kz o X' M' → ∃ a, o = .threw a) (hm1 : md = true → fr = true) (hm2 : fz = true → fr = true) (hn : As.length = n)
    (hRm : rm'.frames + 1 ≤ rm.frames ∧ 8 + (z.2.2.1 + 11) + rm'.locals ≤ rm.locals) (hW : (st.map fun v => v.category).sum ≤ 8) (hf : cs + rm'.cells ≤ rm.cells ∧ ss + rm'.slots ≤ rm.slots) {st0 : List Value} (h0 : st0 = As.reverse ++ st)
    (kk : ∀ (a : Addr) (X' : gX) (M' : gM), Kz (.threw a) X' M' → K (.threw a) X' M') : wp l G y rm fr K md pc L st0 X M cs ss := by
  subst h0
  intro p e s m args below meth c H locs ls hC hS hR hL T hT Xs
  have hB := hC.2.2.2.2.2.1
  have hbg : ∀ w ∈ gTb, w.before args s = true := hB
  obtain ⟨mk, hnamed⟩ := Cond.code_named (hbg _ hz.1)
  obtain ⟨methM, cM, hmethM, -, -, -, -, -, -, hsigM⟩ := Cond.code_spec hnamed (hbg _ hz.1)
  have hstatic : methM.isStatic = true := Cond.static_spec hnamed hmethM (hbg _ hst)
  obtain ⟨kP, hkP, -⟩ := className_of_methodNamed hnamed
  have hinitP : kP.init = .initialized := Cond.initialized_spec (findClass_of_methodNamed hnamed) hkP (hbg _ hz.2.1)
  have hlen : As.length = methM.sig.parameters.length := by
    have h2 := hz.2.2.2.2
    rw [hsigM] at h2
    exact hn.trans (Option.some.inj h2).symm
  obtain ⟨vm₁, X₁, hstep₁⟩ := Xs.invokestatic hC.1 hC.2.2.2.2.1 (hbg _ hl) hnamed hmethM hstatic hkP hinitP ⟨hz.2.2.1, hz.2.2.2.1⟩ (g := F0 m pc ls (As.reverse ++ st)) rfl (argsL := As) (rest := st) hlen rfl (by rw [hC.2.1]; exact hd)
  have hpay := pay_in hB (gGood hz.1)
  obtain ⟨v, T', Lc, X', M', X2, hLc, hk, hR', hz1, hkp, hsteps⟩ := gBackT (U := T.setVm vm₁) X₁ hM hthr (fun w hw => hpay w hw _ _ X₁.warmed) (pay_in hB (fun w (h : w ∈ [Cond.initialized z.1.cls]) => by
      have e9 := List.mem_singleton.mp h
      subst e9
      exact ⟨hz.2.1, good_of_word (List.mem_filter.mp hz.2.1).2⟩) _ List.mem_cons_self _ _ X₁.warmed) ((gPre (av := As) hC hR).2 (T.setVm vm₁) hT X₁.warmed) hRm hf (g := F0 m pc ls st) rfl (hL.1.trans hC.2.2.2.1.symm) (by rw [hC.2.1]; exact hd) (lv_room (m := m) (pc := pc) (ls := ls) (rest := st) hW) (X₁.named hnamed)
  exact gLeaves (rm' := rm') hne hC hS hm1 hm2 X2 hLc (by rw [← hT]; exact hz1) (fun q h1 h2 => by rw [← hT]; exact hkp q (by rw [← hT] at h1; exact h1) h2) hR' (kk v X' M' hk) hf rfl ((hstep₁ _ fun acts => by rw [doInvoke_state]; exact Steps.refl _).trans hsteps)
end gThrown
section gThrownV
variable {l : Launch} {G : gG} {y z : gMt} {rm rm' : Room} {fr fz md : Bool} {K Kz : Outcome → gX → gM → Prop} {pc : Nat} {L : List Slot} {st : List Value} {X : gX} {M : gM} {cs ss : Nat}
theorem wp_callVt (hne : y.1.cls ≠ "GridLedgerLaw") {As : List Value} {index n b ci N : Nat} {C : String} {T0 : u_T} (hd : decode y.2.1 pc = .ok (.invokevirtual index, 3)) (hz : gCal z n) (hl : Cond.methodLink y.1.cls index z.1 ∈ gTb) (hin : Cond.instanceMethod z.1 ∈ gTb) (hse : Cond.selects C z.1 z.1 ∈ gTb) (hc : gCl[ci]? = some (C, T0, N)) (h1 : 1 ≤ b) (h2 : b ≤ X.1) (hs : X.2.1 b = (ci + 6, N)) (hM : gCt l G z rm' fz (gR G b :: As) X M Kz) (hthr : ∀ o X' M', Kz o X' M' → ∃ a, o = .threw a) (hm1 : md = true → fr = true) (hm2 : fz = true → fr = true) (hn : As.length = n)
    (hRm : rm'.frames + 1 ≤ rm.frames ∧ 8 + (z.2.2.1 + 11) + rm'.locals ≤ rm.locals) (hW : (st.map fun v => v.category).sum ≤ 8) (hf : cs + rm'.cells ≤ rm.cells ∧ ss + rm'.slots ≤ rm.slots) {st0 : List Value} (h0 : st0 = As.reverse ++ gR G b :: st)
    (kk : ∀ (a : Addr) (X' : gX) (M' : gM), Kz (.threw a) X' M' → K (.threw a) X' M') : wp l G y rm fr K md pc L st0 X M cs ss := by
  subst h0
  intro p e s m args below meth c H locs ls hC hS hR hL T hT Xs
  have hM' : gCt l G z rm' fz (.ref (G.2.2.1 + b) :: As) X M Kz := by rw [gR_ref G (by omega)] at hM; exact hM
  rw [gR_ref G (by omega)]
  have hB := hC.2.2.2.2.2.1
  obtain ⟨mk, methM, hnamed, hmethM, hstM, habM⟩ := Cond.instanceMethod_spec (hB _ hin)
  obtain ⟨methM', cM, hmethM', -, -, -, -, -, -, hsigM⟩ := Cond.code_spec hnamed (hB _ hz.1)
  cases hmethM.symm.trans hmethM'
  obtain ⟨cellB, hcB, hoB, hclB⟩ := gRecv hC hR hc h1 h2 hs
  obtain ⟨c2, r2, m2, q1, q2, q3, q4, kP, hkP, hkPi⟩ := Cond.selects_spec (hB _ hse)
  cases hclB.symm.trans q1
  cases (State.methodFound?_of_named hnamed ⟨hz.2.2.1, hz.2.2.2.1⟩).symm.trans q2
  cases hnamed.symm.trans q3
  have hselP : selectMethod e.platform s.vm cellB.cls mk = .method mk := by rw [Launch.admits_selectMethod Xs.admits]; exact q4
  have hlen : As.length = methM.sig.parameters.length := by
    have h2 := hz.2.2.2.2
    rw [hsigM] at h2
    exact hn.trans (Option.some.inj h2).symm
  obtain ⟨vm₁, X₁, hstep₁⟩ := Xs.invokevirtual hC.1 hC.2.2.2.2.1 (hB _ hl) hnamed hmethM hstM hkP hkPi ⟨hz.2.2.1, hz.2.2.2.1⟩ (a := G.2.2.1 + b) (cell := cellB) (by rw [hT]; exact hcB)
    (fun z h => by rw [h] at hoB; cases hoB) hselP hmethM habM hkP hkPi (g := F0 m pc ls (As.reverse ++ .ref (G.2.2.1 + b) :: st)) rfl (argsL := As) (rest := st) hlen rfl (by rw [hC.2.1]; exact hd)
  have hpay := pay_in hB (gGood hz.1)
  obtain ⟨v, T', Lc, X', M', X2, hLc, hk, hR', hz1, hkp, hsteps⟩ := gBackT (U := T.setVm vm₁) X₁ hM' hthr (fun w hw => hpay w hw _ _ X₁.warmed) (pay_in hB (fun w (h : w ∈ [Cond.initialized z.1.cls]) => by
      have e9 := List.mem_singleton.mp h
      subst e9
      exact ⟨hz.2.1, good_of_word (List.mem_filter.mp hz.2.1).2⟩) _ List.mem_cons_self _ _ X₁.warmed) ((gPre (av := .ref (G.2.2.1 + b) :: As) hC hR).2 (T.setVm vm₁) hT X₁.warmed) hRm hf (g := F0 m pc ls st) rfl (hL.1.trans hC.2.2.2.1.symm) (by rw [hC.2.1]; exact hd) (lv_room (m := m) (pc := pc) (ls := ls) (rest := st) hW) (X₁.named hnamed)
  exact gLeaves (rm' := rm') hne hC hS hm1 hm2 X2 hLc (by rw [← hT]; exact hz1) (fun q h1 h2 => by rw [← hT]; exact hkp q (by rw [← hT] at h1; exact h1) h2) hR' (kk v X' M' hk) hf rfl ((hstep₁ _ fun acts => by rw [doInvoke_state]; exact Steps.refl _).trans hsteps)
end gThrownV
