/-! A callee that may return or throw; a throw that is caught; makers of arrays of arrays. -/
def gRr (d n : Nat) : Room := { frames := d, cells := n, slots := 6 * n, locals := 100 * d }
theorem gRr_call (d n j k : Nat) (h : n ≤ 81) : (gRr d j).frames + 1 ≤ (gRr (d + 1) k).frames ∧ 8 + (n + 11) + (gRr d j).locals ≤ (gRr (d + 1) k).locals := by
  unfold gRr
  dsimp only
  omega
/-- a contract's core, over any list of words -/
def gCw (l : Launch) (G : gG) (y : gMt) (ws : List Cond) (rm : Room) (fr : Bool) (av : List Value) (X : gX) (M : gM) (K : Outcome → gX → gM → Prop) : Prop :=
  MetFree l y.1 (headSpec ws rm) (gPc G av X M) (fun _ _ _ _ _ => True) (fun a st o t => gQc G fr K a st o t ∧ ∃ L, (st.WarmedH t.vm ∧ st.sameButNew ({ t with vm := st.vm } : State) L rm.cells rm.slots) ∧ ∀ q ∈ L, gA G fr q.base)
/-- the words of a method with handlers, and its contract -/
def gWh (y : gMt) (tb : List (Nat × Nat × Nat × Nat)) : List Cond := Cond.codeWith y.1 y.2.1 y.2.2.1 y.2.2.2 tb :: gTb
def gCh (l : Launch) (G : gG) (y : gMt) (tb : List (Nat × Nat × Nat × Nat)) (rm : Room) (fr : Bool) (av : List Value) (X : gX) (M : gM) (K : Outcome → gX → gM → Prop) : Prop := gCw l G y (gWh y tb) rm fr av X M K
section gEither
variable {l : Launch} {G : gG} {y z : gMt} {rm rm' : Room} {fr fz md : Bool} {K Kz : Outcome → gX → gM → Prop} {pc : Nat} {L : List Slot} {st : List Value} {X : gX} {M : gM} {cs ss : Nat}
/-- behind the invoking instruction's own step: the callee comes to its end, by a return or a throw -/
theorem gBackE {p : Program} {e : Env} {s : State} {m : MethodId} {args : Array Value} {below : List Frame} {meth : Method} {c : Code} {U : State} {locs : List Loc} {av : List Value} {ig : Instr} {len : Nat} {mk : MethodId} {ws : List Cond}
    (Xs : Stand p l e rm s m args below meth c U locs cs ss) (hM : gCw l G z ws rm' fz av X M Kz)
    (hws : ∀ w ∈ ws, w.before av.toArray U = true) (hmc : ∃ methY cY, U.vm.method? mk = some methY ∧ methY.code = some cY ∧ cY.maxLocals = z.2.2.1) (hini : (Cond.initialized z.1.cls).before av.toArray U = true) (hPc : gPc G av X M av.toArray U)
    (hRm : rm'.frames + 1 ≤ rm.frames ∧ 8 + (z.2.2.1 + 11) + rm'.locals ≤ rm.locals) (hf : cs + rm'.cells ≤ rm.cells ∧ ss + rm'.slots ≤ rm.slots)
    {g : JFrame} (hg : g.method = m) (hsize : g.locals.size = c.maxLocals) (hdg : decode c.code g.pc = .ok (ig, len)) (hW : 2 * g.monitorRoom + (g.stack.map fun v => v.category).sum ≤ 8) (hn : U.methodNamed? z.1 = some mk) :
    ∃ (T' : State) (Lc : List Loc) (X' : gX) (M' : gM), Stand p l e rm s m args below meth c T' (locs ++ Lc) (cs + rm'.cells) (ss + rm'.slots) ∧ (∀ q ∈ Lc, gA G fz q.base) ∧ gRep G X' M' T'.heap ∧ U.heap.size ≤ T'.heap.size ∧ (∀ q : Nat, q < U.heap.size → ¬ gA G fz q → T'.heap[q]? = U.heap[q]?) ∧
      ((∃ v, Kz (.returned v) X' M' ∧ Steps p.tables e below (doInvoke e (U.setTop g) [] mk av.toArray).1 (T'.setTop { g with pc := g.pc + len, stack := v.toList ++ g.stack })) ∨
       (∃ a, Kz (.threw a) X' M' ∧ Steps p.tables e below (doInvoke e (U.setTop g) [] mk av.toArray).1 ((T'.setTop g).pushFrame (.throwing a)))) := by
  obtain ⟨methY, cY, hmY, hcY, hlY⟩ := hmc
  obtain ⟨kY, hkY, -⟩ := className_of_methodNamed hn
  have hinitY : kY.init = .initialized := Cond.initialized_spec (findClass_of_methodNamed hn) hkY hini
  have h : At U g.method c below := by rw [hg]; exact Xs.here
  have happ : (headSpec ws rm').appliesLoose z.1 e.platform (U.calling g mk av.toArray) = true :=
    Spec.appliesLoose_calling (g := g) h hdg hn hkY hinitY
      (Xs.room_calling (g := g) (R' := (headSpec ws rm').room) hsize hmY hcY hRm.1 (by rw [hlY]; show _ + rm'.locals ≤ _; have := hRm.2; omega) hf.1 hf.2) (atoms_intro hws)
  obtain ⟨mid, hmid⟩ := h.above
  have hfr : (U.setTop g).frames = (.java g :: mid) ++ below := by rw [State.frames_setTop' g h.top, hmid]; rfl
  unfold gCw at hM
  obtain ⟨o, s₂, hsteps, -, hend, hq⟩ := Steps.callFree hM p Xs.admits Xs.cas Xs.clock (acts := []) hfr happ (gBlind G av X M _ _ g mk hPc) trivial
  obtain ⟨⟨⟨X', M', hk, hR'⟩, hz, hkp⟩, Lc, ⟨hW2, hsame⟩, hLc⟩ := hq
  rw [State.frames_setTop' g h.top, Xs.tail] at hend
  cases o with
  | returned v =>
    obtain ⟨T', X2, hW', hsame', ht⟩ := Xs.outOf (g := g) hg hdg (mk := mk) (a := av.toArray) (t := s₂) (v := v) hend hW2 hsame
    have hheap : s₂.heap = T'.heap := by rw [ht]; rfl
    refine ⟨T', Lc, X', M', X2, hLc, by rw [← hheap]; exact hR', by rw [← hheap]; exact hz, fun q h1 h2 => by rw [← hheap]; exact hkp q h1 h2, Or.inl ⟨v, hk, ?_⟩⟩
    rw [← ht]
    exact hsteps
  | threw v =>
    obtain ⟨T', X2, hW', hsame', ht⟩ := Xs.outOfThrown (g := g) hg (mk := mk) (a := av.toArray) (t := s₂) (x := v) hend hW2 hsame
    have hheap : s₂.heap = T'.heap := by rw [ht]; rfl
    refine ⟨T', Lc, X', M', X2, hLc, by rw [← hheap]; exact hR', by rw [← hheap]; exact hz, fun q h1 h2 => by rw [← hheap]; exact hkp q h1 h2, Or.inr ⟨v, hk, ?_⟩⟩
    rw [← ht]
    exact hsteps
theorem gS_call {s T' : State} {H : Heap} {locs Lc : List Loc} {md' : Bool} (hm1 : md = true → md' = true) (hm2 : fz = true → md' = true) (hS : va_S (gA G md) s.heap H locs) (hsz : H.size ≤ T'.heap.size) (hkp : ∀ q : Nat, q < H.size → ¬ gA G fz q → T'.heap[q]? = H[q]?) (hLc : ∀ q ∈ Lc, gA G fz q.base) : va_S (gA G md') s.heap T'.heap (locs ++ Lc) := by
  refine ⟨Nat.le_trans hS.1 hsz, fun q h1 h2 => ?_, fun q hq => ?_⟩
  · rw [hkp q (Nat.lt_of_lt_of_le h1 hS.1) (fun h => h2 (gA_le hm2 h))]
    exact hS.2.1 q h1 (fun h => h2 (gA_le hm1 h))
  · rcases List.mem_append.mp hq with h | h
    · exact gA_le hm1 (hS.2.2 q h)
    · exact gA_le hm2 (hLc q h)
/-- where the caller stands once the static callee is being entered -/
theorem gGoS {p : Program} {e : Env} {s : State} {m : MethodId} {args : Array Value} {below : List Frame} {meth : Method} {c : Code} {H : Heap} {locs : List Loc} {ls : Array Slot} {T : State} {As : List Value} {index n : Nat} {ws : List Cond}
    (hC : gCx G y p s m args meth c) (hR : gRep G X M H) (hL : gHas ls y.2.2.1 L) (hT : T.heap = H) (Xs : Stand p l e rm s m args below meth c T locs cs ss)
    (hd : decode y.2.1 pc = .ok (.invokestatic index, 3)) (hgood : GoodIn gTb ws) (hin : Cond.initialized z.1.cls ∈ gTb) (hnc : z.1.cls ≠ "java/lang/invoke/MethodHandle" ∧ z.1.cls ≠ "java/lang/invoke/VarHandle") (hl : Cond.methodLink y.1.cls index z.1 ∈ gTb) (hst : Cond.static z.1 ∈ gTb)
    {mk : MethodId} {methM : Method} {cM : Code} (hnamed : s.methodNamed? z.1 = some mk) (hmethM : s.vm.method? mk = some methM) (hcM : methM.code = some cM) (hlM : cM.maxLocals = z.2.2.1) (hlen : As.length = methM.sig.parameters.length)
    (hM : gCw l G z ws rm' fz As X M Kz) (hRm : rm'.frames + 1 ≤ rm.frames ∧ 8 + (z.2.2.1 + 11) + rm'.locals ≤ rm.locals) (hW : (st.map fun v => v.category).sum ≤ 8) (hf : cs + rm'.cells ≤ rm.cells ∧ ss + rm'.slots ≤ rm.slots) :
    ∃ (T' : State) (Lc : List Loc) (X' : gX) (M' : gM), Stand p l e rm s m args below meth c T' (locs ++ Lc) (cs + rm'.cells) (ss + rm'.slots) ∧ (∀ q ∈ Lc, gA G fz q.base) ∧ gRep G X' M' T'.heap ∧ H.size ≤ T'.heap.size ∧ (∀ q : Nat, q < H.size → ¬ gA G fz q → T'.heap[q]? = H[q]?) ∧
      ((∃ v, Kz (.returned v) X' M' ∧ Steps p.tables e below (T.setTop (F0 m pc ls (As.reverse ++ st))) (T'.setTop (F0 m (pc + 3) ls (v.toList ++ st)))) ∨
       (∃ a, Kz (.threw a) X' M' ∧ Steps p.tables e below (T.setTop (F0 m pc ls (As.reverse ++ st))) ((T'.setTop (F0 m pc ls st)).pushFrame (.throwing a)))) := by
  have hB := hC.2.2.2.2.2.1
  have hstatic : methM.isStatic = true := Cond.static_spec hnamed hmethM (hB _ hst)
  obtain ⟨kP, hkP, -⟩ := className_of_methodNamed hnamed
  have hinitP : kP.init = .initialized := Cond.initialized_spec (findClass_of_methodNamed hnamed) hkP (hB _ hin)
  obtain ⟨vm₁, X₁, hstep₁⟩ := Xs.invokestatic hC.1 hC.2.2.2.2.1 (hB _ hl) hnamed hmethM hstatic hkP hinitP hnc (g := F0 m pc ls (As.reverse ++ st)) rfl (argsL := As) (rest := st) hlen rfl (by rw [hC.2.1]; exact hd)
  have hpay := pay_in hB hgood
  have hal := X₁.warmed.alike
  obtain ⟨T', Lc, X', M', X2, hLc, hR', hz1, hkp, hend⟩ := gBackE (U := T.setVm vm₁) (ws := ws) X₁ hM (fun w hw => hpay w hw _ _ X₁.warmed) ⟨methM, cM, (by have h9 := hal.method?; rw [show (T.setVm vm₁).vm.method? mk = s.vm.method? mk from by rw [h9]]; exact hmethM), hcM, hlM⟩ (pay_in hB (fun w (h : w ∈ [Cond.initialized z.1.cls]) => by
      have e9 := List.mem_singleton.mp h
      subst e9
      exact ⟨hin, good_of_word (List.mem_filter.mp hin).2⟩) _ List.mem_cons_self _ _ X₁.warmed) ((gPre (av := As) hC hR).2 (T.setVm vm₁) hT X₁.warmed) hRm hf (g := F0 m pc ls st) rfl (hL.1.trans hC.2.2.2.1.symm) (by rw [hC.2.1]; exact hd) (lv_room (m := m) (pc := pc) (ls := ls) (rest := st) hW) (X₁.named hnamed)
  have hh : (T.setVm vm₁).heap = H := hT
  rw [hh] at hz1 hkp
  refine ⟨T', Lc, X', M', X2, hLc, hR', hz1, hkp, ?_⟩
  rcases hend with ⟨v, hk, hs2⟩ | ⟨a, hk, hs2⟩
  · exact Or.inl ⟨v, hk, (hstep₁ _ fun acts => by rw [doInvoke_state]; exact Steps.refl _).trans hs2⟩
  · exact Or.inr ⟨a, hk, (hstep₁ _ fun acts => by rw [doInvoke_state]; exact Steps.refl _).trans hs2⟩
/-- the same for a virtual callee -/
theorem gGoV {p : Program} {e : Env} {s : State} {m : MethodId} {args : Array Value} {below : List Frame} {meth : Method} {c : Code} {H : Heap} {locs : List Loc} {ls : Array Slot} {T : State} {As : List Value} {index n b ci N : Nat} {C : String} {T0 : u_T}
    (hC : gCx G y p s m args meth c) (hR : gRep G X M H) (hL : gHas ls y.2.2.1 L) (hT : T.heap = H) (Xs : Stand p l e rm s m args below meth c T locs cs ss)
    (hd : decode y.2.1 pc = .ok (.invokevirtual index, 3)) (hz : gCal z n) (hl : Cond.methodLink y.1.cls index z.1 ∈ gTb) (hin : Cond.instanceMethod z.1 ∈ gTb) (hse : Cond.selects C z.1 z.1 ∈ gTb) (hc : gCl[ci]? = some (C, T0, N)) (h1 : 1 ≤ b) (h2 : b ≤ X.1) (hs : X.2.1 b = (ci + 6, N)) (hn : As.length = n)
    (hM : gCt l G z rm' fz (gR G b :: As) X M Kz) (hRm : rm'.frames + 1 ≤ rm.frames ∧ 8 + (z.2.2.1 + 11) + rm'.locals ≤ rm.locals) (hW : (st.map fun v => v.category).sum ≤ 8) (hf : cs + rm'.cells ≤ rm.cells ∧ ss + rm'.slots ≤ rm.slots) :
    ∃ (T' : State) (Lc : List Loc) (X' : gX) (M' : gM), Stand p l e rm s m args below meth c T' (locs ++ Lc) (cs + rm'.cells) (ss + rm'.slots) ∧ (∀ q ∈ Lc, gA G fz q.base) ∧ gRep G X' M' T'.heap ∧ H.size ≤ T'.heap.size ∧ (∀ q : Nat, q < H.size → ¬ gA G fz q → T'.heap[q]? = H[q]?) ∧
      ((∃ v, Kz (.returned v) X' M' ∧ Steps p.tables e below (T.setTop (F0 m pc ls (As.reverse ++ gR G b :: st))) (T'.setTop (F0 m (pc + 3) ls (v.toList ++ st)))) ∨
       (∃ a, Kz (.threw a) X' M' ∧ Steps p.tables e below (T.setTop (F0 m pc ls (As.reverse ++ gR G b :: st))) ((T'.setTop (F0 m pc ls st)).pushFrame (.throwing a)))) := by
  have hM' : gCt l G z rm' fz (.ref (G.2.2.1 + b) :: As) X M Kz := by rw [gR_ref G (by omega)] at hM; exact hM
  rw [gR_ref G (by omega)]
  have hB := hC.2.2.2.2.2.1
  obtain ⟨mk, methM, hnamed, hmethM, hstM, habM⟩ := Cond.instanceMethod_spec (hB _ hin)
  obtain ⟨methM', cM, hmethM', hcM, -, hlM, -, -, -, hsigM⟩ := Cond.code_spec hnamed (hB _ hz.1)
  cases hmethM.symm.trans hmethM'
  obtain ⟨cellB, hcB, hoB, hclB⟩ := gRecv hC hR hc h1 h2 hs
  obtain ⟨c2, r2, m2, q1, q2, q3, q4, kP, hkP, hkPi⟩ := Cond.selects_spec (hB _ hse)
  cases hclB.symm.trans q1
  cases (State.methodFound?_of_named hnamed ⟨hz.2.2.1, hz.2.2.2.1⟩).symm.trans q2
  cases hnamed.symm.trans q3
  have hselP : selectMethod e.platform s.vm cellB.cls mk = .method mk := by rw [Launch.admits_selectMethod Xs.admits]; exact q4
  have hlen : As.length = methM.sig.parameters.length := by
    have h2 := hz.2.2.2.2
    rw [hsigM] at h2
    exact hn.trans (Option.some.inj h2).symm
  obtain ⟨vm₁, X₁, hstep₁⟩ := Xs.invokevirtual hC.1 hC.2.2.2.2.1 (hB _ hl) hnamed hmethM hstM hkP hkPi ⟨hz.2.2.1, hz.2.2.2.1⟩ (a := G.2.2.1 + b) (cell := cellB) (by rw [hT]; exact hcB)
    (fun z h => by rw [h] at hoB; cases hoB) hselP hmethM habM hkP hkPi (g := F0 m pc ls (As.reverse ++ .ref (G.2.2.1 + b) :: st)) rfl (argsL := As) (rest := st) hlen rfl (by rw [hC.2.1]; exact hd)
  have hpay := pay_in hB (gGood hz.1)
  have hal := X₁.warmed.alike
  obtain ⟨T', Lc, X', M', X2, hLc, hR', hz1, hkp, hend⟩ := gBackE (U := T.setVm vm₁) (ws := gW z) X₁ hM' (fun w hw => hpay w hw _ _ X₁.warmed) ⟨methM, cM, (by have h9 := hal.method?; rw [show (T.setVm vm₁).vm.method? mk = s.vm.method? mk from by rw [h9]]; exact hmethM), hcM, hlM⟩ (pay_in hB (fun w (h : w ∈ [Cond.initialized z.1.cls]) => by
      have e9 := List.mem_singleton.mp h
      subst e9
      exact ⟨hz.2.1, good_of_word (List.mem_filter.mp hz.2.1).2⟩) _ List.mem_cons_self _ _ X₁.warmed) ((gPre (av := .ref (G.2.2.1 + b) :: As) hC hR).2 (T.setVm vm₁) hT X₁.warmed) hRm hf (g := F0 m pc ls st) rfl (hL.1.trans hC.2.2.2.1.symm) (by rw [hC.2.1]; exact hd) (lv_room (m := m) (pc := pc) (ls := ls) (rest := st) hW) (X₁.named hnamed)
  have hh : (T.setVm vm₁).heap = H := hT
  rw [hh] at hz1 hkp
  refine ⟨T', Lc, X', M', X2, hLc, hR', hz1, hkp, ?_⟩
  rcases hend with ⟨v, hk, hs2⟩ | ⟨a, hk, hs2⟩
  · exact Or.inl ⟨v, hk, (hstep₁ _ fun acts => by rw [doInvoke_state]; exact Steps.refl _).trans hs2⟩
  · exact Or.inr ⟨a, hk, (hstep₁ _ fun acts => by rw [doInvoke_state]; exact Steps.refl _).trans hs2⟩
/-- a static callee with handlers -/
theorem gGoSh {p : Program} {e : Env} {s : State} {m : MethodId} {args : Array Value} {below : List Frame} {meth : Method} {c : Code} {H : Heap} {locs : List Loc} {ls : Array Slot} {T : State} {As : List Value} {index n : Nat} {tb : List (Nat × Nat × Nat × Nat)}
    (hC : gCx G y p s m args meth c) (hR : gRep G X M H) (hL : gHas ls y.2.2.1 L) (hT : T.heap = H) (Xs : Stand p l e rm s m args below meth c T locs cs ss)
    (hd : decode y.2.1 pc = .ok (.invokestatic index, 3)) (hcw : Cond.codeWith z.1 z.2.1 z.2.2.1 z.2.2.2 tb ∈ gTb) (hin : Cond.initialized z.1.cls ∈ gTb) (hnc : z.1.cls ≠ "java/lang/invoke/MethodHandle" ∧ z.1.cls ≠ "java/lang/invoke/VarHandle") (hpd : (parseMethodDescriptor z.1.desc).map (fun d => d.parameters.length) = some n) (hl : Cond.methodLink y.1.cls index z.1 ∈ gTb) (hst : Cond.static z.1 ∈ gTb) (hn : As.length = n)
    (hM : gCh l G z tb rm' fz As X M Kz) (hRm : rm'.frames + 1 ≤ rm.frames ∧ 8 + (z.2.2.1 + 11) + rm'.locals ≤ rm.locals) (hW : (st.map fun v => v.category).sum ≤ 8) (hf : cs + rm'.cells ≤ rm.cells ∧ ss + rm'.slots ≤ rm.slots) :
    ∃ (T' : State) (Lc : List Loc) (X' : gX) (M' : gM), Stand p l e rm s m args below meth c T' (locs ++ Lc) (cs + rm'.cells) (ss + rm'.slots) ∧ (∀ q ∈ Lc, gA G fz q.base) ∧ gRep G X' M' T'.heap ∧ H.size ≤ T'.heap.size ∧ (∀ q : Nat, q < H.size → ¬ gA G fz q → T'.heap[q]? = H[q]?) ∧
      ((∃ v, Kz (.returned v) X' M' ∧ Steps p.tables e below (T.setTop (F0 m pc ls (As.reverse ++ st))) (T'.setTop (F0 m (pc + 3) ls (v.toList ++ st)))) ∨
       (∃ a, Kz (.threw a) X' M' ∧ Steps p.tables e below (T.setTop (F0 m pc ls (As.reverse ++ st))) ((T'.setTop (F0 m pc ls st)).pushFrame (.throwing a)))) := by
  have hB := hC.2.2.2.2.2.1
  obtain ⟨mk, methM, cM, hnamed, hmethM, hcM, -, hlM, -, -, -, hsigM⟩ := Cond.codeWith_spec (hB _ hcw)
  have hlen : As.length = methM.sig.parameters.length := by
    rw [hsigM] at hpd
    exact hn.trans (Option.some.inj hpd).symm
  refine gGoS (n := n) hC hR hL hT Xs hd (ws := gWh z tb) ?_ hin hnc hl hst hnamed hmethM hcM hlM hlen hM hRm hW hf
  intro w hw
  have hin2 : w ∈ gTb := by
    rcases List.mem_cons.mp hw with rfl | hw
    · exact hcw
    · exact hw
  exact ⟨hin2, good_of_word (List.mem_filter.mp hin2).2⟩
/-- the law calls a helper that has handlers: it returns -/
theorem wp_callH {As : List Value} {index n : Nat} {tb : List (Nat × Nat × Nat × Nat)} (hd : decode y.2.1 pc = .ok (.invokestatic index, 3)) (hcw : Cond.codeWith z.1 z.2.1 z.2.2.1 z.2.2.2 tb ∈ gTb) (hin : Cond.initialized z.1.cls ∈ gTb) (hnc : z.1.cls ≠ "java/lang/invoke/MethodHandle" ∧ z.1.cls ≠ "java/lang/invoke/VarHandle") (hpd : (parseMethodDescriptor z.1.desc).map (fun d => d.parameters.length) = some n) (hl : Cond.methodLink y.1.cls index z.1 ∈ gTb) (hst : Cond.static z.1 ∈ gTb) (hM : gCh l G z tb rm' fz As X M Kz) (hret : ∀ o X' M', Kz o X' M' → ∃ v, o = .returned v) {md' : Bool} (hm1 : md = true → md' = true) (hm2 : fz = true → md' = true) (hn : As.length = n)
    (hRm : rm'.frames + 1 ≤ rm.frames ∧ 8 + (z.2.2.1 + 11) + rm'.locals ≤ rm.locals) (hW : (st.map fun v => v.category).sum ≤ 8) (hf : cs + rm'.cells ≤ rm.cells ∧ ss + rm'.slots ≤ rm.slots) {st0 : List Value} (h0 : st0 = As.reverse ++ st)
    (kr : ∀ (v : Option Value) (X' : gX) (M' : gM), Kz (.returned v) X' M' → wp l G y rm fr K md' (pc + 3) L (v.toList ++ st) X' M' (cs + rm'.cells) (ss + rm'.slots)) : wp l G y rm fr K md pc L st0 X M cs ss := by
  subst h0
  intro p e s m args below meth c H locs ls hC hS hR hL T hT Xs
  obtain ⟨T', Lc, X', M', X2, hLc, hR', hz1, hkp, hend⟩ := gGoSh hC hR hL hT Xs hd hcw hin hnc hpd hl hst hn hM hRm hW hf
  rcases hend with ⟨v, hk, hs2⟩ | ⟨a, hk, hs2⟩
  · obtain ⟨t2, a1, b1⟩ := kr v X' M' hk p e s m args below meth c T'.heap (locs ++ Lc) ls hC (gS_call hm1 hm2 hS hz1 hkp hLc) hR' hL T' rfl X2
    exact ⟨t2, hs2.trans a1, b1⟩
  · obtain ⟨v, hv⟩ := hret _ _ _ hk
    cases hv
end gEither
/-- a method with handlers is entered -/
theorem gCh.of {l : Launch} {G : gG} {y : gMt} {tb : List (Nat × Nat × Nat × Nat)} {rm : Room} {fr : Bool} {av : List Value} {X : gX} {M : gM} {K : Outcome → gX → gM → Prop} (hlw : y.1.cls = "GridLedgerLaw") (hy : plainFor y.1 = true) (hn : (lg_sl av).length ≤ y.2.2.1)
    (h : wp l G y rm fr K false 0 (gEn av y.2.2.1) [] X M 0 0) : gCh l G y tb rm fr av X M K := by
  unfold gCh gCw
  refine MetFree.of_bodySF (code := y.2.1) (maxLocals := y.2.2.1) (ret := y.2.2.2) hy ?_ ?_
  · intro args s m hh hnn
    obtain ⟨m9, meth, c, hn9, h1, h2, h3, h4, -, h5, h6, -⟩ := Cond.codeWith_spec (atoms_spec (ws := gWh y tb) hh _ List.mem_cons_self)
    cases hnn.symm.trans hn9
    exact ⟨meth, c, h1, h2, h3, h4, h5, h6⟩
  · intro p e s m args below meth c s₁ B hml hP _
    obtain ⟨rfl, hK, hR, hSt⟩ := hP
    have hh0 : s₁.heap = s.heap := by rw [B.state]; rfl
    have hl := lv_entry av (n := y.2.2.1) hn
    have hts := atoms_spec (ws := gWh y tb) B.pre
    have k := h p e s m _ below meth c s.heap [] (gEn av y.2.2.1).toArray ⟨B.exec, B.bytes, B.returns, hml, findClass_of_methodNamed B.named, fun w h => hts w (List.mem_cons_of_mem _ h), B.notSynchronized, (name_of_methodNamed B.named B.method).1, hK, fun hne => absurd hlw hne, hSt, hR.2.1, B.named⟩ va_S.rf hR ⟨hl.1, hl.2.1, fun i v hi => by rw [← Array.getElem?_toList]; exact hi⟩
    obtain ⟨t, a1, o, b1, b2, b3⟩ := k s₁ hh0 (Stand.of_body B)
    refine ⟨t, o, ?_, b1, b2, ⟨b3.1, b3.2⟩⟩
    rw [lg_entry_eq]
    exact a1
theorem gCh.mono {l : Launch} {G : gG} {y : gMt} {tb : List (Nat × Nat × Nat × Nat)} {rm : Room} {fr : Bool} {av : List Value} {X : gX} {M : gM} {K K' : Outcome → gX → gM → Prop} (h : gCh l G y tb rm fr av X M K) (hk : ∀ o X' M', K o X' M' → K' o X' M') : gCh l G y tb rm fr av X M K' := by
  unfold gCh gCw at h ⊢
  refine MetFree.mono h (fun _ _ q => q) (fun _ _ _ _ _ q => q) ?_
  intro a s o t _ hq
  obtain ⟨⟨⟨X', M', h1, h2⟩, h3⟩, h4⟩ := hq
  exact ⟨⟨⟨X', M', hk _ _ _ h1, h2⟩, h3⟩, h4⟩
