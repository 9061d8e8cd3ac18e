/-! Calls over wp: a method's contract gCt, and what stands behind the call. -/
theorem gBlind (G : gG) (av : List Value) (X : gX) (M : gM) : FrameBlind (gPc G av X M) :=
  fun a U g mk q => ⟨q.1, va_K.moved (u := U) (U := U.calling g mk a) (Vm.Alike.refl U.vm) q.2.1, q.2.2.1, q.2.2.2⟩
theorem gGood {z : gMt} (h : Cond.code z.1 z.2.1 z.2.2.1 z.2.2.2 ∈ gTb) : GoodIn gTb (gW z) := by
  intro w hw
  have hin : w ∈ gTb := by
    rcases List.mem_cons.mp hw with rfl | hw
    · exact h
    · exact hw
  exact ⟨hin, good_of_word (List.mem_filter.mp hin).2⟩
/-- all that a call wants of the tables beside the link: the callee's code is there, its descriptor has n parameters -/
def gCal (z : gMt) (n : Nat) : Prop := Cond.code z.1 z.2.1 z.2.2.1 z.2.2.2 ∈ gTb ∧ Cond.initialized z.1.cls ∈ gTb ∧ z.1.cls ≠ "java/lang/invoke/MethodHandle" ∧ z.1.cls ≠ "java/lang/invoke/VarHandle" ∧ (parseMethodDescriptor z.1.desc).map (fun d => d.parameters.length) = some n
/-- a contract whose end is a return, in the kit's form -/
theorem gCt.met {l : Launch} {G : gG} {z : gMt} {rm : Room} {fz : Bool} {av : List Value} {X : gX} {M : gM} {Kz : Outcome → gX → gM → Prop} (h : gCt l G z rm fz av X M Kz) (hr : ∀ o X' M', Kz o X' M' → ∃ v, o = .returned v) : Met l z.1 (gW z) rm (gPc G av X M) (gQc G fz Kz) rm.cells rm.slots (gA G fz) := by
  unfold gCt at h
  unfold Met
  refine MetFree.mono h (fun _ _ q => q) (fun _ _ _ _ _ q => q) ?_
  intro a s o t _ hq
  obtain ⟨h1, L, h2, h3⟩ := hq
  have h1' := h1
  obtain ⟨⟨X', M', hk, -⟩, -⟩ := h1'
  exact ⟨h1, L, ⟨hr _ _ _ hk, h2⟩, h3⟩
section gCalls
variable {l : Launch} {G : gG} {y z : gMt} {rm rm' : Room} {fr fz md : Bool} {K Kz : Outcome → gX → gM → Prop} {pc : Nat} {L : List Slot} {st : List Value} {X : gX} {M : gM} {cs ss : Nat}
/-- what a call leaves behind -/
theorem gAfter {p : Program} {e : Env} {s : State} {m : MethodId} {args : Array Value} {below : List Frame} {meth : Method} {c : Code} {H : Heap} {locs : List Loc} {ls : Array Slot} {a : Array Value} {st0 : List Value}
    {md' : Bool} (hm1 : md = true → md' = true) (hm2 : fz = true → md' = true) (hr : va_Run p l e rm s m args below meth c H locs cs ss rm'.cells rm'.slots (F0 m pc ls st0) st (gQc G fz Kz a) (gA G fz)) (hC : gCx G y p s m args meth c) (hS : va_S (gA G md) s.heap H locs) (hL : gHas ls y.2.2.1 L)
    (kk : ∀ (v : Option Value) (X' : gX) (M' : gM), Kz (.returned v) X' M' → wp l G y rm fr K md' (pc + 3) L (v.toList ++ st) X' M' (cs + rm'.cells) (ss + rm'.slots)) :
    W p l e rm s m args below meth c H locs cs ss (gMQ below (gQc G fr K) args s rm.cells rm.slots (gA G fr)) (F0 m pc ls st0) := by
  intro T hT Xs
  obtain ⟨v, st₀, t, T', Lc, h0, X', hL', e1, e2, ⟨⟨X2, M2, hk, hR2⟩, hz, hkp⟩, stp⟩ := hr T hT Xs
  rw [h0] at hz hkp
  have hS2 : va_S (gA G md') s.heap T'.heap (locs ++ Lc) := by
    refine ⟨Nat.le_trans hS.1 (by rw [e1]; exact hz), fun q h1 h2 => ?_, fun q hq => ?_⟩
    · rw [e1, hkp q (Nat.lt_of_lt_of_le h1 hS.1) (fun h => h2 (gA_le hm2 h))]
      exact hS.2.1 q h1 (fun h => h2 (gA_le hm1 h))
    · rcases List.mem_append.mp hq with h | h
      · exact gA_le hm1 (hS.2.2 q h)
      · exact gA_le hm2 (hL' q h)
  obtain ⟨t2, a1, b1⟩ := kk v X2 M2 hk p e s m args below meth c T'.heap (locs ++ Lc) ls hC hS2 (by rw [e1]; exact hR2) hL T' rfl X'
  exact ⟨t2, stp t2 a1, b1⟩
theorem gCallB {p : Program} {s : State} {m : MethodId} {args : Array Value} {meth : Method} {c : Code} {index n : Nat} (hC : gCx G y p s m args meth c) (hz : gCal z n) (hl : Cond.methodLink y.1.cls index z.1 ∈ gTb) (hR : rm'.frames + 1 ≤ rm.frames ∧ 8 + (z.2.2.1 + 11) + rm'.locals ≤ rm.locals) :
    CallB rm s args y.1.cls index z.1 z.2.1 z.2.2.1 z.2.2.2 (gW z) rm' rm'.cells rm'.slots n :=
  callB_of n hC.2.2.2.2.2.1 (gGood hz.1) rfl rfl rfl (hC.2.2.2.2.2.1 _ hz.2.1) (hC.2.2.2.2.2.1 _ hl) hz.2.2 hR
theorem gFix {p : Program} {s : State} {m : MethodId} {args : Array Value} {meth : Method} {c : Code} (hC : gCx G y p s m args meth c) : CallFix p m c y.2.1 y.2.2.1 s args gTb y.1.cls := ⟨hC.1, hC.2.1, hC.2.2.2.1, hC.2.2.2.2.1, hC.2.2.2.2.2.1⟩
theorem gPre {p : Program} {s : State} {m : MethodId} {args : Array Value} {meth : Method} {c : Code} {H : Heap} {av : List Value} (hC : gCx G y p s m args meth c) (hR : gRep G X M H) : PreS s H (gPc G av X M) av :=
  ⟨gBlind G av X M, fun U hU hW => ⟨rfl, va_K.moved hW.alike hC.2.2.2.2.2.2.2.2.1, by rw [hU]; exact hR, hC.2.2.2.2.2.2.2.2.2.2.1.warm hW⟩⟩
theorem wp_callS {As : List Value} {index n : Nat} (hd : decode y.2.1 pc = .ok (.invokestatic index, 3)) (hz : gCal z n) (hl : Cond.methodLink y.1.cls index z.1 ∈ gTb) (hst : Cond.static z.1 ∈ gTb) (hM : gCt l G z rm' fz As X M Kz) (hret : ∀ o X' M', Kz o X' M' → ∃ v, o = .returned v) {md' : Bool} (hm1 : md = true → md' = true) (hm2 : fz = true → md' = true) (hn : As.length = n)
    (hRm : rm'.frames + 1 ≤ rm.frames ∧ 8 + (z.2.2.1 + 11) + rm'.locals ≤ rm.locals) (hW : (st.map fun v => v.category).sum ≤ 8) (hf : cs + rm'.cells ≤ rm.cells ∧ ss + rm'.slots ≤ rm.slots) {st0 : List Value} (h0 : st0 = As.reverse ++ st)
    (kk : ∀ (v : Option Value) (X' : gX) (M' : gM), Kz (.returned v) X' M' → wp l G y rm fr K md' (pc + 3) L (v.toList ++ st) X' M' (cs + rm'.cells) (ss + rm'.slots)) : wp l G y rm fr K md pc L st0 X M cs ss := by
  subst h0
  intro p e s m args below meth c H locs ls hC hS hR hL
  exact gAfter hm1 hm2 (va_runS (gFix hC) (hM.met hret) ⟨gCallB hC hz hl hRm, hC.2.2.2.2.2.1 _ hst⟩ (gPre hC hR) rfl hn hL.1 rfl (lv_room hW) hd hf) hC hS hL kk
theorem wp_callI {As : List Value} {index n b : Nat} (hd : decode y.2.1 pc = .ok (.invokespecial index, 3)) (hz : gCal z n) (hr : z.2.2.2 = none) (hl : Cond.methodLink y.1.cls index z.1 ∈ gTb) (hin : Cond.instanceMethod z.1 ∈ gTb) (hnm : z.1.name = "<init>") (hb : 1 ≤ b) (hM : gCt l G z rm' fz (gR G b :: As) X M Kz) (hret : ∀ o X' M', Kz o X' M' → ∃ v, o = .returned v) {md' : Bool} (hm1 : md = true → md' = true) (hm2 : fz = true → md' = true) (hn : As.length = n)
    (hRm : rm'.frames + 1 ≤ rm.frames ∧ 8 + (z.2.2.1 + 11) + rm'.locals ≤ rm.locals) (hW : (st.map fun v => v.category).sum ≤ 8) (hf : cs + rm'.cells ≤ rm.cells ∧ ss + rm'.slots ≤ rm.slots) {st0 : List Value} (h0 : st0 = As.reverse ++ gR G b :: st)
    (kk : ∀ (v : Option Value) (X' : gX) (M' : gM), Kz (.returned v) X' M' → wp l G y rm fr K md' (pc + 3) L (v.toList ++ st) X' M' (cs + rm'.cells) (ss + rm'.slots)) : wp l G y rm fr K md pc L st0 X M cs ss := by
  subst h0
  intro p e s m args below meth c H locs ls hC hS hR hL
  have hM' : gCt l G z rm' fz (.ref (G.2.2.1 + b) :: As) X M Kz := by rw [gR_ref G (by omega)] at hM; exact hM
  have hB := gCallB (rm := rm) (rm' := rm') hC hz hl hRm
  rw [hr] at hB
  rw [gR_ref G (by omega)]
  exact gAfter hm1 hm2 (va_runI (gFix hC) (hM'.met hret) ⟨hB, hnm, hC.2.2.2.2.2.1 _ hin⟩ (gPre hC hR) rfl hn hL.1 rfl (lv_room hW) hd hf) hC hS hL kk
theorem gRecv {p : Program} {s : State} {m : MethodId} {args : Array Value} {meth : Method} {c : Code} {H : Heap} {b ci N : Nat} {C : String} {T : u_T} (hC : gCx G y p s m args meth c) (hR : gRep G X M H) (hc : gCl[ci]? = some (C, T, N)) (h1 : 1 ≤ b) (h2 : b ≤ X.1) (hs : X.2.1 b = (ci + 6, N)) :
    ∃ cellB : Cell, H[G.2.2.1 + b]? = some cellB ∧ cellB.vm.isStatics = false ∧ s.vm.findClass C = some cellB.cls := by
  have hcc := (hR.2.2 b h1 h2).1
  unfold gCe at hcc
  rw [hs, if_neg (by dsimp only; omega)] at hcc
  dsimp only at hcc
  rw [Nat.add_sub_cancel] at hcc
  obtain ⟨-, cell, q1, q2, q3, -⟩ := hcc
  exact ⟨cell, q1, by rw [q3]; rfl, by rw [q2]; exact (hC.2.2.2.2.2.2.2.2.1.1 ci _ hc).2.1⟩
theorem wp_callV {As : List Value} {index n b ci N : Nat} {C : String} {T : u_T} (hd : decode y.2.1 pc = .ok (.invokevirtual index, 3)) (hz : gCal z n) (hl : Cond.methodLink y.1.cls index z.1 ∈ gTb) (hin : Cond.instanceMethod z.1 ∈ gTb) (hse : Cond.selects C z.1 z.1 ∈ gTb) (hc : gCl[ci]? = some (C, T, N)) (h1 : 1 ≤ b) (h2 : b ≤ X.1) (hs : X.2.1 b = (ci + 6, N)) (hM : gCt l G z rm' fz (gR G b :: As) X M Kz) (hret : ∀ o X' M', Kz o X' M' → ∃ v, o = .returned v) {md' : Bool} (hm1 : md = true → md' = true) (hm2 : fz = true → md' = true) (hn : As.length = n)
    (hRm : rm'.frames + 1 ≤ rm.frames ∧ 8 + (z.2.2.1 + 11) + rm'.locals ≤ rm.locals) (hW : (st.map fun v => v.category).sum ≤ 8) (hf : cs + rm'.cells ≤ rm.cells ∧ ss + rm'.slots ≤ rm.slots) {st0 : List Value} (h0 : st0 = As.reverse ++ gR G b :: st)
    (kk : ∀ (v : Option Value) (X' : gX) (M' : gM), Kz (.returned v) X' M' → wp l G y rm fr K md' (pc + 3) L (v.toList ++ st) X' M' (cs + rm'.cells) (ss + rm'.slots)) : wp l G y rm fr K md pc L st0 X M cs ss := by
  subst h0
  intro p e s m args below meth c H locs ls hC hS hR hL
  have hM' : gCt l G z rm' fz (.ref (G.2.2.1 + b) :: As) X M Kz := by rw [gR_ref G (by omega)] at hM; exact hM
  rw [gR_ref G (by omega)]
  exact gAfter hm1 hm2 (va_runV (gFix hC) (hM'.met hret) ⟨gCallB hC hz hl hRm, hC.2.2.2.2.2.1 _ hin, hC.2.2.2.2.2.1 _ hse⟩ ⟨(gPre hC hR).1, gRecv hC hR hc h1 h2 hs, (gPre hC hR).2⟩ rfl hn hL.1 rfl (lv_room hW) hd hf) hC hS hL kk
theorem gNow {p : Program} {s : State} {m : MethodId} {args : Array Value} {meth : Method} {c : Code} (hC : gCx G y p s m args meth c) : gSP G s := hC.2.2.2.2.2.2.2.2.2.2.1 s (State.WarmedH.refl s) hC.2.2.2.2.2.2.2.2.2.2.2.1
/-- a nest mate's private members -/
theorem gCallN {p : Program} {s : State} {m : MethodId} {args : Array Value} {meth : Method} {c : Code} {index n : Nat} {host : String} (hC : gCx G y p s m args meth c) (hz : gCal z n) (hl : Cond.methodLinkNest y.1.cls index z.1 host ∈ gNst) (hR : rm'.frames + 1 ≤ rm.frames ∧ 8 + (z.2.2.1 + 11) + rm'.locals ≤ rm.locals) :
    va_CN rm s args y.1.cls index z.1 host z.2.1 z.2.2.1 z.2.2.2 (gW z) rm' rm'.cells rm'.slots n := by
  have hB := hC.2.2.2.2.2.1
  have hc : Cond.code z.1 z.2.1 z.2.2.1 z.2.2.2 ∈ gW z := List.mem_cons_self
  refine ⟨⟨rfl, rfl, hR.1, hR.2, pay_in hB (gGood hz.1), hc⟩, hB _ hz.1, hB _ hz.2.1, ⟨hz.2.2.1, hz.2.2.2.1⟩, fun sig h => ?_, (gNow hC).1 _ hl _⟩
  have h2 := hz.2.2.2.2
  rw [h] at h2
  exact (Option.some.inj h2).symm
theorem wp_callSN {As : List Value} {index n : Nat} {host : String} (hd : decode y.2.1 pc = .ok (.invokestatic index, 3)) (hz : gCal z n) (hl : Cond.methodLinkNest y.1.cls index z.1 host ∈ gNst) (hst : Cond.static z.1 ∈ gTb) (hM : gCt l G z rm' fz As X M Kz) (hret : ∀ o X' M', Kz o X' M' → ∃ v, o = .returned v) {md' : Bool} (hm1 : md = true → md' = true) (hm2 : fz = true → md' = true) (hn : As.length = n)
    (hRm : rm'.frames + 1 ≤ rm.frames ∧ 8 + (z.2.2.1 + 11) + rm'.locals ≤ rm.locals) (hW : (st.map fun v => v.category).sum ≤ 8) (hf : cs + rm'.cells ≤ rm.cells ∧ ss + rm'.slots ≤ rm.slots) {st0 : List Value} (h0 : st0 = As.reverse ++ st)
    (kk : ∀ (v : Option Value) (X' : gX) (M' : gM), Kz (.returned v) X' M' → wp l G y rm fr K md' (pc + 3) L (v.toList ++ st) X' M' (cs + rm'.cells) (ss + rm'.slots)) : wp l G y rm fr K md pc L st0 X M cs ss := by
  subst h0
  intro p e s m args below meth c H locs ls hC hS hR hL
  exact gAfter hm1 hm2 (va_runSN (gFix hC) (hM.met hret) ⟨gCallN hC hz hl hRm, hC.2.2.2.2.2.1 _ hst, trivial⟩ (gPre hC hR) rfl hn hL.1 rfl (lv_room hW) hd hf) hC hS hL kk
theorem wp_callIN {As : List Value} {index n b : Nat} {host : String} (hd : decode y.2.1 pc = .ok (.invokespecial index, 3)) (hz : gCal z n) (hr : z.2.2.2 = none) (hl : Cond.methodLinkNest y.1.cls index z.1 host ∈ gNst) (hin : Cond.instanceMethod z.1 ∈ gTb) (hnm : z.1.name = "<init>") (hb : 1 ≤ b) (hM : gCt l G z rm' fz (gR G b :: As) X M Kz) (hret : ∀ o X' M', Kz o X' M' → ∃ v, o = .returned v) {md' : Bool} (hm1 : md = true → md' = true) (hm2 : fz = true → md' = true) (hn : As.length = n)
    (hRm : rm'.frames + 1 ≤ rm.frames ∧ 8 + (z.2.2.1 + 11) + rm'.locals ≤ rm.locals) (hW : (st.map fun v => v.category).sum ≤ 8) (hf : cs + rm'.cells ≤ rm.cells ∧ ss + rm'.slots ≤ rm.slots) {st0 : List Value} (h0 : st0 = As.reverse ++ gR G b :: st)
    (kk : ∀ (v : Option Value) (X' : gX) (M' : gM), Kz (.returned v) X' M' → wp l G y rm fr K md' (pc + 3) L (v.toList ++ st) X' M' (cs + rm'.cells) (ss + rm'.slots)) : wp l G y rm fr K md pc L st0 X M cs ss := by
  subst h0
  intro p e s m args below meth c H locs ls hC hS hR hL
  have hM' : gCt l G z rm' fz (.ref (G.2.2.1 + b) :: As) X M Kz := by rw [gR_ref G (by omega)] at hM; exact hM
  have hB := gCallN (rm := rm) (rm' := rm') hC hz hl hRm
  rw [hr] at hB
  rw [gR_ref G (by omega)]
  exact gAfter hm1 hm2 (va_runIN (gFix hC) (hM'.met hret) ⟨hB, hnm, hC.2.2.2.2.2.1 _ hin⟩ (gPre hC hR) rfl hn hL.1 rfl (lv_room hW) hd hf) hC hS hL kk
/-- Object's constructor, called by another -/
theorem wp_objInit {index r : Nat} (hd : decode y.2.1 pc = .ok (.invokespecial index, 3)) (hl : Cond.methodLink y.1.cls index Lib.objectInit ∈ gTb) (hin : Cond.instanceMethod Lib.objectInit ∈ gTb) (hco : Cond.code Lib.objectInit ⟨#[0xb1]⟩ 1 none ∈ gTb) (hr : 1 ≤ r) (hfr : 1 ≤ rm.frames) (hlo : (st.map fun v => v.category).sum + 12 ≤ rm.locals)
    (kk : wp l G y rm fr K md (pc + 3) L st X M cs ss) : wp l G y rm fr K md pc L (gR G r :: st) X M cs ss := by
  intro p e s m args below meth c H locs ls hC hS hR hL
  have hts : ∀ w ∈ gTb, w.before args s = true := fun w h => hC.2.2.2.2.2.1 w h
  rw [gR_ref G (by omega)]
  exact W.objInit hC.1 hC.2.1 hC.2.2.2.2.1 (hts _ hl) (hts _ hin) (hts _ hco) rfl (hL.1.trans hC.2.2.2.1.symm) rfl hd hfr (by show 2 * 0 + _ + 12 ≤ _; omega) (kk p e s m args below meth c H locs ls hC hS hR hL)
end gCalls
/-- a contract may be weakened -/
theorem gCt.mono {l : Launch} {G : gG} {y : gMt} {rm : Room} {fr : Bool} {av : List Value} {X : gX} {M : gM} {K K' : Outcome → gX → gM → Prop} (h : gCt l G y rm fr av X M K) (hk : ∀ o X' M', K o X' M' → K' o X' M') : gCt l G y rm fr av X M K' := by
  unfold gCt at h ⊢
  refine MetFree.mono h (fun _ _ q => q) (fun _ _ _ _ _ q => q) ?_
  intro a s o t _ hq
  obtain ⟨⟨⟨X', M', h1, h2⟩, h3⟩, h4⟩ := hq
  exact ⟨⟨⟨X', M', hk _ _ _ h1, h2⟩, h3⟩, h4⟩
