/-! The core: a pure memory over the heap, and a judgement wp over the machine W that hides all but the method, pc, locals, stack and memory.
  Addresses are numbers a ≥ 1 (the machine's: base + a); 0 is null. A cell's shape is (tag, size): tag 0 int[], 1 long[], 2 byte[], 3 boolean[], 4 byte[][], 5 State[], 6 + c an object of class c of gCl.
  X = (how many cells, shapes, references); M a k the number in slot k of cell a. -/
def gI (x : Int) : Value := .int (Int32.ofInt x)
def gL (x : Int) : Value := .long (Int64.ofInt x)
/-- classes' numbers and fields' slots; array classes' numbers; the base address; the old heap; what else is known of every state -/
abbrev gG : Type := va_G × (Nat → ClassId) × Nat × Heap × (State → Prop)
abbrev gX : Type := Nat × (Nat → Nat × Nat) × (Nat → Nat → Nat)
abbrev gM : Type := Nat → Nat → Int
def gR (G : gG) (r : Nat) : Value := if r = 0 then .null else .ref (G.2.2.1 + r)
theorem gR_ref (G : gG) {r : Nat} (h : r ≠ 0) : gR G r = .ref (G.2.2.1 + r) := if_neg h
/-- kinds of slots: 0 int, 1 long, 2 reference, 3 byte, 4 boolean -/
def gKd (tag k : Nat) : Nat := match tag with
  | 0 => 0
  | 1 => 1
  | 2 => 3
  | 3 => 4
  | 4 => 2
  | 5 => 2
  | c + 6 => gFk c k
def gFt (tag : Nat) : FieldType := match tag with
  | 0 => .int
  | 1 => .long
  | 2 => .byte
  | 3 => .boolean
  | 4 => .array .byte
  | _ => .object "GridLedger$State"
def g32 (x : Int) : Prop := -2147483648 ≤ x ∧ x < 2147483648
def g64 (x : Int) : Prop := -9223372036854775808 ≤ x ∧ x < 9223372036854775808
def gRg (t : Nat) (x : Int) : Prop := match t with
  | 1 => g64 x
  | 2 => True
  | 3 => -128 ≤ x ∧ x < 128
  | 4 => 0 ≤ x ∧ x ≤ 1
  | _ => g32 x
def gV (G : gG) (t : Nat) (x : Int) (r : Nat) : Value := match t with
  | 1 => gL x
  | 2 => gR G r
  | _ => gI x
def gTy (G : gG) : List (ClassId × FieldType) := [(G.2.1 0, .int), (G.2.1 1, .long), (G.2.1 2, .byte), (G.2.1 3, .boolean), (G.2.1 4, .array .byte), (G.2.1 5, .object "GridLedger$State")]
def gVal (G : gG) (X : gX) (M : gM) (a k : Nat) : Value := gV G (gKd (X.2.1 a).1 k) (M a k) (X.2.2 a k)
def gCe (G : gG) (X : gX) (M : gM) (a : Nat) (H : Heap) : Prop :=
  if (X.2.1 a).1 < 6 then H[G.2.2.1 + a]? = some (arrV (G.2.1 (X.2.1 a).1) (X.2.1 a).2 (gVal G X M a))
  else (∃ q, gCl[(X.2.1 a).1 - 6]? = some q ∧ q.2.2 = (X.2.1 a).2) ∧ t_OB (G.2.2.1 + a) (G.1.1 ((X.2.1 a).1 - 6)) (X.2.1 a).2 (G.1.2 ((X.2.1 a).1 - 6)) H (gVal G X M a)
/-- the heap holds the memory: the old cells are as they were, the new ones as X and M say -/
def gRep (G : gG) (X : gX) (M : gM) (H : Heap) : Prop :=
  H.size = G.2.2.1 + 1 + X.1 ∧ (∀ q : Nat, q ≤ G.2.2.1 → H[q]? = G.2.2.2.1[q]?) ∧ ∀ a : Nat, 1 ≤ a → a ≤ X.1 → gCe G X M a H ∧ ∀ k, k < (X.2.1 a).2 → gRg (gKd (X.2.1 a).1 k) (M a k)
/-- what may be written: nothing (false), or all cells that are ours (true) -/
def gA (G : gG) (b : Bool) : Nat → Prop := fun q => b = true ∧ G.2.2.1 < q
/-- what the tables say that isn't kept by every word: kept by what a run can do to tables and old cells -/
def gSP (G : gG) (U : State) : Prop := (∀ w ∈ gNst, ∀ args : Array Value, w.before args U = true) ∧ G.2.2.2.2 U
def gSt (G : gG) (s : State) : Prop := ∀ U : State, s.WarmedH U.vm → (∀ q : Nat, q ≤ G.2.2.1 → U.heap[q]? = G.2.2.2.1[q]?) → gSP G U
theorem gSt.warm {G : gG} {s U : State} (h : gSt G s) (hW : s.WarmedH U.vm) : gSt G U := fun V hV hq => h V (State.WarmedH.trans hW hV) hq
def gW (y : gMt) : List Cond := Cond.code y.1 y.2.1 y.2.2.1 y.2.2.2 :: gTb
def gQc (G : gG) (fr : Bool) (K : Outcome → gX → gM → Prop) : Array Value → State → Outcome → State → Prop := fun _ st o t => (∃ (X : gX) (M : gM), K o X M ∧ gRep G X M t.heap) ∧ va_F (gA G fr) st t
/-- a method's end, by a return or a throw -/
def gMQ (below : List Frame) (Qc : Array Value → State → Outcome → State → Prop) (a : Array Value) (s : State) (mc ms : Nat) (free : Addr → Prop) : State → Prop := fun t =>
  ∃ o, t.status = .running ∧ Ended t below o ∧ Qc a s o t ∧ ∃ L, (s.WarmedH t.vm ∧ s.sameButNew ({ t with vm := s.vm } : State) L mc ms) ∧ ∀ q ∈ L, free q.base
theorem gMQ.of {below : List Frame} {Qc : Array Value → State → Outcome → State → Prop} {a : Array Value} {s : State} {mc ms : Nat} {free : Addr → Prop} {t : State} (h : MQ below Qc a s mc ms free t) : gMQ below Qc a s mc ms free t := by
  obtain ⟨o, h1, h2, h3, L, h4, h5⟩ := h
  exact ⟨o, h1, h2, h3, L, h4.2, h5⟩
theorem W.post {p : Program} {l : Launch} {e : Env} {R : Room} {s : State} {m : MethodId} {args : Array Value} {below : List Frame} {meth : Method} {c : Code} {H : Heap} {locs : List Loc} {cells slots : Nat} {Q Q' : State → Prop} {g : JFrame} (h : ∀ t, Q t → Q' t) (k : W p l e R s m args below meth c H locs cells slots Q g) : W p l e R s m args below meth c H locs cells slots Q' g := by
  intro T hT X
  obtain ⟨t, a, b⟩ := k T hT X
  exact ⟨t, a, h t b⟩
/-- what every method's body stands on -/
def gCx (G : gG) (y : gMt) (p : Program) (s : State) (m : MethodId) (args : Array Value) (meth : Method) (c : Code) : Prop :=
  p.tables.exec = Jvm.exec ∧ c.code = y.2.1 ∧ meth.sig.returnType = y.2.2.2 ∧ c.maxLocals = y.2.2.1 ∧ s.vm.findClass y.1.cls = some m.cls ∧ (∀ w ∈ gTb, w.before args s = true) ∧ meth.locks = false ∧ meth.name = y.1.name ∧ va_K G.1 gCl (gTy G) s ∧ (y.1.cls ≠ "GridLedgerLaw" → c.exceptionTable.isEmpty = true) ∧ gSt G s ∧ (∀ q : Nat, q ≤ G.2.2.1 → s.heap[q]? = G.2.2.2.1[q]?) ∧ s.methodNamed? y.1 = some m
def gHas (ls : Array Slot) (n : Nat) (L : List Slot) : Prop := ls.size = n ∧ lv_wf ls ∧ ∀ (i : Nat) (v : Value), L[i]? = some (.val v) → ls[i]? = some (.val v)
def wp (l : Launch) (G : gG) (y : gMt) (rm : Room) (fr : Bool) (K : Outcome → gX → gM → Prop) (md : Bool) (pc : Nat) (L : List Slot) (st : List Value) (X : gX) (M : gM) (cs ss : Nat) : Prop :=
  ∀ (p : Program) (e : Env) (s : State) (m : MethodId) (args : Array Value) (below : List Frame) (meth : Method) (c : Code) (H : Heap) (locs : List Loc) (ls : Array Slot),
    gCx G y p s m args meth c → va_S (gA G md) s.heap H locs → gRep G X M H → gHas ls y.2.2.1 L →
    W p l e rm s m args below meth c H locs cs ss (gMQ below (gQc G fr K) args s rm.cells rm.slots (gA G fr)) (F0 m pc ls st)
/-- a method's contract: called with these arguments at this memory it comes to an outcome and a memory of K -/
def gPc (G : gG) (av : List Value) (X : gX) (M : gM) : Array Value → State → Prop := fun v U => v = av.toArray ∧ va_K G.1 gCl (gTy G) U ∧ gRep G X M U.heap ∧ gSt G U
def gCt (l : Launch) (G : gG) (y : gMt) (rm : Room) (fr : Bool) (av : List Value) (X : gX) (M : gM) (K : Outcome → gX → gM → Prop) : Prop :=
  MetFree l y.1 (headSpec (gW y) rm) (gPc G av X M) (fun _ _ _ _ _ => True) (fun a st o t => gQc G fr K a st o t ∧ ∃ L, (st.WarmedH t.vm ∧ st.sameButNew ({ t with vm := st.vm } : State) L rm.cells rm.slots) ∧ ∀ q ∈ L, gA G fr q.base)
theorem gHas.of {ls : Array Slot} {n : Nat} {L L' : List Slot} (h : gHas ls n L) (hs : ∀ (i : Nat) (v : Value), L'[i]? = some (.val v) → L[i]? = some (.val v)) : gHas ls n L' := ⟨h.1, h.2.1, fun i v hi => h.2.2 i v (hs i v hi)⟩
/-- as the kit lists locals -/
def gLv (L : List Slot) (i : Nat) : Option (Nat × Value) := match (L[i]? : Option Slot) with
  | some (.val v) => some (i, v)
  | _ => none
def gLs (L : List Slot) : List (Nat × Value) := (List.range L.length).filterMap (gLv L)
theorem gLs_mem {L : List Slot} {q : Nat × Value} : q ∈ gLs L ↔ L[q.1]? = some (.val q.2) := by
  unfold gLs
  rw [List.mem_filterMap]
  constructor
  · rintro ⟨i, -, h⟩
    unfold gLv at h
    split at h
    · next v hv =>
      cases h
      exact hv
    · cases h
  · intro h
    have hl := (List.getElem?_eq_some_iff.mp h).1
    exact ⟨q.1, List.mem_range.mpr hl, by unfold gLv; rw [h]⟩
theorem gHas.lv {ls : Array Slot} {n : Nat} {L : List Slot} (h : gHas ls n L) : lv_has ls n (gLs L) := ⟨h.1, h.2.1, fun q hq => h.2.2 q.1 q.2 (gLs_mem.mp hq)⟩
def gDd (L : List Slot) (i : Nat) : List Slot := match i with
  | 0 => L
  | j + 1 => match L[j]? with
    | some (.val (.long _)) => L.set j .unset
    | some (.val (.double _)) => L.set j .unset
    | _ => L
def gS1 (L : List Slot) (i : Nat) (v : Value) : List Slot := (gDd L i).set i (.val v)
def gS2 (L : List Slot) (i : Nat) (v : Value) : List Slot := ((gDd L i).set i (.val v)).set (i + 1) .unset
theorem gDd_get {L : List Slot} {i j : Nat} {v : Value} (h : (gDd L i)[j]? = some (.val v)) : L[j]? = some (.val v) ∧ ¬ (j + 1 = i ∧ v.category = 2) := by
  unfold gDd at h
  split at h
  · exact ⟨h, by omega⟩
  · next k =>
    split at h
    · next w hw =>
      rw [List.getElem?_set] at h
      split at h
      · split at h <;> cases h
      · exact ⟨h, by omega⟩
    · next w hw =>
      rw [List.getElem?_set] at h
      split at h
      · split at h <;> cases h
      · exact ⟨h, by omega⟩
    · next h1 h2 =>
      refine ⟨h, fun q => ?_⟩
      have hj : j = k := by omega
      subst hj
      cases v with
      | long x => exact h1 x h
      | double x => exact h2 x h
      | _ => exact absurd q.2 (by simp [Value.category])
theorem gHas.st1 {ls ls' : Array Slot} {n : Nat} {L : List Slot} {i : Nat} {v : Value} (h : lv_has ls' n ((i, v) :: (gLs L).filter (fun q => !(q.1 == i) && !(q.1 + 1 == i && q.2.category == 2)))) : gHas ls' n (gS1 L i v) := by
  refine ⟨h.1, h.2.1, fun j w hj => ?_⟩
  unfold gS1 at hj
  rw [List.getElem?_set] at hj
  split at hj
  · next e =>
    split at hj
    · cases hj
      rw [← e]
      exact h.2.2 (i, v) List.mem_cons_self
    · cases hj
  · next e =>
    obtain ⟨h1, h2⟩ := gDd_get hj
    refine h.2.2 (j, w) (List.mem_cons_of_mem _ (List.mem_filter.mpr ⟨gLs_mem.mpr h1, ?_⟩))
    have e2 : (j == i) = false := by simpa using fun q : j = i => e q.symm
    simp only [e2, Bool.not_false, Bool.true_and, Bool.not_eq_true', Bool.and_eq_false_iff, beq_eq_false_iff_ne, ne_eq]
    by_cases h3 : j + 1 = i
    · exact Or.inr fun h4 => h2 ⟨h3, h4⟩
    · exact Or.inl h3
theorem gHas.st2 {ls ls' : Array Slot} {n : Nat} {L : List Slot} {i : Nat} {v : Value} (h : lv_has ls' n ((i, v) :: (gLs L).filter (fun q => !(q.1 == i) && (!(q.1 == i + 1) && !(q.1 + 1 == i && q.2.category == 2))))) : gHas ls' n (gS2 L i v) := by
  refine ⟨h.1, h.2.1, fun j w hj => ?_⟩
  unfold gS2 at hj
  rw [List.getElem?_set] at hj
  split at hj
  · split at hj <;> cases hj
  · next e0 =>
    rw [List.getElem?_set] at hj
    split at hj
    · next e =>
      split at hj
      · cases hj
        rw [← e]
        exact h.2.2 (i, v) List.mem_cons_self
      · cases hj
    · next e =>
      obtain ⟨h1, h2⟩ := gDd_get hj
      refine h.2.2 (j, w) (List.mem_cons_of_mem _ (List.mem_filter.mpr ⟨gLs_mem.mpr h1, ?_⟩))
      have e2 : (j == i) = false := by simpa using fun q : j = i => e q.symm
      have e3 : (j == i + 1) = false := by simpa using fun q : j = i + 1 => e0 q.symm
      simp only [e2, e3, Bool.not_false, Bool.true_and, Bool.not_eq_true', Bool.and_eq_false_iff, beq_eq_false_iff_ne, ne_eq]
      by_cases h3 : j + 1 = i
      · exact Or.inr fun h4 => h2 ⟨h3, h4⟩
      · exact Or.inl h3
/-- a method is entered -/
def gEn (av : List Value) (n : Nat) : List Slot := lg_sl av ++ List.replicate (n - (lg_sl av).length) Slot.unset
theorem gCt.of {l : Launch} {G : gG} {y : gMt} {rm : Room} {fr : Bool} {av : List Value} {X : gX} {M : gM} {K : Outcome → gX → gM → Prop} (hy : plainFor y.1 = true) (hn : (lg_sl av).length ≤ y.2.2.1)
    (h : wp l G y rm fr K false 0 (gEn av y.2.2.1) [] X M 0 0) : gCt l G y rm fr av X M K := by
  refine MetFree.of_bodySF (code := y.2.1) (maxLocals := y.2.2.1) (ret := y.2.2.2) hy ?_ ?_
  · intro args s m hh hnn
    obtain ⟨meth, c, h1, h2, h3, h4, h5, h6, -, -⟩ := Cond.code_spec hnn (atoms_spec (ws := gW y) hh _ List.mem_cons_self)
    exact ⟨meth, c, h1, h2, h3, h4, h5, h6⟩
  · intro p e s m args below meth c s₁ B hml hP _
    obtain ⟨rfl, hK, hR, hSt⟩ := hP
    have hh0 : s₁.heap = s.heap := by rw [B.state]; rfl
    have hl := lv_entry av (n := y.2.2.1) hn
    have hts := atoms_spec (ws := gW y) B.pre
    have hex : c.exceptionTable.isEmpty = true := by
      obtain ⟨meth', c', h1, h2, h3, h4, h5, h6, h7, -⟩ := Cond.code_spec B.named (hts _ List.mem_cons_self)
      have e1 : meth' = meth := Option.some.inj (h1.symm.trans B.method)
      subst e1
      have e2 : c' = c := by
        have hcode := B.here.code
        rw [State.code?_eq] at hcode
        have : s₁.vm = s.vm := by rw [B.state]; rfl
        rw [this, B.method] at hcode
        exact Option.some.inj (h2.symm.trans hcode)
      subst e2
      exact h7
    have k := h p e s m _ below meth c s.heap [] (gEn av y.2.2.1).toArray ⟨B.exec, B.bytes, B.returns, hml, findClass_of_methodNamed B.named, fun w h => hts w (List.mem_cons_of_mem _ h), B.notSynchronized, (name_of_methodNamed B.named B.method).1, hK, fun _ => hex, hSt, hR.2.1, B.named⟩ va_S.rf hR ⟨hl.1, hl.2.1, fun i v hi => by rw [← Array.getElem?_toList]; exact hi⟩
    obtain ⟨t, a1, o, b1, b2, b3⟩ := k s₁ hh0 (Stand.of_body B)
    refine ⟨t, o, ?_, b1, b2, ⟨b3.1, b3.2⟩⟩
    rw [lg_entry_eq]
    exact a1
theorem gA_le {G : gG} {md fr : Bool} (h : md = true → fr = true) {q : Nat} (hq : gA G md q) : gA G fr q := ⟨h hq.1, hq.2⟩
theorem gF_le {G : gG} {md fr : Bool} (h : md = true → fr = true) {s t : State} (hF : va_F (gA G md) s t) : va_F (gA G fr) s t := ⟨hF.1, fun q h1 h2 => hF.2 q h1 (fun h3 => h2 (gA_le h h3))⟩
theorem gS_le {G : gG} {md fr : Bool} (h : md = true → fr = true) {H0 H : Heap} {locs : List Loc} (hS : va_S (gA G md) H0 H locs) : va_S (gA G fr) H0 H locs := ⟨hS.1, fun q h1 h2 => hS.2.1 q h1 (fun h3 => h2 (gA_le h h3)), fun q hq => gA_le h (hS.2.2 q hq)⟩
theorem gS_t {G : gG} {md : Bool} {H0 H : Heap} {locs : List Loc} (hS : va_S (gA G md) H0 H locs) : va_S (gA G true) H0 H locs := gS_le (fun _ => rfl) hS
