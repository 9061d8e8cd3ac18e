/-! THE CLAIM OUT OF ONE WALK OF THE LAW'S BODY. Your part is whole_start (and what it stands on); all else here is the same for every law, but numbers. -/
def R_law : String := "GridLedgerLaw"
def lw_P (b : Addr) (xs : List Int32) (args : Array Value) (s : State) : Prop := args = #[.ref b] ∧ s.IntsAt b xs ∧ xs.length ≤ 3584 ∧ (Jvm.Cond.and given_1 narrow_1).before args s = true
def lw_Q (_ : Array Value) (s : State) (o : Outcome) (t : State) : Prop := o = .returned (some (.int 1)) ∧ Framed s o t [] 132966 8697208
def lw_Z (below : List Frame) (a : Array Value) (s : State) : State → Prop := fun t => ∃ o, t.status = .running ∧ Ended t below o ∧ lw_Q a s o t
/-- the law's own end, with 1 on the stack, nothing written that was there before, its room as the claim has it -/
theorem lw_ret {p : Program} {l : Launch} {e : Env} {s : State} {m : MethodId} {below : List Frame} {meth : Method} {c : Code} {b : Nat} (hx : p.tables.exec = Jvm.exec) (hb : c.code = code) (hr : meth.sig.returnType = ret) (hlocks : meth.locks = false) {pc : Nat} {H : Heap} {ls : Array Slot} (hdg : decode code pc = .ok (.ireturn, 1)) : W p l e room_1 s m #[Value.ref b] below meth c H [] 132966 8697208 (lw_Z below #[Value.ref b] s) (F0 m pc ls [.int 1]) := by
  intro T hT X
  obtain ⟨fs, hret, hrun, hended, hW, hframe⟩ := X.leave (v := some (.int 1)) (hlocks := hlocks) (fun h => by rw [hr] at h; cases h)
  have hmeth' : T.vm.method? m = some meth := X.method'
  refine ⟨T.setFrames fs, ?_, .returned (some (.int 1)), hrun, hended, rfl, ⟨_, rfl⟩, hW, hframe⟩
  jvm_step X.here [X.here.top, hx, hb, hdg, hmeth', hr, ret, narrow_b1]
  (try refine ⟨rfl, ?_⟩); (try refine ⟨rfl, ?_⟩)
  first | (intro acts; rw [hret _ acts rfl rfl rfl]) | rw [hret _ _ rfl rfl rfl]
  exact Steps.refl _
/-- what holds at the law's entry: the machine, the code, the tables' words (any of lw_tbl by 'hts w (by decide +kernel)'), the script of L ints xs at the cell b, what the Statement gives of the start (any of its parts by flat_of_before) -/
def lw_At (p : Program) (s : State) (m : MethodId) (meth : Method) (c : Code) (b L : Nat) (xs : Nat → Int32) : Prop :=
  p.tables.exec = Jvm.exec ∧ c.code = code ∧ meth.sig.returnType = ret ∧ c.maxLocals = 8 ∧ s.vm.findClass R_law = some m.cls ∧ (∀ w ∈ lw_tbl, w.before #[Value.ref b] s = true) ∧ va_X b L xs s s.heap ∧ b < s.heap.size ∧ meth.locks = false ∧ (Jvm.Cond.and given_1 narrow_1).before #[Value.ref b] s = true
/-- from the start of the law to its walk -/
theorem gBridge {p : Program} {e : Env} {s : State} {m : MethodId} {below : List Frame} {meth : Method} {c : Code} {l : Launch} {b L : Nat} {xs : Nat → Int32} {K : Outcome → gX → gM → Prop} (hnt : ∀ e : Env, l.admits e → e.platform.stackTraces = false) (hnm : s.methodNamed? x = some m) (hname : meth.name = x.name) (hts1 : ∀ w ∈ tables_1, w.before #[Value.ref b] s = true) (C0 : lw_At p s m meth c b L xs) (hK : ∀ o X M, K o X M → o = .returned (some (gI 1)))
    (hw : ∀ G : gG, gOk l G → (∀ U, gSP G U → va_T .int b L (fun j => gI (xs j).toInt) (gA G true) U U.heap) → wp l G y_Lw_law room_1 true K false 0 [.val (.ref b), .unset, .unset, .unset, .unset, .unset, .unset, .unset] [] gX0 (fun _ _ => 0) 0 0) : W p l e room_1 s m #[Value.ref b] below meth c s.heap [] 0 0 (lw_Z below #[Value.ref b] s) (entryFrame m ([Value.ref b] : List Value).toArray 8) := by
  obtain ⟨hexec, hcode, hret, hml, hown, hts, hX, hbl, hlocks, hgv⟩ := C0
  have hTb : ∀ w ∈ gTb, w.before #[Value.ref b] s = true := fun w hw => hts w (List.mem_filter.mp hw).1
  have hfl := flat_of_before _ hgv
  have hxn : ∀ w ∈ gXn, w.before #[Value.ref b] s = true := by
    intro w hw
    simp only [gXn, List.mem_cons, List.not_mem_nil, or_false] at hw
    rcases hw with rfl | rfl | rfl | rfl <;> exact hfl _ (by decide +kernel)
  obtain ⟨D, E, hKK⟩ := gK_ex hTb (hts1 _ (by decide +kernel)) (hts1 _ (by decide +kernel))
  obtain ⟨n, hn⟩ : ∃ n, n + 1 = s.heap.size := ⟨s.heap.size - 1, by omega⟩
  have hT : va_T .int b L (fun j => gI (xs j).toInt) (fun q => true = true ∧ n < q) s s.heap := by
    obtain ⟨scr, h1, h2, h3, h4, h5⟩ := hX
    refine ⟨scr, h1, h2, h3, Nat.le_of_eq h4.symm, by rw [h4], fun j hj => ?_, fun h => ?_⟩
    · rw [h5 j hj]
      show some (Value.int (xs j)) = some (Value.int (Int32.ofInt (xs j).toInt))
      rw [Int32.ofInt_toInt]
    · have := h.2
      omega
  have hSt := gSt_ex (D := D) (E := E) hts1 hxn hT hn
  have hl := lv_entry [Value.ref b] (n := 8) (show 1 ≤ 8 by decide)
  have k := hw (D, E, n, s.heap, gP0 b L n (fun j => (xs j).toInt)) ⟨hnt, fun U hU w hw args => hU.2.1 w hw args⟩ (fun U hU => hU.2.2) p e s m #[Value.ref b] below meth c s.heap [] (gEn [.ref b] 8).toArray ⟨hexec, hcode, hret, hml, hown, hTb, hlocks, hname, hKK _ _ _, fun h => absurd rfl h, hSt, fun _ _ => rfl, hnm⟩ va_S.rf ⟨by show s.heap.size = n + 1 + 0; omega, fun _ _ => rfl, fun a h1 h2 => absurd (Nat.le_trans h1 h2) (by decide)⟩ ⟨hl.1, hl.2.1, fun i v hi => by rw [← Array.getElem?_toList]; exact hi⟩
  rw [lg_entry_eq]
  refine W.post (fun t h => ?_) k
  obtain ⟨o, h1, h2, ⟨⟨X, M, h3, -⟩, -⟩, Lc, ⟨h5, h6⟩, h7⟩ := h
  have ho := hK _ _ _ h3
  exact ⟨o, h1, h2, ho, ⟨_, ho⟩, h5, gForget h6 (fun q hq => by have h8 : n < q.base := (h7 q hq).2; omega)⟩
/-- p1's start: scripts of at most seven ints -/
theorem p1_start {p : Program} {e : Env} {s : State} {m : MethodId} {below : List Frame} {meth : Method} {c : Code} (l : Launch) {b L : Nat} {xs : Nat → Int32} (hnt : ∀ e : Env, l.admits e → e.platform.stackTraces = false) (hnm : s.methodNamed? x = some m) (hname : meth.name = x.name) (hts1 : ∀ w ∈ tables_1, w.before #[Value.ref b] s = true) (hL : L ≤ 7) (C0 : lw_At p s m meth c b L xs) : W p l e room_1 s m #[Value.ref b] below meth c s.heap [] 0 0 (lw_Z below #[Value.ref b] s) (entryFrame m ([Value.ref b] : List Value).toArray 8) :=
  gBridge hnt hnm hname hts1 C0 (fun _ _ _ h => h) (fun G hok hscr => p1_entry hok hscr hL (fun j => g32_of (xs j)))
