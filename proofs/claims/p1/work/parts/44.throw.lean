/-! 'throw new E()' over wp, of a method that has written nothing yet. -/
/-- a cell that no slot of was written is the same -/
theorem g_same_cell {c c' : Cell} (h1 : c' = { c with slots := c'.slots }) (h2 : c'.slots.size = c.slots.size) (h3 : ∀ i : Nat, c'.slots[i]? = c.slots[i]?) : c' = c := by
  have e : c'.slots = c.slots := Array.ext_getElem? h3
  rw [h1, e]
section gThrow
variable {l : Launch} {G : gG} {y : gMt} {rm : Room} {fr : Bool} {K : Outcome → gX → gM → Prop} {pc : Nat} {L : List Slot} {st : List Value} {X : gX} {M : gM}
set_option maxHeartbeats 2000000 in
theorem wp_throw (hne : y.1.cls ≠ "GridLedgerLaw") {ci idx ic : Nat} {E : String} {T : u_T} {names : List String} (hl : ∀ e : Env, l.admits e → e.platform.stackTraces = false)
    (hd1 : decode y.2.1 pc = .ok (.new idx, 3)) (hd2 : decode y.2.1 (pc + 3) = .ok (.dup, 1)) (hd3 : decode y.2.1 (pc + 3 + 1) = .ok (.invokespecial ic, 3)) (hd4 : decode y.2.1 (pc + 3 + 1 + 3) = .ok (.athrow, 1))
    (hcl : Cond.classLink y.1.cls idx E ∈ gTb) (hin : Cond.instantiable E 6 ∈ gTb) (hini : Cond.initialized E ∈ gTb) (hfit : Bundle.fit E = true) (hnames : ∀ n ∈ names, Bundle.fit n = true)
    (hat : ∀ U, gSP G U → ∀ args : Array Value, (∀ w ∈ gTb, w.before args U = true) → ∀ a ∈ Bundle.ownAtoms0 y.1.cls ic E names, a.before args U = true)
    (hc : gCl[ci]? = some (E, T, 0)) (hcs : 1 ≤ rm.cells) (hss : 6 ≤ rm.slots) (hfr : names.length + 3 < rm.frames) (hlo : (st.map fun v => v.category).sum + 1 + (13 * (names.length + 1) + 41) ≤ rm.locals)
    (kk : K (.threw (G.2.2.1 + (X.1 + 1))) (gNw X (ci + 6, 0)) (gZr M (X.1 + 1))) : wp l G y rm fr K false pc L st X M 0 0 := by
  intro p e s m args below meth c H locs ls hC hS hR hL
  have hts : ∀ w ∈ gTb, w.before args s = true := fun w h => hC.2.2.2.2.2.1 w h
  have hlocs : locs = [] := List.eq_nil_iff_forall_not_mem.mpr fun q hq => by have := (hS.2.2 q hq).1; cases this
  subst hlocs
  have hKn := hC.2.2.2.2.2.2.2.2.1.1 ci _ hc
  refine W.newcK hC.1 hC.2.1 hC.2.2.2.2.1 (hts _ hcl) (hts _ hin) (hts _ hini) rfl hd1 (by omega) (by omega) hKn.2.1 rfl fun H1 kC hkC e1 z1 o1 => ?_
  refine lv_dup hC.1 hC.2.1 hd2 rfl ?_
  intro T0 hT Xs
  have hlocks : meth.locks = false := hC.2.2.2.2.2.2.1
  have hex : c.exceptionTable.toList = [] := by
    have := hC.2.2.2.2.2.2.2.2.2.1 hne
    simpa using this
  obtain ⟨U, hsteps, hrun, hend, hW, hsame, ce, hce, hown⟩ := Xs.ctorThrow0 hC.1 (hl e Xs.admits) hC.2.2.2.2.1 hfit hnames (hat s (gNow hC) args hts) (fun x hx => by cases hx) hKn.2.1 hkC (a := H.size) (by rw [hT]; exact e1) hS.1
    (g := F0 m (pc + 3 + 1) ls (.ref H.size :: .ref H.size :: st)) rfl (hL.1.trans hC.2.2.2.1.symm) rfl rfl (rest := st) rfl (by rw [hC.2.1]; exact hd3) (by rw [hC.2.1]; exact hd4) (fun x hx => by rw [hex] at hx; cases hx) hfr (by show 2 * 0 + ((Value.ref H.size :: st).map fun v => v.category).sum + _ ≤ _; simp only [List.map_cons, List.sum_cons]; show 2 * 0 + (1 + _) + _ ≤ _; omega)
  have hU : ({ U with vm := s.vm } : State).heap = U.heap := rfl
  obtain ⟨q1, q2, q3, q4, q5, q6⟩ := hsame
  rw [hU] at q2 q3 q6
  have hlt : H.size < U.heap.size := (Array.getElem?_eq_some_iff.mp hce).1
  have hsz : H.size = s.heap.size := by have := hS.1; omega
  have hUz : U.heap.size = H.size + 1 := by omega
  have hold : ∀ q, q < H.size → U.heap[q]? = H[q]? := by
    intro q hq
    have hq' : q < s.heap.size := by omega
    obtain ⟨c', g1, g2, g3, g4⟩ := q6 q _ (Array.getElem?_eq_getElem hq')
    rw [hS.2.1 q hq' (fun h => by cases h.1), Array.getElem?_eq_getElem hq', g1]
    exact congrArg some (g_same_cell g2 g3 (fun i => g4 i (by simp)))
  have hR2 : gRep G (gNw X (ci + 6, 0)) (gZr M (X.1 + 1)) U.heap := by
    refine hR.nw hUz hold ?_
    unfold gCe
    rw [show (gNw X (ci + 6, 0)).2.1 (X.1 + 1) = (ci + 6, 0) from if_pos rfl, if_neg (by dsimp only; omega)]
    dsimp only
    rw [Nat.add_sub_cancel]
    have hz : G.2.2.1 + (X.1 + 1) = H.size := by rw [hR.1]; omega
    rw [hz]
    exact ⟨⟨_, hc, rfl⟩, ce, hce, Option.some.inj (hown.cls.symm.trans hKn.2.1), hown.vm, fun k hk => by omega⟩
  have hz : H.size = G.2.2.1 + (X.1 + 1) := by rw [hR.1]; omega
  refine ⟨U, hsteps, .threw H.size, hrun, hend, ⟨⟨_, _, ?_, hR2⟩, ⟨by omega, fun q h1 h2 => ?_⟩⟩, [], ⟨hW, State.sameButNew.mono (show s.sameButNew ({ U with vm := s.vm } : State) [] (0 + 1) (0 + 6) from ⟨q1, q2, q3, q4, q5, q6⟩) (by omega) (by omega)⟩, fun q hq => by cases hq⟩
  · rw [hz]; exact kk
  · rw [hold q (by omega)]
    exact hS.2.1 q h1 (fun h => by cases h.1)
end gThrow
