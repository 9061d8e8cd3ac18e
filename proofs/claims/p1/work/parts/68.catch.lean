/-! A callee's throw that a helper of the law catches. -/
section gCatch
variable {l : Launch} {G : gG} {y z : gMt} {rm rm' : Room} {fr fz md : Bool} {K Kz : Outcome → gX → gM → Prop} {pc : Nat} {L : List Slot} {st : List Value} {X : gX} {M : gM} {cs ss : Nat}
theorem gTab {p : Program} {e : Env} {s : State} {m : MethodId} {args : Array Value} {below : List Frame} {meth : Method} {c : Code} {T : State} {locs : List Loc} {tb : List (Nat × Nat × Nat × Nat)} (Xs : Stand p l e rm s m args below meth c T locs cs ss) (hC : gCx G y p s m args meth c) (hcw : Cond.codeWith y.1 y.2.1 y.2.2.1 y.2.2.2 tb ∈ gTb) :
    c.exceptionTable.toList.map (fun h => (h.startPc, h.endPc, h.handlerPc, h.catchType)) = tb := by
  obtain ⟨m9, meth9, c9, hn, hm, hc9, -, -, htab, -⟩ := Cond.codeWith_spec (hC.2.2.2.2.2.1 _ hcw)
  have e0 : m9 = m := Option.some.inj (hn.symm.trans hC.2.2.2.2.2.2.2.2.2.2.2.2)
  subst e0
  have e1 : meth9 = meth := Option.some.inj (hm.symm.trans Xs.method)
  subst e1
  have e2 : c9 = c := Option.some.inj (hc9.symm.trans Xs.code)
  subst e2
  exact htab
/-- how the thrown object at b is caught: the rows before don't take it, the row does, and the handler is entered -/
def gCaught (G : gG) (y : gMt) (tb : List (Nat × Nat × Nat × Nat)) (pc : Nat) (a : Addr) (X : gX) (k : Nat → Nat → Prop) : Prop :=
  ∃ (b ce : Nat) (E : String) (TE : u_T) (NE : Nat) (pre : List (Nat × Nat × Nat × Nat)) (row : Nat × Nat × Nat × Nat) (post : List (Nat × Nat × Nat × Nat)), a = G.2.2.1 + b ∧ 1 ≤ b ∧ b ≤ X.1 ∧ X.2.1 b = (ce + 6, NE) ∧ gCl[ce]? = some (E, TE, NE) ∧ tb = pre ++ row :: post ∧
    (∀ q ∈ pre, q.2.2.2 ≠ 0 ∧ ∃ nm, Cond.classLink y.1.cls q.2.2.2 nm ∈ gTb ∧ Cond.not (.castable E nm) ∈ gXw) ∧ (row.1 ≤ pc ∧ pc < row.2.1) ∧ row.2.2.2 ≠ 0 ∧ Cond.classLink y.1.cls row.2.2.2 E ∈ gTb ∧ Cond.castable E E ∈ gXw ∧ k row.2.2.1 b
theorem wp_callVC (hok : gOk l G) {As : List Value} {index n b ci N : Nat} {C : String} {T0 : u_T} {tb : List (Nat × Nat × Nat × Nat)} (hcw : Cond.codeWith y.1 y.2.1 y.2.2.1 y.2.2.2 tb ∈ gTb) (hd : decode y.2.1 pc = .ok (.invokevirtual index, 3)) (hz : gCal z n) (hl : Cond.methodLink y.1.cls index z.1 ∈ gTb) (hin : Cond.instanceMethod z.1 ∈ gTb) (hse : Cond.selects C z.1 z.1 ∈ gTb) (hc : gCl[ci]? = some (C, T0, N)) (h1 : 1 ≤ b) (h2 : b ≤ X.1) (hs : X.2.1 b = (ci + 6, N)) (hM : gCt l G z rm' fz (gR G b :: As) X M Kz) {md' : Bool} (hm1 : md = true → md' = true) (hm2 : fz = true → md' = true) (hn : As.length = n)
    (hRm : rm'.frames + 1 ≤ rm.frames ∧ 8 + (z.2.2.1 + 11) + rm'.locals ≤ rm.locals) (hW : (st.map fun v => v.category).sum ≤ 8) (hf : cs + rm'.cells ≤ rm.cells ∧ ss + rm'.slots ≤ rm.slots) {st0 : List Value} (h0 : st0 = As.reverse ++ gR G b :: st)
    (kr : ∀ (v : Option Value) (X' : gX) (M' : gM), Kz (.returned v) X' M' → wp l G y rm fr K md' (pc + 3) L (v.toList ++ st) X' M' (cs + rm'.cells) (ss + rm'.slots))
    (kc : ∀ (a : Addr) (X' : gX) (M' : gM), Kz (.threw a) X' M' → gCaught G y tb pc a X' (fun h b' => wp l G y rm fr K md' h L [gR G b'] X' M' (cs + rm'.cells) (ss + rm'.slots))) : wp l G y rm fr K md pc L st0 X M cs ss := by
  subst h0
  intro p e s m args below meth c H locs ls hC hS hR hL T hT Xs
  obtain ⟨T', Lc, X', M', X2, hLc, hR', hz1, hkp, hend⟩ := gGoV hC hR hL hT Xs hd hz hl hin hse hc h1 h2 hs hn hM hRm hW hf
  have hS2 := gS_call hm1 hm2 hS hz1 hkp hLc
  have hB := hC.2.2.2.2.2.1
  rcases hend with ⟨v, hk, hs2⟩ | ⟨a, hk, hs2⟩
  · obtain ⟨t2, a1, b1⟩ := kr v X' M' hk p e s m args below meth c T'.heap (locs ++ Lc) ls hC hS2 hR' hL T' rfl X2
    exact ⟨t2, hs2.trans a1, b1⟩
  · obtain ⟨b', ce, E, TE, NE, pre, row, post, rfl, hb1, hb2, hbs, hce, htb, hpre, hcov, h00, hlk, hcast, kk⟩ := kc a X' M' hk
    have htab := gTab X2 hC hcw
    rw [htb] at htab
    obtain ⟨pre', rest', e1, e2, e3⟩ := List.map_eq_append_iff.mp htab
    obtain ⟨x, post', e4, e5, e6⟩ := List.map_eq_cons_iff.mp e3
    subst e4
    have hcc := (hR'.2.2 b' hb1 hb2).1
    unfold gCe at hcc
    rw [hbs, if_neg (by dsimp only; omega)] at hcc
    dsimp only at hcc
    rw [Nat.add_sub_cancel] at hcc
    obtain ⟨-, cell, q1, q2, q3, -⟩ := hcc
    have hfc : s.vm.findClass E = some (G.1.1 ce) := (hC.2.2.2.2.2.2.2.2.1.1 ce _ hce).2.1
    rw [← q2] at hfc
    obtain ⟨c8, t8, w1, w2, w3⟩ := Cond.castable_spec (hok.2 s (gNow hC) _ hcast args)
    cases hfc.symm.trans w1
    cases hfc.symm.trans w2
    have hr1 : x.startPc = row.1 := congrArg (fun q => q.1) e5
    have hr2 : x.endPc = row.2.1 := congrArg (fun q => q.2.1) e5
    have hr3 : x.handlerPc = row.2.2.1 := congrArg (fun q => q.2.2.1) e5
    have hr4 : x.catchType = row.2.2.2 := congrArg (fun q => q.2.2.2) e5
    have hpl : e.platform.magicAccessors = ({} : Platform).magicAccessors := by rw [X2.admits.platform]
    obtain ⟨hcatch, hk0⟩ := X2.catches_of_link (own := y.1.cls) (name := E) hC.2.2.2.2.1 (x := x) (by rw [hr4]; exact h00) (by rw [hr4]; exact hB _ hlk) hfc w3
    obtain ⟨vm', X3, st3⟩ := X2.thenCaughtThrough (G.2.2.1 + b') (g := F0 m pc ls st) rfl hs2 q1 (by rw [q3]; rfl) hk0 pre' x post' e1 (fun r hr => by
      have hm9 : (r.startPc, r.endPc, r.handlerPc, r.catchType) ∈ pre := by rw [← e2]; exact List.mem_map.mpr ⟨r, hr, rfl⟩
      obtain ⟨g1, nm, g2, g3⟩ := hpre _ hm9
      exact RowPassed.of_words hpl hC.2.2.2.2.1 g1 (hB _ g2) hfc (hok.2 s (gNow hC) _ g3 args)) (by
      show covers x pc = true
      unfold covers
      rw [hr1, hr2]
      simp [hcov.1, hcov.2]) hcatch
    obtain ⟨t2, a1, b1⟩ := kk p e s m args below meth c T'.heap (locs ++ Lc) ls hC hS2 hR' hL (T'.setVm vm') rfl X3
    refine ⟨t2, st3.trans ?_, b1⟩
    rw [gR_ref G (by omega)] at a1
    rw [hr3]
    exact a1
end gCatch
