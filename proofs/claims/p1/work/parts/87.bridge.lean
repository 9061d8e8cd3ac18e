/-! From the start of the law to its walk: class numbers and array class numbers out of the tables, the script, the end. -/
section gBr
variable {s : State} {A : Array Value}
theorem gIn_all : ∀ (c : Nat) (q : vw_C), gCl[c]? = some q → ∃ n, Cond.instantiable q.1 n ∈ gTb := by
  intro c q h
  match c, h with
  | 0, h => cases h; exact ⟨_, it_GL⟩
  | 1, h => cases h; exact ⟨_, it_GM⟩
  | 2, h => cases h; exact ⟨_, it_Bx⟩
  | 3, h => cases h; exact ⟨_, it_Cn⟩
  | 4, h => cases h; exact ⟨_, it_Ed⟩
  | 5, h => cases h; exact ⟨_, it_Ma⟩
  | 6, h => cases h; exact ⟨_, it_Or⟩
  | 7, h => cases h; exact ⟨_, it_Rd⟩
  | 8, h => cases h; exact ⟨_, it_Rs⟩
  | 9, h => cases h; exact ⟨_, it_St⟩
  | 10, h => cases h; exact ⟨_, it_Tk⟩
  | 11, h => cases h; exact ⟨_, it_Vl⟩
  | 12, h => cases h; exact ⟨_, it_jIoob⟩
  | 13, h => cases h; exact ⟨_, it_jIae⟩
  | 14, h => cases h; exact ⟨_, it_jIse⟩
  | 15, h => cases h; exact ⟨_, it_jNse⟩
  | c + 16, h =>
    rw [List.getElem?_eq_none (show gCl.length ≤ c + 16 from Nat.le_add_left 16 c)] at h
    cases h
theorem gArr {ty : FieldType} (h : (Cond.arrayClass ty).before A s = true) (hno : ∀ C, ty ≠ .object C) : ∃ cA, ArrOfT s cA ty ∧ va_RA s cA ty := by
  obtain ⟨c, k, comp, h1, h2, h3⟩ := Cond.arrayClass_spec h
  refine ⟨c, fun N z => ⟨(fun k h => by cases h), k, h2, comp, h3⟩, ?_⟩
  cases ty <;> first | exact h1 | exact absurd rfl (hno _)
theorem gArrO {C : String} (h : (Cond.arrayOver (.object C)).before A s = true) : ∃ cA, ArrOfT s cA (.object C) ∧ va_RA s cA (.object C) := by
  obtain ⟨comp, c, k, h0, -, h2, h3, h1⟩ := Cond.arrayOver_spec h
  exact ⟨c, fun N z => ⟨(fun k h => by cases h), k, h2, comp, h3⟩, k, comp, h2, h3, h0, h1⟩
theorem gArrA {t : FieldType} (h : (Cond.arrayOver (.array t)).before A s = true) : ∃ cA, ArrOfT s cA (.array t) ∧ va_RA s cA (.array t) := by
  obtain ⟨comp, c, k, h0, h2, h3, h1⟩ := Cond.arrayOver_specA h
  exact ⟨c, fun N z => ⟨(fun k h => by cases h), k, h2, comp, h3⟩, h1⟩
theorem gK_ex (hts : ∀ w ∈ gTb, w.before A s = true) (h4 : (Cond.arrayOver (.array .byte)).before A s = true) (h5 : (Cond.arrayOver (.object "GridLedger$State")).before A s = true) : ∃ (D : va_G) (E : Nat → ClassId), ∀ (n : Nat) (H : Heap) (P : State → Prop), va_K D gCl (gTy (D, E, n, H, P)) s := by
  have hD : ∀ c : Nat, ∃ (cC : ClassId), ∃ (iS : Nat → Nat), ∀ q : vw_C, gCl[c]? = some q → u_Kn s q.1 q.2.1 q.2.2 cC iS := by
    intro c
    cases hq : gCl[c]? with
    | none => exact ⟨(0 : Nat), fun _ => 0, fun q h => by cases h⟩
    | some q =>
      obtain ⟨n, hn⟩ := gIn_all c q hq
      obtain ⟨cC, iS, h⟩ := u_known (ws := gTb) hts (gCl_all c q hq).2.2.1 (hts _ hn)
      exact ⟨cC, iS, fun q' h' => by cases h'; exact h⟩
  obtain ⟨D1, hD1⟩ := Classical.skolem.mp hD
  obtain ⟨D2, hD2⟩ := Classical.skolem.mp hD1
  obtain ⟨e0, a0⟩ := gArr (ty := .int) (hts _ ac_0) (fun C h => by cases h)
  obtain ⟨e1, a1⟩ := gArr (ty := .long) (hts _ ac_1) (fun C h => by cases h)
  obtain ⟨e2, a2⟩ := gArr (ty := .byte) (hts _ ac_2) (fun C h => by cases h)
  obtain ⟨e3, a3⟩ := gArr (ty := .boolean) (hts _ ac_3) (fun C h => by cases h)
  obtain ⟨e4, a4⟩ := gArrA h4
  obtain ⟨e5, a5⟩ := gArrO h5
  refine ⟨(D1, D2), (fun k => match k with | 0 => e0 | 1 => e1 | 2 => e2 | 3 => e3 | 4 => e4 | _ => e5), fun n H P => ⟨fun c q hq => hD2 c q hq, fun k q hk => ?_⟩⟩
  match k, hk with
  | 0, hk => cases hk; exact a0
  | 1, hk => cases hk; exact a1
  | 2, hk => cases hk; exact a2
  | 3, hk => cases hk; exact a3
  | 4, hk => cases hk; exact a4
  | 5, hk => cases hk; exact a5
  | k + 6, hk =>
    rw [List.getElem?_eq_none (show (gTy _).length ≤ k + 6 from Nat.le_add_left 6 k)] at hk
    cases hk
/-- what is known of every state of the run -/
def gP0 (b L n : Nat) (xs : Nat → Int) : State → Prop := fun U => (∀ w ∈ gXw, ∀ args : Array Value, w.before args U = true) ∧ va_T .int b L (fun j => gI (xs j)) (fun q => true = true ∧ n < q) U U.heap
theorem gSt_ex {D : va_G} {E : Nat → ClassId} {b L n : Nat} {xs : Nat → Int} (hts : ∀ w ∈ tables_1, w.before A s = true) (hxn : ∀ w ∈ gXn, w.before A s = true) (hX : va_T .int b L (fun j => gI (xs j)) (fun q => true = true ∧ n < q) s s.heap) (hn : n + 1 = s.heap.size) : gSt (D, E, n, s.heap, gP0 b L n xs) s := by
  intro U hW hq
  have hq' : ∀ q : Nat, q < s.heap.size → U.heap[q]? = s.heap[q]? := fun q h => hq q (by show q ≤ n; omega)
  exact ⟨gNst_stay hW (fun w hw => hts w (List.mem_filter.mp hw).1), gXw_stay hW hq' hts hxn, (hX.kept (fun a h _ => hq' a h)).moved hW.alike⟩
theorem gNt {l : Launch} (hl : l.flags = flags0) : ∀ e : Env, l.admits e → e.platform.stackTraces = false := by
  intro e h
  rw [h.2.2.2.2.1]
  show l.stackTraces = false
  unfold Launch.stackTraces
  rw [hl]
  decide +kernel
/-- the frame of cells that were there before -/
theorem gForget {t : State} {L : List Loc} {mc ms : Nat} (h : s.sameButNew t L mc ms) (hf : ∀ q ∈ L, s.heap.size ≤ q.base) : s.sameButNew t [] mc ms := by
  obtain ⟨h1, h2, h3, h4, h5, h6⟩ := h
  refine ⟨h1, h2, h3, h4, h5, fun a c ha => ?_⟩
  obtain ⟨c', g1, g2, g3, g4⟩ := h6 a c ha
  refine ⟨c', g1, g2, g3, fun i _ => g4 i (fun hm => ?_)⟩
  have := hf _ hm
  have h7 := (Array.getElem?_eq_some_iff.mp ha).1
  exact absurd h7 (Nat.not_lt.mpr this)
end gBr
