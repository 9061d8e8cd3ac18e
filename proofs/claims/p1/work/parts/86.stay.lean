/-! Words that are no good words stay over what a run can do to the tables and the old cells. -/
section gStay
variable {s U : State} {A A' : Array Value}
theorem gSv {w : Cond} (hw : w.steady = true) (hW : s.WarmedH U.vm) (h : w.before A s = true) : w.before A (s.setVm U.vm) = true := by
  have e := Cond.value_setVm (args := A) (o := none) hW.alike w [] hw
  simp only [Cond.before, Cond.holds] at h ⊢
  rw [e]
  exact h
theorem gLs_stay {O f d : String} (hW : s.WarmedH U.vm) (hq : ∀ q : Nat, q < s.heap.size → U.heap[q]? = s.heap[q]?) (h : (Cond.laysStatic O f d).before A s = true) : (Cond.laysStatic O f d).before A' U = true := by
  have h1 := gSv (w := Cond.laysStatic O f d) rfl hW h
  obtain ⟨c, k, i, fd, a, cell, hc, hf, hst, hsta, hcell, hiss, hcls, hlt, hty⟩ := Cond.laysStatic_spec h1
  have hf' : U.fieldFound? O f d = some (c, k, i, fd) := hf
  have hc' : U.vm.findClass O = some c := hc
  have hcell0 : s.heap[a]? = some cell := hcell
  have hcell' : U.heap[a]? = some cell := (hq a (Array.getElem?_eq_some_iff.mp hcell0).1).trans hcell0
  simp [Cond.before, Cond.holds, Cond.value, hc', hf', hst, hsta, hcell', hiss, hcls, hlt, hty]
theorem gIr_stay {O f d : String} (hW : s.WarmedH U.vm) (hq : ∀ q : Nat, q < s.heap.size → U.heap[q]? = s.heap[q]?) (hl : (Cond.laysStatic O f d).before A s = true) (h : (Cond.isRef (.static O f d)).before A s = true) : (Cond.isRef (.static O f d)).before A' U = true := by
  have h1 := gSv (w := Cond.laysStatic O f d) rfl hW hl
  have h2 := gSv (w := Cond.isRef (.static O f d)) rfl hW h
  obtain ⟨c, k, i, fd, a, cell, hc, hf, hst, hsta, hcell, hiss, hcls, hlt, hty⟩ := Cond.laysStatic_spec h1
  have hf' : U.fieldFound? O f d = some (c, k, i, fd) := hf
  have hcell0 : s.heap[a]? = some cell := hcell
  have hcell' : U.heap[a]? = some cell := (hq a (Array.getElem?_eq_some_iff.mp hcell0).1).trans hcell0
  have hv : cell.slots[fd.slot]? = some cell.slots[fd.slot] := Array.getElem?_eq_getElem hlt
  have e1 : (Term.static O f d).eval A (s.setVm U.vm) none [] (s.setVm U.vm) = some cell.slots[fd.slot] := by
    simp [Term.eval, State.fieldNamed?, hf, hst, hsta, hcell0, hiss, hv]
  have e2 : (Term.static O f d).eval A' U none [] U = some cell.slots[fd.slot] := by
    simp [Term.eval, State.fieldNamed?, hf', hst, hsta, hcell', hiss, hv]
  simp only [Cond.before, Cond.holds, Cond.value, e1] at h2
  simp only [Cond.before, Cond.holds, Cond.value, e2]
  exact h2
theorem gCs_stay {a b : String} (hW : s.WarmedH U.vm) (h : (Cond.castable a b).before A s = true) : (Cond.castable a b).before A' U = true :=
  va_tabs rfl (rfl : (s.setVm U.vm).vm = U.vm) (A := A) (by rw [Cond.castable_setVm hW.alike]; exact h)
theorem gNc_stay {a b : String} (hW : s.WarmedH U.vm) (h : (Cond.not (.castable a b)).before A s = true) : (Cond.not (.castable a b)).before A' U = true := by
  simp only [Cond.before, Cond.holds, Cond.value, hW.alike.findClass, hW.alike.assignable] at h ⊢
  exact h
theorem gDc_stay {x : MethodName} (hW : s.WarmedH U.vm) (h : (Cond.declares x).before A s = true) : (Cond.declares x).before A' U = true :=
  va_tabs rfl (rfl : (s.setVm U.vm).vm = U.vm) (A := A) (by rw [Cond.declares_setVm hW.alike]; exact h)
theorem gAo_stay {ty : FieldType} (hW : s.WarmedH U.vm) (h : (Cond.arrayOver ty).before A s = true) : (Cond.arrayOver ty).before A' U = true := by
  have h1 : (Cond.arrayOver ty).before A (s.setVm U.vm) = true := by rw [Cond.arrayOver_setVmC hW.alike]; exact h
  simp only [Cond.before, Cond.holds, Cond.value, State.vm_setVm] at h1 ⊢
  exact h1
theorem gKw_stay {w : Cond} (hk : gKw w = true) (hW : s.WarmedH U.vm) (hq : ∀ q : Nat, q < s.heap.size → U.heap[q]? = s.heap[q]?) (h : w.before A s = true) : w.before A' U = true := by
  cases w with
  | castable a b => exact gCs_stay hW h
  | declares x => exact gDc_stay hW h
  | arrayOver ty => exact gAo_stay hW h
  | laysStatic c f d => exact gLs_stay hW hq h
  | _ => cases hk
theorem gXw_stay (hW : s.WarmedH U.vm) (hq : ∀ q : Nat, q < s.heap.size → U.heap[q]? = s.heap[q]?) (hts : ∀ w ∈ tables_1, w.before A s = true) (hn : ∀ w ∈ gXn, w.before A s = true) : ∀ w ∈ gXw, ∀ args : Array Value, w.before args U = true := by
  intro w hw args
  rcases List.mem_append.mp hw with h1 | h1
  · have h2 := hn w h1
    simp only [gXn, List.mem_cons, List.not_mem_nil, or_false] at h1
    rcases h1 with rfl | rfl | rfl | rfl
    · exact gIr_stay hW hq (hts _ (by decide +kernel)) h2
    · exact gIr_stay hW hq (hts _ (by decide +kernel)) h2
    · exact gNc_stay hW h2
    · exact gNc_stay hW h2
  · obtain ⟨h2, h3⟩ := List.mem_filter.mp h1
    exact gKw_stay h3 hW hq (hts w h2)
theorem gNst_stay (hW : s.WarmedH U.vm) (hts : ∀ w ∈ gNst, w.before A s = true) : ∀ w ∈ gNst, ∀ args : Array Value, w.before args U = true := by
  intro w hw args
  have h := hts w hw
  have hn : gIsN w = true := (List.mem_filter.mp hw).2
  cases w with
  | fieldLinkNest a i b n d q => exact va_Nw.use rfl (va_Nw.warmF hW (va_Nw.of rfl h))
  | methodLinkNest a i x q => exact va_Nw.use rfl (va_Nw.warmM hW (va_Nw.of rfl h))
  | _ => cases hn
end gStay
