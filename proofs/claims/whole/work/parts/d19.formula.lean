/-! The class's Reader: a formula. -/
def gBg (M : gM) (c id : Nat) (sort : Int) (cs rf : Nat) : gM := gUp (gUp (gUp (gUp M (c + 3) id sort) (c + 4) id (cs : Int)) (c + 6) id (rf : Int)) (c + 8) id 0
def gFn (M : gM) (c id cs n : Nat) : gM := gUp (gUp (gUp M (c + 5) id (cs : Int)) (c + 7) id (n : Int)) (c + 2) 11 ((id + 1 : Nat) : Int)
def gSe (M : gM) (c id cs R0 : Nat) : gM := gEm (gUp (gUp (gUp M (c + 2) 12 (cs : Int)) (c + 2) 13 (R0 : Int)) (c + 8) id 0) c cs 3 1
section gdT
variable {l : Launch} {G : gG} {d : Nat} {X : gX} {M : gM} {c : Nat} {Q : gQ} {S : List Int} {ts : List gTkn} {id R0 : Nat}
theorem c_Cn_begin {cs rf : Nat} {x : Int} {k : gM → Prop} (hX : glX X c) (hx : g32 x) (hid : M (c + 2) 11 = (id : Int)) (hid2 : id < 513) (hcs : M (c + 2) 12 = (cs : Int)) (hrf : M (c + 2) 13 = (rf : Int)) (h : k (gBg M c id x cs rf)) : cV l G y_Cn_begin (gRm d) true [gR G (c + 2), gI x] X M k := by
  refine e_Cn_begin (w_Cn_begin_0 hX hx ?_)
  simp (disch := omega) only [gUp_eq, gUp_a, gUp_k, hid, hcs, hrf, Int.toNat_natCast]
  have b : (0 : Int) ≤ (id : Int) ∧ (id : Int) < 513 := ⟨by omega, by omega⟩
  exact fun _ => ⟨b, fun _ _ => ⟨b, fun _ _ => ⟨b, fun _ => ⟨b, h⟩⟩⟩⟩
theorem c_Cn_finish {cs n : Nat} {k : Int → gM → Prop} (hX : glX X c) (hid : M (c + 2) 11 = (id : Int)) (hid2 : id < 513) (hcs : M (c + 2) 12 = (cs : Int)) (hrf : M (c + 2) 13 = ((R0 + n : Nat) : Int)) (hR : M (c + 6) id = (R0 : Int)) (hn : n ≤ 100000) (h : k (id : Int) (gFn M c id cs n)) : cI l G y_Cn_finish (gRm d) true [gR G (c + 2)] X M k := by
  refine e_Cn_finish (w_Cn_finish_0 hX ?_)
  simp (disch := omega) only [gUp_eq, gUp_a, gUp_k, hid, hcs, hrf, hR, Int.toNat_natCast]
  rw [w32_id (x := ((R0 + n : Nat) : Int) - (R0 : Int)) ⟨by omega, by omega⟩, w32_id (x := (id : Int) + 1) ⟨by omega, by omega⟩, show ((R0 + n : Nat) : Int) - (R0 : Int) = (n : Int) by omega, w32_id (x := (id : Int) + 1 - 1) ⟨by omega, by omega⟩, show (id : Int) + 1 - 1 = (id : Int) by omega]
  have b : (0 : Int) ≤ (id : Int) ∧ (id : Int) < 513 := ⟨by omega, by omega⟩
  exact fun _ _ => ⟨b, fun _ _ _ => ⟨b, fun _ => ⟨b, fun _ _ => h⟩⟩⟩
theorem c_Cn_syntax {cs : Nat} {k : gM → Prop} (hX : glX X c) (hid : M (c + 2) 11 = (id : Int)) (hid2 : id < 513) (hcs : M (c + 4) id = (cs : Int)) (hc : cs < 10480) (hR : M (c + 6) id = (R0 : Int)) (h : k (gSe M c id cs R0)) : cV l G y_Cn_becomeSyntaxError (gRm (d + 1)) true [gR G (c + 2)] X M k := by
  refine e_Cn_becomeSyntaxError (w_Cn_becomeSyntaxError_0 hX ?_)
  simp (disch := omega) only [gUp_eq, gUp_a, gUp_k, hid, hcs, hR, Int.toNat_natCast]
  have b : (0 : Int) ≤ (id : Int) ∧ (id : Int) < 513 := ⟨by omega, by omega⟩
  refine fun _ => ⟨b, fun _ _ => ⟨b, fun _ _ => ⟨b, c_Cn_emit hX (g32_c rfl) (g64_32 (g32_c rfl)) ?_ hc h⟩⟩⟩
  rw [gUp_a (by omega), gUp_k (by decide), gUp_eq]
def gTot : List gTkn → Nat
  | [] => 0
  | t :: ts => (t.2.2 - t.2.1) + gTot ts
theorem gTln_cons (t : gTkn) (ts : List gTkn) : ∀ a, gTln (t :: ts) (a + 1) = (t.2.2 - t.2.1) + gTln ts a := by
  intro a
  induction a with
  | zero => show 0 + (t.2.2 - t.2.1) = (t.2.2 - t.2.1) + 0; omega
  | succ a ih =>
    show gTln (t :: ts) (a + 1) + ((gTs ts a).2.2 - (gTs ts a).2.1) = (t.2.2 - t.2.1) + (gTln ts a + ((gTs ts a).2.2 - (gTs ts a).2.1))
    rw [ih]
    omega
theorem gTln_tot : ∀ (ts : List gTkn) (a : Nat), gTln ts a ≤ gTot ts := by
  intro ts
  induction ts with
  | nil =>
    intro a
    induction a with
    | zero => exact Nat.le_refl _
    | succ a ih => exact ih
  | cons t ts ih =>
    intro a
    cases a with
    | zero => exact Nat.zero_le _
    | succ a =>
      rw [gTln_cons]
      exact Nat.add_le_add_left (ih a) _
theorem gLx_tot : ∀ (n p : Nat) (ts : List gTkn), gLx S n p = some ts → p ≤ S.length → p + gTot ts ≤ S.length := by
  intro n
  induction n with
  | zero => intro p ts h hp; cases h; exact hp
  | succ n ih =>
    intro p ts h hp
    have h0 := h
    unfold gLx at h
    split at h
    · cases h; exact hp
    · split at h
      · have := ih (p + 1) ts h (by omega)
        omega
      · split at h
        · cases h
        · cases hq : gLx S n (gTn1 S p).2 with
          | none => rw [hq] at h; cases h
          | some us =>
            rw [hq] at h
            have h : ((gTn1 S p).1, p, (gTn1 S p).2) :: us = ts := Option.some.inj h
            subst h
            have ok := gTkO_k (gLx_ok _ _ _ h0 _ List.mem_cons_self).1
            have ok : _ ∧ _ ∧ p < (gTn1 S p).2 ∧ (gTn1 S p).2 ≤ S.length := ok
            have := ih _ us hq ok.2.2.2
            show p + ((gTn1 S p).2 - p + gTot us) ≤ S.length
            omega
theorem gTot_len : ∀ ts : List gTkn, (∀ t ∈ ts, t.2.1 < t.2.2) → ts.length ≤ gTot ts := by
  intro ts
  induction ts with
  | nil => intro _; exact Nat.le_refl _
  | cons t ts ih =>
    intro h
    have h1 := h t List.mem_cons_self
    have := ih (fun x hx => h x (List.mem_cons_of_mem _ hx))
    show ts.length + 1 ≤ (t.2.2 - t.2.1) + gTot ts
    omega
theorem gLexs_tot (h : gLexs S = some ts) (hl : 1 ≤ S.length) : gTot ts + 1 ≤ S.length ∧ ts.length + 1 ≤ S.length := by
  have ok := gLexs_ok h
  have t1 : 1 + gTot ts ≤ S.length := by
    unfold gLexs at h
    split at h
    · cases h
    · rename_i us e
      split at h
      · cases h
        exact gLx_tot _ _ _ e hl
      · cases h
  have := gTot_len ts (fun t ht => (gTkO_k (ok.2 t ht).1).2.2.1)
  omega
theorem gC_all (hX : glX X c) (hO : gOld G Q) (hts : ts.length ≤ 100) (hto : ∀ t ∈ ts, gTkO S t ∧ 1 ≤ t.2.1) (hln : ∀ x, gTln ts x ≤ 240) (hid : id < 513) : ∀ n, gC0 l G X c S ts id R0 n ∧ gC1 l G X c S ts id R0 n ∧ gC2 l G X c S ts id R0 n ∧ gC3 l G X c S ts id R0 n ∧ gC4 l G X c S ts id R0 n ∧ gC5 l G X c S ts id R0 n ∧ gC6 l G X c Q S ts id R0 n ∧ gC7 l G X c S ts id R0 n := by
  intro n
  induction n with
  | zero =>
    refine ⟨?_, ?_, ?_, ?_, ?_, ?_, ?_, ?_⟩
    · intro d M k D a cs bs rs _ h; exact absurd h (by omega)
    · intro d M k D a cs bs rs _ h; exact absurd h (by omega)
    · intro d M k D a cs bs cb x2 rs e _ h; exact absurd h (by omega)
    · intro d M k w D a cs bs rs _ h; exact absurd h (by omega)
    · intro d M k w D a cs bs cb x3 rs e _ h; exact absurd h (by omega)
    · intro d M k w D a cs bs rs _ h; exact absurd h (by omega)
    · intro d M k w D b ab cs bs rs es x5 _ _ _ _ _ _ h; exact absurd h (by omega)
    · intro d M kk w i D1 ab cs bs rs _ _ _ _ _ _ h; exact absurd h (by omega)
  | succ n ih =>
    obtain ⟨i0, i1, i2, i3, i4, i5, i6, i7⟩ := ih
    exact ⟨gC0_step hX hO hts hto hln hid i3 i5, gC1_step hX hts hto i0 i1 i2, gC2_step hX hts i2, gC3_step hX hO hts hto i1 i4, gC4_step hX hO hts hto i3 i4, gC5_step hX hO hts hto i6, gC6_step hX hO hts hto i6 i7, gC7_step hX hO hts hto hid i3⟩
/-- what a formula's bytes are: its tree and its refs; none: SYNTAX -/
noncomputable def gForm (S : List Int) : Option (gEx × List gRf) := match gLexs S with
  | none => none
  | some ts => match gPs S ts 303 3 1 0 (.num 0) 0 [] with
    | none => none
    | some (e, a, rs) => if gTK ts a = 23 then some (e, rs) else none
end gdT
