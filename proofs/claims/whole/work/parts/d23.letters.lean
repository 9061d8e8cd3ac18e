/-! The reference: letters of a formula; spells. -/
/-- the bytes S lie in the reference's letters at L -/
def gInm (M : gM) (o L : Nat) (S : List Int) : Prop := (∀ j, j < S.length → M (o + 1) (L + j) = S.getD j 0) ∧ S.length ≤ 240 ∧ L + S.length ≤ 90000 ∧ ∀ b ∈ S, 32 ≤ b ∧ b ≤ 126
section gdX
variable {l : Launch} {G : gG} {d : Nat} {X : gX} {M M2 : gM} {o L : Nat} {Q : gQ} {S : List Int}
theorem gInm.b {j : Nat} (h : gInm M o L S) (hj : j < S.length) : M (o + 1) (L + j) = S.getD j 0 ∧ 32 ≤ S.getD j 0 ∧ S.getD j 0 ≤ 126 := by
  refine ⟨h.1 j hj, ?_⟩
  refine h.2.2.2 _ ?_
  rw [List.getD_eq_getElem?_getD, List.getElem?_eq_getElem hj]
  exact List.getElem_mem _
theorem gInm.sub {p q : Nat} (h : gInm M o L S) (hq : q ≤ S.length) : gBy M (o + 1) (L + p) (q - p) = gSbs S p q := gBy_Sub h.1 hq
theorem gInm.kp (h : gInm M o L S) (e : ∀ j, M2 (o + 1) j = M (o + 1) j) : gInm M2 o L S := ⟨fun j hj => (e _).trans (h.1 j hj), h.2⟩
theorem r_spellsS {p q tt : Nat} {k : Int → gM → Prop} (hX : gmX X o) (hO : gOld G Q) (hI : gInm M o L S) (hpq : p ≤ q ∧ q ≤ S.length) (htt : tt < 66) (h1 : gSbs S p q = gSby.getD tt [] → k 1 M) (h0 : gSbs S p q ≠ gSby.getD tt [] → k 0 M) : cZ l G y_GM_spells (gRm (d + 5)) false [gR G o, gI ((L + p : Nat) : Int), gI ((L + q : Nat) : Int), .ref (Q.2.1 tt)] X M k := by
  have hl := hI.2.1
  have hl2 := hI.2.2.1
  have gq : g32 ((L + q : Nat) : Int) := ⟨by omega, by omega⟩
  have gp : g32 ((L + p : Nat) : Int) := ⟨by omega, by omega⟩
  have sl := gSl_ok htt
  have ed : w32 (((L + q : Nat) : Int) - ((L + p : Nat) : Int)) = ((q - p : Nat) : Int) := (w32_id ⟨by omega, by omega⟩).trans (by omega)
  have key : q - p = gSl tt → ∀ (m j : Nat), j + m = gSl tt → (∀ i, i < j → S.getD (p + i) 0 = gSc tt i) → wp l G y_GM_spells (gRm (d + 5)) false (kkZ X k) false 15 [.val (gR G o), .val (gI ((L + p : Nat) : Int)), .val (gI ((L + q : Nat) : Int)), .val (.ref (Q.2.1 tt)), .val (gI (j : Int))] [] X M 0 0 := by
    intro el m
    induction m with
    | zero =>
      intro j hj ha
      refine w_GM_spells_15 hX hO gp gq ⟨by omega, by omega⟩ htt ?_
      rw [ed]
      refine ⟨fun _ => h1 ?_, fun z => absurd (by omega) z⟩
      apply List.ext_getElem?
      intro i
      by_cases hi : i < q - p
      · have e1 := gSbs_get (S := S) (p := p) (q := q) (j := i) hpq.2 hi
        have e2 := ha i (by omega)
        have e3 : gSc tt i = (gSby.getD tt []).getD i 0 := rfl
        have l1 : i < (gSbs S p q).length := by rw [gSbs_len hpq.2]; exact hi
        have l2 : i < (gSby.getD tt []).length := by show i < gSl tt; omega
        rw [List.getD_eq_getElem?_getD, List.getElem?_eq_getElem l1] at e1
        rw [e3, List.getD_eq_getElem?_getD (l := gSby.getD tt []), List.getElem?_eq_getElem l2] at e2
        rw [List.getElem?_eq_getElem l1, List.getElem?_eq_getElem l2]
        exact congrArg some (e1.trans e2)
      · rw [List.getElem?_eq_none (by rw [gSbs_len hpq.2]; omega), List.getElem?_eq_none (by show gSl tt ≤ i; omega)]
    | succ m ih =>
      intro j hj ha
      obtain ⟨eB, b1, b2⟩ := hI.b (j := p + j) (by omega)
      refine w_GM_spells_15 hX hO gp gq ⟨by omega, by omega⟩ htt ?_
      rw [ed, show (((L + p : Nat) : Int) + (j : Int)).toNat = L + (p + j) by omega, eB, Int.toNat_natCast, w32_id (x := (j : Int) + 1) ⟨by omega, by omega⟩, show (j : Int) + 1 = ((j + 1 : Nat) : Int) by omega]
      refine ⟨fun z => absurd z (by omega), fun _ => ⟨⟨by omega, by omega⟩, fun _ => ⟨⟨by omega, by omega⟩, fun z => ih (j + 1) (by omega) (fun i hi => ?_), fun z => h0 (fun e => z ?_)⟩⟩⟩
      · by_cases e : i = j
        · rw [e]; exact z
        · exact ha i (by omega)
      · rw [← gSbs_get (p := p) (q := q) hpq.2 (by omega), e]
        rfl
  refine e_GM_spells (Q := Q) (w_GM_spells_0 hX hO gp gq htt ?_)
  rw [ed]
  refine ⟨fun z => key (by omega) (gSl tt) 0 (by omega) (fun i hi => absurd hi (by omega)), fun z => h0 (fun e => z ?_)⟩
  have := congrArg List.length e
  rw [gSbs_len hpq.2] at this
  have : q - p = gSl tt := this
  omega
end gdX
