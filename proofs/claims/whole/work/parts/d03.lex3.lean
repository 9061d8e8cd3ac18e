/-! Tokens of a formula: the loop that cuts them, and what is asked of them. -/
abbrev gTkn : Type := Int × Nat × Nat
def gTkF (c : Nat) : Nat → Nat → Prop := fun a s => (c + 17 ≤ a ∧ a ≤ c + 20) ∨ (a = c + 16 ∧ s = 5)
def gTs (ts : List gTkn) (j : Nat) : gTkn := ts.getD j (23, 0, 0)
theorem gTs_l {a b : List gTkn} {j : Nat} (h : j < a.length) : gTs (a ++ b) j = gTs a j := by
  unfold gTs
  rw [List.getD_eq_getElem?_getD, List.getD_eq_getElem?_getD, List.getElem?_append_left h]
theorem gTs_m {a : List gTkn} {t : gTkn} : gTs (a ++ [t]) a.length = t := by
  unfold gTs
  rw [List.getD_eq_getElem?_getD, List.getElem?_append_right (Nat.le_refl _), Nat.sub_self]
  rfl
theorem gTs_o {a : List gTkn} {j : Nat} (h : a.length ≤ j) : gTs a j = (23, 0, 0) := by
  unfold gTs
  rw [List.getD_eq_getElem?_getD, List.getElem?_eq_none h]
  rfl
theorem gTs_mem {a : List gTkn} {j : Nat} (h : j < a.length) : gTs a j ∈ a := by
  unfold gTs
  rw [List.getD_eq_getElem?_getD, List.getElem?_eq_getElem h]
  exact List.getElem_mem _
/-- the tokens of a formula; none: they are no tokens, or too many -/
noncomputable def gLexs (S : List Int) : Option (List gTkn) := match gLx S (S.length - 1) 1 with
  | none => none
  | some ts => if ts.length ≤ 100 then some ts else none
def gTkO (S : List Int) (t : gTkn) : Prop := t.2.1 < S.length ∧ gTn1 S t.2.1 = (t.1, t.2.2) ∧ t.1 ≠ 24
theorem gLx_ok {S : List Int} : ∀ n p ts, gLx S n p = some ts → ∀ t ∈ ts, gTkO S t ∧ p ≤ t.2.1 := by
  intro n
  induction n with
  | zero => intro p ts h t ht; cases h; cases ht
  | succ n ih =>
    intro p ts h t ht
    unfold gLx at h
    split at h
    · cases h; cases ht
    · rename_i hp
      split at h
      · have := ih (p + 1) ts h t ht
        exact ⟨this.1, by omega⟩
      · split at h
        · cases h
        · rename_i h24
          cases hq : gLx S n (gTn1 S p).2 with
          | none => rw [hq] at h; cases h
          | some us =>
            rw [hq] at h
            have h : ((gTn1 S p).1, p, (gTn1 S p).2) :: us = ts := Option.some.inj h
            rw [← h] at ht
            rcases List.mem_cons.1 ht with e | e
            · rw [e]; exact ⟨⟨Nat.lt_of_not_le hp, rfl, h24⟩, Nat.le_refl _⟩
            · have := ih _ us hq t e
              refine ⟨this.1, Nat.le_trans ?_ this.2⟩
              unfold gTn1
              split
              · exact Nat.le_trans (Nat.le_succ p) (Nat.le_trans (gQuo_le S _ _).1 (Nat.le_succ _))
              · split
                · exact (gRun_le S _ _).1
                · repeat' split
                  all_goals (dsimp only; omega)
theorem gLexs_ok {S : List Int} {ts : List gTkn} (h : gLexs S = some ts) : ts.length ≤ 100 ∧ ∀ t ∈ ts, gTkO S t ∧ 1 ≤ t.2.1 := by
  unfold gLexs at h
  split at h
  · cases h
  · rename_i us e
    split at h
    · cases h; exact ⟨by assumption, gLx_ok _ _ _ e⟩
    · cases h
def gTkW (M : gM) (c : Nat) (S : List Int) (ts : List gTkn) : Prop := M (c + 16) 5 = (ts.length : Int) ∧ ∀ j, j < ts.length → M (c + 17) j = (gTs ts j).1 ∧ M (c + 18) j = ((gTs ts j).2.1 : Int) ∧ M (c + 19) j = ((gTs ts j).2.2 : Int) ∧ ((gTs ts j).1 = 19 → M (c + 20) j = gPl S (gTs ts j).2.1 (gTs ts j).2.2)
/-- the tokens lie in the class's tables -/
def gTkR (M : gM) (c : Nat) (S : List Int) (ts : List gTkn) : Prop := gTkW M c S ts ∧ ∀ j, ts.length ≤ j → j < ts.length + 4 → M (c + 17) j = 23
theorem gTkW.snoc {M M2 : gM} {c : Nat} {S : List Int} {a : List gTkn} {t : gTkn} (h : gTkW M c S a) (e : ∀ x j, c + 17 ≤ x → x ≤ c + 20 → j < a.length → M2 x j = M x j) (h1 : M2 (c + 16) 5 = (a.length : Int) + 1) (h2 : M2 (c + 17) a.length = t.1 ∧ M2 (c + 18) a.length = (t.2.1 : Int) ∧ M2 (c + 19) a.length = (t.2.2 : Int) ∧ (t.1 = 19 → M2 (c + 20) a.length = gPl S t.2.1 t.2.2)) : gTkW M2 c S (a ++ [t]) := by
  refine ⟨by rw [h1, List.length_append]; rfl, fun j hj => ?_⟩
  rw [List.length_append] at hj
  by_cases q : j = a.length
  · rw [q, gTs_m]; exact h2
  · have q : j < a.length := by have : j < a.length + 1 := hj; omega
    rw [gTs_l q, e _ _ (by omega) (by omega) q, e _ _ (by omega) (by omega) q, e _ _ (by omega) (by omega) q, e _ _ (by omega) (by omega) q]
    exact h.2 j q
theorem gIteQ {p : Prop} {i : Decidable p} {a b : Int} (ha : a ≠ 19) (hb : b ≠ 19) : ite p a b ≠ 19 := by
  split
  · exact ha
  · exact hb
theorem gSgk_19 (x : Int) : gSgk x ≠ 19 := by
  unfold gSgk
  repeat (refine gIteQ (by decide) ?_)
  decide
section gdC
variable {l : Launch} {G : gG} {d : Nat} {X : gX} {M : gM} {c : Nat} {Q : gQ} {S : List Int}
theorem gOff.inp {M2 : gM} {A : Nat → Nat → Prop} (h : gOff A M M2) (hI : gInp M c S) (n : ∀ j, ¬ A (c + 1) j) : gInp M2 c S := hI.kp (fun j => h (c + 1) j (n j))
theorem gTkF_1 {j : Nat} : ¬ gTkF c (c + 1) j := by unfold gTkF; omega
theorem gLx_24 {p n : Nat} (h : ¬ S.length ≤ p) (h2 : S.getD p 0 ≠ 32) : gLx S (n + 1) p = if (gTn1 S p).1 = 24 then none else (gLx S n (gTn1 S p).2).map (fun ts => ((gTn1 S p).1, p, (gTn1 S p).2) :: ts) := by
  show (if S.length ≤ p then _ else if S.getD p 0 = 32 then _ else _) = _
  rw [if_neg h, if_neg h2]
theorem c_Tk_cut {k : Int → gM → Prop} (hX : glX X c) (hO : gOld G Q) (hI : gInp M c S) (hl1 : 1 ≤ S.length) (h0 : gLexs S = none → ∀ M2, gOff (gTkF c) M M2 → k 0 M2) (h1 : ∀ ts, gLexs S = some ts → ∀ M2, gOff (gTkF c) M M2 → gTkR M2 c S ts → k 1 M2) : cZ l G y_Tk_cut (gRm (d + 8)) true [gR G (c + 16), gI 1, gI (S.length : Int)] X M k := by
  have hl := hI.2.1
  have gl : g32 (S.length : Int) := ⟨by omega, by omega⟩
  have last : ∀ (acc : List gTkn), acc.length ≤ 100 → gLx S (S.length - 1) 1 = some acc → ∀ (r j : Nat) (M2 : gM), gOff (gTkF c) M M2 → gTkW M2 c S acc → j + r = acc.length + 4 → acc.length ≤ j → (∀ i, acc.length ≤ i → i < j → M2 (c + 17) i = 23) → wp l G y_Tk_cut (gRm (d + 8)) true (kkZ X k) true 158 [.val (gR G (c + 16)), .unset, .unset, .unset, .val (gI (j : Int))] [] X M2 0 0 := by
    intro acc ha hx r
    have hL : gLexs S = some acc := by unfold gLexs; rw [hx]; exact if_pos ha
    induction r with
    | zero =>
      intro j M2 hoff hW hj hj2 hr
      refine w_Tk_cut_158 (d := d + 7) hX ⟨by omega, by omega⟩ ?_
      rw [hW.1, w32_id (x := (acc.length : Int) + 4) ⟨by omega, by omega⟩]
      exact fun _ => ⟨fun _ => h1 acc hL M2 hoff ⟨hW, fun i i1 i2 => hr i i1 (by omega)⟩, fun z => absurd (by omega) z⟩
    | succ r ih =>
      intro j M2 hoff hW hj hj2 hr
      refine w_Tk_cut_158 (d := d + 7) hX ⟨by omega, by omega⟩ ?_
      rw [hW.1, w32_id (x := (acc.length : Int) + 4) ⟨by omega, by omega⟩, Int.toNat_natCast, w32_id (x := (j : Int) + 1) ⟨by omega, by omega⟩, show (j : Int) + 1 = ((j + 1 : Nat) : Int) by omega]
      refine fun _ => ⟨fun z => absurd z (by omega), fun _ => ⟨⟨by omega, by omega⟩, ih (j + 1) _ (hoff.up (Or.inl ⟨by omega, by omega⟩)) ⟨?_, fun i hi => ?_⟩ (by omega) (by omega) (fun i i1 i2 => ?_)⟩⟩
      · rw [gUp_a (by omega)]; exact hW.1
      · rw [gUp_k (by omega), gUp_a (by omega), gUp_a (by omega), gUp_a (by omega)]; exact hW.2 i hi
      · by_cases q : i = j
        · rw [q, gUp_eq]
        · rw [gUp_k q]; exact hr i i1 (by omega)
  have key : ∀ (m p : Nat) (acc : List gTkn) (M2 : gM), S.length ≤ p + m → m ≤ 240 → p ≤ S.length + 1 → gOff (gTkF c) M M2 → gTkW M2 c S acc → acc.length ≤ 100 → gLx S (S.length - 1) 1 = (gLx S m p).map (fun ts => acc ++ ts) → wp l G y_Tk_cut (gRm (d + 8)) true (kkZ X k) true 12 [.val (gR G (c + 16)), .unset, .val (gI (S.length : Int)), .val (gI (p : Int)), .val (gI (m : Int))] [] X M2 0 0 := by
    intro m
    induction m with
    | zero =>
      intro p acc M2 hp hm hp2 hoff hW ha hx
      have hx : gLx S (S.length - 1) 1 = some acc := by rw [hx, show gLx S 0 p = some [] from rfl, Option.map_some, List.append_nil]
      refine w_Tk_cut_12 (d := d + 7) hX gl ⟨by omega, by omega⟩ ⟨by omega, by omega⟩ ⟨fun _ _ => ?_, fun z => absurd (by omega) z⟩
      rw [hW.1]
      exact last acc ha hx 4 acc.length M2 hoff hW rfl (Nat.le_refl _) (fun i i1 i2 => by omega)
    | succ m ih =>
      intro p acc M2 hp hm hp2 hoff hW ha hx
      refine w_Tk_cut_12 (d := d + 7) hX gl ⟨by omega, by omega⟩ ⟨by omega, by omega⟩ ⟨fun z => absurd z (by omega), fun _ => ⟨fun z _ => ?_, fun z => ⟨⟨by omega, by omega⟩, fun _ => ?_⟩⟩⟩
      · have hx : gLx S (S.length - 1) 1 = some acc := by
          rw [hx]
          unfold gLx
          rw [if_pos (by omega), Option.map_some, List.append_nil]
        rw [hW.1]
        exact last acc ha hx 4 acc.length M2 hoff hW rfl (Nat.le_refl _) (fun i i1 i2 => by omega)
      have hI2 : gInp M2 c S := hoff.inp hI (fun _ => gTkF_1)
      obtain ⟨eB, b1, b2⟩ := hI2.b (j := p) (by omega)
      have hn := hW.1
      have aft : S.getD p 0 ≠ 32 → acc.length < 100 → ∀ (v : Nat) (M1 : gM), v = (gTn1 S p).2 → p < v → v ≤ S.length + 1 → gOff (gTkF c) M M1 → M1 (c + 16) 5 = (acc.length : Int) → (∀ x j, c + 17 ≤ x → x ≤ c + 20 → j < acc.length → M1 x j = M2 x j) → M1 (c + 17) acc.length = (gTn1 S p).1 → M1 (c + 18) acc.length = (p : Int) → ((gTn1 S p).1 = 19 → M1 (c + 20) acc.length = gPl S p v) → (g32 (M1 (c + 16) 5) → (((0 : Int) ≤ M1 (c + 16) 5 ∧ M1 (c + 16) 5 < 104) ∧ (g32 ((gUp M1 (c + 19) (Int.toNat (M1 (c + 16) 5)) (v : Int)) (c + 16) 5) → (((0 : Int) ≤ (gUp M1 (c + 19) (Int.toNat (M1 (c + 16) 5)) (v : Int)) (c + 16) 5 ∧ (gUp M1 (c + 19) (Int.toNat (M1 (c + 16) 5)) (v : Int)) (c + 16) 5 < 104) ∧ (g32 ((gUp M1 (c + 19) (Int.toNat (M1 (c + 16) 5)) (v : Int)) (c + 17) (Int.toNat ((gUp M1 (c + 19) (Int.toNat (M1 (c + 16) 5)) (v : Int)) (c + 16) 5))) → ((¬ (gUp M1 (c + 19) (Int.toNat (M1 (c + 16) 5)) (v : Int)) (c + 17) (Int.toNat ((gUp M1 (c + 19) (Int.toNat (M1 (c + 16) 5)) (v : Int)) (c + 16) 5)) = 24 → (g32 ((gUp M1 (c + 19) (Int.toNat (M1 (c + 16) 5)) (v : Int)) (c + 16) 5) → (wp l G y_Tk_cut (gRm (d + 8)) true (kkZ X k) true 12 [.val (gR G (c + 16)), .unset, .val (gI (S.length : Int)), .val (gI (v : Int)), .val (gI (w32 (((m + 1 : Nat) : Int) + (-1))))] [] X (gUp (gUp M1 (c + 19) (Int.toNat (M1 (c + 16) 5)) (v : Int)) (c + 16) 5 (w32 (((gUp M1 (c + 19) (Int.toNat (M1 (c + 16) 5)) (v : Int)) (c + 16) 5) + 1))) 0 0))) ∧ ((gUp M1 (c + 19) (Int.toNat (M1 (c + 16) 5)) (v : Int)) (c + 17) (Int.toNat ((gUp M1 (c + 19) (Int.toNat (M1 (c + 16) 5)) (v : Int)) (c + 16) 5)) = 24 → (k 0 (gUp M1 (c + 19) (Int.toNat (M1 (c + 16) 5)) (v : Int)))))))))) := by
        intro h32 hlt v M1 ev v1 v2 off1 n1 r1 r2 r3 r4
        rw [gLx_24 (by omega) h32, ← ev] at hx
        simp (disch := omega) only [gUp_eq, gUp_a, gUp_k, n1, Int.toNat_natCast, r2]
        rw [w32_id (x := (acc.length : Int) + 1) ⟨by omega, by omega⟩, show w32 (((m + 1 : Nat) : Int) + (-1)) = (m : Int) from (w32_id ⟨by omega, by omega⟩).trans (by omega)]
        refine fun _ => ⟨⟨by omega, by omega⟩, fun _ => ⟨⟨by omega, by omega⟩, fun _ => ⟨fun z _ => ?_, fun z => ?_⟩⟩⟩
        · rw [if_neg z] at hx
          refine ih v (acc ++ [((gTn1 S p).1, p, v)]) _ (by omega) (by omega) v2 ((off1.up (Or.inl ⟨by omega, by omega⟩)).up (Or.inr ⟨rfl, rfl⟩)) (hW.snoc ?_ ?_ ⟨?_, ?_, ?_, fun q => ?_⟩) ?_ ?_
          · intro x j x1 x2 hj
            rw [gUp_a (by omega)]
            by_cases q : x = c + 19
            · rw [q, gUp_k (by omega)]; exact r1 _ _ (by omega) (by omega) hj
            · rw [gUp_a q]; exact r1 _ _ x1 x2 hj
          · rw [gUp_eq]
          · rw [gUp_a (by omega), gUp_a (by omega)]; exact r2
          · rw [gUp_a (by omega), gUp_a (by omega)]; exact r3
          · rw [gUp_a (by omega), gUp_eq]
          · rw [gUp_a (by omega), gUp_a (by omega)]; exact r4 q
          · rw [List.length_append]; exact hlt
          · rw [hx, Option.map_map]
            congr 1
            funext ts
            show acc ++ ((gTn1 S p).1, p, v) :: ts = acc ++ [((gTn1 S p).1, p, v)] ++ ts
            rw [List.append_assoc]
            rfl
        · rw [if_pos z] at hx
          refine h0 ?_ _ (off1.up (Or.inl ⟨by omega, by omega⟩))
          unfold gLexs
          rw [hx]
          rfl
      rw [Int.toNat_natCast, eB, hn, Int.toNat_natCast, w32_id (x := (p : Int) + 1) ⟨by omega, by omega⟩, show w32 (((m + 1 : Nat) : Int) + (-1)) = (m : Int) from (w32_id ⟨by omega, by omega⟩).trans (by omega), show (p : Int) + 1 = ((p + 1 : Nat) : Int) by omega]
      rw [show w32 (((m + 1 : Nat) : Int) + (-1)) = (m : Int) from (w32_id ⟨by omega, by omega⟩).trans (by omega)] at aft
      refine ⟨fun h32 _ => ⟨fun h100 _ => ⟨⟨by omega, by omega⟩, ⟨by omega, by omega⟩, fun _ => ?_⟩, fun h100 => ?_⟩, fun h32 => ih (p + 1) acc M2 (by omega) (by omega) (by omega) hoff hW ha ?_⟩
      · have hlt : acc.length < 100 := by omega
        have aft := aft h32 hlt
        have off3 : gOff (gTkF c) M (gUp M2 (c + 18) acc.length (p : Int)) := hoff.up (Or.inl ⟨by omega, by omega⟩)
        have hI3 := off3.inp hI (fun _ => gTkF_1)
        rw [gUp_a (by omega), eB]
        refine ⟨fun h34 => ⟨⟨by omega, by omega⟩, fun _ => c_Tk_isWordByte (d := d + 6) ⟨by omega, by omega⟩ (fun hw => ⟨fun y => absurd y (by decide), fun _ => ?_⟩) (fun hw => ⟨fun _ => ?_, fun y => absurd rfl y⟩)⟩, fun h34 => ?_⟩
        · have et : gTn1 S p = (gWd S p (gRun S (S.length - p) p), gRun S (S.length - p) p) := by unfold gTn1; rw [if_neg h34, if_pos hw]
          have rn : p < gRun S (S.length - p) p := by
            rw [show S.length - p = S.length - p - 1 + 1 by omega]
            unfold gRun
            rw [if_pos ⟨by omega, hw⟩]
            exact (gRun_le S _ (p + 1)).1
          rw [et] at aft
          refine c_Tk_takeWord (d := d) hX hO hI3 (by omega) hw (by rw [gUp_a (by omega)]; exact hn) (by omega) (aft _ _ rfl rn (Nat.le_succ_of_le ((gRun_le S _ p).2 (by omega))) ((off3.up (Or.inl ⟨by omega, by omega⟩)).up (Or.inl ⟨by omega, by omega⟩)) ?_ ?_ ?_ ?_ ?_)
          · rw [gUp_a (by omega), gUp_a (by omega), gUp_a (by omega)]; exact hn
          · intro x j x1 x2 hj
            by_cases q1 : x = c + 17
            · rw [q1, gUp_k (by omega), gUp_a (by omega), gUp_a (by omega)]
            · rw [gUp_a q1]
              by_cases q2 : x = c + 20
              · rw [q2, gUp_k (by omega), gUp_a (by omega)]
              · rw [gUp_a q2]
                by_cases q3 : x = c + 18
                · rw [q3, gUp_k (by omega)]
                · rw [gUp_a q3]
          · rw [gUp_eq]
          · rw [gUp_a (by omega), gUp_a (by omega), gUp_eq]
          · intro _
            rw [gUp_a (by omega), gUp_eq]
        · have et : (gTn1 S p).2 = p + 1 ∨ (gTn1 S p).2 = p + 2 ∧ p + 1 < S.length := by
            unfold gTn1
            rw [if_neg h34, if_neg hw]
            have e0 : ∀ z : Int, z ≠ 0 → gSn S p = z → p + 1 < S.length := fun z hz e => by
              unfold gSn at e
              split at e
              · assumption
              · exact absurd e.symm hz
            split
            · rename_i q; exact Or.inr ⟨rfl, e0 _ (by decide) q.2⟩
            · split
              · rename_i q; exact Or.inr ⟨rfl, e0 _ (by decide) q.2⟩
              · split
                · rename_i q; exact Or.inr ⟨rfl, e0 _ (by decide) q.2⟩
                · exact Or.inl rfl
          refine c_Tk_takeSign (d := d + 6) hX hI3 (by omega) h34 hw (by rw [gUp_a (by omega)]; exact hn) (by omega) (aft _ _ rfl (by omega) (by omega) (off3.up (Or.inl ⟨by omega, by omega⟩)) ?_ ?_ ?_ ?_ ?_)
          · rw [gUp_a (by omega), gUp_a (by omega)]; exact hn
          · intro x j x1 x2 hj
            by_cases q1 : x = c + 17
            · rw [q1, gUp_k (by omega), gUp_a (by omega)]
            · rw [gUp_a q1]
              by_cases q3 : x = c + 18
              · rw [q3, gUp_k (by omega)]
              · rw [gUp_a q3]
          · rw [gUp_eq]
          · rw [gUp_a (by omega), gUp_eq]
          · intro q
            exfalso
            revert q
            unfold gTn1
            rw [if_neg h34, if_neg hw]
            have := gSgk_19 (S.getD p 0)
            split
            · exact fun q => absurd (show (1 : Int) = 19 from q) (by decide)
            · split
              · exact fun q => absurd (show (3 : Int) = 19 from q) (by decide)
              · split
                · exact fun q => absurd (show (5 : Int) = 19 from q) (by decide)
                · exact this
        · have et : gTn1 S p = (if gQuo S (S.length - p) (p + 1) < S.length ∧ gQuo S (S.length - p) (p + 1) - p - 1 ≤ 64 then 18 else 24, gQuo S (S.length - p) (p + 1) + 1) := by unfold gTn1; rw [if_pos h34]
          have q1 := gQuo_le S (S.length - p) (p + 1)
          rw [et] at aft
          refine c_Tk_takeString (d := d + 7) hX hI3 (by omega) (by rw [gUp_a (by omega)]; exact hn) (by omega) (aft _ _ rfl (by omega) (by omega) (off3.up (Or.inl ⟨by omega, by omega⟩)) ?_ ?_ ?_ ?_ ?_)
          · rw [gUp_a (by omega), gUp_a (by omega)]; exact hn
          · intro x j x1 x2 hj
            by_cases q1 : x = c + 17
            · rw [q1, gUp_k (by omega), gUp_a (by omega)]
            · rw [gUp_a q1]
              by_cases q3 : x = c + 18
              · rw [q3, gUp_k (by omega)]
              · rw [gUp_a q3]
          · rw [gUp_eq]
          · rw [gUp_a (by omega), gUp_eq]
          · intro q
            exfalso
            revert q
            dsimp only
            split
            · exact (by decide)
            · exact (by decide)
      · refine h0 ?_ _ hoff
        unfold gLexs
        rw [hx, gLx_24 (by omega) h32]
        split
        · rfl
        · rename_i us e
          rw [if_neg]
          split at e
          · cases e
          · cases hq : gLx S m (gTn1 S p).2 with
            | none => rw [hq] at e; cases e
            | some vs =>
              rw [hq] at e
              have e := Option.some.inj e
              rw [← e, List.length_append]
              show ¬ acc.length + (vs.length + 1) ≤ 100
              omega
      · rw [hx]
        congr 1
        show (if S.length ≤ p then _ else if S.getD p 0 = 32 then _ else _) = _
        rw [if_neg (by omega), if_pos h32]
  refine e_Tk_cut (w_Tk_cut_0 (d := d + 7) hX (g32_c rfl) gl ?_)
  rw [w32_id (x := (S.length : Int) - 1) ⟨by omega, by omega⟩, show (S.length : Int) - 1 = ((S.length - 1 : Nat) : Int) by omega, show (1 : Int) = ((1 : Nat) : Int) from rfl]
  refine key (S.length - 1) 1 [] _ (by omega) (by omega) (by omega) ((gOff.rf _ _).up (Or.inr ⟨rfl, rfl⟩)) ⟨gUp_eq _ _ _ _, fun j hj => absurd hj (Nat.not_lt_zero _)⟩ (by decide) ?_
  cases gLx S (S.length - 1) 1 with
  | none => rfl
  | some ts => rfl
end gdC
