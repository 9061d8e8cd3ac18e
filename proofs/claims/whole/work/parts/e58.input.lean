/-! INPUT on both sides: feed, end. -/
def gFed (S : List Int) (a b c e f : Int) : List Int := S ++ (List.range 20).map (gmFb a b c e f)
theorem gFed_l {S : List Int} {a b c e f : Int} : (gFed S a b c e f).length = S.length + 20 := by
  unfold gFed
  rw [List.length_append, List.length_map, List.length_range]
theorem gFed_o {S : List Int} {a b c e f : Int} {j : Nat} (h : j < S.length) : (gFed S a b c e f).getD j 0 = S.getD j 0 := by
  unfold gFed
  rw [List.getD_eq_getElem?_getD, List.getD_eq_getElem?_getD, List.getElem?_append_left h]
theorem gFed_n {S : List Int} {a b c e f : Int} {j : Nat} (h : j < 20) : (gFed S a b c e f).getD (S.length + j) 0 = gmFb a b c e f j := by
  unfold gFed
  rw [List.getD_eq_getElem?_getD, List.getElem?_append_right (Nat.le_add_right _ _), Nat.add_sub_cancel_left, List.getElem?_map, List.getElem?_range h]
  rfl
section ggV
variable {l : Launch} {G : gG} {d Nr : Nat} {X : gX} {M M' M0 : gM} {c o n : Nat} {Rg : Nat → Nat} {v b : Nat} {w w1 : Nat → gVl} {T : Nat → gSht} {er nw lt ed : Nat} {S S2 : List Int} {ch : Nat} {cl : Nat → Int} {V : Int → gVl} {K : Outcome → gX → gM → Prop} {k : Int → gM → Prop}
theorem gLC.inp {n2 : Nat} (h : gLC X M c n Rg v b w w1 T er nw lt ed S ch cl) (hn : n ≤ n2) (q : ∀ a j, a ≠ c + 1 → ¬ (a = c ∧ j = 1) → M' a j = M a j) (hin : gInI M' c 1 (c + 1) S2) (hl : S2.length + 20 * n ≤ S.length + 20 * n2) : gLC X M' c n2 Rg v b w w1 T er nw lt ed S2 ch cl := by
  obtain ⟨a1, a2, a3, a4, a5, a6, a7, a8, a9, ⟨t1, t2, t3, t4, t5⟩, a11⟩ := h
  have rb : ∀ i, i < 42 → c + 23 < Rg i ∧ Rg i + 4 < c + 234 := fun i hi => (a2.2.2.1 i hi).2
  obtain ⟨id, cs, rf, bs, b1, b2, b3, b4, b5, b6, b7⟩ := a7.kp (M' := M') (fun a j h1 h2 => q _ _ (by omega) (by omega))
  refine ⟨a1, a2, ⟨(q _ _ (by omega) (by omega)).trans a3.1, (q _ _ (by omega) (by omega)).trans a3.2.1, (q _ _ (by omega) (by omega)).trans a3.2.2.1, (q _ _ (by omega) (by omega)).trans a3.2.2.2⟩, fun t h1 h2 => ?_, fun i hi => (q _ _ (by have := rb i hi; omega) (by have := rb i hi; omega)).trans (a5 i hi), a6.kp a1 (gGw.rf X 0) (Or.inl rfl) (fun a j h1 h2 => q a j (by omega) (by omega)), ⟨id, cs, rf, bs, b1, b2, b3, b4, by omega, ⟨by omega, by omega, by omega⟩, b7⟩, hin, ⟨(q _ _ (by omega) (by omega)).trans a9.1, a9.2.1, fun i hi => (q _ _ (by omega) (by omega)).trans (a9.2.2 i hi)⟩, ⟨t1, t2, t3, by omega, t5⟩, by omega⟩
  have := rb (t % 41) (by omega)
  exact (a4 t h1 h2).kp (t5 t h1 h2) (fun a j h1 h2 => q _ _ (by omega) (by omega)) (fun a j h1 => q _ _ (by omega) (by omega))
theorem gLM.inp {n2 : Nat} (h : gLM X M o n T er nw lt ed S V ch cl) (hn : n ≤ n2) (q : ∀ a j, a ≠ o + 46 → ¬ (a = o ∧ (j = 0 ∨ j = 72)) → M' a j = M a j) (hin : gInI M' o 72 (o + 46) S2) (hl : S2.length + 20 * n ≤ S.length + 20 * n2) : gLM X M' o n2 T er nw lt ed S2 V ch cl := by
  obtain ⟨a1, a2, a3, a4, a5, a6⟩ := h
  obtain ⟨L, N, f, R, b1, b2, b3, b4, b5, b6, b7, b8⟩ := a5.ag (M' := M') (fun j hj => q _ _ (by omega) (by omega))
  exact ⟨a1, ⟨(q _ _ (by omega) (by omega)).trans a2.1, (q _ _ (by omega) (by omega)).trans a2.2.1, (q _ _ (by omega) (by omega)).trans a2.2.2.1, (q _ _ (by omega) (by omega)).trans a2.2.2.2⟩, fun t h1 h2 => (a3 t h1 h2).kp (fun i j i1 i2 => q _ _ (by omega) (by omega)) (fun j hj => q _ _ (by omega) (by omega)), a4.ag (fun a j h1 h2 => q _ _ (by omega) (by omega)) (fun j hj => q _ _ (by omega) (by omega)), ⟨L, N, f, R, b1, b2, b3, b4, by omega, by omega, by omega, by omega⟩, hin⟩
def gTkP (M0 M : gM) (c len m : Nat) (f : Nat → Int) : Prop := M c 1 = ((len + m : Nat) : Int) ∧ (∀ a j, a ≠ c + 1 → ¬ (a = c ∧ j = 1) → M a j = M0 a j) ∧ (∀ j, j < len → M (c + 1) j = M0 (c + 1) j) ∧ ∀ i, i < m → M (c + 1) (len + i) = f i
theorem gTkP.st {len m : Nat} {f : Nat → Int} {x : Int} (h : gTkP M0 M c len m f) (hf : ∀ i, i < 4 → f (m + i) = gByte (gShr x (24 - 8 * (i : Int)))) : gTkP M0 (gTk M c x) c len (m + 4) f := by
  obtain ⟨h1, h2, h3, h4⟩ := h
  unfold gTk
  rw [h1, Int.toNat_natCast]
  refine ⟨by rw [gUp_eq]; omega, fun a j n1 n2 => ?_, fun j hj => ?_, fun i hi => ?_⟩
  · by_cases e : a = c
    · subst e
      rw [gUp_k (fun z => n2 ⟨rfl, z⟩), gFl_a (by omega)]
      exact h2 _ _ (by omega) n2
    · rw [gUp_a e, gFl_a n1]
      exact h2 _ _ n1 n2
  · rw [gUp_a (by omega), gFl_out (by omega)]
    exact h3 j hj
  · rw [gUp_a (by omega)]
    by_cases e : i < m
    · rw [gFl_out (by omega)]
      exact h4 i e
    · rw [gFl_in (by omega) (by omega), show len + i - (len + m) = i - m by omega, ← hf (i - m) (by omega), show m + (i - m) = i by omega]
theorem gmFb_k {a b c e f : Int} {i m : Nat} (hi : i < 4) (hm : m = 0 ∨ m = 4 ∨ m = 8 ∨ m = 12 ∨ m = 16) : gmFb a b c e f (m + i) = gByte (gShr (if m = 0 then a else if m = 4 then b else if m = 8 then c else if m = 12 then e else f) (24 - 8 * (i : Int))) := by
  unfold gmFb
  have e1 : 8 * (3 - ((m + i : Nat) : Int).tmod 4) = 24 - 8 * (i : Int) := by
    rw [Int.tmod_eq_emod_of_nonneg (by omega)]
    rcases hm with e | e | e | e | e <;> subst e <;> omega
  rw [e1]
  rcases hm with e | e | e | e | e <;> subst e
  · rw [if_pos (by omega), if_pos (by decide)]
  · rw [if_neg (by omega), if_pos (by omega), if_neg (by decide), if_pos (by decide)]
  · rw [if_neg (by omega), if_neg (by omega), if_pos (by omega), if_neg (by decide), if_neg (by decide), if_pos (by decide)]
  · rw [if_neg (by omega), if_neg (by omega), if_neg (by omega), if_pos (by omega), if_neg (by decide), if_neg (by decide), if_neg (by decide), if_pos (by decide)]
  · rw [if_neg (by omega), if_neg (by omega), if_neg (by omega), if_neg (by omega), if_neg (by decide), if_neg (by decide), if_neg (by decide), if_neg (by decide)]
theorem c_GLfeed (hl : gOk l G) (hN : 1 ≤ Nr) (h : gLC X M c n Rg v b w w1 T er nw lt ed S ch cl) (hz : gFr X M) {x1 x2 x3 x4 x5 : Int} (h1 : g32 x1) (h2 : g32 x2) (h3 : g32 x3) (h4 : g32 x4) (h5 : g32 x5) (k0 : 220 < S.length → K (.threw (G.2.2.1 + (X.1 + 1))) (gNw X (18, 0)) M) (k1 : S.length ≤ 220 → ∀ M', gOff (gCR c) M M' → gLC X M' c (n + 1) Rg v b w w1 T er nw lt ed (gFed S x1 x2 x3 x4 x5) ch cl → K (.returned (some (gI ((S.length + 20 : Nat) : Int)))) X M') :
    gCt l G y_GL_feed (gRr 699 Nr) true [gR G c, gI x1, gI x2, gI x3, gI x4, gI x5] X M K := by
  have hin := h.2.2.2.2.2.2.2.1
  have l2 := hin.2.2
  refine c_GL_feed (d := 691) hl h.1 hN hz h1 h2 h3 h4 h5 (by rw [hin.1]; omega) (fun y => ?_) (fun y => k0 (by rw [hin.1] at y; omega))
  rw [hin.1] at y ⊢
  have p0 : gTkP M M c S.length 0 (gmFb x1 x2 x3 x4 x5) := ⟨hin.1, fun _ _ _ _ => rfl, fun _ _ => rfl, fun i hi => absurd hi (Nat.not_lt_zero _)⟩
  have p1 := p0.st (x := x1) (fun i hi => gmFb_k hi (Or.inl rfl))
  have p2 := p1.st (x := x2) (fun i hi => gmFb_k hi (Or.inr (Or.inl rfl)))
  have p3 := p2.st (x := x3) (fun i hi => gmFb_k hi (Or.inr (Or.inr (Or.inl rfl))))
  have p4 := p3.st (x := x4) (fun i hi => gmFb_k hi (Or.inr (Or.inr (Or.inr (Or.inl rfl)))))
  obtain ⟨q1, q2, q3, q4⟩ := p4.st (x := x5) (fun i hi => gmFb_k hi (Or.inr (Or.inr (Or.inr (Or.inr rfl)))))
  generalize gTk (gTk (gTk (gTk (gTk M c x1) c x2) c x3) c x4) c x5 = N at q1 q2 q3 q4 ⊢
  rw [show (S.length : Int) + 20 = ((S.length + 20 : Nat) : Int) by omega]
  refine k1 (by omega) N (fun a j na => q2 a j (fun e => na (by unfold gCR; omega)) (fun e => na (by unfold gCR; omega))) (h.inp (Nat.le_succ n) q2 ⟨by rw [gFed_l]; exact q1, fun j hj => ?_, by rw [gFed_l]; omega⟩ (by rw [gFed_l]; omega))
  rw [gFed_l] at hj
  by_cases e : j < S.length
  · rw [gFed_o e, q3 j e]
    exact hin.2.1 j e
  · have := q4 (j - S.length) (by omega)
    rw [show S.length + (j - S.length) = j by omega] at this
    rw [this, ← gFed_n (S := S) (j := j - S.length) (by omega), show S.length + (j - S.length) = j by omega]
theorem r_GMfeed (h : gLM X M o n T er nw lt ed S V ch cl) {x1 x2 x3 x4 x5 : Int} (h1 : g32 x1) (h2 : g32 x2) (h3 : g32 x3) (h4 : g32 x4) (h5 : g32 x5) (k0 : 220 < S.length → k 0 (gUp M o 0 1)) (k1 : S.length ≤ 220 → ∀ M', gOff (gMR o) M M' → M' o 0 = 0 → gLM X M' o (n + 1) T er nw lt ed (gFed S x1 x2 x3 x4 x5) V ch cl → k ((S.length + 20 : Nat) : Int) M') :
    cI l G y_GM_feed (gRm (d + 1)) true [gR G o, gI x1, gI x2, gI x3, gI x4, gI x5] X M k := by
  have hin := h.2.2.2.2.2
  have l2 := hin.2.2
  refine c_GM_feed h.1 h1 h2 h3 h4 h5 (by rw [hin.1]; omega) (fun y => k0 (by rw [hin.1] at y; omega)) (fun y => ?_)
  rw [hin.1] at y ⊢
  rw [Int.toNat_natCast, show (S.length : Int) + 20 = ((S.length + 20 : Nat) : Int) by omega]
  have q2 : ∀ a j, a ≠ o + 46 → ¬ (a = o ∧ (j = 0 ∨ j = 72)) → gUp (gFl (gUp M o 0 0) (o + 46) S.length (gmFb x1 x2 x3 x4 x5) 20) o 72 ((S.length + 20 : Nat) : Int) a j = M a j := fun a j n1 n2 => by
    by_cases e : a = o
    · subst e
      rw [gUp_k (by omega), gFl_a (by omega), gUp_k (by omega)]
    · rw [gUp_a e, gFl_a n1, gUp_a e]
  refine k1 (by omega) _ (fun a j na => q2 a j (fun e => na (by unfold gMR; omega)) (fun e => na (by unfold gMR; omega))) ?_ (h.inp (Nat.le_succ n) q2 ⟨by rw [gFed_l, gUp_eq], fun j hj => ?_, by rw [gFed_l]; omega⟩ (by rw [gFed_l]; omega))
  · rw [gUp_k (by decide), gFl_a (by omega), gUp_eq]
  rw [gFed_l] at hj
  rw [gUp_a (by omega)]
  by_cases e : j < S.length
  · rw [gFed_o e, gFl_out (by omega), gUp_a (by omega)]
    exact hin.2.1 j e
  · rw [gFl_in (by omega) (by omega), ← gFed_n (S := S) (j := j - S.length) (by omega), show S.length + (j - S.length) = j by omega]
theorem gTake_i {m : Nat} (hm : m ≤ S.length) : (S.take m).length = m ∧ ∀ j, j < m → (S.take m).getD j 0 = S.getD j 0 := by
  refine ⟨by rw [List.length_take]; omega, fun j hj => ?_⟩
  rw [List.getD_eq_getElem?_getD, List.getD_eq_getElem?_getD, List.getElem?_take, if_pos hj]
theorem c_GLend (hl : gOk l G) (hN : 1 ≤ Nr) (h : gLC X M c n Rg v b w w1 T er nw lt ed S ch cl) (hz : gFr X M) {x : Int} (gx : g32 x) (k0 : ¬ (0 ≤ x ∧ x ≤ S.length) → K (.threw (G.2.2.1 + (X.1 + 1))) (gNw X (19, 0)) M) (k1 : 0 ≤ x ∧ x ≤ S.length → ∀ M', gOff (gCR c) M M' → gLC X M' c (n + 1) Rg v b w w1 T er nw lt ed (S.take (S.length - x.toNat)) ch cl → K (.returned (some (gI ((S.length : Int) - x)))) X M') :
    gCt l G y_GL_end (gRr 699 Nr) true [gR G c, gI x] X M K := by
  have hin := h.2.2.2.2.2.2.2.1
  have l2 := hin.2.2
  refine c_GL_end (d := 690) hl hN h.1 hz gx (by rw [hin.1]; omega) (fun y => ?_) (fun y => k0 (by rw [hin.1] at y; exact y))
  rw [hin.1] at y ⊢
  obtain ⟨t1, t2⟩ := gTake_i (S := S) (m := S.length - x.toNat) (by omega)
  refine k1 y _ ((gOff.rf _ _).up (by unfold gCR; omega)) (h.inp (Nat.le_succ n) (fun a j n1 n2 => ?_) ⟨by rw [gUp_eq, t1]; omega, fun j hj => ?_, by rw [t1]; omega⟩ (by rw [t1]; omega))
  · unfold gUp
    rw [if_neg n2]
  · rw [t1] at hj
    rw [gUp_a (by omega), t2 j hj]
    exact hin.2.1 j (by omega)
theorem r_GMend (h : gLM X M o n T er nw lt ed S V ch cl) {x : Int} (gx : g32 x) (k0 : ¬ (0 ≤ x ∧ x ≤ S.length) → k 0 (gUp M o 0 1)) (k1 : 0 ≤ x ∧ x ≤ S.length → ∀ M', gOff (gMR o) M M' → M' o 0 = 0 → gLM X M' o (n + 1) T er nw lt ed (S.take (S.length - x.toNat)) V ch cl → k ((S.length : Int) - x) M') :
    cI l G y_GM_end (gRm (d + 1)) true [gR G o, gI x] X M k := by
  have hin := h.2.2.2.2.2
  have l2 := hin.2.2
  refine c_GM_end h.1 gx (by rw [hin.1]; omega) (fun y => k0 (by rw [hin.1] at y; exact y)) (fun y => ?_)
  rw [hin.1] at y ⊢
  obtain ⟨t1, t2⟩ := gTake_i (S := S) (m := S.length - x.toNat) (by omega)
  refine k1 y _ (((gOff.rf _ _).up (by unfold gMR; omega)).up (by unfold gMR; omega)) (by rw [gUp_k (by decide), gUp_eq]) (h.inp (Nat.le_succ n) (fun a j n1 n2 => ?_) ⟨by rw [gUp_eq, t1]; omega, fun j hj => ?_, by rw [t1]; omega⟩ (by rw [t1]; omega))
  · unfold gUp
    rw [if_neg (by omega), if_neg (by omega)]
  · rw [t1] at hj
    rw [gUp_a (by omega), gUp_a (by omega), t2 j hj]
    exact hin.2.1 j (by omega)
end ggV
