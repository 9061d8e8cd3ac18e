/-! The class's Reader: what its memory is like while it reads. -/
/-- bytes in the tokens before a -/
def gTln (ts : List gTkn) : Nat → Nat
  | 0 => 0
  | a + 1 => gTln ts a + ((gTs ts a).2.2 - (gTs ts a).2.1)
/-- what may be written: code from cs on, refs from rf on, bytes from bs on, marks from mk on -/
def gRdR (c id cs rf bs mk : Nat) : Nat → Nat → Prop := fun x j => (x = c + 14 ∧ (j = 4 ∨ j = 5)) ∨ (x = c + 15 ∧ mk ≤ j) ∨ ((x = c + 9 ∨ x = c + 10) ∧ cs ≤ j) ∨ ((x = c + 11 ∨ x = c + 12) ∧ rf ≤ j) ∨ (x = c + 8 ∧ j = id) ∨ (x = c + 13 ∧ bs ≤ j) ∨ (x = c + 2 ∧ 12 ≤ j ∧ j ≤ 14)
theorem gRdR_le {c id cs rf bs mk cs2 rf2 bs2 mk2 : Nat} (h : cs ≤ cs2 ∧ rf ≤ rf2 ∧ bs ≤ bs2 ∧ mk ≤ mk2) : ∀ x j, gRdR c id cs2 rf2 bs2 mk2 x j → gRdR c id cs rf bs mk x j := by
  intro x j q
  obtain ⟨h1, h2, h3, h4⟩ := h
  rcases q with q | q | q | q | q | q | q
  · exact Or.inl q
  · exact Or.inr (Or.inl ⟨q.1, Nat.le_trans h4 q.2⟩)
  · exact Or.inr (Or.inr (Or.inl ⟨q.1, Nat.le_trans h1 q.2⟩))
  · exact Or.inr (Or.inr (Or.inr (Or.inl ⟨q.1, Nat.le_trans h2 q.2⟩)))
  · exact Or.inr (Or.inr (Or.inr (Or.inr (Or.inl q))))
  · exact Or.inr (Or.inr (Or.inr (Or.inr (Or.inr (Or.inl ⟨q.1, Nat.le_trans h3 q.2⟩)))))
  · exact Or.inr (Or.inr (Or.inr (Or.inr (Or.inr (Or.inr q)))))
/-- what stays -/
def gRkp (M : gM) (c : Nat) (S : List Int) (ts : List gTkn) (id R0 : Nat) : Prop := gInp M c S ∧ gTkR M c S ts ∧ M (c + 2) 11 = (id : Int) ∧ M (c + 6) id = (R0 : Int)
theorem gRkp.kp {M M2 : gM} {c : Nat} {S : List Int} {ts : List gTkn} {id R0 cs rf bs mk : Nat} (h : gRkp M c S ts id R0) (o : gOff (gRdR c id cs rf bs mk) M M2) : gRkp M2 c S ts id R0 := by
  obtain ⟨h1, h2, h3, h4⟩ := h
  have k : ∀ x j, c + 16 ≤ x → x ≤ c + 20 → M2 x j = M x j := fun x j q1 q2 => o x j (by unfold gRdR; omega)
  refine ⟨o.inp h1 (fun j => by unfold gRdR; omega), ⟨⟨?_, fun j hj => ?_⟩, fun j q1 q2 => ?_⟩, ?_, ?_⟩
  · rw [k _ _ (by omega) (by omega)]; exact h2.1.1
  · rw [k _ _ (by omega) (by omega), k _ _ (by omega) (by omega), k _ _ (by omega) (by omega), k _ _ (by omega) (by omega)]; exact h2.1.2 j hj
  · rw [k _ _ (by omega) (by omega)]; exact h2.2 j q1 q2
  · rw [o _ _ (by unfold gRdR; omega)]; exact h3
  · rw [o _ _ (by unfold gRdR; omega)]; exact h4
def gRng (rs : List gRf) : Nat := rs.countP (fun r => decide (r.2.2 = 1))
/-- the refs that were read -/
def gRfM (M : gM) (c id R0 : Nat) (rs : List gRf) : Prop := (∀ i, i < rs.length → M (c + 11) (R0 + i) = (rs.getD i (0, 0, 0)).1 ∧ M (c + 12) (R0 + i) = (rs.getD i (0, 0, 0)).2.1 + 4 * (rs.getD i (0, 0, 0)).2.2) ∧ M (c + 8) id = (gRng rs : Int)
/-- where the reader is: token, sizes of code, refs, bytes -/
def gRwh (M : gM) (c a cs rf bs : Nat) : Prop := M (c + 14) 4 = (a : Int) ∧ M (c + 2) 12 = (cs : Int) ∧ M (c + 2) 13 = (rf : Int) ∧ M (c + 2) 14 = (bs : Int)
def gRcap (ts : List gTkn) (a cs rf bs : Nat) : Prop := cs ≤ 10240 + 2 * a ∧ rf ≤ 10240 + a ∧ bs ≤ 10240 + gTln ts a
def gRbd (ts : List gTkn) (a cs rf bs a' cs' rf' bs' : Nat) : Prop := a ≤ a' ∧ cs ≤ cs' ∧ rf ≤ rf' ∧ bs ≤ bs' ∧ cs' + 2 * a ≤ cs + 2 * a' ∧ rf' + a ≤ rf + a' ∧ bs' + gTln ts a ≤ bs + gTln ts a'
theorem gRbd.tr {ts : List gTkn} {a cs rf bs a1 cs1 rf1 bs1 a2 cs2 rf2 bs2 : Nat} (h : gRbd ts a cs rf bs a1 cs1 rf1 bs1) (k : gRbd ts a1 cs1 rf1 bs1 a2 cs2 rf2 bs2) : gRbd ts a cs rf bs a2 cs2 rf2 bs2 := by
  unfold gRbd at h k ⊢
  omega
theorem gRcap.bd {ts : List gTkn} {a cs rf bs a' cs' rf' bs' : Nat} (h : gRcap ts a cs rf bs) (k : gRbd ts a cs rf bs a' cs' rf' bs') : gRcap ts a' cs' rf' bs' := by
  unfold gRbd at k
  unfold gRcap at h ⊢
  omega
theorem gTln_mono (ts : List gTkn) (a n : Nat) : gTln ts a ≤ gTln ts (a + n) := by
  induction n with
  | zero => exact Nat.le_refl _
  | succ n ih => exact Nat.le_trans ih (Nat.le_add_right _ _)
/-- it has failed -/
def gRpF (M : gM) (c : Nat) (ts : List gTkn) (id mk a cs rf bs : Nat) (k : gM → Prop) : Prop := ∀ M2 a' cs' rf' bs', gOff (gRdR c id cs rf bs mk) M M2 → M2 (c + 14) 5 = 1 → gRwh M2 c a' cs' rf' bs' → gRbd ts a cs rf bs a' cs' rf' bs' → a' ≤ ts.length + 1 → k M2
/-- it has read e', whose code begins at cb -/
def gRpS (M : gM) (c : Nat) (S : List Int) (ts : List gTkn) (id R0 mk cb a cs bs : Nat) (rs : List gRf) (e' : gEx) (a' : Nat) (rs' : List gRf) (k : gM → Prop) : Prop := ∀ M2 bs', gOff (gRdR c id cs (R0 + rs.length) bs mk) M M2 → M2 (c + 14) 5 = 0 → gRwh M2 c a' (cb + (gxLn e').1) (R0 + rs'.length) bs' → gRbd ts a cs (R0 + rs.length) bs a' (cb + (gxLn e').1) (R0 + rs'.length) bs' → gRfM M2 c id R0 rs' → (gxCo M2 c S bs' e').1 cb → k M2
def gRpO (M : gM) (c : Nat) (S : List Int) (ts : List gTkn) (id R0 mk cb a cs bs : Nat) (rs : List gRf) (x : gPr) (k : gM → Prop) : Prop := (x = none → gRpF M c ts id mk a cs (R0 + rs.length) bs k) ∧ ∀ e' a' rs', x = some (e', a', rs') → gRpS M c S ts id R0 mk cb a cs bs rs e' a' rs' k
/-- it reads, and is at a -/
def gRpre (M : gM) (c : Nat) (S : List Int) (ts : List gTkn) (id R0 a cs bs : Nat) (rs : List gRf) : Prop := gRkp M c S ts id R0 ∧ gRwh M c a cs (R0 + rs.length) bs ∧ M (c + 14) 5 = 0 ∧ gRfM M c id R0 rs ∧ gRcap ts a cs (R0 + rs.length) bs ∧ a ≤ ts.length
theorem gRng_le (rs : List gRf) : gRng rs ≤ rs.length := List.countP_le_length
section gdG
variable {M M2 : gM} {c : Nat} {S : List Int} {ts : List gTkn} {id R0 a cs bs mk : Nat} {rs : List gRf}
/-- the code of a tree before cs stays -/
theorem gxCo_rd {cb rf bs2 n : Nat} {P R : Int → Prop} {e : gEx} (o : gOff (gRdR c id cs rf bs mk) M M2) (hw : (gxWf P R n e).1) (hc : cb + (gxLn e).1 ≤ cs) (hb : bs ≤ bs2) (h : (gxCo M c S bs e).1 cb) : (gxCo M2 c S bs2 e).1 cb :=
  (gxCo_keep (M := M) (M2 := M2) (c := c) (S := S) (B := bs) (B2 := bs2) (P := P) (R := R) (n := n) hb (fun j hj => o _ _ (by unfold gRdR; omega)) e).1 hw cb (fun j q1 q2 => ⟨o _ _ (by unfold gRdR; omega), o _ _ (by unfold gRdR; omega)⟩) h
theorem gEm_off {rf : Nat} {op x : Int} : gOff (gRdR c id cs rf bs mk) M (gEm M c cs op x) := by
  refine (((gOff.rf _ M).up ?_).up ?_).up ?_ <;> unfold gRdR <;> omega
theorem gEm_st {rf : Nat} {op x : Int} (h : gRwh M c a cs rf bs) : gRwh (gEm M c cs op x) c a (cs + 1) rf bs := by
  obtain ⟨h1, h2, h3, h4⟩ := h
  unfold gEm gRwh
  refine ⟨?_, gUp_eq _ _ _ _, ?_, ?_⟩
  · rw [gUp_a (by omega), gUp_a (by omega), gUp_a (by omega)]; exact h1
  · rw [gUp_k (by decide), gUp_a (by omega), gUp_a (by omega)]; exact h3
  · rw [gUp_k (by decide), gUp_a (by omega), gUp_a (by omega)]; exact h4
theorem gEm_at {op x : Int} : gAt2 (gEm M c cs op x) c cs op x := by
  unfold gEm gAt2
  rw [gUp_a (by omega), gUp_a (by omega), gUp_eq, gUp_a (by omega), gUp_eq]
  exact ⟨rfl, rfl⟩
theorem gEm_f {op x : Int} : gEm M c cs op x (c + 14) 5 = M (c + 14) 5 := by
  unfold gEm
  rw [gUp_a (by omega), gUp_a (by omega), gUp_a (by omega)]
theorem gRfM.em {op x : Int} (h : gRfM M c id R0 rs) : gRfM (gEm M c cs op x) c id R0 rs := by
  unfold gEm
  refine ⟨fun i hi => ?_, ?_⟩
  · rw [gUp_a (by omega), gUp_a (by omega), gUp_a (by omega), gUp_a (by omega), gUp_a (by omega), gUp_a (by omega)]; exact h.1 i hi
  · rw [gUp_a (by omega), gUp_a (by omega), gUp_a (by omega)]; exact h.2
/-- the token is passed -/
theorem gAd_off {rf x : Nat} : gOff (gRdR c id cs rf bs mk) M (gUp M (c + 14) 4 (x : Int)) := (gOff.rf _ M).up (by unfold gRdR; omega)
theorem gFa_off {rf : Nat} : gOff (gRdR c id cs rf bs mk) M (gUp M (c + 14) 5 1) := (gOff.rf _ M).up (by unfold gRdR; omega)
theorem gAd_st {rf x : Nat} (h : gRwh M c a cs rf bs) : gRwh (gUp M (c + 14) 4 (x : Int)) c x cs rf bs := by
  obtain ⟨h1, h2, h3, h4⟩ := h
  unfold gRwh
  rw [gUp_eq, gUp_a (by omega), gUp_a (by omega), gUp_a (by omega)]
  exact ⟨rfl, h2, h3, h4⟩
theorem gFa_st {rf : Nat} (h : gRwh M c a cs rf bs) : gRwh (gUp M (c + 14) 5 1) c a cs rf bs := by
  obtain ⟨h1, h2, h3, h4⟩ := h
  unfold gRwh
  rw [gUp_k (by decide), gUp_a (by omega), gUp_a (by omega), gUp_a (by omega)]
  exact ⟨h1, h2, h3, h4⟩
theorem gRfM.ad {j : Nat} {x : Int} (h : gRfM M c id R0 rs) : gRfM (gUp M (c + 14) j x) c id R0 rs := by
  refine ⟨fun i hi => ?_, ?_⟩
  · rw [gUp_a (by omega), gUp_a (by omega)]; exact h.1 i hi
  · rw [gUp_a (by omega)]; exact h.2
theorem gRbd.rf (ts : List gTkn) (a cs r bs : Nat) : gRbd ts a cs r bs a cs r bs := ⟨Nat.le_refl _, Nat.le_refl _, Nat.le_refl _, Nat.le_refl _, Nat.le_refl _, Nat.le_refl _, Nat.le_refl _⟩
theorem gRbd.ad (ts : List gTkn) (a n cs r bs : Nat) : gRbd ts a cs r bs (a + n) cs r bs := by
  have := gTln_mono ts a n
  unfold gRbd
  omega
/-- one further token -/
theorem gRpre.ad (h : gRpre M c S ts id R0 a cs bs rs) (h2 : a < ts.length) : gRpre (gUp M (c + 14) 4 ((a + 1 : Nat) : Int)) c S ts id R0 (a + 1) cs bs rs := by
  obtain ⟨k1, k2, k3, k4, k5, k6⟩ := h
  exact ⟨k1.kp (gAd_off (id := id) (cs := cs) (rf := 0) (bs := bs) (mk := 0)), gAd_st k2, by rw [gUp_k (by decide)]; exact k3, k4.ad, k5.bd (gRbd.ad ts a 1 _ _ _), h2⟩
/-- what comes behind a start that has passed tokens -/
theorem gRpF.step {cs1 rf rf1 bs1 a1 mk1 : Nat} {k : gM → Prop} (h : gRpF M c ts id mk a cs rf bs k) (o : gOff (gRdR c id cs rf bs mk) M M2) (b : gRbd ts a cs rf bs a1 cs1 rf1 bs1) (hm : mk ≤ mk1) : gRpF M2 c ts id mk1 a1 cs1 rf1 bs1 k := by
  intro M3 a' cs' rf' bs' o2 f s b2 l
  refine h M3 a' cs' rf' bs' (o.tr (o2.mono (gRdR_le ?_))) f s (b.tr b2) l
  unfold gRbd at b
  omega
theorem gRpF.fail {rf : Nat} {k : gM → Prop} (h : gRpF M c ts id mk a cs rf bs k) (s : gRwh M c a cs rf bs) (l : a ≤ ts.length + 1) : k (gUp M (c + 14) 5 1) := h _ a cs rf bs gFa_off (gUp_eq _ _ _ _) (gFa_st s) (gRbd.rf _ _ _ _ _) l
end gdG
