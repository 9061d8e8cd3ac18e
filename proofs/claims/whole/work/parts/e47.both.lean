/-! Both objects' states against one. -/
def gCR (c : Nat) : Nat → Nat → Prop := fun a _ => c ≤ a ∧ a ≤ c + 1167
def gMR (o : Nat) : Nat → Nat → Prop := fun a _ => o ≤ a ∧ a ≤ o + 46
/-- the states 0 to 40 of the ring, and the draft, 41 -/
def gRgX (X : gX) (c : Nat) (Rg : Nat → Nat) : Prop := (∀ i, i < 41 → X.2.2 (c + 23) i = Rg i) ∧ X.2.2 c 7 = Rg 41 ∧ (∀ i, i < 42 → gsX X (Rg i) ∧ c + 23 < Rg i ∧ Rg i + 4 < c + 234) ∧ ∀ i j, i < 42 → j < 42 → i ≠ j → Rg i + 4 < Rg j ∨ Rg j + 4 < Rg i
def gCtn (M : gM) (c n len : Nat) : Prop := ∃ id cs rf bs : Nat, M (c + 2) 11 = (id : Int) ∧ M (c + 2) 12 = (cs : Int) ∧ M (c + 2) 13 = (rf : Int) ∧ M (c + 2) 14 = (bs : Int) ∧ (1 ≤ id ∧ id ≤ n + 1) ∧ (cs + len ≤ 20 * n ∧ rf + len ≤ 20 * n ∧ bs + len ≤ 20 * n) ∧ M (c + 3) 0 = 0 ∧ M (c + 6) 0 = 0 ∧ M (c + 7) 0 = 0
def gInI (M : gM) (a k b : Nat) (S : List Int) : Prop := M a k = (S.length : Int) ∧ (∀ j, j < S.length → M b j = S.getD j 0) ∧ S.length ≤ 240
def gTl (T : Nat → gSht) (er nw lt n : Nat) : Prop := er ≤ nw ∧ nw ≤ lt ∧ lt ≤ er + 40 ∧ lt ≤ n ∧ ∀ t, er ≤ t → t ≤ lt → gSok (T t)
def gCnr (M : gM) (c er nw lt ed : Nat) : Prop := M c 8 = ((nw % 41 : Nat) : Int) ∧ M c 9 = ((nw - er : Nat) : Int) ∧ M c 10 = ((lt - nw : Nat) : Int) ∧ M c 11 = (ed : Int)
def gChg (M : gM) (c ch : Nat) (cl : Nat → Int) : Prop := M (c + 234) 7 = (ch : Int) ∧ ch ≤ 800 ∧ ∀ i, i < ch → M (c + 236) i = cl i
def gLC (X : gX) (M : gM) (c n : Nat) (Rg : Nat → Nat) (v b : Nat) (w w1 : Nat → gVl) (T : Nat → gSht) (er nw lt ed : Nat) (S : List Int) (ch : Nat) (cl : Nat → Int) : Prop := glX X c ∧ gRgX X c Rg ∧ gCnr M c er nw lt ed ∧ (∀ t, er ≤ t → t ≤ lt → gcSt M c (Rg (t % 41)) (T t)) ∧ (∀ i, i < 42 → M (Rg i + 3) 0 = 0) ∧ gRsI X M c (Rg (nw % 41)) v b (T nw) w w1 ∧ gCtn M c n S.length ∧ gInI M c 1 (c + 1) S ∧ gChg M c ch cl ∧ gTl T er nw lt n ∧ ed ≤ n
def gMct (M : gM) (o n len : Nat) : Prop := ∃ L N f R : Nat, M o 2 = (L : Int) ∧ M o 9 = (N : Int) ∧ M o 13 = (f : Int) ∧ M o 17 = (R : Int) ∧ L + len ≤ 20 * n ∧ N ≤ 100 * n ∧ f ≤ n ∧ R ≤ 50 * n
def gMnt (M : gM) (o er nw lt ed : Nat) : Prop := M o 35 = (er : Int) ∧ M o 36 = (nw : Int) ∧ M o 37 = (lt : Int) ∧ M o 70 = (ed : Int)
def gMsh (M : gM) (o : Nat) (F : gSht) (V : Int → gVl) (ch : Nat) (cl : Nat → Int) : Prop := gmEnv M o V ∧ M o 66 = (gCn (gFo F) 5200 : Int) ∧ M o 65 = (gCn (gCy F V) 5200 : Int) ∧ M o 69 = (ch : Int) ∧ ∀ i, i < ch → M (o + 45) i = cl i
def gLM (X : gX) (M : gM) (o n : Nat) (T : Nat → gSht) (er nw lt ed : Nat) (S : List Int) (V : Int → gVl) (ch : Nat) (cl : Nat → Int) : Prop := gmX X o ∧ gMnt M o er nw lt ed ∧ (∀ t, er ≤ t → t ≤ lt → gmSt M o (t % 41) (T t)) ∧ gMsh M o (T nw) V ch cl ∧ gMct M o n S.length ∧ gInI M o 72 (o + 46) S
section ggK
variable {X X' : gX} {M M' : gM} {c o n : Nat} {Rg : Nat → Nat} {v b : Nat} {w w1 : Nat → gVl} {T : Nat → gSht} {er nw lt ed : Nat} {S : List Int} {ch : Nat} {cl : Nat → Int} {V : Int → gVl} {F : gSht} {r : Nat}
theorem glX.grow (h : glX X c) (g : gGw X X' 0) : glX X' c := by
  have lx : ∀ i, i ≤ 1167 → c + i ≤ X.1 := fun i hi => gl_2 h hi
  have c1 := h.1
  exact ⟨h.1, Nat.le_trans h.2.1 g.1, fun q hq => (g.2.2 _ _ (lx _ (glTab_b q hq)) (by omega)).trans (h.2.2.1 q hq), fun q hq => (g.2.1 _ (lx _ (glSh_b q hq))).trans (h.2.2.2.1 q hq), h.2.2.2.2.grow g (by omega) (by omega)⟩
theorem gRgX.grow {z : Nat} (h : gRgX X c Rg) (hX : glX X c) (g : gGw X X' z) (hz : z = 0 ∨ z = c + 21) : gRgX X' c Rg := by
  have lx : ∀ i, i ≤ 1167 → c + i ≤ X.1 := fun i hi => gl_2 hX hi
  have c1 := hX.1
  exact ⟨fun i hi => (g.2.2 _ _ (lx 23 (by decide)) (by omega)).trans (h.1 i hi), (g.2.2 _ _ (lx 0 (by decide)) (by omega)).trans h.2.1, fun i hi => ⟨(h.2.2.1 i hi).1.grow g (by have := (h.2.2.1 i hi).2.1; omega), (h.2.2.1 i hi).2⟩, h.2.2.2⟩
theorem gcSt.ag (h : gcSt M c r F) (hF : gSok F) (hr : c ≤ r ∧ r + 4 ≤ c + 1167) (k : ∀ a j, c ≤ a → a ≤ c + 1167 → M' a j = M a j) : gcSt M' c r F := h.kp hF (fun a j h1 h2 => k _ _ (by omega) (by omega)) (fun a j h1 => k _ _ (by omega) (by omega))
theorem gCtn.kp {len : Nat} (h : gCtn M c n len) (k : ∀ a j, 2 ≤ a → a ≤ 7 → M' (c + a) j = M (c + a) j) : gCtn M' c n len := by
  obtain ⟨id, cs, rf, bs, a1, a2, a3, a4, a5, a6, a7, a8, a9⟩ := h
  exact ⟨id, cs, rf, bs, by rw [k 2 _ (by decide) (by decide)]; exact a1, by rw [k 2 _ (by decide) (by decide)]; exact a2, by rw [k 2 _ (by decide) (by decide)]; exact a3, by rw [k 2 _ (by decide) (by decide)]; exact a4, a5, a6, by rw [k 3 _ (by decide) (by decide)]; exact a7, by rw [k 6 _ (by decide) (by decide)]; exact a8, by rw [k 7 _ (by decide) (by decide)]; exact a9⟩
theorem gRsI.kp {z : Nat} (h : gRsI X M c r v b F w w1) (hX : glX X c) (g : gGw X X' z) (hz : z = 0 ∨ z = c + 21) (k : ∀ a j, c + 234 < a → a ≤ c + 1167 → M' a j = M a j) : gRsI X' M' c r v b F w w1 := by
  have lx : ∀ i, i ≤ 1167 → c + i ≤ X.1 := fun i hi => gl_2 hX hi
  have c1 := hX.1
  obtain ⟨a1, a2, a3, a4, a5, a6, a7, a8, a9, a10, a11, a12, a13, a14, a15, a16⟩ := h
  have tv : ∀ {t : Nat} {u : Nat → gVl}, c + 236 < t ∧ t + 404 < c + 1047 → gvT M t u → gvT M' t u := fun {t u} ht y => y.off (A := fun a _ => ¬ (c + 234 < a ∧ a ≤ c + 1167)) (fun a j y => k a j (Classical.byContradiction fun q => y (fun q2 => q q2.1)) (Classical.byContradiction fun q => y (fun q2 => q q2.2))) (fun a j y q => y ⟨by omega, by omega⟩)
  refine ⟨⟨(g.2.2 _ _ (lx 234 (by decide)) (by omega)).trans a1.1, a1.2.grow g (by omega) (by omega)⟩, ⟨(g.2.2 _ _ (lx 234 (by decide)) (by omega)).trans a2.1, a2.2.grow g (by omega) (by omega)⟩, ⟨(g.2.2 _ _ (lx 234 (by decide)) (by omega)).trans a3.1, a3.2.grow g (by omega)⟩, a4, a5, a6, a7, fun p hp => (k _ _ (by omega) (by omega)).trans (a8 p hp), tv a4 a9, tv a5 a10, a11, a12, a13, ⟨fun a ha j hj => by rw [k _ _ (by omega) (by omega)]; exact a14.1 a ha j hj, fun j hj => by rw [k _ _ (by omega) (by omega)]; exact a14.2 j hj⟩, (k _ _ (by omega) (by omega)).trans a15, fun e he => (k _ _ (by omega) (by omega)).trans (a16 e he)⟩
theorem gLC.kp (h : gLC X M c n Rg v b w w1 T er nw lt ed S ch cl) (g : gGw X X' 0) (k : ∀ a j, c ≤ a → a ≤ c + 1167 → M' a j = M a j) : gLC X' M' c n Rg v b w w1 T er nw lt ed S ch cl := by
  obtain ⟨a1, a2, a3, a4, a5, a6, a7, a8, a9, a10, a11⟩ := h
  have rb : ∀ i, i < 42 → c ≤ Rg i ∧ Rg i + 4 ≤ c + 1167 := fun i hi => by have := (a2.2.2.1 i hi).2; omega
  refine ⟨a1.grow g, a2.grow a1 g (Or.inl rfl), ⟨?_, ?_, ?_, ?_⟩, fun t h1 h2 => (a4 t h1 h2).ag (a10.2.2.2.2 t h1 h2) (rb _ (by omega)) k, fun i hi => (k _ _ (by have := rb i hi; omega) (by have := rb i hi; omega)).trans (a5 i hi), a6.kp a1 g (Or.inl rfl) (fun a j h1 h2 => k a j (by omega) h2), a7.kp (fun a j h1 h2 => k _ _ (by omega) (by omega)), ⟨?_, fun j hj => (k _ _ (by omega) (by omega)).trans (a8.2.1 j hj), a8.2.2⟩, ⟨(k _ _ (by omega) (by omega)).trans a9.1, a9.2.1, fun i hi => (k _ _ (by omega) (by omega)).trans (a9.2.2 i hi)⟩, a10, a11⟩
  · exact (k _ _ (by omega) (by omega)).trans a3.1
  · exact (k _ _ (by omega) (by omega)).trans a3.2.1
  · exact (k _ _ (by omega) (by omega)).trans a3.2.2.1
  · exact (k _ _ (by omega) (by omega)).trans a3.2.2.2
  · exact (k _ _ (by omega) (by omega)).trans a8.1
theorem gmEnv.ag (h : gmEnv M o V) (k : ∀ a j, o + 26 ≤ a → a ≤ o + 32 → M' a j = M a j) : gmEnv M' o V := fun p hp => by
  obtain ⟨b1, b2, b3, b4, b5⟩ := h p hp
  exact ⟨b1, by rw [k _ _ (by omega) (by omega)]; exact b2, by rw [k _ _ (by omega) (by omega)]; exact b3, by rw [k _ _ (by omega) (by omega)]; exact b4, Eq.trans (gBy_congr _ _ _ (fun j hj => k _ _ (by omega) (by omega))) b5⟩
theorem gMsh.ag (h : gMsh M o F V ch cl) (k : ∀ a j, o + 26 ≤ a → a ≤ o + 45 → M' a j = M a j) (k0 : ∀ j, j = 65 ∨ j = 66 ∨ j = 69 → M' o j = M o j) : gMsh M' o F V ch cl := ⟨h.1.ag (fun a j h1 h2 => k a j h1 (by omega)), (k0 66 (by omega)).trans h.2.1, (k0 65 (by omega)).trans h.2.2.1, (k0 69 (by omega)).trans h.2.2.2.1, fun i hi => (k _ _ (by omega) (by omega)).trans (h.2.2.2.2 i hi)⟩
theorem gMct.ag {len : Nat} (h : gMct M o n len) (k : ∀ j, j = 2 ∨ j = 9 ∨ j = 13 ∨ j = 17 → M' o j = M o j) : gMct M' o n len := by
  obtain ⟨L, N, f, R, a1, a2, a3, a4, a5⟩ := h
  exact ⟨L, N, f, R, (k 2 (by omega)).trans a1, (k 9 (by omega)).trans a2, (k 13 (by omega)).trans a3, (k 17 (by omega)).trans a4, a5⟩
theorem gLM.kp (h : gLM X M o n T er nw lt ed S V ch cl) (g : gGw X X' 0) (k : ∀ a j, o ≤ a → a ≤ o + 46 → M' a j = M a j) : gLM X' M' o n T er nw lt ed S V ch cl := by
  obtain ⟨a1, a2, a3, a4, a5, a6⟩ := h
  have o1 := a1.1
  refine ⟨a1.grow g (by omega), ⟨?_, ?_, ?_, ?_⟩, fun t h1 h2 => (a3 t h1 h2).kp (fun i j i1 i2 => k _ _ (by omega) (by omega)) (fun j _ => k _ _ (by omega) (by omega)), a4.ag (fun a j h1 h2 => k _ _ (by omega) (by omega)) (fun j _ => k _ _ (by omega) (by omega)), a5.ag (fun j _ => k _ _ (by omega) (by omega)), ?_, fun j hj => (k _ _ (by omega) (by omega)).trans (a6.2.1 j hj), a6.2.2⟩
  · exact (k _ _ (by omega) (by omega)).trans a2.1
  · exact (k _ _ (by omega) (by omega)).trans a2.2.1
  · exact (k _ _ (by omega) (by omega)).trans a2.2.2.1
  · exact (k _ _ (by omega) (by omega)).trans a2.2.2.2
  · exact (k _ _ (by omega) (by omega)).trans a6.1
theorem gCtn.mono {n2 len : Nat} (h : gCtn M c n len) (hn : n ≤ n2) : gCtn M c n2 len := by
  obtain ⟨id, cs, rf, bs, a1, a2, a3, a4, a5, a6, a7⟩ := h
  exact ⟨id, cs, rf, bs, a1, a2, a3, a4, by omega, by omega, a7⟩
theorem gLC.mono {n2 : Nat} (h : gLC X M c n Rg v b w w1 T er nw lt ed S ch cl) (hn : n ≤ n2) : gLC X M c n2 Rg v b w w1 T er nw lt ed S ch cl := by
  obtain ⟨a1, a2, a3, a4, a5, a6, a7, a8, a9, ⟨t1, t2, t3, t4, t5⟩, a11⟩ := h
  exact ⟨a1, a2, a3, a4, a5, a6, a7.mono hn, a8, a9, ⟨t1, t2, t3, by omega, t5⟩, by omega⟩
theorem gMct.mono {n2 len : Nat} (h : gMct M o n len) (hn : n ≤ n2) : gMct M o n2 len := by
  obtain ⟨L, N, f, R, a1, a2, a3, a4, a5⟩ := h
  exact ⟨L, N, f, R, a1, a2, a3, a4, by omega, by omega, by omega, by omega⟩
theorem gLM.mono {n2 : Nat} (h : gLM X M o n T er nw lt ed S V ch cl) (hn : n ≤ n2) : gLM X M o n2 T er nw lt ed S V ch cl := by
  obtain ⟨a1, a2, a3, a4, a5, a6⟩ := h
  exact ⟨a1, a2, a3, a4, a5.mono hn, a6⟩
/-- INPUT is emptied -/
theorem gLC.clr (h : gLC X M c n Rg v b w w1 T er nw lt ed S ch cl) : gLC X (gUp M c 1 0) c n Rg v b w w1 T er nw lt ed [] ch cl := by
  obtain ⟨a1, a2, a3, a4, a5, a6, a7, a8, a9, a10, a11⟩ := h
  have rb : ∀ i, i < 42 → c + 23 < Rg i ∧ Rg i + 4 < c + 234 := fun i hi => (a2.2.2.1 i hi).2
  have k : ∀ a j, c < a → gUp M c 1 0 a j = M a j := fun a j ha => gUp_a (by omega)
  obtain ⟨id, cs, rf, bs, b1, b2, b3, b4, b5, b6, b7⟩ := a7.kp (M' := gUp M c 1 0) (fun a j h1 h2 => k _ _ (by omega))
  refine ⟨a1, a2, ⟨by rw [gUp_k (by decide)]; exact a3.1, by rw [gUp_k (by decide)]; exact a3.2.1, by rw [gUp_k (by decide)]; exact a3.2.2.1, by rw [gUp_k (by decide)]; exact a3.2.2.2⟩, fun t h1 h2 => ?_, fun i hi => (k _ _ (by have := rb i hi; omega)).trans (a5 i hi), a6.kp a1 (gGw.rf X 0) (Or.inl rfl) (fun a j h1 h2 => k a j (by omega)), ⟨id, cs, rf, bs, b1, b2, b3, b4, b5, ⟨by show cs + 0 ≤ _; omega, by show rf + 0 ≤ _; omega, by show bs + 0 ≤ _; omega⟩, b7⟩, ⟨gUp_eq _ _ _ _, fun j hj => absurd hj (Nat.not_lt_zero _), by decide⟩, ⟨(k _ _ (by omega)).trans a9.1, a9.2.1, fun i hi => (k _ _ (by omega)).trans (a9.2.2 i hi)⟩, a10, a11⟩
  have := rb (t % 41) (by omega)
  exact (a4 t h1 h2).kp (a10.2.2.2.2 t h1 h2) (fun a j h1 h2 => k _ _ (by omega)) (fun a j h1 => k _ _ (by omega))
/-- an edit writes the draft -/
theorem gLC.edd (h : gLC X M c n Rg v b w w1 T er nw lt ed S ch cl) (g : gGw X X' (c + 21)) (gx : glX X' c) (oM : gOff (gEdR c (Rg 41)) M M') : gLC X' M' c n Rg v b w w1 T er nw lt ed S ch cl := by
  obtain ⟨a1, a2, a3, a4, a5, a6, a7, a8, a9, a10, a11⟩ := h
  have rb : ∀ i, i < 42 → c + 23 < Rg i ∧ Rg i + 4 < c + 234 := fun i hi => (a2.2.2.1 i hi).2
  have r41 := rb 41 (by decide)
  have k : ∀ a j, a ≠ c + 21 → a ≠ c + 22 → (a < Rg 41 ∨ Rg 41 + 4 < a) → M' a j = M a j := fun a j h1 h2 h3 => oM _ _ (by unfold gEdR gStR; omega)
  have dj : ∀ i, i < 41 → Rg i + 4 < Rg 41 ∨ Rg 41 + 4 < Rg i := fun i hi => a2.2.2.2 i 41 (by omega) (by decide) (by omega)
  refine ⟨gx, a2.grow a1 g (Or.inr rfl), ⟨?_, ?_, ?_, ?_⟩, fun t h1 h2 => ?_, fun i hi => ?_, a6.kp a1 g (Or.inr rfl) (fun a j h1 h2 => k a j (by omega) (by omega) (by omega)), a7.kp (fun a j h1 h2 => k _ _ (by omega) (by omega) (by omega)), ⟨?_, fun j hj => (k _ _ (by omega) (by omega) (by omega)).trans (a8.2.1 j hj), a8.2.2⟩, ⟨(k _ _ (by omega) (by omega) (by omega)).trans a9.1, a9.2.1, fun i hi => (k _ _ (by omega) (by omega) (by omega)).trans (a9.2.2 i hi)⟩, a10, a11⟩
  · exact (k _ _ (by omega) (by omega) (by omega)).trans a3.1
  · exact (k _ _ (by omega) (by omega) (by omega)).trans a3.2.1
  · exact (k _ _ (by omega) (by omega) (by omega)).trans a3.2.2.1
  · exact (k _ _ (by omega) (by omega) (by omega)).trans a3.2.2.2
  · have := rb (t % 41) (by omega)
    have := dj (t % 41) (by omega)
    exact (a4 t h1 h2).kp (a10.2.2.2.2 t h1 h2) (fun a j h1 h2 => k _ _ (by omega) (by omega) (by omega)) (fun a j h1 => k _ _ (by omega) (by omega) (by omega))
  · by_cases e : i = 41
    · rw [e, oM _ _ (by unfold gEdR gStR; omega)]; exact a5 41 (by decide)
    · have := rb i hi
      have := dj i (by omega)
      exact (k _ _ (by omega) (by omega) (by omega)).trans (a5 i hi)
  · exact (k _ _ (by omega) (by omega) (by omega)).trans a8.1
end ggK
