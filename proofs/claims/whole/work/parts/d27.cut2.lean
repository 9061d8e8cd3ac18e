/-! The reference: cut, the rest. -/
theorem gSgk_2 (b : Int) : gSgk b = 2 ↔ b = 60 := by
  constructor
  · intro h
    unfold gSgk at h
    (repeat' split at h) <;> omega
  · intro h; rw [h]; decide
theorem gSgk_4 (b : Int) : gSgk b = 4 ↔ b = 62 := by
  constructor
  · intro h
    unfold gSgk at h
    (repeat' split at h) <;> omega
  · intro h; rw [h]; decide
/-- what cut writes: tokens from n on -/
def gCtF (o n : Nat) : Nat → Nat → Prop := fun x j => (x = o ∧ (j = 24 ∨ j = 27 ∨ j = 3)) ∨ (o + 13 ≤ x ∧ x ≤ o + 18 ∧ n ≤ j)
theorem gWoF_ct {o n : Nat} : ∀ x j, gWoF o n x j → gCtF o n x j := by
  intro x j h
  unfold gWoF at h
  unfold gCtF
  omega
theorem gCtF_le {o n m : Nat} (h : n ≤ m) : ∀ x j, gCtF o m x j → gCtF o n x j := by
  intro x j q
  unfold gCtF at q ⊢
  omega
section gdAA
variable {l : Launch} {G : gG} {d : Nat} {X : gX} {M M2 : gM} {o L : Nat} {Q : gQ} {S : List Int}
theorem gTkm.kp {i : Nat} {t : gTkn} (h : gTkm M o L S i t) (e : ∀ x, o + 13 ≤ x → x ≤ o + 18 → M2 x i = M x i) : gTkm M2 o L S i t := by
  unfold gTkm at h ⊢
  rw [e (o + 13) (by omega) (by omega), e (o + 14) (by omega) (by omega), e (o + 15) (by omega) (by omega), e (o + 16) (by omega) (by omega), e (o + 17) (by omega) (by omega), e (o + 18) (by omega) (by omega)]
  exact h
theorem r_cutG {p n : Nat} {c : Int} {k : gM → Prop} (hX : gmX X o) (hI : gInm M o L S) (hp : p < S.length) (hn : M o 24 = (n : Int)) (hn2 : n ≤ 100) (hb : M o 27 = 0) (hc : S.getD p 0 = c) (hc34 : c ≠ 34) (hcw : ¬ gWb c)
    (h0 : (gTn1 S p).1 = 24 ∨ n = 100 → ∀ (M2 : gM) (x3 : Int), g32 x3 → gOff (gWoF o n) M M2 → M2 o 27 = 1 → gW7 l G d X o L S k x3 M2)
    (h1 : (gTn1 S p).1 ≠ 24 → n < 100 → ∀ M2, gOff (gWoF o n) M M2 → M2 o 27 = 0 → M2 o 24 = ((n + 1 : Nat) : Int) → gTkm M2 o L S n ((gTn1 S p).1, p, (gTn1 S p).2) → gW7 l G d X o L S k ((L + (gTn1 S p).2 : Nat) : Int) M2) :
    ((c = 60 ∧ (gSn S p = 62 ∨ gSn S p = 61) → wp l G y_GM_cut (gRm (d + 6 + 1)) true (kkV X k) true 246 [.val (gR G o), .unset, .val (gI ((L + S.length : Nat) : Int)), .val (gI ((L + (p + 1) : Nat) : Int)), .val (gI c), .val (gI (gSn S p)), .val (gI ((L + p : Nat) : Int))] [] X M 0 0) ∧ (¬ (c = 60 ∧ (gSn S p = 62 ∨ gSn S p = 61)) → wp l G y_GM_cut (gRm (d + 6 + 1)) true (kkV X k) true 232 [.val (gR G o), .unset, .val (gI ((L + S.length : Nat) : Int)), .val (gI ((L + (p + 1) : Nat) : Int)), .val (gI c), .val (gI (gSn S p)), .val (gI ((L + p : Nat) : Int))] [] X M 0 0)) := by
  have hl := hI.2.1
  have hl2 := hI.2.2.1
  have gq : g32 ((L + S.length : Nat) : Int) := ⟨by omega, by omega⟩
  have gp : g32 ((L + p : Nat) : Int) := ⟨by omega, by omega⟩
  have g1 : g32 ((L + (p + 1) : Nat) : Int) := ⟨by omega, by omega⟩
  have gc : g32 c := by have := (hI.b hp).2; rw [hc] at this; exact ⟨by omega, by omega⟩
  have gs : g32 (gSn S p) := by
    unfold gSn
    split
    · rename_i h
      have := (hI.b h).2
      exact ⟨by omega, by omega⟩
    · exact g32_c rfl
  have eT : gTn1 S p = if c = 60 ∧ gSn S p = 62 then (1, p + 2) else if c = 60 ∧ gSn S p = 61 then (3, p + 2) else if c = 62 ∧ gSn S p = 61 then (5, p + 2) else (gSgk c, p + 1) := by
    unfold gTn1
    rw [hc, if_neg hc34, if_neg hcw]
    simp only [gSgk_2, gSgk_4]
  have f273 : ∀ (s kk : Int), gTn1 S p = (kk, p + 2) → gKm kk = s → g32 s → (kk = 1 ∨ kk = 3 ∨ kk = 5) → wp l G y_GM_cut (gRm (d + 6 + 1)) true (kkV X k) true 273 [.val (gR G o), .unset, .val (gI ((L + S.length : Nat) : Int)), .val (gI ((L + (p + 1) : Nat) : Int)), .unset, .unset, .val (gI ((L + p : Nat) : Int))] [gI s, gR G o] X M 0 0 := by
    intro s kk e es g hk
    rw [e] at h0 h1
    dsimp only at h0 h1
    have g2 : g32 ((L + (p + 2) : Nat) : Int) := ⟨by omega, by omega⟩
    refine w_GM_cut_273 hX gq g1 gp g ?_
    rw [w32_id (x := ((L + (p + 1) : Nat) : Int) + 1) ⟨by omega, by omega⟩, show ((L + (p + 1) : Nat) : Int) + 1 = ((L + (p + 2) : Nat) : Int) by omega]
    refine r_tok hX hn hn2 g gp g2 (fun e => w_GM_cut_402 hX gq g2 (h0 (Or.inr e) _ _ g2 ((gOff.rf _ _).up (by unfold gWoF; omega)) (gUp_eq _ _ _ _))) (fun hlt => w_GM_cut_402 hX gq g2 ?_)
    obtain ⟨a1, a2, a3, a4, a5, a6⟩ := @gTk3_at M o n s ((L + p : Nat) : Int) ((L + (p + 2) : Nat) : Int)
    refine h1 (by omega) hlt _ gTk3_off (a5.trans hb) a4 ⟨a1.trans es.symm, ?_, ?_, fun y => absurd y (by dsimp only; omega), fun y => absurd y (by dsimp only; omega)⟩
    · rw [if_neg (by dsimp only; omega)]; exact a2
    · rw [if_neg (by dsimp only; omega)]; exact a3
  have f385 : gTn1 S p = (gSgk c, p + 1) → gSgk c ≤ 16 → gKm (gSgk c) = c → wp l G y_GM_cut (gRm (d + 6 + 1)) true (kkV X k) true 385 [.val (gR G o), .unset, .val (gI ((L + S.length : Nat) : Int)), .val (gI ((L + (p + 1) : Nat) : Int)), .val (gI c), .unset, .val (gI ((L + p : Nat) : Int))] [] X M 0 0 := by
    intro e hk es
    rw [e] at h0 h1
    dsimp only at h0 h1
    refine w_GM_cut_385 hX gq g1 gc gp ?_
    refine r_tok hX hn hn2 gc gp g1 (fun e => w_GM_cut_402 hX gq g1 (h0 (Or.inr e) _ _ g1 ((gOff.rf _ _).up (by unfold gWoF; omega)) (gUp_eq _ _ _ _))) (fun hlt => w_GM_cut_402 hX gq g1 ?_)
    obtain ⟨a1, a2, a3, a4, a5, a6⟩ := @gTk3_at M o n c ((L + p : Nat) : Int) ((L + (p + 1) : Nat) : Int)
    refine h1 (by omega) hlt _ gTk3_off (a5.trans hb) a4 ⟨a1.trans es.symm, ?_, ?_, fun y => absurd y (by dsimp only; omega), fun y => absurd y (by dsimp only; omega)⟩
    · rw [if_neg (by dsimp only; omega)]; exact a2
    · rw [if_neg (by dsimp only; omega)]; exact a3
  have f287 : gTn1 S p = (gSgk c, p + 1) → wp l G y_GM_cut (gRm (d + 6 + 1)) true (kkV X k) true 287 [.val (gR G o), .unset, .val (gI ((L + S.length : Nat) : Int)), .val (gI ((L + (p + 1) : Nat) : Int)), .val (gI c), .unset, .val (gI ((L + p : Nat) : Int))] [] X M 0 0 := by
    intro e
    have tk := f385 e
    refine w_GM_cut_287 hX gq g1 gc gp ?_
    refine ⟨fun z => tk (by rw [z]; decide) (by rw [z]; decide), fun z1 => ?_⟩
    refine ⟨fun z => tk (by rw [z]; decide) (by rw [z]; decide), fun z2 => ?_⟩
    refine ⟨fun z => tk (by rw [z]; decide) (by rw [z]; decide), fun z3 => ?_⟩
    refine ⟨fun z => tk (by rw [z]; decide) (by rw [z]; decide), fun z4 => ?_⟩
    refine ⟨fun z => tk (by rw [z]; decide) (by rw [z]; decide), fun z5 => ?_⟩
    refine ⟨fun z => tk (by rw [z]; decide) (by rw [z]; decide), fun z6 => ?_⟩
    refine ⟨fun z => tk (by rw [z]; decide) (by rw [z]; decide), fun z7 => ?_⟩
    refine ⟨fun z => tk (by rw [z]; decide) (by rw [z]; decide), fun z8 => ?_⟩
    refine ⟨fun z => tk (by rw [z]; decide) (by rw [z]; decide), fun z9 => ?_⟩
    refine ⟨fun z => tk (by rw [z]; decide) (by rw [z]; decide), fun z10 => ?_⟩
    refine ⟨fun z => tk (by rw [z]; decide) (by rw [z]; decide), fun z11 => ?_⟩
    refine ⟨fun z => tk (by rw [z]; decide) (by rw [z]; decide), fun z12 => ?_⟩
    refine ⟨fun z => tk (by rw [z]; decide) (by rw [z]; decide), fun z13 => ?_⟩
    refine ⟨fun z14 => w_GM_cut_402 hX gq g1 (h0 (Or.inl ?_) _ _ g1 ((gOff.rf _ _).up (by unfold gWoF; omega)) (gUp_eq _ _ _ _)), fun z => tk (by rw [z]; decide) (by rw [z]; decide)⟩
    rw [e]
    show gSgk c = 24
    unfold gSgk
    repeat rw [if_neg (by assumption)]
  refine ⟨fun z => w_GM_cut_246 hX gq g1 gc gs gp ⟨fun _ => ⟨fun z2 => f273 108 3 ?_ rfl (g32_c rfl) (by decide), fun z2 => f273 110 1 ?_ rfl (g32_c rfl) (by decide)⟩, fun z2 => absurd z2 (by omega)⟩, fun z => w_GM_cut_232 hX gq g1 gc gs gp ⟨fun z2 => f287 ?_, fun z2 => ⟨fun z3 => f287 ?_, fun z3 => w_GM_cut_246 hX gq g1 gc gs gp ⟨fun y => absurd z2 y, fun _ => f273 103 5 ?_ rfl (g32_c rfl) (by decide)⟩⟩⟩⟩
  · rw [eT, if_neg (by omega), if_pos (by omega)]
  · rw [eT, if_pos (by omega)]
  · rw [eT, if_neg (by omega), if_neg (by omega), if_neg (by omega)]
  · rw [eT, if_neg (by omega), if_neg (by omega), if_neg (by omega)]
  · rw [eT, if_neg (by omega), if_neg (by omega), if_pos (by omega)]
theorem gmX_let (hX : gmX X o) : 1 ≤ o + 1 ∧ o + 1 ≤ X.1 ∧ X.2.1 (o + 1) = (2, 90000) := by
  have h := gm_row hX 0 (k := 1) (j := 1) (t := 2) (n := 90000) rfl
  exact ⟨h.2.2.1, h.2.2.2, h.2.1⟩
/-- one step of the loop -/
theorem r_cut1 {p n : Nat} {k : gM → Prop} (hX : gmX X o) (hO : gOld G Q) (hI : gInm M o L S) (hp : p < S.length) (hn : M o 24 = (n : Int)) (hn2 : n ≤ 100) (hb : M o 27 = 0)
    (hs : S.getD p 0 = 32 → gW7 l G d X o L S k ((L + (p + 1) : Nat) : Int) M)
    (h0 : S.getD p 0 ≠ 32 → (gTn1 S p).1 = 24 ∨ n = 100 → ∀ (M2 : gM) (x3 : Int), g32 x3 → gOff (gWoF o n) M M2 → M2 o 27 = 1 → gW7 l G d X o L S k x3 M2)
    (h1 : S.getD p 0 ≠ 32 → (gTn1 S p).1 ≠ 24 → n < 100 → ∀ M2, gOff (gWoF o n) M M2 → M2 o 27 = 0 → M2 o 24 = ((n + 1 : Nat) : Int) → gTkm M2 o L S n ((gTn1 S p).1, p, (gTn1 S p).2) → gW7 l G d X o L S k ((L + (gTn1 S p).2 : Nat) : Int) M2) : gW7 l G d X o L S k ((L + p : Nat) : Int) M := by
  have hl := hI.2.1
  have hl2 := hI.2.2.1
  have gq : g32 ((L + S.length : Nat) : Int) := ⟨by omega, by omega⟩
  have gp : g32 ((L + p : Nat) : Int) := ⟨by omega, by omega⟩
  have g1 : g32 ((L + (p + 1) : Nat) : Int) := ⟨by omega, by omega⟩
  have ew : w32 (((L + p : Nat) : Int) + 1) = ((L + (p + 1) : Nat) : Int) := (w32_id ⟨by omega, by omega⟩).trans (by omega)
  obtain ⟨eB, b1, b2⟩ := hI.b hp
  have gc : g32 (S.getD p 0) := ⟨by omega, by omega⟩
  have s46 : ∀ s : Int, s = gSn S p → g32 s → wp l G y_GM_cut (gRm (d + 6 + 1)) true (kkV X k) true 46 [.val (gR G o), .unset, .val (gI ((L + S.length : Nat) : Int)), .val (gI ((L + p : Nat) : Int)), .val (gI (S.getD p 0)), .unset, .unset] [gI s] X M 0 0 := by
    intro s es g
    refine w_GM_cut_46 hX gq gp gc g ⟨fun z => c_GM_letter gc ?_, fun z => ?_⟩
    · have h0 := h0 z
      have h1 := h1 z
      rw [ew]
      have W := fun hw => r_cutW hX hO hI hp hn hn2 hb (gmX_let hX) hw h0 h1
      unfold gWb gCap at W
      by_cases q1 : (65 ≤ S.getD p 0 ∧ S.getD p 0 ≤ 90) ∨ (97 ≤ S.getD p 0 ∧ S.getD p 0 ≤ 122)
      · rw [if_pos q1]
        exact ⟨fun _ => W (by omega), fun z => absurd z (by decide)⟩
      rw [if_neg q1]
      refine ⟨fun z => absurd rfl z, fun _ => c_GM_digit gc ?_⟩
      by_cases q2 : 48 ≤ S.getD p 0 ∧ S.getD p 0 ≤ 57
      · rw [if_pos q2]
        exact ⟨fun _ => W (by omega), fun z => absurd z (by decide)⟩
      rw [if_neg q2]
      refine ⟨fun z => absurd rfl z, fun _ => ⟨fun z36 => ⟨fun z34 => ?_, fun z34 => r_cutQ hX hI hp hn hn2 hb z34 h0 h1⟩, fun z36 => W (by omega)⟩⟩
      have G2 := r_cutG hX hI hp hn hn2 hb rfl z34 (by unfold gWb gCap; omega) h0 h1
      rw [es]
      exact ⟨fun y => G2.2 (by omega), fun y => ⟨fun y2 => G2.1 (by omega), fun y2 => ⟨fun y3 => G2.1 (by omega), fun y3 => G2.2 (by omega)⟩⟩⟩
    · rw [ew]
      exact hs z
  refine w_GM_cut_7 hX gq gp ⟨fun z => absurd z (by omega), fun _ _ => ⟨fun z => absurd hb z, fun _ => ⟨⟨by omega, by omega⟩, fun _ => ?_⟩⟩⟩
  rw [ew, Int.toNat_natCast, eB]
  refine ⟨fun z => s46 0 ?_ (g32_c rfl), fun z => ⟨⟨by omega, by omega⟩, fun _ => ?_⟩⟩
  · unfold gSn
    rw [if_neg (by omega)]
  · obtain ⟨eC, c1, c2⟩ := hI.b (j := p + 1) (by omega)
    rw [show (((L + p : Nat) : Int) + 1).toNat = L + (p + 1) by omega, eC]
    refine s46 _ ?_ ⟨by omega, by omega⟩
    unfold gSn
    rw [if_pos (by omega)]
/-- the loop -/
theorem r_cutL {k : gM → Prop} (hX : gmX X o) (hO : gOld G Q) : ∀ (f p n : Nat) (M : gM), S.length ≤ p + f → p ≤ S.length → gInm M o L S → M o 24 = (n : Int) → n ≤ 100 → M o 27 = 0 →
    ((∀ ts, gLx S f p = some ts → 100 < n + ts.length) → ∀ M2, gOff (gCtF o n) M M2 → M2 o 27 = 1 → k M2) →
    (∀ ts, gLx S f p = some ts → n + ts.length ≤ 100 → ∀ M2, gOff (gCtF o n) M M2 → M2 o 27 = 0 → M2 o 24 = ((n + ts.length : Nat) : Int) → (∀ i, i < ts.length → gTkm M2 o L S (n + i) (gTs ts i)) → k M2) → gW7 l G d X o L S k ((L + p : Nat) : Int) M := by
  intro f
  induction f with
  | zero =>
    intro p n M hf hp hI hn hn2 hb h0 h1
    have hl := hI.2.1
    have hl2 := hI.2.2.1
    refine w_GM_cut_7 hX ⟨by omega, by omega⟩ ⟨by omega, by omega⟩ ⟨fun _ => w_GM_cut_405 hX (h1 [] rfl hn2 M (gOff.rf _ _) hb hn (fun i hi => absurd hi (Nat.not_lt_zero _))), fun z => absurd (by omega) z⟩
  | succ f ih =>
    intro p n M hf hp hI hn hn2 hb h0 h1
    have hl := hI.2.1
    have hl2 := hI.2.2.1
    by_cases hp2 : S.length ≤ p
    · have e : gLx S (f + 1) p = some [] := by unfold gLx; rw [if_pos hp2]
      refine w_GM_cut_7 hX ⟨by omega, by omega⟩ ⟨by omega, by omega⟩ ⟨fun _ => w_GM_cut_405 hX (h1 [] e hn2 M (gOff.rf _ _) hb hn (fun i hi => absurd hi (Nat.not_lt_zero _))), fun z => absurd (by omega) z⟩
    refine r_cut1 hX hO hI (by omega) hn hn2 hb (fun z => ?_) (fun z hbad M2 x3 g3 o2 f2 => ?_) (fun z hk hlt M2 o2 f2 n2 t2 => ?_)
    · have e : gLx S (f + 1) p = gLx S f (p + 1) := by
        rw [gLx, if_neg hp2, if_pos z]
      rw [e] at h0 h1
      exact ih (p + 1) n M (by omega) (by omega) hI hn hn2 hb h0 h1
    · have kk : k M2 := by
        refine h0 (fun ts e => ?_) M2 (o2.mono gWoF_ct) f2
        rw [gLx_24 hp2 z] at e
        rcases hbad with y | y
        · rw [if_pos y] at e; cases e
        · split at e
          · cases e
          · cases hq : gLx S f (gTn1 S p).2 with
            | none => rw [hq] at e; cases e
            | some us =>
              rw [hq] at e
              cases e
              show 100 < n + (us.length + 1)
              omega
      exact w_GM_cut_7 hX ⟨by omega, by omega⟩ g3 ⟨fun _ => w_GM_cut_405 hX kk, fun _ _ => ⟨fun _ => w_GM_cut_405 hX kk, fun y => absurd (f2.symm.trans y) (by decide)⟩⟩
    · have tk := gTkO_k (S := S) (t := ((gTn1 S p).1, p, (gTn1 S p).2)) ⟨by show p < S.length; omega, rfl, hk⟩
      have tk : 0 ≤ (gTn1 S p).1 ∧ (gTn1 S p).1 < 23 ∧ p < (gTn1 S p).2 ∧ (gTn1 S p).2 ≤ S.length := tk
      rw [gLx_24 hp2 z, if_neg hk] at h0 h1
      refine ih (gTn1 S p).2 (n + 1) M2 (by omega) tk.2.2.2 (hI.kp (fun j => o2 _ _ (by unfold gWoF; omega))) n2 (by omega) f2 (fun hN M3 o3 f3 => h0 (fun ts e => ?_) M3 ((o2.mono gWoF_ct).tr (o3.mono (gCtF_le (by omega)))) f3) (fun us hu hl M3 o3 f3 n3 t3 => h1 _ (by rw [hu]; rfl) (by show n + (us.length + 1) ≤ 100; omega) M3 ((o2.mono gWoF_ct).tr (o3.mono (gCtF_le (by omega)))) f3 ?_ (fun i hi => ?_))
      · cases hq : gLx S f (gTn1 S p).2 with
        | none => rw [hq] at e; cases e
        | some us =>
          rw [hq] at e
          cases e
          have := hN us hq
          show 100 < n + (us.length + 1)
          omega
      · rw [n3]
        show ((n + 1 + us.length : Nat) : Int) = ((n + (us.length + 1) : Nat) : Int)
        omega
      · cases i with
        | zero =>
          exact t2.kp (fun x hx1 hx2 => o3 _ _ (by unfold gCtF; omega))
        | succ i =>
          have := t3 i (by have : i + 1 < us.length + 1 := hi; omega)
          rw [show n + (i + 1) = n + 1 + i by omega]
          exact this
theorem r_cut {k : gM → Prop} (hX : gmX X o) (hO : gOld G Q) (hI : gInm M o L S) (hl1 : 1 ≤ S.length) (hb : M o 27 = 0)
    (h0 : gLexs S = none → ∀ M2, gOff (gCtF o 0) M M2 → M2 o 27 = 1 → k M2)
    (h1 : ∀ ts, gLexs S = some ts → ∀ M2, gOff (gCtF o 0) M M2 → M2 o 27 = 0 → M2 o 24 = (ts.length : Int) → (∀ i, i < ts.length → gTkm M2 o L S i (gTs ts i)) → k M2) : cV l G y_GM_cut (gRm (d + 7)) true [gR G o, gI ((L + 1 : Nat) : Int), gI ((L + S.length : Nat) : Int)] X M k := by
  have hl := hI.2.1
  have hl2 := hI.2.2.1
  refine e_GM_cut (w_GM_cut_0 (d := d + 6) hX ⟨by omega, by omega⟩ ⟨by omega, by omega⟩ ?_)
  have o1 : gOff (gCtF o 0) M (gUp M o 24 0) := (gOff.rf _ _).up (by unfold gCtF; omega)
  refine r_cutL hX hO (S.length - 1) 1 0 (gUp M o 24 0) (by omega) hl1 (hI.kp (fun j => gUp_a (by omega))) (gUp_eq _ _ _ _) (by omega) (by rw [gUp_k (by decide)]; exact hb) (fun hN M2 o2 f2 => h0 ?_ M2 (o1.tr o2) f2) (fun ts e hl M2 o2 f2 n2 t2 => h1 ts ?_ M2 (o1.tr o2) f2 (by rw [n2, Nat.zero_add]) (fun i hi => by have := t2 i hi; rw [Nat.zero_add] at this; exact this))
  · unfold gLexs
    cases hq : gLx S (S.length - 1) 1 with
    | none => rfl
    | some ts =>
      have := hN ts hq
      exact if_neg (by omega)
  · unfold gLexs
    rw [e]
    exact if_pos (by omega)
end gdAA
