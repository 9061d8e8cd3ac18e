/-! The reference's follow. -/
theorem gFf_eq {i n m v : Int} (hn : n ≠ 0) (h : ¬ gFla i n m v < gFf i n v) : gFla i n m v = gFf i n v := by
  unfold gFla gFf at *
  by_cases y : v < i
  · rw [if_pos y, if_pos y]
  · rw [if_neg y, if_neg y] at h ⊢
    by_cases z : 0 < n
    · rw [if_pos z, if_pos z] at h ⊢; omega
    · rw [if_neg z, if_neg z] at h ⊢; omega
theorem gmMv_bd {i n m v : Int} (hn : 0 < n ∨ n < 0) (hv : 0 ≤ v ∧ v < m) (hi : 0 ≤ i) : gmMv v i n m = -1 ∨ 0 ≤ gmMv v i n m ∧ gmMv v i n m < m := by
  rcases hn with hn | hn
  · rcases gmMv_p (i := i) (m := m) hn v with y | y | y <;> omega
  · rcases gmMv_n (i := i) (m := m) hn v with y | y | y <;> omega
section ggA
variable {l : Launch} {G : gG} {d : Nat} {X : gX} {M M2 : gM} {o q E : Nat} {F : gSht} {S tg : List Int} {cs i n : Int}
/-- the end of a range: both corners set -/
theorem r_follow231 {M3 : gM} {j f : Nat} {t y low high a b : Int} {k : gM → Prop} (hX : gmX X o) (hq : q < 5200) (hj : j < 50) (hf : f < 4200) (hL : gLin cs i n) (hra : ∀ m : Nat, gmRa M3 o 41 (q : Int) (m : Int) = ((852800 + E + m : Nat) : Int)) (hE : E + j + 1 < 20800) (ht : 0 ≤ t ∧ t < 5200) (hy : 0 ≤ y ∧ y < 5200) (hlo : low = min (gmCo t cs) (gmCo y cs)) (hhi : high = max (gmCo t cs) (gmCo y cs))
    (hb : -1 ≤ b ∧ b < 200) (h : (a = -1 ∧ gFla i n (gFm cs) high < gFf i n low) ∨ (0 ≤ a ∧ ¬ gFla i n (gFm cs) high < gFf i n low ∧ a = gFf i n low ∧ b = gFla i n (gFm cs) high))
    (hk : wp l G y_GM_follow (gRm (d + 1 + 1)) true (kkV X k) true 15 [.val (gR G o), .val (gI (q : Int)), .val (gI cs), .val (gI i), .val (gI n), .val (gI (gFm cs)), .val (gI (f : Int)), .val (gI ((j + 1 : Nat) : Int)), .unset, .unset, .unset, .unset, .unset, .unset, .unset, .unset, .unset] [] X (gUp (gUp M3 (o + 24) (852800 + E + j) (gFrg cs i n t y true)) (o + 24) (852800 + E + (j + 1)) (gFrg cs i n y t false)) 0 0) :
    wp l G y_GM_follow (gRm (d + 1 + 1)) true (kkV X k) true 231 [.val (gR G o), .val (gI (q : Int)), .val (gI cs), .val (gI i), .val (gI n), .val (gI (gFm cs)), .val (gI (f : Int)), .val (gI (j : Int)), .val (gI t), .unset, .val (gI y), .val (gI low), .val (gI high), .val (gI a), .val (gI b), .unset, .unset] [] X M3 0 0 := by
  have hm := gFm_c hL.1
  have c1 := gmCo_m hL.1 ht
  have c2 := gmCo_m hL.1 hy
  have hs : 0 ≤ cs ∧ cs ≤ 1 := by rcases hL.1 with w | w <;> omega
  have hi2 : 0 ≤ i ∧ i < 200 := by have := hL.2.1; have := hL.2.2.1; omega
  have hn2 : -50 ≤ n ∧ n ≤ 50 := by have := hL.2.2.2; omega
  have hn0 : n ≠ 0 := by have := hL.2.2.2; omega
  have lb : 0 ≤ low ∧ low ≤ high ∧ high < 200 := by omega
  have ab : -1 ≤ a ∧ a < 200 := by
    rcases h with w | w
    · omega
    · have := gFlf_bd hL (u := low) (v := high) (by omega) (by omega) (by omega)
      omega
  have e1 : gFrg cs i n t y true = if gFla i n (gFm cs) high < gFf i n low then -1 else gmWi t cs (if gmCo t cs ≤ gmCo y cs then gFf i n low else gFla i n (gFm cs) high) := by
    unfold gFrg
    rw [if_neg (show ¬ t = -1 by omega), ← hlo, ← hhi]
    simp
  have e2 : gFrg cs i n y t false = if gFla i n (gFm cs) high < gFf i n low then -1 else gmWi y cs (if gmCo y cs < gmCo t cs then gFf i n low else gFla i n (gFm cs) high) := by
    unfold gFrg
    rw [if_neg (show ¬ y = -1 by omega), show max (gmCo y cs) (gmCo t cs) = high by omega, show min (gmCo y cs) (gmCo t cs) = low by omega]
    simp
  have bd1 := gFrg_bd hL (x := t) (y := y) (f := true) (Or.inr ht) (fun _ => hy)
  have bd2 := gFrg_bd hL (x := y) (y := t) (f := false) (Or.inr hy) (fun _ => ht)
  generalize gFrg cs i n t y true = v1 at hk e1 bd1
  generalize gFrg cs i n y t false = v2 at hk e2 bd2
  have nxt : ∀ M4 : gM, M4 = gUp (gUp M3 (o + 24) (852800 + E + j) v1) (o + 24) (852800 + E + (j + 1)) v2 → wp l G y_GM_follow (gRm (d + 1 + 1)) true (kkV X k) true 375 [.val (gR G o), .val (gI (q : Int)), .val (gI cs), .val (gI i), .val (gI n), .val (gI (gFm cs)), .val (gI (f : Int)), .val (gI (j : Int)), .unset, .unset, .unset, .unset, .unset, .unset, .unset, .unset, .unset] [] X M4 0 0 := fun M4 e4 => by
    subst e4
    refine w_GM_follow_375 hX ⟨by omega, by omega⟩ ⟨by omega, by omega⟩ ⟨by omega, by omega⟩ ⟨by omega, by omega⟩ ⟨by omega, by omega⟩ ⟨by omega, by omega⟩ ⟨by omega, by omega⟩ ?_
    rw [w32_id (x := (j : Int) + 1) ⟨by omega, by omega⟩, show (j : Int) + 1 = ((j + 1 : Nat) : Int) by omega]
    exact hk
  have set2 : cV l G y_GM_setRef (gRm (d + 1)) true [gR G o, gI 41, gI (q : Int), gI ((j : Int) + 1), gI v2] X (gUp M3 (o + 24) (852800 + E + j) v1) (fun M65 => wp l G y_GM_follow (gRm (d + 1 + 1)) true (kkV X k) true 375 [.val (gR G o), .val (gI (q : Int)), .val (gI cs), .val (gI i), .val (gI n), .val (gI (gFm cs)), .val (gI (f : Int)), .val (gI (j : Int)), .unset, .unset, .unset, .unset, .unset, .unset, .unset, .unset, .unset] [] X M65 0 0) := by
    have er : gmRa (gUp M3 (o + 24) (852800 + E + j) v1) o 41 (q : Int) ((j : Int) + 1) = ((852800 + E + (j + 1) : Nat) : Int) := by
      have := hra (j + 1)
      unfold gmRa at this ⊢
      rw [gUp_a (by omega)]
      omega
    refine c_GM_setRef hX (by decide) ⟨by omega, by omega⟩ ⟨by omega, by omega⟩ ⟨by omega, by omega⟩ (by rw [er]; omega) ?_
    rw [er, Int.toNat_natCast]
    exact nxt _ rfl
  have w322 : ∀ fl sl : Int, (fl = 0 ∨ fl = 1) → (sl = 0 ∨ sl = 1) → (fl = 0 ↔ ¬ gmCo t cs = low) → (sl = 0 ↔ ¬ gmCo y cs = low) → wp l G y_GM_follow (gRm (d + 1 + 1)) true (kkV X k) true 322 [.val (gR G o), .val (gI (q : Int)), .val (gI cs), .val (gI i), .val (gI n), .val (gI (gFm cs)), .val (gI (f : Int)), .val (gI (j : Int)), .unset, .unset, .val (gI y), .val (gI low), .val (gI high), .val (gI a), .val (gI b), .val (gI fl), .val (gI sl)] [gI v1, gI (j : Int), gI (q : Int), gI 41, gR G o] X M3 0 0 := by
    intro fl sl f01 s01 fi si
    refine w_GM_follow_322 hX ⟨by omega, by omega⟩ ⟨by omega, by omega⟩ ⟨by omega, by omega⟩ ⟨by omega, by omega⟩ ⟨by omega, by omega⟩ ⟨by omega, by omega⟩ ⟨by omega, by omega⟩ ⟨by omega, by omega⟩ ⟨by omega, by omega⟩ ⟨by omega, by omega⟩ ⟨by omega, by omega⟩ ⟨by omega, by omega⟩ ⟨by omega, by omega⟩ ⟨by omega, by omega⟩ ⟨by omega, by omega⟩ ⟨by omega, by omega⟩ ⟨by omega, by omega⟩ (g32_c rfl) ?_
    refine c_GM_setRef hX (by decide) ⟨by omega, by omega⟩ ⟨by omega, by omega⟩ ⟨by omega, by omega⟩ (by rw [hra j]; omega) ?_
    rw [hra j, Int.toNat_natCast]
    rcases h with ⟨h1, h2⟩ | ⟨h1, h2, h3, h4⟩
    · rw [if_pos h2] at e2
      rw [e2] at set2
      exact ⟨fun w => absurd w (by omega), fun _ => set2⟩
    · rw [if_neg h2] at e2
      refine ⟨fun _ => ⟨fun w => c_GM_with hy hs ⟨by omega, by omega⟩ ?_, fun w => ⟨fun z => c_GM_with hy hs ⟨by omega, by omega⟩ ?_, fun z => ⟨fun u => absurd (by omega) u, fun u => c_GM_with hy hs ⟨by omega, by omega⟩ ?_⟩⟩⟩, fun w => absurd h1 w⟩
      · rw [if_neg (by have := si.mp w; omega), ← h4] at e2
        rw [← e2]; exact set2
      · have p1 := fi.mp z
        have p2 : gmCo y cs = low := Decidable.byContradiction fun q => w (si.mpr q)
        rw [if_pos (by omega), ← h3] at e2
        rw [← e2]; exact set2
      · have p1 : gmCo t cs = low := Decidable.byContradiction fun q => z (fi.mpr q)
        have p2 : gmCo y cs = low := Decidable.byContradiction fun q => w (si.mpr q)
        have lh : high = low := by omega
        have ee := gFf_eq (i := i) (m := gFm cs) (v := low) hn0 (by rw [lh] at h2; exact h2)
        rw [if_neg (by omega), lh, ee, ← h3] at e2
        rw [← e2]; exact set2
  have w287 : ∀ fl sl : Int, (fl = 0 ∨ fl = 1) → (sl = 0 ∨ sl = 1) → (fl = 0 ↔ ¬ gmCo t cs = low) → (sl = 0 ↔ ¬ gmCo y cs = low) → wp l G y_GM_follow (gRm (d + 1 + 1)) true (kkV X k) true 287 [.val (gR G o), .val (gI (q : Int)), .val (gI cs), .val (gI i), .val (gI n), .val (gI (gFm cs)), .val (gI (f : Int)), .val (gI (j : Int)), .val (gI t), .unset, .val (gI y), .val (gI low), .val (gI high), .val (gI a), .val (gI b), .val (gI fl), .unset] [gI sl] X M3 0 0 := by
    intro fl sl f01 s01 fi si
    have nx := w322 fl sl f01 s01 fi si
    refine w_GM_follow_287 hX ⟨by omega, by omega⟩ ⟨by omega, by omega⟩ ⟨by omega, by omega⟩ ⟨by omega, by omega⟩ ⟨by omega, by omega⟩ ⟨by omega, by omega⟩ ⟨by omega, by omega⟩ ⟨by omega, by omega⟩ ⟨by omega, by omega⟩ ⟨by omega, by omega⟩ ⟨by omega, by omega⟩ ⟨by omega, by omega⟩ ⟨by omega, by omega⟩ ⟨by omega, by omega⟩ ⟨by omega, by omega⟩ ?_
    rcases h with ⟨h1, h2⟩ | ⟨h1, h2, h3, h4⟩
    · rw [if_pos h2] at e1
      rw [e1] at nx
      exact ⟨fun w => absurd w (by omega), fun _ => nx⟩
    · rw [if_neg h2] at e1
      refine ⟨fun _ => ⟨fun w => c_GM_with ht hs ⟨by omega, by omega⟩ ?_, fun w => c_GM_with ht hs ⟨by omega, by omega⟩ ?_⟩, fun w => absurd h1 w⟩
      · rw [if_neg (by have := fi.mp w; omega), ← h4] at e1
        rw [← e1]; exact nx
      · have p1 : gmCo t cs = low := Decidable.byContradiction fun q => w (fi.mpr q)
        rw [if_pos (by omega), ← h3] at e1
        rw [← e1]; exact nx
  have co : ∀ x : Int, 0 ≤ x ∧ x < 5200 → (cs = 0 → w32 (x.tdiv 26) = gmCo x cs) ∧ (¬ cs = 0 → w32 (x.tmod 26) = gmCo x cs) := fun x hx => by
    unfold gmCo
    rw [Int.tdiv_eq_ediv_of_nonneg hx.1, Int.tmod_eq_emod_of_nonneg hx.1, w32_id (x := x / 26) ⟨by omega, by omega⟩, w32_id (x := x % 26) ⟨by omega, by omega⟩]
    exact ⟨fun z => (if_pos z).symm, fun z => (if_neg z).symm⟩
  have w277 : ∀ fl : Int, (fl = 0 ∨ fl = 1) → (fl = 0 ↔ ¬ gmCo t cs = low) → wp l G y_GM_follow (gRm (d + 1 + 1)) true (kkV X k) true 277 [.val (gR G o), .val (gI (q : Int)), .val (gI cs), .val (gI i), .val (gI n), .val (gI (gFm cs)), .val (gI (f : Int)), .val (gI (j : Int)), .val (gI t), .unset, .val (gI y), .val (gI low), .val (gI high), .val (gI a), .val (gI b), .val (gI fl), .unset] [gI (gmCo y cs)] X M3 0 0 := by
    intro fl f01 fi
    exact w_GM_follow_277 hX ⟨by omega, by omega⟩ ⟨by omega, by omega⟩ ⟨by omega, by omega⟩ ⟨by omega, by omega⟩ ⟨by omega, by omega⟩ ⟨by omega, by omega⟩ ⟨by omega, by omega⟩ ⟨by omega, by omega⟩ ⟨by omega, by omega⟩ ⟨by omega, by omega⟩ ⟨by omega, by omega⟩ ⟨by omega, by omega⟩ ⟨by omega, by omega⟩ ⟨by omega, by omega⟩ ⟨by omega, by omega⟩ ⟨fun z => w287 fl 0 f01 (Or.inl rfl) fi ⟨fun _ => z, fun _ => rfl⟩, fun z => w287 fl 1 f01 (Or.inr rfl) fi ⟨fun u => absurd u (by decide), fun u => absurd z u⟩⟩
  have w258 : ∀ fl : Int, (fl = 0 ∨ fl = 1) → (fl = 0 ↔ ¬ gmCo t cs = low) → wp l G y_GM_follow (gRm (d + 1 + 1)) true (kkV X k) true 258 [.val (gR G o), .val (gI (q : Int)), .val (gI cs), .val (gI i), .val (gI n), .val (gI (gFm cs)), .val (gI (f : Int)), .val (gI (j : Int)), .val (gI t), .unset, .val (gI y), .val (gI low), .val (gI high), .val (gI a), .val (gI b), .unset, .unset] [gI fl] X M3 0 0 := by
    intro fl f01 fi
    have nx := w277 fl f01 fi
    refine w_GM_follow_258 hX ⟨by omega, by omega⟩ ⟨by omega, by omega⟩ ⟨by omega, by omega⟩ ⟨by omega, by omega⟩ ⟨by omega, by omega⟩ ⟨by omega, by omega⟩ ⟨by omega, by omega⟩ ⟨by omega, by omega⟩ ⟨by omega, by omega⟩ ⟨by omega, by omega⟩ ⟨by omega, by omega⟩ ⟨by omega, by omega⟩ ⟨by omega, by omega⟩ ⟨by omega, by omega⟩ ⟨fun z => ?_, fun z => ?_⟩
    · rw [(co y hy).1 z]; exact nx
    · rw [(co y hy).2 z]; exact nx
  have w248 : wp l G y_GM_follow (gRm (d + 1 + 1)) true (kkV X k) true 248 [.val (gR G o), .val (gI (q : Int)), .val (gI cs), .val (gI i), .val (gI n), .val (gI (gFm cs)), .val (gI (f : Int)), .val (gI (j : Int)), .val (gI t), .unset, .val (gI y), .val (gI low), .val (gI high), .val (gI a), .val (gI b), .unset, .unset] [gI (gmCo t cs)] X M3 0 0 :=
    w_GM_follow_248 hX ⟨by omega, by omega⟩ ⟨by omega, by omega⟩ ⟨by omega, by omega⟩ ⟨by omega, by omega⟩ ⟨by omega, by omega⟩ ⟨by omega, by omega⟩ ⟨by omega, by omega⟩ ⟨by omega, by omega⟩ ⟨by omega, by omega⟩ ⟨by omega, by omega⟩ ⟨by omega, by omega⟩ ⟨by omega, by omega⟩ ⟨by omega, by omega⟩ ⟨by omega, by omega⟩ ⟨fun z => w258 0 (Or.inl rfl) ⟨fun _ => z, fun _ => rfl⟩, fun z => w258 1 (Or.inr rfl) ⟨fun u => absurd u (by decide), fun u => absurd z u⟩⟩
  refine w_GM_follow_231 hX ⟨by omega, by omega⟩ ⟨by omega, by omega⟩ ⟨by omega, by omega⟩ ⟨by omega, by omega⟩ ⟨by omega, by omega⟩ ⟨by omega, by omega⟩ ⟨by omega, by omega⟩ ⟨by omega, by omega⟩ ⟨by omega, by omega⟩ ⟨by omega, by omega⟩ ⟨by omega, by omega⟩ ⟨by omega, by omega⟩ ⟨by omega, by omega⟩ ⟨fun z => ?_, fun z => ?_⟩
  · rw [(co t ht).1 z]; exact w248
  · rw [(co t ht).2 z]; exact w248
end ggA
