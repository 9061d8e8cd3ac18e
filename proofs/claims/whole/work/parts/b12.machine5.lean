/-! The class's Machine: texts written, arguments made ready, a work done. -/
/-- the first error among n arguments from i on (t: the letters; v takes errors too) -/
def gBadA (t : Nat) (as : Nat → gVl) : Nat → Nat → Option Int
  | 0, _ => none
  | n + 1, i => if (as i).kd = 4 ∧ gSc t i ≠ 118 then some (as i).nm else gBadA t as n (i + 1)
/-- is there an argument that can't be what is asked -/
def gNoT (t : Nat) (as : Nat → gVl) : Nat → Nat → Bool
  | 0, _ => false
  | n + 1, i => (gTurn (as i) (gSc t i)).isNone || gNoT t as n (i + 1)
def gTo (w : gVl) (c : Int) : gVl := (gTurn w c).getD w
/-- the work w of arguments that are worked out -/
def gApp (E : Int → gVl) (w : Nat) (as : Nat → gVl) : gVl := match gBadA (gWta w) as (gSl (gWta w)) 0 with
  | some e => gE e
  | none => if gNoT (gWta w) as (gSl (gWta w)) 0 = true then gE 4 else gWk E w (gTo (as 0) (gSc (gWta w) 0)) (gTo (as 1) (gSc (gWta w) 1)) (gTo (as 2) (gSc (gWta w) 2))
/-- the stack from slot n on, and what the works write beside it -/
def gAb (c n : Nat) : Nat → Nat → Prop := fun a k => (a = c + 1058 + 1 ∧ n ≤ k) ∨ (a = c + 1058 + 2 ∧ n ≤ k) ∨ (c + 1058 + 4 + n ≤ a ∧ a ≤ c + 1167)
theorem gAb_mr {c n s : Nat} (h : n ≤ s) (hs : s < 104) : ∀ a k, gMr c s a k → gAb c n a k := by
  intro a k q
  unfold gMr gVs at q
  unfold gAb
  omega
theorem gAb_le {c n s : Nat} (h : n ≤ s) : ∀ a k, gAb c s a k → gAb c n a k := by
  intro a k q
  unfold gAb at *
  omega
theorem gAb_at {c n t : Nat} {M M2 : gM} {w : gVl} (o : gOff (gAb c n) M M2) (h : t < n) (hn : n ≤ 104) (hw : gvAt M (c + 1058) t w) : gvAt M2 (c + 1058) t w := by
  refine hw.keep o ?_ ?_ (fun j _ => ?_) <;> unfold gAb <;> omega
theorem gEnv.keepA {X : gX} {M M2 : gM} {c v n : Nat} {E : Int → gVl} (h : gEnv X M c v E) (o : gOff (gAb c n) M M2) : gEnv X M2 c v E := by
  refine ⟨h.1, h.2.1, fun p h0 h1 => ?_⟩
  obtain ⟨q1, q2, q3, q4, q5⟩ := h.2.2 p h0 h1
  have hv := h.2.1
  have e : M2 (c + 235) p.toNat = M (c + 235) p.toNat := o _ _ (by unfold gAb; omega)
  rw [e]
  refine ⟨q1, q2, q3.keep o ?_ ?_ (fun j _ => ?_), q4, q5⟩ <;> unfold gAb <;> omega
/-- an argument as it was worked out: an error, or what may stand there -/
def gSuit0 (c : Int) (w : gVl) : Prop := gvOk w ∧ (w.kd ≤ 4 ∨ (c = 114 ∧ w.kd = 5 ∧ 0 ≤ w.nm ∧ w.nm < 27040000)) ∧ (c = 114 → w.kd = 4 ∨ w.kd = 5)
theorem gUpc_eq : (fun b : Int => if (97 : Int) ≤ b ∧ b < 97 + 26 then b + (65 - 97) else b) = gUpc := by
  funext b
  unfold gUpc
  by_cases q : 97 ≤ b ∧ b < 123
  · rw [if_pos q, if_pos (by omega)]; omega
  · rw [if_neg q, if_neg (by omega)]
theorem gLoc_eq : (fun b : Int => if (65 : Int) ≤ b ∧ b < 65 + 26 then b + (97 - 65) else b) = gLoc := by
  funext b
  unfold gLoc
  by_cases q : 65 ≤ b ∧ b < 91
  · rw [if_pos q, if_pos (by omega)]; omega
  · rw [if_neg q, if_neg (by omega)]
section gbW
variable {l : Launch} {G : gG} {d : Nat} {X : gX} {M : gM} {c n v w : Nat} {Q : gQ} {E : Int → gVl} {k : gM → Prop} {as : Nat → gVl}
theorem gGr4 : ∀ w, w < 52 → gWgr w = 4 → (w = 6 ∨ w = 34 ∨ w = 35 ∨ w = 36 ∨ w = 37 ∨ w = 38 ∨ w = 39 ∨ w = 40 ∨ w = 41) := by decide +kernel
theorem c_Ma_write (hX : glX X c) (hO : gOld G Q) (hn : n + 2 < 104) (hw : w < 52) (hg : gWgr w = 4) (hA : gArgs M c n w as) (h : gPost M c n (gWk E w (as 0) (as 1) (as 2)) k) : cV l G y_Ma_write (gRm (d + 1 + 1 + 1)) true [gR G (c + 1057), .ref (Q.1 w), gI (n : Int)] X M k := by
  have gn : g32 (n : Int) := ⟨by omega, by omega⟩
  have hs : (0 : Int) ≤ (n : Int) ∧ (n : Int) < 104 := ⟨by omega, by omega⟩
  have hw2 := gGr4 w hw hg
  have l1 : 1 ≤ gSl (gWta w) := by rcases hw2 with rfl | rfl | rfl | rfl | rfl | rfl | rfl | rfl | rfl <;> decide
  obtain ⟨a1, a2, a3⟩ := hA 0 (by omega)
  have ka : (as 0).kd = 2 := by rcases hw2 with rfl | rfl | rfl | rfl | rfl | rfl | rfl | rfl | rfl <;> exact gSuit_t a3 (by decide)
  obtain ⟨ea, la⟩ := a2.2.2.2.1 ka
  have e0 : M (c + 1058 + 2) n = (as 0).nm := a1.2.1
  refine e_Ma_write (w_Ma_write_0 hX hO hw gn ?_)
  simp only [gT0, gT1, gT2, e0]
  rw [w32_id (x := (as 0).nm) ⟨by omega, by omega⟩]
  refine ⟨hs, fun _ => ⟨⟨by omega, by omega⟩, fun gy => ?_⟩⟩
  rcases hw2 with rfl | rfl | rfl | rfl | rfl | rfl | rfl | rfl | rfl
  · obtain ⟨b1, b2, b3⟩ := hA 1 (by decide)
    simp only [(show gSw 6 = 23 from rfl), Int.reduceEq, Int.reduceNeg, not_true_eq_false, not_false_eq_true, true_and, and_true, false_and, and_false, true_implies, false_implies, implies_true, and_self]
    exact c_Ma_join hX hn a1 a2 ka b1 b2 (gSuit_t b3 (by decide)) h
  · simp only [(show gSw 34 = 24 from rfl), Int.reduceEq, Int.reduceNeg, not_true_eq_false, not_false_eq_true, true_and, and_true, false_and, and_false, true_implies, false_implies, implies_true, and_self]
    exact c_put hX hs (g32_c (x := 1) rfl) a2.2.2.1 rfl h
  · simp only [(show gSw 35 = 25 from rfl), Int.reduceEq, Int.reduceNeg, not_true_eq_false, not_false_eq_true, true_and, and_true, false_and, and_false, true_implies, false_implies, implies_true, and_self]
    refine c_Ma_changeCase hX hn a1 a2 ka (Or.inl ⟨rfl, rfl⟩) ?_
    rw [gUpc_eq]
    exact h
  · simp only [(show gSw 36 = 26 from rfl), Int.reduceEq, Int.reduceNeg, not_true_eq_false, not_false_eq_true, true_and, and_true, false_and, and_false, true_implies, false_implies, implies_true, and_self]
    refine c_Ma_changeCase hX hn a1 a2 ka (Or.inr ⟨rfl, rfl⟩) ?_
    rw [gLoc_eq]
    exact h
  · obtain ⟨b1, b2, b3⟩ := hA 1 (by decide)
    rw [show M (c + 1058 + 2) (n + 1) = (as 1).nm from b1.2.1] at gy ⊢
    simp only [(show gSw 37 = 27 from rfl), Int.reduceEq, Int.reduceNeg, not_true_eq_false, not_false_eq_true, true_and, and_true, false_and, and_false, true_implies, false_implies, implies_true, and_self]
    refine c_Ma_cutOut hX hn a1 a2 ka ⟨by decide, by decide⟩ gy ?_
    have h2 : gPost M c n (if (as 1).nm < 0 then gE 4 else gTxt ((as 0).tx.take (as 1).nm.toNat)) k := h
    by_cases q : (as 1).nm < 0
    · rw [if_pos q] at h2
      rw [if_pos (Or.inr q)]
      exact h2
    · rw [if_neg q] at h2
      rw [if_neg (by omega)]
      exact h2
  · obtain ⟨b1, b2, b3⟩ := hA 1 (by decide)
    rw [show M (c + 1058 + 2) (n + 1) = (as 1).nm from b1.2.1] at gy ⊢
    simp only [(show gSw 38 = 28 from rfl), Int.reduceEq, Int.reduceNeg, not_true_eq_false, not_false_eq_true, true_and, and_true, false_and, and_false, true_implies, false_implies, implies_true, and_self]
    have gy2 := gy
    unfold g64 at gy2
    refine c_maxL gy ⟨by decide, by decide⟩ (c_minL ⟨by omega, by omega⟩ a2.2.2.1 (c_Ma_cutOut hX hn a1 a2 ka ⟨by omega, by omega⟩ gy ?_))
    have h2 : gPost M c n (if (as 1).nm < 0 then gE 4 else gTxt ((as 0).tx.drop ((as 0).tx.length - (as 1).nm.toNat))) k := h
    by_cases q : (as 1).nm < 0
    · rw [if_pos q] at h2
      rw [if_pos (Or.inr q)]
      exact h2
    · rw [if_neg q] at h2
      rw [if_neg (by omega)]
      have e : ((as 0).nm - min (max (as 1).nm 0) (as 0).nm).toNat = (as 0).tx.length - (as 1).nm.toNat := by omega
      rw [e, List.take_of_length_le (by rw [List.length_drop]; omega)]
      exact h2
  · obtain ⟨b1, b2, b3⟩ := hA 1 (by decide)
    obtain ⟨d1, d2, d3⟩ := hA 2 (by decide)
    rw [show M (c + 1058 + 2) (n + 1) = (as 1).nm from b1.2.1] at gy ⊢
    simp only [(show gSw 39 = 29 from rfl), Int.reduceEq, Int.reduceNeg, not_true_eq_false, not_false_eq_true, true_and, and_true, false_and, and_false, true_implies, false_implies, implies_true, and_self]
    have gy2 := gy
    unfold g64 at gy2
    refine c_maxL gy ⟨by decide, by decide⟩ ⟨⟨by omega, by omega⟩, ?_⟩
    rw [show M (c + 1058 + 2) (n + 2) = (as 2).nm from d1.2.1]
    refine fun gz => c_Ma_cutOut hX hn a1 a2 ka ⟨by omega, by omega⟩ gz ?_
    have h2 : gPost M c n (if (as 1).nm < 1 ∨ (as 2).nm < 0 then gE 4 else gTxt (((as 0).tx.drop ((as 1).nm - 1).toNat).take (as 2).nm.toNat)) k := h
    by_cases q : (as 1).nm < 1 ∨ (as 2).nm < 0
    · rw [if_pos q] at h2
      rw [if_pos (by omega)]
      exact h2
    · rw [if_neg q] at h2
      rw [if_neg (by omega), show (max (as 1).nm 0 - 1).toNat = ((as 1).nm - 1).toNat by omega]
      exact h2
  · obtain ⟨b1, b2, b3⟩ := hA 1 (by decide)
    simp only [(show gSw 40 = 30 from rfl), Int.reduceEq, Int.reduceNeg, not_true_eq_false, not_false_eq_true, true_and, and_true, false_and, and_false, true_implies, false_implies, implies_true, and_self]
    exact c_Ma_find hX hn a1 a2 ka b1 b2 (gSuit_t b3 (by decide)) h
  · obtain ⟨b1, b2, b3⟩ := hA 1 (by decide)
    obtain ⟨d1, d2, d3⟩ := hA 2 (by decide)
    simp only [(show gSw 41 = 0 from rfl), Int.reduceEq, Int.reduceNeg, not_true_eq_false, not_false_eq_true, true_and, and_true, false_and, and_false, true_implies, false_implies, implies_true, and_self]
    exact c_Ma_exchange hX hn a1 a2 ka b1 b2 (gSuit_t b3 (by decide)) d1 d2 (gSuit_t d3 (by decide)) h
theorem gGr6 : ∀ w, w < 52 → gWgr w = 6 → 14 ≤ w ∧ w ≤ 18 := by decide +kernel
theorem gGr7 : ∀ w, w < 52 → gWgr w = 7 → (w = 42 ∨ w = 43 ∨ w = 44 ∨ w = 45 ∨ w = 19 ∨ w = 20) := by decide +kernel
theorem gGr8 : ∀ w, w < 52 → ¬ gWgr w = 0 ∧ ¬ gWgr w = 1 ∧ ¬ gWgr w = 2 ∧ ¬ gWgr w = 3 ∧ ¬ gWgr w = 4 ∧ ¬ gWgr w = 5 ∧ ¬ gWgr w = 6 ∧ ¬ gWgr w = 7 → (w = 47 ∨ w = 48 ∨ w = 49 ∨ w = 50 ∨ w = 51) := by decide +kernel
theorem gGr0b : ∀ w, w < 52 → gWgr w = 0 → w < 6 := by decide +kernel
theorem c_Ma_workOut (hX : glX X c) (hO : gOld G Q) (hn : n + 2 < 104) (hw : w < 52) (h5 : gWgr w ≠ 5) (hE : gEnv X M c v E) (hA : gArgs M c n w as) (h : gPost M c n (gWk E w (as 0) (as 1) (as 2)) k) : cV l G y_Ma_workOut (gRm (d + 5)) true [gR G (c + 1057), .ref (Q.1 w), gI (n : Int)] X M k := by
  refine e_Ma_workOut (w_Ma_workOut_0 hX hO hw ⟨by omega, by omega⟩ ⟨fun e => ?_, fun e => ?_, fun e => ?_, fun e => ?_, fun e => ?_, fun e => absurd e h5, fun e => ?_, fun e => ?_, fun e => ?_⟩)
  · exact c_Ma_decideOrder hX hO hn (gGr0b w hw e) hA h
  · exact c_Ma_reckon hX hO hn hw e hA h
  · exact c_Ma_decide hX hO hn hw e hA h
  · exact c_Ma_ask hX hO hn hw e hA h
  · exact c_Ma_write hX hO hn hw e hA h
  · have hw2 := gGr6 w hw e
    have l1 : 1 ≤ gSl (gWta w) ∧ gSc (gWta w) 0 = 114 := by
      have : w = 14 ∨ w = 15 ∨ w = 16 ∨ w = 17 ∨ w = 18 := by omega
      rcases this with rfl | rfl | rfl | rfl | rfl <;> decide
    obtain ⟨a1, a2, a3⟩ := hA 0 (by omega)
    refine c_Bx_gather hX hO hw2 hn hE (gSuit_r a3 l1.2).2 a1.2.1 ?_
    rw [gGth_eq E w (as 0) (as 1) (as 2) hw2]
    exact h
  · have hw2 := gGr7 w hw e
    have l1 : 1 ≤ gSl (gWta w) ∧ gSc (gWta w) 0 = 114 := by rcases hw2 with rfl | rfl | rfl | rfl | rfl | rfl <;> decide
    obtain ⟨a1, a2, a3⟩ := hA 0 (by omega)
    refine c_Bx_measure hX hO hw2 hn hE (gSuit_r a3 l1.2).2 a1.2.1 ?_
    rcases hw2 with rfl | rfl | rfl | rfl | rfl | rfl <;> exact h
  · exact c_Bx_search hX hO (gGr8 w hw e) hn hE hA h
theorem gTurn_ok {a u : gVl} {x : Int} (h : gTurn a x = some u) (h0 : gSuit0 x a) (h4 : a.kd = 4 → x = 118) : gvOk u ∧ gSuit x u := by
  obtain ⟨o, h1, h2⟩ := h0
  unfold gTurn at h
  unfold gSuit
  by_cases e1 : x = 110
  · rw [if_pos e1] at h ⊢
    refine ⟨gToN_ok o h, ?_⟩
    unfold gToN at h
    split at h
    · cases hn : gNum a.tx with
      | none => rw [hn] at h; cases h
      | some z => rw [hn] at h; cases h; rfl
    · cases h; rfl
  · rw [if_neg e1] at h ⊢
    by_cases e2 : x = 116
    · rw [if_pos e2] at h ⊢
      cases h
      refine ⟨gToT_ok o ?_, ?_⟩
      · have : ¬ a.kd = 4 := fun q => by have := h4 q; omega
        omega
      · unfold gToT
        split
        · rfl
        · split <;> rfl
    · rw [if_neg e2] at h ⊢
      by_cases e3 : x = 98
      · rw [if_pos e3] at h ⊢
        refine ⟨gToB_ok h, ?_⟩
        unfold gToB at h
        split at h
        · cases h
        · cases h; rfl
      · rw [if_neg e3] at h ⊢
        cases h
        refine ⟨o, ?_⟩
        by_cases e4 : x = 118
        · rw [if_pos e4]
          omega
        · rw [if_neg e4]
          by_cases e5 : x = 114
          · rw [if_pos e5]
            have := h2 e5
            have : ¬ a.kd = 4 := fun q => by have := h4 q; omega
            omega
          · rw [if_neg e5]
            have : ¬ a.kd = 4 := fun q => by have := h4 q; omega
            omega
/-- the arguments are looked through, and made what is asked -/
theorem c_Ma_isReady {k : Int → gM → Prop} (hX : glX X c) (hO : gOld G Q) (hn : n + 2 < 104) (hw : w < 52) (hl : gSl (gWta w) ≤ 3) (hA : ∀ i, i < gSl (gWta w) → gvAt M (c + 1058) (n + i) (as i) ∧ gSuit0 (gSc (gWta w) i) (as i))
    (h0 : ∀ e M2, 0 ≤ e ∧ e ≤ 8 → gApp E w as = gE e → gOff (gAb c n) M M2 → gvAt M2 (c + 1058) n (gE e) → k 0 M2) (h1 : ∀ bs M2, gOff (gAb c n) M M2 → gArgs M2 c n w bs → gApp E w as = gWk E w (bs 0) (bs 1) (bs 2) → k 1 M2) : cZ l G y_Ma_isReady (gRm (d + 8)) true [gR G (c + 1057), .ref (Q.1 w), gI (n : Int)] X M k := by
  have gn : g32 (n : Int) := ⟨by omega, by omega⟩
  have hs : (0 : Int) ≤ (n : Int) ∧ (n : Int) < 104 := ⟨by omega, by omega⟩
  -- the second loop
  have two : ∀ (m i : Nat) (M1 : gM), i + m = gSl (gWta w) → gBadA (gWta w) as (gSl (gWta w)) 0 = none → (∀ j, j < gSl (gWta w) → (as j).kd = 4 → gSc (gWta w) j = 118) → gNoT (gWta w) as (gSl (gWta w)) 0 = gNoT (gWta w) as m i → gOff (gAb c n) M M1 → (∀ j, j < i → gTurn (as j) (gSc (gWta w) j) = some (gTo (as j) (gSc (gWta w) j)) ∧ gvAt M1 (c + 1058) (n + j) (gTo (as j) (gSc (gWta w) j))) → (∀ j, i ≤ j → j < gSl (gWta w) → gvAt M1 (c + 1058) (n + j) (as j)) →
      wp l G y_Ma_isReady (gRm (d + 8)) true (kkZ X k) true 79 [.val (gR G (c + 1057)), .val (.ref (Q.1 w)), .val (gI (n : Int)), .val (gI (gSl (gWta w) : Int)), .val (gI (i : Int))] [] X M1 0 0 := by
    intro m
    induction m with
    | zero =>
      intro i M1 hi hb h4 hf o1 q1 q2
      refine w_Ma_isReady_79 (d := d + 3) hX hO gn ⟨by omega, by omega⟩ ⟨by omega, by omega⟩ hw ⟨fun _ => h1 (fun j => gTo (as j) (gSc (gWta w) j)) M1 o1 (fun j hj => ?_) ?_, fun z => absurd (by omega) z⟩
      · have := q1 j (by omega)
        have ok := gTurn_ok this.1 (hA j hj).2 (h4 j hj)
        exact ⟨this.2, ok.1, ok.2⟩
      · unfold gApp
        rw [hb, hf]
        exact if_neg (by unfold gNoT; decide)
    | succ m ih =>
      intro i M1 hi hb h4 hf o1 q1 q2
      have ai := hA i (by omega)
      have hsc : g32 (gSc (gWta w) i) := by
        have hwt : gWta w < 66 := by
          have : ∀ w, w < 52 → gWta w < 66 := by decide +kernel
          exact this w hw
        have := gSc_ok hwt i
        exact ⟨by omega, by omega⟩
      have b0 : (0 : Int) ≤ (n : Int) + (i : Int) ∧ (n : Int) + (i : Int) < 104 := ⟨by omega, by omega⟩
      have e0 : ((n : Int) + (i : Int)).toNat = n + i := by omega
      refine w_Ma_isReady_79 (d := d + 3) hX hO gn ⟨by omega, by omega⟩ ⟨by omega, by omega⟩ hw ⟨fun z => absurd z (by omega), fun _ => ⟨⟨by omega, by omega⟩, ?_⟩⟩
      rw [gT0]
      refine c_Vl_turn (gl_stk hX) hO (i := (n : Int) + (i : Int)) b0 hsc (by rw [e0]; exact q2 i (Nat.le_refl _) (by omega)) ai.2.1 (fun z => ⟨fun y => absurd rfl y, fun _ => ?_⟩) (fun u hu M2 o2 a2 => ⟨fun _ => ?_, fun y => absurd y (by decide)⟩)
      · have e : gApp E w as = gE 4 := by
          unfold gApp
          rw [hb, hf]
          exact if_pos (by unfold gNoT; rw [z]; rfl)
        exact c_putE hX hs (by decide) rfl (fun M2 o2 a2 => h0 4 M2 (by decide) e (o1.tr (o2.mono (gAb_mr (Nat.le_refl _) (by omega)))) a2)
      · rw [gI_w]
        rw [e0] at o2 a2
        have o3 : gOff (gMr c (n + i)) M1 M2 := o2.mono gMr_vs
        have eT : gTo (as i) (gSc (gWta w) i) = u := by unfold gTo; rw [hu]; rfl
        refine ih (i + 1) M2 (by omega) hb h4 (by rw [hf]; show ((gTurn (as i) (gSc (gWta w) i)).isNone || gNoT (gWta w) as m (i + 1)) = _; rw [hu]; rfl) (o1.tr (o3.mono (gAb_mr (by omega) (by omega)))) (fun j hj => ?_) (fun j hj hj2 => gMr_ne (by omega) (by omega) (by omega) o3 (q2 j (by omega) hj2))
        by_cases ej : j = i
        · subst ej
          rw [eT]
          exact ⟨hu, a2⟩
        · exact ⟨(q1 j (by omega)).1, gMr_ne (by omega) (by omega) (by omega) o3 (q1 j (by omega)).2⟩
  have one : ∀ (m i : Nat), i + m = gSl (gWta w) → gBadA (gWta w) as (gSl (gWta w)) 0 = gBadA (gWta w) as m i → (∀ j, j < i → (as j).kd = 4 → gSc (gWta w) j = 118) →
      wp l G y_Ma_isReady (gRm (d + 8)) true (kkZ X k) true 11 [.val (gR G (c + 1057)), .val (.ref (Q.1 w)), .val (gI (n : Int)), .val (gI (gSl (gWta w) : Int)), .val (gI (i : Int))] [] X M 0 0 := by
    intro m
    induction m with
    | zero =>
      intro i hi hb h4
      refine w_Ma_isReady_11 (d := d + 3) hX hO gn ⟨by omega, by omega⟩ ⟨by omega, by omega⟩ hw ⟨fun _ => ?_, fun z => absurd (by omega) z⟩
      exact two (gSl (gWta w)) 0 M (by omega) hb (fun j hj => h4 j (by omega)) rfl (gOff.rf _ _) (fun j hj => absurd hj (by omega)) (fun j _ hj => (hA j hj).1)
    | succ m ih =>
      intro i hi hb h4
      have ai := hA i (by omega)
      have b0 : (0 : Int) ≤ (n : Int) + (i : Int) ∧ (n : Int) + (i : Int) < 104 := ⟨by omega, by omega⟩
      have e0 : ((n : Int) + (i : Int)).toNat = n + i := by omega
      have hb2 := hb
      unfold gBadA at hb2
      refine w_Ma_isReady_11 (d := d + 3) hX hO gn ⟨by omega, by omega⟩ ⟨by omega, by omega⟩ hw ⟨fun z => absurd z (by omega), fun _ => ⟨b0, ?_⟩⟩
      rw [e0, gT0, show M (c + 1058 + 1) (n + i) = (as i).kd from ai.1.1, show M (c + 1058 + 2) (n + i) = (as i).nm from ai.1.2.1, gI_w]
      have nxt : ¬ ((as i).kd = 4 ∧ gSc (gWta w) i ≠ 118) → wp l G y_Ma_isReady (gRm (d + 8)) true (kkZ X k) true 11 [.val (gR G (c + 1057)), .val (.ref (Q.1 w)), .val (gI (n : Int)), .val (gI (gSl (gWta w) : Int)), .val (gI ((i + 1 : Nat) : Int))] [] X M 0 0 := fun z => by
        refine ih (i + 1) (by omega) (by rw [hb]; conv => lhs; unfold gBadA; rw [if_neg z]) (fun j hj h => ?_)
        by_cases ej : j = i
        · subst ej
          exact Decidable.byContradiction fun q => z ⟨h, q⟩
        · exact h4 j (by omega) h
      refine fun _ => ⟨fun z => nxt (fun y => z y.1), fun z => ⟨⟨by omega, by omega⟩, fun y => nxt (fun x => x.2 y), fun y => ⟨b0, fun _ => ?_⟩⟩⟩
      have e : gApp E w as = gE (as i).nm := by
        unfold gApp
        rw [hb]
        unfold gBadA
        rw [if_pos ⟨z, y⟩]
      have oe := ai.2.1.2.2.2.2.2.2.2.1 z
      exact c_putE hX hs (by omega) rfl (fun M2 o2 a2 => h0 _ M2 (by omega) e (o2.mono (gAb_mr (Nat.le_refl _) (by omega))) a2)
  exact e_Ma_isReady (d := d + 3) (w_Ma_isReady_0 (d := d + 3) hX hO hw gn (one (gSl (gWta w)) 0 (by omega) rfl (fun j hj => absurd hj (by omega))))
end gbW
