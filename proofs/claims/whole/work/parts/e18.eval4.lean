/-! The reference's evaluate, all of it. -/
section geV
variable {Q Q2 : Nat → Prop}
theorem gCn_ext : ∀ (n : Nat), (∀ p, p < n → (Q p ↔ Q2 p)) → gCn Q n = gCn Q2 n := by
  intro n
  induction n with
  | zero => intro _; rfl
  | succ n ih =>
    intro h
    have h1 := ih (fun p hp => h p (by omega))
    by_cases q : Q n
    · rw [gCn_y q, gCn_y ((h n (by omega)).mp q), h1]
    · rw [gCn_n q, gCn_n (fun z => q ((h n (by omega)).mpr z)), h1]
theorem gCn_one {a : Nat} (ha : ¬ Q a) : ∀ (n : Nat), a < n → (∀ p, p < n → (Q2 p ↔ Q p ∨ p = a)) → gCn Q2 n = gCn Q n + 1 := by
  intro n
  induction n with
  | zero => intro h; omega
  | succ n ih =>
    intro hn h
    by_cases e : a = n
    · have h1 : gCn Q2 n = gCn Q n := gCn_ext n (fun p hp => (h p (by omega)).trans ⟨fun y => y.elim id (fun y => by omega), Or.inl⟩)
      rw [gCn_y ((h n (by omega)).mpr (Or.inr e.symm)), gCn_n (by rw [← e]; exact ha), h1]
    · have h1 := ih (by omega) (fun p hp => h p (by omega))
      have h2 := h n (by omega)
      by_cases q : Q n
      · rw [gCn_y q, gCn_y (h2.mpr (Or.inl q)), h1]
      · rw [gCn_n q, gCn_n (fun z => (h2.mp z).elim q (fun z => e z.symm)), h1]
theorem gCn_0 (h : ∀ p, ¬ Q p) : ∀ n, gCn Q n = 0 := by
  intro n
  induction n with
  | zero => rfl
  | succ n ih => rw [gCn_n (h n), ih]
end geV
section geW
variable {l : Launch} {G : gG} {d : Nat} {X : gX} {M0 M : gM} {o s n : Nat} {F : gSht} {V : Int → gVl} {Q : gQ}
theorem r_ev515 {k : gM → Prop} (hX : gmX X o) (hVp : ∀ p : Nat, p < 5200 → gvP (V p)) (en : n = gCn (gFo F) 5200) (hn2 : n ≤ 400) {M1 : gM} (h : gI7 M0 M1 o s F V (fun _ => True) n) (hk : ∀ M2, gOff (gEvR o) M0 M2 → gmEnv M2 o V → M2 o 66 = (n : Int) → M2 o 65 = (gCn (gCy F V) 5200 : Int) → k M2) : ∀ (m x : Nat) (M : gM), x + m = n → gOff (fun a j => a = o ∧ j = 65) M1 M → M o 65 = (gCn (fun p => gCy F V p ∧ gCn (gFo F) p < x) 5200 : Int) → wp l G y_GM_evaluate (gRm (d + 1)) true (kkV X k) true 515 [.val (gR G o), .unset, .unset, .val (gI (x : Int)), .unset] [] X M 0 0 := by
  obtain ⟨o0, hq, h40, h66, h51, h65, h44⟩ := id h
  have row : ∀ q : Nat, q < 5200 → gmRw M1 o q (V q) := fun q hq2 => by
    have := hq q hq2
    rw [gEc_nat, if_neg (fun y => y.2 trivial)] at this
    exact this
  intro m
  induction m with
  | zero =>
    intro x M hx o1 h5
    refine w_GM_evaluate_515 hX ⟨by omega, by omega⟩ fun _ => ?_
    rw [o1 _ _ (by omega), h66]
    refine ⟨fun _ => hk M (o0.tr (o1.mono (fun a j h => by unfold gEvR; omega))) (fun p hp => ⟨hVp p hp, ?_⟩) ((o1 _ _ (by omega)).trans h66) ?_, fun z => absurd (by omega) z⟩
    · obtain ⟨b1, b2, b3, b4⟩ := row p hp
      refine ⟨by rw [o1 _ _ (by omega)]; exact b1, by rw [o1 _ _ (by omega)]; exact b2, by rw [o1 _ _ (by omega)]; exact b3, ?_⟩
      exact Eq.trans (gBy_congr _ _ _ (fun j hj => o1 _ _ (by omega))) b4
    · rw [h5]
      exact congrArg (fun v : Nat => (v : Int)) (gCn_ext 5200 (fun p hp => ⟨fun y => y.1, fun y => ⟨y, by have := gCn_lt (Q := gFo F) hp y.1; omega⟩⟩))
  | succ m ih =>
    intro x M hx o1 h5
    obtain ⟨p, p1, p2, p3⟩ := gCn_ex (Q := gFo F) 5200 x (by omega)
    have e40 : M (o + 40) x = (p : Int) := by rw [o1 _ _ (by omega), ← p3]; exact h40 p p1 p2
    obtain ⟨b1, b2, b3, b4⟩ := row p p1
    have e26 : M (o + 26) p = (V p).kd := (o1 _ _ (by omega)).trans b1
    have e30 : M (o + 30) p = if (V p).kd = 2 then 0 else (V p).nm := (o1 _ _ (by omega)).trans b3
    have nx : w32 ((x : Int) + 1) = ((x + 1 : Nat) : Int) := (w32_id ⟨by omega, by omega⟩).trans (by omega)
    have le : gCn (fun p => gCy F V p ∧ gCn (gFo F) p < x) 5200 ≤ 5200 := by
      have : ∀ m, gCn (fun p => gCy F V p ∧ gCn (gFo F) p < x) m ≤ m := by
        intro m
        induction m with
        | zero => exact Nat.le_refl _
        | succ m ih2 =>
          by_cases q : gCy F V m ∧ gCn (gFo F) m < x
          · rw [gCn_y (Q := fun p => gCy F V p ∧ gCn (gFo F) p < x) q]; omega
          · rw [gCn_n (Q := fun p => gCy F V p ∧ gCn (gFo F) p < x) q]; omega
      exact this 5200
    have same : ¬ gCy F V p → gCn (fun p => gCy F V p ∧ gCn (gFo F) p < x + 1) 5200 = gCn (fun p => gCy F V p ∧ gCn (gFo F) p < x) 5200 := fun nc => gCn_ext _ (fun q hq2 => ⟨fun y => ⟨y.1, by
      have ne : gCn (gFo F) q ≠ x := fun z => nc (by rw [← gCn_inj y.1.1 p2 (by omega)]; exact y.1)
      have := y.2
      omega⟩, fun y => ⟨y.1, by have := y.2; omega⟩⟩)
    refine w_GM_evaluate_515 hX ⟨by omega, by omega⟩ fun _ => ?_
    rw [o1 _ _ (by omega), h66, Int.toNat_natCast, e40, Int.toNat_natCast, e26, e30, nx]
    refine ⟨fun z => absurd z (by omega), fun _ => ⟨⟨by omega, by omega⟩, fun _ => ⟨⟨by omega, by omega⟩, fun _ => ⟨fun z => ih (x + 1) M (by omega) o1 ?_, fun z => ⟨⟨by omega, by omega⟩, fun _ => ⟨⟨by omega, by omega⟩, fun _ => ⟨fun z2 => ih (x + 1) M (by omega) o1 ?_, fun z2 _ => ?_⟩⟩⟩⟩⟩⟩⟩
    · rw [same (fun y => z y.2.1)]; exact h5
    · rw [if_neg (by omega)] at z2
      rw [same (fun y => z2 y.2.2)]; exact h5
    · rw [if_neg (by omega)] at z2
      rw [h5, w32_id (x := (gCn (fun p => gCy F V p ∧ gCn (gFo F) p < x) 5200 : Int) + 1) ⟨by omega, by omega⟩]
      refine ih (x + 1) _ (by omega) (o1.up ⟨rfl, rfl⟩) ?_
      rw [gUp_eq, gCn_one (Q := fun p => gCy F V p ∧ gCn (gFo F) p < x) (Q2 := fun p => gCy F V p ∧ gCn (gFo F) p < x + 1) (a := p) (fun y => by have := y.2; omega) 5200 p1 (fun q hq2 => ⟨fun y => ?_, fun y => ?_⟩)]
      · omega
      · by_cases e : gCn (gFo F) q = x
        · exact Or.inr (gCn_inj y.1.1 p2 (by omega))
        · exact Or.inl ⟨y.1, by have := y.2; omega⟩
      · rcases y with y | y
        · exact ⟨y.1, by have := y.2; omega⟩
        · rw [y]; exact ⟨⟨p2, z, z2⟩, by omega⟩
theorem r_evaluate {k : gM → Prop} {rk : Nat → Nat} (hX : gmX X o) (hO : gOld G Q) (hst : gmSt M o s F) (hF : gSok F) (hn : gCn (gFo F) 5200 ≤ 400) (hV : gFxp F V) (hVp : ∀ p : Nat, p < 5200 → gvP (V p)) (hrk : gRnk F rk) (hk : ∀ M2, gOff (gEvR o) M M2 → gmEnv M2 o V → M2 o 66 = (gCn (gFo F) 5200 : Int) → M2 o 65 = (gCn (gCy F V) 5200 : Int) → k M2) : cV l G y_GM_evaluate (gRm (d + 111)) true [gR G o, gI (s : Int)] X M k := by
  have hs := hst.1
  refine e_GM_evaluate (w_GM_evaluate_0 hX ⟨by omega, by omega⟩ ?_)
  have o1 : gOff (gEvR o) M (gUp (gUp M o 51 (s : Int)) o 66 0) := by
    refine ((gOff.rf _ M).up ?_).up ?_ <;> unfold gEvR <;> omega
  refine r_ev12 (d := d + 110) (V := V) hX hst hF hV hn (fun M1 h1 => ?_) 5200 0 _ (by omega) ⟨o1, fun q hq => absurd hq (Nat.not_lt_zero _), by rw [gUp_eq]; rfl, by rw [gUp_k (by decide), gUp_eq]⟩
  obtain ⟨o0, hq, h66, h51⟩ := id h1
  generalize en : gCn (gFo F) 5200 = n at *
  have en := en.symm
  refine r_ev213 (d := d + 110) (M1 := M1) (n := n) hX h66 hn (fun M2 o2 z2 => ?_) (7 * n) 0 M1 (by omega) (gOff.rf _ _) (fun j hj => absurd hj (Nat.not_lt_zero _))
  refine r_ev239 (d := d + 108) (M1 := M1) (V := V) hX hst hF h1 en hn (fun M3 o3 b3 => ?_) n 0 M2 (by omega) o2 (fun i j hi hj => ?_)
  · have f66 : M3 o 66 = (n : Int) := (o3 _ _ (by omega)).trans h66
    refine r_ev260 (d := d + 110) (M1 := M3) (n := n) hX f66 hn (fun M4 o4 z4 y4 => ?_) (7 * n) 0 M3 (by omega) (gOff.rf _ _) (fun j hj => absurd hj (Nat.not_lt_zero _)) (fun j => rfl)
    have f66 : M4 o 66 = (n : Int) := (o4 _ _ (by omega)).trans f66
    have b4 : ∀ i j, i < n → j < 448 → (gRdM M4 o 44 i j ↔ gRI F i j) := fun i j hi hj => by
      rw [← b3 i j hi hj]
      unfold gRdM
      rw [z4 _ (by omega)]
    have b5 : ∀ i j, i < n → j < 448 → (gRdM M4 o 42 i j ↔ gWp (gRI F) 0 i j) := fun i j hi hj => by
      have := b3 i j hi hj
      unfold gRdM at this ⊢
      rw [y4]
      exact this
    refine r_ev291 (d := d + 110) (M1 := M4) (n := n) (r := gRI F) hX f66 hn (fun M5 o5 b6 => ?_) n 0 M4 (by omega) (gOff.rf _ _) b5
    have s5 : ∀ a j, a ≠ o + 42 → a ≠ o + 44 → M5 a j = M1 a j := fun a j h1 h2 => (o5 _ _ h1).trans ((o4 _ _ (by omega)).trans (o3 _ _ (by omega)))
    have q5 : ∀ a j, a ≠ o → gUp M5 o 65 0 a j = M5 a j := fun a j ha => gUp_a ha
    refine r_ev383 (d := d + 110) (M0 := M) (s := s) hX hF hV en hn (fun M6 h6 d6 => ?_) n 0 (gUp M5 o 65 0) (by omega) ⟨?_, fun q hq2 => ?_, fun q hq2 fo => ?_, ?_, ?_, gUp_eq _ _ _ _, fun i j hi hj => ?_⟩ (fun i j hi hj => ?_) (fun i hi => absurd hi (Nat.not_lt_zero _))
    · refine r_ev449 (d := d) (M0 := M) hX hO hst hF hV hVp hrk en hn (fun M7 h7 => ?_) n M6 (gCyc F) h6 d6 (fun p y => y) (by have := gSu_le (f := gUnd M6 o) (g := fun _ => 1) n (fun e _ => by unfold gUnd; split <;> omega); rw [gSu_c] at this; omega)
      exact r_ev515 (d := d + 110) (M0 := M) hX hVp en hn h7 hk n 0 M7 (by omega) (gOff.rf _ _) (by rw [h7.2.2.2.2.2.1, gCn_0 (fun p y => by have := y.2; omega)]; rfl)
    · refine gOff.up ?_ (by unfold gEvR; omega)
      intro a j na
      have n2 : a ≠ o + 42 ∧ a ≠ o + 44 := by
        constructor
        · intro y; exact na (by unfold gEvR; omega)
        · intro y; exact na (by unfold gEvR; omega)
      rw [s5 a j n2.1 n2.2]
      exact o0 a j na
    · obtain ⟨b1, b2, b3', b4'⟩ := (hq q hq2).1
      have e : gEc F V (fun q => gCyc F q ∧ gCn (gFo F) q < 0) q = gE0 F V q := by
        rw [gEc_nat]
        unfold gE0
        by_cases fo : gFo F q
        · rw [if_pos fo, if_pos ⟨fo, fun y => by have := y.2; omega⟩]
        · rw [if_neg fo, if_neg (fun y => fo y.1)]
      rw [e]
      refine ⟨?_, ?_, ?_, ?_⟩
      · rw [q5 _ _ (by omega), s5 _ _ (by omega) (by omega)]; exact b1
      · rw [q5 _ _ (by omega), s5 _ _ (by omega) (by omega)]; exact b2
      · rw [q5 _ _ (by omega), s5 _ _ (by omega) (by omega)]; exact b3'
      · exact Eq.trans (gBy_congr _ _ _ (fun j hj => by rw [q5 _ _ (by omega), s5 _ _ (by omega) (by omega)])) b4'
    · rw [q5 _ _ (by omega), s5 _ _ (by omega) (by omega)]; exact (hq q hq2).2.2 fo
    · rw [gUp_k (by decide), s5 _ _ (by omega) (by omega)]; exact h66
    · rw [gUp_k (by decide), s5 _ _ (by omega) (by omega)]; exact h51
    · have : gRdM (gUp M5 o 65 0) o 44 i j ↔ gRdM M4 o 44 i j := by
        unfold gRdM
        rw [q5 _ _ (by omega), o5 _ _ (by omega)]
      rw [this]
      exact b4 i j hi hj
    · have : gRdM (gUp M5 o 65 0) o 42 i j ↔ gRdM M5 o 42 i j := by
        unfold gRdM
        rw [q5 _ _ (by omega)]
      rw [this]
      exact b6 i j hi hj
  · unfold gRdM
    rw [z2 _ (by omega), gBt_0]
    exact ⟨fun y => absurd y (by decide), fun y => by omega⟩
end geW
