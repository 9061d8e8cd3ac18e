/-! The class's Machine: texts sought and replaced. -/
theorem gPfx_nil (b : List Int) : gPfx [] b = true := by unfold gPfx; rfl
theorem gRep1_fuel (a r : List Int) : ∀ (n : Nat) (b : List Int), b.length ≤ n → gRep1 a r n b = gRep1 a r b.length b := by
  intro n
  induction n using Nat.strongRecOn with
  | _ n ih =>
    intro b hb
    cases n with
    | zero => rw [show b.length = 0 by omega]
    | succ n =>
      cases b with
      | nil => rfl
      | cons x t =>
        have hb2 : t.length ≤ n := by simp only [List.length_cons] at hb; omega
        show (if a ≠ [] ∧ gPfx a (x :: t) = true then r ++ gRep1 a r n ((x :: t).drop a.length) else x :: gRep1 a r n t) = (if a ≠ [] ∧ gPfx a (x :: t) = true then r ++ gRep1 a r t.length ((x :: t).drop a.length) else x :: gRep1 a r t.length t)
        by_cases c : a ≠ [] ∧ gPfx a (x :: t) = true
        · rw [if_pos c, if_pos c]
          have la : 1 ≤ a.length := by have := c.1; cases a with | nil => exact absurd rfl this | cons y s => simp
          have ld : ((x :: t).drop a.length).length ≤ t.length := by rw [List.length_drop, List.length_cons]; omega
          rw [ih n (by omega) _ (by omega)]
          by_cases e : t.length = n
          · rw [e, ih n (by omega) _ (by omega)]
          · rw [ih t.length (by omega) _ ld]
        · rw [if_neg c, if_neg c, ih n (by omega) t hb2]
theorem gRepl_cons (a r : List Int) (x : Int) (t : List Int) : gRepl a r (x :: t) = if a ≠ [] ∧ gPfx a (x :: t) = true then r ++ gRepl a r ((x :: t).drop a.length) else x :: gRepl a r t := by
  show gRep1 a r (t.length + 1) (x :: t) = _
  show (if a ≠ [] ∧ gPfx a (x :: t) = true then r ++ gRep1 a r t.length ((x :: t).drop a.length) else x :: gRep1 a r t.length t) = _
  by_cases c : a ≠ [] ∧ gPfx a (x :: t) = true
  · rw [if_pos c, if_pos c]
    have la : 1 ≤ a.length := by have := c.1; cases a with | nil => exact absurd rfl this | cons y s => simp
    have ld : ((x :: t).drop a.length).length ≤ t.length := by rw [List.length_drop, List.length_cons]; omega
    rw [gRep1_fuel a r _ _ ld]
    rfl
  · rw [if_neg c, if_neg c]
    rfl
theorem gRepl_nil (a r : List Int) : gRepl a r [] = [] := rfl
theorem gPfx_len : ∀ (a b : List Int), gPfx a b = true → a.length ≤ b.length := by
  intro a
  induction a with
  | nil => intro b _; exact Nat.zero_le _
  | cons x a ih =>
    intro b h
    cases b with
    | nil => unfold gPfx at h; cases h
    | cons y b =>
      unfold gPfx at h
      rw [Bool.and_eq_true] at h
      have := ih b h.2
      simp only [List.length_cons]
      omega
/-- found at p, or nowhere -/
theorem gRepl_find (a r : List Int) (ha : a ≠ []) : ∀ (m p : Nat) (b : List Int), p + m = b.length + 1 - a.length → p ≤ b.length → (match gFnd a b m p with | some q => p ≤ q ∧ q + a.length ≤ b.length ∧ gRepl a r (b.drop p) = (b.drop p).take (q - p) ++ r ++ gRepl a r (b.drop (q + a.length)) | none => gRepl a r (b.drop p) = b.drop p) := by
  intro m
  have la : 1 ≤ a.length := by cases a with | nil => exact absurd rfl ha | cons y s => simp
  -- too short to hold a
  have short : ∀ (n : Nat) (b : List Int), b.length = n → b.length < a.length → gRepl a r b = b := by
    intro n
    induction n with
    | zero => intro b e _; rw [List.length_eq_zero_iff.mp e]; rfl
    | succ n ihn =>
      intro b e h
      cases b with
      | nil => rfl
      | cons x t =>
        rw [gRepl_cons, if_neg (fun q => by have := gPfx_len _ _ q.2; omega), ihn t (by simpa using e) (by simp only [List.length_cons] at h; omega)]
  induction m with
  | zero =>
    intro p b h hp
    show gRepl a r (b.drop p) = b.drop p
    exact short _ _ rfl (by rw [List.length_drop]; omega)
  | succ m ih =>
    intro p b h hp
    have hlt : p < b.length := by omega
    have ed : b.drop p = b[p] :: b.drop (p + 1) := List.drop_eq_getElem_cons hlt
    unfold gFnd
    by_cases c : gPfx a (b.drop p) = true
    · rw [if_pos c]
      have hl := gPfx_len _ _ c
      rw [List.length_drop] at hl
      refine ⟨Nat.le_refl _, by omega, ?_⟩
      rw [Nat.sub_self, List.take_zero, List.nil_append]
      have e2 := gRepl_cons a r b[p] (b.drop (p + 1))
      rw [← ed, if_pos ⟨ha, c⟩, List.drop_drop] at e2
      exact e2
    · rw [if_neg c]
      have i1 := ih (p + 1) b (by omega) (by omega)
      have e2 := gRepl_cons a r b[p] (b.drop (p + 1))
      rw [← ed, if_neg (fun q => c q.2)] at e2
      cases hf : gFnd a b m (p + 1) with
      | none =>
        rw [hf] at i1
        show gRepl a r (b.drop p) = b.drop p
        rw [e2, i1, ← ed]
      | some q =>
        rw [hf] at i1
        obtain ⟨h1, h2, h3⟩ := i1
        refine ⟨by omega, h2, ?_⟩
        show gRepl a r (b.drop p) = _
        rw [e2, h3, ed, show q - p = (q - (p + 1)) + 1 by omega, List.take_succ_cons]
        rfl
section gbP
variable {l : Launch} {G : gG} {d : Nat} {X : gX} {M : gM} {c n : Nat} {Q : gQ} {a b e : gVl}
theorem c_Ma_placeOf {i j p : Nat} {k : Int → gM → Prop} (hX : glX X c) (hi : i < 104) (hj : j < 104) (ha : gvAt M (c + 1058) i a) (oa : gvOk a) (ka : a.kd = 2) (hb : gvAt M (c + 1058) j b) (ob : gvOk b) (kb : b.kd = 2) (hp : p ≤ 64) (h1 : ∀ q, gFind a.tx b.tx p = some q → k (q : Int) M) (h0 : gFind a.tx b.tx p = none → k (-1) M) : cI l G y_Ma_placeOf (gRm d) false [gR G (c + 1057), gI (i : Int), gI (j : Int), gI (p : Int)] X M k := by
  obtain ⟨na, la⟩ := oa.2.2.2.1 ka
  obtain ⟨nb, lb⟩ := ob.2.2.2.1 kb
  have gj : g32 (j : Int) := ⟨by omega, by omega⟩
  have hr := gv_row (gl_stk hX) (i := (i : Int)) ⟨by omega, by omega⟩
  have hr2 : 1 ≤ c + 1058 + 4 + i ∧ c + 1058 + 4 + i ≤ X.1 ∧ X.2.1 (c + 1058 + 4 + i) = (2, 64) := ⟨hr.2.2.1, hr.2.2.2, hr.2.1⟩
  have bya : ∀ t, t < a.tx.length → M (c + 1058 + 4 + i) t = a.tx.getD t 0 := fun t ht => by have := gBy_at ha.2.2 ht; rw [Nat.zero_add] at this; exact this
  have byb : ∀ t, t < b.tx.length → M (c + 1058 + 4 + j) t = b.tx.getD t 0 := fun t ht => by have := gBy_at hb.2.2 ht; rw [Nat.zero_add] at this; exact this
  have inn : ∀ (m t q : Nat), t + m = a.tx.length → q + a.tx.length ≤ b.tx.length → (gPfx (a.tx.drop t) (b.tx.drop (q + t)) = true → k (q : Int) M) → (¬ gPfx (a.tx.drop t) (b.tx.drop (q + t)) = true → wp l G y_Ma_placeOf (gRm d) false (kkI X k) false 26 [.val (gR G (c + 1057)), .unset, .val (gI (j : Int)), .unset, .val (gR G (c + 1058 + 4 + i)), .val (gI (a.tx.length : Int)), .val (gI ((q : Int) + 1)), .unset] [] X M 0 0) →
      wp l G y_Ma_placeOf (gRm d) false (kkI X k) false 49 [.val (gR G (c + 1057)), .unset, .val (gI (j : Int)), .unset, .val (gR G (c + 1058 + 4 + i)), .val (gI (a.tx.length : Int)), .val (gI (q : Int)), .val (gI (t : Int))] [] X M 0 0 := by
    intro m
    induction m with
    | zero =>
      intro t q ht hq f1 f0
      have et : t = a.tx.length := by omega
      refine w_Ma_placeOf_49 hX gj ⟨by omega, by omega⟩ ⟨by omega, by omega⟩ ⟨by omega, by omega⟩ hr2 ⟨fun _ => ⟨fun u => absurd (by omega) u, fun _ => f1 ?_⟩, fun u => absurd (by omega) u⟩
      rw [List.drop_eq_nil_iff.mpr (by omega)]
      exact gPfx_nil _
    | succ m ih =>
      intro t q ht hq f1 f0
      have h1 : t < a.tx.length := by omega
      have h2 : q + t < b.tx.length := by omega
      rw [List.drop_eq_getElem_cons h1, List.drop_eq_getElem_cons h2] at f1 f0
      unfold gPfx at f1 f0
      have e1 : M (c + 1058 + 4 + i) t = a.tx[t] := by rw [bya t h1, List.getD_eq_getElem?_getD, List.getElem?_eq_getElem h1]; rfl
      have e2 : M (c + 1058 + 4 + j) (q + t) = b.tx[q + t] := by rw [byb _ h2, List.getD_eq_getElem?_getD, List.getElem?_eq_getElem h2]; rfl
      refine w_Ma_placeOf_49 hX gj ⟨by omega, by omega⟩ ⟨by omega, by omega⟩ ⟨by omega, by omega⟩ hr2 ⟨fun u => absurd u (by omega), fun _ => ⟨⟨by omega, by omega⟩, ⟨by omega, by omega⟩, ?_⟩⟩
      rw [gT0, gT0, show ((q : Int) + (t : Int)).toNat = q + t by omega, e1, e2]
      refine fun _ => ⟨⟨by omega, by omega⟩, fun _ => ⟨fun u => ⟨fun _ => ?_, fun v => absurd v (by omega)⟩, fun u => ?_⟩⟩
      · rw [gI_w]
        exact f0 (fun z => u (by rw [Bool.and_eq_true, beq_iff_eq] at z; exact z.1.symm))
      · rw [gI_w]
        have eb : (a.tx[t] == b.tx[q + t]) = true := by rw [beq_iff_eq]; exact u.symm
        rw [eb, Bool.true_and] at f1 f0
        exact ih (t + 1) q (by omega) hq f1 f0
  have out : ∀ (m q : Nat), m = b.tx.length + 1 - a.tx.length - q → q ≤ 65 → (∀ z, gFnd a.tx b.tx m q = some z → k (z : Int) M) → (gFnd a.tx b.tx m q = none → k (-1) M) →
      wp l G y_Ma_placeOf (gRm d) false (kkI X k) false 26 [.val (gR G (c + 1057)), .unset, .val (gI (j : Int)), .unset, .val (gR G (c + 1058 + 4 + i)), .val (gI (a.tx.length : Int)), .val (gI (q : Int)), .unset] [] X M 0 0 := by
    intro m
    induction m with
    | zero =>
      intro q hq hq2 f1 f0
      refine w_Ma_placeOf_26 hX gj hr2 ⟨by omega, by omega⟩ ⟨by omega, by omega⟩ ⟨⟨by omega, by omega⟩, ?_⟩
      rw [gT0, hb.2.1, nb, w64_id ⟨by omega, by omega⟩]
      exact fun _ => ⟨fun _ => f0 rfl, fun u => absurd (by omega) u⟩
    | succ m ih =>
      intro q hq hq2 f1 f0
      unfold gFnd at f1 f0
      refine w_Ma_placeOf_26 hX gj hr2 ⟨by omega, by omega⟩ ⟨by omega, by omega⟩ ⟨⟨by omega, by omega⟩, ?_⟩
      rw [gT0, hb.2.1, nb, w64_id ⟨by omega, by omega⟩]
      refine fun _ => ⟨fun u => absurd u (by omega), fun _ => inn a.tx.length 0 q (by omega) (by omega) (fun z => ?_) (fun z => ?_)⟩
      · rw [List.drop_zero, Nat.add_zero] at z
        rw [if_pos z] at f1
        exact f1 q rfl
      · rw [List.drop_zero, Nat.add_zero] at z
        rw [if_neg z] at f1 f0
        exact ih (q + 1) (by omega) (by omega) f1 f0
  refine e_Ma_placeOf (w_Ma_placeOf_0 hX ⟨by omega, by omega⟩ gj ⟨by omega, by omega⟩ ⟨⟨by omega, by omega⟩, ⟨by omega, by omega⟩, ?_⟩)
  rw [gT0, ha.2.1, na, w32_id ⟨by omega, by omega⟩]
  exact fun _ => out _ p rfl (by omega) h1 h0
theorem c_Ma_find {k : gM → Prop} (hX : glX X c) (hn : n + 2 < 104) (ha : gvAt M (c + 1058) n a) (oa : gvOk a) (ka : a.kd = 2) (hb : gvAt M (c + 1058) (n + 1) b) (ob : gvOk b) (kb : b.kd = 2) (h : gPost M c n (match gFind a.tx b.tx 0 with | some p => gN ((p : Int) + 1) | none => gE 4) k) : cV l G y_Ma_find (gRm (d + 1)) true [gR G (c + 1057), gI (n : Int)] X M k := by
  have hs : (0 : Int) ≤ (n : Int) ∧ (n : Int) < 104 := ⟨by omega, by omega⟩
  have lb := ob.tx64
  refine e_Ma_find (w_Ma_find_0 hX ⟨by omega, by omega⟩ (c_Ma_placeOf (i := n) (j := n + 1) (p := 0) hX (by omega) (by omega) ha oa ka hb ob kb (by omega) (fun q hq => ?_) (fun hq => ?_)))
  · rw [hq] at h
    have hq2 : q ≤ b.tx.length := by
      have key : ∀ m p q, gFnd a.tx b.tx m p = some q → q ≤ p + m := by
        intro m
        induction m with
        | zero => intro p q hh; cases hh
        | succ m ih =>
          intro p q hh
          unfold gFnd at hh
          split at hh
          · cases hh; omega
          · have := ih _ _ hh; omega
      have := key _ _ _ hq
      unfold gvOk at *
      by_cases z : a.tx.length = 0
      · have hh : gFind a.tx b.tx 0 = some 0 := by
          rw [List.length_eq_zero_iff.mp z]
          unfold gFind
          rw [show b.tx.length + 1 - ([] : List Int).length - 0 = b.tx.length + 1 from rfl]
          unfold gFnd
          rw [if_pos (gPfx_nil _)]
        rw [hh] at hq
        cases hq
        omega
      · omega
    refine ⟨fun _ => ?_, fun u => absurd (by omega) u⟩
    rw [w32_id ⟨by omega, by omega⟩]
    exact c_put hX hs (g32_c (x := 1) rfl) ⟨by omega, by omega⟩ rfl h
  · rw [hq] at h
    exact ⟨fun u => absurd u (by decide), fun _ => c_putE hX hs (by decide) rfl h⟩
end gbP
