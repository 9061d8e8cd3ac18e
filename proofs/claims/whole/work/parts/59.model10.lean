/-! The reference's digits: the letters of a long. -/
/-- the digits of m, the last one first -/
def gDg (m : Nat) : List Int := (48 + ((m % 10 : Nat) : Int)) :: (if h : m < 10 then [] else gDg (m / 10))
termination_by m
decreasing_by omega
theorem gDg_s {m : Nat} (h : m / 10 = 0) : gDg m = [48 + ((m % 10 : Nat) : Int)] := by
  rw [gDg, dif_pos (by omega)]
theorem gDg_b {m : Nat} (h : ¬ m / 10 = 0) : gDg m = (48 + ((m % 10 : Nat) : Int)) :: gDg (m / 10) := by
  rw [gDg, dif_neg (by omega)]
theorem gDg_len : ∀ (k m : Nat), m < 10 ^ (k + 1) → (gDg m).length ≤ k + 1 := by
  intro k
  induction k with
  | zero =>
    intro m h
    rw [gDg_s (by omega)]
    exact Nat.le_refl 1
  | succ k ih =>
    intro m h
    by_cases e : m / 10 = 0
    · rw [gDg_s e]; show 1 ≤ _; omega
    · rw [gDg_b e]
      have h2 : m < 10 ^ (k + 1) * 10 := h
      have := ih (m / 10) (by omega)
      show (gDg (m / 10)).length + 1 ≤ _
      omega
/-- the letters of a long, the last one first -/
def gDL (v : Int) : List Int := gDg v.natAbs ++ (if v < 0 then [45] else [])
theorem gDL_len {v : Int} (h : g64 v) : (gDL v).length ≤ 20 := by
  have h1 := gDg_len 18 v.natAbs (by unfold g64 at h; omega)
  unfold gDL
  rw [List.length_append]
  split
  · show _ + 1 ≤ _; omega
  · show _ + 0 ≤ _; omega
theorem g_tmod10 (r : Int) : r.tmod 10 = if 0 ≤ r then ((r.natAbs % 10 : Nat) : Int) else -((r.natAbs % 10 : Nat) : Int) := by
  split
  · rename_i h
    rw [Int.tmod_eq_emod_of_nonneg h]
    omega
  · rename_i h
    rw [show r = -(-r) by omega, Int.neg_tmod, Int.tmod_eq_emod_of_nonneg (by omega)]
    omega
theorem g_tdiv10 (r : Int) : r.tdiv 10 = if 0 ≤ r then ((r.natAbs / 10 : Nat) : Int) else -((r.natAbs / 10 : Nat) : Int) := by
  split
  · rename_i h
    rw [Int.tdiv_eq_ediv_of_nonneg h]
    omega
  · rename_i h
    rw [show r = -(-r) by omega, Int.neg_tdiv, Int.tdiv_eq_ediv_of_nonneg (by omega)]
    omega
section gmC10
variable {l : Launch} {G : gG} {d : Nat} {X : gX} {M : gM} {o : Nat}
/-- a long's letters in the line, then at stack place i -/
def gmDig (M : gM) (o : Nat) (i v : Int) : gM := gFl (gUp (gFl M (o + 38) 0 (fun j => (gDL v).getD j 0) (gDL v).length) (o + 35) i.toNat ((gDL v).length : Int)) (o + 37) (64 * i).toNat (fun j => (gDL v).getD ((gDL v).length - 1 - j) 0) (gDL v).length
theorem gDL_by {v : Int} : ∀ c ∈ gDL v, -128 ≤ c ∧ c < 128 := by
  have h : ∀ (n m : Nat), m ≤ n → ∀ c ∈ gDg m, -128 ≤ c ∧ c < 128 := by
    intro n
    induction n with
    | zero =>
      intro m hm c hc
      rw [gDg_s (by omega)] at hc
      rcases List.mem_singleton.mp hc with rfl
      omega
    | succ n ih =>
      intro m hm c hc
      by_cases e : m / 10 = 0
      · rw [gDg_s e] at hc
        rcases List.mem_singleton.mp hc with rfl
        omega
      · rw [gDg_b e] at hc
        rcases List.mem_cons.mp hc with rfl | hc
        · omega
        · exact ih (m / 10) (by omega) c hc
  intro c hc
  unfold gDL at hc
  rcases List.mem_append.mp hc with a | a
  · exact h _ _ (Nat.le_refl _) c a
  · split at a
    · rcases List.mem_singleton.mp a with rfl
      decide
    · cases a
theorem c_GM_digits {i v : Int} {k : gM → Prop} (hX : gmX X o) (hi : 0 ≤ i ∧ i < 1200) (hv : g64 v) (h : k (gmDig M o i v)) : cV l G y_GM_digits (gRm d) true [gR G o, gI i, gL v] X M k := by
  have gi : g32 i := ⟨by omega, by omega⟩
  have hlen := gDL_len hv
  -- the second loop
  have two : ∀ (n q : Nat), q + n = (gDL v).length → wp l G y_GM_digits (gRm d) true (kkV X k) true 95 [.val (gR G o), .val (gI i), .unset, .unset, .val (gI ((gDL v).length : Int)), .unset, .unset, .val (gI (q : Int)), .unset] [] X (gFl (gUp (gFl M (o + 38) 0 (fun j => (gDL v).getD j 0) (gDL v).length) (o + 35) i.toNat ((gDL v).length : Int)) (o + 37) (64 * i).toNat (fun j => (gDL v).getD ((gDL v).length - 1 - j) 0) q) 0 0 := by
    intro n
    induction n with
    | zero =>
      intro q hq
      have eq : q = (gDL v).length := by omega
      refine w_GM_digits_95 hX gi ⟨by omega, by omega⟩ ⟨by omega, by omega⟩ ⟨fun _ => ?_, fun a => absurd (by omega) a⟩
      rw [eq]
      exact h
    | succ n ih =>
      intro q hq
      have i1 := ih (q + 1) (by omega)
      rw [← gFl_s] at i1
      refine w_GM_digits_95 hX gi ⟨by omega, by omega⟩ ⟨by omega, by omega⟩ ⟨fun a => absurd a (by omega), fun _ => ⟨⟨by omega, by omega⟩, ?_⟩⟩
      rw [gFl_oo (by decide), gUp_oo (by decide), gFl_in (by omega) (by omega)]
      refine fun hb => ⟨⟨by omega, by omega⟩, ?_⟩
      rw [gI_w, gByte_id hb, show (64 * i + (q : Int)).toNat = (64 * i).toNat + q by omega, show ((((gDL v).length : Int) - 1 - (q : Int)).toNat - 0) = (gDL v).length - 1 - q by omega]
      exact i1
  -- behind the first loop
  have mid : ∀ n : Int, n = ((gDL v).length : Int) → wp l G y_GM_digits (gRm d) true (kkV X k) true 95 [.val (gR G o), .val (gI i), .unset, .unset, .val (gI (w32 n)), .unset, .unset, .val (gI 0), .unset] [] X (gUp (gFl M (o + 38) 0 (fun j => (gDL v).getD j 0) (gDL v).length) (o + 35) i.toNat (w32 n)) 0 0 := by
    intro n hn
    have w := two (gDL v).length 0 (by omega)
    rw [gFl_0] at w
    rw [w32_id ⟨by omega, by omega⟩, hn]
    exact w
  have step : ∀ (n q : Nat) (r : Int) (pre : List Int), r.natAbs ≤ n → g64 r → pre.length = q → gDg v.natAbs = pre ++ gDg r.natAbs → (∃ tl, gDL v = pre ++ (48 + ((r.natAbs % 10 : Nat) : Int)) :: tl) →
      (¬ r.tdiv 10 = 0 → wp l G y_GM_digits (gRm d) true (kkV X k) true 6 [.val (gR G o), .val (gI i), .val (gL v), .unset, .val (gI ((q + 1 : Nat) : Int)), .val (gL (r.tdiv 10)), .unset, .unset, .unset] [] X (gFl M (o + 38) 0 (fun j => (gDL v).getD j 0) (q + 1)) 0 0) →
      wp l G y_GM_digits (gRm d) true (kkV X k) true 6 [.val (gR G o), .val (gI i), .val (gL v), .unset, .val (gI (q : Int)), .val (gL r), .unset, .unset, .unset] [] X (gFl M (o + 38) 0 (fun j => (gDL v).getD j 0) q) 0 0 := by
    intro n q r pre hr gr hq hD hL hgo
    obtain ⟨tl, hL⟩ := hL
    have hql : q < (gDL v).length := by rw [hL, List.length_append, List.length_cons]; omega
    have hF : (gDL v).getD q 0 = 48 + ((r.natAbs % 10 : Nat) : Int) := by
      show (gDL v).getD q 0 = _
      rw [hL, ← hq, List.getD_eq_getElem?_getD, List.getElem?_append_right (Nat.le_refl _), Nat.sub_self]
      rfl
    have hU : (gUp (gFl M (o + 38) 0 (fun j => (gDL v).getD j 0) q) (o + 38) (Int.toNat (q : Int)) (gByte (gByte (48 + ((r.natAbs % 10 : Nat) : Int))))) = gFl M (o + 38) 0 (fun j => (gDL v).getD j 0) (q + 1) := by
      rw [gByte_id (gByte_ok _), gByte_id (by omega), ← gFl_s, hF, Nat.zero_add]
      rfl
    have G1 : ¬ r.tdiv 10 = 0 → wp l G y_GM_digits (gRm d) true (kkV X k) true 6 [.val (gR G o), .val (gI i), .val (gL v), .unset, .val (gI (w32 ((q : Int) + 1))), .val (gL (r.tdiv 10)), .unset, .unset, .unset] [] X (gUp (gFl M (o + 38) 0 (fun j => (gDL v).getD j 0) q) (o + 38) (Int.toNat (q : Int)) (gByte (gByte (48 + ((r.natAbs % 10 : Nat) : Int))))) 0 0 := by
      intro b
      rw [gI_w, hU]
      exact hgo b
    have hend : r.tdiv 10 = 0 → gDL v = pre ++ [48 + ((r.natAbs % 10 : Nat) : Int)] ++ (if v < 0 then [45] else []) := by
      intro b
      have e : r.natAbs / 10 = 0 := by rw [g_tdiv10] at b; split at b <;> omega
      unfold gDL
      rw [hD, gDg_s e]
    have G2 : r.tdiv 10 = 0 → 0 ≤ v → wp l G y_GM_digits (gRm d) true (kkV X k) true 95 [.val (gR G o), .val (gI i), .unset, .unset, .val (gI (w32 ((q : Int) + 1))), .unset, .unset, .val (gI 0), .unset] [] X (gUp (gUp (gFl M (o + 38) 0 (fun j => (gDL v).getD j 0) q) (o + 38) (Int.toNat (q : Int)) (gByte (gByte (48 + ((r.natAbs % 10 : Nat) : Int))))) (o + 35) i.toNat (w32 ((q : Int) + 1))) 0 0 := by
      intro b c
      have hlen2 : (gDL v).length = q + 1 := by
        rw [hend b, if_neg (by omega), List.append_nil, List.length_append, hq]; rfl
      rw [hU, ← hlen2]
      exact mid _ (by omega)
    have G3 : r.tdiv 10 = 0 → ¬ 0 ≤ v → wp l G y_GM_digits (gRm d) true (kkV X k) true 95 [.val (gR G o), .val (gI i), .unset, .unset, .val (gI (w32 ((q : Int) + 1 + 1))), .unset, .unset, .val (gI 0), .unset] [] X (gUp (gUp (gUp (gFl M (o + 38) 0 (fun j => (gDL v).getD j 0) q) (o + 38) (Int.toNat (q : Int)) (gByte (gByte (48 + ((r.natAbs % 10 : Nat) : Int))))) (o + 38) (Int.toNat ((q : Int) + 1)) (gByte 45)) (o + 35) i.toNat (w32 ((q : Int) + 1 + 1))) 0 0 := by
      intro b c
      have e1 := hend b
      rw [if_pos (by omega)] at e1
      have hlen2 : (gDL v).length = q + 1 + 1 := by
        rw [e1, List.length_append, List.length_append, hq]; rfl
      have hF2 : (gDL v).getD (q + 1) 0 = 45 := by
        show (gDL v).getD (q + 1) 0 = _
        have hl1 : (pre ++ [48 + ((r.natAbs % 10 : Nat) : Int)]).length = q + 1 := by rw [List.length_append, hq]; rfl
        rw [e1, ← hl1, List.getD_eq_getElem?_getD, List.getElem?_append_right (Nat.le_refl _), Nat.sub_self]
        rfl
      have hU2 : gUp (gUp (gFl M (o + 38) 0 (fun j => (gDL v).getD j 0) q) (o + 38) (Int.toNat (q : Int)) (gByte (gByte (48 + ((r.natAbs % 10 : Nat) : Int))))) (o + 38) (Int.toNat ((q : Int) + 1)) (gByte 45) = gFl M (o + 38) 0 (fun j => (gDL v).getD j 0) (gDL v).length := by
        rw [hU, hlen2, ← gFl_s _ _ _ _ (q + 1), hF2, Nat.zero_add, gByte_id (by decide)]
        rfl
      rw [hU2]
      exact mid _ (by omega)
    have gt := g_tmod10 r
    have e2 : w64 (r.tmod 10) = r.tmod 10 := w64_id (by unfold g64; split at gt <;> omega)
    refine w_GM_digits_6 hX gi hv ⟨by omega, by omega⟩ gr ?_
    rw [w64_id (g64_tdiv (x := 10) gr (by omega)), e2]
    refine ⟨fun a => ?_, fun a => ?_⟩
    · rw [show 48 + r.tmod 10 = 48 + ((r.natAbs % 10 : Nat) : Int) by split at gt <;> omega]
      exact ⟨⟨by omega, by omega⟩, fun b => G1 b, fun b => ⟨fun e => ⟨fun _ => ⟨hi, G2 b e⟩, fun f => absurd e f⟩, fun e => ⟨⟨by omega, by omega⟩, fun f => absurd f e, fun _ => ⟨hi, G3 b e⟩⟩⟩⟩
    · rw [show 48 + -r.tmod 10 = 48 + ((r.natAbs % 10 : Nat) : Int) by split at gt <;> omega]
      exact ⟨⟨by omega, by omega⟩, fun b => G1 b, fun b => ⟨fun e => ⟨fun _ => ⟨hi, G2 b e⟩, fun f => absurd e f⟩, fun e => ⟨⟨by omega, by omega⟩, fun f => absurd f e, fun _ => ⟨hi, G3 b e⟩⟩⟩⟩
  have one : ∀ (n q : Nat) (r : Int) (pre : List Int), r.natAbs ≤ n → g64 r → pre.length = q → gDg v.natAbs = pre ++ gDg r.natAbs → wp l G y_GM_digits (gRm d) true (kkV X k) true 6 [.val (gR G o), .val (gI i), .val (gL v), .unset, .val (gI (q : Int)), .val (gL r), .unset, .unset, .unset] [] X (gFl M (o + 38) 0 (fun j => (gDL v).getD j 0) q) 0 0 := by
    intro n
    induction n with
    | zero =>
      intro q r pre hr gr hq hD
      have e0 : r = 0 := by omega
      have hL : ∃ tl, gDL v = pre ++ (48 + ((r.natAbs % 10 : Nat) : Int)) :: tl := by
        refine ⟨(if v < 0 then [45] else []), ?_⟩
        unfold gDL
        rw [hD, gDg_s (by omega), List.append_assoc]
        rfl
      exact step 0 q r pre hr gr hq hD hL (fun b => absurd (by rw [e0]; rfl) b)
    | succ n ih =>
      intro q r pre hr gr hq hD
      by_cases e : r.natAbs / 10 = 0
      · have hL : ∃ tl, gDL v = pre ++ (48 + ((r.natAbs % 10 : Nat) : Int)) :: tl := by
          refine ⟨(if v < 0 then [45] else []), ?_⟩
          unfold gDL
          rw [hD, gDg_s e, List.append_assoc]
          rfl
        exact step (n + 1) q r pre hr gr hq hD hL (fun b => absurd (by rw [g_tdiv10, e]; split <;> rfl) b)
      · have hL : ∃ tl, gDL v = pre ++ (48 + ((r.natAbs % 10 : Nat) : Int)) :: tl := by
          refine ⟨gDg (r.natAbs / 10) ++ (if v < 0 then [45] else []), ?_⟩
          unfold gDL
          rw [hD, gDg_b e, List.append_assoc]
          rfl
        refine step (n + 1) q r pre hr gr hq hD hL (fun b => ?_)
        have ea : (r.tdiv 10).natAbs = r.natAbs / 10 := by rw [g_tdiv10]; split <;> omega
        refine ih (q + 1) (r.tdiv 10) (pre ++ [48 + ((r.natAbs % 10 : Nat) : Int)]) (by omega) (g64_tdiv gr (by omega)) (by rw [List.length_append, hq]; rfl) ?_
        rw [hD, ea, gDg_b e, List.append_assoc]
        rfl
  exact e_GM_digits (w_GM_digits_0 hX gi hv (by
    have w := one v.natAbs 0 v [] (Nat.le_refl _) hv rfl rfl
    rw [gFl_0] at w
    exact w))
end gmC10
