/-! The class's Machine: REPLACE, the works of texts. -/
theorem gRepl_e (r : List Int) : ∀ b : List Int, gRepl [] r b = b := by
  intro b
  induction b with
  | nil => rfl
  | cons x t ih => rw [gRepl_cons, if_neg (fun q => q.1 rfl), ih]
theorem gBy_app {M : gM} {c p : Nat} {x y : List Int} (h1 : gBy M c p x.length = x) (h2 : gBy M c (p + x.length) y.length = y) : gBy M c p (x ++ y).length = x ++ y := by
  refine gBy_of _ _ (fun j hj => ?_)
  rw [List.length_append] at hj
  rw [List.getD_eq_getElem?_getD]
  by_cases q : j < x.length
  · rw [List.getElem?_append_left q, ← List.getD_eq_getElem?_getD]
    exact gBy_at h1 q
  · rw [List.getElem?_append_right (by omega), ← List.getD_eq_getElem?_getD, ← gBy_at h2 (j := j - x.length) (by omega)]
    congr 1
    omega
theorem gBy_sub {M : gM} {c p i m : Nat} {x : List Int} (h : gBy M c p x.length = x) (hm : i + m ≤ x.length) : gBy M c (p + i) m = (x.drop i).take m := by
  have el : ((x.drop i).take m).length = m := by rw [List.length_take, List.length_drop]; omega
  have := gBy_of (M := M) (c := c) ((x.drop i).take m) (p + i) (fun j hj => ?_)
  · rw [el] at this; exact this
  · rw [el] at hj
    rw [List.getD_eq_getElem?_getD, List.getElem?_take, if_pos hj, List.getElem?_drop, ← List.getD_eq_getElem?_getD, ← gBy_at h (j := i + j) (by omega)]
    congr 1
    omega
section gbX
variable {l : Launch} {G : gG} {d : Nat} {X : gX} {M : gM} {c n : Nat} {Q : gQ} {a b e : gVl} {k : gM → Prop}
theorem c_Ma_exchange (hX : glX X c) (hn : n + 2 < 104) (ha : gvAt M (c + 1058) n a) (oa : gvOk a) (ka : a.kd = 2) (hb : gvAt M (c + 1058) (n + 1) b) (ob : gvOk b) (kb : b.kd = 2) (he : gvAt M (c + 1058) (n + 2) e) (oe : gvOk e) (ke : e.kd = 2) (h : gPost M c n (if 64 < (gRepl b.tx e.tx a.tx).length then gE 4 else gTxt (gRepl b.tx e.tx a.tx)) k) : cV l G y_Ma_exchange (gRm (d + 1 + 1)) true [gR G (c + 1057), gI (n : Int)] X M k := by
  obtain ⟨na, la⟩ := oa.2.2.2.1 ka
  obtain ⟨nb, lb⟩ := ob.2.2.2.1 kb
  obtain ⟨ne, le⟩ := oe.2.2.2.1 ke
  have gn : g32 (n : Int) := ⟨by omega, by omega⟩
  have hs : (0 : Int) ≤ (n : Int) ∧ (n : Int) < 104 := ⟨by omega, by omega⟩
  have hs2 : (0 : Int) ≤ (n : Int) + 2 ∧ (n : Int) + 2 < 104 := ⟨by omega, by omega⟩
  have hr2 : 1 ≤ c + 1166 ∧ c + 1166 ≤ X.1 ∧ X.2.1 (c + 1166) = (2, 64) ∧ 64 ≤ 2147483647 := ⟨gl_1 hX 1166, gl_2 hX (by decide), gl_s hX 38 rfl, by decide⟩
  -- the scratch alone is changed
  have keepV : ∀ (M2 : gM) (w : gVl) (i : Nat), i < 104 → gOff (fun p _ => p = c + 1166) M M2 → gvAt M (c + 1058) i w → gvAt M2 (c + 1058) i w := by
    intro M2 w i hi o hw
    refine hw.keep o ?_ ?_ (fun j _ => ?_) <;> omega
  have mm : ∀ p q : Nat, p = c + 1166 → gMr c n p q := fun p q z => Or.inr (Or.inl z)
  have eR : ∀ (M2 : gM), gOff (fun p _ => p = c + 1166) M M2 → 64 < (gRepl b.tx e.tx a.tx).length → cV l G y_Vl_set (gRm (d + 1)) true [gR G (c + 1058), gI (n : Int), gI 4, gL 4] X M2 k := by
    intro M2 o big
    rw [if_pos big] at h
    exact c_putE (V := gE 4) hX hs (by decide) rfl (fun M3 o3 v3 => h M3 ((o.mono mm).tr o3) v3)
  have eT : ∀ (M2 : gM) (x : Int), gOff (fun p _ => p = c + 1166) M M2 → ¬ 64 < (gRepl b.tx e.tx a.tx).length → x = ((gRepl b.tx e.tx a.tx).length : Int) → gBy M2 (c + 1166) 0 (gRepl b.tx e.tx a.tx).length = gRepl b.tx e.tx a.tx → cV l G y_Vl_setText (gRm (d + 1)) true [gR G (c + 1058), gI (n : Int), gR G (c + 1166), gI 0, gI x] X M2 (fun M3 => (k M3)) := by
    intro M2 x o sm hx hB
    subst hx
    rw [if_neg sm] at h
    refine c_Vl_setText (gl_stk hX) hs hr2 ⟨by omega, by omega, by omega, by omega⟩ (fun M3 o3 v3 => h M3 ((o.mono mm).tr (o3.mono gMr_vs)) ?_)
    have v4 : gvAt M3 (c + 1058) n ⟨2, ((gRepl b.tx e.tx a.tx).length : Int), gBy M2 (c + 1166) 0 (gRepl b.tx e.tx a.tx).length⟩ := v3
    rw [hB] at v4
    exact v4
  have key : ∀ (m A : Nat) (out : List Int) (M2 : gM), A ≤ a.tx.length → a.tx.length + 1 ≤ A + m → m ≤ 65 → out.length ≤ 64 → gOff (fun p _ => p = c + 1166) M M2 → gBy M2 (c + 1166) 0 out.length = out → gRepl b.tx e.tx a.tx = out ++ gRepl b.tx e.tx (a.tx.drop A) →
      wp l G y_Ma_exchange (gRm (d + 1 + 1)) true (kkV X k) true 36 [.val (gR G (c + 1057)), .val (gI (n : Int)), .val (gI (b.tx.length : Int)), .val (gI (e.tx.length : Int)), .val (gI (out.length : Int)), .val (gI (A : Int)), .val (gI (m : Int)), .unset, .unset, .unset] [] X M2 0 0 := by
    intro m
    induction m with
    | zero => intro A out M2 h1 h2; omega
    | succ m ih =>
      intro A out M2 hA hm hm2 ho off hB hR
      have ha2 := keepV M2 a n (by omega) off ha
      have hb2 := keepV M2 b (n + 1) (by omega) off hb
      have he2 := keepV M2 e (n + 2) (by omega) off he
      have gA : g32 (A : Int) := ⟨by omega, by omega⟩
      have gm : g32 ((m + 1 : Nat) : Int) := ⟨by omega, by omega⟩
      have gL1 : g32 (out.length : Int) := ⟨by omega, by omega⟩
      have gb1 : g32 (b.tx.length : Int) := ⟨by omega, by omega⟩
      have ge1 : g32 (e.tx.length : Int) := ⟨by omega, by omega⟩
      have na2 : M2 (c + 1058 + 2) n = (a.tx.length : Int) := by rw [ha2.2.1, na]
      -- nothing more is found
      have none1 : gRepl b.tx e.tx (a.tx.drop A) = a.tx.drop A → wp l G y_Ma_exchange (gRm (d + 1 + 1)) true (kkV X k) true 59 [.val (gR G (c + 1057)), .val (gI (n : Int)), .val (gI (b.tx.length : Int)), .val (gI (e.tx.length : Int)), .val (gI (out.length : Int)), .val (gI (A : Int)), .val (gI ((m + 1 : Nat) : Int)), .unset, .unset, .unset] [gI (-1)] X M2 0 0 := by
        intro hN
        rw [hN] at hR
        have eL : (gRepl b.tx e.tx a.tx).length = out.length + (a.tx.length - A) := by rw [hR, List.length_append, List.length_drop]
        refine w_Ma_exchange_59 hX gn gb1 ge1 gL1 gA gm ⟨by decide, by decide⟩ ?_
        simp only [gT0, na2]
        have e64 : w32 ((out.length : Int) + ((a.tx.length : Int) - (A : Int)) + 0) = (out.length : Int) + ((a.tx.length : Int) - (A : Int)) := by rw [w32_id ⟨by omega, by omega⟩]; omega
        have big := eR M2 off
        have small : ¬ 64 < (gRepl b.tx e.tx a.tx).length → cV l G y_Vl_setText (gRm (d + 1)) true [gR G (c + 1058), gI (n : Int), gR G (c + 1166), gI 0, gI ((out.length : Int) + (((a.tx.length : Int) - (A : Int)) + 0))] X (gCp (gCp M2 (c + 1166) (c + 1058 + 4 + n) A out.length (Int.toNat ((a.tx.length : Int) - (A : Int)))) (c + 1166) (c + 1058 + 4 + Int.toNat ((n : Int) + 2)) (Int.toNat 0) (Int.toNat ((out.length : Int) + ((a.tx.length : Int) - (A : Int)))) (Int.toNat 0)) (fun M3 => (k M3)) := by
          intro sm
          refine eT _ _ ((off.cp (fun _ _ _ => rfl)).cp (fun _ _ _ => rfl)) sm (by omega) ?_
          rw [show (Int.toNat 0) = 0 from rfl, gCp_0, hR]
          refine gBy_app ?_ ?_
          · exact (gBy_congr _ _ _ (fun j hj => gCp_out (by omega))).trans hB
          · rw [List.length_drop]
            refine (gBy_congr (c' := c + 1058 + 4 + n) (M' := M2) _ _ A (fun j hj => ?_)).trans ?_
            · rw [gCp_in (by omega) (by omega)]
              congr 1
              omega
            · have := gBy_sub ha2.2.2 (i := A) (m := a.tx.length - A) (by omega)
              rw [Nat.zero_add] at this
              rw [this, List.take_of_length_le (by rw [List.length_drop]; omega)]
        rw [e64]
        (repeat' with_reducible first | (refine And.intro ?_ ?_) | intro _)
        all_goals first | omega | exact small (by omega) | exact big (by omega)
      -- found at q
      have some1 : ∀ q : Nat, A ≤ q → q + b.tx.length ≤ a.tx.length → 1 ≤ b.tx.length → gRepl b.tx e.tx (a.tx.drop A) = (a.tx.drop A).take (q - A) ++ e.tx ++ gRepl b.tx e.tx (a.tx.drop (q + b.tx.length)) → wp l G y_Ma_exchange (gRm (d + 1 + 1)) true (kkV X k) true 59 [.val (gR G (c + 1057)), .val (gI (n : Int)), .val (gI (b.tx.length : Int)), .val (gI (e.tx.length : Int)), .val (gI (out.length : Int)), .val (gI (A : Int)), .val (gI ((m + 1 : Nat) : Int)), .unset, .unset, .unset] [gI (q : Int)] X M2 0 0 := by
        intro q hq1 hq2 hb1 hN
        rw [hN] at hR
        have eL1 : ((a.tx.drop A).take (q - A)).length = q - A := by rw [List.length_take, List.length_drop]; omega
        have eL : (gRepl b.tx e.tx a.tx).length = out.length + (q - A) + e.tx.length + (gRepl b.tx e.tx (a.tx.drop (q + b.tx.length))).length := by
          rw [hR, List.length_append, List.length_append, List.length_append, eL1]; omega
        refine w_Ma_exchange_59 hX gn gb1 ge1 gL1 gA gm ⟨by omega, by omega⟩ ?_
        have e64 : w32 ((out.length : Int) + ((q : Int) - (A : Int)) + (e.tx.length : Int)) = (out.length : Int) + ((q : Int) - (A : Int)) + (e.tx.length : Int) := w32_id ⟨by omega, by omega⟩
        simp only [gT0, na2, gI_w]
        have big := eR M2 off
        have go : (out.length : Int) + ((q : Int) - (A : Int)) + (e.tx.length : Int) ≤ 64 → wp l G y_Ma_exchange (gRm (d + 1 + 1)) true (kkV X k) true 36 [.val (gR G (c + 1057)), .val (gI (n : Int)), .val (gI (b.tx.length : Int)), .val (gI (e.tx.length : Int)), .val (gI ((out.length : Int) + (((q : Int) - (A : Int)) + (e.tx.length : Int)))), .val (gI ((q : Int) + (b.tx.length : Int))), .val (gI (((m + 1 : Nat) : Int) + (-1))), .unset, .unset, .unset] [] X (gCp (gCp M2 (c + 1166) (c + 1058 + 4 + n) A out.length (Int.toNat ((q : Int) - (A : Int)))) (c + 1166) (c + 1058 + 4 + Int.toNat ((n : Int) + 2)) (Int.toNat 0) (Int.toNat ((out.length : Int) + ((q : Int) - (A : Int)))) e.tx.length) 0 0 := by
          intro h64
          have i1 := ih (q + b.tx.length) (out ++ (a.tx.drop A).take (q - A) ++ e.tx) (gCp (gCp M2 (c + 1166) (c + 1058 + 4 + n) A out.length (Int.toNat ((q : Int) - (A : Int)))) (c + 1166) (c + 1058 + 4 + Int.toNat ((n : Int) + 2)) (Int.toNat 0) (Int.toNat ((out.length : Int) + ((q : Int) - (A : Int)))) e.tx.length) hq2 (by omega) (by omega) (by rw [List.length_append, List.length_append, eL1]; omega) ((off.cp (fun _ _ _ => rfl)).cp (fun _ _ _ => rfl)) ?_ (by rw [hR, List.append_assoc, List.append_assoc, List.append_assoc])
          · rw [show (((out ++ (a.tx.drop A).take (q - A) ++ e.tx).length : Nat) : Int) = (out.length : Int) + (((q : Int) - (A : Int)) + (e.tx.length : Int)) by rw [List.length_append, List.length_append, eL1]; omega, show ((q + b.tx.length : Nat) : Int) = (q : Int) + (b.tx.length : Int) by omega, show (m : Int) = ((m + 1 : Nat) : Int) + (-1) by omega] at i1
            exact i1
          · rw [gT2, show (Int.toNat 0) = 0 from rfl]
            refine gBy_app (gBy_app ?_ ?_) ?_
            · exact (gBy_congr _ _ _ (fun j hj => by rw [gCp_out (by omega), gCp_out (by omega)])).trans hB
            · rw [eL1]
              refine (gBy_congr (c' := c + 1058 + 4 + n) (M' := M2) _ _ A (fun j hj => ?_)).trans ?_
              · rw [gCp_out (by omega), gCp_in (by omega) (by omega)]
                congr 1
                omega
              · have := gBy_sub ha2.2.2 (i := A) (m := q - A) (by omega)
                rw [Nat.zero_add] at this
                exact this
            · refine (gBy_congr (c' := c + 1058 + 4 + (n + 2)) (M' := M2) _ _ 0 (fun j hj => ?_)).trans he2.2.2
              rw [List.length_append, eL1]
              rw [gCp_in (by omega) (by omega), gCp_a (by omega)]
              congr 1
              omega
        rw [e64]
        (repeat' with_reducible first | (refine And.intro ?_ ?_) | intro _)
        all_goals first | omega | exact go (by omega) | exact big (by omega)
      refine w_Ma_exchange_36 hX gn gb1 ge1 gL1 gA gm ⟨fun u => absurd u (by omega), fun _ => ⟨fun u => ?_, fun u => none1 ?_⟩⟩
      · have hb1 : 1 ≤ b.tx.length := by omega
        have hbn : b.tx ≠ [] := fun z => by rw [z] at hb1; cases hb1
        have fd := gRepl_find b.tx e.tx hbn (a.tx.length + 1 - b.tx.length - A) A a.tx
        refine c_Ma_placeOf (i := n + 1) (j := n) (p := A) hX (by omega) (by omega) hb2 ob kb ha2 oa ka (by omega) (fun q hq => ?_) (fun hq => ?_)
        · by_cases z : A ≤ a.tx.length + 1 - b.tx.length
          · have f2 := fd (by omega) hA
            unfold gFind at hq
            rw [hq] at f2
            exact some1 q f2.1 f2.2.1 hb1 f2.2.2
          · unfold gFind at hq
            rw [show a.tx.length + 1 - b.tx.length - A = 0 by omega] at hq
            cases hq
        · refine none1 ?_
          by_cases z : A ≤ a.tx.length + 1 - b.tx.length
          · have f2 := fd (by omega) hA
            unfold gFind at hq
            rw [hq] at f2
            exact f2
          · have f2 := gRepl_find b.tx e.tx hbn 0 (a.tx.length + 1 - b.tx.length) a.tx (by omega) (by omega)
            -- what is left is too short
            have sh : ∀ (m : Nat) (x : List Int), x.length = m → x.length < b.tx.length → gRepl b.tx e.tx x = x := by
              intro m
              induction m with
              | zero => intro x ex _; rw [List.length_eq_zero_iff.mp ex]; rfl
              | succ m ihm =>
                intro x ex hx
                cases x with
                | nil => rfl
                | cons y t => rw [gRepl_cons, if_neg (fun q => by have := gPfx_len _ _ q.2; omega), ihm t (by simpa using ex) (by simp only [List.length_cons] at hx; omega)]
            exact sh _ _ rfl (by rw [List.length_drop]; omega)
      · have : b.tx = [] := List.length_eq_zero_iff.mp (by omega)
        rw [this]
        exact gRepl_e _ _
  refine e_Ma_exchange (w_Ma_exchange_0 hX gn ?_)
  simp only [gT1, gT2, hb.2.1, he.2.1, nb, ne]
  refine ⟨⟨by omega, by omega⟩, fun _ => ⟨⟨by omega, by omega⟩, fun _ => ?_⟩⟩
  rw [w32_id (x := (b.tx.length : Int)) ⟨by omega, by omega⟩, w32_id (x := (e.tx.length : Int)) ⟨by omega, by omega⟩]
  exact key 65 0 [] M (by omega) (by omega) (by omega) (by decide) (gOff.rf _ _) rfl (by rw [List.drop_zero]; rfl)
end gbX
