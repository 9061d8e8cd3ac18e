/-! The class's Reader: picks closed. -/
section gdP
variable {l : Launch} {G : gG} {X : gX} {d : Nat} {c : Nat} {S : List Int}
theorem c_Rd_closePicks {M : gM} {z D1 m B n : Nat} {P R : Int → Prop} {rest : List gEx} {op : Int} {k : gM → Prop} (hX : glX X c) (hrest : rest ≠ []) (hg4 : rest.length ≤ 3) (hD : D1 ≤ 20) (hz : M (c + 2) 12 = (z : Int)) (hz2 : z < 10480) (hzm : z + 1 = m + gLsu rest + 2 * rest.length) (hwf : ∀ e ∈ rest, (gxWf P R n e).1) (h0 : gPk0 M c S B op D1 rest 1 m) (h : ∀ M2, gOff (fun x p => x = c + 10 ∧ m ≤ p) M M2 → gxPk M2 c op z (rest.map (fun x => (gxCo M2 c S B x).1)) (rest.map (fun x => (gxLn x).1)) 1 m → k M2) : cV l G y_Rd_closePicks (gRm d) true [gR G (c + 14), gI ((rest.length + 1 : Nat) : Int), gI (D1 : Int)] X M k := by
  generalize hgv : rest.length + 1 = given at *
  have gg : g32 (given : Int) := ⟨by omega, by omega⟩
  have gD : g32 (D1 : Int) := ⟨by omega, by omega⟩
  have gz : g64 (z : Int) := ⟨by omega, by omega⟩
  have key : ∀ (es : List gEx) (j m : Nat) (M : gM), (∀ e ∈ es, (gxWf P R n e).1) → j + es.length = given → 1 ≤ j → gPk0 M c S B op D1 es j m → (es ≠ [] → z + 1 = m + gLsu es + 2 * es.length) → (1 < j → 1 ≤ m) → (∀ M2, gOff (fun x p => x = c + 10 ∧ m ≤ p + (if j = 1 then 0 else 1)) M M2 → gxPk M2 c op z (es.map (fun x => (gxCo M2 c S B x).1)) (es.map (fun x => (gxLn x).1)) j m → (1 < j → es ≠ [] → M2 (c + 10) (m - 1) = (z : Int)) → k M2) → wp l G y_Rd_closePicks (gRm d) true (kkV X k) true 12 [.val (gR G (c + 14)), .val (gI (given : Int)), .val (gI (D1 : Int)), .val (gL (z : Int)), .unset, .val (gI (j : Int)), .unset, .unset, .unset] [] X M 0 0 := by
    intro es
    induction es with
    | nil =>
      intro j m M _ hj hj1 _ _ _ hk
      have hj : j + 0 = given := hj
      exact w_Rd_closePicks_12 hX gg gD gz ⟨by omega, by omega⟩ ⟨fun _ => hk M (gOff.rf _ _) trivial (fun _ y => absurd rfl y), fun y => absurd (by omega) y⟩
    | cons e es ih =>
      intro j m M hw hj hj1 hp hzz hm hk
      have hj : j + (es.length + 1) = given := hj
      have hzz := hzz (by intro y; cases y)
      have hzz : z + 1 = m + ((gxLn e).1 + gLsu es) + 2 * (es.length + 1) := hzz
      obtain ⟨q1, q2, q3, q4, q5⟩ := hp
      have we : ∀ x ∈ es, (gxWf P R n x).1 := fun x hx => hw x (List.mem_cons_of_mem _ hx)
      -- behind the writes
      have aft : ∀ M4 : gM, gOff (fun x p => x = c + 10 ∧ (p = m ∨ 1 < j ∧ p + 1 = m)) M M4 → M4 (c + 10) m = gEnc (j : Int) (if es = [] then (z : Int) else ((m + (gxLn e).1 + 2 : Nat) : Int)) (z : Int) → (1 < j → M4 (c + 10) (m - 1) = (z : Int)) → wp l G y_Rd_closePicks (gRm d) true (kkV X k) true 12 [.val (gR G (c + 14)), .val (gI (given : Int)), .val (gI (D1 : Int)), .val (gL (z : Int)), .unset, .val (gI ((j + 1 : Nat) : Int)), .unset, .unset, .unset] [] X M4 0 0 := by
        intro M4 o4 en4 j4
        refine ih (j + 1) (m + (gxLn e).1 + 2) M4 we (by omega) (by omega) (gPk0_rd (P := P) (R := R) (n := n) (Nat.le_refl _) (fun j _ => o4 _ _ (by omega)) es _ _ we (fun p p1 p2 => ⟨o4 _ _ (by omega), o4 _ _ (by omega)⟩) (fun i _ _ => o4 _ _ (by omega)) q5) (fun _ => by omega) (fun _ => by omega) (fun M2 o2 pk jz => ?_)
        rw [if_neg (by omega)] at o2
        have k9 : ∀ p, M2 (c + 9) p = M (c + 9) p := fun p => (o2 _ _ (by omega)).trans (o4 _ _ (by omega))
        have k13 : ∀ p, M2 (c + 13) p = M (c + 13) p := fun p => (o2 _ _ (by omega)).trans (o4 _ _ (by omega))
        have k10 : ∀ p, p < m + (gxLn e).1 + 1 → M2 (c + 10) p = M4 (c + 10) p := fun p hp => o2 _ _ (by omega)
        refine hk M2 ?_ ?_ (fun y _ => (k10 _ (by omega)).trans (j4 y))
        · intro x p np
          rw [o2 x p (fun y => np ⟨y.1, by split <;> omega⟩), o4 x p (fun y => np ⟨y.1, by split <;> omega⟩)]
        · have co : (gxCo M2 c S B e).1 (m + 1) := (gxCo_keep (P := P) (R := R) (n := n) (Nat.le_refl _) (fun p _ => k13 p) e).1 (hw e List.mem_cons_self) (m + 1) (fun p p1 p2 => ⟨k9 p, (k10 p (by omega)).trans (o4 _ _ (by omega))⟩) q3
          cases es with
          | nil =>
            rw [if_pos rfl] at en4
            exact ⟨⟨(k9 m).trans q1, (k10 m (by omega)).trans en4⟩, co, fun y => (by cases y), pk⟩
          | cons y ys =>
            rw [if_neg (by intro z; cases z)] at en4
            refine ⟨⟨(k9 m).trans q1, (k10 m (by omega)).trans en4⟩, co, fun _ => ⟨(k9 _).trans (q4 (by intro z; cases z)), ?_⟩, pk⟩
            have := jz (by omega) (by intro z; cases z)
            rw [show m + (gxLn e).1 + 2 - 1 = m + 1 + (gxLn e).1 by omega] at this
            exact this
      have j3 : j ≤ 3 := by omega
      refine w_Rd_closePicks_12 hX gg gD gz ⟨by omega, by omega⟩ ⟨fun y => absurd y (by omega), fun _ => ?_⟩
      rw [show ((D1 : Int) * 4 + (j : Int)).toNat = D1 * 4 + j by omega, q2, Int.toNat_natCast, w32_id (x := (j : Int) + 1) ⟨by omega, by omega⟩, show (j : Int) + 1 = ((j + 1 : Nat) : Int) by omega, show ((D1 : Int) * 4 + (j : Int) + 1).toNat = D1 * 4 + (j + 1) by omega, show ((m : Int) - 1).toNat = m - 1 by omega, gEnc_enc (k := (j : Int)) (nx := (z : Int)) (z := (z : Int)) ⟨by omega, by omega⟩ ⟨by omega, by omega⟩ ⟨by omega, by omega⟩]
      refine ⟨⟨by omega, by omega⟩, fun _ => ⟨fun z1 => ⟨⟨by omega, by omega⟩, fun z2 => aft _ ((gOff.rf _ _).up ⟨rfl, Or.inl rfl⟩) ?_ (fun y => by omega), fun z2 => ⟨⟨by omega, by omega⟩, aft _ (((gOff.rf _ _).up ⟨rfl, Or.inl rfl⟩).up ⟨rfl, Or.inr ⟨by omega, by omega⟩⟩) ?_ (fun _ => gUp_eq _ _ _ _)⟩⟩, fun z1 => ⟨⟨by omega, by omega⟩, fun _ => ?_⟩⟩⟩
      · have : es = [] := List.length_eq_zero_iff.1 (by omega)
        rw [if_pos this, gUp_eq]
      · have : es = [] := List.length_eq_zero_iff.1 (by omega)
        rw [if_pos this, gUp_k (by omega), gUp_eq]
      · cases es with
        | nil => exact absurd (show (given : Int) ≤ ((j + 1 : Nat) : Int) by have : j + (0 + 1) = given := hj; omega) z1
        | cons y ys =>
          rw [if_neg (by intro z; cases z)] at aft
          rw [q5.2.1, gEnc_enc (k := (j : Int)) (nx := ((m + (gxLn e).1 + 2 : Nat) : Int)) (z := (z : Int)) ⟨by omega, by omega⟩ ⟨by omega, by omega⟩ ⟨by omega, by omega⟩]
          exact ⟨⟨by omega, by omega⟩, fun z2 => aft _ ((gOff.rf _ _).up ⟨rfl, Or.inl rfl⟩) (gUp_eq _ _ _ _) (fun y => by omega), fun z2 => ⟨⟨by omega, by omega⟩, aft _ (((gOff.rf _ _).up ⟨rfl, Or.inl rfl⟩).up ⟨rfl, Or.inr ⟨by omega, by omega⟩⟩) (by rw [gUp_k (by omega), gUp_eq]) (fun _ => gUp_eq _ _ _ _)⟩⟩
  refine e_Rd_closePicks (w_Rd_closePicks_0 hX gg gD ?_)
  rw [hz]
  exact fun _ => key rest 1 m M hwf (by omega) (Nat.le_refl _) h0 (fun _ => hzm) (fun y => absurd y (Nat.lt_irrefl _)) (fun M2 o pk _ => h M2 (o.mono (fun x p q => q)) pk)
end gdP
