/-! The class's Reader: an argument. -/
def gTkx (w : Int) : Nat := if w < 0 then 2 else gWta w.toNat
theorem gWta_66 : ∀ i, i < 52 → gWta i < 66 := by decide +kernel
theorem gTkx_ok {w : Int} (hw : w = -1 ∨ 14 ≤ w ∧ w < 52) : gTkx w < 66 := by
  unfold gTkx
  split
  · decide
  · exact gWta_66 _ (by omega)
theorem gTkx_L {w : Int} : gSby.getD (gTkx w) [] = gLt w := by
  unfold gTkx gLt
  split <;> rfl
theorem gTkx_l {w : Int} : gSl (gTkx w) = (gLt w).length := by unfold gSl; rw [gTkx_L]
theorem gTkx_c {w : Int} {i : Nat} : gSc (gTkx w) i = (gLt w).getD i 0 := by
  have : gSc (gTkx w) i = (gSby.getD (gTkx w) []).getD i 0 := rfl
  rw [this, gTkx_L]
/-- how many steps open the argument -/
def gSft (w : Int) (i : Nat) : Nat := if 0 ≤ w ∧ i < (gLt w).length ∧ 0 < i ∧ gWgr w.toNat = 5 then (if i = 1 then 1 else 2) else 0
/-- the code of an argument that fits -/
def gArE (M : gM) (c : Nat) (S : List Int) (w : Int) (D1 i cs : Nat) (x : gEx) (cs' bs' : Nat) : Prop :=
  if i < (gLt w).length ∧ (gLt w).getD i 0 = 114 then gxBc M c x cs ∧ cs' = cs + 1
  else (gxCo M c S bs' x).1 (cs + gSft w i) ∧ cs' = cs + gSft w i + (gxLn x).1 ∧ (1 ≤ gSft w i → M (c + 9) (cs + gSft w i - 1) = gxOp w.toNat ∧ M (c + 15) (D1 * 4 + i) = ((cs + gSft w i - 1 : Nat) : Int)) ∧ (gSft w i = 2 → M (c + 9) cs = 10)
theorem gLt_4 {w : Int} (hw : w = -1 ∨ 14 ≤ w ∧ w < 52) : (gLt w).length ≤ 4 := by
  unfold gLt
  split
  · decide
  · exact (gGl w.toNat (by omega)).1
section gdM
variable (l : Launch) (G : gG) (X : gX) (c : Nat) (S : List Int) (ts : List gTkn) (id R0 : Nat)
def gC7 (n : Nat) : Prop := ∀ (d : Nat) (M : gM) (kk : Int → gM → Prop) (w : Int) (i D1 ab cs bs : Nat) (rs : List gRf), gRkp M c S ts id R0 → gRwh M c (ab + 1) cs (R0 + rs.length) bs → M (c + 14) 5 = 0 → gRfM M c id R0 rs → gRcap ts ab cs (R0 + rs.length) bs → ab + 1 ≤ ts.length → 3 * (ts.length - (ab + 1)) + 4 ≤ n → D1 ≤ 21 → i ≤ 100 → (w = -1 ∨ 14 ≤ w ∧ w < 52) →
  (gPs S ts n 7 w D1 (.num 0) (ab + 1) rs = none → gRpF M c ts id (D1 * 4 + min i 4) ab cs (R0 + rs.length) bs (fun M2 => ∀ v, 0 ≤ v ∧ v ≤ 1 → kk v M2)) →
  (∀ x a' rs', gPs S ts n 7 w D1 (.num 0) (ab + 1) rs = some (x, a', rs') → ∀ M2 v cs' bs', gOff (gRdR c id cs (R0 + rs.length) bs (D1 * 4 + min i 4)) M M2 → M2 (c + 14) 5 = 0 → gRwh M2 c a' cs' (R0 + rs'.length) bs' → gRbd ts ab cs (R0 + rs.length) bs a' cs' (R0 + rs'.length) bs' → gRfM M2 c id R0 rs' → (0 ≤ v ∧ v ≤ 1) → (gTK ts a' = 15 ∨ gTK ts a' = 14 → v = (if gFts (gLt w) i x = true then 1 else 0) ∧ (gFts (gLt w) i x = true → gArE M2 c S w D1 i cs x cs' bs')) → kk v M2) →
  cZ l G y_Rd_readArgument (gRm (d + n + 8)) true [gR G (c + 14), gI w, gI (i : Int), gI (D1 : Int)] X M kk
end gdM
section gdN
variable {l : Launch} {G : gG} {X : gX} {d : Nat} {M : gM} {c : Nat} {Q : gQ} {S : List Int} {ts : List gTkn} {id R0 a cs bs mk : Nat} {rs : List gRf}
theorem gRd_range {k : gM → Prop} (hX : glX X c) (hts : ts.length ≤ 100) (hto : ∀ t ∈ ts, gTkO S t ∧ 1 ≤ t.2.1) (hid : id < 513) (k1 : gRkp M c S ts id R0) (k2 : gRwh M c a cs (R0 + rs.length) bs) (k3 : M (c + 14) 5 = 0) (k4 : gRfM M c id R0 rs) (k5 : R0 + rs.length ≤ 10339 ∧ cs < 10480) (h1 : gTK ts a = 19) (h2 : gTK ts (a + 2) = 19) (hF : ¬ (gTK ts (a + 3) = 15 ∨ gTK ts (a + 3) = 14) → k (gUp M (c + 14) 5 1)) (hS : gTK ts (a + 3) = 15 ∨ gTK ts (a + 3) = 14 → ∀ M2, gOff (gRdR c id cs (R0 + rs.length) bs mk) M M2 → M2 (c + 14) 5 = 0 → gRwh M2 c (a + 3) (cs + 1) (R0 + (rs ++ [gRfA S ts a 1, gRfA S ts (a + 2) 2]).length) bs → gRfM M2 c id R0 (rs ++ [gRfA S ts a 1, gRfA S ts (a + 2) 2]) → gAt2 M2 c cs 6 (rs.length : Int) → k M2) : cV l G y_Rd_readRange (gRm (d + 2)) true [gR G (c + 14)] X M k := by
  have l2 := gTK_lt (ts := ts) (a := a + 2) (by rw [h2]; decide)
  refine e_Rd_readRange (w_Rd_readRange_0 (d := d + 1) hX ?_)
  rw [k2.1, show (a : Int) + 3 = ((a + 3 : Nat) : Int) by omega]
  refine fun _ => c_Rd_endsArgument hX k1.2.1 hts (by omega) (fun he => ⟨fun _ _ => ?_, fun y => absurd y (by decide)⟩) (fun he => ⟨fun y => absurd rfl y, fun _ => hF he⟩)
  rw [k2.1]
  refine gRd_ref (d := d) (x := 1) (mk := mk) (cs := cs) (bs := bs) hX hts hto hid k1 k2 k4 (by omega) h1 (by decide) (fun M6 o6 s6 f6 rf6 => ?_)
  refine c_Cn_emit hX (g32_c rfl) ⟨by omega, by omega⟩ s6.2.1 k5.2 ?_
  have em : gOff (gRdR c id cs (R0 + rs.length) bs mk) M6 (gEm M6 c cs 6 (rs.length : Int)) := gEm_off
  have s9 := gEm_st (op := 6) (x := (rs.length : Int)) s6
  have k9 := (k1.kp o6).kp em
  rw [s9.1, show (a : Int) + 2 = ((a + 2 : Nat) : Int) by omega]
  have e1 : (rs ++ [gRfA S ts a ((1 : Nat) : Int)]).length = rs.length + 1 := List.length_append
  refine fun _ => gRd_ref (d := d) (x := 2) (mk := mk) (cs := cs + 1) (bs := bs) hX hts hto hid k9 s9 rf6.em (by rw [e1]; omega) h2 (by decide) (fun M11 o11 s11 f11 rf11 => ?_)
  rw [s11.1, w32_id (x := (a : Int) + 3) ⟨by omega, by omega⟩, show (a : Int) + 3 = ((a + 3 : Nat) : Int) by omega]
  have o12 : gOff (gRdR c id cs (R0 + rs.length) bs mk) M (gUp M11 (c + 14) 4 ((a + 3 : Nat) : Int)) := ((o6.tr em).tr (o11.mono (gRdR_le ⟨by omega, by rw [e1]; omega, Nat.le_refl _, Nat.le_refl _⟩))).tr gAd_off
  have ea : rs ++ [gRfA S ts a ((1 : Nat) : Int)] ++ [gRfA S ts (a + 2) ((2 : Nat) : Int)] = rs ++ [gRfA S ts a 1, gRfA S ts (a + 2) 2] := by
    rw [List.append_assoc]
    rfl
  rw [ea] at s11 rf11
  refine fun _ => hS he _ o12 ?_ (gAd_st s11) rf11.ad ?_
  · rw [gUp_k (by decide), f11, gEm_f, f6]; exact k3
  · have q : gAt2 M11 c cs 6 (rs.length : Int) := by
      have q0 : gAt2 (gEm M6 c cs 6 (rs.length : Int)) c cs 6 (rs.length : Int) := gEm_at
      refine ⟨(o11 _ _ ?_).trans q0.1, (o11 _ _ ?_).trans q0.2⟩ <;> unfold gRdR <;> omega
    unfold gAt2 at q ⊢
    rw [gUp_a (by omega), gUp_a (by omega)]
    exact q
end gdN
