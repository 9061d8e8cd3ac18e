/-! The reference's ref: a reference of a formula is taken down. -/
section gmC16
variable {l : Launch} {G : gG} {d : Nat} {X : gX} {M : gM} {o : Nat}
theorem gmPass_oo {b j : Nat} (h : b ≠ 0) : gmPass M o (o + b) j = M (o + b) j := by
  unfold gmPass
  split
  · rw [gUp_ao h, gUp_ao h]
  · rw [gUp_ao h]
theorem gmPass_f {j : Nat} (h1 : j ≠ 25) (h2 : j ≠ 27) : gmPass M o o j = M o j := by
  unfold gmPass
  split
  · rw [gUp_k h1, gUp_k h2]
  · rw [gUp_k h1]
/-- the reference at the token that is looked at, taken down with its corner -/
def gmRefD (M : gM) (o : Nat) (c : Int) : gM := gUp (gUp (gUp M (o + 10) (Int.toNat (M o 17)) (M (o + 16) (Int.toNat (M o 25)))) (o + 11) (Int.toNat (M o 17)) (M (o + 17) (Int.toNat (M o 25)))) (o + 12) (Int.toNat (M o 17)) c
theorem gmRefD_f {c : Int} {j : Nat} : gmRefD M o c o j = M o j := by
  unfold gmRefD
  simp (disch := decide) only [gUp_o]
theorem gmRefD_oo {c : Int} {b j : Nat} (h0 : b ≠ 10) (h1 : b ≠ 11) (h2 : b ≠ 12) : gmRefD M o c (o + b) j = M (o + b) j := by
  unfold gmRefD
  rw [gUp_oo h2, gUp_oo h1, gUp_oo h0]
theorem c_GM_ref {c : Int} {k : Int → gM → Prop} (hX : gmX X o) (hc : g32 c) (ha : 0 ≤ M o 25 ∧ M o 25 ≤ 100) (hr : 0 ≤ M o 17 ∧ M o 17 < 45000) (hf : 0 ≤ M o 13 ∧ M o 13 < 4200) (hF : 0 ≤ M (o + 8) (M o 13).toNat ∧ M (o + 8) (M o 13).toNat < 1000000)
    (h : k (M o 17 - M (o + 8) (M o 13).toNat) (gUp (gmPass (gmRefD M o c) o) o 17 (M o 17 + 1))) : cI l G y_GM_ref (gRm (d + 1)) true [gR G o, gI c] X M k := by
  refine e_GM_ref (w_GM_ref_0 hX hc ?_)
  simp (disch := decide) only [gUp_o, gUp_oo, gUp_ao, gUp_eq]
  have b1 : (0 : Int) ≤ M o 25 ∧ M o 25 < 101 := ⟨by omega, by omega⟩
  refine fun _ _ => ⟨b1, fun _ => ⟨hr, fun _ _ => ⟨b1, fun _ => ⟨hr, fun _ => ⟨hr, ?_⟩⟩⟩⟩⟩
  show cV l G y_GM_pass (gRm d) true [gR G o] X (gmRefD M o c) _
  refine c_GM_pass hX (by rw [gmRefD_f]; exact ⟨ha.1, by omega⟩) ?_
  simp (disch := decide) only [gUp_eq, gUp_k, gUp_ao, gmPass_oo, gmPass_f, gmRefD_f, gmRefD_oo]
  rw [w32_id (x := M o 17 + 1) ⟨by omega, by omega⟩]
  refine fun _ _ _ => ⟨hf, fun _ => ?_⟩
  rw [w32_id ⟨by omega, by omega⟩, show M o 17 + 1 - 1 - M (o + 8) (M o 13).toNat = M o 17 - M (o + 8) (M o 13).toNat by omega]
  exact h
end gmC16
