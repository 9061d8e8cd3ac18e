/-! The reference's box. -/
section gmC14
variable {l : Launch} {G : gG} {d : Nat} {X : gX} {M : gM} {o : Nat}
/-- the box of two corners -/
def gmBox (M : gM) (o : Nat) (P Q : Int) : gM := gUp (gUp (gUp (gUp M o 56 (min (gmCo P 1) (gmCo Q 1))) o 58 (max (gmCo P 1) (gmCo Q 1))) o 57 (min (gmCo P 0) (gmCo Q 0))) o 59 (max (gmCo P 0) (gmCo Q 0))
/-- where reference i of the formula at work points -/
def gmRf (M : gM) (o : Nat) (i : Int) : Int := M (o + 24) (gmRa M o (M o 51) (M o 52) i).toNat
theorem c_GM_box {x : Int} {k : gM → Prop} (hX : gmX X o) (hx : 0 ≤ x ∧ x < 90000) (hs : 0 ≤ M o 51 ∧ M o 51 < 42) (hp : 0 ≤ M o 52 ∧ M o 52 < 5200) (hi : 0 ≤ M (o + 3) x.toNat ∧ M (o + 3) x.toNat < 1000000)
    (hr : 0 ≤ gmRa M o (M o 51) (M o 52) (M (o + 3) x.toNat) ∧ gmRa M o (M o 51) (M o 52) (M (o + 3) x.toNat) < 873599) (hP : 0 ≤ gmRf M o (M (o + 3) x.toNat) ∧ gmRf M o (M (o + 3) x.toNat) < 5200) (hQ : M (o + 2) x.toNat = 3 → 0 ≤ gmRf M o (M (o + 3) x.toNat + 1) ∧ gmRf M o (M (o + 3) x.toNat + 1) < 5200)
    (h : k (gmBox M o (gmRf M o (M (o + 3) x.toNat)) (if M (o + 2) x.toNat = 3 then gmRf M o (M (o + 3) x.toNat + 1) else gmRf M o (M (o + 3) x.toNat)))) : cV l G y_GM_box (gRm (d + 1 + 1)) true [gR G o, gI x] X M k := by
  refine e_GM_box (w_GM_box_0 hX ⟨by omega, by omega⟩ ⟨hx, fun _ => c_GM_refOf hX hs hp ⟨by omega, by omega⟩ ⟨hr.1, by omega⟩ ⟨hx, fun _ => ⟨fun a => ?_, fun a => ⟨hx, fun _ => ?_⟩⟩⟩⟩)
  · rw [if_neg a] at h
    exact c_GM_low hX hP hP (by decide) (c_GM_high hX hP hP (by decide) (c_GM_low hX hP hP (by decide) (c_GM_high hX hP hP (by decide) h)))
  · rw [if_pos a] at h
    have hQ2 := hQ a
    have e : gmRa M o (M o 51) (M o 52) (M (o + 3) x.toNat + 1) = gmRa M o (M o 51) (M o 52) (M (o + 3) x.toNat) + 1 := by unfold gmRa; omega
    exact c_GM_refOf hX hs hp ⟨by omega, by omega⟩ (by rw [e]; omega) (c_GM_low hX hP hQ2 (by decide) (c_GM_high hX hP hQ2 (by decide) (c_GM_low hX hP hQ2 (by decide) (c_GM_high hX hP hQ2 (by decide) h))))
end gmC14
