/-! The reference's values on the stack: as numbers, joined, compared. -/
theorem gBy_congr {M M' : gM} {c c' : Nat} : ∀ (n a a' : Nat), (∀ j, j < n → M c (a + j) = M' c' (a' + j)) → gBy M c a n = gBy M' c' a' n
  | 0, _, _, _ => rfl
  | n + 1, a, a', h => by
    show M c a :: gBy M c (a + 1) n = M' c' a' :: gBy M' c' (a' + 1) n
    rw [show M c a = M' c' a' from h 0 (Nat.succ_pos n), gBy_congr n (a + 1) (a' + 1) (fun j hj => by have := h (j + 1) (by omega); rw [show a + 1 + j = a + (j + 1) by omega, show a' + 1 + j = a' + (j + 1) by omega]; exact this)]
theorem gBy_len (M : gM) (c : Nat) : ∀ (n a : Nat), (gBy M c a n).length = n
  | 0, _ => rfl
  | n + 1, a => congrArg (· + 1) (gBy_len M c n (a + 1))
section gmC7
variable {l : Launch} {G : gG} {d : Nat} {X : gX} {M : gM} {o : Nat} {x y1 s v i n p t : Int}
/-- the text of stack place i, in the reference's line -/
def gmLine (M : gM) (o : Nat) (i : Int) : gM := gFl M (o + 38) 0 (fun j => M (o + 37) (64 * i + (j : Int)).toNat) (M (o + 35) i.toNat).toNat
theorem gmX_line (hX : gmX X o) : 1 ≤ o + 38 ∧ o + 38 ≤ X.1 ∧ X.2.1 (o + 38) = (2, 64) ∧ 64 ≤ 2147483648 := by
  have h := hX.2.2.2 (53, 38, 2, 64) (by decide)
  exact ⟨h.2.2.1, h.2.2.2, h.2.1, by decide⟩
theorem c_GM_asNumber {k : Int → gM → Prop} (hX : gmX X o) (hi : 0 ≤ i ∧ i < 1200) (hl : 0 ≤ M (o + 35) i.toNat ∧ M (o + 35) i.toNat ≤ 64)
    (h1 : ¬ M (o + 34) i.toNat = 2 → ¬ M (o + 34) i.toNat = 0 → k 1 (gUp (gUp M (o + 34) i.toNat 1) (o + 35) i.toNat 0)) (h0 : M (o + 34) i.toNat = 0 → k 1 (gUp (gUp (gUp M (o + 36) i.toNat 0) (o + 34) i.toNat 1) (o + 35) i.toNat 0))
    (h2 : M (o + 34) i.toNat = 2 → gNum (gBy M (o + 37) (64 * i).toNat (M (o + 35) i.toNat).toNat) = none → k 0 (gmLine M o i)) (h3 : M (o + 34) i.toNat = 2 → ∀ z, gNum (gBy M (o + 37) (64 * i).toNat (M (o + 35) i.toNat).toNat) = some z → g64 z → k 1 (gUp (gUp (gUp (gUp (gmLine M o i) o 3 z) (o + 36) i.toNat z) (o + 34) i.toNat 1) (o + 35) i.toNat 0)) : cZ l G y_GM_asNumber (gRm (d + 1 + 1)) true [gR G o, gI i] X M k := by
  have gi : g32 i := ⟨by omega, by omega⟩
  refine e_GM_asNumber (w_GM_asNumber_0 hX gi ⟨hi, fun _ => ⟨fun a => ⟨hi, fun _ => ⟨fun b => ⟨hi, hi, h1 a b⟩, fun b => ⟨hi, hi, hi, h0 b⟩⟩⟩, fun a => ?_⟩⟩)
  have eb : gBy (gmLine M o i) (o + 38) (0 : Int).toNat (M (o + 35) i.toNat - 0).toNat = gBy M (o + 37) (64 * i).toNat (M (o + 35) i.toNat).toNat := by
    rw [Int.sub_zero]
    refine gBy_congr _ _ _ fun j hj => ?_
    unfold gmLine
    rw [gFl_in (by omega) (by show 0 + j < 0 + _; omega)]
    congr 1
    show (64 * i + ((0 + j - 0 : Nat) : Int)).toNat = _
    omega
  have key : ∀ (n q : Nat), (q : Int) + n = M (o + 35) i.toNat → wp l G y_GM_asNumber (gRm (d + 1 + 1)) true (kkZ X k) true 12 [.val (gR G o), .val (gI i), .val (gI (q : Int))] [] X (gFl M (o + 38) 0 (fun j => M (o + 37) (64 * i + (j : Int)).toNat) q) 0 0 := by
    intro n
    induction n with
    | zero =>
      intro q hq
      have eq : q = (M (o + 35) i.toNat).toNat := by omega
      refine w_GM_asNumber_12 hX gi ⟨by omega, by omega⟩ ⟨hi, ?_⟩
      rw [gFl_oo (by decide)]
      refine fun _ => ⟨fun _ => ⟨hi, fun _ => ?_⟩, fun b => absurd (by omega) b⟩
      rw [eq]
      show cZ l G y_GM_isNumber (gRm (d + 1)) true [gR G o, gR G (o + 38), gI 0, gI (M (o + 35) i.toNat)] X (gmLine M o i) _
      refine c_GM_isNumber hX (gmX_line hX) ⟨Int.le_refl _, hl.1⟩ ⟨hl.2, by omega⟩ (fun b => ?_) (fun z b g => ?_)
      · rw [eb] at b
        exact ⟨fun c => absurd rfl c, fun _ => h2 a b⟩
      · rw [eb] at b
        refine ⟨fun _ _ => ⟨hi, hi, fun _ => ?_⟩, fun c => absurd c (by decide)⟩
        rw [gUp_eq, gUp_oo (by decide), gUp_ao (by decide)]
        unfold gmLine
        rw [gFl_oo (by decide)]
        exact ⟨fun _ => ⟨hi, hi, h3 a z b g⟩, fun c => absurd (a.symm.trans c) (by decide)⟩
    | succ n ih =>
      intro q hq
      have i1 := ih (q + 1) (by omega)
      rw [← gFl_s] at i1
      refine w_GM_asNumber_12 hX gi ⟨by omega, by omega⟩ ⟨hi, ?_⟩
      rw [gFl_oo (by decide), gFl_oo (by decide)]
      refine fun _ => ⟨fun b => absurd b (by omega), fun _ => ⟨⟨by omega, by omega⟩, fun hb => ⟨⟨by omega, by omega⟩, ?_⟩⟩⟩
      rw [gI_w, gByte_id hb, Int.toNat_natCast]
      rw [Nat.zero_add] at i1
      exact i1
  have k0 := key (M (o + 35) i.toNat).toNat 0 (by omega)
  rw [gFl_0] at k0
  exact k0
end gmC7
