/-! The reference's piece. -/
section gmC15
variable {l : Launch} {G : gG} {d : Nat} {X : gX} {M : gM} {o : Nat}
theorem c_minL {x y1 : Int} {k : Int → gM → Prop} (hx : g64 x) (hy : g64 y1) (h : k (min x y1) M) : cL l G y_jMath_min_2 (gRm d) false [gL x, gL y1] X M k :=
  e_jMath_min_2 (w_jMath_min_2_0 hx hy ⟨fun h1 => by rw [show min x y1 = y1 by omega] at h; exact h, fun h1 => by rw [show min x y1 = x by omega] at h; exact h⟩)
theorem c_maxL {x y1 : Int} {k : Int → gM → Prop} (hx : g64 x) (hy : g64 y1) (h : k (max x y1) M) : cL l G y_jMath_max_2 (gRm d) false [gL x, gL y1] X M k :=
  e_jMath_max_2 (w_jMath_max_2_0 hx hy ⟨fun h1 => by rw [show max x y1 = y1 by omega] at h; exact h, fun h1 => by rw [show max x y1 = x by omega] at h; exact h⟩)
/-- how long a piece of n from f on is -/
def gmPl (len f n : Int) : Int := max 0 (min len (if n ≤ 64 then f + n else 64) - f)
/-- a piece of stack place i on top of the stack -/
def gmPiece (M : gM) (o : Nat) (i f n : Int) : gM := gFl (gUp (gmPush M o 2 0) (o + 35) (M o 50).toNat (gmPl (M (o + 35) i.toNat) f n)) (o + 37) (64 * M o 50).toNat (fun j => M (o + 37) (64 * i + f + (j : Int)).toNat) (gmPl (M (o + 35) i.toNat) f n).toNat
theorem c_GM_piece {i f n : Int} {k : gM → Prop} (hX : gmX X o) (hi : 0 ≤ i ∧ i < M o 50) (ht : M o 50 < 1200) (li : 0 ≤ M (o + 35) i.toNat ∧ M (o + 35) i.toNat ≤ 64) (hf : 0 ≤ f ∧ f ≤ 64) (hn : 0 ≤ n ∧ g64 n) (h : k (gmPiece M o i f n)) : cV l G y_GM_piece (gRm (d + 1)) true [gR G o, gI i, gL f, gL n] X M k := by
  have gi : g32 i := ⟨by omega, by omega⟩
  have gf : g64 f := ⟨by omega, by omega⟩
  have bi : 0 ≤ i ∧ i < 1200 := ⟨by omega, by omega⟩
  have loop : ∀ L : Int, L = gmPl (M (o + 35) i.toNat) f n → 0 ≤ L → L ≤ 64 → (0 < L → f + L ≤ 64) → cV l G y_GM_push (gRm d) true [gR G o, gI 2, gL 0] X M (fun M8 => g32 (M8 o 50) → (((0 : Int) ≤ M8 o 50 - 1 ∧ M8 o 50 - 1 < 1200) ∧ wp l G y_GM_piece (gRm (d + 1)) true (kkV X k) true 64 [.val (gR G o), .val (gI i), .val (gL f), .unset, .unset, .unset, .unset, .unset, .val (gI (w32 L)), .val (gI 0)] [] X (gUp M8 (o + 35) (Int.toNat (M8 o 50 - 1)) (w32 L)) 0 0)) := by
    intro L eL h0 h64 hfl
    refine c_GM_push hX (g32_c (x := 2) rfl) (g64_c (x := 0) rfl) ⟨by omega, ht⟩ ?_
    rw [gmPush_top, Int.add_sub_cancel, w32_id ⟨by omega, by omega⟩]
    refine fun _ => ⟨⟨by omega, ht⟩, ?_⟩
    have key : ∀ (m q : Nat), (q : Int) + m = L → wp l G y_GM_piece (gRm (d + 1)) true (kkV X k) true 64 [.val (gR G o), .val (gI i), .val (gL f), .unset, .unset, .unset, .unset, .unset, .val (gI L), .val (gI (q : Int))] [] X (gFl (gUp (gmPush M o 2 0) (o + 35) (M o 50).toNat L) (o + 37) (64 * M o 50).toNat (fun j => M (o + 37) (64 * i + f + (j : Int)).toNat) q) 0 0 := by
      intro m
      induction m with
      | zero =>
        intro q hq
        have eq : q = L.toNat := by omega
        refine w_GM_piece_64 hX gi gf ⟨by omega, by omega⟩ ⟨by omega, by omega⟩ ⟨fun _ => ?_, fun a => absurd (by omega) a⟩
        rw [eq, eL]
        exact h
      | succ m ih =>
        intro q hq
        have i1 := ih (q + 1) (by omega)
        rw [← gFl_s] at i1
        refine w_GM_piece_64 hX gi gf ⟨by omega, by omega⟩ ⟨by omega, by omega⟩ ⟨fun a => absurd a (by omega), fun _ => ?_⟩
        rw [gFl_o (by decide), gUp_o (by decide), gmPush_top, Int.add_sub_cancel, gFl_out (by omega), gUp_oo (by decide), gmPush_oo (by decide) (by decide) (by decide) (by decide)]
        refine fun _ => ⟨⟨by omega, by omega⟩, fun hb => ⟨⟨by omega, by omega⟩, ?_⟩⟩
        rw [gI_w, gByte_id hb, show (64 * M o 50 + (q : Int)).toNat = (64 * M o 50).toNat + q by omega]
        exact i1
    have k0 := key L.toNat 0 (by omega)
    rw [gFl_0] at k0
    exact k0
  have hn2 := hn.2
  refine e_GM_piece (w_GM_piece_0 hX gi gf hn.2 ⟨bi, fun _ => ⟨fun a => ?_, fun a => ?_⟩⟩)
  · refine c_minL ⟨by omega, by omega⟩ ⟨by omega, by omega⟩ (c_maxL ⟨by decide, by decide⟩ ⟨by omega, by omega⟩ (loop _ ?_ (by omega) (by omega) (by omega)))
    unfold gmPl
    rw [if_pos a]
  · refine c_minL ⟨by omega, by omega⟩ ⟨by omega, by omega⟩ (c_maxL ⟨by decide, by decide⟩ ⟨by omega, by omega⟩ (loop _ ?_ (by omega) (by omega) (by omega)))
    unfold gmPl
    rw [if_neg a]
end gmC15
