/-! The reference's accept, up to show. -/
def gAcR (o t : Nat) : Nat → Nat → Prop := fun a j => gSlR o t a j ∨ (a = o ∧ (j = 35 ∨ j = 36 ∨ j = 37))
section ggC
variable {l : Launch} {G : gG} {d : Nat} {X : gX} {M M2 : gM} {o nw er : Nat} {F : gSht}
theorem r_accept {k : Int → gM → Prop} (hX : gmX X o) (h36 : M o 36 = (nw : Int)) (h35 : M o 35 = (er : Int)) (hnw : nw < 99999) (her : er ≤ nw) (hst : gmSt M o 41 F) (hF : gSok F)
    (hk0 : 400 < gCn (gnE F) 5200 ∨ 20000 < gRsF F 5200 → k 0 (gUp M o 0 2))
    (hk1 : gCn (gnE F) 5200 ≤ 400 → gRsF F 5200 ≤ 20000 → ∀ M3, gOff (gAcR o ((nw + 1) % 41)) M M3 → M3 o 36 = ((nw + 1 : Nat) : Int) → M3 o 37 = ((nw + 1 : Nat) : Int) → M3 o 35 = (if nw + 1 ≤ er + 40 then (er : Int) else (nw : Int) - 39) → gmSt M3 o ((nw + 1) % 41) F → cI l G y_GM_show (gRm (d + 1 + 1 + 1)) true [gR G o] X M3 k) :
    cI l G y_GM_accept (gRm (d + 1 + 1 + 1 + 1)) true [gR G o] X M k := by
  have ec := gmCnt_F (F := F) (s := 41) hst.2.1 5200 (Nat.le_refl _)
  refine e_GM_accept (w_GM_accept_0 hX (c_GM_contents hX (by decide) ?_))
  rw [show ((41 : Nat) : Int) = 41 from rfl] at ec
  rw [ec]
  refine ⟨fun y => c_GM_no hX ⟨by decide, by decide⟩ (hk0 (Or.inl (by omega))), fun y => ?_⟩
  have n4 : gCn (gnE F) 5200 ≤ 400 := by omega
  have s50 := gSp_50 hF.r50 5200
  have sp : gSp F 5200 ≤ 20750 := by omega
  refine r_ranges (s := 41) hX hst hF sp ⟨fun z => ?_, fun z => c_GM_no hX ⟨by decide, by decide⟩ (hk0 (Or.inr (by omega)))⟩
  have e1 : w32 ((nw : Int) + 1) = ((nw + 1 : Nat) : Int) := (w32_id ⟨by omega, by omega⟩).trans (by omega)
  have em : (((nw + 1 : Nat) : Int)) % 41 = (((nw + 1) % 41 : Nat) : Int) := by omega
  have go : ∀ A : gM, gOff (fun a j => a = o ∧ (j = 35 ∨ j = 36 ∨ j = 37)) M A → A o 36 = ((nw + 1 : Nat) : Int) → A o 37 = ((nw + 1 : Nat) : Int) → A o 35 = (if nw + 1 ≤ er + 40 then (er : Int) else (nw : Int) - 39) → cI l G y_GM_slot (gRm (d + 1 + 1 + 1)) false [gI ((nw + 1 : Nat) : Int)] X A (fun v16 M15 => cV l G y_GM_copyAll (gRm (d + 1 + 1 + 1)) true [gR G o, gI 41, gI v16] X M15 (fun M18 => cI l G y_GM_show (gRm (d + 1 + 1 + 1)) true [gR G o] X M18 (fun v20 M19 => k v20 M19))) := by
    intro A oA a36 a37 a35
    refine c_GM_slot (by omega) (by omega) ?_
    rw [em]
    refine r_copyAll (s := 41) (t := (nw + 1) % 41) (F := F) hX (by omega) (by omega) (hst.kp (fun i j i1 i2 => oA _ _ (by omega)) (fun j hj => oA _ _ (by omega))) hF sp (fun M3 o3 e3 c3 => ?_)
    refine hk1 n4 z M3 ((oA.mono (fun a j h => Or.inr h)).tr (o3.mono (fun a j h => Or.inl h))) ((o3 _ _ (by unfold gSlR; omega)).trans a36) ((o3 _ _ (by unfold gSlR; omega)).trans a37) ((o3 _ _ (by unfold gSlR; omega)).trans a35) ⟨by omega, fun p hp => (c3 p hp).cl e3 (Nat.le_refl _), by rw [e3]; omega, by rw [e3]; omega⟩
  simp (disch := decide) only [gUp_k, gUp_eq, h36, h35, e1]
  have q1 : gOff (fun a j => a = o ∧ (j = 35 ∨ j = 36 ∨ j = 37)) M (gUp (gUp M o 36 ((nw + 1 : Nat) : Int)) o 37 ((nw + 1 : Nat) : Int)) := ((gOff.rf _ M).up ⟨rfl, by omega⟩).up ⟨rfl, by omega⟩
  rw [w32_id (x := ((nw + 1 : Nat) : Int) - (er : Int)) ⟨by omega, by omega⟩, w32_id (x := ((nw + 1 : Nat) : Int) - 40) ⟨by omega, by omega⟩]
  refine fun _ _ _ _ => ⟨fun w _ => ?_, fun w _ _ => ?_⟩
  · refine go _ q1 ?_ ?_ ?_
    · rw [gUp_k (by decide), gUp_eq]
    · rw [gUp_eq]
    · rw [gUp_k (by decide), gUp_k (by decide), h35, if_pos (by omega)]
  · refine go _ (q1.up ⟨rfl, by omega⟩) ?_ ?_ ?_
    · rw [gUp_k (by decide), gUp_k (by decide), gUp_eq]
    · rw [gUp_k (by decide), gUp_eq]
    · rw [gUp_eq, if_neg (by omega)]; omega
end ggC
