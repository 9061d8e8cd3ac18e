/-! The reference: a state is shown; slot 41 lands. -/
section ggS
variable {l : Launch} {G : gG} {d : Nat} {X : gX} {M M' : gM} {o n : Nat} {T : Nat → gSht} {er nw lt ed : Nat} {S : List Int} {ch : Nat} {cl : Nat → Int} {V V0 : Int → gVl} {F F2 : gSht} {Q : gQ} {k : Int → gM → Prop}
theorem gCn_sub {Q Q2 : Nat → Prop} (h : ∀ p, Q p → Q2 p) : ∀ n, gCn Q n ≤ gCn Q2 n := by
  intro n
  induction n with
  | zero => exact Nat.le_refl _
  | succ n ih =>
    by_cases y : Q n
    · rw [gCn_y y, gCn_y (h n y)]; omega
    · by_cases z : Q2 n
      · rw [gCn_n y, gCn_y z]; omega
      · rw [gCn_n y, gCn_n z]; exact ih
theorem r_shw (hX : gmX X o) (hO : gOld G Q) (hm : gMnt M o er nw lt ed) (hs : ∀ t, er ≤ t → t ≤ lt → gmSt M o (t % 41) (T t)) (hE : gmEnv M o V0) (hct : gMct M o n S.length) (hin : gInI M o 72 (o + 46) S) (htl : er ≤ nw ∧ nw ≤ lt) (hnw : nw < 99999) (hed : ed < 99999) (hF : gSok (T nw)) (h4 : gCn (gnE (T nw)) 5200 ≤ 400) (hsh : gShV (T nw) V0 V ch cl)
    (hk : ∀ M', gOff (gMR o) M M' → M' o 0 = 0 → gLM X M' o n T er nw lt (ed + 1) S V ch cl → k (ch : Int) M') : cI l G y_GM_show (gRm (d + 112)) true [gR G o] X M k := by
  obtain ⟨s1, ⟨rk, s2⟩, s3, s4, s5⟩ := hsh
  have hn : gCn (gFo (T nw)) 5200 ≤ 400 := by
    have := gCn_sub (Q := gFo (T nw)) (Q2 := gnE (T nw)) (fun p => gFo_nE) 5200
    omega
  refine r_show hX hO hm.2.1 (by omega) rfl hE (hs nw htl.1 htl.2) hF hn s1 s3 s2 (fun M' o' e' f66 f65 f0 f69 f45 f70 => ?_)
  rw [← s4]
  have q1 : ∀ i j, 1 ≤ i → i ≤ 25 → M' (o + i) j = M (o + i) j := fun i j h1 h2 => o' _ _ (by unfold gShR gEvR gmF; omega)
  have q0 : ∀ j, j = 2 ∨ j = 9 ∨ j = 13 ∨ j = 17 ∨ j = 35 ∨ j = 36 ∨ j = 37 ∨ j = 72 → M' o j = M o j := fun j h => o' _ _ (by unfold gShR gEvR gmF; omega)
  refine hk M' (o'.mono (fun a j h => by unfold gShR gEvR gmF at h; unfold gMR; omega)) f0 ⟨hX, ⟨(q0 35 (by omega)).trans hm.1, (q0 36 (by omega)).trans hm.2.1, (q0 37 (by omega)).trans hm.2.2.1, ?_⟩, fun t h1 h2 => (hs t h1 h2).kp q1 (fun j hj => q0 j (by omega)), ⟨e', f66, f65, by rw [f69, s4], fun i hi => ?_⟩, hct.ag (fun j hj => q0 j (by omega)), ⟨(q0 72 (by omega)).trans hin.1, fun j hj => (o' _ _ (by unfold gShR gEvR gmF; omega)).trans (hin.2.1 j hj), hin.2.2⟩⟩
  · rw [f70, hm.2.2.2, w32_id (x := (ed : Int) + 1) ⟨by omega, by omega⟩]
    omega
  · rw [s4] at hi
    obtain ⟨p, p1, p2, p3⟩ := gCn_ex (Q := gQch V0 V) 5200 i hi
    rw [← p3, f45 p p1 p2, s5 p p1 p2]
theorem r_accG (hX : gmX X o) (hO : gOld G Q) (hm : gMnt M o er nw lt ed) (hs : ∀ t, er ≤ t → t ≤ lt → gmSt M o (t % 41) (T t)) (hE : gmEnv M o V0) (hct : gMct M o n S.length) (hin : gInI M o 72 (o + 46) S) (htl : er ≤ nw ∧ nw ≤ lt ∧ lt ≤ er + 40) (hnw : nw < 9999) (hed : ed < 99999) (hst : gmSt M o 41 F2) (hF : gSok F2) (h4 : gCn (gnE F2) 5200 ≤ 400) (h2 : gRsF F2 5200 ≤ 20000) (hsh : gShV F2 V0 V ch cl)
    (hk : ∀ M', gOff (gMR o) M M' → M' o 0 = 0 → gLM X M' o n (gTn T nw F2) (gEr er nw) (nw + 1) (nw + 1) (ed + 1) S V ch cl → k (ch : Int) M') : cI l G y_GM_accept (gRm (d + 113)) true [gR G o] X M k := by
  have tn : gTn T nw F2 (nw + 1) = F2 := if_pos rfl
  have to : ∀ t, t ≠ nw + 1 → gTn T nw F2 t = T t := fun t ht => if_neg ht
  have ge : gEr er nw ≤ nw + 1 ∧ nw + 1 ≤ gEr er nw + 40 ∧ er ≤ gEr er nw := by
    unfold gEr
    split <;> omega
  refine r_accept (d := d + 109) hX hm.2.1 hm.1 (by omega) htl.1 hst hF (fun y => absurd y (by omega)) (fun _ _ M3 o3 e36 e37 e35 st3 => ?_)
  have q1 : ∀ i j, 1 ≤ i → i ≤ 18 → M3 (o + i) j = M (o + i) j := fun i j h1 h2 => o3 _ _ (by unfold gAcR gSlR; omega)
  have q0 : ∀ j, j ≠ 35 → j ≠ 36 → j ≠ 37 → M3 o j = M o j := fun j h1 h2 h3 => o3 _ _ (by unfold gAcR gSlR; omega)
  have sh := hsh
  refine r_shw (d := d) (T := gTn T nw F2) (er := gEr er nw) (nw := nw + 1) (lt := nw + 1) (V0 := V0) (V := V) (ch := ch) (cl := cl) (S := S) hX hO ⟨?_, e36, e37, (q0 70 (by decide) (by decide) (by decide)).trans hm.2.2.2⟩ (fun t h1 h2 => ?_) (hE.ag (fun a j h1 h2 => o3 _ _ (by unfold gAcR gSlR; omega))) (hct.ag (fun j hj => q0 j (by omega) (by omega) (by omega))) ⟨(q0 72 (by decide) (by decide) (by decide)).trans hin.1, fun j hj => (o3 _ _ (by unfold gAcR gSlR; omega)).trans (hin.2.1 j hj), hin.2.2⟩ ⟨by omega, Nat.le_refl _⟩ (by omega) hed (by rw [tn]; exact hF) (by rw [tn]; exact h4) (by rw [tn]; exact sh) (fun M' o' f0 L' => hk M' ((o3.mono (fun a j h => by unfold gAcR gSlR at h; unfold gMR; omega)).tr o') f0 L')
  · rw [e35]
    unfold gEr
    split <;> omega
  · by_cases e : t = nw + 1
    · rw [e, tn]; exact st3
    · rw [to t e]
      refine (hs t (by omega) (by omega)).gr (gmGr.eq (fun i j i1 i2 => q1 i j i1 (by omega)) (fun j hj => q0 j (by omega) (by omega) (by omega))) (fun i j i1 i2 j1 j2 => o3 _ _ ?_) (fun j j1 j2 => o3 _ _ ?_) (o3 _ _ ?_)
      · unfold gAcR gSlR; omega
      · unfold gAcR gSlR; omega
      · unfold gAcR gSlR; omega
theorem r_accB (hX : gmX X o) (hm : gMnt M o er nw lt ed) (htl : er ≤ nw) (hnw : nw < 9999) (hst : gmSt M o 41 F2) (hF : gSok F2) (hb : 400 < gCn (gnE F2) 5200 ∨ 20000 < gRsF F2 5200) (hk : k 0 (gUp M o 0 2)) : cI l G y_GM_accept (gRm (d + 4)) true [gR G o] X M k :=
  r_accept (d := d) hX hm.2.1 hm.1 (by omega) htl hst hF (fun _ => hk) (fun h1 h2 => absurd hb (by omega))
end ggS
