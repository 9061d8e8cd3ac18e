/-! The reference on its fresh state: its calls. -/
/-- an answer with no exception; nothing beyond the reference's cells has changed -/
def gKp (M M' : gM) (o : Nat) : Prop := M' o 0 = 0 ∧ ∀ b j, o + 46 < b → M' b j = M b j
/-- the reference's numbers as its constructor leaves them -/
def gZo (M : gM) (o : Nat) : Prop := gZm M o ∧ ∀ j, M o j = 0
section gMf2
variable {l : Launch} {G : gG} {d : Nat} {X : gX} {M : gM} {o : Nat}
theorem zm_show (hX : gmX X o) (hM : gZm M o) (h36 : 0 ≤ M o 36 ∧ M o 36 < 1000000) {k : Int → gM → Prop} (hk : ∀ M', gKp M M' o → k 0 M') : cI l G y_GM_show (gRm (d + 2)) true [gR G o] X M k := by
  refine e_GM_show (w_GM_show_0 hX (c_GM_remember hX (fun p _ => by rw [hM 27 p (by decide) (by decide) (by decide)]; decide) ?_))
  rw [gmRem_z hM]
  intro _
  refine c_GM_slot h36.1 h36.2 (zm_evaluate hX hM ⟨by omega, by omega⟩ ?_)
  have hN : gZm (gUp (gmEv M o (M o 36 % 41)) o 69 0) o := by
    unfold gmEv
    exact (((((hM.s 51 _).s 66 0).i 5200).s 65 0).s 69 0)
  have hb : ∀ b j, o + 46 < b → gUp (gmEv M o (M o 36 % 41)) o 69 0 b j = M b j := fun b j h => by
    unfold gmEv
    rw [gUp_a (by omega), gUp_a (by omega), gFl_a (by omega), gUp_a (by omega), gUp_a (by omega)]
  have h69 : gUp (gmEv M o (M o 36 % 41)) o 69 0 o 69 = 0 := gUp_eq _ _ _ _
  generalize gUp (gmEv M o (M o 36 % 41)) o 69 0 = N at hN hb h69 ⊢
  have key : ∀ (n p : Nat), p + n = 5200 → wp l G y_GM_show (gRm (d + 2)) true (kkI X k) true 22 [.val (gR G o), .val (gI (p : Int))] [] X N 0 0 := by
    intro n
    induction n with
    | zero =>
      intro p hp
      refine w_GM_show_22 hX (by unfold g32; omega) ⟨fun _ _ _ => ?_, fun h => absurd (by omega) h⟩
      have e9 : gUp (gUp N o 70 (w32 (N o 70 + 1))) o 0 0 o 69 = 0 := by
        rw [gUp_k (by decide), gUp_k (by decide)]
        exact h69
      rw [e9]
      refine hk _ ⟨gUp_eq _ _ _ _, fun b j h => ?_⟩
      rw [gUp_a (by omega), gUp_a (by omega)]
      exact hb b j h
    | succ n ih =>
      intro p hp
      have hz : ∀ a j, 1 ≤ a → a ≤ 46 → a ≠ 41 → N (o + a) j = 0 := hN
      have z27 : N (o + 27) (Int.toNat (p : Int)) = 0 := hz 27 _ (by decide) (by decide) (by decide)
      refine w_GM_show_22 hX (by unfold g32; omega) ⟨fun h => absurd h (by omega), fun _ => c_GM_isChanged hX ⟨by omega, by omega⟩ (by rw [z27]; decide) (fun _ => ?_) (fun h => absurd ?_ h)⟩
      · rw [show w32 ((p : Int) + 1) = ((p + 1 : Nat) : Int) by rw [w32_id (by unfold g32; omega)]; omega]
        exact ⟨fun h => absurd rfl h, fun _ => ih (p + 1) (by omega)⟩
      · unfold gmSame
        rw [z27, hz 28 _ (by decide) (by decide) (by decide), hz 26 _ (by decide) (by decide) (by decide), hz 31 _ (by decide) (by decide) (by decide), hz 30 _ (by decide) (by decide) (by decide), hz 29 _ (by decide) (by decide) (by decide)]
        exact ⟨rfl, rfl, rfl, rfl⟩
  exact key 5200 0 (by omega)
theorem zm_accept (hX : gmX X o) (hM : gZm M o) (h35 : M o 35 = 0) (h36 : M o 36 = 0) {k : Int → gM → Prop} (hk : ∀ M', gKp M M' o → k 0 M') : cI l G y_GM_accept (gRm (d + 3)) true [gR G o] X M k := by
  have e01 : w32 (0 + 1) = 1 := by rw [Int.zero_add]; exact w32_id (g32_c rfl)
  refine e_GM_accept (w_GM_accept_0 hX (c_GM_contents hX ⟨by decide, by decide⟩ ?_))
  rw [gmCnt_0 hM]
  refine ⟨fun h => absurd h (by decide), fun _ => zm_ranges hX hM ⟨by decide, by decide⟩ ⟨fun _ => ?_, fun h => absurd (by decide) h⟩⟩
  rw [h36, e01, gUp_eq]
  have a36 : gUp (gUp M o 36 1) o 37 1 o 36 = 1 := by rw [gUp_k (by decide), gUp_eq]
  have a35 : gUp (gUp M o 36 1) o 37 1 o 35 = 0 := by rw [gUp_k (by decide), gUp_k (by decide)]; exact h35
  have hA : gZm (gUp (gUp M o 36 1) o 37 1) o := (hM.s 36 1).s 37 1
  have hb : ∀ b j, o + 46 < b → gUp (gUp M o 36 1) o 37 1 b j = M b j := fun b j h => by rw [gUp_a (by omega), gUp_a (by omega)]
  rw [a36, a35]
  generalize gUp (gUp M o 36 1) o 37 1 = A at a36 hA hb ⊢
  have e1 : w32 (1 - 0) = 1 := by rw [Int.sub_zero]; exact w32_id (g32_c rfl)
  rw [e1]
  intro _ _ _ _
  refine ⟨fun _ _ => c_GM_slot (by decide) (by decide) (zm_copyAll hX hA ⟨by decide, by decide⟩ ⟨by decide, by decide⟩ (zm_show hX hA (by rw [a36]; decide) (fun M' h => hk M' ⟨h.1, fun b j hbj => (h.2 b j hbj).trans (hb b j hbj)⟩))), fun h => absurd (by decide) h⟩
theorem zm_undo (hX : gmX X o) (hM : gZo M o) {k : Int → gM → Prop} (hk : k 0 (gUp M o 0 1)) : cI l G y_GM_undo (gRm (d + 1)) true [gR G o] X M k :=
  e_GM_undo (w_GM_undo_0 hX (fun _ _ => ⟨fun h => absurd ((hM.2 36).trans (hM.2 35).symm) h, fun _ => c_GM_no hX (g32_c rfl) hk⟩))
theorem zm_redo (hX : gmX X o) (hM : gZo M o) {k : Int → gM → Prop} (hk : k 0 (gUp M o 0 1)) : cI l G y_GM_redo (gRm (d + 1)) true [gR G o] X M k :=
  e_GM_redo (w_GM_redo_0 hX (fun _ _ => ⟨fun h => absurd ((hM.2 36).trans (hM.2 37).symm) h, fun _ => c_GM_no hX (g32_c rfl) hk⟩))
theorem zm_in {x y : Int} (hx : g32 x) (hy : g32 y) {k : Int → gM → Prop} (h1 : gIs x y → k 1 M) (h0 : ¬ gIs x y → k 0 M) : cZ l G y_GM_inSheet (gRm d) false [gI x, gI y] X M k := by
  refine c_GM_inSheet hx hy ?_
  split
  · next h => exact h1 h
  · next h => exact h0 h
theorem zm_content (hX : gmX X o) (hM : gZo M o) {x y w : Int} (hx : g32 x) (hy : g32 y) (hw : g32 w) {k : Int → gM → Prop} (h1 : gIs x y ∧ 0 ≤ w ∧ w ≤ 2 → k 0 (gUp M o 0 0)) (h0 : ¬ (gIs x y ∧ 0 ≤ w ∧ w ≤ 2) → k 0 (gUp M o 0 1)) : cI l G y_GM_content (gRm (d + 1)) true [gR G o, gI x, gI y, gI w] X M k := by
  have eM : gUp M o 0 0 = M := gUp_id (hM.2 0)
  have z19 : ∀ j, M (o + 19) j = 0 := fun j => hM.1 19 j (by decide) (by decide) (by decide)
  rw [eM] at h1
  refine e_GM_content (w_GM_content_0 hX hx hy hw (zm_in hx hy (fun h => ⟨fun e => absurd e (by decide), fun _ => ⟨fun e => c_GM_no hX (g32_c rfl) (h0 (by omega)), fun e => ⟨fun e2 => ?_, fun e2 => c_GM_no hX (g32_c rfl) (h0 (by omega))⟩⟩⟩) (fun h => ⟨fun _ => c_GM_no hX (g32_c rfl) (h0 (fun q => h q.1)), fun e => absurd rfl e⟩)))
  rw [eM, hM.2 36]
  intro _
  refine c_GM_slot (by decide) (by decide) ?_
  have hb : (0 : Int) ≤ 0 % 41 * 5200 + (x + 26 * y) ∧ 0 % 41 * 5200 + (x + 26 * y) < 218400 := by unfold gIs at h; omega
  simp only [z19]
  exact ⟨fun _ => ⟨hb, fun _ => ⟨fun e3 => absurd e3 (by decide), fun _ => h1 ⟨h, by omega, by omega⟩⟩⟩, fun _ => ⟨hb, fun _ => h1 ⟨h, by omega, by omega⟩⟩⟩
theorem zm_reference (hX : gmX X o) (hM : gZo M o) {x y w : Int} (hx : g32 x) (hy : g32 y) (hw : g32 w) {k : Int → gM → Prop} (h1 : gIs x y → k 0 (gUp M o 0 2)) (h0 : ¬ gIs x y → k 0 (gUp M o 0 1)) : cI l G y_GM_reference (gRm (d + 1)) true [gR G o, gI x, gI y, gI w] X M k := by
  have z19 : ∀ j, M (o + 19) j = 0 := fun j => hM.1 19 j (by decide) (by decide) (by decide)
  refine e_GM_reference (w_GM_reference_0 hX hx hy hw (zm_in hx hy (fun h => ⟨fun _ => ?_, fun e => absurd e (by decide)⟩) (fun h => ⟨fun e => absurd rfl e, fun _ => c_GM_no hX (g32_c rfl) (h0 h)⟩)))
  rw [hM.2 36]
  intro _
  refine c_GM_slot (by decide) (by decide) ?_
  have hb : (0 : Int) ≤ 0 % 41 * 5200 + (x + 26 * y) ∧ 0 % 41 * 5200 + (x + 26 * y) < 218400 := by unfold gIs at h; omega
  simp only [z19]
  exact ⟨hb, fun _ => ⟨fun _ => c_GM_no hX (g32_c rfl) (h1 h), fun e => absurd e (by decide)⟩⟩
theorem zm_put (hX : gmX X o) (hM : gZo M o) {x y : Int} (hx : g32 x) (hy : g32 y) {k : Int → gM → Prop} (h1 : gIs x y → ∀ M', gKp M M' o → k 0 M') (h0 : ¬ gIs x y → k 0 (gUp M o 0 1)) : cI l G y_GM_put (gRm (d + 4)) true [gR G o, gI x, gI y] X M k := by
  refine e_GM_put (w_GM_put_0 hX hx hy (fun _ => ?_))
  rw [gUp_id (hM.2 72), hM.2 72]
  refine zm_in hx hy (fun h => ⟨fun _ => ?_, fun e => absurd e (by decide)⟩) (fun h => ⟨fun e => absurd rfl e, fun _ => c_GM_no hX (g32_c rfl) (h0 h)⟩)
  have ew : w32 (213200 + (x + 26 * y)) = 213200 + (x + 26 * y) := w32_id (by unfold gIs at h; unfold g32; omega)
  have hb : (0 : Int) ≤ 213200 + (x + 26 * y) ∧ 213200 + (x + 26 * y) < 218400 := by unfold gIs at h; omega
  have g9 : g32 (213200 + (x + 26 * y)) := by unfold g32; omega
  refine w_GM_put_27 hX hx hy g32_0 g32_0 ⟨fun _ => ⟨fun _ => w_GM_put_90 hX hx hy g32_0 ⟨fun _ => w_GM_put_112 hX hx hy g32_0 g32_0 ⟨fun _ => ⟨fun e => absurd rfl e, fun _ => ⟨fun _ => ?_, fun e => absurd (by decide) e⟩⟩, fun e => absurd rfl e⟩, fun e => absurd (Int.le_refl 0) e⟩, fun e => absurd (Int.le_refl 0) e⟩, fun e => absurd (Int.le_refl 0) e⟩
  refine w_GM_put_147 hX hx hy g32_0 g32_0 g32_0 (fun _ => ?_)
  rw [hM.2 36, hM.2 2, ew]
  intro _
  refine c_GM_slot (by decide) (by decide) (zm_copyAll hX hM.1 ⟨by decide, by decide⟩ ⟨by decide, by decide⟩ ⟨fun e => absurd rfl e, fun _ => ?_⟩)
  refine w_GM_put_215 hX g32_0 g32_0 g32_0 g9 g32_0 g32_0 g9 ⟨hb, ⟨fun _ => ⟨hb, ⟨fun _ => ?_, fun e => absurd (Int.le_refl 0) e⟩⟩, fun e => absurd rfl e⟩⟩
  rw [hM.1.u (a := 19) (by decide), hM.1.u (a := 23) (by decide)]
  exact w_GM_put_339 hX g32_0 g9 g32_0 ⟨fun _ => zm_accept hX hM.1 (hM.2 35) (hM.2 36) (h1 h), fun e => absurd rfl e⟩
theorem zm_shift (hX : gmX X o) (hM : gZo M o) {s i n : Int} (hs : 0 ≤ s ∧ s ≤ 1) (hi : g32 i) (hn : g32 n) {k : Int → gM → Prop} (hk : ∀ M', gKp M M' o → k 0 M') : cI l G y_GM_shift (gRm (d + 4)) true [gR G o, gI s, gI i, gI n] X M k := by
  have z19 : ∀ j, M (o + 19) j = 0 := fun j => hM.1 19 j (by decide) (by decide) (by decide)
  have key : ∀ (t : Int), g32 t → ∀ (m p : Nat), p + m = 5200 → wp l G y_GM_shift (gRm (d + 4)) true (kkI X k) true 32 [.val (gR G o), .val (gI s), .val (gI i), .val (gI n), .val (gI t), .val (gI (0 % 41)), .val (gI (p : Int)), .unset, .unset, .unset, .unset] [] X M 0 0 := by
    intro t gt m
    induction m with
    | zero =>
      intro p hp
      exact w_GM_shift_32 hX (g32_z hs) hi hn gt (g32_c rfl) (by unfold g32; omega) ⟨fun _ => zm_accept hX hM.1 (hM.2 35) (hM.2 36) hk, fun h => absurd (by omega) h⟩
    | succ m ih =>
      intro p hp
      refine w_GM_shift_32 hX (g32_z hs) hi hn gt (g32_c rfl) (by unfold g32; omega) ⟨fun h => absurd h (by omega), fun _ => ⟨by omega, fun _ => ?_⟩⟩
      have h9 := ih (p + 1) (by omega)
      rw [show ((p + 1 : Nat) : Int) = w32 ((p : Int) + 1) by rw [w32_id (by unfold g32; omega)]; omega] at h9
      refine ⟨fun e => absurd (z19 _) e, fun _ => h9⟩
  refine e_GM_shift (w_GM_shift_0 hX hs hi hn ⟨fun _ => ?_, fun _ => ?_⟩)
  · rw [hM.2 36]
    exact fun _ => c_GM_slot (by decide) (by decide) (zm_clear hX hM.1 ⟨by decide, by decide⟩ (key 200 (g32_c rfl) 5200 0 (by omega)))
  · rw [hM.2 36]
    exact fun _ => c_GM_slot (by decide) (by decide) (zm_clear hX hM.1 ⟨by decide, by decide⟩ (key 26 (g32_c rfl) 5200 0 (by omega)))
theorem zm_insert (hX : gmX X o) (hM : gZo M o) {s i n : Int} (hs : 0 ≤ s ∧ s ≤ 1) (hi : g32 i) (hn : g32 n) {k : Int → gM → Prop} (h1 : 0 ≤ i ∧ i < (if s = 0 then 200 else 26) ∧ 1 ≤ n ∧ n ≤ 50 → ∀ M', gKp M M' o → k 0 M') (h0 : ¬ (0 ≤ i ∧ i < (if s = 0 then 200 else 26) ∧ 1 ≤ n ∧ n ≤ 50) → k 0 (gUp M o 0 1)) : cI l G y_GM_insert (gRm (d + 5)) true [gR G o, gI s, gI i, gI n] X M k := by
  refine e_GM_insert (w_GM_insert_0 hX hs hi hn ⟨fun e => c_GM_no hX (g32_c rfl) (h0 (by omega)), fun e => ⟨fun e1 => ?_, fun e1 => ?_⟩⟩)
  · rw [if_pos e1] at h1 h0
    exact ⟨fun e2 => c_GM_no hX (g32_c rfl) (h0 (by omega)), fun e2 => ⟨fun e3 => c_GM_no hX (g32_c rfl) (h0 (by omega)), fun e3 => ⟨fun e4 => zm_shift hX hM hs hi hn (h1 ⟨by omega, by omega, by omega, by omega⟩), fun e4 => c_GM_no hX (g32_c rfl) (h0 (by omega))⟩⟩⟩
  · rw [if_neg e1] at h1 h0
    exact ⟨fun e2 => c_GM_no hX (g32_c rfl) (h0 (by omega)), fun e2 => ⟨fun e3 => c_GM_no hX (g32_c rfl) (h0 (by omega)), fun e3 => ⟨fun e4 => zm_shift hX hM hs hi hn (h1 ⟨by omega, by omega, by omega, by omega⟩), fun e4 => c_GM_no hX (g32_c rfl) (h0 (by omega))⟩⟩⟩
theorem zm_erase (hX : gmX X o) (hM : gZo M o) {s i n : Int} (hs : 0 ≤ s ∧ s ≤ 1) (hi : g32 i) (hn : g32 n) {k : Int → gM → Prop} (h1 : 0 ≤ i ∧ i < (if s = 0 then 200 else 26) ∧ 1 ≤ n ∧ n ≤ 50 ∧ i + n ≤ (if s = 0 then 200 else 26) → ∀ M', gKp M M' o → k 0 M') (h0 : ¬ (0 ≤ i ∧ i < (if s = 0 then 200 else 26) ∧ 1 ≤ n ∧ n ≤ 50 ∧ i + n ≤ (if s = 0 then 200 else 26)) → k 0 (gUp M o 0 1)) : cI l G y_GM_erase (gRm (d + 5)) true [gR G o, gI s, gI i, gI n] X M k := by
  have N : ¬ (0 ≤ i ∧ i < (if s = 0 then 200 else 26) ∧ 1 ≤ n ∧ n ≤ 50 ∧ i + n ≤ (if s = 0 then 200 else 26)) → wp l G y_GM_erase (gRm (d + 5)) true (kkI X k) true 49 [.val (gR G o), .unset, .unset, .unset] [] X M 0 0 := fun h => w_GM_erase_49 hX (c_GM_no hX (g32_c rfl) (h0 h))
  refine e_GM_erase (w_GM_erase_0 hX hs hi hn ⟨fun e => N (by omega), fun e => ⟨fun e2 => N (by omega), fun e2 => ⟨fun e3 => N (by omega), fun e3 => ⟨fun e1 => ?_, fun e1 => ?_⟩⟩⟩⟩)
  · rw [if_pos e1] at h1 N
    refine w_GM_erase_30 hX (g32_z hs) hi hn (g32_c rfl) (w32_ok _) ?_
    by_cases hbig : i + n < 2147483648
    · rw [w32_id (by unfold g32 at *; omega)]
      exact ⟨fun e4 => N (by omega), fun e4 => ⟨fun _ => ⟨fun e5 => zm_shift hX hM hs hi (by unfold g32; omega) (h1 ⟨by omega, by omega, by omega, by omega, by omega⟩), fun e5 => N (by omega)⟩, fun q => absurd e1 q⟩⟩
    · exact ⟨fun e4 => N (by omega), fun e4 => ⟨fun _ => ⟨fun e5 => absurd e5 (by unfold g32 at *; omega), fun e5 => N (by omega)⟩, fun q => absurd e1 q⟩⟩
  · rw [if_neg e1] at h1 N
    refine w_GM_erase_30 hX (g32_z hs) hi hn (g32_c rfl) (w32_ok _) ?_
    by_cases hbig : i + n < 2147483648
    · rw [w32_id (by unfold g32 at *; omega)]
      exact ⟨fun e4 => N (by omega), fun e4 => ⟨fun q => absurd q e1, fun _ => ⟨fun e5 => zm_shift hX hM hs hi (by unfold g32; omega) (h1 ⟨by omega, by omega, by omega, by omega, by omega⟩), fun e5 => N (by omega)⟩⟩⟩
    · exact ⟨fun e4 => N (by omega), fun e4 => ⟨fun q => absurd q e1, fun _ => ⟨fun e5 => absurd e5 (by unfold g32 at *; omega), fun e5 => N (by omega)⟩⟩⟩
end gMf2
