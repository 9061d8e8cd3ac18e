/-! The reference's fill on its fresh state. -/
section gMf3
variable {l : Launch} {G : gG} {d : Nat} {X : gX} {M : gM} {o : Nat}
theorem zm_fill (hX : gmX X o) (hM : gZo M o) {x y a b u v : Int} (hx : g32 x) (hy : g32 y) (ha : g32 a) (hb : g32 b) (hu : g32 u) (hv : g32 v) {k : Int → gM → Prop} (h1 : gIs x y ∧ gIs a b ∧ gIs u v ∧ a ≤ u ∧ b ≤ v → ∀ M', gKp M M' o → k 0 M') (h0 : ¬ (gIs x y ∧ gIs a b ∧ gIs u v ∧ a ≤ u ∧ b ≤ v) → k 0 (gUp M o 0 1)) : cI l G y_GM_fill (gRm (d + 4)) true [gR G o, gI x, gI y, gI a, gI b, gI u, gI v] X M k := by
  have z19 : ∀ j, M (o + 19) j = 0 := fun j => hM.1 19 j (by decide) (by decide) (by decide)
  have N : ¬ (gIs x y ∧ gIs a b ∧ gIs u v ∧ a ≤ u ∧ b ≤ v) → wp l G y_GM_fill (gRm (d + 4)) true (kkI X k) true 40 [.val (gR G o), .unset, .unset, .unset, .unset, .unset, .unset, .unset, .unset, .unset, .unset, .unset, .unset] [] X M 0 0 := fun h => w_GM_fill_40 hX (c_GM_no hX (g32_c rfl) (h0 h))
  have g8 : g32 (0 % 41) := g32_c rfl
  have k209 : ∀ (t : Int), 0 ≤ t ∧ t < 5200 → (∀ M', gKp M M' o → k 0 M') → ∀ (n p : Nat), p + n = 5200 → wp l G y_GM_fill (gRm (d + 4)) true (kkI X k) true 209 [.val (gR G o), .val (gI x), .val (gI y), .val (gI a), .val (gI b), .val (gI u), .val (gI v), .val (gI t), .val (gI (0 % 41)), .val (gI 0), .unset, .val (gI (p : Int)), .unset] [] X M 0 0 := by
    intro t ht hk n
    have gt : g32 t := by unfold g32; omega
    induction n with
    | zero =>
      intro p hp
      exact w_GM_fill_209 hX hx hy ha hb hu hv gt g8 g32_0 (by unfold g32; omega) ⟨fun _ => zm_accept hX hM.1 (hM.2 35) (hM.2 36) hk, fun h => absurd (by omega) h⟩
    | succ n ih =>
      intro p hp
      have gp : g32 (p : Int) := by unfold g32; omega
      have h9 := ih (p + 1) (by omega)
      rw [show ((p + 1 : Nat) : Int) = w32 ((p : Int) + 1) by rw [w32_id (by unfold g32; omega)]; omega] at h9
      have W330 := w_GM_fill_330 hX hx hy ha hb hu hv gt g8 g32_0 gp h9
      have W0 := w_GM_fill_260 hX hx hy ha hb hu hv gt g8 g32_0 gp (w_GM_fill_261 (s0 := 0) hX hx hy ha hb hu hv gt g8 g32_0 gp g32_0 ⟨fun _ => zm_copy hX hM.1 ⟨by decide, by decide⟩ ⟨by decide, by decide⟩ ⟨by omega, by omega⟩ ⟨by omega, by omega⟩ ⟨fun _ => W330, fun e => absurd rfl e⟩, fun e => absurd rfl e⟩)
      have W1 := w_GM_fill_261 (s0 := 1) hX hx hy ha hb hu hv gt g8 g32_0 gp (g32_c rfl) ⟨fun e => absurd e (by decide), fun _ => zm_copy hX hM.1 ⟨by decide, by decide⟩ ⟨by decide, by decide⟩ ht ⟨by omega, by omega⟩ ⟨fun e => absurd e (by decide), fun _ => ⟨fun _ => W330, fun e => absurd rfl e⟩⟩⟩
      exact w_GM_fill_209 hX hx hy ha hb hu hv gt g8 g32_0 gp ⟨fun h => absurd h (by omega), fun _ => ⟨fun _ => W0, fun _ => ⟨fun _ => W0, fun _ => ⟨fun _ => W0, fun _ => ⟨fun _ => W0, fun _ => W1⟩⟩⟩⟩⟩
  have k93 : ∀ (t : Int), 0 ≤ t ∧ t < 5200 → (∀ M', gKp M M' o → k 0 M') → ∀ (n p : Nat), p + n = 5200 → wp l G y_GM_fill (gRm (d + 4)) true (kkI X k) true 93 [.val (gR G o), .val (gI x), .val (gI y), .val (gI a), .val (gI b), .val (gI u), .val (gI v), .val (gI t), .val (gI (0 % 41)), .val (gI 0), .val (gI 0), .val (gI (p : Int)), .unset] [] X M 0 0 := by
    intro t ht hk n
    have gt : g32 t := by unfold g32; omega
    induction n with
    | zero =>
      intro p hp
      exact w_GM_fill_93 hX hx hy ha hb hu hv gt g8 g32_0 g32_0 (by unfold g32; omega) ⟨fun _ => ⟨fun _ => zm_clear hX hM.1 ⟨by decide, by decide⟩ (k209 t ht hk 5200 0 (by omega)), fun e => absurd (by decide) e⟩, fun h => absurd (by omega) h⟩
    | succ n ih =>
      intro p hp
      have gp : g32 (p : Int) := by unfold g32; omega
      have h9 := ih (p + 1) (by omega)
      rw [show ((p + 1 : Nat) : Int) = w32 ((p : Int) + 1) by rw [w32_id (by unfold g32; omega)]; omega] at h9
      have W180 := w_GM_fill_180 hX hx hy ha hb hu hv gt g8 g32_0 g32_0 gp h9
      have bp : (0 : Int) ≤ 0 % 41 * 5200 + (p : Int) ∧ 0 % 41 * 5200 + (p : Int) < 218400 := by omega
      have W144 := w_GM_fill_144 hX hx hy ha hb hu hv gt g8 g32_0 g32_0 gp ⟨fun _ => ⟨bp, fun _ => ⟨fun _ => W180, fun e => absurd (z19 _) e⟩⟩, fun e => absurd rfl e⟩
      exact w_GM_fill_93 hX hx hy ha hb hu hv gt g8 g32_0 g32_0 gp ⟨fun h => absurd h (by omega), fun _ => ⟨fun _ => W144, fun _ => ⟨fun _ => W144, fun _ => ⟨fun _ => W144, fun _ => ⟨fun _ => W144, fun _ => ⟨fun e => absurd e (by decide), fun _ => ⟨fun _ => W180, fun e => absurd rfl e⟩⟩⟩⟩⟩⟩⟩
  refine e_GM_fill (w_GM_fill_0 hX hx hy ha hb hu hv (zm_in hx hy (fun i1 => ⟨fun e => absurd e (by decide), fun _ => zm_in ha hb (fun i2 => ⟨fun e => absurd e (by decide), fun _ => zm_in hu hv (fun i3 => ⟨fun e => absurd e (by decide), fun _ => ⟨fun e => N (by omega), fun e => ⟨fun e2 => ?_, fun e2 => N (by omega)⟩⟩⟩) (fun i => ⟨fun _ => N (fun q => i q.2.2.1), fun e => absurd rfl e⟩)⟩) (fun i => ⟨fun _ => N (fun q => i q.2.1), fun e => absurd rfl e⟩)⟩) (fun i => ⟨fun _ => N (fun q => i q.1), fun e => absurd rfl e⟩)))
  rw [hM.2 36]
  intro _
  refine c_GM_slot (by decide) (by decide) ⟨by unfold gIs at i1; omega, fun _ => ⟨fun _ => ?_, fun e => absurd (z19 _) e⟩⟩
  have ew : w32 (x + 26 * y) = x + 26 * y := w32_id (by unfold gIs at i1; unfold g32; omega)
  rw [ew]
  exact k93 _ (by unfold gIs at i1; omega) (h1 ⟨i1, i2, i3, by omega, by omega⟩) 5200 0 (by omega)
end gMf3
