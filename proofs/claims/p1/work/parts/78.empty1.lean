/-! Edits of an empty sheet: what they do to nothing. -/
theorem gUp_id {M : gM} {a k : Nat} {x : Int} (h : M a k = x) : gUp M a k x = M := by
  funext b j
  unfold gUp
  split
  · next e => rw [e.1, e.2, h]
  · rfl
theorem gCp_0 (M : gM) (a a0 sp dp : Nat) : gCp M a a0 sp dp 0 = M := by
  funext b j
  unfold gCp
  rw [if_neg (by omega)]
theorem glX.gu {X : gX} {c i k : Nat} (h : glX X c) (r : Nat) (hk : ∀ q ∈ glTab, ¬ (q.1 = i ∧ q.2.1 = k)) (hi : i ≠ 1058 ∧ i ≠ 1061) : glX (gGu X (c + i) k r) c :=
  ⟨h.1, h.2.1, fun q hq => (gGu_o X r (fun e => hk q hq ⟨by omega, e.2⟩)).trans (h.2.2.1 q hq), h.2.2.2.1, h.2.2.2.2.grow (gGw.gu X (c + i) k r) (by omega) (by omega)⟩
section gEmpty1
variable {l : Launch} {G : gG} {d : Nat} {X : gX} {M : gM} {c : Nat}
theorem z_entryFrom {a : Nat} (hA : gsX X a) (h0 : M a 0 = 0) {x : Int} (hx : g32 x) {k : Int → gM → Prop} (hk : k 0 M) : cI l G y_St_entryFrom (gRm d) false [gR G a, gI x] X M k := by
  refine e_St_entryFrom (w_St_entryFrom_0 hA hx (fun _ => ?_))
  rw [h0]
  exact w_St_entryFrom_12 hA hx g32_0 g32_0 (g32_c rfl) ⟨fun h => absurd h (by decide), fun _ => ⟨fun _ => hk, fun h => absurd (Int.le_refl 0) h⟩⟩
theorem z_addRun {a r : Nat} (hA : gsX X a) (hr : gsX X r) (h0 : M a 0 = 0) (h3 : M (a + 3) 0 = 0) (h4 : M (r + 3) 0 = 0) {k : Int → gM → Prop} (hk : k 1 M) : cZ l G y_St_addRun (gRm (d + 1)) true [gR G a, gR G r, gI 0, gI 0] X M k := by
  refine e_St_addRun (w_St_addRun_0 hA hr g32_0 g32_0 ?_)
  simp only [Int.sub_self, Int.toNat_zero, gCp_0, h0, h3, h4]
  have e0 : w32 0 = 0 := w32_id g32_0
  have D1 : (0 : Int) ≤ 0 ∧ (0 : Int) < 401 := ⟨by decide, by decide⟩
  refine fun _ => ⟨fun _ _ => ⟨by decide, fun _ => ⟨by decide, fun _ => ⟨D1, fun _ => ⟨D1, fun _ => ⟨D1, fun _ _ => ⟨D1, fun _ => ⟨D1, fun _ => ⟨D1, fun _ => ⟨by decide, ?_⟩⟩⟩⟩⟩⟩⟩⟩⟩, fun h => absurd ?_ h⟩
  · rw [e0]
    refine w_St_addRun_116 hA g32_0 g32_0 g32_0 (g32_c rfl) hr ⟨fun _ _ => ?_, fun h => absurd (by decide) h⟩
    rw [h0, Int.add_zero, e0, gUp_id h0]
    exact hk
  · rw [Int.add_zero, e0]
    decide
theorem z_rangesFit {s3 : Nat} (hX : glX X c) (hs3 : X.2.2 (c + 21) 3 = s3 ∧ gsX X s3) (h0 : M s3 0 = 0) {k : Int → gM → Prop} (hk : k 1 M) : cZ l G y_Ed_rangesFit (gRm (d + 1)) false [gR G (c + 21)] X M k := by
  refine e_Ed_rangesFit (w_Ed_rangesFit_0 hX (w_Ed_rangesFit_4 hX g32_0 g32_0 hs3 (fun _ => ?_)))
  rw [h0]
  exact ⟨fun _ => ⟨fun h => absurd h (by decide), fun _ => hk⟩, fun h => absurd (Int.le_refl 0) h⟩
/-- the two states of an edit: the present one s2 and the draft s3, both without entries -/
def gEe (X : gX) (M : gM) (c s2 s3 : Nat) : Prop := (X.2.2 (c + 21) 2 = s2 ∧ gsX X s2) ∧ (X.2.2 (c + 21) 3 = s3 ∧ gsX X s3) ∧ M s2 0 = 0 ∧ M s3 0 = 0 ∧ M (s2 + 3) 0 = 0 ∧ M (s3 + 3) 0 = 0
theorem z_written (hX : glX X c) {s2 s3 : Nat} (hE : gEe X M c s2 s3) {p x y u v : Int} (hp : g32 p) (h1 : gIs x y) (h2 : gIs u v) (hy : y ≤ v) {k : Int → gM → Prop} (hk : k 1 M) : cZ l G y_Ed_written (gRm (d + 2)) true [gR G (c + 21), gI 0, gI p, gI x, gI y, gI u, gI v] X M k := by
  obtain ⟨e2, e3, z2, z3, t2, t3⟩ := hE
  have gx : g32 x := by unfold gIs at h1; unfold g32; omega
  have gy : g32 y := by unfold gIs at h1; unfold g32; omega
  have gu : g32 u := by unfold gIs at h2; unfold g32; omega
  have gv : g32 v := by unfold gIs at h2; unfold g32; omega
  have key : ∀ (n : Nat) (r : Int), y ≤ r → r + n = v + 1 → wp l G y_Ed_written (gRm (d + 2)) true (kkZ X k) true 7 [.val (gR G (c + 21)), .val (gI 0), .val (gI p), .val (gI x), .unset, .val (gI u), .val (gI v), .val (gI 0), .val (gI r), .unset] [] X M 0 0 := by
    intro n
    induction n with
    | zero =>
      intro r hr hn
      refine w_Ed_written_7 hX g32_0 hp gx gu gv g32_0 (by unfold g32 gIs at *; omega) e3 e2 ⟨fun _ _ => ?_, fun h => absurd (by omega) h⟩
      rw [z2]
      refine z_addRun e3.2 e2.2 z3 t3 t2 ⟨fun h => absurd h (by decide), fun _ => z_rangesFit hX e3 z3 ⟨fun h => absurd h (by decide), fun _ => hk⟩⟩
    | succ n ih =>
      intro r hr hn
      have hir : gIs x r := by unfold gIs at *; omega
      have hur : gIs u r := by unfold gIs at *; omega
      have gr : g32 r := by unfold gIs at hir; unfold g32; omega
      refine w_Ed_written_7 hX g32_0 hp gx gu gv g32_0 gr e3 e2 ⟨fun h => absurd h (by omega), fun _ => c_GL_place hir (z_entryFrom e2.2 z2 (by unfold g32 gIs at *; omega) (z_addRun e3.2 e2.2 z3 t3 t2 ⟨fun _ => c_GL_place hur (z_entryFrom e2.2 z2 (by unfold g32 gIs at *; omega) ?_), fun h => absurd h (by decide)⟩))⟩
      have e9 : w32 (r + 1) = r + 1 := w32_id (by unfold g32 gIs at *; omega)
      have h9 := ih (r + 1) (by omega) (by omega)
      rw [← e9] at h9
      exact w_Ed_written_66 hX g32_0 hp gx gu gv g32_0 gr gx e3 e2 ⟨fun _ => h9, fun _ => ⟨fun _ => h9, fun h => absurd rfl h⟩⟩
  exact e_Ed_written (w_Ed_written_0 hX g32_0 hp gx gy gu gv (key (v + 1 - y).toNat y (Int.le_refl y) (by omega)))
theorem z_replaced (hX : glX X c) {s2 s3 : Nat} (hE : gEe X M c s2 s3) (h6 : M (c + 6) 0 = 0) (h7 : M (c + 7) 0 = 0) {p : Int} (hp : 0 ≤ p ∧ p < 5200) {k : Int → gM → Prop} (hk : k 1 M) : cZ l G y_Ed_replaced (gRm (d + 3)) true [gR G (c + 21), gI p, gI 0] X M k := by
  refine e_Ed_replaced (w_Ed_replaced_0 hX (by unfold g32; omega) g32_0 ?_)
  simp only [Int.toNat_zero, h6, h7, gCp_0]
  refine ⟨⟨by decide, by decide⟩, fun _ => ⟨⟨by decide, by decide⟩, fun _ => ⟨by decide, ?_⟩⟩⟩
  have e1 : p.tmod 26 = p % 26 := Int.tmod_eq_emod_of_nonneg hp.1
  have e2 : p.tdiv 26 = p / 26 := Int.tdiv_eq_ediv_of_nonneg hp.1
  rw [e1, e2]
  have hi : gIs (p % 26) (p / 26) := by unfold gIs; omega
  exact z_written hX hE (by unfold g32; omega) hi hi (Int.le_refl _) hk
theorem z_filled (hX : glX X c) {s2 s3 : Nat} (hE : gEe X M c s2 s3) {p x y u v : Int} (hp : g32 p) (h1 : gIs x y) (h2 : gIs u v) (hy : y ≤ v) {k : Int → gM → Prop} (hk : k 1 M) : cZ l G y_Ed_filled (gRm (d + 3)) true [gR G (c + 21), gI p, gI x, gI y, gI u, gI v] X M k := by
  have gx : g32 x := by unfold gIs at h1; unfold g32; omega
  have gy : g32 y := by unfold gIs at h1; unfold g32; omega
  have gu : g32 u := by unfold gIs at h2; unfold g32; omega
  have gv : g32 v := by unfold gIs at h2; unfold g32; omega
  refine e_Ed_filled (w_Ed_filled_0 hX hp gx gy gu gv hE.1 (z_entryFrom hE.1.2 hE.2.2.1 hp (fun _ => ?_)))
  rw [hE.2.2.1]
  exact ⟨fun _ => z_written hX hE hp h1 h2 hy hk, fun h => absurd (Int.le_refl 0) h⟩
def gShf (M : gM) (c : Nat) (x1 x2 x3 x4 : Int) : gM := gUp (gUp (gUp (gUp M (c + 21) 4 x1) (c + 21) 5 x2) (c + 21) 6 x3) (c + 21) 7 x4
theorem gShf_a {M : gM} {c a : Nat} {x1 x2 x3 x4 : Int} (h : a ≠ c + 21) (j : Nat) : gShf M c x1 x2 x3 x4 a j = M a j := by
  unfold gShf
  rw [gUp_a h, gUp_a h, gUp_a h, gUp_a h]
theorem z_shifted (hX : glX X c) {s2 s3 : Nat} (hE : gEe X M c s2 s3) (n2 : s2 ≠ c + 21) (n3 : s3 ≠ c + 21) {x1 x2 x3 x4 : Int} (h1 : 0 ≤ x1 ∧ x1 ≤ 1) (h2 : 0 ≤ x2 ∧ x2 ≤ 1) (h3 : g32 x3) (h4 : g32 x4) {k : Int → gM → Prop} (hk : k 1 (gShf M c x1 x2 x3 x4)) : cZ l G y_Ed_shifted (gRm (d + 2)) true [gR G (c + 21), gI x1, gI x2, gI x3, gI x4] X M k := by
  refine e_Ed_shifted (w_Ed_shifted_0 hX h1 h2 h3 h4 ?_)
  change wp l G y_Ed_shifted (gRm (d + 2)) true (kkZ X k) true 24 _ [] X (gShf M c x1 x2 x3 x4) 0 0
  have z2 : gShf M c x1 x2 x3 x4 s2 0 = 0 := (gShf_a n2 0).trans hE.2.2.1
  have z3 : gShf M c x1 x2 x3 x4 s3 0 = 0 := (gShf_a n3 0).trans hE.2.2.2.1
  refine w_Ed_shifted_24 hX g32_0 hE.2.1 hE.1 (fun _ => ?_)
  rw [z2]
  exact ⟨fun _ => z_rangesFit hX hE.2.1 z3 hk, fun h => absurd (Int.le_refl 0) h⟩
end gEmpty1
