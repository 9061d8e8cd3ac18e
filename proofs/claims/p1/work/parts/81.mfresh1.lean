/-! The reference on its fresh state: copies of nothing change nothing. -/
theorem gFl_id {M : gM} {D a n : Nat} {f : Nat → Int} (h : ∀ j, j < n → M D (a + j) = f j) : gFl M D a f n = M := by
  funext b j
  unfold gFl
  split
  · next e => rw [e.1, ← h (j - a) (by omega), show a + (j - a) = j by omega]
  · rfl
/-- all rows of the reference but 'index' are 0 -/
def gZm (M : gM) (o : Nat) : Prop := ∀ a j, 1 ≤ a → a ≤ 46 → a ≠ 41 → M (o + a) j = 0
section gMf1
variable {l : Launch} {G : gG} {d : Nat} {X : gX} {M : gM} {o : Nat}
theorem gZm.u {M : gM} {o : Nat} (h : gZm M o) {a : Nat} (ha : 1 ≤ a ∧ a ≤ 46 ∧ a ≠ 41) (k : Nat) : gUp M (o + a) k 0 = M := gUp_id (h a k ha.1 ha.2.1 ha.2.2)
theorem gZm.s {M : gM} {o : Nat} (h : gZm M o) (k : Nat) (x : Int) : gZm (gUp M o k x) o := fun a j h1 h2 h3 => (gUp_ao (by omega)).trans (h a j h1 h2 h3)
theorem gZm.i {M : gM} {o : Nat} (h : gZm M o) (n : Nat) : gZm (gFl M (o + 41) 0 (fun _ => -1) n) o := fun a j h1 h2 h3 => (gFl_oo (by omega)).trans (h a j h1 h2 h3)
theorem zm_clear (hX : gmX X o) (hM : gZm M o) {s : Int} (hs : 0 ≤ s ∧ s < 42) {k : gM → Prop} (hk : k M) : cV l G y_GM_clear (gRm d) true [gR G o, gI s] X M k := by
  refine c_GM_clear hX hs ?_
  have e : gmClear M o s = M := by
    unfold gmClear
    rw [gFl_id (fun j _ => hM 19 _ (by decide) (by decide) (by decide)), hM.u (a := 25) (by decide)]
  rw [e]
  exact hk
theorem zm_copy (hX : gmX X o) (hM : gZm M o) {s p t q : Int} (hs : 0 ≤ s ∧ s < 42) (ht : 0 ≤ t ∧ t < 42) (hp : 0 ≤ p ∧ p < 5200) (hq : 0 ≤ q ∧ q < 5200) {k : gM → Prop} (hk : k M) : cV l G y_GM_copy (gRm d) true [gR G o, gI s, gI p, gI t, gI q] X M k := by
  refine e_GM_copy (w_GM_copy_0 hX (by unfold g32; omega) (by unfold g32; omega) (by unfold g32; omega) (by unfold g32; omega) ?_)
  have z19 : ∀ j, M (o + 19) j = 0 := fun j => hM 19 j (by decide) (by decide) (by decide)
  have z20 : ∀ j, M (o + 20) j = 0 := fun j => hM 20 j (by decide) (by decide) (by decide)
  have z21 : ∀ j, M (o + 21) j = 0 := fun j => hM 21 j (by decide) (by decide) (by decide)
  have z23 : ∀ j, M (o + 23) j = 0 := fun j => hM 23 j (by decide) (by decide) (by decide)
  have u19 : ∀ j, gUp M (o + 19) j 0 = M := hM.u (by decide)
  have u20 : ∀ j, gUp M (o + 20) j 0 = M := hM.u (by decide)
  have u21 : ∀ j, gUp M (o + 21) j 0 = M := hM.u (by decide)
  have u23 : ∀ j, gUp M (o + 23) j 0 = M := hM.u (by decide)
  simp only [z19, u19, z23, u23, z20, u20, z21, u21]
  have bs : (0 : Int) ≤ s * 5200 + p ∧ s * 5200 + p < 218400 := by omega
  have bt : (0 : Int) ≤ t * 5200 + q ∧ t * 5200 + q < 218400 := by omega
  exact ⟨bs, fun _ => ⟨bt, bs, fun _ => ⟨bt, bs, fun _ => ⟨bt, bs, fun _ => ⟨bt, bs, fun _ => ⟨fun e => absurd e (by decide), fun _ => hk⟩⟩⟩⟩⟩⟩
theorem zm_copyAll (hX : gmX X o) (hM : gZm M o) {s t : Int} (hs : 0 ≤ s ∧ s < 42) (ht : 0 ≤ t ∧ t < 42) {k : gM → Prop} (hk : k M) : cV l G y_GM_copyAll (gRm (d + 1)) true [gR G o, gI s, gI t] X M k := by
  have gs : g32 s := by unfold g32; omega
  have gt : g32 t := by unfold g32; omega
  have key : ∀ (n p : Nat), p + n = 5200 → wp l G y_GM_copyAll (gRm (d + 1)) true (kkV X k) true 7 [.val (gR G o), .val (gI s), .val (gI t), .val (gI (p : Int))] [] X M 0 0 := by
    intro n
    induction n with
    | zero => intro p hp; exact w_GM_copyAll_7 hX gs gt (by unfold g32; omega) ⟨fun _ => hk, fun h => absurd (by omega) h⟩
    | succ n ih =>
      intro p hp
      refine w_GM_copyAll_7 hX gs gt (by unfold g32; omega) ⟨fun h => absurd h (by omega), fun _ => zm_copy hX hM hs ht ⟨by omega, by omega⟩ ⟨by omega, by omega⟩ ?_⟩
      rw [show w32 ((p : Int) + 1) = ((p + 1 : Nat) : Int) by rw [w32_id (by unfold g32; omega)]; omega]
      exact ih (p + 1) (by omega)
  exact e_GM_copyAll (w_GM_copyAll_0 hX gs gt (zm_clear hX hM ht (key 5200 0 (by omega))))
theorem zm_ranges (hX : gmX X o) (hM : gZm M o) {s : Int} (hs : 0 ≤ s ∧ s < 42) {k : Int → gM → Prop} (hk : k 0 M) : cI l G y_GM_ranges (gRm (d + 1)) false [gR G o, gI s] X M k := by
  have gs : g32 s := by unfold g32; omega
  have z19 : ∀ j, M (o + 19) j = 0 := fun j => hM 19 j (by decide) (by decide) (by decide)
  have key : ∀ (n p : Nat), p + n = 5200 → wp l G y_GM_ranges (gRm (d + 1)) false (kkI X k) false 4 [.val (gR G o), .val (gI s), .val (gI 0), .val (gI (p : Int)), .unset] [] X M 0 0 := by
    intro n
    induction n with
    | zero => intro p hp; exact w_GM_ranges_4 hX gs g32_0 (by unfold g32; omega) ⟨fun _ => hk, fun h => absurd (by omega) h⟩
    | succ n ih =>
      intro p hp
      refine w_GM_ranges_4 hX gs g32_0 (by unfold g32; omega) ⟨fun h => absurd h (by omega), fun _ => ⟨by omega, fun _ => ?_⟩⟩
      rw [z19, show w32 ((p : Int) + 1) = ((p + 1 : Nat) : Int) by rw [w32_id (by unfold g32; omega)]; omega]
      exact ⟨fun e => absurd e (by decide), fun _ => ih (p + 1) (by omega)⟩
  exact e_GM_ranges (w_GM_ranges_0 hX gs (key 5200 0 (by omega)))
theorem gmCnt_0 (hM : gZm M o) (s : Int) : ∀ n, gmCnt M o s n = 0
  | 0 => rfl
  | n + 1 => by
    have ih := gmCnt_0 hM s n
    have z : ∀ j, M (o + 19) j = 0 := fun j => hM 19 j (by decide) (by decide) (by decide)
    simp only [gmCnt, ih, z]
    rfl
theorem gmRem_z (hM : gZm M o) (n : Nat) : gmRem M o n = M := by
  funext b j
  have z : ∀ a j, 1 ≤ a → a ≤ 46 → a ≠ 41 → M (o + a) j = 0 := hM
  unfold gmRem
  split
  · next e => rw [e.1, z 26 j (by decide) (by decide) (by decide), z 28 j (by decide) (by decide) (by decide)]
  · split
    · next e => rw [e.1, z 30 j (by decide) (by decide) (by decide), z 31 j (by decide) (by decide) (by decide)]
    · split
      · next e => rw [e.1, z 27 j (by decide) (by decide) (by decide), z 29 j (by decide) (by decide) (by decide)]
      · split
        · next e => rw [e.1, z 32 j (by decide) (by decide) (by decide), z 33 j (by decide) (by decide) (by decide)]
        · rfl
/-- the memory behind evaluate on nothing -/
def gmEv (M : gM) (o : Nat) (s : Int) : gM := gUp (gFl (gUp (gUp M o 51 s) o 66 0) (o + 41) 0 (fun _ => -1) 5200) o 65 0
theorem zm_evaluate (hX : gmX X o) (hM : gZm M o) {s : Int} (hs : 0 ≤ s ∧ s < 42) {k : gM → Prop} (hk : k (gmEv M o s)) : cV l G y_GM_evaluate (gRm (d + 1)) true [gR G o, gI s] X M k := by
  have gs : g32 s := by unfold g32; omega
  have e7 : w32 (7 * 0) = 0 := w32_id g32_0
  have z66 : ∀ n, gFl (gUp (gUp M o 51 s) o 66 0) (o + 41) 0 (fun _ => -1) n o 66 = 0 := fun n => by rw [gFl_o (by decide), gUp_eq]
  have rest : wp l G y_GM_evaluate (gRm (d + 1)) true (kkV X k) true 213 [.val (gR G o), .unset, .val (gI 0), .unset, .unset] [] X (gFl (gUp (gUp M o 51 s) o 66 0) (o + 41) 0 (fun _ => -1) 5200) 0 0 := by
    have y66 : gmEv M o s o 66 = 0 := by unfold gmEv; rw [gUp_k (by decide)]; exact z66 5200
    refine w_GM_evaluate_213 hX g32_0 (fun _ => ?_)
    rw [z66, e7]
    refine ⟨fun _ => w_GM_evaluate_239 hX g32_0 (fun _ => ?_), fun h => absurd (Int.le_refl 0) h⟩
    rw [z66]
    refine ⟨fun _ => w_GM_evaluate_260 hX g32_0 (fun _ => ?_), fun h => absurd (Int.le_refl 0) h⟩
    rw [z66, e7]
    refine ⟨fun _ => w_GM_evaluate_291 hX g32_0 (fun _ => ?_), fun h => absurd (Int.le_refl 0) h⟩
    rw [z66]
    refine ⟨fun _ => ?_, fun h => absurd (Int.le_refl 0) h⟩
    change wp l G y_GM_evaluate (gRm (d + 1)) true (kkV X k) true 383 _ [] X (gmEv M o s) 0 0
    refine w_GM_evaluate_383 hX g32_0 (fun _ => ?_)
    rw [y66]
    refine ⟨fun _ => w_GM_evaluate_449 hX (g32_c rfl) ⟨fun h => absurd h (by decide), fun _ => w_GM_evaluate_457 hX g32_0 g32_0 (fun _ => ?_)⟩, fun h => absurd (Int.le_refl 0) h⟩
    rw [y66]
    refine ⟨fun _ => w_GM_evaluate_449 hX g32_0 ⟨fun _ => w_GM_evaluate_515 hX g32_0 (fun _ => ?_), fun h => absurd rfl h⟩, fun h => absurd (Int.le_refl 0) h⟩
    rw [y66]
    exact ⟨fun _ => hk, fun h => absurd (Int.le_refl 0) h⟩
  have key : ∀ (n p : Nat), p + n = 5200 → wp l G y_GM_evaluate (gRm (d + 1)) true (kkV X k) true 12 [.val (gR G o), .val (gI s), .val (gI (p : Int)), .unset, .unset] [] X (gFl (gUp (gUp M o 51 s) o 66 0) (o + 41) 0 (fun _ => -1) p) 0 0 := by
    intro n
    induction n with
    | zero =>
      intro p hp
      obtain rfl : p = 5200 := by omega
      exact w_GM_evaluate_12 hX gs (by unfold g32; omega) ⟨fun _ => rest, fun h => absurd (by decide) h⟩
    | succ n ih =>
      intro p hp
      have hN : gZm (gFl (gUp (gUp M o 51 s) o 66 0) (o + 41) 0 (fun _ => -1) (p + 1)) o := ((hM.s 51 s).s 66 0).i (p + 1)
      have es : gUp (gFl (gUp (gUp M o 51 s) o 66 0) (o + 41) 0 (fun _ => -1) p) (o + 41) (Int.toNat (p : Int)) (-1) = gFl (gUp (gUp M o 51 s) o 66 0) (o + 41) 0 (fun _ => -1) (p + 1) := by
        rw [← gFl_s, Int.toNat_natCast, Nat.zero_add]
      have h9 := ih (p + 1) (by omega)
      rw [show ((p + 1 : Nat) : Int) = w32 ((p : Int) + 1) by rw [w32_id (by unfold g32; omega)]; omega] at h9
      refine w_GM_evaluate_12 hX gs (by unfold g32; omega) ⟨fun h => absurd h (by omega), fun _ => ?_⟩
      rw [es]
      generalize gFl (gUp (gUp M o 51 s) o 66 0) (o + 41) 0 (fun _ => -1) (p + 1) = N at hN h9 ⊢
      have z19 : ∀ j, N (o + 19) j = 0 := fun j => hN 19 j (by decide) (by decide) (by decide)
      have z27 : ∀ j, N (o + 27) j = 0 := fun j => hN 27 j (by decide) (by decide) (by decide)
      have u26 : ∀ j, gUp N (o + 26) j 0 = N := hN.u (by decide)
      have u30 : ∀ j, gUp N (o + 30) j 0 = N := hN.u (by decide)
      have u27 : ∀ j, gUp N (o + 27) j 0 = N := hN.u (by decide)
      simp only [z19, u26, u30, u27]
      have bp : (0 : Int) ≤ (p : Int) ∧ (p : Int) < 5200 := by omega
      have bs : (0 : Int) ≤ s * 5200 + (p : Int) ∧ s * 5200 + (p : Int) < 218400 := by omega
      have ew : w32 (s * 5200 + (p : Int)) = s * 5200 + (p : Int) := w32_id (by unfold g32; omega)
      have W : wp l G y_GM_evaluate (gRm (d + 1)) true (kkV X k) true 122 [.val (gR G o), .val (gI s), .val (gI (p : Int)), .val (gI (w32 (s * 5200 + (p : Int)))), .val (gI 0)] [] X N 0 0 := by
        refine w_GM_evaluate_122 hX gs (by unfold g32; omega) (w32_ok _) g32_0 ⟨bp, fun _ => ?_⟩
        rw [z27, z19, ew]
        exact ⟨fun _ => ⟨bs, fun _ => ⟨fun _ => h9, fun e => absurd e (by decide)⟩⟩, fun h => absurd (Int.le_refl 0) h⟩
      exact ⟨bp, bs, fun _ => ⟨fun _ => ⟨bs, fun _ => ⟨bp, bs, fun _ => ⟨fun _ => ⟨bp, bs, fun _ => ⟨fun _ => ⟨bp, W⟩, fun e => absurd e (by decide)⟩⟩, fun e => absurd e (by decide)⟩⟩⟩, fun e => absurd e (by decide)⟩⟩
  have k0 := key 5200 0 (by omega)
  rw [gFl_0] at k0
  exact e_GM_evaluate (w_GM_evaluate_0 hX gs k0)
end gMf1
