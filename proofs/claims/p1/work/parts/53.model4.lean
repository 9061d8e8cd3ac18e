/-! Contracts of the reference's calls that read alone, of feed and of end. -/
section gmC4
variable {l : Launch} {G : gG} {d : Nat} {X : gX} {M : gM} {o : Nat} {x y1 s v i n p t : Int}
theorem c_GM_end {k : Int → gM → Prop} (hX : gmX X o) (hx : g32 x) (hz : 0 ≤ M o 72 ∧ M o 72 ≤ 240) (h1 : ¬ (0 ≤ x ∧ x ≤ M o 72) → k 0 (gUp M o 0 1)) (h2 : 0 ≤ x ∧ x ≤ M o 72 → k (M o 72 - x) (gUp (gUp M o 0 0) o 72 (M o 72 - x))) : cI l G y_GM_end (gRm (d + 1)) true [gR G o, gI x] X M k := by
  refine e_GM_end (w_GM_end_0 hX hx ⟨fun a => c_GM_no hX (g32_c (x := 1) rfl) (h1 (by omega)), fun a _ => ?_⟩)
  simp (disch := decide) only [gUp_eq, gUp_k]
  refine ⟨fun b _ _ => ?_, fun b => c_GM_no hX (g32_c (x := 1) rfl) (h1 (by omega))⟩
  rw [w32_id ⟨by omega, by omega⟩]
  exact h2 ⟨by omega, by omega⟩
theorem c_GM_changed {k : Int → gM → Prop} (hX : gmX X o) (hx : g32 x) (hz : M o 69 ≤ 5200) (h1 : ¬ (0 ≤ x ∧ x < M o 69) → k 0 (gUp M o 0 1)) (h2 : 0 ≤ x ∧ x < M o 69 → k (M (o + 45) x.toNat) (gUp M o 0 0)) : cI l G y_GM_changed (gRm (d + 1)) true [gR G o, gI x] X M k := by
  refine e_GM_changed (w_GM_changed_0 hX hx ⟨fun a => c_GM_no hX (g32_c (x := 1) rfl) (h1 (by omega)), fun a _ => ?_⟩)
  simp (disch := decide) only [gUp_ao]
  exact ⟨fun b => ⟨⟨by omega, by omega⟩, fun _ => h2 ⟨by omega, by omega⟩⟩, fun b => c_GM_no hX (g32_c (x := 1) rfl) (h1 (by omega))⟩
theorem gmCnt_up (M : gM) (o k : Nat) (x s : Int) (p : Nat) : gmCnt (gUp M o k x) o s p = gmCnt M o s p := by
  induction p with
  | zero => rfl
  | succ p ih =>
    unfold gmCnt
    rw [ih, gUp_ao (by decide)]
/-- the answers of count -/
def gmCount (M : gM) (o : Nat) (x : Int) : Int := if x = 0 then M o 72 else if x = 1 then M o 69 else if x = 2 then M o 36 - M o 35 else if x = 3 then M o 37 - M o 36 else if x = 4 then gmCnt M o (M o 36 % 41) 5200 else if x = 5 then M o 66 else if x = 6 then M o 65 else if x = 7 then M o 70 else -1
theorem c_GM_count {k : Int → gM → Prop} (hX : gmX X o) (hx : g32 x) (hz : 0 ≤ M o 35 ∧ M o 35 ≤ M o 36 ∧ M o 36 ≤ M o 37 ∧ M o 37 < 1000000) (h : k (gmCount M o x) (gUp M o 0 0)) : cI l G y_GM_count (gRm (d + 1)) true [gR G o, gI x] X M k := by
  refine e_GM_count (w_GM_count_0 hX hx ?_)
  simp (disch := decide) only [gUp_k]
  rw [w32_id (x := M o 36 - M o 35) ⟨by omega, by omega⟩, w32_id (x := M o 37 - M o 36) ⟨by omega, by omega⟩]
  refine ⟨?_, ?_, ?_, ?_, ?_, ?_, ?_, ?_, ?_⟩
  · intro h1 _; unfold gmCount at h; rw [if_pos h1] at h; exact h
  · intro h1 _; unfold gmCount at h; rw [if_neg (by omega), if_pos h1] at h; exact h
  · intro h1 _ _; unfold gmCount at h; rw [if_neg (by omega), if_neg (by omega), if_pos h1] at h; exact h
  · intro h1 _ _; unfold gmCount at h; rw [if_neg (by omega), if_neg (by omega), if_neg (by omega), if_pos h1] at h; exact h
  · intro h1 _
    subst h1
    refine c_GM_slot (by omega) (by omega) (c_GM_contents hX ⟨by omega, by omega⟩ ?_)
    rw [gmCnt_up]
    unfold gmCount at h
    rw [if_neg (by decide), if_neg (by decide), if_neg (by decide), if_neg (by decide), if_pos rfl] at h
    exact h
  · intro h1 _; unfold gmCount at h; rw [if_neg (by omega), if_neg (by omega), if_neg (by omega), if_neg (by omega), if_neg (by omega), if_pos h1] at h; exact h
  · intro h1 _; unfold gmCount at h; rw [if_neg (by omega), if_neg (by omega), if_neg (by omega), if_neg (by omega), if_neg (by omega), if_neg (by omega), if_pos h1] at h; exact h
  · intro h1 _; unfold gmCount at h; rw [if_neg (by omega), if_neg (by omega), if_neg (by omega), if_neg (by omega), if_neg (by omega), if_neg (by omega), if_neg (by omega), if_pos h1] at h; exact h
  · intro h1
    unfold gmCount at h
    rw [if_neg (by omega), if_neg (by omega), if_neg (by omega), if_neg (by omega), if_neg (by omega), if_neg (by omega), if_neg (by omega), if_neg (by omega)] at h
    exact h
theorem c_GM_value {k : Int → gM → Prop} (hX : gmX X o) (hx : g32 x) (hy : g32 y1) (hs : g32 s) (h1 : ¬ ((0 ≤ x ∧ x < 26 ∧ 0 ≤ y1 ∧ y1 < 200) ∧ 0 ≤ s ∧ s ≤ 1) → k 0 (gUp M o 0 1))
    (h2 : (0 ≤ x ∧ x < 26 ∧ 0 ≤ y1 ∧ y1 < 200) ∧ 0 ≤ s ∧ s ≤ 1 → k (if s = 0 then M (o + 26) (x + 26 * y1).toNat else if M (o + 26) (x + 26 * y1).toNat = 2 then M (o + 27) (x + 26 * y1).toNat else M (o + 30) (x + 26 * y1).toNat) (gUp M o 0 0)) : cL l G y_GM_value (gRm (d + 1)) true [gR G o, gI x, gI y1, gI s] X M k := by
  refine e_GM_value (w_GM_value_0 hX hx hy hs (c_GM_inSheet hx hy ?_))
  have hno : ¬ ((0 ≤ x ∧ x < 26 ∧ 0 ≤ y1 ∧ y1 < 200) ∧ 0 ≤ s ∧ s ≤ 1) → cI l G y_GM_no (gRm d) true [gR G o, gI 1] X M k := fun a => c_GM_no hX (g32_c (x := 1) rfl) (h1 a)
  by_cases hp : 0 ≤ x ∧ x < 26 ∧ 0 ≤ y1 ∧ y1 < 200
  · rw [if_pos hp]
    simp (disch := decide) only [gUp_ao]
    refine ⟨fun a => absurd a (by decide), fun _ => ⟨fun a => hno (by omega), fun a => ⟨fun b => ⟨fun c => ⟨⟨by omega, by omega⟩, fun _ => ⟨fun e => ⟨⟨by omega, by omega⟩, fun _ => ?_⟩, fun e => ⟨⟨by omega, by omega⟩, fun _ => ?_⟩⟩⟩, fun c => ⟨⟨by omega, by omega⟩, fun _ => ?_⟩⟩, fun b => hno (by omega)⟩⟩⟩
    · have h3 := h2 ⟨hp, by omega, by omega⟩
      rw [if_neg c, if_neg e] at h3; exact h3
    · have h3 := h2 ⟨hp, by omega, by omega⟩
      rw [if_neg c, if_pos e] at h3; exact h3
    · have h3 := h2 ⟨hp, by omega, by omega⟩
      rw [if_pos c] at h3; exact h3
  · rw [if_neg hp]
    exact ⟨fun _ => hno (fun q => hp q.1), fun a => absurd rfl a⟩
theorem c_GM_letter_2 {k : Int → gM → Prop} (hX : gmX X o) (hx : g32 x) (hy : g32 y1) (hs : g32 s) (hl : M (o + 27) (x + 26 * y1).toNat ≤ 64) (h1 : ¬ (0 ≤ x ∧ x < 26 ∧ 0 ≤ y1 ∧ y1 < 200) → k 0 (gUp M o 0 1))
    (h2 : (0 ≤ x ∧ x < 26 ∧ 0 ≤ y1 ∧ y1 < 200) → ¬ (M (o + 26) (x + 26 * y1).toNat = 2 ∧ 0 ≤ s ∧ s < M (o + 27) (x + 26 * y1).toNat) → k 0 (gUp M o 0 2))
    (h3 : (0 ≤ x ∧ x < 26 ∧ 0 ≤ y1 ∧ y1 < 200) → (M (o + 26) (x + 26 * y1).toNat = 2 ∧ 0 ≤ s ∧ s < M (o + 27) (x + 26 * y1).toNat) → k (M (o + 32) (64 * (x + 26 * y1) + s).toNat) (gUp M o 0 0)) : cI l G y_GM_letter_2 (gRm (d + 1)) true [gR G o, gI x, gI y1, gI s] X M k := by
  refine e_GM_letter_2 (w_GM_letter_2_0 hX hx hy hs (c_GM_inSheet hx hy ?_))
  have hno := fun a b => c_GM_no (l := l) (G := G) (d := d) (X := X) (M := M) (o := o) (k := k) hX (g32_c (x := 2) rfl) (h2 a b)
  by_cases hp : 0 ≤ x ∧ x < 26 ∧ 0 ≤ y1 ∧ y1 < 200
  · rw [if_pos hp]
    simp (disch := decide) only [gUp_ao]
    refine ⟨fun _ => ⟨⟨by omega, by omega⟩, fun _ => ⟨fun a => hno hp (fun q => a q.1), fun a => ⟨fun b => hno hp (by omega), fun b => ⟨⟨by omega, by omega⟩, fun _ => ⟨fun c => ⟨⟨by omega, by omega⟩, fun _ => h3 hp ⟨a, by omega, c⟩⟩, fun c => hno hp (by omega)⟩⟩⟩⟩⟩, fun a => absurd a (by decide)⟩
  · rw [if_neg hp]
    exact ⟨fun a => absurd rfl a, fun _ => c_GM_no hX (g32_c (x := 1) rfl) (h1 hp)⟩
/-- byte j of the five words -/
def gmFb (a b c e f : Int) (j : Nat) : Int := gByte (gShr (if j < 4 then a else if j < 8 then b else if j < 12 then c else if j < 16 then e else f) (8 * (3 - (j : Int).tmod 4)))
theorem c_GM_feed {a b c e f : Int} {k : Int → gM → Prop} (hX : gmX X o) (ha : g32 a) (hb : g32 b) (hc : g32 c) (he : g32 e) (hf : g32 f) (hz : 0 ≤ M o 72 ∧ M o 72 ≤ 240) (h1 : 220 < M o 72 → k 0 (gUp M o 0 1))
    (h2 : M o 72 ≤ 220 → k (M o 72 + 20) (gUp (gFl (gUp M o 0 0) (o + 46) (M o 72).toNat (gmFb a b c e f) 20) o 72 (M o 72 + 20))) : cI l G y_GM_feed (gRm (d + 1)) true [gR G o, gI a, gI b, gI c, gI e, gI f] X M k := by
  refine e_GM_feed (w_GM_feed_0 hX ha hb hc he hf fun _ => ?_)
  rw [w32_id ⟨by omega, by omega⟩]
  refine ⟨fun h3 => ?_, fun h3 => c_GM_no hX (g32_c (x := 1) rfl) (h1 (by omega))⟩
  have key : ∀ (n q : Nat), q + n = 20 → wp l G y_GM_feed (gRm (d + 1)) true (kkI X k) true 27 [.val (gR G o), .val (gI a), .val (gI b), .val (gI c), .val (gI e), .val (gI f), .val (gI (q : Int)), .unset] [] X (gFl (gUp M o 0 0) (o + 46) (M o 72).toNat (gmFb a b c e f) q) 0 0 := by
    intro n
    induction n with
    | zero =>
      intro q hq
      have e1 : q = 20 := by omega
      subst e1
      refine w_GM_feed_27 hX ha hb hc he hf ⟨by omega, by omega⟩ ?_
      rw [gFl_o (by decide), gUp_k (by decide)]
      refine ⟨fun _ _ => ?_, fun h4 => absurd (by omega) h4⟩
      rw [w32_id ⟨by omega, by omega⟩, gUp_eq]
      exact fun _ => h2 (by omega)
    | succ n ih =>
      intro q hq
      have i1 := ih (q + 1) (by omega)
      rw [← gFl_s] at i1
      have e2 : (M o 72 + (q : Int)).toNat = (M o 72).toNat + q := by omega
      refine w_GM_feed_27 hX ha hb hc he hf ⟨by omega, by omega⟩ ?_
      rw [gFl_o (by decide), gUp_k (by decide), e2, gI_w, gByte_id (gByte_ok _), gByte_id (gByte_ok _), gByte_id (gByte_ok _), gByte_id (gByte_ok _), gByte_id (gByte_ok _)]
      unfold gmFb at i1
      refine ⟨fun h4 => absurd h4 (by omega), fun _ => ⟨fun h5 => ⟨fun h6 => ⟨fun h7 => ⟨fun h8 _ => ⟨⟨by omega, by omega⟩, ?_⟩, fun h8 _ => ⟨⟨by omega, by omega⟩, ?_⟩⟩, fun h7 _ => ⟨⟨by omega, by omega⟩, ?_⟩⟩, fun h6 _ => ⟨⟨by omega, by omega⟩, ?_⟩⟩, fun h5 _ => ⟨⟨by omega, by omega⟩, ?_⟩⟩⟩
      · rw [if_neg (by omega), if_neg (by omega), if_neg (by omega), if_neg (by omega)] at i1; exact i1
      · rw [if_neg (by omega), if_neg (by omega), if_neg (by omega), if_pos (by omega)] at i1; exact i1
      · rw [if_neg (by omega), if_neg (by omega), if_pos (by omega)] at i1; exact i1
      · rw [if_neg (by omega), if_pos (by omega)] at i1; exact i1
      · rw [if_pos (by omega)] at i1; exact i1
  have k0 := key 20 0 rfl
  rw [gFl_0] at k0
  exact k0
end gmC4
