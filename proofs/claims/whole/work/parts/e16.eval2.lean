/-! The reference's evaluate: what reads what, and its closure. -/
theorem gCov_lt {S tg : List Int} {q : Nat} (h : gCok S tg) (hc : gCov S tg q) : q < 5200 := by
  obtain ⟨k, k1, k2, k3⟩ := hc
  have t1 := h.2.2.2.2.1 k k1
  rcases k3 with ⟨_, z⟩ | ⟨c1, z⟩
  · omega
  · have c := h.2.2.2.2.2 k k1
    have t2 : 0 ≤ gTt tg (k + 1) ∧ gTt tg (k + 1) < 5200 := by
      rcases c with y | y | y
      · rw [c1] at y; exact absurd y (by decide)
      · have t3 := h.2.2.2.2.1 (k + 1) y.2.1
        refine t3.resolve_left (fun y2 => k2 (y.2.2.2.mpr y2))
      · rw [c1] at y; exact absurd y.1 (by decide)
    unfold gInB at z
    omega
/-- formula i reads formula j -/
def gRI (F : gSht) (i j : Nat) : Prop := ∃ p q, gFo F p ∧ gFo F q ∧ p < 5200 ∧ q < 5200 ∧ gCn (gFo F) p = i ∧ gCn (gFo F) q = j ∧ gEdg F p q
theorem gRI_lt {F : gSht} {i j : Nat} (h : gRI F i j) : j < gCn (gFo F) 5200 := by
  obtain ⟨p, q, _, h2, _, h4, _, h6, _⟩ := h
  rw [← h6]
  exact gCn_lt h4 h2
theorem gRI_rch {F : gSht} (hF : gSok F) : ∀ (k p q : Nat), gFo F p → gFo F q → gRch (gEdg F) k p q → gRch (gRI F) k (gCn (gFo F) p) (gCn (gFo F) q) := by
  have lt : ∀ p, gFo F p → p < 5200 := fun p ⟨S, tg, e, _⟩ => (hF p S tg e).1
  intro k
  induction k with
  | zero => intro p q _ _ h; have h : p = q := h; rw [h]; rfl
  | succ k ih =>
    rintro p q hp hq ⟨x, hx, h⟩
    have hx2 : gFo F x := by
      cases k with
      | zero => have h : x = q := h; rw [h]; exact hq
      | succ k =>
        obtain ⟨y, hy, _⟩ := h
        exact gEdg.fo hF hy
    exact ⟨gCn (gFo F) x, ⟨p, x, hp, hx2, lt p hp, lt x hx2, rfl, rfl, hx⟩, ih x q hx2 hq h⟩
theorem gRI_rch2 {F : gSht} : ∀ (k i j : Nat), gRch (gRI F) k i j → ∀ p q, gFo F p → gFo F q → gCn (gFo F) p = i → gCn (gFo F) q = j → gRch (gEdg F) k p q := by
  intro k
  induction k with
  | zero => intro i j h p q hp hq e1 e2; have h : i = j := h; exact gCn_inj hp hq (by omega)
  | succ k ih =>
    rintro i j ⟨x, ⟨p2, y, h1, h2, _, _, h5, h6, h7⟩, h⟩ p q hp hq e1 e2
    have e : p2 = p := gCn_inj h1 hp (by omega)
    rw [e] at h7
    exact ⟨y, h7, ih x j h y q h2 hq h6 e2⟩
theorem gRI_cyc {F : gSht} (hF : gSok F) {p : Nat} (hp : gFo F p) : gTC (gRI F) (gCn (gFo F) p) (gCn (gFo F) p) ↔ gCyc F p := ⟨fun ⟨k, h⟩ => ⟨k, gRI_rch2 _ _ _ h p p hp hp rfl rfl⟩, fun ⟨k, h⟩ => ⟨k, gRI_rch hF _ p p hp hp h⟩⟩
section geT
variable {l : Launch} {G : gG} {d : Nat} {X : gX} {M0 : gM} {o s : Nat} {F : gSht} {V : Int → gVl}
/-- kept while the reads are looked at -/
def gI42 (M1 M : gM) (o : Nat) : Prop := gOff (fun a _ => a = o + 42 ∨ a = o + 44) M1 M
theorem r_ev213 {k : gM → Prop} {M1 : gM} {n : Nat} (hX : gmX X o) (hn : M1 o 66 = (n : Int)) (hn2 : n ≤ 400) (hk : ∀ M, gI42 M1 M o → (∀ j, j < 7 * n → M (o + 42) j = 0) → wp l G y_GM_evaluate (gRm (d + 1)) true (kkV X k) true 239 [.val (gR G o), .unset, .val (gI 0), .unset, .unset] [] X M 0 0) : ∀ (m x : Nat) (M : gM), x + m = 7 * n → gI42 M1 M o → (∀ j, j < x → M (o + 42) j = 0) → wp l G y_GM_evaluate (gRm (d + 1)) true (kkV X k) true 213 [.val (gR G o), .unset, .val (gI (x : Int)), .unset, .unset] [] X M 0 0 := by
  intro m
  induction m with
  | zero =>
    intro x M hx o1 h0
    have e66 : M o 66 = (n : Int) := (o1 _ _ (by omega)).trans hn
    refine w_GM_evaluate_213 hX ⟨by omega, by omega⟩ fun _ => ?_
    rw [e66, w32_id (x := 7 * (n : Int)) ⟨by omega, by omega⟩]
    exact ⟨fun _ => hk M o1 (fun j hj => h0 j (by omega)), fun z => absurd (by omega) z⟩
  | succ m ih =>
    intro x M hx o1 h0
    have e66 : M o 66 = (n : Int) := (o1 _ _ (by omega)).trans hn
    refine w_GM_evaluate_213 hX ⟨by omega, by omega⟩ fun _ => ?_
    rw [e66, w32_id (x := 7 * (n : Int)) ⟨by omega, by omega⟩, Int.toNat_natCast, w32_id (x := (x : Int) + 1) ⟨by omega, by omega⟩, show (x : Int) + 1 = ((x + 1 : Nat) : Int) by omega]
    refine ⟨fun z => absurd z (by omega), fun _ => ⟨⟨by omega, by omega⟩, ih (x + 1) _ (by omega) (o1.up (Or.inl rfl)) (fun j hj => ?_)⟩⟩
    by_cases e : j = x
    · rw [e, gUp_eq]
    · rw [gUp_k e]; exact h0 j (by omega)
theorem r_ev239 {k : gM → Prop} {M1 : gM} {n : Nat} (hX : gmX X o) (hst : gmSt M0 o s F) (hF : gSok F) (h1 : gI12 M0 M1 o s F V 5200) (en : n = gCn (gFo F) 5200) (hn2 : n ≤ 400) (hk : ∀ M, gI42 M1 M o → (∀ i j, i < n → j < 448 → (gRdM M o 42 i j ↔ gRI F i j)) → wp l G y_GM_evaluate (gRm (d + 3)) true (kkV X k) true 260 [.val (gR G o), .unset, .val (gI 0), .unset, .unset] [] X M 0 0) : ∀ (m x : Nat) (M : gM), x + m = n → gI42 M1 M o → (∀ i j, i < n → j < 448 → (gRdM M o 42 i j ↔ i < x ∧ gRI F i j)) → wp l G y_GM_evaluate (gRm (d + 3)) true (kkV X k) true 239 [.val (gR G o), .unset, .val (gI (x : Int)), .unset, .unset] [] X M 0 0 := by
  obtain ⟨o0, hq, h66, h51⟩ := h1
  rw [← en] at h66
  have hix : ∀ p, p < 5200 → M1 (o + 41) p = -1 ∨ 0 ≤ M1 (o + 41) p ∧ M1 (o + 41) p < 400 := fun p hp => by
    rw [(hq p hp).2.1]
    unfold gIx
    split
    · rename_i fo
      have := gCn_lt (Q := gFo F) hp fo
      omega
    · exact Or.inl rfl
  intro m
  induction m with
  | zero =>
    intro x M hx o1 hb
    have e66 : M o 66 = (n : Int) := (o1 _ _ (by omega)).trans h66
    refine w_GM_evaluate_239 hX ⟨by omega, by omega⟩ fun _ => ?_
    rw [e66]
    exact ⟨fun _ => hk M o1 (fun i j hi hj => (hb i j hi hj).trans ⟨fun y => y.2, fun y => ⟨by omega, y⟩⟩), fun z => absurd (by omega) z⟩
  | succ m ih =>
    intro x M hx o1 hb
    have e66 : M o 66 = (n : Int) := (o1 _ _ (by omega)).trans h66
    obtain ⟨p, p1, p2, p3⟩ := gCn_ex (Q := gFo F) 5200 x (by omega)
    obtain ⟨S, tg, e, h3⟩ := id p2
    have sm : ∀ a j, a ≠ o + 42 → a ≠ o + 44 → M a j = M1 a j := fun a j ha hb2 => o1 _ _ (by omega)
    have sm0 : ∀ i j, 1 ≤ i → i ≤ 25 → M (o + i) j = M0 (o + i) j := fun i j a b => (sm _ _ (by omega) (by omega)).trans (o0 _ _ (by unfold gEvR gmF; omega))
    have cl := hst.2.1 p p1
    rw [e] at cl
    have cl2 : gmCl M o s p (some (S, tg)) := cl.kp sm0 (fun j hj => (sm _ _ (by omega) (by omega)).trans (o0 _ _ (by unfold gEvR gmF; omega)))
    have hl : M (o + 40) x = (p : Int) := by
      rw [sm _ _ (by omega) (by omega), ← p3]
      exact (hq p p1).2.2 p2
    have ok := (hF p S tg e).2
    refine w_GM_evaluate_239 hX ⟨by omega, by omega⟩ fun _ => ?_
    rw [e66, w32_id (x := (x : Int) + 1) ⟨by omega, by omega⟩, show (x : Int) + 1 = ((x + 1 : Nat) : Int) by omega]
    refine ⟨fun z => absurd z (by omega), fun _ => r_readsOf (d := d) (M := M) (Z := fun _ => False) hX (by omega) ((sm _ _ (by omega) (by omega)).trans h51) hst.1 hl p1 cl2 h3 ok (by rw [sm0 25 _ (by decide) (by decide)]; have := hst.2.2.2; omega) (fun r hr => by rw [sm _ _ (by omega) (by omega)]; exact hix r hr) gBiM.rf (fun M3 h4 => ih (x + 1) M3 (by omega) (o1.tr (h4.1.mono (fun a _ h => Or.inl h))) (fun i j hi hj => ?_))⟩
    rw [h4.2 i j hj, hb i j hi hj]
    constructor
    · rintro (y | ⟨y1, y2, q, y3, y4⟩)
      · exact ⟨by omega, y.2⟩
      · have y3 := y3.resolve_left (fun z => z)
        have ql := gCov_lt ok y3
        rw [sm _ _ (by omega) (by omega), (hq q ql).2.1] at y4
        unfold gIx at y4
        split at y4
        · rename_i fq
          refine ⟨by omega, p, q, p2, fq, p1, ql, by omega, by omega, ⟨S, tg, e, y3⟩, ?_⟩
          obtain ⟨S2, tg2, e2, _⟩ := fq
          rw [e2]
          exact fun z => by cases z
        · omega
    · rintro ⟨y1, y2⟩
      by_cases z : i = x
      · right
        obtain ⟨p', q, a1, a2, a3, a4, a5, a6, ⟨S2, tg2, e2, a7⟩, a8⟩ := y2
        have ep : p' = p := gCn_inj a1 p2 (by omega)
        subst ep
        rw [e] at e2
        cases e2
        have lt := gCn_lt (Q := gFo F) a4 a2
        refine ⟨z, by omega, q, Or.inr a7, ?_⟩
        rw [sm _ _ (by omega) (by omega), (hq q a4).2.1]
        unfold gIx
        rw [if_pos a2, a6]
      · exact Or.inl ⟨by omega, y2⟩
theorem r_ev260 {k : gM → Prop} {M1 : gM} {n : Nat} (hX : gmX X o) (h66 : M1 o 66 = (n : Int)) (hn2 : n ≤ 400) (hk : ∀ M, gI42 M1 M o → (∀ j, j < 7 * n → M (o + 44) j = M1 (o + 42) j) → (∀ j, M (o + 42) j = M1 (o + 42) j) → wp l G y_GM_evaluate (gRm (d + 1)) true (kkV X k) true 291 [.val (gR G o), .unset, .val (gI 0), .unset, .unset] [] X M 0 0) : ∀ (m x : Nat) (M : gM), x + m = 7 * n → gI42 M1 M o → (∀ j, j < x → M (o + 44) j = M1 (o + 42) j) → (∀ j, M (o + 42) j = M1 (o + 42) j) → wp l G y_GM_evaluate (gRm (d + 1)) true (kkV X k) true 260 [.val (gR G o), .unset, .val (gI (x : Int)), .unset, .unset] [] X M 0 0 := by
  intro m
  induction m with
  | zero =>
    intro x M hx o1 h0 h42
    have e66 : M o 66 = (n : Int) := (o1 _ _ (by omega)).trans h66
    refine w_GM_evaluate_260 hX ⟨by omega, by omega⟩ fun _ => ?_
    rw [e66, w32_id (x := 7 * (n : Int)) ⟨by omega, by omega⟩]
    exact ⟨fun _ => hk M o1 (fun j hj => h0 j (by omega)) h42, fun z => absurd (by omega) z⟩
  | succ m ih =>
    intro x M hx o1 h0 h42
    have e66 : M o 66 = (n : Int) := (o1 _ _ (by omega)).trans h66
    refine w_GM_evaluate_260 hX ⟨by omega, by omega⟩ fun _ => ?_
    rw [e66, w32_id (x := 7 * (n : Int)) ⟨by omega, by omega⟩, Int.toNat_natCast, h42, w32_id (x := (x : Int) + 1) ⟨by omega, by omega⟩, show (x : Int) + 1 = ((x + 1 : Nat) : Int) by omega]
    refine ⟨fun z => absurd z (by omega), fun _ => ⟨⟨by omega, by omega⟩, fun _ => ⟨⟨by omega, by omega⟩, ih (x + 1) _ (by omega) (o1.up (Or.inr rfl)) (fun j hj => ?_) (fun j => ?_)⟩⟩⟩
    · by_cases e : j = x
      · rw [e, gUp_eq]
      · rw [gUp_k e]; exact h0 j (by omega)
    · rw [gUp_a (by omega)]; exact h42 j
theorem r_reaches {M : gM} {i j : Nat} {k : Int → gM → Prop} (hX : gmX X o) (hi : i < 400) (hj : j < 400) (h1 : gRdM M o 42 i j → k 1 M) (h0 : ¬ gRdM M o 42 i j → k 0 M) : cZ l G y_GM_reaches (gRm d) false [gR G o, gI (i : Int), gI (j : Int)] X M k := by
  refine e_GM_reaches (w_GM_reaches_0 hX ⟨by omega, by omega⟩ ⟨by omega, by omega⟩ ?_)
  rw [gShr_6 (by omega), gAnd_63 (by omega), show (7 * (i : Int) + ((j / 64 : Nat) : Int)).toNat = 7 * i + j / 64 by omega, gBt_ushr (Nat.mod_lt _ (by decide))]
  refine ⟨⟨by omega, by omega⟩, fun _ => ⟨fun z => h0 (fun y => z ?_), fun z => h1 ?_⟩⟩
  · unfold gRdM at y
    rw [if_pos y]
  · unfold gRdM
    refine Classical.byContradiction fun y => ?_
    rw [if_neg y] at z
    exact absurd z (by decide)
/-- the closure -/
theorem r_ev291 {k : gM → Prop} {M1 : gM} {n : Nat} {r : Nat → Nat → Prop} (hX : gmX X o) (h66 : M1 o 66 = (n : Int)) (hn2 : n ≤ 400) (hk : ∀ M, gOff (fun a _ => a = o + 42) M1 M → (∀ i j, i < n → j < 448 → (gRdM M o 42 i j ↔ gWp r n i j)) → wp l G y_GM_evaluate (gRm (d + 1)) true (kkV X k) true 383 [.val (gR G o), .unset, .val (gI 0), .unset, .unset] [] X (gUp M o 65 0) 0 0) : ∀ (m x : Nat) (M : gM), x + m = n → gOff (fun a _ => a = o + 42) M1 M → (∀ i j, i < n → j < 448 → (gRdM M o 42 i j ↔ gWp r x i j)) → wp l G y_GM_evaluate (gRm (d + 1)) true (kkV X k) true 291 [.val (gR G o), .unset, .val (gI (x : Int)), .unset, .unset] [] X M 0 0 := by
  intro m
  induction m with
  | zero =>
    intro x M hx o1 hb
    have e66 : M o 66 = (n : Int) := (o1 _ _ (by omega)).trans h66
    refine w_GM_evaluate_291 hX ⟨by omega, by omega⟩ fun _ => ?_
    rw [e66]
    have ex : x = n := by omega
    exact ⟨fun _ => hk M o1 (by rw [ex] at hb; exact hb), fun z => absurd (by omega) z⟩
  | succ m ih =>
    intro x M hx o1 hb
    have gx : g32 (x : Int) := ⟨by omega, by omega⟩
    have e66 : M o 66 = (n : Int) := (o1 _ _ (by omega)).trans h66
    -- row x is the same before and after
    have same : ∀ j, gWp r (x + 1) x j ↔ gWp r x x j := fun j => ⟨fun y => y.elim id (fun y => y.2), fun y => Or.inl y⟩
    have l301 : ∀ (u i : Nat) (M2 : gM), i + u = n → gOff (fun a _ => a = o + 42) M1 M2 → (∀ i2 j, i2 < n → j < 448 → (gRdM M2 o 42 i2 j ↔ if i2 < i then gWp r (x + 1) i2 j else gWp r x i2 j)) → wp l G y_GM_evaluate (gRm (d + 1)) true (kkV X k) true 301 [.val (gR G o), .unset, .val (gI (x : Int)), .val (gI (i : Int)), .unset] [] X M2 0 0 := by
      intro u
      induction u with
      | zero =>
        intro i M2 hi o2 hb2
        have f66 : M2 o 66 = (n : Int) := (o2 _ _ (by omega)).trans h66
        refine w_GM_evaluate_301 hX gx ⟨by omega, by omega⟩ fun _ => ?_
        rw [f66, w32_id (x := (x : Int) + 1) ⟨by omega, by omega⟩, show (x : Int) + 1 = ((x + 1 : Nat) : Int) by omega]
        exact ⟨fun _ => ih (x + 1) M2 (by omega) o2 (fun i2 j h1 h2 => by have := hb2 i2 j h1 h2; rw [if_pos (by omega)] at this; exact this), fun z => absurd (by omega) z⟩
      | succ u ihu =>
        intro i M2 hi o2 hb2
        have f66 : M2 o 66 = (n : Int) := (o2 _ _ (by omega)).trans h66
        have gi : g32 (i : Int) := ⟨by omega, by omega⟩
        have ni : w32 ((i : Int) + 1) = ((i + 1 : Nat) : Int) := (w32_id ⟨by omega, by omega⟩).trans (by omega)
        have rowx : ∀ j, j < 448 → (gRdM M2 o 42 x j ↔ gWp r x x j) := fun j hj => by
          rw [hb2 x j (by omega) hj]
          split
          · exact same j
          · exact Iff.rfl
        have rowi : ∀ j, j < 448 → (gRdM M2 o 42 i j ↔ gWp r x i j) := fun j hj => by
          rw [hb2 i j (by omega) hj, if_neg (by omega)]
        refine w_GM_evaluate_301 hX gx gi fun _ => ?_
        rw [f66]
        refine ⟨fun z => absurd z (by omega), fun _ => r_reaches hX (by omega) (by omega) (fun hr => ⟨fun _ => ?_, fun z => absurd z (by decide)⟩) (fun hr => ⟨fun z => absurd rfl z, fun _ => ?_⟩)⟩
        · have hix := (rowi x (by omega)).mp hr
          have l324 : ∀ (v w : Nat) (M3 : gM), w + v = 7 → gOff (fun a k => a = o + 42 ∧ 7 * i ≤ k ∧ k < 7 * i + 7) M2 M3 → (∀ j, j < 448 → (gRdM M3 o 42 i j ↔ if j / 64 < w then gRdM M2 o 42 i j ∨ gRdM M2 o 42 x j else gRdM M2 o 42 i j)) → wp l G y_GM_evaluate (gRm (d + 1)) true (kkV X k) true 324 [.val (gR G o), .unset, .val (gI (x : Int)), .val (gI (i : Int)), .val (gI (w : Int))] [] X M3 0 0 := by
            intro v
            induction v with
            | zero =>
              intro w M3 hw o3 hb3
              refine w_GM_evaluate_324 hX gx gi ⟨by omega, by omega⟩ ⟨fun _ => ?_, fun z => absurd (by omega) z⟩
              rw [ni]
              refine ihu (i + 1) M3 (by omega) (o2.tr (o3.mono (fun a k h => h.1))) (fun i2 j h1 h2 => ?_)
              by_cases e : i2 = i
              · rw [e, hb3 j h2, if_pos (by omega), if_pos (by omega), rowi j h2, rowx j h2]
                exact ⟨fun y => y.elim Or.inl (fun y => Or.inr ⟨hix, y⟩), fun y => y.elim Or.inl (fun y => Or.inr y.2)⟩
              · have : gRdM M3 o 42 i2 j ↔ gRdM M2 o 42 i2 j := by
                  unfold gRdM
                  rw [o3 _ _ (by omega)]
                rw [this, hb2 i2 j h1 h2]
                by_cases q : i2 < i
                · rw [if_pos q, if_pos (by omega)]
                · rw [if_neg q, if_neg (by omega)]
            | succ v ihv =>
              intro w M3 hw o3 hb3
              refine w_GM_evaluate_324 hX gx gi ⟨by omega, by omega⟩ ⟨fun z => absurd z (by omega), fun _ => ?_⟩
              rw [show (7 * (i : Int) + (w : Int)).toNat = 7 * i + w by omega, show (7 * (x : Int) + (w : Int)).toNat = 7 * x + w by omega, w32_id (x := (w : Int) + 1) ⟨by omega, by omega⟩, show (w : Int) + 1 = ((w + 1 : Nat) : Int) by omega]
              refine ⟨⟨by omega, by omega⟩, fun _ => ⟨⟨by omega, by omega⟩, fun _ => ⟨⟨by omega, by omega⟩, ihv (w + 1) _ (by omega) (o3.up ⟨rfl, by omega, by omega⟩) (fun j hj => ?_)⟩⟩⟩
              by_cases e : j / 64 = w
              · have e1 : gRdM (gUp M3 (o + 42) (7 * i + w) (gLor (M3 (o + 42) (7 * i + w)) (M3 (o + 42) (7 * x + w)))) o 42 i j ↔ gRdM M3 o 42 i j ∨ gRdM M3 o 42 x j := by
                  unfold gRdM
                  rw [e, gUp_eq, gBt_or, Bool.or_eq_true]
                rw [e1, if_pos (by omega), hb3 j hj, if_neg (by omega)]
                by_cases ex : x = i
                · rw [ex, hb3 j hj, if_neg (by omega)]
                · have : gRdM M3 o 42 x j ↔ gRdM M2 o 42 x j := by
                    unfold gRdM
                    rw [o3 _ _ (by omega)]
                  rw [this]
              · have e1 : gRdM (gUp M3 (o + 42) (7 * i + w) (gLor (M3 (o + 42) (7 * i + w)) (M3 (o + 42) (7 * x + w)))) o 42 i j ↔ gRdM M3 o 42 i j := by
                  unfold gRdM
                  rw [gUp_k (by omega)]
                rw [e1, hb3 j hj]
                by_cases q : j / 64 < w
                · rw [if_pos q, if_pos (by omega)]
                · rw [if_neg q, if_neg (by omega)]
          exact l324 7 0 M2 (by omega) (gOff.rf _ _) (fun j hj => by rw [if_neg (by omega)])
        · rw [ni]
          refine ihu (i + 1) M2 (by omega) o2 (fun i2 j h1 h2 => ?_)
          rw [hb2 i2 j h1 h2]
          by_cases e : i2 = i
          · rw [e, if_neg (by omega), if_pos (by omega)]
            exact ⟨fun y => Or.inl y, fun y => y.elim id (fun y => absurd ((rowi x (by omega)).mpr y.1) hr)⟩
          · by_cases q : i2 < i
            · rw [if_pos q, if_pos (by omega)]
            · rw [if_neg q, if_neg (by omega)]
    refine w_GM_evaluate_291 hX gx fun _ => ?_
    rw [e66]
    exact ⟨fun z => absurd z (by omega), fun _ => l301 n 0 M (by omega) o1 (fun i2 j h1 h2 => by rw [if_neg (by omega)]; exact hb i2 j h1 h2)⟩
end geT
