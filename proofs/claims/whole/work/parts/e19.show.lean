/-! The reference's show: the new values, and which of them are others than before. -/
def gmWs (M : gM) (o p : Nat) (v : gVl) : Prop := M (o + 28) p = v.kd ∧ M (o + 29) p = (v.tx.length : Int) ∧ M (o + 31) p = (if v.kd = 2 then 0 else v.nm) ∧ gBy M (o + 33) (64 * p) v.tx.length = v.tx
def gShR (o : Nat) : Nat → Nat → Prop := fun a k => gEvR o a k ∨ a = o + 28 ∨ a = o + 29 ∨ a = o + 31 ∨ a = o + 33 ∨ a = o + 45 ∨ (a = o ∧ (k = 0 ∨ k = 69 ∨ k = 70))
def gQch (V0 V : Int → gVl) : Nat → Prop := fun p => V0 p ≠ V p
theorem gmEnv.len {M : gM} {o : Nat} {E : Int → gVl} (h : gmEnv M o E) {p : Nat} (hp : p < 5200) : 0 ≤ M (o + 27) p ∧ M (o + 27) p ≤ 64 := by
  obtain ⟨a1, _, a3, _, _⟩ := h p hp
  rw [a3]
  have : (E (p : Int)).tx.length ≤ 64 := by
    by_cases k : (E (p : Int)).kd = 2
    · exact (a1.1.2.2.2.1 k).2
    · rw [a1.1.2.2.2.2.1 k]; exact Nat.zero_le _
  omega
theorem gmSame_iff {M : gM} {o p : Nat} {u v : gVl} (hu : gvP u) (hv : gvP v) (h1 : gmWs M o p u) (h2 : gmRw M o p v) : gmSame M o (p : Int) ↔ u = v := by
  obtain ⟨a1, a2, a3, a4⟩ := h1
  obtain ⟨b1, b2, b3, b4⟩ := h2
  unfold gmSame
  rw [Int.toNat_natCast, show (64 * (p : Int)).toNat = 64 * p by omega, a1, a2, a3, b1, b2, b3, Int.toNat_natCast]
  constructor
  · rintro ⟨c1, c2, c3, c4⟩
    have c3 : u.tx.length = v.tx.length := by omega
    have et : u.tx = v.tx := by
      rw [← a4, ← b4, c3]
      exact c4
    have en : u.nm = v.nm := by
      by_cases k : u.kd = 2
      · have := (hu.1.2.2.2.1 k).1
        have := (hv.1.2.2.2.1 (by omega)).1
        omega
      · rw [if_neg k, if_neg (by omega)] at c2
        exact c2
    exact Prod.ext c1 (Prod.ext en et)
  · intro e
    subst e
    refine ⟨rfl, rfl, rfl, ?_⟩
    rw [a4, b4]
section geX
variable {l : Launch} {G : gG} {d : Nat} {X : gX} {M : gM} {o s : Nat} {F : gSht} {V V0 : Int → gVl} {Q : gQ}
theorem r_show {k : Int → gM → Prop} {rk : Nat → Nat} {nw : Nat} (hX : gmX X o) (hO : gOld G Q) (h36 : M o 36 = (nw : Int)) (hnw : nw < 100000) (es : s = nw % 41) (hE0 : gmEnv M o V0) (hst : gmSt M o s F) (hF : gSok F) (hn : gCn (gFo F) 5200 ≤ 400) (hV : gFxp F V) (hVp : ∀ p : Nat, p < 5200 → gvP (V p)) (hrk : gRnk F rk)
    (hk : ∀ M2, gOff (gShR o) M M2 → gmEnv M2 o V → M2 o 66 = (gCn (gFo F) 5200 : Int) → M2 o 65 = (gCn (gCy F V) 5200 : Int) → M2 o 0 = 0 → M2 o 69 = (gCn (gQch V0 V) 5200 : Int) → (∀ p, p < 5200 → gQch V0 V p → M2 (o + 45) (gCn (gQch V0 V) p) = (p : Int)) → M2 o 70 = w32 (M o 70 + 1) → k (gCn (gQch V0 V) 5200 : Int) M2) : cI l G y_GM_show (gRm (d + 112)) true [gR G o] X M k := by
  refine e_GM_show (w_GM_show_0 (d := d + 111) hX (c_GM_remember hX (fun p hp => hE0.len hp) ?_))
  have r1 : ∀ a j, a ≠ o + 28 → a ≠ o + 29 → a ≠ o + 31 → a ≠ o + 33 → gmRem M o 5200 a j = M a j := fun a j h1 h2 h3 h4 => by
    unfold gmRem
    rw [if_neg (fun y => h1 y.1), if_neg (fun y => h3 y.1), if_neg (fun y => h2 y.1), if_neg (fun y => h4 y.1)]
  have w1 : ∀ p : Nat, p < 5200 → gmWs (gmRem M o 5200) o p (V0 p) := fun p hp => by
    obtain ⟨a1, a2, a3, a4, a5⟩ := hE0 p hp
    have hl := hE0.len hp
    refine ⟨?_, ?_, ?_, ?_⟩
    · unfold gmRem
      rw [if_pos ⟨rfl, hp⟩]; exact a2
    · unfold gmRem
      rw [if_neg (by omega), if_neg (by omega), if_pos ⟨rfl, hp⟩]; exact a3
    · unfold gmRem
      rw [if_neg (by omega), if_pos ⟨rfl, hp⟩]; exact a4
    · rw [a3] at hl
      refine Eq.trans (gBy_congr _ _ _ (fun j hj => ?_)) a5
      unfold gmRem
      rw [if_neg (by omega), if_neg (by omega), if_neg (by omega), if_pos ⟨rfl, by omega, by rw [show (64 * p + j) / 64 = p by omega, show (64 * p + j) % 64 = j by omega, a3]; omega⟩]
  have o1 : gOff (gShR o) M (gmRem M o 5200) := fun a j h => r1 a j (fun y => h (by unfold gShR; omega)) (fun y => h (by unfold gShR; omega)) (fun y => h (by unfold gShR; omega)) (fun y => h (by unfold gShR; omega))
  generalize gmRem M o 5200 = M1 at r1 w1 o1 ⊢
  rw [r1 _ _ (by omega) (by omega) (by omega) (by omega), h36]
  refine fun _ => c_GM_slot (by omega) (by omega) ?_
  rw [show (nw : Int) % 41 = (s : Int) by omega]
  refine r_evaluate (d := d) hX hO (hst.kp (fun i j h1 h2 => r1 _ _ (by omega) (by omega) (by omega) (by omega)) (fun j hj => r1 _ _ (by omega) (by omega) (by omega) (by omega))) hF hn hV hVp hrk (fun M2 o2 e2 f66 f65 => ?_)
  have hV0 : ∀ p : Nat, p < 5200 → gvP (V0 p) := fun p hp => (hE0 p hp).1
  have o12 : gOff (gShR o) M M2 := o1.tr (o2.mono (fun a k h => Or.inl h))
  have w2 : ∀ p : Nat, p < 5200 → gmWs M2 o p (V0 p) := fun p hp => by
    obtain ⟨a1, a2, a3, a4⟩ := w1 p hp
    refine ⟨?_, ?_, ?_, ?_⟩
    · rw [o2 _ _ (by unfold gEvR gmF; omega)]; exact a1
    · rw [o2 _ _ (by unfold gEvR gmF; omega)]; exact a2
    · rw [o2 _ _ (by unfold gEvR gmF; omega)]; exact a3
    · exact Eq.trans (gBy_congr _ _ _ (fun j hj => o2 _ _ (by unfold gEvR gmF; omega))) a4
  have f70 : M2 o 70 = M o 70 := (o2 _ _ (by unfold gEvR gmF; omega)).trans (r1 _ _ (by omega) (by omega) (by omega) (by omega))
  have clt : ∀ m, gCn (gQch V0 V) m ≤ m := by
    intro m
    induction m with
    | zero => exact Nat.le_refl _
    | succ m ih =>
      by_cases q : gQch V0 V m
      · rw [gCn_y q]; omega
      · rw [gCn_n q]; omega
  have key : ∀ (m p : Nat) (M3 : gM), p + m = 5200 → gOff (fun a j => a = o + 45 ∨ (a = o ∧ j = 69)) M2 M3 → M3 o 69 = (gCn (gQch V0 V) p : Int) → (∀ q, q < p → gQch V0 V q → M3 (o + 45) (gCn (gQch V0 V) q) = (q : Int)) → wp l G y_GM_show (gRm (d + 111 + 1)) true (kkI X k) true 22 [.val (gR G o), .val (gI (p : Int))] [] X M3 0 0 := by
    intro m
    induction m with
    | zero =>
      intro p M3 hp o3 h69 hc
      have e : p = 5200 := by omega
      subst e
      have g70 : M3 o 70 = M o 70 := (o3 _ _ (by omega)).trans f70
      refine w_GM_show_22 hX ⟨by omega, by omega⟩ ⟨fun _ _ => ?_, fun z => absurd (by decide) z⟩
      have t69 : gUp (gUp M3 o 70 (w32 (M3 o 70 + 1))) o 0 0 o 69 = (gCn (gQch V0 V) 5200 : Int) := by rw [gUp_k (by decide), gUp_k (by decide)]; exact h69
      rw [t69]
      refine fun _ => hk _ ?_ (fun r hr => ?_) ?_ ?_ (gUp_eq _ _ _ _) t69 (fun r hr hq => ?_) ?_
      · refine ((o12.tr (o3.mono (fun a j h => ?_))).up ?_).up ?_
        · unfold gShR; omega
        · unfold gShR; omega
        · unfold gShR; omega
      · have q3 : ∀ a j, a = 26 ∨ a = 27 ∨ a = 30 ∨ a = 32 → gUp (gUp M3 o 70 (w32 (M3 o 70 + 1))) o 0 0 (o + a) j = M2 (o + a) j := fun a j ha => by rw [gUp_a (by omega), gUp_a (by omega)]; exact o3 _ _ (by omega)
        obtain ⟨b1, b2, b3, b4, b5⟩ := e2 r hr
        refine ⟨b1, by rw [q3 26 _ (by omega)]; exact b2, by rw [q3 27 _ (by omega)]; exact b3, by rw [q3 30 _ (by omega)]; exact b4, ?_⟩
        exact Eq.trans (gBy_congr _ _ _ (fun j hj => q3 32 _ (by omega))) b5
      · rw [gUp_k (by decide), gUp_k (by decide), o3 _ _ (by omega)]; exact f66
      · rw [gUp_k (by decide), gUp_k (by decide), o3 _ _ (by omega)]; exact f65
      · rw [gUp_a (by omega), gUp_a (by omega)]; exact hc r hr hq
      · rw [gUp_k (by decide), gUp_eq, g70]
    | succ m ih =>
      intro p M3 hp o3 h69 hc
      have q3 : ∀ a j, a ≠ 45 → 1 ≤ a → M3 (o + a) j = M2 (o + a) j := fun a j ha h1 => o3 _ _ (by omega)
      have nx : w32 ((p : Int) + 1) = ((p + 1 : Nat) : Int) := (w32_id ⟨by omega, by omega⟩).trans (by omega)
      have hl := e2.len (p := p) (by omega)
      have cp := clt p
      have sm : gmSame M3 o (p : Int) ↔ V0 p = V p := by
        refine gmSame_iff (hV0 p (by omega)) (hVp p (by omega)) ?_ ?_
        · obtain ⟨a1, a2, a3, a4⟩ := w2 p (by omega)
          refine ⟨by rw [q3 28 _ (by decide) (by decide)]; exact a1, by rw [q3 29 _ (by decide) (by decide)]; exact a2, by rw [q3 31 _ (by decide) (by decide)]; exact a3, ?_⟩
          exact Eq.trans (gBy_congr _ _ _ (fun j hj => q3 33 _ (by decide) (by decide))) a4
        · obtain ⟨_, a1, a2, a3, a4⟩ := e2 p (by omega)
          refine ⟨by rw [q3 26 _ (by decide) (by decide)]; exact a1, by rw [q3 27 _ (by decide) (by decide)]; exact a2, by rw [q3 30 _ (by decide) (by decide)]; exact a3, ?_⟩
          exact Eq.trans (gBy_congr _ _ _ (fun j hj => q3 32 _ (by decide) (by decide))) a4
      refine w_GM_show_22 hX ⟨by omega, by omega⟩ ⟨fun z => absurd z (by omega), fun _ => c_GM_isChanged hX (by omega) (by rw [Int.toNat_natCast, q3 27 _ (by decide) (by decide)]; exact hl) (fun hs => ⟨fun y => absurd rfl y, fun _ => ?_⟩) (fun hs => ⟨fun _ => ?_, fun y => absurd y (by decide)⟩)⟩
      · have nq : ¬ gQch V0 V p := fun y => y (sm.mp hs)
        rw [nx]
        exact ih (p + 1) M3 (by omega) o3 (by rw [gCn_n nq]; exact h69) (fun q hq hc2 => by
          by_cases e : q = p
          · rw [e] at hc2; exact absurd hc2 nq
          · exact hc q (by omega) hc2)
      · have nq : gQch V0 V p := fun y => hs (sm.mpr y)
        simp (disch := decide) only [gUp_o, h69, Int.toNat_natCast]
        rw [nx, w32_id (x := (gCn (gQch V0 V) p : Int) + 1) ⟨by omega, by omega⟩]
        refine fun _ => ⟨⟨by omega, by omega⟩, fun _ => ih (p + 1) _ (by omega) ((o3.up (Or.inl rfl)).up (Or.inr ⟨rfl, rfl⟩)) (by rw [gUp_eq, gCn_y nq]; rfl) (fun q hq hc2 => ?_)⟩
        rw [gUp_a (by omega)]
        by_cases e : q = p
        · rw [e, gUp_eq]
        · rw [gUp_k (fun y => e (gCn_inj hc2 nq y))]
          exact hc q (by omega) hc2
  refine key 5200 0 (gUp M2 o 69 0) (by omega) ((gOff.rf _ _).up (Or.inr ⟨rfl, rfl⟩)) (by rw [gUp_eq]; rfl) (fun q hq => absurd hq (Nat.not_lt_zero _))
end geX
