/-! Counting places; the reference's states; what its formulas read. -/
noncomputable def gCn (Q : Nat → Prop) : Nat → Nat
  | 0 => 0
  | n + 1 => gCn Q n + @ite Nat (Q n) (Classical.propDecidable _) 1 0
section geO
variable {Q : Nat → Prop}
theorem gCn_y {n : Nat} (h : Q n) : gCn Q (n + 1) = gCn Q n + 1 := by
  show gCn Q n + _ = _
  rw [if_pos h]
theorem gCn_n {n : Nat} (h : ¬ Q n) : gCn Q (n + 1) = gCn Q n := by
  show gCn Q n + _ = _
  rw [if_neg h, Nat.add_zero]
theorem gCn_mono : ∀ (m n : Nat), gCn Q n ≤ gCn Q (n + m) := by
  intro m
  induction m with
  | zero => intro n; exact Nat.le_refl _
  | succ m ih =>
    intro n
    have h1 := ih n
    by_cases q : Q (n + m)
    · have := gCn_y q
      rw [show n + (m + 1) = n + m + 1 by omega]
      omega
    · have := gCn_n q
      rw [show n + (m + 1) = n + m + 1 by omega]
      omega
theorem gCn_le {m n : Nat} (h : m ≤ n) : gCn Q m ≤ gCn Q n := by
  have := gCn_mono (Q := Q) (n - m) m
  rw [show m + (n - m) = n by omega] at this
  exact this
theorem gCn_lt {p n : Nat} (h : p < n) (hp : Q p) : gCn Q p < gCn Q n := by
  have h1 := gCn_y hp
  have h2 := gCn_le (Q := Q) (show p + 1 ≤ n from h)
  omega
theorem gCn_inj {p q : Nat} (hp : Q p) (hq : Q q) (h : gCn Q p = gCn Q q) : p = q := by
  rcases Nat.lt_trichotomy p q with z | z | z
  · have := gCn_lt z hp; omega
  · exact z
  · have := gCn_lt z hq; omega
theorem gCn_ex : ∀ (n i : Nat), i < gCn Q n → ∃ p, p < n ∧ Q p ∧ gCn Q p = i := by
  intro n
  induction n with
  | zero => intro i h; exact absurd h (Nat.not_lt_zero _)
  | succ n ih =>
    intro i h
    by_cases q : Q n
    · rw [gCn_y q] at h
      by_cases e : i = gCn Q n
      · exact ⟨n, by omega, q, e.symm⟩
      · obtain ⟨p, p1, p2, p3⟩ := ih i (by omega)
        exact ⟨p, by omega, p2, p3⟩
    · rw [gCn_n q] at h
      obtain ⟨p, p1, p2, p3⟩ := ih i h
      exact ⟨p, by omega, p2, p3⟩
end geO
/-- form f of the reference is the formula S -/
def gFrm (M : gM) (o f : Nat) (S : List Int) : Prop := ∃ L R : Nat, gInm M o L S ∧ ((L + S.length : Nat) : Int) ≤ M o 2 ∧ f < 4200 ∧ (f : Int) < M o 13 ∧ M (o + 8) f = (R : Int) ∧ M (o + 9) f = ((gRefs S).length : Int) ∧ ((R + (gRefs S).length : Nat) : Int) ≤ M o 17 ∧ R + (gRefs S).length ≤ 45000 ∧ (∀ i, i < (gRefs S).length → M (o + 10) (R + i) = ((gRefs S).getD i (0, 0, 0)).1 ∧ M (o + 11) (R + i) = ((gRefs S).getD i (0, 0, 0)).2.1 ∧ M (o + 12) (R + i) = gCor S i) ∧ (gForm S = none → M (o + 7) f = -1) ∧ (∀ e rs, gForm S = some (e, rs) → ∃ (lo hi : Nat) (v : Int), M (o + 7) f = v ∧ gxNs M o L (L + S.length) lo hi e v ∧ (hi : Int) ≤ M o 9)
/-- slot s of the reference's states holds at p what a sheet has there -/
def gmCl (M : gM) (o s p : Nat) (x : Option (List Int × List Int)) : Prop := (x = none → M (o + 19) (s * 5200 + p) = 0) ∧ ∀ S tg, x = some (S, tg) → M (o + 19) (s * 5200 + p) = gSrt S ∧ (gSrt S = 1 → gNum S = some (M (o + 23) (s * 5200 + p))) ∧ (gSrt S = 2 → ∃ L : Nat, M (o + 20) (s * 5200 + p) = (L : Int) ∧ M (o + 21) (s * 5200 + p) = ((L + S.length : Nat) : Int) ∧ gInm M o L S ∧ ((L + S.length : Nat) : Int) ≤ M o 2) ∧ (gSrt S = 3 → ∃ f ra : Nat, M (o + 20) (s * 5200 + p) = (f : Int) ∧ gFrm M o f S ∧ M (o + 22) (s * 5200 + p) = (ra : Int) ∧ ((ra + tg.length : Nat) : Int) ≤ M (o + 25) s ∧ ∀ i, i < tg.length → M (o + 24) (s * 20800 + ra + i) = gTt tg i)
def gmSt (M : gM) (o s : Nat) (F : gSht) : Prop := s < 42 ∧ (∀ p, p < 5200 → gmCl M o s p (F p)) ∧ 0 ≤ M (o + 25) s ∧ M (o + 25) s ≤ 20750
def gFo (F : gSht) (p : Nat) : Prop := ∃ S tg, F p = some (S, tg) ∧ gSrt S = 3
def gRdM (M : gM) (o a i j : Nat) : Prop := gBt (M (o + a) (7 * i + j / 64)) (j % 64) = true
def gBiM (M M2 : gM) (o i : Nat) (Z : Nat → Prop) : Prop := gOff (fun x _ => x = o + 42) M M2 ∧ ∀ i2 j, j < 448 → (gRdM M2 o 42 i2 j ↔ gRdM M o 42 i2 j ∨ (i2 = i ∧ j < 400 ∧ ∃ q, Z q ∧ M (o + 41) q = (j : Int)))
section geP
variable {l : Launch} {G : gG} {d : Nat} {X : gX} {M M2 : gM} {o i : Nat} {Z Z2 : Nat → Prop}
theorem gBiM.rf : gBiM M M o i (fun _ => False) := ⟨gOff.rf _ _, fun i2 j _ => ⟨fun h => Or.inl h, fun h => h.elim id (fun h => h.2.2.elim (fun _ q => q.1.elim))⟩⟩
theorem gBiM.iff (h : gBiM M M2 o i Z) (e : ∀ q, Z q ↔ Z2 q) : gBiM M M2 o i Z2 := ⟨h.1, fun i2 j hj => by
  rw [h.2 i2 j hj]
  refine ⟨fun z => z.elim Or.inl (fun z => Or.inr ⟨z.1, z.2.1, ?_⟩), fun z => z.elim Or.inl (fun z => Or.inr ⟨z.1, z.2.1, ?_⟩)⟩
  · obtain ⟨q, q1, q2⟩ := z.2.2
    exact ⟨q, (e q).mp q1, q2⟩
  · obtain ⟨q, q1, q2⟩ := z.2.2
    exact ⟨q, (e q).mpr q1, q2⟩⟩
theorem gRdM_up {i j i2 j2 : Nat} (hi : j < 448) (hj : j2 < 448) : gRdM (gUp M (o + 42) (7 * i + j / 64) (gLor (M (o + 42) (7 * i + j / 64)) (gLshl 1 ((j % 64 : Nat) : Int)))) o 42 i2 j2 ↔ gRdM M o 42 i2 j2 ∨ (i2 = i ∧ j2 = j) := by
  unfold gRdM
  by_cases q : 7 * i2 + j2 / 64 = 7 * i + j / 64
  · have e1 : i2 = i := by omega
    have e2 : j2 / 64 = j / 64 := by omega
    rw [q, gUp_eq, gBt_or, gBt_shl (Nat.mod_lt _ (by decide)) (Nat.mod_lt _ (by decide)), Bool.or_eq_true, decide_eq_true_eq]
    constructor
    · rintro (z | z)
      · exact Or.inl z
      · exact Or.inr ⟨e1, by omega⟩
    · rintro (z | z)
      · exact Or.inl z
      · exact Or.inr (by rw [z.2])
  · rw [gUp_k q]
    constructor
    · exact fun z => Or.inl z
    · rintro (z | z)
      · exact z
      · exact absurd (by rw [z.1, z.2]) q
theorem gBiM.mark {p : Nat} {k : gM → Prop} (hX : gmX X o) (hi : i < 400) (hp : p < 5200) (h : gBiM M M2 o i Z) (hv : M (o + 41) p = -1 ∨ 0 ≤ M (o + 41) p ∧ M (o + 41) p < 400) (hk : ∀ M3, gBiM M M3 o i (fun q => Z q ∨ q = p) → k M3) : cV l G y_GM_reads (gRm d) true [gR G o, gI (i : Int), gI (p : Int)] X M2 k := by
  have e : M2 (o + 41) p = M (o + 41) p := h.1 _ _ (by omega)
  refine e_GM_reads (w_GM_reads_0 hX ⟨by omega, by omega⟩ ⟨by omega, by omega⟩ ⟨⟨by omega, by omega⟩, fun _ => ?_⟩)
  rw [Int.toNat_natCast, e]
  refine ⟨fun z => hk M2 ⟨h.1, fun i2 j hj => ?_⟩, fun z => ?_⟩
  · rw [h.2 i2 j hj]
    refine ⟨fun y => y.elim Or.inl (fun y => Or.inr ⟨y.1, y.2.1, ?_⟩), fun y => y.elim Or.inl (fun y => Or.inr ⟨y.1, y.2.1, ?_⟩)⟩
    · obtain ⟨q, q1, q2⟩ := y.2.2
      exact ⟨q, Or.inl q1, q2⟩
    · obtain ⟨q, q1, q2⟩ := y.2.2
      rcases q1 with q1 | q1
      · exact ⟨q, q1, q2⟩
      · rw [q1] at q2; omega
  · obtain ⟨j0, e0⟩ : ∃ j0 : Nat, M (o + 41) p = (j0 : Int) := ⟨(M (o + 41) p).toNat, by omega⟩
    rw [e0, gShr_6 (by omega), gAnd_63 (by omega), show (7 * (i : Int) + ((j0 / 64 : Nat) : Int)).toNat = 7 * i + j0 / 64 by omega]
    refine ⟨⟨by omega, by omega⟩, fun _ => ⟨⟨by omega, by omega⟩, hk _ ⟨h.1.up rfl, fun i2 j hj => ?_⟩⟩⟩
    rw [gRdM_up (by omega) hj, h.2 i2 j hj]
    constructor
    · rintro ((y | ⟨y1, y2, q, q1, q2⟩) | ⟨y1, y2⟩)
      · exact Or.inl y
      · exact Or.inr ⟨y1, y2, q, Or.inl q1, q2⟩
      · exact Or.inr ⟨y1, by omega, p, Or.inr rfl, by rw [y2]; omega⟩
    · rintro (y | ⟨y1, y2, q, q1 | q1, q2⟩)
      · exact Or.inl (Or.inl y)
      · exact Or.inl (Or.inr ⟨y1, y2, q, q1, q2⟩)
      · rw [q1] at q2
        exact Or.inr ⟨y1, by omega⟩
theorem r_readsBox {a b : Int} {x2 x3 : Int} {k : gM → Prop} (hX : gmX X o) (hi : i < 400) (hix : ∀ p, p < 5200 → M (o + 41) p = -1 ∨ 0 ≤ M (o + 41) p ∧ M (o + 41) p < 400) (g2 : g32 x2) (g3 : g32 x3) (ha : 0 ≤ a ∧ a < 5200) (hb : 0 ≤ b ∧ b < 5200) (h : gBiM M M2 o i Z) (hk : ∀ M3, gBiM M M3 o i (fun q => Z q ∨ gInB q a b) → wp l G y_GM_readsOf (gRm (d + 1 + 1)) true (kkV X k) true 9 [.val (gR G o), .val (gI (i : Int)), .val (gI x2), .val (gI (w32 (x3 + 1))), .unset, .unset, .unset, .unset, .unset] [] X M3 0 0) : wp l G y_GM_readsOf (gRm (d + 1 + 1)) true (kkV X k) true 107 [.val (gR G o), .val (gI (i : Int)), .val (gI x2), .val (gI x3), .val (gI a), .unset, .val (gI b), .val (gI (min (gmCo a 0) (gmCo b 0))), .unset] [] X M2 0 0 := by
  have ga : g32 a := ⟨by omega, by omega⟩
  have gb : g32 b := ⟨by omega, by omega⟩
  have gi : g32 (i : Int) := ⟨by omega, by omega⟩
  have c0 : ∀ x, gmCo x 0 = x / 26 := fun x => rfl
  have c1 : ∀ x, gmCo x 1 = x % 26 := fun x => rfl
  rw [c0, c0]
  obtain ⟨C, eC⟩ : ∃ C : Nat, min (a % 26) (b % 26) = (C : Int) := ⟨(min (a % 26) (b % 26)).toNat, by omega⟩
  obtain ⟨C2, eC2⟩ : ∃ C2 : Nat, max (a % 26) (b % 26) = (C2 : Int) := ⟨(max (a % 26) (b % 26)).toNat, by omega⟩
  obtain ⟨R, eR⟩ : ∃ R : Nat, min (a / 26) (b / 26) = (R : Int) := ⟨(min (a / 26) (b / 26)).toNat, by omega⟩
  obtain ⟨R2, eR2⟩ : ∃ R2 : Nat, max (a / 26) (b / 26) = (R2 : Int) := ⟨(max (a / 26) (b / 26)).toNat, by omega⟩
  have hk : ∀ M3, gBiM M M3 o i (fun q => Z q ∨ (C ≤ q % 26 ∧ q % 26 ≤ C2 ∧ R ≤ q / 26 ∧ q / 26 < R2 + 1)) → _ := fun M3 h3 => hk M3 (h3.iff (fun q => ⟨fun z => z.imp id (fun z => by unfold gInB; rw [eC, eC2, eR, eR2]; omega), fun z => z.imp id (fun z => by unfold gInB at z; rw [eC, eC2, eR, eR2] at z; omega)⟩))
  have c26 : C2 < 26 := by omega
  have r200 : R2 < 200 := by omega
  have cc : C ≤ C2 := by omega
  have rr : R ≤ R2 := by omega
  have hi1 : ∀ {kk : Int → gM → Prop} (M3 : gM), kk (R2 : Int) M3 → cI l G y_GM_high (gRm (d + 1)) false [gR G o, gI a, gI b, gI 0] X M3 kk := fun {kk} M3 hkk => c_GM_high hX ha hb (by decide) (by rw [c0, c0, eR2]; exact hkk)
  have hi2 : ∀ {kk : Int → gM → Prop} (M3 : gM), kk (C2 : Int) M3 → cI l G y_GM_high (gRm (d + 1)) false [gR G o, gI a, gI b, gI 1] X M3 kk := fun {kk} M3 hkk => c_GM_high hX ha hb (by decide) (by rw [c1, c1, eC2]; exact hkk)
  have lo2 : ∀ {kk : Int → gM → Prop} (M3 : gM), kk (C : Int) M3 → cI l G y_GM_low (gRm (d + 1)) false [gR G o, gI a, gI b, gI 1] X M3 kk := fun {kk} M3 hkk => c_GM_low hX ha hb (by decide) (by rw [c1, c1, eC]; exact hkk)
  rw [eR]
  clear eC eC2 eR eR2
  have rows : ∀ (m y : Nat) (M3 : gM), y + m = R2 + 1 → R ≤ y → gBiM M M3 o i (fun q => Z q ∨ (C ≤ q % 26 ∧ q % 26 ≤ C2 ∧ R ≤ q / 26 ∧ q / 26 < y)) → wp l G y_GM_readsOf (gRm (d + 1 + 1)) true (kkV X k) true 107 [.val (gR G o), .val (gI (i : Int)), .val (gI x2), .val (gI x3), .val (gI a), .unset, .val (gI b), .val (gI (y : Int)), .unset] [] X M3 0 0 := by
    intro m
    induction m with
    | zero =>
      intro y M3 hy hRy h3
      refine w_GM_readsOf_107 hX gi g2 g3 ga gb ⟨by omega, by omega⟩ (hi1 M3 ⟨fun _ => hk M3 (by rw [show R2 + 1 = y by omega]; exact h3), fun z => absurd (by omega) z⟩)
    | succ m ih =>
      intro y M3 hy hRy h3
      have cols : ∀ (u x : Nat) (M4 : gM), x + u = C2 + 1 → C ≤ x → gBiM M M4 o i (fun q => (Z q ∨ (C ≤ q % 26 ∧ q % 26 ≤ C2 ∧ R ≤ q / 26 ∧ q / 26 < y)) ∨ (q / 26 = y ∧ C ≤ q % 26 ∧ q % 26 < x)) → wp l G y_GM_readsOf (gRm (d + 1 + 1)) true (kkV X k) true 132 [.val (gR G o), .val (gI (i : Int)), .val (gI x2), .val (gI x3), .val (gI a), .unset, .val (gI b), .val (gI (y : Int)), .val (gI (x : Int))] [] X M4 0 0 := by
        intro u
        induction u with
        | zero =>
          intro x M4 hx hCx h4
          refine w_GM_readsOf_132 hX gi g2 g3 ga gb ⟨by omega, by omega⟩ ⟨by omega, by omega⟩ (hi2 M4 ⟨fun _ => ?_, fun z => absurd (by omega) z⟩)
          rw [w32_id (x := (y : Int) + 1) ⟨by omega, by omega⟩, show (y : Int) + 1 = ((y + 1 : Nat) : Int) by omega]
          exact ih (y + 1) M4 (by omega) (by omega) (h4.iff (fun q => by
            constructor
            · rintro ((z | z) | z)
              · exact Or.inl z
              · exact Or.inr (by omega)
              · exact Or.inr (by omega)
            · rintro (z | z)
              · exact Or.inl (Or.inl z)
              · by_cases e : q / 26 = y
                · exact Or.inr (by omega)
                · exact Or.inl (Or.inr (by omega))))
        | succ u ihu =>
          intro x M4 hx hCx h4
          refine w_GM_readsOf_132 hX gi g2 g3 ga gb ⟨by omega, by omega⟩ ⟨by omega, by omega⟩ (hi2 M4 ⟨fun z => absurd z (by omega), fun _ => ?_⟩)
          rw [show (x : Int) + 26 * (y : Int) = ((x + 26 * y : Nat) : Int) by omega, w32_id (x := (x : Int) + 1) ⟨by omega, by omega⟩, show (x : Int) + 1 = ((x + 1 : Nat) : Int) by omega]
          refine h4.mark hX hi (by omega) (hix _ (by omega)) (fun M5 h5 => ihu (x + 1) M5 (by omega) (by omega) (h5.iff (fun q => ?_)))
          constructor
          · rintro (((z | z) | z) | z)
            · exact Or.inl (Or.inl z)
            · exact Or.inl (Or.inr z)
            · exact Or.inr (by omega)
            · exact Or.inr (by omega)
          · rintro ((z | z) | z)
            · exact Or.inl (Or.inl (Or.inl z))
            · exact Or.inl (Or.inl (Or.inr z))
            · by_cases e : q = x + 26 * y
              · exact Or.inr e
              · exact Or.inl (Or.inr (by omega))
      refine w_GM_readsOf_107 hX gi g2 g3 ga gb ⟨by omega, by omega⟩ (hi1 M3 ⟨fun z => absurd z (by omega), fun _ => lo2 M3 ?_⟩)
      exact cols (C2 + 1 - C) C M3 (by omega) (Nat.le_refl _) (h3.iff (fun q => ⟨fun z => Or.inl z, fun z => z.elim id (fun z => by omega)⟩))
  exact rows (R2 + 1 - R) R M2 (by omega) (Nat.le_refl _) (h.iff (fun q => ⟨fun z => Or.inl z, fun z => z.elim id (fun z => by omega)⟩))
theorem gInB_1 {q : Nat} {a : Int} (ha : 0 ≤ a ∧ a < 5200) : gInB q a a ↔ a = (q : Int) := by
  unfold gInB
  omega
theorem r_readsOf {s p : Nat} {S tg : List Int} {k : gM → Prop} (hX : gmX X o) (hi : i < 400) (hs : M o 51 = (s : Int)) (hs2 : s < 42) (hl : M (o + 40) i = (p : Int)) (hp : p < 5200) (hcl : gmCl M o s p (some (S, tg))) (h3 : gSrt S = 3) (hok : gCok S tg) (hre : M (o + 25) s ≤ 20800) (hix : ∀ p, p < 5200 → M (o + 41) p = -1 ∨ 0 ≤ M (o + 41) p ∧ M (o + 41) p < 400) (h : gBiM M M2 o i Z) (hk : ∀ M3, gBiM M M3 o i (fun q => Z q ∨ gCov S tg q) → k M3) : cV l G y_GM_readsOf (gRm (d + 1 + 1)) true [gR G o, gI (i : Int)] X M2 k := by
  obtain ⟨f, ra, e20, ⟨L, R, _, _, f1, _, f8, f9, _, fR, fr, _, _⟩, e22, e25, e24⟩ := (hcl.2 S tg rfl).2.2.2 h3
  obtain ⟨_, _, _, hn, ht1, hc⟩ := hok
  have gi : g32 (i : Int) := ⟨by omega, by omega⟩
  have gp : g32 (p : Int) := ⟨by omega, by omega⟩
  have key : ∀ (m x : Nat) (M3 : gM), x + m = tg.length → gBiM M M3 o i (fun q => Z q ∨ ∃ k, k < x ∧ k < tg.length ∧ gTt tg k ≠ -1 ∧ ((gCor S k = 0 ∧ gTt tg k = (q : Int)) ∨ (gCor S k = 1 ∧ gInB q (gTt tg k) (gTt tg (k + 1))))) → wp l G y_GM_readsOf (gRm (d + 1 + 1)) true (kkV X k) true 9 [.val (gR G o), .val (gI (i : Int)), .val (gI (p : Int)), .val (gI (x : Int)), .unset, .unset, .unset, .unset, .unset] [] X M3 0 0 := by
    intro m
    induction m with
    | zero =>
      intro x M3 hx h3
      have sm : ∀ a j, a ≠ o + 42 → M3 a j = M a j := fun a j ha => h3.1 _ _ ha
      refine w_GM_readsOf_9 hX gi gp ⟨by omega, by omega⟩ fun _ => ?_
      rw [sm o 51 (by omega), hs, show ((s : Int) * 5200 + (p : Int)).toNat = s * 5200 + p by omega, sm (o + 20) _ (by omega), e20, Int.toNat_natCast, sm (o + 9) _ (by omega), f9]
      refine ⟨⟨by omega, by omega⟩, fun _ => ⟨⟨by omega, by omega⟩, fun _ => ⟨fun _ => hk M3 (h3.iff (fun q => ⟨fun z => z.imp id (fun ⟨k, _, k2⟩ => ⟨k, k2⟩), fun z => z.imp id (fun ⟨k, k2⟩ => ⟨k, by omega, k2⟩)⟩)), fun z => absurd (by omega) z⟩⟩⟩
    | succ m ih =>
      intro x M3 hx h3
      have sm : ∀ a j, a ≠ o + 42 → M3 a j = M a j := fun a j ha => h3.1 _ _ ha
      have t1 := ht1 x (by omega)
      -- the next one adds Y
      have add : ∀ (M4 : gM) (Y : Nat → Prop), (∀ q, Y q ↔ (gTt tg x ≠ -1 ∧ ((gCor S x = 0 ∧ gTt tg x = (q : Int)) ∨ (gCor S x = 1 ∧ gInB q (gTt tg x) (gTt tg (x + 1)))))) → gBiM M M4 o i (fun q => (Z q ∨ ∃ k, k < x ∧ k < tg.length ∧ gTt tg k ≠ -1 ∧ ((gCor S k = 0 ∧ gTt tg k = (q : Int)) ∨ (gCor S k = 1 ∧ gInB q (gTt tg k) (gTt tg (k + 1))))) ∨ Y q) → wp l G y_GM_readsOf (gRm (d + 1 + 1)) true (kkV X k) true 9 [.val (gR G o), .val (gI (i : Int)), .val (gI (p : Int)), .val (gI (w32 ((x : Int) + 1))), .unset, .unset, .unset, .unset, .unset] [] X M4 0 0 := by
        intro M4 Y hY h4
        rw [w32_id (x := (x : Int) + 1) ⟨by omega, by omega⟩, show (x : Int) + 1 = ((x + 1 : Nat) : Int) by omega]
        refine ih (x + 1) M4 (by omega) (h4.iff (fun q => ?_))
        rw [hY q]
        constructor
        · rintro ((z | ⟨k, k1, k2⟩) | z)
          · exact Or.inl z
          · exact Or.inr ⟨k, by omega, k2⟩
          · exact Or.inr ⟨x, by omega, by omega, z⟩
        · rintro (z | ⟨k, k1, k2⟩)
          · exact Or.inl (Or.inl z)
          · by_cases u : k = x
            · rw [u] at k2; exact Or.inr k2.2
            · exact Or.inl (Or.inr ⟨k, by omega, k2⟩)
      have skip : (∀ q : Nat, ¬ (gTt tg x ≠ -1 ∧ ((gCor S x = 0 ∧ gTt tg x = (q : Int)) ∨ (gCor S x = 1 ∧ gInB q (gTt tg x) (gTt tg (x + 1)))))) → wp l G y_GM_readsOf (gRm (d + 1 + 1)) true (kkV X k) true 9 [.val (gR G o), .val (gI (i : Int)), .val (gI (p : Int)), .val (gI (w32 ((x : Int) + 1))), .unset, .unset, .unset, .unset, .unset] [] X M3 0 0 := fun hq => add M3 (fun _ => False) (fun q => ⟨fun y => y.elim, fun y => hq q y⟩) (h3.iff (fun q => ⟨fun y => Or.inl y, fun y => y.elim id (fun y => y.elim)⟩))
      have e51 : M3 o 51 = (s : Int) := (sm o 51 (by omega)).trans hs
      have vra : ∀ j : Nat, gmRa M3 o (s : Int) (p : Int) (j : Int) = ((s * 20800 + ra + j : Nat) : Int) := fun j => by
        unfold gmRa
        rw [show ((s : Int) * 5200 + (p : Int)).toNat = s * 5200 + p by omega, sm (o + 22) _ (by omega), e22]
        omega
      have rf : ∀ (j : Nat) (xj : Int) {kk : Int → gM → Prop}, xj = (j : Int) → j < tg.length → kk (gTt tg j) M3 → cI l G y_GM_ref_2 (gRm (d + 1)) false [gR G o, gI (s : Int), gI (p : Int), gI xj] X M3 kk := fun j xj {kk} ej hj hkk => by
        rw [ej]
        refine c_GM_ref_2 hX (by omega) (by omega) ⟨by omega, by omega⟩ (by rw [vra]; omega) ?_
        rw [vra, Int.toNat_natCast, sm (o + 24) _ (by omega), e24 j hj]
        exact hkk
      have co : ∀ {kk : Int → gM → Prop}, kk (gCor S x) M3 → cI l G y_GM_corner (gRm (d + 1)) false [gR G o, gI (s : Int), gI (p : Int), gI (x : Int)] X M3 kk := fun {kk} hkk => by
        have ef : M3 (o + 20) ((s : Int) * 5200 + (p : Int)).toNat = (f : Int) := by rw [show ((s : Int) * 5200 + (p : Int)).toNat = s * 5200 + p by omega, sm (o + 20) _ (by omega)]; exact e20
        have eR : M3 (o + 8) f = (R : Int) := (sm (o + 8) _ (by omega)).trans f8
        refine c_GM_corner hX (by omega) (by omega) ⟨by omega, by omega⟩ (by rw [ef]; omega) (by rw [ef, Int.toNat_natCast, eR]; omega) ?_
        rw [ef, Int.toNat_natCast, eR, show ((R : Int) + (x : Int)).toNat = R + x by omega, sm (o + 12) _ (by omega), (fr x (by omega)).2.2]
        exact hkk
      refine w_GM_readsOf_9 hX gi gp ⟨by omega, by omega⟩ fun _ => ?_
      rw [e51, show ((s : Int) * 5200 + (p : Int)).toNat = s * 5200 + p by omega, sm (o + 20) _ (by omega), e20, Int.toNat_natCast, sm (o + 9) _ (by omega), f9]
      refine ⟨⟨by omega, by omega⟩, fun _ => ⟨⟨by omega, by omega⟩, fun _ => ⟨fun z => absurd z (by omega), fun _ _ => rf x _ rfl (by omega) (fun _ => ?_)⟩⟩⟩
      rw [e51]
      refine co ⟨fun z => skip (fun q y => y.1 (by omega)), fun z => ⟨fun z2 => ⟨fun z1 => ?_, fun z1 _ => ?_⟩, fun z2 => skip (fun q y => ?_)⟩⟩
      · have c0 : gCor S x = 0 := by
          rcases hc x (by omega) with y | y | y
          · exact y
          · exact absurd y.1 z1
          · exact absurd y.1 z2
        refine c_GM_low hX (by omega) (by omega) (by decide) ?_
        refine r_readsBox hX hi hix gp ⟨by omega, by omega⟩ (by omega) (by omega) h3 (fun M4 h4 => add M4 (fun q => gInB q (gTt tg x) (gTt tg x)) (fun q => ?_) h4)
        rw [gInB_1 (by omega)]
        constructor
        · intro y
          exact ⟨by omega, Or.inl ⟨c0, y⟩⟩
        · rintro ⟨_, y | y⟩
          · exact y.2
          · exact absurd y.1 z1
      · rw [e51]
        obtain ⟨c2, c3, c4⟩ : x + 1 < tg.length ∧ gCor S (x + 1) = 2 ∧ (gTt tg x = -1 ↔ gTt tg (x + 1) = -1) := by
          rcases hc x (by omega) with y | y | y
          · rw [z1] at y; exact absurd y (by decide)
          · exact y.2
          · rw [z1] at y; exact absurd y.1 (by decide)
        have t2 := ht1 (x + 1) c2
        have t3 : gTt tg (x + 1) ≠ -1 := fun y => by have := c4.mpr y; omega
        refine rf (x + 1) _ (by omega) c2 (c_GM_low hX (by omega) (by omega) (by decide) ?_)
        refine r_readsBox hX hi hix gp ⟨by omega, by omega⟩ (by omega) (by omega) h3 (fun M4 h4 => add M4 (fun q => gInB q (gTt tg x) (gTt tg (x + 1))) (fun q => ?_) h4)
        constructor
        · intro y
          exact ⟨by omega, Or.inr ⟨z1, y⟩⟩
        · rintro ⟨_, y | y⟩
          · rw [z1] at y; exact absurd y.1 (by decide)
          · exact y.2
      · rcases y.2 with y | y
        · rw [z2] at y; exact absurd y.1 (by decide)
        · rw [z2] at y; exact absurd y.1 (by decide)
  refine e_GM_readsOf (w_GM_readsOf_0 hX gi ⟨⟨by omega, by omega⟩, fun _ => ?_⟩)
  rw [Int.toNat_natCast, h.1 _ _ (by omega), hl]
  exact key tg.length 0 M2 (by omega) (h.iff (fun q => ⟨fun z => Or.inl z, fun z => z.elim id (fun ⟨k, k1, _⟩ => by omega)⟩))
end geP
