/-! The class's Values: contracts. -/
section gbV
variable {l : Launch} {G : gG} {d : Nat} {X : gX} {M : gM} {v n : Nat} {i j : Int} {w u : gVl}
theorem gv_i (hV : gvX X v n) (hi : 0 ≤ i ∧ i < (n : Int)) : g32 i := ⟨by omega, by have := hV.2.2.2.1; omega⟩
theorem c_Vl_set {s a : Int} {k : gM → Prop} (hV : gvX X v n) (hi : 0 ≤ i ∧ i < (n : Int)) (hs : g32 s) (ha : g64 a) (h : k (gVset M v i.toNat s a)) : cV l G y_Vl_set (gRm d) true [gR G v, gI i, gI s, gL a] X M k :=
  e_Vl_set (w_Vl_set_0 hV (gv_i hV hi) hs ha ⟨hi, hi, h⟩)
theorem c_Vl_setTruth {a : Int} {k : gM → Prop} (hV : gvX X v n) (hi : 0 ≤ i ∧ i < (n : Int)) (ha : 0 ≤ a ∧ a ≤ 1) (h : k (gVset M v i.toNat 3 a)) : cV l G y_Vl_setTruth (gRm (d + 1)) true [gR G v, gI i, gI a] X M k := by
  refine e_Vl_setTruth (w_Vl_setTruth_0 hV (gv_i hV hi) ha ⟨fun e => ?_, fun e => ?_⟩)
  · rw [e] at h
    exact c_Vl_set hV hi (g32_c (x := 3) rfl) (g64_c (x := 0) rfl) h
  · rw [show a = 1 by omega] at h
    exact c_Vl_set hV hi (g32_c (x := 3) rfl) (g64_c (x := 1) rfl) h
theorem c_Vl_setText {r n2 : Nat} {s a : Int} {k : gM → Prop} (hV : gvX X v n) (hi : 0 ≤ i ∧ i < (n : Int)) (hr : 1 ≤ r ∧ r ≤ X.1 ∧ X.2.1 r = (2, n2) ∧ n2 ≤ 2147483647) (hs : 0 ≤ s ∧ 0 ≤ a ∧ s + a ≤ (n2 : Int) ∧ a ≤ 64) (h : ∀ M2, gOff (gVs v i.toNat) M M2 → gvAt M2 v i.toNat ⟨2, a, gBy M r s.toNat a.toNat⟩ → k M2) : cV l G y_Vl_setText (gRm (d + 1)) true [gR G v, gI i, gR G r, gI s, gI a] X M k := by
  refine e_Vl_setText (w_Vl_setText_0 hV (gv_i hV hi) hr ⟨by omega, by omega⟩ ⟨by omega, by omega⟩ ⟨hi, ⟨by omega, by omega, by omega, by omega, by omega⟩, c_Vl_set hV hi (g32_c (x := 2) rfl) ⟨by omega, by omega⟩ (h _ ?_ ⟨?_, ?_, ?_⟩)⟩)
  · exact (((gOff.rf _ M).cp (fun q _ _ => Or.inr (Or.inr rfl))).up (Or.inl ⟨rfl, rfl⟩)).up (Or.inr (Or.inl ⟨rfl, rfl⟩))
  · unfold gVset; simp (disch := omega) only [gUp_eq, gUp_a, gUp_k, gCp_a, gCp_out, gFl_a, gFl_out]
  · unfold gVset; simp (disch := omega) only [gUp_eq, gUp_a, gUp_k, gCp_a, gCp_out, gFl_a, gFl_out]
  · refine gBy_of _ _ (fun q hq => ?_)
    rw [gBy_len] at hq
    unfold gVset
    rw [gUp_a (by omega), gUp_a (by omega), show (Int.toNat 0) = 0 from rfl, gCp_in (by omega) (by omega), gBy_getD hq]
    congr 1
    omega
/-- two Values that share no cell -/
def gvDj (v n r m : Nat) : Prop := v + 4 + n ≤ r ∨ r + 4 + m ≤ v
theorem c_Vl_setFrom {r m : Nat} {k : gM → Prop} (hV : gvX X v n) (hi : 0 ≤ i ∧ i < (n : Int)) (hR : gvX X r m) (hj : 0 ≤ j ∧ j < (m : Int)) (hd : gvDj v n r m) (hw : gvAt M r j.toNat w) (ok : gvOk w) (h : ∀ M2, gOff (gVs v i.toNat) M M2 → gvAt M2 v i.toNat w → k M2) : cV l G y_Vl_setFrom (gRm (d + 1)) true [gR G v, gI i, gR G r, gI j] X M k := by
  obtain ⟨h1, h2, h3⟩ := hw
  have ti : i.toNat < n := by omega
  have tj : j.toNat < m := by omega
  refine e_Vl_setFrom (w_Vl_setFrom_0 hV (gv_i hV hi) hR (gv_i hR hj) ?_)
  unfold gvDj at hd
  simp (disch := omega) only [gUp_eq, gUp_a, h1, h2]
  refine ⟨hj, fun _ => ⟨hi, hj, fun _ => ⟨hi, hi, fun _ => ⟨fun e => ?_, fun e => ⟨hj, hi, hi, fun _ => ?_⟩⟩⟩⟩⟩
  · refine h _ (gVset_off _ _ _ _ _) ?_
    have := gVset_at M v i.toNat w.kd w.nm
    have e2 := ok.2.2.2.2.1 e
    refine ⟨this.1, this.2.1, ?_⟩
    rw [e2]
    rfl
  · obtain ⟨e1, e2⟩ := ok.2.2.2.1 e
    refine ⟨⟨by omega, by omega, by omega, by omega, by omega⟩, h _ ?_ ⟨?_, ?_, ?_⟩⟩
    · exact (gVset_off _ _ _ _ _).cp (fun q _ _ => Or.inr (Or.inr rfl))
    · simp (disch := omega) only [gUp_eq, gUp_a, gUp_k, gCp_a, gCp_out, gFl_a, gFl_out]
    · simp (disch := omega) only [gUp_eq, gUp_a, gUp_k, gCp_a, gCp_out, gFl_a, gFl_out]
    · refine gBy_of _ _ (fun q hq => ?_)
      rw [show (Int.toNat 0) = 0 from rfl, gCp_in (by omega) (by omega), gUp_a (by omega), gUp_a (by omega)]
      have := gBy_at h3 hq
      rw [show 0 + (0 + q - 0) = 0 + q by omega]
      exact this
theorem c_jLong_compare {x y : Int} {k : Int → gM → Prop} (hx : g64 x) (hy : g64 y) (h : k (gOrd x y) M) : cI l G y_jLong_compare (gRm d) false [gL x, gL y] X M k := by
  refine e_jLong_compare (w_jLong_compare_0 hx hy ?_)
  unfold gOrd at h
  grind
theorem c_Vl_compare {r m : Nat} {k : Int → gM → Prop} (hV : gvX X v n) (hi : 0 ≤ i ∧ i < (n : Int)) (hR : gvX X r m) (hj : 0 ≤ j ∧ j < (m : Int)) (hw : gvAt M v i.toNat w) (ow : gvOk w) (hu : gvAt M r j.toNat u) (ou : gvOk u) (h : ∀ z, gSg z = gVc w u → k z M) : cI l G y_Vl_compare (gRm (d + 1)) false [gR G v, gI i, gR G r, gI j] X M k := by
  have gi := gv_i hV hi
  have gj := gv_i hR hj
  have l1 := ow.tx64
  have l2 := ou.tx64
  obtain ⟨a1, a2, a3⟩ := hw
  obtain ⟨b1, b2, b3⟩ := hu
  have key : ∀ (p q s : Nat), s + p = w.tx.length → s + q = u.tx.length → w.nm = (w.tx.length : Int) → u.nm = (u.tx.length : Int) → (∀ z, gSg z = gLex (gBy M (v + 4 + i.toNat) s p) (gBy M (r + 4 + j.toNat) s q) → k z M) →
      wp l G y_Vl_compare (gRm (d + 1)) false (kkI X k) false 87 [.val (gR G v), .val (gI i), .val (gR G r), .val (gI j), .unset, .unset, .val (gL (min w.nm u.nm)), .unset, .val (gI (s : Int))] [] X M 0 0 := by
    intro p
    induction p with
    | zero =>
      intro q s h1 h2 n1 n2 hk
      refine w_Vl_compare_87 hV gi gj ⟨by omega, by omega⟩ ⟨by omega, by omega⟩ hR ⟨fun _ => ⟨hi, fun g1 => ⟨hj, fun g2 => c_jLong_compare g1 g2 (hk _ ?_)⟩⟩, fun e => absurd (by omega) e⟩
      rw [gSg_ord, a2, b2, n1, n2]
      cases q with
      | zero => unfold gOrd gBy gLex; rw [if_neg (by omega), if_neg (by omega)]
      | succ q => unfold gOrd gBy gLex; rw [if_pos (by omega)]
    | succ p ih =>
      intro q s h1 h2 n1 n2 hk
      cases q with
      | zero =>
        refine w_Vl_compare_87 hV gi gj ⟨by omega, by omega⟩ ⟨by omega, by omega⟩ hR ⟨fun _ => ⟨hi, fun g1 => ⟨hj, fun g2 => c_jLong_compare g1 g2 (hk _ ?_)⟩⟩, fun e => absurd (by omega) e⟩
        rw [gSg_ord, a2, b2, n1, n2]
        unfold gOrd gBy gLex
        rw [if_neg (by omega), if_pos (by omega)]
      | succ q =>
        rw [show gBy M (v + 4 + i.toNat) s (p + 1) = M (v + 4 + i.toNat) s :: gBy M (v + 4 + i.toNat) (s + 1) p from rfl, show gBy M (r + 4 + j.toNat) s (q + 1) = M (r + 4 + j.toNat) s :: gBy M (r + 4 + j.toNat) (s + 1) q from rfl] at hk
        unfold gLex at hk
        have bs : (0 : Int) ≤ (s : Int) ∧ (s : Int) < 64 := ⟨by omega, by omega⟩
        refine w_Vl_compare_87 hV gi gj ⟨by omega, by omega⟩ ⟨by omega, by omega⟩ hR ⟨fun e => absurd e (by omega), fun _ => ⟨hi, bs, ?_⟩⟩
        rw [Int.toNat_natCast]
        refine fun _ => ⟨hj, bs, fun _ => ⟨fun e => ?_, fun e => ⟨hi, bs, fun c1 => ⟨hj, bs, fun c2 => hk _ ?_⟩⟩⟩⟩
        · rw [gI_w]
          refine ih q (s + 1) (by omega) (by omega) n1 n2 (fun z hz => hk z ?_)
          rw [if_pos e]
          exact hz
        · rw [w32_id ⟨by omega, by omega⟩, gSg_sub, if_neg e]
          unfold gOrd
          split
          · rfl
          · rw [if_pos (by omega)]
  have NUM : gOrd w.nm u.nm = gVc w u → cI l G y_jLong_compare (gRm d) false [gL w.nm, gL u.nm] X M (fun v8 M7 => (k v8 M7)) := fun e => c_jLong_compare ow.2.2.1 ou.2.2.1 (h _ (by rw [gSg_ord]; exact e))
  have TXT : (w.kd = 2 ∨ w.kd = 0) → (u.kd = 2 ∨ u.kd = 0) → (w.kd = 2 ∨ u.kd = 2) → cL l G y_jMath_min_2 (gRm d) false [gL w.nm, gL u.nm] X M (fun v13 M12 => (wp l G y_Vl_compare (gRm (d + 1)) false (kkI X k) false 87 [.val (gR G v), .val (gI i), .val (gR G r), .val (gI j), .unset, .unset, .val (gL v13), .unset, .val (gI 0)] [] X M12 0 0)) := by
    intro e1 e2 e3
    have n1 : w.nm = (w.tx.length : Int) := by
      rcases e1 with e | e
      · exact (ow.2.2.2.1 e).1
      · rw [ow.2.2.2.2.2.1 e, ow.2.2.2.2.1 (by omega)]; rfl
    have n2 : u.nm = (u.tx.length : Int) := by
      rcases e2 with e | e
      · exact (ou.2.2.2.1 e).1
      · rw [ou.2.2.2.2.2.1 e, ou.2.2.2.2.1 (by omega)]; rfl
    refine c_minL ow.2.2.1 ou.2.2.1 ?_
    refine key w.tx.length u.tx.length 0 (by omega) (by omega) n1 n2 (fun z hz => h z ?_)
    rw [hz, a3, b3]
    unfold gVc
    rw [if_neg (by omega), if_pos e3]
  refine e_Vl_compare (w_Vl_compare_0 hV gi hR gj ?_)
  simp only [a1, a2, b1, b2]
  have KD : w.kd ≠ 0 → u.kd ≠ 0 → w.kd ≠ u.kd → k (w32 (w.kd - u.kd)) M := fun e1 e2 e3 => h _ (by
    have q1 := ow.1; have q2 := ow.2.1; have q3 := ou.1; have q4 := ou.2.1
    rw [w32_id ⟨by omega, by omega⟩, gSg_sub]
    unfold gVc
    rw [if_pos ⟨e1, e2, e3⟩])
  have KN : ¬ (w.kd ≠ 0 ∧ u.kd ≠ 0 ∧ w.kd ≠ u.kd) → ¬ (w.kd = 2 ∨ u.kd = 2) → gOrd w.nm u.nm = gVc w u := fun e1 e2 => by unfold gVc; rw [if_neg e1, if_neg e2]
  (repeat' with_reducible first | (refine And.intro ?_ ?_) | intro _)
  all_goals first | omega | exact absurd trivial ‹¬ True› | contradiction | exact KD (by omega) (by omega) (by omega) | exact NUM (KN (by omega) (by omega)) | exact TXT (by omega) (by omega) (by omega)
theorem gVc_0 (hw : gvOk w) (hu : gvOk u) (h : w.kd = u.kd) (h2 : w.nm = u.nm) : gVc w u = 0 ↔ w = u := by
  have lex : ∀ a b : List Int, gLex a b = 0 ↔ a = b := by
    intro a
    induction a with
    | nil => intro b; cases b <;> unfold gLex <;> simp
    | cons x a ih =>
      intro b
      cases b with
      | nil => unfold gLex; simp
      | cons y b =>
        unfold gLex
        have := ih b
        by_cases e : x = y
        · rw [if_pos e, this]; simp [e]
        · rw [if_neg e]
          split <;> simp [e]
  have e0 : w = u ↔ w.tx = u.tx := by
    obtain ⟨a, b, c⟩ := w
    obtain ⟨a', b', c'⟩ := u
    dsimp only [gVl.kd, gVl.nm] at h h2
    subst h; subst h2
    simp
  unfold gVc
  rw [if_neg (fun q => q.2.2 h), e0]
  by_cases e : w.kd = 2
  · rw [if_pos (Or.inl e), lex]
  · rw [if_neg (by omega), h2, hw.2.2.2.2.1 e, hu.2.2.2.2.1 (by omega)]
    unfold gOrd
    simp
theorem c_Vl_same {r m : Nat} {k : Int → gM → Prop} (hV : gvX X v n) (hi : 0 ≤ i ∧ i < (n : Int)) (hR : gvX X r m) (hj : 0 ≤ j ∧ j < (m : Int)) (hw : gvAt M v i.toNat w) (ow : gvOk w) (hu : gvAt M r j.toNat u) (ou : gvOk u) (h1 : w = u → k 1 M) (h0 : w ≠ u → k 0 M) : cZ l G y_Vl_same (gRm (d + 1 + 1)) false [gR G v, gI i, gR G r, gI j] X M k := by
  have c := fun (K : Int → gM → Prop) => c_Vl_compare (l := l) (G := G) (d := d) (k := K) hV hi hR hj hw ow hu ou
  refine e_Vl_same (w_Vl_same_0 hV (gv_i hV hi) hR (gv_i hR hj) ?_)
  simp only [hw.1, hw.2.1, hu.1, hu.2.1]
  refine ⟨hi, fun _ => ⟨hj, fun _ => ⟨fun e => h0 (fun q => e (by rw [q])), fun e => ⟨hi, fun _ => ⟨hj, fun _ => ⟨fun e2 => h0 (fun q => e2 (by rw [q])), fun e2 => c _ (fun z hz => ⟨fun e3 => h0 (fun q => ?_), fun e3 => h1 ?_⟩)⟩⟩⟩⟩⟩⟩
  · have := (gVc_0 ow ou e e2).mpr q
    rw [this] at hz
    unfold gSg at hz
    split at hz
    · cases hz
    · split at hz
      · cases hz
      · omega
  · rw [e3] at hz
    exact (gVc_0 ow ou e e2).mp hz.symm
theorem c_Vl_plusFits {x y : Int} {k : Int → gM → Prop} (hx : g64 x) (hy : g64 y) (h1 : g64 (x + y) → k 1 M) (h0 : ¬ g64 (x + y) → k 0 M) : cZ l G y_Vl_plusFits (gRm d) false [gL x, gL y] X M k := by
  refine e_Vl_plusFits (w_Vl_plusFits_0 hx hy ?_)
  have e : ∀ a : Int, gLxor a (x + y) = gLxor a (w64 (x + y)) := fun a => by
    unfold gLxor
    rw [show Int64.ofInt (w64 (x + y)) = Int64.ofInt (x + y) from Int64.ofInt_toInt _]
  rw [e, e]
  have m := gSum_neg hx hy
  exact ⟨fun f => h0 (m.mp f), fun f => h1 (Classical.not_not.mp fun q => f (m.mpr q))⟩
theorem c_Vl_timesFits {x y : Int} {k : Int → gM → Prop} (hx : g64 x) (hy : g64 y) (h1 : g64 (x * y) → k 1 M) (h0 : ¬ g64 (x * y) → k 0 M) : cZ l G y_Vl_timesFits (gRm d) false [gL x, gL y] X M k := by
  refine e_Vl_timesFits (w_Vl_timesFits_0 hx hy ⟨fun e => ⟨fun e2 => ⟨e, ?_⟩, fun e2 => ⟨fun e3 => h0 ?_, fun e3 => h1 ?_⟩⟩, fun e => h1 ?_⟩)
  · have m := gMul_eq hy hx e (fun q => e2 q.1)
    rw [Int.mul_comm y x] at m
    exact ⟨fun f => h0 (fun q => f (m.mpr q)), fun f => h1 (m.mp f)⟩
  · rw [e2, e3]; unfold g64; decide
  · rw [e2]; unfold g64 at *; omega
  · rw [e, Int.mul_zero]; unfold g64; decide
theorem c_Vl_isNumber {r n2 : Nat} {a b : Int} {k : Int → gM → Prop} (hr : 1 ≤ r ∧ r ≤ X.1 ∧ X.2.1 r = (2, n2) ∧ n2 ≤ 2147483647) (ha : 0 ≤ a ∧ a ≤ b) (hb : b ≤ (n2 : Int) ∧ b < 1000000) (h0 : gNum (gBy M r a.toNat (b - a).toNat) = none → k 0 M) (h1 : ∀ z, gNum (gBy M r a.toNat (b - a).toNat) = some z → k 1 M) : cZ l G y_Vl_isNumber (gRm d) false [gR G r, gI a, gI b] X M k := by
  have gb : g32 b := ⟨by omega, by omega⟩
  have key : ∀ (f : Int) (lo : Int), g32 f → (lo = -9223372036854775808 ∨ lo = -9223372036854775807) → ∀ (n q : Nat) (v : Int), (q : Int) + n = b → v ≤ 0 ∧ lo ≤ v → (f < b → gNumB lo (gBy M r q n) v = none → k 0 M) → (f < b → ∀ z, gNumB lo (gBy M r q n) v = some z → k 1 M) → (¬ f < b → k 0 M) → f ≤ (q : Int) →
      wp l G y_Vl_isNumber (gRm d) false (kkZ X k) false 54 [.val (gR G r), .unset, .val (gI b), .unset, .val (gI f), .val (gL lo), .unset, .val (gL v), .unset, .val (gI (q : Int)), .unset] [] X M 0 0 := by
    intro f lo gf hlo n
    have glo : g64 lo := ⟨by omega, by omega⟩
    induction n with
    | zero =>
      intro q v hq hv f0 f1 f2 hf
      refine w_Vl_isNumber_54 gb gf glo ⟨by omega, by omega⟩ ⟨by omega, by omega⟩ hr ⟨fun _ => ⟨fun e => f2 (by omega), fun e => f1 (by omega) v rfl⟩, fun e => absurd (by omega) e⟩
    | succ n ih =>
      intro q v hq hv f0 f1 f2 hf
      rw [show gBy M r q (n + 1) = M r q :: gBy M r (q + 1) n from rfl] at f0 f1
      unfold gNumB at f0 f1
      refine w_Vl_isNumber_54 gb gf glo ⟨by omega, by omega⟩ ⟨by omega, by omega⟩ hr ⟨fun e => absurd e (by omega), fun _ => ⟨⟨by omega, by omega⟩, ?_⟩⟩
      rw [Int.toNat_natCast]
      intro hbt
      have e1 : w32 (M r q - 48) = M r q - 48 := w32_id ⟨by omega, by omega⟩
      rw [e1]
      have lt : f < b := by omega
      refine ⟨fun e => f0 lt (if_neg (by omega)), fun e => ⟨fun e2 => f0 lt (if_neg (by omega)), fun e2 => ?_⟩⟩
      rw [if_pos ⟨by omega, by omega⟩] at f0 f1
      have e2 : w64 (lo + (M r q - 48)) = lo + (M r q - 48) := w64_id ⟨by omega, by omega⟩
      have e3 : g64 ((lo + (M r q - 48)).tdiv 10) := g64_tdiv ⟨by omega, by omega⟩ (by omega)
      have e4 : (lo + (M r q - 48)).tdiv 10 = -((-(lo + (M r q - 48))) / 10) := by
        rw [show lo + (M r q - 48) = -(-(lo + (M r q - 48))) by omega, Int.neg_tdiv, Int.tdiv_eq_ediv_of_nonneg (by omega)]
        rw [Int.neg_neg]
      rw [e2, w64_id e3, e4]
      refine ⟨fun c => ?_, fun c => f0 lt (if_pos (by omega))⟩
      rw [if_neg (by omega)] at f0 f1
      have e5 : w64 (v * 10 - (M r q - 48)) = v * 10 - (M r q - 48) := w64_id ⟨by omega, by omega⟩
      rw [gI_w, e5]
      exact ih (q + 1) (v * 10 - (M r q - 48)) (by omega) ⟨by omega, by omega⟩ f0 f1 f2 (by omega)
  have ga : g32 a := ⟨by omega, by omega⟩
  have P : (a < b → M r a.toNat ≠ 45) → wp l G y_Vl_isNumber (gRm d) false (kkZ X k) false 54 [.val (gR G r), .unset, .val (gI b), .unset, .val (gI a), .val (gL (-9223372036854775807)), .unset, .val (gL 0), .unset, .val (gI a), .unset] [] X M 0 0 := by
    intro hm
    have kk := key a (-9223372036854775807) ga (Or.inr rfl) (b - a).toNat a.toNat 0 (by omega) ⟨by decide, by decide⟩
    rw [show ((a.toNat : Nat) : Int) = a by omega] at kk
    by_cases lt : a < b
    · obtain ⟨m, hm2⟩ : ∃ m, (b - a).toNat = m + 1 := ⟨(b - a).toNat - 1, by omega⟩
      rw [hm2] at h0 h1 kk
      have eN : gNum (gBy M r a.toNat (m + 1)) = (match gNumA (gBy M r a.toNat (m + 1)) 0 with | some v => if v = -9223372036854775808 then none else some (-v) | none => none) := if_neg (hm lt)
      have eB := gNumB_max (gBy M r a.toNat (m + 1)) 0 ⟨by decide, by decide⟩
      rw [eB] at kk
      rw [eN] at h0 h1
      refine kk (fun _ hN => ?_) (fun _ z hN => ?_) (fun e => absurd lt e) (Int.le_refl _)
      · cases hA : gNumA (gBy M r a.toNat (m + 1)) 0 with
        | none => rw [hA] at h0; exact h0 rfl
        | some z =>
          rw [hA] at h0 hN
          dsimp only at h0 hN
          by_cases ez : z = -9223372036854775808
          · rw [if_pos ez] at h0; exact h0 rfl
          · rw [if_neg ez] at hN; cases hN
      · cases hA : gNumA (gBy M r a.toNat (m + 1)) 0 with
        | none => rw [hA] at hN; cases hN
        | some y =>
          rw [hA] at h1 hN
          dsimp only at h1 hN
          by_cases ez : y = -9223372036854775808
          · rw [if_pos ez] at hN; cases hN
          · exact h1 (-y) (if_neg ez)
    · have e0 : (b - a).toNat = 0 := by omega
      rw [e0] at h0
      exact kk (fun e => absurd e lt) (fun e => absurd e lt) (fun _ => h0 rfl) (Int.le_refl _)
  refine e_Vl_isNumber (w_Vl_isNumber_0 hr ga gb ⟨fun c => ⟨fun _ => ⟨fun _ => P (fun q => absurd q (by omega)), fun e => absurd rfl e⟩, fun e => absurd rfl e⟩, fun c => ⟨⟨by omega, by omega⟩, fun hbt => ⟨fun e => ⟨fun _ => ⟨fun _ => P (fun _ => e), fun f => absurd rfl f⟩, fun f => absurd rfl f⟩, fun e => ⟨fun f => absurd f (by decide), fun _ => ⟨fun f => absurd f (by decide), fun _ => ?_⟩⟩⟩⟩⟩)
  obtain ⟨m, hm2⟩ : ∃ m, (b - a).toNat = m + 1 := ⟨(b - a).toNat - 1, by omega⟩
  rw [hm2] at h0 h1
  have eN : gNum (gBy M r a.toNat (m + 1)) = (if gBy M r (a.toNat + 1) m = [] then none else gNumA (gBy M r (a.toNat + 1) m) 0) := if_pos e
  rw [eN] at h0 h1
  rw [w32_id ⟨by omega, by omega⟩]
  have kk := key (a + 1) (-9223372036854775808) ⟨by omega, by omega⟩ (Or.inl rfl) m (a.toNat + 1) 0 (by omega) ⟨by decide, by decide⟩
  rw [show ((a.toNat + 1 : Nat) : Int) = a + 1 by omega, gNumB_min] at kk
  refine kk (fun lt hN => ?_) (fun lt z hN => ?_) (fun e => ?_) (Int.le_refl _)
  · obtain ⟨m2, hm3⟩ : ∃ m2, m = m2 + 1 := ⟨m - 1, by omega⟩
    rw [hm3, if_neg (by intro q; cases q)] at h0
    rw [hm3] at hN
    exact h0 hN
  · obtain ⟨m2, hm3⟩ : ∃ m2, m = m2 + 1 := ⟨m - 1, by omega⟩
    rw [hm3, if_neg (by intro q; cases q)] at h1
    rw [hm3] at hN
    exact h1 z hN
  · have e0 : m = 0 := by omega
    rw [e0] at h0
    exact h0 rfl
theorem c_Vl_numberIn {r n2 : Nat} {a b z : Int} {k : Int → gM → Prop} (hr : 1 ≤ r ∧ r ≤ X.1 ∧ X.2.1 r = (2, n2) ∧ n2 ≤ 2147483647) (ha : 0 ≤ a ∧ a ≤ b) (hb : b ≤ (n2 : Int) ∧ b < 1000000) (hz : gNum (gBy M r a.toNat (b - a).toNat) = some z) (h : k z M) : cL l G y_Vl_numberIn (gRm d) false [gR G r, gI a, gI b] X M k := by
  have gb : g32 b := ⟨by omega, by omega⟩
  have key : ∀ (mi : Int), g32 mi → ∀ (n q : Nat) (v y : Int), (q : Int) + n = b → v ≤ 0 ∧ g64 v → gNumA (gBy M r q n) v = some y → (mi = 0 → k (w64 (-y)) M) → (¬ mi = 0 → k y M) →
      wp l G y_Vl_numberIn (gRm d) false (kkL X k) false 35 [.val (gR G r), .unset, .val (gI b), .val (gI mi), .val (gL v), .unset, .val (gI (q : Int))] [] X M 0 0 := by
    intro mi gm n
    induction n with
    | zero =>
      intro q v y hq hv hy f0 f1
      cases hy
      exact w_Vl_numberIn_35 gb gm hv.2 ⟨by omega, by omega⟩ hr ⟨fun _ => ⟨f0, f1⟩, fun e => absurd (by omega) e⟩
    | succ n ih =>
      intro q v y hq hv hy f0 f1
      rw [show gBy M r q (n + 1) = M r q :: gBy M r (q + 1) n from rfl] at hy
      unfold gNumA at hy
      refine w_Vl_numberIn_35 gb gm hv.2 ⟨by omega, by omega⟩ hr ⟨fun e => absurd e (by omega), fun _ => ⟨⟨by omega, by omega⟩, ?_⟩⟩
      rw [Int.toNat_natCast]
      intro hbt
      by_cases c1 : 48 ≤ M r q ∧ M r q ≤ 57
      · rw [if_pos c1] at hy
        by_cases c2 : v * 10 - (M r q - 48) < -9223372036854775808
        · rw [if_pos c2] at hy; cases hy
        · rw [if_neg c2] at hy
          have hv2 := hv.2
          have e5 : g64 (v * 10 - (M r q - 48)) := ⟨by omega, by unfold g64 at hv2; omega⟩
          rw [w32_id (x := M r q - 48) ⟨by omega, by omega⟩, gI_w, w64_id e5]
          exact ih (q + 1) _ y (by omega) ⟨by omega, e5⟩ hy f0 f1
      · rw [if_neg c1] at hy; cases hy
  have ga : g32 a := ⟨by omega, by omega⟩
  have lt : a < b := by
    apply Classical.byContradiction
    intro q
    rw [show (b - a).toNat = 0 by omega] at hz
    cases hz
  obtain ⟨m, hm2⟩ : ∃ m, (b - a).toNat = m + 1 := ⟨(b - a).toNat - 1, by omega⟩
  rw [hm2] at hz
  refine e_Vl_numberIn (w_Vl_numberIn_0 hr ga gb ⟨fun c => absurd c (by omega), fun c => ⟨⟨by omega, by omega⟩, fun hbt => ⟨fun e => ⟨fun _ => ?_, fun f => absurd rfl f⟩, fun e => ⟨fun f => absurd f (by decide), fun _ => ?_⟩⟩⟩⟩)
  · have eN : gNum (gBy M r a.toNat (m + 1)) = (match gNumA (gBy M r a.toNat (m + 1)) 0 with | some v => if v = -9223372036854775808 then none else some (-v) | none => none) := if_neg e
    rw [eN] at hz
    cases hA : gNumA (gBy M r a.toNat (m + 1)) 0 with
    | none => rw [hA] at hz; cases hz
    | some y =>
      rw [hA] at hz
      dsimp only at hz
      have yb := gNumA_le _ _ _ hA ⟨by decide, ⟨by decide, by decide⟩⟩
      by_cases ez : y = -9223372036854775808
      · rw [if_pos ez] at hz; cases hz
      · rw [if_neg ez] at hz
        cases hz
        have kk := key 0 ⟨by decide, by decide⟩ (m + 1) a.toNat 0 y (by omega) ⟨by decide, ⟨by decide, by decide⟩⟩ hA (fun _ => by rw [w64_id (by unfold g64 at *; omega)]; exact h) (fun q => absurd rfl q)
        rw [show ((a.toNat : Nat) : Int) = a by omega] at kk
        exact kk
  · have eN : gNum (gBy M r a.toNat (m + 1)) = (if gBy M r (a.toNat + 1) m = [] then none else gNumA (gBy M r (a.toNat + 1) m) 0) := if_pos e
    rw [eN] at hz
    by_cases c1 : gBy M r (a.toNat + 1) m = []
    · rw [if_pos c1] at hz; cases hz
    · rw [if_neg c1] at hz
      have kk := key 1 ⟨by decide, by decide⟩ m (a.toNat + 1) 0 z (by omega) ⟨by decide, ⟨by decide, by decide⟩⟩ hz (fun q => absurd q (by decide)) (fun _ => h)
      rw [show ((a.toNat + 1 : Nat) : Int) = a + 1 by omega] at kk
      rw [w32_id ⟨by omega, by omega⟩]
      exact kk
end gbV
