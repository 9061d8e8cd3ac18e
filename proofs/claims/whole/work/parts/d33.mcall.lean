/-! The reference's parser: calls. -/
/-- arguments as a chain of nodes, with its last -/
def gxCz (M : gM) (o L : Nat) : List gEx → Int → Int → Prop
  | [], _, _ => False
  | [e], n, z => n = z ∧ (gxNd M o L e).1 n
  | e :: f :: es, n, z => (gxNd M o L e).1 n ∧ gxCz M o L (f :: es) (M (o + 5) n.toNat) z
theorem gxCz_snoc {M : gM} {o L : Nat} {y : gEx} {z : Int} : ∀ (es : List gEx) (n : Int), gxCz M o L es n z → (gxNd M o L y).1 (M (o + 5) z.toNat) → gxCz M o L (es ++ [y]) n (M (o + 5) z.toNat) := by
  intro es
  induction es with
  | nil => intro n h; exact absurd h (fun q => q)
  | cons e es ih =>
    intro n h hy
    cases es with
    | nil =>
      have h : n = z ∧ (gxNd M o L e).1 n := h
      refine ⟨h.2, ?_⟩
      show M (o + 5) n.toNat = M (o + 5) z.toNat ∧ (gxNd M o L y).1 (M (o + 5) n.toNat)
      rw [h.1]
      exact ⟨rfl, hy⟩
    | cons f es =>
      have h : (gxNd M o L e).1 n ∧ gxCz M o L (f :: es) (M (o + 5) n.toNat) z := h
      exact ⟨h.1, ih _ h.2 hy⟩
theorem gxCz_ch {M : gM} {o L : Nat} {z : Int} : ∀ (es : List gEx) (n : Int), gxCz M o L es n z → gxCh M o L es n := by
  intro es
  induction es with
  | nil => intro n _; trivial
  | cons e es ih =>
    intro n h
    cases es with
    | nil => exact ⟨h.2, trivial⟩
    | cons f es => exact ⟨h.1, ih _ h.2⟩
/-- arguments, one by one, before others -/
def gJn (es : List gEx) (x : gEx) : gEx := es.foldr (fun a b => .add a b) x
theorem gJn_snoc (es : List gEx) (x y : gEx) : gJn (es ++ [x]) y = gJn es (.add x y) := by
  unfold gJn
  rw [List.foldr_append]
  rfl
theorem gJn_AL (es : List gEx) : gxAL (gJn es (.num 0)) = es := by
  induction es with
  | nil => rfl
  | cons e es ih => show e :: gxAL (gJn es (.num 0)) = e :: es; rw [ih]
theorem gJn_nd {M : gM} {o L : Nat} : ∀ (es : List gEx) (n : Int), gxCh M o L es n → (gxNd M o L (gJn es (.num 0))).2 n := by
  intro es
  induction es with
  | nil => intro n _; trivial
  | cons e es ih => intro n h; exact ⟨h.1, ih _ h.2⟩
/-- the arguments so far, in the nodes lo to hi; the next of the last one is free -/
def gxAz (M : gM) (o L B lo hi : Nat) (es : List gEx) (n z : Int) : Prop := (lo : Int) ≤ z ∧ z < (hi : Int) ∧ ∀ M2 : gM, (∀ i j, 2 ≤ i → i ≤ 6 → lo ≤ j → j < hi → ¬ (i = 5 ∧ j = z.toNat) → M2 (o + i) j = M (o + i) j) → (∀ j, j < B → M2 (o + 1) j = M (o + 1) j) → gxCz M2 o L es n z
section gdAJ
variable {M M2 : gM} {o L B lo hi mid : Nat} {es : List gEx} {n z v : Int} {y : gEx}
theorem gxAz.kp (h : gxAz M o L B lo hi es n z) (k : ∀ i j, 2 ≤ i → i ≤ 6 → lo ≤ j → j < hi → ¬ (i = 5 ∧ j = z.toNat) → M2 (o + i) j = M (o + i) j) (k1 : ∀ j, M2 (o + 1) j = M (o + 1) j) : gxAz M2 o L B lo hi es n z := ⟨h.1, h.2.1, fun M3 q q1 => h.2.2 M3 (fun i j a1 a2 a3 a4 a5 => (q i j a1 a2 a3 a4 a5).trans (k i j a1 a2 a3 a4 a5)) (fun j hj => (q1 j hj).trans (k1 j))⟩
theorem gxAz.one (h : gxNs M o L B lo hi y v) : gxAz M o L B lo hi [y] v v := ⟨h.1, h.2.1, fun M3 q q1 => ⟨rfl, h.2.2 M3 q q1⟩⟩
theorem gxAz.snoc (h : gxAz M o L B lo mid es n z) (hy : gxNs M o L B mid hi y v) (hz : M2 (o + 5) z.toNat = v) (k : ∀ i j, 2 ≤ i → i ≤ 6 → lo ≤ j → j < hi → ¬ (i = 5 ∧ j = z.toNat) → M2 (o + i) j = M (o + i) j) (k1 : ∀ j, M2 (o + 1) j = M (o + 1) j) : gxAz M2 o L B lo hi (es ++ [y]) n v := by
  have z1 := h.1
  have z2 := h.2.1
  have v1 := hy.1
  have v2 := hy.2.1
  refine ⟨by omega, v2, fun M3 q q1 => ?_⟩
  have e : M3 (o + 5) z.toNat = v := (q 5 z.toNat (by omega) (by omega) (by omega) (by omega) (by omega)).trans hz
  have c1 := h.2.2 M3 (fun i j a1 a2 a3 a4 a5 => (q i j a1 a2 a3 (by omega) (by omega)).trans (k i j a1 a2 a3 (by omega) a5)) (fun j hj => (q1 j hj).trans (k1 j))
  have c2 := hy.2.2 M3 (fun i j a1 a2 a3 a4 a5 => (q i j a1 a2 (by omega) a4 a5).trans (k i j a1 a2 (by omega) a4 (by omega))) (fun j hj => (q1 j hj).trans (k1 j))
  rw [← e]
  exact gxCz_snoc es n c1 (by rw [e]; exact c2)
end gdAJ
/-- what stands in a call's own node -/
def gClN (M : gM) (o L c : Nat) (S : List Int) (w : Int) : Prop := M (o + 2) c = 8 ∧ ∃ p q : Nat, p ≤ q ∧ q ≤ S.length ∧ M (o + 6) c = ((L + p : Nat) : Int) * 1048576 + ((L + q : Nat) : Int) ∧ gNmW (gSbs S p q) = w
section gdAK
variable (l : Launch) (G : gG) (X : gX) (o L : Nat) (S : List Int) (ts : List gTkn) (F R0 : Nat)
/-- behind an argument -/
noncomputable def gY6 (n : Nat) (w : Int) (D b : Nat) (rs : List gRf) : gPr := if gTK ts b = 15 then gPs S ts n 6 w D (.num 0) (b + 1) rs else some (.num 0, b, rs)
noncomputable def gY5 (y : gPr) (w : Int) (es : List gEx) : gPr := gBd y (fun x b r => if gTK ts b = 14 then some (.sub (.num w) (gJn es x), b + 1, r) else none)
def gR6 (n : Nat) : Prop := ∀ (d : Nat) (M : gM) (k : Int → gM → Prop) (w : Int) (D a b N c Rb : Nat) (rs : List gRf) (es : List gEx) (n0 z : Int), gPst M o L S ts F R0 (D + 1) b N rs → (gTK ts b = 15 → 3 * (ts.length - (b + 1)) + 5 ≤ n) → D ≤ 19 → gPbd a c Rb b N (R0 + rs.length) → gClN M o L c S w → M (o + 3) c = n0 → M (o + 4) c = (es.length : Int) → es.length ≤ 1000 + b → gxAz M o L (L + S.length) (c + 1) N es n0 z → gPoF M o L S ts F R0 D a c Rb k (gY5 ts (gY6 S ts n w (D + 1) b rs) w es) → wp l G y_GM_call (gRm (d + n + 8 + 1)) true (kkI X k) true 95 [.val (gR G o), .unset, .val (gI (c : Int)), .val (gI z), .unset] [] X M 0 0
end gdAK
section gdAL
variable {l : Launch} {G : gG} {X : gX} {o L : Nat} {S : List Int} {ts : List gTkn} {F R0 : Nat} {d D a b N c Rb : Nat} {M M2 : gM} {k : Int → gM → Prop} {rs : List gRf}
theorem r_lost95 {a' N' R' : Nat} {x3 : Int} (hX : gmX X o) (hts : ts.length ≤ 100) (hF : gPbF M o ts D a c Rb k) (tk : gPtk M o L S ts) (q : gOff (gPaR o c Rb) M M2) (ct : gPct M2 o 1 (D + 1) a' N' R') (hb : gPbd a c Rb a' N' R') (l2 : a' + (D + 1) ≤ ts.length + 26) (hc : c < 90000) (g3 : g32 x3) : wp l G y_GM_call (gRm (d + 1 + 1)) true (kkI X k) true 95 [.val (gR G o), .unset, .val (gI (c : Int)), .val (gI x3), .unset] [] X M2 0 0 := by
  refine w_GM_call_95 hX ⟨by omega, by omega⟩ g3 fun _ => ⟨fun _ _ => ?_, fun y => absurd (ct.1.symm.trans y) (by decide)⟩
  rw [ct.2.1, w32_id (x := ((D + 1 : Nat) : Int) - 1) ⟨by omega, by omega⟩, show ((D + 1 : Nat) : Int) - 1 = (D : Int) by omega]
  have c4 : gPct (gUp M2 o 26 (D : Int)) o 1 D a' N' R' := ct.dp
  have q4 : gOff (gPaR o c Rb) M (gUp M2 o 26 (D : Int)) := q.up (by unfold gPaR; omega)
  generalize gUp M2 o 26 (D : Int) = M4 at c4 q4 ⊢
  unfold gPbd at hb
  refine r_needB hX (by rw [(tk.kp q4).2.1]; omega) c4.2.2.1 (by omega) c4.1 (g32_c rfl) (fun M5 o5 f5 a5 => ?_)
  exact hF _ M5 (a' + 1) N' R' (q4.tr (o5.mono gPas1_R)) (gPas1.ct c4 o5 f5 a5) (by unfold gPbd; omega) (by omega) ⟨by omega, by omega⟩
theorem r_end95 {x3 : Int} (hX : gmX X o) (hts : ts.length ≤ 100) (hto : ∀ t ∈ ts, gTkO S t ∧ 1 ≤ t.2.1) (hp : gPst M2 o L S ts F R0 (D + 1) b N rs) (hD : D ≤ 20) (q : gOff (gPaR o c Rb) M M2) (hb : gPbd a c Rb b N (R0 + rs.length)) (hc : c < 90000) (g3 : g32 x3) (h15 : gTK ts b ≠ 15) (hF : gTK ts b ≠ 14 → gPbF M o ts D a c Rb k) (hS : gTK ts b = 14 → ∀ M3, gOff (gPaR o N (R0 + rs.length)) M2 M3 → gPst M3 o L S ts F R0 D (b + 1) N rs → k (c : Int) M3) : wp l G y_GM_call (gRm (d + 1 + 1)) true (kkI X k) true 95 [.val (gR G o), .unset, .val (gI (c : Int)), .val (gI x3), .unset] [] X M2 0 0 := by
  obtain ⟨tk, rf, ct, cp, al⟩ := id hp
  have km := gKm_of (gTK_rng hto b)
  refine w_GM_call_95 hX ⟨by omega, by omega⟩ g3 fun _ => ⟨fun y => absurd ct.1 y, fun _ => r_look (i := 0) hX tk hts ct.2.2.1 (by omega) (by decide) rfl ⟨fun _ _ => ?_, fun y => absurd (km.2.2.2.2.2.2.2.2.2.2.1.mp y) h15⟩⟩
  rw [ct.2.1, w32_id (x := ((D + 1 : Nat) : Int) - 1) ⟨by omega, by omega⟩, show ((D + 1 : Nat) : Int) - 1 = (D : Int) by omega]
  obtain ⟨p4, q4⟩ := hp.dp (E := D)
  have q5 : gOff (gPaR o c Rb) M (gUp M2 o 26 (D : Int)) := q.up (by unfold gPaR; omega)
  generalize gUp M2 o 26 (D : Int) = M4 at p4 q4 q5 ⊢
  unfold gPbd at hb
  refine r_need (y := 14) hX p4.1 hts hto p4.2.2.1.2.2.1 (by omega) p4.2.2.1.2.1 p4.2.2.1.1 (g32_c rfl) km.2.2.2.2.2.2.2.2.2.1 (by decide) (fun e _ => ?_) (fun hq M5 o5 f5 a5 => ?_)
  · have l2 := gTK_lt (ts := ts) (a := b) (by rw [e]; decide)
    obtain ⟨p6, q6⟩ := p4.at1 l2
    exact hS e _ (q4.tr q6) p6
  · exact hF (by omega) _ M5 (b + 1) N _ (q5.tr (o5.mono gPas1_R)) (gPas1.ct p4.2.2.1 o5 f5 a5) (by unfold gPbd; omega) (by omega) ⟨by omega, by omega⟩
theorem gClN.kp {w : Int} (h : gClN M o L c S w) (e2 : M2 (o + 2) c = M (o + 2) c) (e6 : M2 (o + 6) c = M (o + 6) c) : gClN M2 o L c S w := by
  unfold gClN at h ⊢
  rw [e2, e6]
  exact h
theorem gInm.kpB (h : gInm M o L S) (e : ∀ j, j < L + S.length → M2 (o + 1) j = M (o + 1) j) : gInm M2 o L S := ⟨fun j hj => (e _ (by omega)).trans (h.1 j hj), h.2⟩
/-- a call's tree stands there -/
theorem gClN.nd {w : Int} {es : List gEx} {n0 z : Int} {hi : Nat} (h : gClN M o L c S w) (hI : gInm M o L S) (hc : c < hi ∧ hi ≤ 90000) (h3 : M (o + 3) c = n0) (h4 : M (o + 4) c = (es.length : Int)) (hA : es = [] ∨ gxAz M o L (L + S.length) (c + 1) hi es n0 z) : gxNs M o L (L + S.length) c hi (.sub (.num w) (gJn es (.num 0))) (c : Int) := by
  refine ⟨by omega, by omega, fun M2 q q1 => ?_⟩
  obtain ⟨e8, p, r, pr, rl, e6, ew⟩ := h
  have hl := hI.2.2.1
  refine ⟨⟨by omega, by omega, ?_⟩, ?_, ?_, L + p, L + r, by omega, by omega, ?_, ?_⟩
  · rw [Int.toNat_natCast, q 2 c (by omega) (by omega) (by omega) (by omega) (by omega)]; exact e8
  · rw [Int.toNat_natCast, q 4 c (by omega) (by omega) (by omega) (by omega) (by omega), gJn_AL]; exact h4
  · rw [Int.toNat_natCast, q 3 c (by omega) (by omega) (by omega) (by omega) (by omega), h3]
    rcases hA with y | y
    · rw [y]; trivial
    · exact gJn_nd es n0 (gxCz_ch es n0 (y.2.2 M2 (fun i j a1 a2 a3 a4 a5 => q i j a1 a2 (by omega) a4 (by omega)) q1))
  · rw [Int.toNat_natCast, q 6 c (by omega) (by omega) (by omega) (by omega) (by omega)]; exact e6
  · rw [show L + r - (L + p) = r - p by omega, (gInm.kpB hI q1).sub rl]
    exact ew
/-- nodes written apart from their counter -/
theorem gPst.wr {E : Nat} (hp : gPst M o L S ts F R0 E b N rs) (w0 : ∀ j, M2 o j = M o j) (w1 : ∀ i j, i = 1 ∨ 7 ≤ i → M2 (o + i) j = M (o + i) j) : gPst M2 o L S ts F R0 E b N rs := by
  obtain ⟨t3, f3, c3, d3, l3⟩ := hp
  refine ⟨⟨t3.1.kp (fun j => w1 1 j (by omega)), by rw [w0]; exact t3.2.1, fun i hi => (t3.2.2 i hi).kp (fun x h1 h2 => ?_)⟩, ⟨by rw [w0]; exact f3.1, by rw [w1 8 F (by omega)]; exact f3.2.1, f3.2.2.1, fun i hi => ?_⟩, c3.of (fun j _ => w0 j), d3, l3⟩
  · rw [show x = o + (x - o) by omega]
    exact w1 _ _ (by omega)
  · rw [w1 10 _ (by omega), w1 11 _ (by omega), w1 12 _ (by omega)]
    exact f3.2.2.2 i hi
theorem gY_eq {n b1 a2 : Nat} {w : Int} {x : gEx} {r1 : List gRf} (es : List gEx) (y : gPs S ts n 7 w D (.num 0) a2 rs = some (x, b1, r1)) : gY5 ts (gPas ts (gPs S ts n) w D a2 rs) w es = gY5 ts (gY6 S ts n w D b1 r1) w (es ++ [x]) := by
  unfold gPas gY6 gY5
  rw [y]
  show gBd (if gTK ts b1 = 15 then gBd (gPs S ts n 6 w D (.num 0) (b1 + 1) r1) (fun y b2 r2 => some (.add x y, b2, r2)) else some (.add x (.num 0), b1, r1)) _ = _
  split
  · cases gPs S ts n 6 w D (.num 0) (b1 + 1) r1 with
    | none => rfl
    | some t =>
      show (if gTK ts t.2.1 = 14 then some (Int.Internal.Linear.Expr.sub (.num w) (gJn es (.add x t.1)), t.2.1 + 1, t.2.2) else none) = (if gTK ts t.2.1 = 14 then some (Int.Internal.Linear.Expr.sub (.num w) (gJn (es ++ [x]) t.1), t.2.1 + 1, t.2.2) else none)
      rw [gJn_snoc]
  · show (if gTK ts b1 = 14 then some (Int.Internal.Linear.Expr.sub (.num w) (gJn es (.add x (.num 0))), b1 + 1, r1) else none) = (if gTK ts b1 = 14 then some (Int.Internal.Linear.Expr.sub (.num w) (gJn (es ++ [x]) (.num 0)), b1 + 1, r1) else none)
    rw [gJn_snoc]
theorem gPs_7D {n a2 : Nat} {w : Int} {x : gEx} {q : gEx × Nat × List gRf} (h : gPs S ts n 7 w D x a2 rs = some q) : D ≤ 20 := by
  cases n with
  | zero => cases h
  | succ n =>
    have h1 : gPar S ts (gPs S ts n) D a2 rs = some q := h
    unfold gPar at h1
    split at h1
    · cases h1
    · omega
end gdAL
