/-! The class's Reader: the code of arguments, one behind the other; picks closed. -/
def gLsu (es : List gEx) : Nat := (es.map (fun x => (gxLn x).1)).sum
theorem gLsu_app (es : List gEx) (x : gEx) : gLsu (es ++ [x]) = gLsu es + (gxLn x).1 := by
  unfold gLsu
  rw [List.map_append, List.sum_append]
  rfl
/-- picks whose operands aren't known yet -/
def gPk0 (M : gM) (c : Nat) (S : List Int) (B : Nat) (op : Int) (D1 : Nat) : List gEx → Nat → Nat → Prop
  | [], _, _ => True
  | e :: es, j, m => M (c + 9) m = op ∧ M (c + 15) (D1 * 4 + j) = (m : Int) ∧ (gxCo M c S B e).1 (m + 1) ∧ (es ≠ [] → M (c + 9) (m + 1 + (gxLn e).1) = 10) ∧ gPk0 M c S B op D1 es (j + 1) (m + (gxLn e).1 + 2)
theorem gPk0_snoc {M : gM} {c : Nat} {S : List Int} {B : Nat} {op : Int} {D1 : Nat} {x : gEx} : ∀ (es : List gEx) (j m m' : Nat), gPk0 M c S B op D1 es j m → m' = m + gLsu es + 2 * es.length → M (c + 9) m' = op → M (c + 15) (D1 * 4 + (j + es.length)) = (m' : Int) → (gxCo M c S B x).1 (m' + 1) → (es ≠ [] → M (c + 9) (m' - 1) = 10) → gPk0 M c S B op D1 (es ++ [x]) j m := by
  intro es
  induction es with
  | nil =>
    intro j m m' _ e h1 h2 h3 _
    have e : m' = m := e
    subst e
    exact ⟨h1, h2, h3, fun y => absurd rfl y, trivial⟩
  | cons y es ih =>
    intro j m m' h e h1 h2 h3 h4
    have e : m' = m + ((gxLn y).1 + gLsu es) + 2 * (es.length + 1) := e
    obtain ⟨q1, q2, q3, q4, q5⟩ := h
    have h2 : M (c + 15) (D1 * 4 + (j + (es.length + 1))) = (m' : Int) := h2
    refine ⟨q1, q2, q3, fun _ => ?_, ih (j + 1) _ m' q5 (by omega) h1 (by rw [show j + 1 + es.length = j + (es.length + 1) by omega]; exact h2) h3 (fun _ => h4 (by intro z; cases z))⟩
    by_cases z : es = []
    · subst z
      have := h4 (by intro z; cases z)
      have e : m' = m + ((gxLn y).1 + 0) + 2 * (0 + 1) := e
      rw [show m + 1 + (gxLn y).1 = m' - 1 by omega]
      exact this
    · exact q4 z
theorem gPk0_rd {M M2 : gM} {c : Nat} {S : List Int} {B B2 : Nat} {op : Int} {D1 : Nat} {P R : Int → Prop} {n : Nat} (hB : B ≤ B2) (hb : ∀ j, j < B → M2 (c + 13) j = M (c + 13) j) : ∀ (es : List gEx) (j m : Nat), (∀ e ∈ es, (gxWf P R n e).1) → (∀ p, m ≤ p → p + 1 < m + gLsu es + 2 * es.length → M2 (c + 9) p = M (c + 9) p ∧ M2 (c + 10) p = M (c + 10) p) → (∀ i, j ≤ i → i < j + es.length → M2 (c + 15) (D1 * 4 + i) = M (c + 15) (D1 * 4 + i)) → gPk0 M c S B op D1 es j m → gPk0 M2 c S B2 op D1 es j m := by
  intro es
  induction es with
  | nil => intro j m _ _ _ _; trivial
  | cons y es ih =>
    intro j m hw q1 q3 h
    have e : gLsu (y :: es) = (gxLn y).1 + gLsu es := rfl
    have e2 : (y :: es).length = es.length + 1 := rfl
    rw [e, e2] at q1
    rw [e2] at q3
    obtain ⟨h1, h2, h3, h4, h5⟩ := h
    refine ⟨(q1 m (Nat.le_refl _) (by omega)).1.trans h1, (q3 j (Nat.le_refl _) (by omega)).trans h2, ?_, fun z => ?_, ?_⟩
    · exact (gxCo_keep (P := P) (R := R) (n := n) hB hb y).1 (hw y (List.mem_cons_self)) (m + 1) (fun p p1 p2 => q1 p (by omega) (by omega)) h3
    · have l0 : 0 < es.length := List.length_pos_iff.2 z
      exact (q1 _ (by omega) (by omega)).1.trans (h4 z)
    · exact ih (j + 1) _ (fun e he => hw e (List.mem_cons_of_mem _ he)) (fun p p1 p2 => q1 p (by omega) (by omega)) (fun i i1 i2 => q3 i (by omega) (by omega)) h5
/-- the code of the arguments es of w, from b to cs -/
def gLay (M : gM) (c : Nat) (S : List Int) (B : Nat) (w : Int) (D1 b : Nat) (es : List gEx) (cs : Nat) : Prop :=
  if 0 ≤ w ∧ gWgr w.toNat = 5 then (match es with
    | [] => cs = b
    | e0 :: rest => (gxCo M c S B e0).1 b ∧ gPk0 M c S B (gxOp w.toNat) D1 rest 1 (b + (gxLn e0).1) ∧ cs + (if rest = [] then 0 else 1) = b + (gxLn e0).1 + gLsu rest + 2 * rest.length)
  else gxSq M c (gLt w) es (es.map (fun x => (gxCo M c S B x).1)) (es.map (fun x => (gxLn x).1)) b ∧ cs = b + gLsu es
theorem gxSq_snoc {M : gM} {c : Nat} {S : List Int} {B : Nat} {x : gEx} : ∀ (L : List Int) (es : List gEx) (b : Nat), es.length < L.length → gxSq M c L es (es.map (fun x => (gxCo M c S B x).1)) (es.map (fun x => (gxLn x).1)) b → (if L.getD es.length 0 = 114 then gxBc M c x (b + gLsu es) else (gxCo M c S B x).1 (b + gLsu es)) → gxSq M c L (es ++ [x]) ((es ++ [x]).map (fun x => (gxCo M c S B x).1)) ((es ++ [x]).map (fun x => (gxLn x).1)) b := by
  intro L
  induction L with
  | nil => intro es b h; exact absurd h (Nat.not_lt_zero _)
  | cons y L ih =>
    intro es b hl h hx
    cases es with
    | nil => exact ⟨hx, by cases L <;> trivial⟩
    | cons e es =>
      obtain ⟨h1, h2⟩ := h
      refine ⟨h1, ih es _ (Nat.lt_of_succ_lt_succ hl) h2 ?_⟩
      have e1 : gLsu (e :: es) = (gxLn e).1 + gLsu es := rfl
      rw [e1, ← Nat.add_assoc] at hx
      exact hx
theorem gLt_pick {w : Int} (hw : w = -1 ∨ 14 ≤ w ∧ w < 52) (h : 0 ≤ w ∧ gWgr w.toNat = 5) : ∀ i, i < (gLt w).length → (gLt w).getD i 0 ≠ 114 := by
  have key : ∀ v, v < 52 → gWgr v = 5 → ∀ i, i < 4 → i < (gTks v).length → (gTks v).getD i 0 ≠ 114 := by decide +kernel
  intro i hi
  have h4 := gLt_4 hw
  have e : gLt w = gTks w.toNat := by unfold gLt; rw [if_neg (by omega)]
  rw [e] at hi h4 ⊢
  exact key w.toNat (by omega) h.2 i (by omega) hi
theorem gLay_snoc {M M2 : gM} {c : Nat} {S : List Int} {B B2 : Nat} {w : Int} {D1 b cs cs2 id rf mk : Nat} {es : List gEx} {x : gEx} {P R : Int → Prop} {n : Nat} (hw : w = -1 ∨ 14 ≤ w ∧ w < 52) (h : gLay M c S B w D1 b es cs) (hwf : ∀ e ∈ es, (gxWf P R n e).1) (hl : es.length < (gLt w).length) (hmk : D1 * 4 + es.length ≤ mk) (hB : B ≤ B2) (o : gOff (gRdR c id cs rf B mk) M M2) (hx : gArE M2 c S w D1 es.length cs x cs2 B2) : gLay M2 c S B2 w D1 b (es ++ [x]) cs2 := by
  have hb : ∀ j, j < B → M2 (c + 13) j = M (c + 13) j := fun j hj => o _ _ (by unfold gRdR; omega)
  have h9 : ∀ p, p < cs → M2 (c + 9) p = M (c + 9) p ∧ M2 (c + 10) p = M (c + 10) p := fun p hp => ⟨o _ _ (by unfold gRdR; omega), o _ _ (by unfold gRdR; omega)⟩
  unfold gLay at h ⊢
  unfold gArE at hx
  by_cases hp : 0 ≤ w ∧ gWgr w.toNat = 5
  · rw [if_pos hp] at h ⊢
    rw [if_neg (fun y => gLt_pick hw hp _ y.1 y.2)] at hx
    obtain ⟨x1, x2, x3, x4⟩ := hx
    cases es with
    | nil =>
      have h : cs = b := h
      have e0 : gSft w 0 = 0 := by
        unfold gSft
        rw [if_neg (fun y => absurd y.2.2.1 (Nat.lt_irrefl _))]
      have x1 : (gxCo M2 c S B2 x).1 (cs + gSft w 0) := x1
      have x2 : cs2 = cs + gSft w 0 + (gxLn x).1 := x2
      rw [e0] at x1 x2
      rw [h] at x1
      refine ⟨x1, trivial, ?_⟩
      show cs2 + 0 = b + (gxLn x).1 + 0 + 0
      omega
    | cons e0 rest =>
      obtain ⟨h1, h2, h3⟩ := h
      have hl2 : (e0 :: rest).length = rest.length + 1 := rfl
      rw [hl2] at x1 x2 x3 x4 hl hmk
      have es : gSft w (rest.length + 1) = if rest.length + 1 = 1 then 1 else 2 := by
        unfold gSft
        rw [if_pos ⟨hp.1, hl, Nat.succ_pos _, hp.2⟩]
      have hc0 : b + (gxLn e0).1 ≤ cs := by
        by_cases z : rest = []
        · rw [if_pos z] at h3; omega
        · rw [if_neg z] at h3
          have := List.length_pos_iff.2 z
          omega
      have k1 : (gxCo M2 c S B2 e0).1 b := (gxCo_keep (P := P) (R := R) (n := n) hB hb e0).1 (hwf e0 List.mem_cons_self) b (fun j j1 j2 => h9 j (by omega)) h1
      have wf2 : ∀ e ∈ rest, (gxWf P R n e).1 := fun e he => hwf e (List.mem_cons_of_mem _ he)
      have k2 : gPk0 M2 c S B2 (gxOp w.toNat) D1 rest 1 (b + (gxLn e0).1) :=
        gPk0_rd (P := P) (R := R) (n := n) hB hb rest 1 _ wf2 (fun p p1 p2 => h9 p (by split at h3 <;> omega)) (fun i i1 i2 => o _ _ (by unfold gRdR; omega)) h2
      have en : rest ++ [x] ≠ [] := by intro z; have := congrArg List.length z; rw [List.length_append] at this; exact absurd this (Nat.succ_ne_zero _)
      by_cases z : rest = []
      · subst z
        rw [if_pos rfl] at h3
        have es : gSft w (0 + 1) = 1 := es
        have h3 : cs + 0 = b + (gxLn e0).1 + 0 + 0 := h3
        have x1 : (gxCo M2 c S B2 x).1 (cs + gSft w (0 + 1)) := x1
        have x2 : cs2 = cs + gSft w (0 + 1) + (gxLn x).1 := x2
        have x3 : 1 ≤ gSft w (0 + 1) → M2 (c + 9) (cs + gSft w (0 + 1) - 1) = gxOp w.toNat ∧ M2 (c + 15) (D1 * 4 + (0 + 1)) = ((cs + gSft w (0 + 1) - 1 : Nat) : Int) := x3
        rw [es] at x1 x2 x3
        have x3 := x3 (Nat.le_refl _)
        rw [show cs + 1 - 1 = b + (gxLn e0).1 by omega] at x3
        rw [show cs + 1 = b + (gxLn e0).1 + 1 by omega] at x1
        refine ⟨k1, ⟨x3.1, x3.2, x1, fun y => absurd rfl y, trivial⟩, ?_⟩
        show cs2 + 1 = b + (gxLn e0).1 + ((gxLn x).1 + 0) + 2 * 1
        omega
      · rw [if_neg z] at h3
        have l0 : 0 < rest.length := List.length_pos_iff.2 z
        rw [if_neg (by omega)] at es
        rw [es] at x1 x2 x3 x4
        have x3 := x3 (by decide)
        have x4 := x4 rfl
        rw [show cs + 2 - 1 = cs + 1 by omega] at x3
        refine ⟨k1, gPk0_snoc rest 1 _ (cs + 1) k2 (by omega) x3.1 (by rw [Nat.add_comm 1]; exact x3.2) x1 (fun _ => x4), ?_⟩
        show cs2 + (if rest ++ [x] = [] then 0 else 1) = b + (gxLn e0).1 + gLsu (rest ++ [x]) + 2 * (rest ++ [x]).length
        rw [if_neg en, gLsu_app, List.length_append]
        show cs2 + 1 = b + (gxLn e0).1 + (gLsu rest + (gxLn x).1) + 2 * (rest.length + 1)
        omega
  · rw [if_neg hp] at h ⊢
    have e0 : gSft w es.length = 0 := by
      unfold gSft
      rw [if_neg (fun y => hp ⟨y.1, y.2.2.2⟩)]
    have hl1 : ∀ e ∈ es, 1 ≤ (gxLn e).1 := fun e he => gxLn_pos e (hwf e he)
    have hc := h.2
    have k1 : gxSq M2 c (gLt w) es (es.map (fun x => (gxCo M2 c S B2 x).1)) (es.map (fun x => (gxLn x).1)) b := gxSq_keep (gLt w) es b (fun e he => ⟨hl1 e he, (gxCo_keep (P := P) (R := R) (n := n) hB hb e).1 (hwf e he)⟩) (fun j j1 j2 => h9 j (by unfold gLsu at hc; omega)) h.1
    by_cases q : (gLt w).getD es.length 0 = 114
    · rw [if_pos ⟨hl, q⟩, hc] at hx
      refine ⟨gxSq_snoc _ es b hl k1 (by rw [if_pos q]; exact hx.1), ?_⟩
      have q2 : (gxLn x).1 = 1 := by
        cases x with
        | var i => rfl
        | mulL i e => cases e with
          | neg e => rfl
          | _ => exact absurd hx.1 (fun y => y)
        | _ => exact absurd hx.1 (fun y => y)
      rw [gLsu_app]
      omega
    · rw [if_neg (fun y => q y.2), e0, Nat.add_zero] at hx
      refine ⟨gxSq_snoc _ es b hl k1 (by rw [if_neg q, ← hc]; exact hx.1), ?_⟩
      rw [gLsu_app]
      omega
