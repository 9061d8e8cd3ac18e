/-! The reference's values: compared, joined, changed. -/
/-- texts by their letters -/
def gLex : List Int → List Int → Int
  | [], [] => 0
  | [], _ :: _ => -1
  | _ :: _, [] => 1
  | a :: r, b :: t => if a = b then gLex r t else if a < b then -1 else 1
/-- numbers by size -/
def gOrd (a b : Int) : Int := if a < b then -1 else if b < a then 1 else 0
/-- two values compared: their sorts, numbers and letters -/
def gVcm (s : Int) (x : Int) (a : List Int) (t : Int) (y : Int) (b : List Int) : Int :=
  if s = 0 ∧ t = 0 then 0 else if s ≠ 0 ∧ t ≠ 0 ∧ s ≠ t then gOrd s t else if (if s = 0 then t else s) = 2 then gLex (if s = 0 then [] else a) (if t = 0 then [] else b) else gOrd (if s = 0 then 0 else x) (if t = 0 then 0 else y)
section gmC8
variable {l : Launch} {G : gG} {d : Nat} {X : gX} {M : gM} {o : Nat} {x y1 s v i n p t : Int}
/-- the letters of stack place i -/
def gmTx (M : gM) (o : Nat) (i : Int) : List Int := gBy M (o + 37) (64 * i).toNat (M (o + 35) i.toNat).toNat
theorem w_cmp_text {k : Int → gM → Prop} {i j : Int} (hX : gmX X o) (hi : 0 ≤ i ∧ i < 1200) (hj : 0 ≤ j ∧ j < 1200) : ∀ (n m q : Nat), q + n ≤ 64 → q + m ≤ 64 → k (gLex (gBy M (o + 37) (64 * i + (q : Int)).toNat n) (gBy M (o + 37) (64 * j + (q : Int)).toNat m)) M →
    wp l G y_GM_compare (gRm d) false (kkI X k) false 177 [.val (gR G o), .val (gI i), .val (gI j), .unset, .unset, .val (gI ((q + n : Nat) : Int)), .val (gI ((q + m : Nat) : Int)), .val (gI (q : Int)), .unset] [] X M 0 0 := by
  have gi : g32 i := ⟨by omega, by omega⟩
  have gj : g32 j := ⟨by omega, by omega⟩
  intro n
  induction n with
  | zero =>
    intro m q hn hm h
    refine w_GM_compare_177 hX gi gj ⟨by omega, by omega⟩ ⟨by omega, by omega⟩ ⟨by omega, by omega⟩ ⟨fun _ => w_GM_compare_257 hX ⟨by omega, by omega⟩ ⟨by omega, by omega⟩ ?_, fun a => absurd (by omega) a⟩
    cases m with
    | zero => exact ⟨fun a => ⟨fun _ => h, fun b => absurd (by omega) b⟩, fun a => absurd (by omega) a⟩
    | succ m => exact ⟨fun a => absurd a (by omega), fun _ => h⟩
  | succ n ih =>
    intro m q hn hm h
    cases m with
    | zero =>
      refine w_GM_compare_177 hX gi gj ⟨by omega, by omega⟩ ⟨by omega, by omega⟩ ⟨by omega, by omega⟩ ⟨fun a => absurd a (by omega), fun _ => ⟨fun _ => w_GM_compare_257 hX ⟨by omega, by omega⟩ ⟨by omega, by omega⟩ ⟨fun a => ⟨fun b => absurd b (by omega), fun _ => h⟩, fun a => absurd (by omega) a⟩, fun a => absurd (by omega) a⟩⟩
    | succ m =>
      rw [show gBy M (o + 37) (64 * i + (q : Int)).toNat (n + 1) = M (o + 37) (64 * i + (q : Int)).toNat :: gBy M (o + 37) ((64 * i + (q : Int)).toNat + 1) n from rfl, show gBy M (o + 37) (64 * j + (q : Int)).toNat (m + 1) = M (o + 37) (64 * j + (q : Int)).toNat :: gBy M (o + 37) ((64 * j + (q : Int)).toNat + 1) m from rfl] at h
      unfold gLex at h
      refine w_GM_compare_177 hX gi gj ⟨by omega, by omega⟩ ⟨by omega, by omega⟩ ⟨by omega, by omega⟩ ⟨fun a => absurd a (by omega), fun _ => ⟨fun a => absurd a (by omega), fun _ => ⟨⟨by omega, by omega⟩, fun _ => ⟨⟨by omega, by omega⟩, fun _ => ⟨fun a => ?_, fun a => ⟨⟨by omega, by omega⟩, fun _ => ⟨⟨by omega, by omega⟩, fun _ => ⟨fun b => ?_, fun b => ?_⟩⟩⟩⟩⟩⟩⟩⟩
      · rw [if_pos a] at h
        have i1 := ih m (q + 1) (by omega) (by omega) (by
          rw [show (64 * i + ((q + 1 : Nat) : Int)).toNat = (64 * i + (q : Int)).toNat + 1 by omega, show (64 * j + ((q + 1 : Nat) : Int)).toNat = (64 * j + (q : Int)).toNat + 1 by omega]
          exact h)
        rw [show q + 1 + n = q + (n + 1) by omega, show q + 1 + m = q + (m + 1) by omega] at i1
        rw [gI_w]
        exact i1
      · rw [if_neg a, if_neg (by omega)] at h; exact h
      · rw [if_neg a, if_pos (by omega)] at h; exact h
theorem c_GM_compare {k : Int → gM → Prop} {i j : Int} (hX : gmX X o) (hi : 0 ≤ i ∧ i < 1200) (hj : 0 ≤ j ∧ j < 1200) (li : 0 ≤ M (o + 35) i.toNat ∧ M (o + 35) i.toNat ≤ 64) (lj : 0 ≤ M (o + 35) j.toNat ∧ M (o + 35) j.toNat ≤ 64)
    (h : k (gVcm (M (o + 34) i.toNat) (M (o + 36) i.toNat) (gmTx M o i) (M (o + 34) j.toNat) (M (o + 36) j.toNat) (gmTx M o j)) M) : cI l G y_GM_compare (gRm d) false [gR G o, gI i, gI j] X M k := by
  have gi : g32 i := ⟨by omega, by omega⟩
  have gj : g32 j := ⟨by omega, by omega⟩
  have T : ∀ n m : Int, 0 ≤ n ∧ n ≤ 64 → 0 ≤ m ∧ m ≤ 64 → k (gLex (gBy M (o + 37) (64 * i).toNat n.toNat) (gBy M (o + 37) (64 * j).toNat m.toNat)) M → wp l G y_GM_compare (gRm d) false (kkI X k) false 177 [.val (gR G o), .val (gI i), .val (gI j), .unset, .unset, .val (gI n), .val (gI m), .val (gI 0), .unset] [] X M 0 0 := by
    intro n m hn hm hk
    have w := w_cmp_text (l := l) (G := G) (d := d) (k := k) (M := M) hX hi hj n.toNat m.toNat 0 (by omega) (by omega) (by rw [show (64 * i + ((0 : Nat) : Int)) = 64 * i by omega, show (64 * j + ((0 : Nat) : Int)) = 64 * j by omega]; exact hk)
    rw [Nat.zero_add, Nat.zero_add, show ((n.toNat : Nat) : Int) = n by omega, show ((m.toNat : Nat) : Int) = m by omega] at w
    exact w
  have N : ∀ a : Int, g64 a → k (gOrd a (if M (o + 34) j.toNat = 0 then 0 else M (o + 36) j.toNat)) M → wp l G y_GM_compare (gRm d) false (kkI X k) false 83 [.val (gR G o), .unset, .val (gI j), .unset, .unset, .unset, .unset, .unset, .unset] [gL a] X M 0 0 := by
    intro a ga hk
    unfold gOrd at hk
    refine w_GM_compare_83 hX gj ga ⟨hj, fun _ => ⟨fun b => ⟨hj, fun _ => ⟨fun c => ⟨fun e => ?_, fun e => ?_⟩, fun c => ?_⟩⟩, fun b => ⟨fun c => ⟨fun e => ?_, fun e => ?_⟩, fun c => ?_⟩⟩⟩
    · rw [if_neg b, if_neg (by omega), if_neg (by omega)] at hk; exact hk
    · rw [if_neg b, if_neg (by omega), if_pos (by omega)] at hk; exact hk
    · rw [if_neg b, if_pos (by omega)] at hk; exact hk
    · rw [if_pos b, if_neg (by omega), if_neg (by omega)] at hk; exact hk
    · rw [if_pos b, if_neg (by omega), if_pos (by omega)] at hk; exact hk
    · rw [if_pos b, if_pos (by omega)] at hk; exact hk
  -- behind the sorts
  have S : ∀ a b : Int, g32 a → g32 b → (a ≠ b → k (gOrd a b) M) → (a = b → a = 2 → k (gLex (if M (o + 34) i.toNat = 0 then [] else gmTx M o i) (if M (o + 34) j.toNat = 0 then [] else gmTx M o j)) M) → (a = b → a ≠ 2 → k (gOrd (if M (o + 34) i.toNat = 0 then 0 else M (o + 36) i.toNat) (if M (o + 34) j.toNat = 0 then 0 else M (o + 36) j.toNat)) M) →
      wp l G y_GM_compare (gRm d) false (kkI X k) false 41 [.val (gR G o), .val (gI i), .val (gI j), .val (gI a), .val (gI b), .unset, .unset, .unset, .unset] [] X M 0 0 := by
    intro a b ga gb f1 f2 f3
    unfold gOrd at f1
    refine w_GM_compare_41 hX gi gj ga gb ⟨fun e => ⟨fun e2 => ⟨hi, fun _ => ⟨fun u => ⟨hi, fun _ => ⟨hj, fun _ => ⟨fun w => ⟨hj, fun _ => ?_⟩, fun w => ?_⟩⟩⟩, fun u => ⟨hj, fun _ => ⟨fun w => ⟨hj, fun _ => ?_⟩, fun w => ?_⟩⟩⟩⟩, fun e2 => ⟨hi, fun _ => ⟨fun u => ⟨hi, fun g => ?_⟩, fun u => ?_⟩⟩⟩, fun e => ⟨fun u => ?_, fun u => ?_⟩⟩
    · have f := f2 e e2
      rw [if_neg u, if_neg w] at f
      exact T _ _ li lj f
    · have f := f2 e e2
      rw [if_neg u, if_pos w] at f
      exact T _ _ li ⟨by decide, by decide⟩ f
    · have f := f2 e e2
      rw [if_pos u, if_neg w] at f
      exact T _ _ ⟨by decide, by decide⟩ lj f
    · have f := f2 e e2
      rw [if_pos u, if_pos w] at f
      exact T _ _ ⟨by decide, by decide⟩ ⟨by decide, by decide⟩ f
    · have f := f3 e e2
      rw [if_neg u] at f
      exact N _ g f
    · have f := f3 e e2
      rw [if_pos u] at f
      exact N _ ⟨by decide, by decide⟩ f
    · have f := f1 e
      rw [if_neg (by omega), if_pos (by omega)] at f; exact f
    · have f := f1 e
      rw [if_pos (by omega)] at f; exact f
  unfold gVcm at h
  refine e_GM_compare (w_GM_compare_0 hX gi gj ⟨hi, fun g1 => ⟨hj, fun g2 => ⟨fun a => ?_, fun a => ⟨fun b => ?_, fun b => ?_⟩⟩⟩⟩)
  · refine w_GM_compare_26 hX gi gj g1 g2 ⟨fun _ => w_GM_compare_33 hX gi gj g1 g2 ⟨fun b => ?_, fun b => ?_⟩, fun b => absurd b a⟩
    · rw [if_neg (fun q => a q.1)] at h
      refine S _ _ g1 g2 (fun e => ?_) (fun e e2 => ?_) (fun e e2 => ?_)
      · rw [if_pos ⟨a, b, e⟩] at h; exact h
      · rw [if_neg (fun q => q.2.2 e), if_pos (by rw [if_neg a]; exact e2)] at h; exact h
      · rw [if_neg (fun q => q.2.2 e), if_neg (by rw [if_neg a]; exact e2)] at h; exact h
    · rw [if_neg (fun q => a q.1), if_neg (fun q => q.2.1 b)] at h
      refine S _ _ g1 g1 (fun e => absurd rfl e) (fun e e2 => ?_) (fun e e2 => ?_)
      · rw [if_pos (by rw [if_neg a]; exact e2)] at h; exact h
      · rw [if_neg (by rw [if_neg a]; exact e2)] at h; exact h
  · rw [if_neg (fun q => b q.2), if_neg (fun q => q.1 a)] at h
    refine w_GM_compare_26 hX gi gj g1 g2 ⟨fun c => absurd a c, fun _ => w_GM_compare_33 hX gi gj g2 g2 ⟨fun _ => ?_, fun c => absurd c b⟩⟩
    refine S _ _ g2 g2 (fun e => absurd rfl e) (fun e e2 => ?_) (fun e e2 => ?_)
    · rw [if_pos (by rw [if_pos a]; exact e2)] at h; exact h
    · rw [if_neg (by rw [if_pos a]; exact e2)] at h; exact h
  · rw [if_pos ⟨a, b⟩] at h; exact h
end gmC8
