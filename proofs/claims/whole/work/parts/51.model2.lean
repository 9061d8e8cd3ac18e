/-! Contracts of the reference's small methods: stack, places, nodes. -/
section gmC2
variable {l : Launch} {G : gG} {d : Nat} {X : gX} {M : gM} {o : Nat} {x y1 s v i n p t : Int}
/-- a value on top of the reference's stack -/
def gmPush (M : gM) (o : Nat) (s v : Int) : gM := gUp (gUp (gUp (gUp M (o + 34) (Int.toNat (M o 50)) s) (o + 36) (Int.toNat (M o 50)) v) (o + 35) (Int.toNat (M o 50)) 0) o 50 (M o 50 + 1)
theorem c_GM_push {k : gM → Prop} (hX : gmX X o) (hs : g32 s) (hv : g64 v) (ht : 0 ≤ M o 50 ∧ M o 50 < 1200) (h : k (gmPush M o s v)) : cV l G y_GM_push (gRm d) true [gR G o, gI s, gL v] X M k := by
  refine e_GM_push (w_GM_push_0 hX hs hv ?_)
  simp (disch := decide) only [gUp_o, gUp_oo, gUp_ao, gUp_eq]
  refine fun _ => ⟨ht, fun _ => ⟨ht, fun _ => ⟨ht, fun _ => ?_⟩⟩⟩
  rw [w32_id ⟨by omega, by omega⟩]
  exact h
theorem c_GM_fault {k : gM → Prop} (hX : gmX X o) (hs : g32 s) (ht : 0 ≤ M o 50 ∧ M o 50 < 1200) (h : k (gmPush M o 4 s)) : cV l G y_GM_fault (gRm (d + 1)) true [gR G o, gI s] X M k :=
  e_GM_fault (w_GM_fault_0 hX hs (c_GM_push hX (g32_c (x := 4) rfl) ⟨by have := hs.1; omega, by have := hs.2; omega⟩ ht h))
theorem c_GM_become {k : gM → Prop} (hX : gmX X o) (hn : 0 ≤ n ∧ n ≤ M o 50) (ht : M o 50 - n < 1200) (hb : M o 50 < 1000000) (hs : g32 s) (hv : g64 v) (h : k (gmPush (gUp M o 50 (M o 50 - n)) o s v)) : cV l G y_GM_become (gRm (d + 1)) true [gR G o, gI n, gI s, gL v] X M k := by
  refine e_GM_become (w_GM_become_0 hX ⟨by omega, by omega⟩ hs hv fun _ => ?_)
  rw [w32_id ⟨by omega, by omega⟩]
  exact c_GM_push hX hs hv (by rw [gUp_eq]; omega) h
theorem c_GM_yes {k : gM → Prop} (hX : gmX X o) (hs : 0 ≤ s ∧ s ≤ 1) (ht : 0 ≤ M o 50 ∧ M o 50 < 1200) (h : k (gmPush M o 3 s)) : cV l G y_GM_yes (gRm (d + 1)) true [gR G o, gI s] X M k := by
  refine e_GM_yes (w_GM_yes_0 hX hs ⟨fun h0 => ?_, fun h0 => ?_⟩)
  · subst h0
    exact c_GM_push hX (g32_c (x := 3) rfl) (g64_c (x := 0) rfl) ht h
  · have e : s = 1 := by omega
    subst e
    exact c_GM_push hX (g32_c (x := 3) rfl) (g64_c (x := 1) rfl) ht h
theorem c_GM_isFault {k : Int → gM → Prop} (hX : gmX X o) (hi : 0 ≤ i ∧ i < 1200) (h : k (if M (o + 34) i.toNat = 4 then 1 else 0) M) : cZ l G y_GM_isFault (gRm d) false [gR G o, gI i] X M k :=
  e_GM_isFault (w_GM_isFault_0 hX ⟨by omega, by omega⟩ ⟨hi, fun _ => ⟨fun h1 => by rw [if_neg h1] at h; exact h, fun h1 => by rw [if_pos h1] at h; exact h⟩⟩)
theorem c_GM_byteAt {k : Int → gM → Prop} (hX : gmX X o) (hi : 0 ≤ i ∧ i < 1200) (hx : 0 ≤ x ∧ x < 64) (h : (-128 ≤ M (o + 37) (64 * i + x).toNat ∧ M (o + 37) (64 * i + x).toNat < 128) → k (M (o + 37) (64 * i + x).toNat) M) : cI l G y_GM_byteAt (gRm d) false [gR G o, gI i, gI x] X M k :=
  e_GM_byteAt (w_GM_byteAt_0 hX ⟨by omega, by omega⟩ ⟨by omega, by omega⟩ ⟨⟨by omega, by omega⟩, h⟩)
/-- where reference i of place p of state s lies -/
def gmRa (M : gM) (o : Nat) (s p i : Int) : Int := s * 20800 + M (o + 22) (s * 5200 + p).toNat + i
theorem c_GM_ref_2 {k : Int → gM → Prop} (hX : gmX X o) (hs : 0 ≤ s ∧ s < 42) (hp : 0 ≤ p ∧ p < 5200) (hi : g32 i) (hr : 0 ≤ gmRa M o s p i ∧ gmRa M o s p i < 873600) (h : k (M (o + 24) (gmRa M o s p i).toNat) M) : cI l G y_GM_ref_2 (gRm d) false [gR G o, gI s, gI p, gI i] X M k :=
  e_GM_ref_2 (w_GM_ref_2_0 hX ⟨by omega, by omega⟩ ⟨by omega, by omega⟩ hi ⟨⟨by omega, by omega⟩, fun _ => ⟨hr, fun _ => h⟩⟩)
theorem c_GM_setRef {k : gM → Prop} (hX : gmX X o) (hs : 0 ≤ s ∧ s < 42) (hp : 0 ≤ p ∧ p < 5200) (hi : g32 i) (hv : g32 v) (hr : 0 ≤ gmRa M o s p i ∧ gmRa M o s p i < 873600) (h : k (gUp M (o + 24) (gmRa M o s p i).toNat v)) : cV l G y_GM_setRef (gRm d) true [gR G o, gI s, gI p, gI i, gI v] X M k :=
  e_GM_setRef (w_GM_setRef_0 hX ⟨by omega, by omega⟩ ⟨by omega, by omega⟩ hi hv ⟨⟨by omega, by omega⟩, fun _ => ⟨hr, h⟩⟩)
theorem c_GM_refOf {k : Int → gM → Prop} (hX : gmX X o) (hs : 0 ≤ M o 51 ∧ M o 51 < 42) (hp : 0 ≤ M o 52 ∧ M o 52 < 5200) (hi : g32 i) (hr : 0 ≤ gmRa M o (M o 51) (M o 52) i ∧ gmRa M o (M o 51) (M o 52) i < 873600) (h : k (M (o + 24) (gmRa M o (M o 51) (M o 52) i).toNat) M) : cI l G y_GM_refOf (gRm d) false [gR G o, gI i] X M k :=
  e_GM_refOf (w_GM_refOf_0 hX hi fun _ _ _ => ⟨⟨by omega, by omega⟩, fun _ => ⟨hr, fun _ => h⟩⟩)
theorem c_GM_corner {k : Int → gM → Prop} (hX : gmX X o) (hs : 0 ≤ s ∧ s < 42) (hp : 0 ≤ p ∧ p < 5200) (hi : g32 i) (hf : 0 ≤ M (o + 20) (s * 5200 + p).toNat ∧ M (o + 20) (s * 5200 + p).toNat < 4200)
    (hr : 0 ≤ M (o + 8) (M (o + 20) (s * 5200 + p).toNat).toNat + i ∧ M (o + 8) (M (o + 20) (s * 5200 + p).toNat).toNat + i < 45000) (h : k (M (o + 12) (M (o + 8) (M (o + 20) (s * 5200 + p).toNat).toNat + i).toNat) M) : cI l G y_GM_corner (gRm d) false [gR G o, gI s, gI p, gI i] X M k :=
  e_GM_corner (w_GM_corner_0 hX ⟨by omega, by omega⟩ ⟨by omega, by omega⟩ hi ⟨⟨by omega, by omega⟩, fun _ => ⟨hf, fun _ => ⟨hr, fun _ => h⟩⟩⟩)
theorem c_min {k : Int → gM → Prop} (hx : g32 x) (hy : g32 y1) (h : k (min x y1) M) : cI l G y_jMath_min (gRm d) false [gI x, gI y1] X M k :=
  e_jMath_min (w_jMath_min_0 hx hy ⟨fun h1 => by rw [show min x y1 = y1 by omega] at h; exact h, fun h1 => by rw [show min x y1 = x by omega] at h; exact h⟩)
theorem c_max {k : Int → gM → Prop} (hx : g32 x) (hy : g32 y1) (h : k (max x y1) M) : cI l G y_jMath_max (gRm d) false [gI x, gI y1] X M k :=
  e_jMath_max (w_jMath_max_0 hx hy ⟨fun h1 => by rw [show max x y1 = y1 by omega] at h; exact h, fun h1 => by rw [show max x y1 = x by omega] at h; exact h⟩)
/-- the column (c = 1) or the row (c = 0) of a place -/
def gmCo (a c : Int) : Int := if c = 0 then a / 26 else a % 26
theorem gmCo_bd {a : Int} (c : Int) (ha : 0 ≤ a ∧ a < 5200) : 0 ≤ gmCo a c ∧ gmCo a c < 200 := by
  unfold gmCo; split <;> omega
theorem c_GM_low {k : Int → gM → Prop} (hX : gmX X o) (hx : 0 ≤ x ∧ x < 5200) (hy : 0 ≤ y1 ∧ y1 < 5200) (hs : 0 ≤ s ∧ s ≤ 1) (h : k (min (gmCo x s) (gmCo y1 s)) M) : cI l G y_GM_low (gRm (d + 1)) false [gR G o, gI x, gI y1, gI s] X M k := by
  refine e_GM_low (w_GM_low_0 hX ⟨by omega, by omega⟩ ⟨by omega, by omega⟩ hs ?_)
  rw [Int.tdiv_eq_ediv_of_nonneg hx.1, Int.tdiv_eq_ediv_of_nonneg hy.1, Int.tmod_eq_emod_of_nonneg hx.1, Int.tmod_eq_emod_of_nonneg hy.1]
  unfold gmCo at h
  refine ⟨fun h0 => ⟨fun _ => ?_, fun h1 => absurd h0 h1⟩, fun h0 => ⟨fun h1 => absurd h1 h0, fun _ => ?_⟩⟩
  · rw [if_pos h0, if_pos h0] at h
    exact c_min ⟨by omega, by omega⟩ ⟨by omega, by omega⟩ h
  · rw [if_neg h0, if_neg h0] at h
    exact c_min ⟨by omega, by omega⟩ ⟨by omega, by omega⟩ h
theorem c_GM_high {k : Int → gM → Prop} (hX : gmX X o) (hx : 0 ≤ x ∧ x < 5200) (hy : 0 ≤ y1 ∧ y1 < 5200) (hs : 0 ≤ s ∧ s ≤ 1) (h : k (max (gmCo x s) (gmCo y1 s)) M) : cI l G y_GM_high (gRm (d + 1)) false [gR G o, gI x, gI y1, gI s] X M k := by
  refine e_GM_high (w_GM_high_0 hX ⟨by omega, by omega⟩ ⟨by omega, by omega⟩ hs ?_)
  rw [Int.tdiv_eq_ediv_of_nonneg hx.1, Int.tdiv_eq_ediv_of_nonneg hy.1, Int.tmod_eq_emod_of_nonneg hx.1, Int.tmod_eq_emod_of_nonneg hy.1]
  unfold gmCo at h
  refine ⟨fun h0 => ⟨fun _ => ?_, fun h1 => absurd h0 h1⟩, fun h0 => ⟨fun h1 => absurd h1 h0, fun _ => ?_⟩⟩
  · rw [if_pos h0, if_pos h0] at h
    exact c_max ⟨by omega, by omega⟩ ⟨by omega, by omega⟩ h
  · rw [if_neg h0, if_neg h0] at h
    exact c_max ⟨by omega, by omega⟩ ⟨by omega, by omega⟩ h
/-- how many places a range has -/
def gmSz (a b : Int) : Int := (max (gmCo a 1) (gmCo b 1) - min (gmCo a 1) (gmCo b 1) + 1) * (max (gmCo a 0) (gmCo b 0) - min (gmCo a 0) (gmCo b 0) + 1)
theorem gmSz_bd {a b : Int} (ha : 0 ≤ a ∧ a < 5200) (hb : 0 ≤ b ∧ b < 5200) : 0 ≤ gmSz a b ∧ gmSz a b ≤ 40000 := by
  have h1 := gmCo_bd 1 ha
  have h2 := gmCo_bd 1 hb
  have h3 := gmCo_bd 0 ha
  have h4 := gmCo_bd 0 hb
  unfold gmSz
  have p1 : 0 ≤ max (gmCo a 1) (gmCo b 1) - min (gmCo a 1) (gmCo b 1) + 1 ∧ max (gmCo a 1) (gmCo b 1) - min (gmCo a 1) (gmCo b 1) + 1 ≤ 200 := by omega
  have p2 : 0 ≤ max (gmCo a 0) (gmCo b 0) - min (gmCo a 0) (gmCo b 0) + 1 ∧ max (gmCo a 0) (gmCo b 0) - min (gmCo a 0) (gmCo b 0) + 1 ≤ 200 := by omega
  exact ⟨Int.mul_nonneg p1.1 p2.1, Int.le_trans (Int.mul_le_mul p1.2 p2.2 p2.1 (by decide)) (by decide)⟩
theorem c_GM_size {k : Int → gM → Prop} (hX : gmX X o) (hx : 0 ≤ x ∧ x < 5200) (hy : 0 ≤ y1 ∧ y1 < 5200) (h : k (gmSz x y1) M) : cI l G y_GM_size (gRm (d + 1 + 1)) false [gR G o, gI x, gI y1] X M k := by
  refine e_GM_size (w_GM_size_0 hX ⟨by omega, by omega⟩ ⟨by omega, by omega⟩ (c_GM_high hX hx hy (by decide) (c_GM_low hX hx hy (by decide) (c_GM_high hX hx hy (by decide) (c_GM_low hX hx hy (by decide) ?_)))))
  have hb := gmSz_bd hx hy
  have e : w32 (gmSz x y1) = gmSz x y1 := w32_id ⟨by omega, by omega⟩
  unfold gmSz at e
  rw [e]
  exact h
/-- where row (column) v comes to lie; -1: nowhere -/
def gmMv (v i n m : Int) : Int := if 0 < n then (if v < i then v else if v + n < m then v + n else -1) else (if v < i then v else if v < i - n then -1 else v + n)
theorem c_GM_moved {k : Int → gM → Prop} (hv : 0 ≤ v ∧ v < 200) (hi : 0 ≤ i ∧ i < 200) (hn : -50 ≤ n ∧ n ≤ 50) (hm : 0 ≤ t ∧ t ≤ 200) (h : k (gmMv v i n t) M) : cI l G y_GM_moved (gRm d) false [gI v, gI i, gI n, gI t] X M k := by
  refine e_GM_moved (w_GM_moved_0 ⟨by omega, by omega⟩ ⟨by omega, by omega⟩ ⟨by omega, by omega⟩ ⟨by omega, by omega⟩ ?_)
  rw [w32_id (x := i - n) ⟨by omega, by omega⟩, w32_id (x := v + n) ⟨by omega, by omega⟩]
  unfold gmMv at h
  refine ⟨fun h0 => ⟨fun h1 => ⟨fun h2 => ?_, fun h2 => ?_⟩, fun h1 => ?_⟩, fun h0 => ⟨fun h1 => ⟨fun h2 => ?_, fun h2 => ?_⟩, fun h1 => ?_⟩⟩
  · rw [if_neg (by omega), if_neg (by omega), if_neg (by omega)] at h; exact h
  · rw [if_neg (by omega), if_neg (by omega), if_pos (by omega)] at h; exact h
  · rw [if_neg (by omega), if_pos (by omega)] at h; exact h
  · rw [if_pos (by omega), if_neg (by omega), if_neg (by omega)] at h; exact h
  · rw [if_pos (by omega), if_neg (by omega), if_pos (by omega)] at h; exact h
  · rw [if_pos (by omega), if_pos (by omega)] at h; exact h
/-- a place with another row (column) -/
def gmWi (p c v : Int) : Int := if v < 0 then -1 else if c = 0 then p % 26 + 26 * v else v + 26 * (p / 26)
theorem c_GM_with {k : Int → gM → Prop} (hp : 0 ≤ p ∧ p < 5200) (hs : 0 ≤ s ∧ s ≤ 1) (hv : -1 ≤ v ∧ v < 200) (h : k (gmWi p s v) M) : cI l G y_GM_with (gRm d) false [gI p, gI s, gI v] X M k := by
  refine e_GM_with (w_GM_with_0 ⟨by omega, by omega⟩ hs ⟨by omega, by omega⟩ ?_)
  rw [Int.tdiv_eq_ediv_of_nonneg hp.1, Int.tmod_eq_emod_of_nonneg hp.1]
  unfold gmWi at h
  refine ⟨fun h0 => ⟨fun h1 => ?_, fun h1 => ?_⟩, fun h0 => ?_⟩
  · rw [if_neg (by omega), if_pos h1] at h
    rw [w32_id ⟨by omega, by omega⟩]; exact h
  · rw [if_neg (by omega), if_neg h1] at h
    rw [w32_id ⟨by omega, by omega⟩]; exact h
  · rw [if_pos (by omega)] at h; exact h
/-- the kind of the token n behind the one that is looked at -/
def gmLook (M : gM) (o : Nat) (n : Int) : Int := if M o 25 + n < M o 24 then M (o + 13) (M o 25 + n).toNat else 0
theorem c_GM_look {k : Int → gM → Prop} (hX : gmX X o) (ha : 0 ≤ M o 25 ∧ M o 25 ≤ 1000) (hm : M o 24 ≤ 100) (hn : 0 ≤ n ∧ n ≤ 3) (h : k (gmLook M o n) M) : cI l G y_GM_look (gRm d) false [gR G o, gI n] X M k := by
  refine e_GM_look (w_GM_look_0 hX ⟨by omega, by omega⟩ fun _ _ => ?_)
  rw [w32_id ⟨by omega, by omega⟩]
  unfold gmLook at h
  refine ⟨fun h1 => ?_, fun h1 => fun _ => ⟨⟨by omega, by omega⟩, fun _ => ?_⟩⟩
  · rw [if_neg (by omega)] at h; exact h
  · rw [if_pos (by omega)] at h; exact h
/-- past a token -/
def gmPass (M : gM) (o : Nat) : gM := if 20 < M o 26 ∨ M o 24 ≤ M o 25 then gUp (gUp M o 27 1) o 25 (M o 25 + 1) else gUp M o 25 (M o 25 + 1)
theorem c_GM_pass {k : gM → Prop} (hX : gmX X o) (ha : 0 ≤ M o 25 ∧ M o 25 ≤ 1000) (h : k (gmPass M o)) : cV l G y_GM_pass (gRm d) true [gR G o] X M k := by
  refine e_GM_pass (w_GM_pass_0 hX fun _ => ?_)
  simp (disch := decide) only [gUp_k]
  rw [w32_id ⟨by omega, by omega⟩]
  unfold gmPass at h
  refine ⟨fun h1 _ => ?_, fun h1 _ _ => ⟨fun h2 _ => ?_, fun h2 _ => ?_⟩⟩
  · rw [if_pos (Or.inl h1)] at h; exact h
  · rw [if_neg (by omega)] at h; exact h
  · rw [if_pos (by omega)] at h; exact h
/-- a token of kind x is needed -/
def gmNeed (M : gM) (o : Nat) (x : Int) : gM := if gmLook M o 0 = x then gmPass M o else gmPass (gUp M o 27 1) o
theorem c_GM_need {k : gM → Prop} (hX : gmX X o) (ha : 0 ≤ M o 25 ∧ M o 25 ≤ 1000) (hm : M o 24 ≤ 100) (hx : g32 x) (h : k (gmNeed M o x)) : cV l G y_GM_need (gRm (d + 1)) true [gR G o, gI x] X M k := by
  refine e_GM_need (w_GM_need_0 hX hx (c_GM_look hX ha hm (by decide) ?_))
  unfold gmNeed at h
  refine ⟨fun h1 => ?_, fun h1 => ?_⟩
  · rw [if_pos h1] at h
    exact c_GM_pass hX ha h
  · rw [if_neg h1] at h
    exact c_GM_pass hX (by rw [gUp_k (by decide)]; exact ha) h
/-- one more token -/
def gmToken (M : gM) (o : Nat) (x a b : Int) : gM := if M o 24 = 100 then gUp M o 27 1 else gUp (gUp (gUp (gUp M (o + 13) (Int.toNat (M o 24)) x) (o + 14) (Int.toNat (M o 24)) a) (o + 15) (Int.toNat (M o 24)) b) o 24 (M o 24 + 1)
theorem c_GM_token {k : gM → Prop} (hX : gmX X o) (hm : 0 ≤ M o 24 ∧ M o 24 ≤ 100) (hx : g32 x) (hs : g32 s) (ht : g32 t) (h : k (gmToken M o x s t)) : cV l G y_GM_token (gRm d) true [gR G o, gI x, gI s, gI t] X M k := by
  refine e_GM_token (w_GM_token_0 hX hx hs ht fun _ => ?_)
  simp (disch := decide) only [gUp_o, gUp_oo, gUp_ao, gUp_eq]
  unfold gmToken at h
  refine ⟨fun h1 _ => ⟨⟨by omega, by omega⟩, fun _ => ⟨⟨by omega, by omega⟩, fun _ => ⟨⟨by omega, by omega⟩, fun _ => ?_⟩⟩⟩, fun h1 => ?_⟩
  · rw [if_neg h1] at h
    rw [w32_id ⟨by omega, by omega⟩]
    exact h
  · rw [if_pos h1] at h; exact h
/-- one more node -/
def gmNode (M : gM) (o : Nat) (s a b v : Int) : gM := gUp (gUp (gUp (gUp (gUp (gUp M (o + 2) (Int.toNat (M o 9)) s) (o + 3) (Int.toNat (M o 9)) a) (o + 4) (Int.toNat (M o 9)) b) (o + 6) (Int.toNat (M o 9)) v) (o + 5) (Int.toNat (M o 9)) (-1)) o 9 (M o 9 + 1)
theorem c_GM_node {k : Int → gM → Prop} (hX : gmX X o) (hm : 0 ≤ M o 9 ∧ M o 9 < 90000) (hs : g32 s) (hx : g32 x) (hy : g32 y1) (hv : g64 v) (h : k (M o 9) (gmNode M o s x y1 v)) : cI l G y_GM_node (gRm d) true [gR G o, gI s, gI x, gI y1, gL v] X M k := by
  refine e_GM_node (w_GM_node_0 hX hs hx hy hv ?_)
  simp (disch := decide) only [gUp_o, gUp_oo, gUp_ao, gUp_eq]
  refine fun _ => ⟨hm, fun _ => ⟨hm, fun _ => ⟨hm, fun _ => ⟨hm, fun _ => ⟨hm, fun _ => fun _ => ?_⟩⟩⟩⟩⟩
  rw [w32_id (x := M o 9 + 1) ⟨by omega, by omega⟩, Int.add_sub_cancel, w32_id ⟨by omega, by omega⟩]
  exact h
/-- how tight a sign of two sides binds -/
def gmLevel (x : Int) : Int := if x = 38 then 2 else if x = 42 ∨ x = 47 then 4 else if x = 43 ∨ x = 45 then 3 else if x = 94 then 5 else if x = 60 ∨ x = 61 ∨ x = 62 ∨ x = 103 ∨ x = 108 ∨ x = 110 then 1 else 0
theorem c_GM_level {k : Int → gM → Prop} (hX : gmX X o) (hx : g32 x) (h : k (gmLevel x) M) : cI l G y_GM_level (gRm d) false [gR G o, gI x] X M k := by
  refine e_GM_level (w_GM_level_0 hX hx ?_)
  refine ⟨?_, ?_, ?_, ?_, ?_, ?_, ?_, ?_, ?_, ?_, ?_, ?_, ?_⟩
  all_goals first | (intro h1; subst h1; exact h) | (intro h1; unfold gmLevel at h; rw [if_neg (by omega), if_neg (by omega), if_neg (by omega), if_neg (by omega), if_neg (by omega)] at h; exact h)
end gmC2
