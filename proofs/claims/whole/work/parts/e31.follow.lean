/-! The sheet behind lines that come and go; the class's followed. -/
section gfS
variable {cs i n : Int} {F : gSht} {S tg : List Int}
theorem gShft_s (h : gLin cs i n) (hF : gSok F) {p q : Nat} (e : F p = some (S, tg)) (hq : gFp cs i n p = (q : Int)) : gShft F cs i n q = some (S, gFoT S tg cs i n) := by
  have ex : ∃ p : Nat, F p ≠ none ∧ gFp cs i n p = (q : Int) := ⟨p, gnE_s e, hq⟩
  have h1 := ex.choose_spec
  have lt : ∀ x : Nat, F x ≠ none → x < 5200 := fun x hx => by
    cases ex : F x with
    | none => exact absurd ex hx
    | some y => exact (hF x y.1 y.2 ex).1
  have l1 := lt _ h1.1
  have l2 := lt p (gnE_s e)
  have eq : ex.choose = p := by
    rcases Nat.lt_trichotomy ex.choose p with y | y | y
    · have := gFp_mono h (p := (ex.choose : Int)) (q := (p : Int)) (by omega) (by omega) (by rw [h1.2]; omega) (by rw [hq]; omega)
      rw [h1.2, hq] at this
      omega
    · exact y
    · have := gFp_mono h (p := (p : Int)) (q := (ex.choose : Int)) (by omega) (by omega) (by rw [hq]; omega) (by rw [h1.2]; omega)
      rw [h1.2, hq] at this
      omega
  unfold gShft
  rw [dif_pos ex, eq, e]
  rfl
theorem gShft_ex {q : Nat} (h : gShft F cs i n q ≠ none) : ∃ p : Nat, F p ≠ none ∧ gFp cs i n p = (q : Int) := by
  refine Classical.byContradiction fun y => h ?_
  unfold gShft
  rw [dif_neg y]
theorem gSok.shft (h : gLin cs i n) (hF : gSok F) : gSok (gShft F cs i n) := fun q S tg e => by
  obtain ⟨p, p1, p2⟩ := gShft_ex (gnE_s e)
  cases ep : F p with
  | none => exact absurd ep p1
  | some y =>
    have ok := hF p y.1 y.2 ep
    have := gShft_s h hF (S := y.1) (tg := y.2) ep p2
    rw [this] at e
    cases e
    have b := gFp_bd h (p := (p : Int)) (by omega)
    rw [p2] at b
    exact ⟨by omega, ok.2.fo h⟩
/-- the entries before p are the new sheet's before b -/
def gShP (F : gSht) (cs i n : Int) (p b : Nat) : Prop := b ≤ 5200 ∧ gCn (gnE (gShft F cs i n)) b ≤ gCn (gnE F) p ∧ (∀ x : Nat, p ≤ x → F x ≠ none → gFp cs i n x ≠ -1 → (b : Int) ≤ gFp cs i n x) ∧ ∀ q : Nat, b ≤ q → gShft F cs i n q ≠ none → ∃ x : Nat, p ≤ x ∧ F x ≠ none ∧ gFp cs i n x = (q : Int)
theorem gShP_0 (h : gLin cs i n) (hF : gSok F) : gShP F cs i n 0 0 := ⟨by omega, Nat.le_refl _, fun x _ y z => by
  cases e : F x with
  | none => exact absurd e y
  | some w =>
    have := gFp_bd h (p := (x : Int)) (by have := (hF x w.1 w.2 e).1; omega)
    omega, fun q _ y => by
  obtain ⟨p, p1, p2⟩ := gShft_ex y
  exact ⟨p, Nat.zero_le _, p1, p2⟩⟩
theorem gShP_n {p b : Nat} (hp : gShP F cs i n p b) (e : F p = none ∨ gFp cs i n p = -1) : gShP F cs i n (p + 1) b := by
  obtain ⟨h1, h2, h3, h4⟩ := hp
  refine ⟨h1, Nat.le_trans h2 (gCn_le (by omega)), fun x hx => h3 x (by omega), fun q hq y => ?_⟩
  obtain ⟨x, x1, x2, x3⟩ := h4 q hq y
  refine ⟨x, ?_, x2, x3⟩
  rcases Nat.lt_or_ge p x with z | z
  · exact z
  · have : x = p := by omega
    subst this
    rcases e with e | e
    · exact absurd e x2
    · omega
theorem gShP_s (h : gLin cs i n) (hF : gSok F) {p b q : Nat} (hp : gShP F cs i n p b) (e : F p = some (S, tg)) (hq : gFp cs i n p = (q : Int)) : b ≤ q ∧ q < 5200 ∧ (∀ x, b ≤ x → x < q → gShft F cs i n x = none) ∧ gShP F cs i n (p + 1) (q + 1) := by
  obtain ⟨h1, h2, h3, h4⟩ := hp
  have l1 := (hF p S tg e).1
  have b1 := h3 p (Nat.le_refl _) (gnE_s e) (by omega)
  have bd := gFp_bd h (p := (p : Int)) (by omega)
  have lt : ∀ x : Nat, F x ≠ none → x < 5200 := fun x hx => by
    cases ex : F x with
    | none => exact absurd ex hx
    | some y => exact (hF x y.1 y.2 ex).1
  have no : ∀ x, b ≤ x → x < q → gShft F cs i n x = none := fun x x1 x2 => Classical.byContradiction fun y => by
    obtain ⟨z, z1, z2, z3⟩ := h4 x x1 y
    rcases Nat.lt_or_ge p z with w | w
    · have := gFp_mono h (p := (p : Int)) (q := (z : Int)) (by omega) (by have := lt z z2; omega) (by omega) (by omega)
      omega
    · have : z = p := by omega
      subst this
      omega
  have s2 := gShft_s h hF e hq
  refine ⟨by omega, by omega, no, by omega, ?_, fun x x1 x2 x3 => ?_, fun x x1 y => ?_⟩
  · rw [gCn_y (Q := gnE F) (gnE_s e), gCn_y (Q := gnE (gShft F cs i n)) (gnE_s s2), gCn_gp (Q := gnE (gShft F cs i n)) (show b ≤ q by omega) (fun x y1 y2 z => z (no x y1 y2))]
    omega
  · have := gFp_mono h (p := (p : Int)) (q := (x : Int)) (by omega) (by have := lt x x2; omega) (by omega) x3
    omega
  · obtain ⟨z, z1, z2, z3⟩ := h4 x (by omega) y
    refine ⟨z, ?_, z2, z3⟩
    rcases Nat.lt_or_ge p z with w | w
    · exact w
    · have : z = p := by omega
      subst this
      omega
theorem gShP_e (hF : gSok F) {b : Nat} (hp : gShP F cs i n 5200 b) (x : Nat) (hx : b ≤ x) : gShft F cs i n x = none := Classical.byContradiction fun y => by
  obtain ⟨z, z1, z2, z3⟩ := hp.2.2.2 x hx y
  cases ex : F z with
  | none => exact absurd ex z2
  | some y => have := (hF z y.1 y.2 ex).1; omega
theorem gShft_n (h : gLin cs i n) (hF : gSok F) : gCn (gnE (gShft F cs i n)) 5200 ≤ gCn (gnE F) 5200 := by
  have key : ∀ p : Nat, ∃ b, gShP F cs i n p b := by
    intro p
    induction p with
    | zero => exact ⟨0, gShP_0 h hF⟩
    | succ p ih =>
      obtain ⟨b, hb⟩ := ih
      cases e : F p with
      | none => exact ⟨b, gShP_n hb (Or.inl e)⟩
      | some w =>
        by_cases y : gFp cs i n p = -1
        · exact ⟨b, gShP_n hb (Or.inr y)⟩
        · have := gFp_bd h (p := (p : Int)) (by have := (hF p w.1 w.2 e).1; omega)
          exact ⟨_, (gShP_s h hF (q := (gFp cs i n p).toNat) (S := w.1) (tg := w.2) hb e (by omega)).2.2.2⟩
  obtain ⟨b, hb⟩ := key 5200
  rw [gCn_gp (Q := gnE (gShft F cs i n)) hb.1 (fun x y1 y2 z => z (gShP_e hF hb x y1))]
  exact hb.2.1
end gfS
/-- the fields of Edits while lines come or go -/
def gEdF (M : gM) (c : Nat) (cs i n : Int) : Prop := M (c + 21) 4 = cs ∧ M (c + 21) 6 = i ∧ (0 < n → M (c + 21) 5 = 1 ∧ M (c + 21) 7 = n) ∧ (n < 0 → M (c + 21) 5 = 0 ∧ M (c + 21) 7 = -n)
section gfT
variable {l : Launch} {G : gG} {d : Nat} {X : gX} {M M2 : gM} {c r r0 : Nat} {F F2 : gSht} {cs i n : Int}
theorem gEdF.kp (h : gEdF M c cs i n) (k : ∀ j, M2 (c + 21) j = M (c + 21) j) : gEdF M2 c cs i n := by
  unfold gEdF
  rw [k, k, k, k]
  exact h
theorem gFf_32 (h : gLin cs i n) {v : Int} (hv : 0 ≤ v ∧ v < 200) : -60 ≤ gFf i n v ∧ gFf i n v ≤ 300 := by
  have hm := gFm_c h.1
  obtain ⟨h1, h2, h3, h4⟩ := h
  unfold gFf
  split
  · omega
  · split <;> omega
theorem gFla_32 (h : gLin cs i n) {v : Int} (hv : 0 ≤ v ∧ v < 200) : -60 ≤ gFla i n (gFm cs) v ∧ gFla i n (gFm cs) v ≤ 300 := by
  have hm := gFm_c h.1
  obtain ⟨h1, h2, h3, h4⟩ := h
  unfold gFla
  split
  · omega
  · split <;> omega
theorem c_Ed_lineOf {p : Int} {k : Int → gM → Prop} (hX : glX X c) (hL : gLin cs i n) (hf : gEdF M c cs i n) (hp : 0 ≤ p ∧ p < 5200) (hk : k (gmCo p cs) M) : cI l G y_Ed_lineOf (gRm d) false [gR G (c + 21), gI p] X M k := by
  refine e_Ed_lineOf (w_Ed_lineOf_0 hX ⟨by omega, by omega⟩ fun _ => ?_)
  rw [hf.1, Int.tdiv_eq_ediv_of_nonneg hp.1, Int.tmod_eq_emod_of_nonneg hp.1, w32_id (x := p / 26) ⟨by omega, by omega⟩, w32_id (x := p % 26) ⟨by omega, by omega⟩]
  unfold gmCo at hk
  exact ⟨fun y => by rw [if_pos y] at hk; exact hk, fun y => by rw [if_neg y] at hk; exact hk⟩
theorem c_Ed_onLine {p v : Int} {k : Int → gM → Prop} (hX : glX X c) (hL : gLin cs i n) (hf : gEdF M c cs i n) (hp : 0 ≤ p ∧ p < 5200) (hv : 0 ≤ v ∧ v < gFm cs) (hk : k (gmWi p cs v) M) : cI l G y_Ed_onLine (gRm (d + 1)) false [gR G (c + 21), gI p, gI v] X M k := by
  have hm := gFm_c hL.1
  refine e_Ed_onLine (w_Ed_onLine_0 hX ⟨by omega, by omega⟩ ⟨by omega, by omega⟩ fun _ => ?_)
  rw [hf.1, Int.tdiv_eq_ediv_of_nonneg hp.1, Int.tmod_eq_emod_of_nonneg hp.1]
  unfold gmWi at hk
  unfold gFm at hv
  rw [if_neg (by omega)] at hk
  refine ⟨fun y => ?_, fun y => ?_⟩
  · rw [if_pos y] at hk hv
    exact c_GL_place (by unfold gIs; omega) hk
  · rw [if_neg y] at hk hv
    exact c_GL_place (by unfold gIs; omega) hk
theorem c_Ed_followedFirst {v : Int} {k : Int → gM → Prop} (hX : glX X c) (hL : gLin cs i n) (hf : gEdF M c cs i n) (hv : 0 ≤ v ∧ v < 200) (hk : k (gFf i n v) M) : cI l G y_Ed_followedFirst (gRm (d + 1)) false [gR G (c + 21), gI v] X M k := by
  have hm := gFm_c hL.1
  obtain ⟨l1, l2, l3, l4⟩ := hL
  obtain ⟨f1, f2, f3, f4⟩ := hf
  refine e_Ed_followedFirst (w_Ed_followedFirst_0 hX ⟨by omega, by omega⟩ fun _ => ?_)
  rw [f2]
  unfold gFf at hk
  refine ⟨fun y => ?_, fun y => by rw [if_pos (by omega)] at hk; exact hk⟩
  rw [if_neg (by omega)] at hk
  by_cases z : 0 < n
  · rw [if_pos z] at hk
    rw [(f3 z).1, (f3 z).2, w32_id (x := v + n) ⟨by omega, by omega⟩]
    exact fun _ => ⟨fun w => absurd w (by decide), fun _ _ => hk⟩
  · rw [if_neg z] at hk
    have q := f4 (by omega)
    rw [q.1, q.2, show v - -n = v + n by omega]
    exact fun _ => ⟨fun _ _ _ => c_max ⟨by omega, by omega⟩ ⟨by omega, by omega⟩ hk, fun w => absurd rfl w⟩
theorem c_Ed_followedLast {v : Int} {k : Int → gM → Prop} (hX : glX X c) (hL : gLin cs i n) (hf : gEdF M c cs i n) (hv : 0 ≤ v ∧ v < 200) (hk : k (gFla i n (gFm cs) v) M) : cI l G y_Ed_followedLast (gRm (d + 1)) false [gR G (c + 21), gI v] X M k := by
  have hm := gFm_c hL.1
  obtain ⟨l1, l2, l3, l4⟩ := hL
  obtain ⟨f1, f2, f3, f4⟩ := hf
  refine e_Ed_followedLast (w_Ed_followedLast_0 hX ⟨by omega, by omega⟩ fun _ => ?_)
  rw [f2, f1]
  unfold gFla at hk
  refine ⟨fun y => ?_, fun y => by rw [if_pos (by omega)] at hk; exact hk⟩
  rw [if_neg (by omega)] at hk
  by_cases z : 0 < n
  · rw [if_pos z] at hk
    rw [(f3 z).1, (f3 z).2]
    refine fun _ => ⟨fun w => absurd w (by decide), fun _ _ _ => c_GL_lines (by omega) ?_⟩
    rw [show (if cs = 0 then (200 : Int) else 26) = gFm cs from rfl]
    exact c_min ⟨by omega, by omega⟩ ⟨by omega, by omega⟩ hk
  · rw [if_neg z] at hk
    have q := f4 (by omega)
    rw [q.1, q.2, show v - -n = v + n by omega]
    exact fun _ => ⟨fun _ _ _ => c_max ⟨by omega, by omega⟩ ⟨by omega, by omega⟩ hk, fun w => absurd rfl w⟩
theorem c_Ed_followed {p : Int} {k : Int → gM → Prop} (hX : glX X c) (hL : gLin cs i n) (hf : gEdF M c cs i n) (hp : p = -1 ∨ 0 ≤ p ∧ p < 5200) (hk : k (gFp cs i n p) M) : cI l G y_Ed_followed (gRm (d + 1 + 1)) false [gR G (c + 21), gI p] X M k := by
  unfold gFp at hk
  refine e_Ed_followed (w_Ed_followed_0 hX ⟨by omega, by omega⟩ ⟨fun y => ?_, fun y => by rw [if_pos y] at hk; exact hk⟩)
  have hm := gFm_c hL.1
  have c1 := gmCo_m hL.1 (show 0 ≤ p ∧ p < 5200 by omega)
  rw [if_neg y, gmMv_f (by have := hL.2.2.2; omega)] at hk
  refine c_Ed_lineOf hX hL hf (by omega) (c_Ed_followedFirst hX hL hf (by omega) (c_Ed_followedLast hX hL hf (by omega) ⟨fun z => ?_, fun z => ?_⟩))
  · rw [if_pos z] at hk; exact hk
  · rw [if_neg z] at hk
    exact c_Ed_onLine hX hL hf (by omega) (gFlf_bd hL ⟨c1.1, Int.le_refl _⟩ c1.2 (by omega)).1 hk
theorem c_Ed_addFollowedRange {q j : Nat} {x y : Int} {k : gM → Prop} (hX : glX X c) (hs3 : X.2.2 (c + 21) 3 = r ∧ gsX X r) (hcr : c + 22 < r) (hL : gLin cs i n) (hf : gEdF M c cs i n) (hF2 : gSok F2) (hx : 0 ≤ x ∧ x < 5200) (hy : 0 ≤ y ∧ y < 5200) (hp : gcPe M c r F2 q j) (hn : gCn (gnE F2) q < 400) (hs : gSp F2 q + j + 1 < 20000)
    (hk : ∀ M2, gOff (fun a k => (a = r + 4 ∧ gSp F2 q + j ≤ k) ∨ (a = r + 3 ∧ k = gCn (gnE F2) q + 1)) M M2 → gcPe M2 c r F2 q (j + 1 + 1) → M2 (r + 4) (gSp F2 q + j) = gFrg cs i n x y true → M2 (r + 4) (gSp F2 q + (j + 1)) = gFrg cs i n y x false → k M2) : cV l G y_Ed_addFollowedRange (gRm (d + 1 + 1)) true [gR G (c + 21), gI x, gI y] X M k := by
  have hm := gFm_c hL.1
  have c1 := gmCo_m hL.1 hx
  have c2 := gmCo_m hL.1 hy
  have g1 := gFf_32 hL (v := min (gmCo x cs) (gmCo y cs)) (by omega)
  have g2 := gFla_32 hL (v := max (gmCo x cs) (gmCo y cs)) (by omega)
  have b1 := gFrg_bd hL (x := x) (y := y) (f := true) (Or.inr hx) (fun _ => hy)
  have b2 := gFrg_bd hL (x := y) (y := x) (f := false) (Or.inr hy) (fun _ => hx)
  have e1 : gFrg cs i n x y true = if gFla i n (gFm cs) (max (gmCo x cs) (gmCo y cs)) < gFf i n (min (gmCo x cs) (gmCo y cs)) then -1 else gmWi x cs (if gmCo x cs ≤ gmCo y cs then gFf i n (min (gmCo x cs) (gmCo y cs)) else gFla i n (gFm cs) (max (gmCo x cs) (gmCo y cs))) := by
    unfold gFrg
    rw [if_neg (show ¬ x = -1 by omega)]
    simp
  have e2 : gFrg cs i n y x false = if gFla i n (gFm cs) (max (gmCo x cs) (gmCo y cs)) < gFf i n (min (gmCo x cs) (gmCo y cs)) then -1 else gmWi y cs (if gmCo y cs < gmCo x cs then gFf i n (min (gmCo x cs) (gmCo y cs)) else gFla i n (gFm cs) (max (gmCo x cs) (gmCo y cs))) := by
    unfold gFrg
    rw [if_neg (show ¬ y = -1 by omega), show max (gmCo y cs) (gmCo x cs) = max (gmCo x cs) (gmCo y cs) by omega, show min (gmCo y cs) (gmCo x cs) = min (gmCo x cs) (gmCo y cs) by omega]
    simp
  generalize gFrg cs i n x y true = v1 at hk b1 e1
  generalize gFrg cs i n y x false = v2 at hk b2 e2
  -- the second one
  have snd : ∀ M3, gOff (fun a k => (a = r + 4 ∧ k = gSp F2 q + j) ∨ (a = r + 3 ∧ k = gCn (gnE F2) q + 1)) M M3 → gcPe M3 c r F2 q (j + 1) → M3 (r + 4) (gSp F2 q + j) = v1 → cV l G y_St_addTarget (gRm (d + 1)) true [gR G r, gI v2] X M3 k := fun M3 o3 p3 t3 =>
    c_St_addTarget hs3.2 (by omega) hF2 p3 hn (by omega) ⟨by omega, by omega⟩ (fun M4 o4 p4 t4 => hk M4 ((o3.mono (fun a k h => by omega)).tr (o4.mono (fun a k h => by omega))) p4 ((o4 _ _ (by omega)).trans t3) t4)
  refine e_Ed_addFollowedRange (w_Ed_addFollowedRange_0 hX ⟨by omega, by omega⟩ ⟨by omega, by omega⟩ (c_Ed_lineOf hX hL hf hx (c_Ed_lineOf hX hL hf hy (c_min ⟨by omega, by omega⟩ ⟨by omega, by omega⟩ (c_Ed_followedFirst hX hL hf (by omega) (c_max ⟨by omega, by omega⟩ ⟨by omega, by omega⟩ (c_Ed_followedLast hX hL hf (by omega) ⟨fun z => ?_, fun z => ?_⟩)))))))
  · rw [if_pos z] at e1 e2
    subst e1
    subst e2
    exact w_Ed_addFollowedRange_49 hX ⟨by omega, by omega⟩ ⟨by omega, by omega⟩ ⟨by omega, by omega⟩ ⟨by omega, by omega⟩ ⟨by omega, by omega⟩ ⟨by omega, by omega⟩ (g32_c rfl) hs3 ⟨fun _ => c_St_addTarget hs3.2 (by omega) hF2 hp hn (by omega) ⟨by decide, by decide⟩ (fun M3 o3 p3 t3 => ⟨fun _ => snd M3 o3 p3 t3, fun w => absurd rfl w⟩), fun w => absurd rfl w⟩
  · rw [if_neg z] at e1 e2
    have bb := gFlf_bd hL (u := min (gmCo x cs) (gmCo y cs)) (v := max (gmCo x cs) (gmCo y cs)) (by omega) (by omega) (by omega)
    have hf3 : ∀ M3, gOff (fun a k => (a = r + 4 ∧ k = gSp F2 q + j) ∨ (a = r + 3 ∧ k = gCn (gnE F2) q + 1)) M M3 → gEdF M3 c cs i n := fun M3 o3 => hf.kp (fun j => o3 _ _ (by omega))
    refine w_Ed_addFollowedRange_49 hX ⟨by omega, by omega⟩ ⟨by omega, by omega⟩ ⟨by omega, by omega⟩ ⟨by omega, by omega⟩ ⟨by omega, by omega⟩ ⟨by omega, by omega⟩ (g32_c rfl) hs3 ⟨fun w => absurd w (by decide), fun _ => ⟨fun w => ?_, fun w => ?_⟩⟩
    · rw [if_neg (by omega)] at e1
      rw [if_pos w] at e2
      refine c_Ed_onLine hX hL hf hx bb.2 ?_
      rw [← e1]
      refine c_St_addTarget hs3.2 (by omega) hF2 hp hn (by omega) ⟨by omega, by omega⟩ (fun M3 o3 p3 t3 => ⟨fun w => absurd w (by decide), fun _ => ⟨fun _ => ?_, fun u => absurd w u⟩⟩)
      refine c_Ed_onLine hX hL (hf3 M3 o3) hy bb.1 ?_
      rw [← e2]
      exact snd M3 o3 p3 t3
    · rw [if_pos (by omega)] at e1
      rw [if_neg w] at e2
      refine c_Ed_onLine hX hL hf hx bb.1 ?_
      rw [← e1]
      refine c_St_addTarget hs3.2 (by omega) hF2 hp hn (by omega) ⟨by omega, by omega⟩ (fun M3 o3 p3 t3 => ⟨fun w => absurd w (by decide), fun _ => ⟨fun u => absurd u w, fun _ => ?_⟩⟩)
      refine c_Ed_onLine hX hL (hf3 M3 o3) hy bb.2 ?_
      rw [← e2]
      exact snd M3 o3 p3 t3
end gfT
