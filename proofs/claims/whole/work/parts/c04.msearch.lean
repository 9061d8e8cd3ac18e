/-! The reference: places of a range sought. -/
def gmG (o t : Nat) : Nat → Nat → Prop := fun a k => ((a = o + 34 ∨ a = o + 35 ∨ a = o + 36) ∧ t ≤ k) ∨ (a = o + 37 ∧ 64 * t ≤ k) ∨ (a = o ∧ (k = 50 ∨ k = 54))
theorem gmG_F {o t : Nat} : ∀ a k, gmG o t a k → gmF o t a k := by
  intro a k q
  unfold gmG at q
  unfold gmF
  omega
def gsA (l : Launch) (G : gG) (d : Nat) (X : gX) (k : gM → Prop) (o : Nat) (f s xs x4 x6 x8 x10 r : Int) (M : gM) : Prop := wp l G y_GM_search (gRm (d + 1 + 1 + 1)) true (kkV X k) true 38 [.val (gR G o), .val (gI f), .val (gI s), .val (gI xs), .val (gL x4), .unset, .val (gL x6), .unset, .val (gL x8), .unset, .val (gI x10), .val (gI r), .unset, .unset] [] X M 0 0
def gsB (l : Launch) (G : gG) (d : Nat) (X : gX) (k : gM → Prop) (o : Nat) (f s xs x4 x6 x8 x10 r q : Int) (M : gM) : Prop := wp l G y_GM_search (gRm (d + 1 + 1 + 1)) true (kkV X k) true 53 [.val (gR G o), .val (gI f), .val (gI s), .val (gI xs), .val (gL x4), .unset, .val (gL x6), .unset, .val (gL x8), .unset, .val (gI x10), .val (gI r), .val (gI q), .unset] [] X M 0 0
/-- how far a search has come -/
def gmSI (f : Int) (w : gVl) (al rs : List gVl) (x4 x6 x8 x10 : Int) : Prop := g64 x6 ∧ (x10 = 0 ∨ x10 = 1) ∧ (f = 34 → gMat w al 1 = gMat w rs (x4 + 1)) ∧ (f = 36 → (x10 = 0 ∧ gSif w al 0 = none ∨ x10 = 1 ∧ gSif w al 0 = gSif w rs x6)) ∧ (f = 37 → gCif w al = x8 + gCif w rs)
section gcD
variable {l : Launch} {G : gG} {d : Nat} {X : gX} {M : gM} {o t : Nat} {E : Int → gVl} {k : gM → Prop} {b : gBx}
theorem gmCell_G {p : Int} (ht : M o 50 = (t : Int)) : gOff (gmG o t) M (gmPushCell M o p) := by
  have e : (M o 50).toNat = t := by omega
  have e2 : (64 * M o 50).toNat = 64 * t := by omega
  unfold gmPushCell gmPush
  rw [e, e2]
  refine gOff.fl (gOff.up (gOff.up (gOff.up (gOff.up (gOff.up (gOff.rf _ M) ?_) ?_) ?_) ?_) ?_) (fun j _ _ => ?_) <;> unfold gmG <;> omega
theorem gmEnv.l64 (hE : gmEnv M o E) : ∀ p : Nat, p < 5200 → 0 ≤ M (o + 27) p ∧ M (o + 27) p ≤ 64 := fun p hp => by
  have q3 := (hE p hp).2.2.1
  have := (hE p hp).1.1.tx64
  rw [q3]
  omega
theorem r_at {x y : Int} (hX : gmX X o) (hx : g64 x) (hy : g64 y) (hB : gmBb M o b) (ob : gBxOk b) (hE : gmEnv M o E) (hn : t < 1200) (ht : M o 50 = (t : Int)) (h : gmPost M o t (gShw E b x y) k) : cV l G y_GM_at (gRm (d + 1 + 1)) true [gR G o, gL x, gL y] X M k := by
  have bc := ob
  unfold gBxOk at bc
  obtain ⟨b1, b2, b3, b4⟩ := hB
  refine c_GM_at hX hx hy (by unfold gmBx; rw [b1, b2, b3, b4]; omega) ⟨by omega, by omega⟩ hE.l64 ?_ ?_
  · unfold gmIn
    rw [b1, b2, b3, b4]
    intro q
    unfold gShw at h
    rw [if_pos (by omega)] at h
    obtain ⟨p, hp⟩ : ∃ p : Nat, b.c + y - 1 + 26 * (b.r + x - 1) = (p : Int) := ⟨(b.c + y - 1 + 26 * (b.r + x - 1)).toNat, by omega⟩
    rw [hp] at h ⊢
    have := gmCell_at (p := p) (t := t) (by omega) hE ht
    exact h _ this.1 this.2.1 this.2.2
  · unfold gmIn
    rw [b1, b2, b3, b4]
    intro q
    unfold gShw at h
    rw [if_neg (by omega)] at h
    exact h _ (gmPush_at ht).1 (gmPush_at ht).2.1 (gmPush_at ht).2.2
theorem r_same {p : Int} {i : Nat} {w : gVl} {k : Int → gM → Prop} (hX : gmX X o) (hp : 0 ≤ p ∧ p < 5200) (hE : gmEnv M o E) (hn : t < 1200) (ht : M o 50 = (t : Int)) (hi : i < t) (hw : gmAt M o i w) (ow : gvOk w) (h1 : gIs1 w (E p) → ∀ M2, gOff (gmG o t) M M2 → M2 o 50 = (t : Int) → k 1 M2) (h0 : ¬ gIs1 w (E p) → ∀ M2, gOff (gmG o t) M M2 → M2 o 50 = (t : Int) → k 0 M2) : cZ l G y_GM_same (gRm (d + 1 + 1)) true [gR G o, gI p, gI (i : Int)] X M k := by
  obtain ⟨q, rfl⟩ : ∃ q : Nat, p = (q : Int) := ⟨p.toNat, by omega⟩
  have hq : q < 5200 := by omega
  obtain ⟨e1, e2, e3, e4, e5⟩ := hE q hq
  refine e_GM_same (w_GM_same_0 hX ⟨by omega, by omega⟩ ⟨by omega, by omega⟩ ⟨hp, ?_⟩)
  rw [Int.toNat_natCast, e2]
  refine fun _ => ⟨fun z => ?_, fun z => h0 (fun u => u.1 z) M (gOff.rf _ _) ht⟩
  have ca := gmCell_at hq hE ht
  have cg := gmCell_G (p := (q : Int)) ht
  have l64 := hE.l64 q hq
  refine c_GM_pushCell hX hp ⟨by omega, by omega⟩ (by rw [Int.toNat_natCast]; exact l64) ?_
  rw [ca.2.2, show (t : Int) + 1 - 1 = (t : Int) by omega]
  have up : gOff (gmG o t) M (gUp (gmPushCell M o (q : Int)) o 50 (t : Int)) := cg.up (by unfold gmG; omega)
  refine fun _ => r_compare hX hn (by omega) ca.2.1 e1.1 (hw.keepF ow.tx64 ca.1 hi) ow ?_
  rw [ca.2.2, show (t : Int) + 1 - 1 = (t : Int) by omega, w32_id (x := (t : Int)) ⟨by omega, by omega⟩]
  exact ⟨fun y _ => h0 (fun u => y u.2) _ up (gUp_eq _ _ _ _), fun y _ => h1 ⟨z, y⟩ _ up (gUp_eq _ _ _ _)⟩
theorem r_search {f : Int} {s xs : Nat} {w a b' c' y : gVl} (hX : gmX X o) (hf : 34 ≤ f ∧ f ≤ 37) (hxs : xs = if f = 34 ∨ f = 35 then s else s + 1) (hE : gmEnv M o E) (hB : gmBb M o b) (ob : gBxOk b) (hn : t < 1200) (ht : M o 50 = (t : Int)) (hst : s + 2 ≤ t) (hw : gmAt M o xs w) (ow : gvOk w) (hy : f = 35 → s + 3 ≤ t ∧ gmAt M o (s + 2) y ∧ gvOk y ∧ y.kd = 1)
    (h : ∀ V, (f = 34 → V = (match gMat w (b.cells.map E) 1 with | some n => gN n | none => gE 7)) → (f = 35 → V = (match gLkp E w b.c (b.s - b.r + 1).toNat b.r with | some r => gShw E b (r - b.r + 1) y.nm | none => gE 7)) → (f = 36 → V = gOpt (gSif w (b.cells.map E) 0)) → (f = 37 → V = gN (gCif w (b.cells.map E))) → gmPost M o t V k) : cV l G y_GM_search (gRm (d + 1 + 1 + 1)) true [gR G o, gI f, gI (s : Int)] X M k := by
  have bc := ob
  unfold gBxOk at bc
  have gf : g32 f := ⟨by omega, by omega⟩
  have gs : g32 (s : Int) := ⟨by omega, by omega⟩
  have gxs : g32 (xs : Int) := ⟨by omega, by split at hxs <;> omega⟩
  have xst : xs < t := by split at hxs <;> omega
  have n6 : ∀ {M1 : gM}, gOff (gmG o t) M M1 → gmBb M1 o b := fun q => hB.keep q (fun k _ _ => by unfold gmG; omega)
  have nE : ∀ {M1 : gM}, gOff (gmG o t) M M1 → gmEnv M1 o E := fun q => hE.keepF (q.mono gmG_F)
  have key : ∀ (m : Nat) (r x4 x6 x8 x10 : Int) (M1 : gM), r + m = b.s + 1 → b.r ≤ r → gOff (gmG o t) M M1 → M1 o 50 = (t : Int) → (0 ≤ x4 ∧ x4 ≤ 26 * r) → (0 ≤ x8 ∧ x8 ≤ 26 * r) → gmSI f w (b.cells.map E) ((gRow m (b.d - b.c + 1).toNat b.c r).map E) x4 x6 x8 x10 → (f = 35 → gLkp E w b.c (b.s - b.r + 1).toNat b.r = gLkp E w b.c m r) → gsA l G d X k o f s xs x4 x6 x8 x10 r M1 := by
    intro m
    induction m with
    | zero =>
      intro r x4 x6 x8 x10 M1 hr hr2 o1 t1 h4 h8 hI hL
      obtain ⟨g6, i10, i34, i36, i37⟩ := hI
      have o1F := o1.mono gmG_F
      refine w_GM_search_38 (d := d + 1 + 1) hX gf gs gxs ⟨by omega, by omega⟩ g6 ⟨by omega, by omega⟩ ⟨by omega, by omega⟩ ⟨by omega, by omega⟩ ?_
      rw [(n6 o1).2.2.2]
      refine fun _ => ⟨fun _ => ⟨fun e => ?_, fun n34 => ⟨fun n35 => ⟨fun n37 => ⟨fun z => ?_, fun z => ?_⟩, fun e => ?_⟩, fun e => ?_⟩⟩, fun u => absurd (by omega) u⟩
      · refine r_fault hX (by decide) hn t1 ((h (gE 7) (fun _ => ?_) (fun q => by omega) (fun q => by omega) (fun q => by omega)).pre o1F)
        rw [i34 e]; rfl
      · have e : f = 36 := by omega
        refine r_fault hX (by decide) hn t1 ((h (gE 6) (fun q => by omega) (fun q => by omega) (fun _ => ?_) (fun q => by omega)).pre o1F)
        rcases i36 e with u | u
        · rw [u.2]; rfl
        · omega
      · have e : f = 36 := by omega
        refine r_push hX (g32_c (x := 1) rfl) g6 hn t1 ((h (gN x6) (fun q => by omega) (fun q => by omega) (fun _ => ?_) (fun q => by omega)).pre o1F)
        rcases i36 e with u | u
        · omega
        · rw [u.2]; rfl
      · refine r_push hX (g32_c (x := 1) rfl) ⟨by omega, by omega⟩ hn t1 ((h (gN x8) (fun q => by omega) (fun q => by omega) (fun q => by omega) (fun _ => ?_)).pre o1F)
        rw [i37 e]
        show _ = gN (x8 + 0)
        rw [Int.add_zero]
      · refine r_fault hX (by decide) hn t1 ((h (gE 7) (fun q => by omega) (fun _ => ?_) (fun q => by omega) (fun q => by omega)).pre o1F)
        rw [hL e]; rfl
    | succ m ih =>
      intro r x4 x6 x8 x10 M1 hr hr2 o1 t1 h4 h8 hI hL
      have inn : ∀ (p : Nat) (q x4 x6 x8 x10 : Int) (M1 : gM), q + p = b.d + 1 → b.c ≤ q → gOff (gmG o t) M M1 → M1 o 50 = (t : Int) → (0 ≤ x4 ∧ x4 ≤ 26 * r + q) → (0 ≤ x8 ∧ x8 ≤ 26 * r + q) → gmSI f w (b.cells.map E) ((gCol p q r ++ gRow m (b.d - b.c + 1).toNat b.c (r + 1)).map E) x4 x6 x8 x10 → (f = 35 → gLkp E w b.c (b.s - b.r + 1).toNat b.r = if q = b.c then gLkp E w b.c (m + 1) r else gLkp E w b.c m (r + 1)) → gsB l G d X k o f s xs x4 x6 x8 x10 r q M1 := by
        intro p
        induction p with
        | zero =>
          intro q x4 x6 x8 x10 M1 hq hq2 o1 t1 h4 h8 hI hL
          have hI2 := hI
          obtain ⟨g6, i10, i34, i36, i37⟩ := hI
          refine w_GM_search_53 (d := d + 1 + 1) hX gf gs gxs ⟨by omega, by omega⟩ g6 ⟨by omega, by omega⟩ ⟨by omega, by omega⟩ ⟨by omega, by omega⟩ ⟨by omega, by omega⟩ ?_
          rw [(n6 o1).2.1, w32_id (x := r + 1) ⟨by omega, by omega⟩]
          refine fun _ => ⟨fun _ => ih (r + 1) _ _ _ _ M1 (by omega) (by omega) o1 t1 ⟨by omega, by omega⟩ ⟨by omega, by omega⟩ hI2 (fun e => ?_), fun u => absurd (by omega) u⟩
          rw [hL e, if_neg (by omega)]
        | succ p ihp =>
          intro q x4 x6 x8 x10 M1 hq hq2 o1 t1 h4 h8 hI hL
          rw [show (gCol (p + 1) q r ++ gRow m (b.d - b.c + 1).toNat b.c (r + 1)).map E = E (q + 26 * r) :: (gCol p (q + 1) r ++ gRow m (b.d - b.c + 1).toNat b.c (r + 1)).map E from rfl] at hI
          obtain ⟨g6, i10, i34, i36, i37⟩ := hI
          generalize hrs : (gCol p (q + 1) r ++ gRow m (b.d - b.c + 1).toNat b.c (r + 1)).map E = rs at i34 i36 i37
          rw [show gSif w (E (q + 26 * r) :: rs) x6 = @ite (Option Int) (gIs1 w (E (q + 26 * r))) (gDIs1 _ _) (@ite (Option Int) (g64 (x6 + (if (E (q + 26 * r)).kd = 1 then (E (q + 26 * r)).nm else 0))) (gDec64 _) (gSif w rs (x6 + (if (E (q + 26 * r)).kd = 1 then (E (q + 26 * r)).nm else 0))) none) (gSif w rs x6) from rfl] at i36
          rw [show gMat w (E (q + 26 * r) :: rs) (x4 + 1) = @ite (Option Int) (gIs1 w (E (q + 26 * r))) (gDIs1 _ _) (some (x4 + 1)) (gMat w rs (x4 + 1 + 1)) from rfl] at i34
          rw [show gCif w (E (q + 26 * r) :: rs) = (@ite Int (gIs1 w (E (q + 26 * r))) (gDIs1 _ _) 1 0) + gCif w rs from rfl] at i37
          obtain ⟨pp, hpp⟩ : ∃ pp : Nat, q + 26 * r = (pp : Int) := ⟨(q + 26 * r).toNat, by omega⟩
          have g4' : g64 (x4 + 1) := ⟨by omega, by omega⟩
          have g8 : g64 x8 := ⟨by omega, by omega⟩
          have body : (f = 35 → q = b.c) → wp l G y_GM_search (gRm (d + 1 + 1 + 1)) true (kkV X k) true 86 [.val (gR G o), .val (gI f), .val (gI (s : Int)), .val (gI (xs : Int)), .val (gL (x4 + 1)), .unset, .val (gL x6), .unset, .val (gL x8), .unset, .val (gI x10), .val (gI r), .val (gI q), .unset] [] X M1 0 0 := by
            intro h35
            refine w_GM_search_86 (d := d + 1 + 1) hX gf gs gxs g4' g6 g8 ⟨by omega, by omega⟩ ⟨by omega, by omega⟩ ⟨by omega, by omega⟩ ?_
            rw [w32_id (x := q + 1) ⟨by omega, by omega⟩, w64_id (x := x8 + 1) ⟨by omega, by omega⟩]
            refine r_same (w := w) hX ⟨by omega, by omega⟩ (nE o1) hn t1 xst (hw.keepF ow.tx64 (o1.mono gmG_F) xst) ow (fun u M2 o2 t2 => ⟨fun _ => ?_, fun z => absurd z (by decide)⟩) (fun u M2 o2 t2 => ⟨fun z => absurd rfl z, fun _ => ?_⟩)
            · rw [if_pos u] at i34 i36 i37
              have o12 := o1.tr o2
              refine ⟨fun n34 => ⟨fun n35 => ⟨⟨by omega, by omega⟩, ?_⟩, fun e => ?_⟩, fun e => ?_⟩
              · have eE := nE o12
                rw [hpp] at i36 ⊢
                obtain ⟨e1, e2, e3, e4, e5⟩ := eE pp (by omega)
                rw [Int.toNat_natCast, e2, e4]
                have nxt : ∀ (x6' x10' : Int) (M3 : gM), gOff (gmG o t) M M3 → M3 o 50 = (t : Int) → g64 x6' → (x10' = 0 ∨ x10' = 1) → (f = 36 → (x10' = 0 ∧ gSif w (b.cells.map E) 0 = none ∨ x10' = 1 ∧ gSif w (b.cells.map E) 0 = gSif w rs x6')) → gsB l G d X k o f s xs (x4 + 1) x6' (x8 + 1) x10' r (q + 1) M3 := fun x6' x10' M3 o3 t3 g6' j10 j36 =>
                  ihp (q + 1) (x4 + 1) x6' (x8 + 1) x10' M3 (by omega) (by omega) o3 t3 ⟨by omega, by omega⟩ ⟨by omega, by omega⟩ (by rw [hrs]; exact ⟨g6', j10, fun e => absurd e n34, j36, fun e => by rw [i37 e]; omega⟩) (fun e => absurd e n35)
                refine fun _ => ⟨fun k1 => nxt x6 x10 M2 o12 t2 g6 i10 (fun e => ?_), fun k1 => ⟨fun z => ⟨fun _ => nxt x6 0 M2 o12 t2 g6 (Or.inl rfl) (fun e => ?_), fun z2 => absurd rfl z2⟩, fun z => ⟨⟨by omega, by omega⟩, ?_⟩⟩⟩
                · rw [if_neg k1, Int.add_zero, if_pos g6] at i36
                  exact i36 e
                · rcases i36 e with v | v
                  · exact Or.inl ⟨rfl, v.2⟩
                  · omega
                · rw [if_neg (show ¬ (E (pp : Int)).kd = 2 by omega)]
                  rw [if_pos k1] at i36
                  intro gv
                  refine c_GM_reckon hX (g32_c (x := 43) rfl) g6 gv (fun y => ⟨fun z2 => absurd z2 (by decide), fun _ => ⟨fun z2 => absurd z2 (by decide), fun _ => ?_⟩⟩) (fun y => ⟨fun _ => ⟨fun _ => nxt x6 0 _ (o12.up (by unfold gmG; omega)) (by rw [gUp_k (by decide)]; exact t2) g6 (Or.inl rfl) (fun e => ?_), fun z2 => absurd rfl z2⟩, fun z2 => absurd rfl z2⟩)
                  · rw [gUp_eq]
                    have y : g64 (x6 + (E (pp : Int)).nm) := y
                    refine fun _ => nxt (x6 + (E (pp : Int)).nm) 1 _ (o12.up (by unfold gmG; omega)) (by rw [gUp_k (by decide)]; exact t2) y (Or.inr rfl) (fun e => ?_)
                    rcases i36 e with v | v
                    · exact absurd v.1 z
                    · rw [if_pos y] at v
                      exact Or.inr ⟨rfl, v.2⟩
                  · have y : ¬ g64 (x6 + (E (pp : Int)).nm) := y
                    rcases i36 e with v | v
                    · exact absurd v.1 z
                    · rw [if_neg y] at v
                      exact Or.inl ⟨rfl, v.2⟩
              · obtain ⟨y1, y2, y3, y4⟩ := hy e
                have yk := y2.keepF y3.tx64 (o12.mono gmG_F) (by omega)
                rw [(n6 o12).2.2.1, show ((s : Int) + 2).toNat = s + 2 by omega, yk.2.2.1 (by omega), w32_id (x := r - b.r + 1) ⟨by omega, by omega⟩]
                refine fun _ => ⟨⟨by omega, by omega⟩, fun gy => r_at hX ⟨by omega, by omega⟩ gy (n6 o12) ob (nE o12) hn t2 ((h _ (fun q => by omega) (fun _ => ?_) (fun q => by omega) (fun q => by omega)).pre (o12.mono gmG_F))⟩
                have e2 := hL e
                rw [if_pos (h35 e)] at e2
                rw [e2, show gLkp E w b.c (m + 1) r = @ite (Option Int) (gIs1 w (E (b.c + 26 * r))) (gDIs1 _ _) (some r) (gLkp E w b.c m (r + 1)) from rfl, if_pos (by rw [← h35 e]; exact u)]
              · refine r_push hX (g32_c (x := 1) rfl) g4' hn t2 ((h (gN (x4 + 1)) (fun _ => ?_) (fun q => by omega) (fun q => by omega) (fun q => by omega)).pre (o12.mono gmG_F))
                rw [i34 e]
            · rw [if_neg u] at i34 i36 i37
              refine ihp (q + 1) (x4 + 1) x6 x8 x10 M2 (by omega) (by omega) (o1.tr o2) t2 ⟨by omega, by omega⟩ ⟨by omega, by omega⟩ (by rw [hrs]; exact ⟨g6, i10, i34, i36, fun e => by rw [i37 e]; omega⟩) (fun e => ?_)
              have e2 := hL e
              rw [if_pos (h35 e)] at e2
              rw [e2, if_neg (by have := h35 e; omega), show gLkp E w b.c (m + 1) r = @ite (Option Int) (gIs1 w (E (b.c + 26 * r))) (gDIs1 _ _) (some r) (gLkp E w b.c m (r + 1)) from rfl, if_neg (by rw [← h35 e]; exact u)]
          refine w_GM_search_53 (d := d + 1 + 1) hX gf gs gxs ⟨by omega, by omega⟩ g6 g8 ⟨by omega, by omega⟩ ⟨by omega, by omega⟩ ⟨by omega, by omega⟩ ?_
          rw [(n6 o1).2.1, (n6 o1).1, w64_id g4', w32_id (x := q + 1) ⟨by omega, by omega⟩]
          refine fun _ => ⟨fun u => absurd u (by omega), fun _ => ⟨fun n35 => body (fun e => absurd e n35), fun e _ => ⟨fun u => body (fun _ => by omega), fun u => ?_⟩⟩⟩
          refine ihp (q + 1) (x4 + 1) x6 x8 x10 M1 (by omega) (by omega) o1 t1 ⟨by omega, by omega⟩ ⟨by omega, by omega⟩ ⟨g6, i10, fun e2 => by omega, fun e2 => by omega, fun e2 => by omega⟩ (fun _ => ?_)
          have e2 := hL e
          rw [if_neg (by omega)] at e2
          rw [e2, if_neg (by omega)]
      have hI2 := hI
      obtain ⟨g6, i10, i34, i36, i37⟩ := hI
      refine w_GM_search_38 (d := d + 1 + 1) hX gf gs gxs ⟨by omega, by omega⟩ g6 ⟨by omega, by omega⟩ ⟨by omega, by omega⟩ ⟨by omega, by omega⟩ ?_
      rw [(n6 o1).2.2.2, (n6 o1).1]
      exact fun _ => ⟨fun u => absurd u (by omega), fun _ _ => inn (b.d - b.c + 1).toNat b.c _ _ _ _ M1 (by omega) (by omega) o1 t1 ⟨by omega, by omega⟩ ⟨by omega, by omega⟩ hI2 (fun e => by rw [if_pos rfl]; exact hL e)⟩
  have st := key (b.s - b.r + 1).toNat b.r 0 0 0 1 M (by omega) (by omega) (gOff.rf _ _) ht ⟨by omega, by omega⟩ ⟨by omega, by omega⟩ ⟨g64_c (x := 0) rfl, Or.inr rfl, fun _ => rfl, fun _ => Or.inr ⟨rfl, rfl⟩, fun _ => (Int.zero_add _).symm⟩ (fun _ => rfl)
  refine e_GM_search (w_GM_search_0 (d := d + 1 + 1) hX gf gs ?_)
  rw [hB.2.2.1, w32_id (x := (s : Int) + 1) ⟨by omega, by omega⟩]
  refine ⟨fun e _ => ?_, fun n34 => ⟨fun n35 _ => ?_, fun e _ => ?_⟩⟩
  · rw [if_pos (Or.inl e)] at hxs
    subst hxs
    exact st
  · rw [if_neg (by omega)] at hxs
    subst hxs
    exact st
  · rw [if_pos (Or.inr e)] at hxs
    subst hxs
    exact st
end gcD
