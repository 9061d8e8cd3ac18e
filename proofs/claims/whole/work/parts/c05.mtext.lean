/-! The reference: works of texts. -/
theorem gPfx_iff : ∀ (a b : List Int), gPfx a b = true ↔ a.length ≤ b.length ∧ b.take a.length = a := by
  intro a
  induction a with
  | nil => intro b; unfold gPfx; simp
  | cons x a ih =>
    intro b
    cases b with
    | nil => unfold gPfx; simp
    | cons y b =>
      unfold gPfx
      rw [Bool.and_eq_true, ih b, beq_iff_eq, List.length_cons, List.length_cons, List.take_succ_cons, List.cons.injEq]
      constructor
      · rintro ⟨h1, h2, h3⟩; exact ⟨by omega, h1.symm, h3⟩
      · rintro ⟨h1, h2, h3⟩; exact ⟨h2.symm, by omega, h3⟩
section gcE
variable {l : Launch} {G : gG} {d : Nat} {X : gX} {M : gM} {o t : Nat} {E : Int → gVl} {k : gM → Prop}
theorem r_piece {i : Nat} {f n : Int} {w : gVl} (hX : gmX X o) (hi : i < t) (hn : t < 1200) (ht : M o 50 = (t : Int)) (hw : gmAt M o i w) (ow : gvOk w) (hf : 0 ≤ f ∧ f ≤ 64) (hnn : 0 ≤ n ∧ g64 n) (h : gmPost M o t (gTxt ((w.tx.drop f.toNat).take (gmPl (w.tx.length : Int) f n).toNat)) k) : cV l G y_GM_piece (gRm (d + 1)) true [gR G o, gI (i : Int), gL f, gL n] X M k := by
  have l64 := ow.tx64
  have e : (M o 50).toNat = t := by omega
  have e2 : (64 * M o 50).toNat = 64 * t := by omega
  refine c_GM_piece hX ⟨by omega, by omega⟩ (by omega) (by rw [Int.toNat_natCast, hw.2.1]; omega) hf hnn ?_
  have pa := gmPush_at (M := M) (o := o) (t := t) (s := 2) (v := 0) ht
  have bl : 0 ≤ gmPl (w.tx.length : Int) f n ∧ f + gmPl (w.tx.length : Int) f n ≤ max f (w.tx.length : Int) := by unfold gmPl; split <;> omega
  unfold gmPiece
  rw [Int.toNat_natCast, hw.2.1, e, e2]
  have len : ((w.tx.drop f.toNat).take (gmPl (w.tx.length : Int) f n).toNat).length = (gmPl (w.tx.length : Int) f n).toNat := by
    rw [List.length_take, List.length_drop]
    omega
  refine h _ ?_ ⟨?_, ?_, fun q => absurd rfl q, ?_⟩ ?_
  · refine gOff.fl (gOff.up pa.1 ?_) (fun j _ _ => ?_) <;> unfold gmF <;> omega
  · rw [gFl_oo (by decide), gUp_oo (by decide), pa.2.1.1]; rfl
  · rw [gFl_oo (by decide), gUp_eq]
    show _ = (((w.tx.drop f.toNat).take (gmPl (w.tx.length : Int) f n).toNat).length : Int)
    rw [len]
    omega
  · show gBy _ (o + 37) (64 * t) ((w.tx.drop f.toNat).take (gmPl (w.tx.length : Int) f n).toNat).length = _
    refine gBy_of _ _ (fun j hj => ?_)
    rw [len] at hj
    rw [gFl_in (by omega) (by omega), List.getD_eq_getElem?_getD, List.getElem?_take_of_lt hj, List.getElem?_drop, ← List.getD_eq_getElem?_getD]
    have := gBy_at hw.2.2.2 (j := f.toNat + j) (by omega)
    rw [← this]
    congr 1
    omega
  · rw [gFl_o (by decide), gUp_o (by decide)]
    exact pa.2.2
theorem gmFd_eq {i j : Nat} {a b : gVl} (ha : gmAt M o i a) (hb : gmAt M o j b) : ∀ (n p : Nat), p + n ≤ b.tx.length + 1 - a.tx.length → a.tx.length ≤ b.tx.length → gmFd M o (i : Int) (j : Int) n (p : Int) = (match gFnd a.tx b.tx n p with | some q => (q : Int) | none => -1) := by
  intro n
  induction n with
  | zero => intro p _ _; rfl
  | succ n ih =>
    intro p hp hl
    unfold gmFd gFnd
    rw [Int.toNat_natCast, ha.2.1, Int.toNat_natCast, show (64 * (i : Int)).toNat = 64 * i by omega, ha.2.2.2, show (64 * (j : Int) + (p : Int)).toNat = 64 * j + p by omega, gBy_sub hb.2.2.2 (by omega), show (p : Int) + 1 = ((p + 1 : Nat) : Int) by omega, ih (p + 1) (by omega) hl]
    have pi := gPfx_iff a.tx (b.tx.drop p)
    by_cases q : gPfx a.tx (b.tx.drop p) = true
    · rw [if_pos q, if_pos (pi.mp q).2.symm]
    · rw [if_neg q, if_neg (fun z => q (pi.mpr ⟨by rw [List.length_drop]; omega, z.symm⟩))]
theorem r_find {i j p : Nat} {a b : gVl} {k : Int → gM → Prop} (hX : gmX X o) (hi : i < 1200) (hj : j < 1200) (ha : gmAt M o i a) (oa : gvOk a) (hb : gmAt M o j b) (ob : gvOk b) (hp : p ≤ 64) (h : k (match gFind a.tx b.tx p with | some q => (q : Int) | none => -1) M) : cI l G y_GM_find (gRm (d + 1)) false [gR G o, gI (i : Int), gI (j : Int), gI (p : Int)] X M k := by
  have l1 := oa.tx64
  have l2 := ob.tx64
  refine c_GM_find hX ⟨by omega, by omega⟩ ⟨by omega, by omega⟩ (by rw [Int.toNat_natCast, ha.2.1]; omega) (by rw [Int.toNat_natCast, hb.2.1]; omega) ⟨by omega, by omega⟩ ?_
  rw [Int.toNat_natCast, Int.toNat_natCast, ha.2.1, hb.2.1, show ((b.tx.length : Int) + 1 - (a.tx.length : Int) - (p : Int)).toNat = b.tx.length + 1 - a.tx.length - p by omega]
  unfold gFind at h
  by_cases q : a.tx.length ≤ b.tx.length ∧ p ≤ b.tx.length + 1 - a.tx.length
  · rw [gmFd_eq ha hb _ _ (by omega) q.1]
    exact h
  · rw [show b.tx.length + 1 - a.tx.length - p = 0 by omega] at h ⊢
    exact h
theorem gFnd_at (a b : List Int) (p : Nat) (hp : p ≤ b.length) : (match gFind a b p with | some q => (q : Int) | none => -1) = (p : Int) ↔ gPfx a (b.drop p) = true := by
  unfold gFind
  cases hn : b.length + 1 - a.length - p with
  | zero =>
    constructor
    · intro q
      have : (-1 : Int) = (p : Int) := q
      omega
    · intro q
      have := (gPfx_iff _ _).mp q
      rw [List.length_drop] at this
      have h1 := this.1
      omega
  | succ n =>
    unfold gFnd
    by_cases q : gPfx a (b.drop p) = true
    · rw [if_pos q]
      exact ⟨fun _ => q, fun _ => rfl⟩
    · rw [if_neg q]
      refine ⟨fun z => ?_, fun z => absurd z q⟩
      cases hq : gFnd a b n (p + 1) with
      | none => rw [hq] at z; have : (-1 : Int) = (p : Int) := z; omega
      | some y =>
        rw [hq] at z
        have : (y : Int) = (p : Int) := z
        have := (gFnd_ok _ _ _ _ _ hq).1
        omega
theorem r_replace {s : Nat} {a b c : gVl} (hX : gmX X o) (hst : s + 3 ≤ t) (hn : t < 1200) (ht : M o 50 = (t : Int)) (ha : gmAt M o s a) (oa : gvOk a) (hb : gmAt M o (s + 1) b) (ob : gvOk b) (hc : gmAt M o (s + 2) c) (oc : gvOk c) (h : gmPost M o t (if 64 < (gRepl b.tx c.tx a.tx).length then gE 4 else gTxt (gRepl b.tx c.tx a.tx)) k) : cV l G y_GM_replace (gRm (d + 1 + 1)) true [gR G o, gI (s : Int)] X M k := by
  have l1 := oa.tx64
  have l2 := ob.tx64
  have l3 := oc.tx64
  have gs : g32 (s : Int) := ⟨by omega, by omega⟩
  have b0 : (0 : Int) ≤ (s : Int) ∧ (s : Int) < 1200 := ⟨by omega, by omega⟩
  have b1 : (0 : Int) ≤ (s : Int) + 1 ∧ (s : Int) + 1 < 1200 := ⟨by omega, by omega⟩
  have b2 : (0 : Int) ≤ (s : Int) + 2 ∧ (s : Int) + 2 < 1200 := ⟨by omega, by omega⟩
  have f39 : ∀ a k, (a = o + 39) → gmF o t a k := fun a k q => by unfold gmF; omega
  -- what is kept while made is written
  have kp : ∀ {M1 : gM} {i : Nat} {w : gVl}, gOff (fun a _ => a = o + 39) M M1 → gmAt M o i w → gmAt M1 o i w := fun q u => u.keep q (by omega) (by omega) (by omega) (fun j _ => by omega)
  have key : ∀ (m p : Nat) (pre : List Int) (M1 : gM), p + m = a.tx.length → gOff (fun a _ => a = o + 39) M M1 → gBy M1 (o + 39) 0 pre.length = pre → pre.length ≤ 64 * p → gRepl b.tx c.tx a.tx = pre ++ gRepl b.tx c.tx (a.tx.drop p) → (∀ x ∈ pre, -128 ≤ x ∧ x < 128) →
      wp l G y_GM_replace (gRm (d + 1 + 1)) true (kkV X k) true 4 [.val (gR G o), .val (gI (s : Int)), .val (gI (pre.length : Int)), .val (gI (p : Int)), .unset, .unset] [] X M1 0 0 := by
    intro m
    induction m using Nat.strongRecOn with
    | _ m ih =>
      intro p pre M1 hp o1 hpre hlen hR hby
      have a1 := kp o1 ha
      have b1' := kp o1 hb
      have c1 := kp o1 hc
      have t1 : M1 o 50 = (t : Int) := (o1 _ _ (by omega)).trans ht
      refine w_GM_replace_4 (d := d + 1) hX gs ⟨by omega, by omega⟩ ⟨by omega, by omega⟩ ⟨b0, ?_⟩
      rw [Int.toNat_natCast, a1.2.1, show ((s : Int) + 1).toNat = s + 1 by omega, b1'.2.1]
      -- one letter goes over
      have one : p < a.tx.length → ¬ (b.tx ≠ [] ∧ gPfx b.tx (a.tx.drop p) = true) → ((0 ≤ (64 * (s : Int)) + (p : Int) ∧ (64 * (s : Int)) + (p : Int) < 76800) ∧ ((-128 ≤ M1 (o + 37) (Int.toNat ((64 * (s : Int)) + (p : Int))) ∧ M1 (o + 37) (Int.toNat ((64 * (s : Int)) + (p : Int))) < 128) → ((0 ≤ (pre.length : Int) ∧ (pre.length : Int) < 4200) ∧ (wp l G y_GM_replace (gRm (d + 1 + 1)) true (kkV X k) true 4 [.val (gR G o), .val (gI (s : Int)), .val (gI (w32 ((pre.length : Int) + 1))), .val (gI (w32 ((p : Int) + 1))), .unset, .unset] [] X (gUp M1 (o + 39) (Int.toNat (pre.length : Int)) (gByte (M1 (o + 37) (Int.toNat ((64 * (s : Int)) + (p : Int)))))) 0 0)))) := by
        intro hlt hno
        have hx := gBy_at a1.2.2.2 hlt
        rw [show ((64 * (s : Int)) + (p : Int)).toNat = 64 * s + p by omega, hx, Int.toNat_natCast]
        refine ⟨⟨by omega, by omega⟩, fun bx => ⟨⟨by omega, by omega⟩, ?_⟩⟩
        rw [gByte_id bx, w32_id (x := (p : Int) + 1) ⟨by omega, by omega⟩, w32_id (x := (pre.length : Int) + 1) ⟨by omega, by omega⟩]
        have hd : a.tx.drop p = a.tx.getD p 0 :: a.tx.drop (p + 1) := by
          rw [List.getD_eq_getElem?_getD, List.getElem?_eq_getElem hlt]
          exact List.drop_eq_getElem_cons hlt
        have ll : (pre ++ [a.tx.getD p 0]).length = pre.length + 1 := by rw [List.length_append]; rfl
        have st := ih (m - 1) (by omega) (p + 1) (pre ++ [a.tx.getD p 0]) (gUp M1 (o + 39) pre.length (a.tx.getD p 0)) (by omega) (o1.up rfl) ?_ (by rw [ll]; omega) ?_ ?_
        · rw [ll, show ((pre.length + 1 : Nat) : Int) = (pre.length : Int) + 1 by omega, show ((p + 1 : Nat) : Int) = (p : Int) + 1 by omega] at st
          exact st
        · refine gBy_app ?_ ?_
          · refine gBy_of _ _ (fun j hj => ?_)
            rw [gUp_k (by omega)]
            exact gBy_at hpre hj
          · refine gBy_of _ _ (fun j hj => ?_)
            have : j = 0 := by have : j < 1 := hj; omega
            subst this
            simp only [Nat.zero_add, Nat.add_zero, gUp_eq]
            rfl
        · rw [hR, hd, gRepl_cons, if_neg (by rw [← hd]; exact hno), List.append_assoc]
          rfl
        · intro x hx2
          rcases List.mem_append.mp hx2 with q | q
          · exact hby x q
          · rw [List.mem_singleton.mp q]; exact bx
      refine fun _ => ⟨fun z => ⟨fun z2 => ?_, fun z2 => ?_⟩, fun z => ⟨b1, fun _ => ⟨fun z2 => ⟨fun _ => one (by omega) ?_, fun y => absurd rfl y⟩, fun z2 => ?_⟩⟩⟩
      · have ep : p = a.tx.length := by omega
        have eR : gRepl b.tx c.tx a.tx = pre := by rw [hR, ep, List.drop_length, gRepl_nil, List.append_nil]
        rw [eR, if_neg (by omega)] at h
        refine c_GM_push hX (g32_c (x := 2) rfl) (g64_c (x := 0) rfl) ⟨by omega, by omega⟩ ?_
        have pa := gmPush_at (M := M1) (o := o) (t := t) (s := 2) (v := 0) t1
        rw [pa.2.2, show (t : Int) + 1 - 1 = (t : Int) by omega, Int.toNat_natCast]
        refine fun _ => ⟨⟨by omega, by omega⟩, ?_⟩
        have oo : gOff (gmF o t) M (gUp (gmPush M1 o 2 0) (o + 35) t (pre.length : Int)) := ((o1.mono f39).tr pa.1).up (by unfold gmF; omega)
        have m39 : ∀ j, (gmPush M1 o 2 0) (o + 39) j = M1 (o + 39) j := fun j => by unfold gmPush; simp (disch := decide) only [gUp_ao, gUp_oo]
        have cp : ∀ (n q : Nat), q + n = pre.length → wp l G y_GM_replace (gRm (d + 1 + 1)) true (kkV X k) true 179 [.val (gR G o), .unset, .val (gI (pre.length : Int)), .unset, .val (gI (q : Int)), .unset] [] X (gFl (gUp (gmPush M1 o 2 0) (o + 35) t (pre.length : Int)) (o + 37) (64 * t) (fun j => pre.getD j 0) q) 0 0 := by
          intro n
          induction n with
          | zero =>
            intro q hq
            have e : q = pre.length := by omega
            subst e
            refine w_GM_replace_179 (d := d + 1) hX ⟨by omega, by omega⟩ ⟨by omega, by omega⟩ ⟨fun _ => h _ ?_ ⟨?_, ?_, fun q => absurd rfl q, ?_⟩ ?_, fun y => absurd (Int.le_refl _) y⟩
            · exact oo.fl (fun j _ _ => by unfold gmF; omega)
            · rw [gFl_oo (by decide), gUp_oo (by decide), pa.2.1.1]; rfl
            · rw [gFl_oo (by decide), gUp_eq]; rfl
            · show gBy _ (o + 37) (64 * t) pre.length = pre
              refine gBy_of _ _ (fun j hj => ?_)
              rw [gFl_in (by omega) (by omega)]
              congr 1
              omega
            · rw [gFl_o (by decide), gUp_o (by decide)]
              exact pa.2.2
          | succ n ihn =>
            intro q hq
            have i1 := ihn (q + 1) (by omega)
            refine w_GM_replace_179 (d := d + 1) hX ⟨by omega, by omega⟩ ⟨by omega, by omega⟩ ⟨fun y => absurd y (by omega), fun _ => ?_⟩
            have hm : (gFl (gUp (gmPush M1 o 2 0) (o + 35) t (pre.length : Int)) (o + 37) (64 * t) (fun j => pre.getD j 0) q) (o + 39) q = pre.getD q 0 := by
              rw [gFl_oo (by decide), gUp_oo (by decide), m39]
              have := gBy_at hpre (j := q) (by omega)
              rw [Nat.zero_add] at this
              exact this
            rw [Int.toNat_natCast, hm, gFl_o (by decide), gUp_o (by decide), pa.2.2, show (t : Int) + 1 - 1 = (t : Int) by omega, show (64 * (t : Int) + (q : Int)).toNat = 64 * t + q by omega, gI_w]
            have bq := hby (pre.getD q 0) (by rw [List.getD_eq_getElem?_getD, List.getElem?_eq_getElem (by omega)]; exact List.getElem_mem _)
            refine fun _ => ⟨⟨by omega, by omega⟩, fun _ => ⟨⟨by omega, by omega⟩, ?_⟩⟩
            rw [gByte_id bq]
            rw [← gFl_s] at i1
            exact i1
        have c0 := cp pre.length 0 (by omega)
        rw [gFl_0] at c0
        exact c0
      · have ep : p = a.tx.length := by omega
        have eR : gRepl b.tx c.tx a.tx = pre := by rw [hR, ep, List.drop_length, gRepl_nil, List.append_nil]
        rw [eR, if_pos (by omega)] at h
        exact r_fault hX (by decide) hn t1 (h.pre (o1.mono f39))
      · intro y
        exact y.1 (List.length_eq_zero_iff.mp (by omega))
      · have bne : b.tx ≠ [] := fun y => by rw [y] at z2; exact z2 (by decide)
        refine r_find (i := s + 1) (j := s) hX (by omega) (by omega) b1' ob a1 oa (by omega) ⟨fun y => ⟨fun _ => one (by omega) (fun u => y ((gFnd_at _ _ _ (by omega)).mpr u.2)), fun y2 => absurd rfl y2⟩, fun y => ⟨fun y2 => absurd y2 (by decide), fun _ => ?_⟩⟩
        have pf := (gFnd_at _ _ _ (by omega)).mp y
        -- the new text is written
        have cp : ∀ (n q : Nat), q + n = c.tx.length → wp l G y_GM_replace (gRm (d + 1 + 1)) true (kkV X k) true 53 [.val (gR G o), .val (gI (s : Int)), .val (gI (pre.length : Int)), .val (gI (p : Int)), .unset, .val (gI (q : Int))] [] X (gFl M1 (o + 39) pre.length (fun j => c.tx.getD j 0) q) 0 0 := by
          intro n
          induction n with
          | zero =>
            intro q hq
            have e : q = c.tx.length := by omega
            subst e
            have o2 : gOff (fun a _ => a = o + 39) M (gFl M1 (o + 39) pre.length (fun j => c.tx.getD j 0) c.tx.length) := o1.fl (fun j _ _ => rfl)
            have c2 := kp o2 hc
            have b2' := kp o2 hb
            have pl := (gPfx_iff _ _).mp pf
            rw [List.length_drop] at pl
            have bl : 0 < b.tx.length := List.length_pos_iff.mpr bne
            refine w_GM_replace_53 (d := d + 1) hX gs ⟨by omega, by omega⟩ ⟨by omega, by omega⟩ ⟨by omega, by omega⟩ ⟨b2, ?_⟩
            rw [show ((s : Int) + 2).toNat = s + 2 by omega, c2.2.1, show ((s : Int) + 1).toNat = s + 1 by omega, b2'.2.1]
            refine fun _ => ⟨fun _ => ⟨b2, fun _ => ⟨b1, fun _ => ?_⟩⟩, fun y => absurd (Int.le_refl _) y⟩
            rw [w32_id (x := (pre.length : Int) + (c.tx.length : Int)) ⟨by omega, by omega⟩, w32_id (x := (p : Int) + (b.tx.length : Int)) ⟨by omega, by omega⟩]
            have ll : (pre ++ c.tx).length = pre.length + c.tx.length := List.length_append
            have st := ih (m - b.tx.length) (by omega) (p + b.tx.length) (pre ++ c.tx) _ (by omega) o2 ?_ (by rw [ll]; have : 64 * (p + b.tx.length) = 64 * p + 64 * b.tx.length := Nat.mul_add _ _ _; omega) ?_ ?_
            · rw [ll, show ((pre.length + c.tx.length : Nat) : Int) = (pre.length : Int) + (c.tx.length : Int) by omega, show ((p + b.tx.length : Nat) : Int) = (p : Int) + (b.tx.length : Int) by omega] at st
              exact st
            · refine gBy_app ?_ ?_
              · refine gBy_of _ _ (fun j hj => ?_)
                rw [gFl_out (by omega)]
                exact gBy_at hpre hj
              · refine gBy_of _ _ (fun j hj => ?_)
                rw [gFl_in (by omega) (by omega)]
                congr 1
                omega
            · have hd : a.tx.drop p = a.tx.getD p 0 :: a.tx.drop (p + 1) := by
                rw [List.getD_eq_getElem?_getD, List.getElem?_eq_getElem (by omega)]
                exact List.drop_eq_getElem_cons (by omega)
              rw [hR, hd, gRepl_cons, if_pos ⟨bne, by rw [← hd]; exact pf⟩, ← hd, List.drop_drop, List.append_assoc]
            · intro x hx2
              rcases List.mem_append.mp hx2 with q | q
              · exact hby x q
              · have := oc.2.2.2.2.2.2.2.2 x q
                omega
          | succ n ihn =>
            intro q hq
            have i1 := ihn (q + 1) (by omega)
            have o2 : gOff (fun a _ => a = o + 39) M (gFl M1 (o + 39) pre.length (fun j => c.tx.getD j 0) q) := o1.fl (fun j _ _ => rfl)
            have c2 := kp o2 hc
            refine w_GM_replace_53 (d := d + 1) hX gs ⟨by omega, by omega⟩ ⟨by omega, by omega⟩ ⟨by omega, by omega⟩ ⟨b2, ?_⟩
            rw [show ((s : Int) + 2).toNat = s + 2 by omega, c2.2.1, show (64 * ((s : Int) + 2) + (q : Int)).toNat = 64 * (s + 2) + q by omega, gBy_at c2.2.2.2 (show q < c.tx.length by omega), show ((pre.length : Int) + (q : Int)).toNat = pre.length + q by omega]
            simp only [gI_w]
            refine fun _ => ⟨fun y => absurd y (by omega), fun _ => ⟨⟨by omega, by omega⟩, fun bq => ⟨⟨by omega, by omega⟩, ?_⟩⟩⟩
            rw [gByte_id bq]
            rw [← gFl_s] at i1
            exact i1
        have c0 := cp c.tx.length 0 (by omega)
        rw [gFl_0] at c0
        exact c0
  refine e_GM_replace (w_GM_replace_0 (d := d + 1) hX gs ?_)
  exact key a.tx.length 0 [] M (by omega) (gOff.rf _ _) rfl (by show 0 ≤ _; omega) (by rw [List.drop_zero]; rfl) (fun x hx => by cases hx)
end gcE
