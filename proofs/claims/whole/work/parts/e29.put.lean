/-! The class's Edits: a content put, a box filled. -/
noncomputable def gTg0 (S : List Int) : List Int := (gRefs S).map (fun x => x.1)
noncomputable def gPut (F : gSht) (x : Option (List Int × List Int)) (p : Nat) : gSht := fun q => if q = p then x else F q
/-- what an edit of the class writes -/
def gEdR (c r : Nat) : Nat → Nat → Prop := fun a j => a = c + 21 ∨ a = c + 22 ∨ gStR r a j
theorem gTg0_l (S : List Int) : (gTg0 S).length = (gRefs S).length := by unfold gTg0; rw [List.length_map]
theorem gTg0_t {S : List Int} {i : Nat} (h : i < (gRefs S).length) : gTt (gTg0 S) i = ((gRefs S).getD i (0, 0, 0)).1 := by
  unfold gTt gTg0
  rw [List.getD_eq_getElem?_getD, List.getD_eq_getElem?_getD, List.getElem?_map, List.getElem?_eq_getElem h]
  rfl
theorem gCok_0 {S : List Int} (h1 : S ≠ []) (h2 : S.length ≤ 240) (h3 : ¬ gBadS S) : gCok S (gTg0 S) := by
  have ok := (gRefs_ok h1).1
  refine ⟨h1, h2, h3, gTg0_l S, fun k hk => ?_, fun k hk => ?_⟩
  · rw [gTg0_l] at hk
    rw [gTg0_t hk]
    exact Or.inr (ok k hk).1.1
  · rw [gTg0_l] at hk ⊢
    rcases (ok k hk).2 with y | ⟨y1, y2, y3⟩ | y
    · exact Or.inl y
    · refine Or.inr (Or.inl ⟨y1, y2, y3, ?_⟩)
      rw [gTg0_t hk, gTg0_t y2]
      have a1 := (ok k hk).1.1
      have a2 := (ok (k + 1) y2).1.1
      unfold gRc at a1 a2
      omega
    · exact Or.inr (Or.inr y)
theorem gSok.put {F : gSht} {x : Option (List Int × List Int)} {p : Nat} (h : gSok F) (hp : p < 5200) (hx : ∀ S tg, x = some (S, tg) → gCok S tg) : gSok (gPut F x p) := fun q S tg e => by
  unfold gPut at e
  by_cases y : q = p
  · rw [if_pos y] at e; exact ⟨by omega, hx S tg e⟩
  · rw [if_neg y] at e; exact h q S tg e
theorem gMvC_0 {x : Option (List Int × List Int)} (hx : ∀ S tg, x = some (S, tg) → gCok S tg) : gMvC x 0 0 = x := by
  cases x with
  | none => rfl
  | some y =>
    show some (y.1, gMvT y.1 y.2 0 0) = _
    rw [gMvT_0 (hx y.1 y.2 rfl)]
theorem gWrt_i {F : gSht} {x : Option (List Int × List Int)} {p c r d s q : Nat} (h : gIn4 c r d s q) : gWrt F x p c r d s q = gMvC x ((q % 26 : Nat) - (p % 26 : Nat) : Int) ((q / 26 : Nat) - (p / 26 : Nat) : Int) := if_pos h
theorem gWrt_o {F : gSht} {x : Option (List Int × List Int)} {p c r d s q : Nat} (h : ¬ gIn4 c r d s q) : gWrt F x p c r d s q = F q := if_neg h
theorem gSok.wrt {F : gSht} {x : Option (List Int × List Int)} {p c r d s : Nat} (h : gSok F) (hd : d < 26) (hs : s < 200) (hx : ∀ S tg, x = some (S, tg) → gCok S tg) : gSok (gWrt F x p c r d s) := fun q S tg e => by
  by_cases y : gIn4 c r d s q
  · rw [gWrt_i y] at e
    refine ⟨by unfold gIn4 at y; omega, ?_⟩
    cases x with
    | none => cases e
    | some z =>
      cases e
      exact (hx z.1 z.2 rfl).mv
  · rw [gWrt_o y] at e; exact h q S tg e
section gfQ
variable {l : Launch} {G : gG} {d : Nat} {X : gX} {M M2 : gM} {c r r0 : Nat} {F F2 : gSht}
theorem gcPf_0 (h1 : M r 0 = 0) (h2 : M (r + 3) 0 = 0) : gcPf M c r F 0 := ⟨h1, fun p hp => by rw [show p = 0 by omega]; exact h2, fun p hp => absurd hp (Nat.not_lt_zero _)⟩
theorem c_Ed_replaced {p id : Nat} {x : Option (List Int × List Int)} {k : Int → gM → Prop} (hX : glX X c) (hs3 : X.2.2 (c + 21) 3 = r ∧ gsX X r) (hs2 : X.2.2 (c + 21) 2 = r0 ∧ gsX X r0) (hcr : c + 22 < r) (hcr0 : c + 22 < r0) (hd : r + 4 < r0 ∨ r0 + 4 < r) (hF : gSok F) (hp : p < 5200) (h0 : gcSt M c r0 F) (h1 : M r 0 = 0) (h3 : M (r + 3) 0 = 0)
    (hx : (x = none ∧ id = 0 ∧ M (c + 6) 0 = 0 ∧ M (c + 7) 0 = 0) ∨ ∃ S, x = some (S, gTg0 S) ∧ gCok S (gTg0 S) ∧ 0 < id ∧ gcCn M c id S)
    (hk1 : gCn (gnE (gPut F x p)) 5200 ≤ 400 → gRsF (gPut F x p) 5200 ≤ 20000 → ∀ M2, gOff (gEdR c r) M M2 → gcSt M2 c r (gPut F x p) → k 1 M2) (hk0 : 400 < gCn (gnE (gPut F x p)) 5200 ∨ 20000 < gRsF (gPut F x p) 5200 → ∀ M2, gOff (gEdR c r) M M2 → k 0 M2) :
    cZ l G y_Ed_replaced (gRm (d + 1 + 1 + 1 + 1)) true [gR G (c + 21), gI (p : Int), gI (id : Int)] X M k := by
  have pm : (p : Int).tmod 26 = ((p % 26 : Nat) : Int) := by rw [Int.tmod_eq_emod_of_nonneg (by omega)]; omega
  have pd : (p : Int).tdiv 26 = ((p / 26 : Nat) : Int) := by rw [Int.tdiv_eq_ediv_of_nonneg (by omega)]; omega
  have xok : ∀ S tg, x = some (S, tg) → gCok S tg := fun S tg e => by
    rcases hx with y | ⟨S2, y1, y2, _⟩
    · rw [y.1] at e; cases e
    · rw [y1] at e; cases e; exact y2
  have hid : id < 513 := by
    rcases hx with y | ⟨S2, _, _, _, y⟩
    · have := y.2.1; omega
    · exact y.1.1
  obtain ⟨rf, n, f6, f7, fl, fw⟩ : ∃ rf n : Nat, M (c + 6) id = (rf : Int) ∧ M (c + 7) id = (n : Int) ∧ (rf + n ≤ 10480 ∧ n ≤ 50) ∧ gcWx (gCp M (c + 22) (c + 11) rf 0 n) c id x := by
    rcases hx with ⟨y1, y2, y3, y4⟩ | ⟨S, y1, y2, y3, y4⟩
    · exact ⟨0, 0, by rw [y2]; exact y3, by rw [y2]; exact y4, by omega, Or.inl ⟨y1, y2⟩⟩
    · obtain ⟨⟨b2, b2'⟩, b3, b4, cs, cz, rf, c1, c2, ⟨c3, c3'⟩, c4, c5, ⟨c6, c6'⟩, c7, c8, c9⟩ := _root_.id y4
      refine ⟨rf, (gRefs S).length, c4, c5, ⟨c6, (gRefs_ok y2.1).2⟩, Or.inr ⟨S, gTg0 S, y1, y2, y3, y4.kp y2.1 y2.2.2.1 (fun a j _ _ => gCp_a (by omega)), fun i hi => ?_⟩⟩
      rw [gTg0_l] at hi
      rw [gCp_in (by omega) (by omega), Nat.sub_zero, gTg0_t hi]
      exact (c7.1 i hi).1
  refine e_Ed_replaced (w_Ed_replaced_0 hX ⟨by omega, by omega⟩ ⟨by omega, by omega⟩ ?_)
  rw [Int.toNat_natCast, f6, f7, Int.toNat_natCast, Int.toNat_natCast, pm, pd]
  refine ⟨⟨by omega, by omega⟩, fun _ => ⟨⟨by omega, by omega⟩, fun _ => ⟨⟨by omega, by omega, by omega, by omega, by omega⟩, ?_⟩⟩⟩
  have oC : gOff (gEdR c r) M (gCp M (c + 22) (c + 11) rf 0 n) := fun a j na => gCp_a (fun y => na (Or.inr (Or.inl y)))
  have oM : ∀ M2, gOff (gStR r) (gCp M (c + 22) (c + 11) rf 0 n) M2 → gOff (gEdR c r) M M2 := fun M2 o => oC.tr (o.mono (fun a j h => Or.inr (Or.inr h)))
  have ip : ∀ q, gIn4 (p % 26) (p / 26) (p % 26) (p / 26) q ↔ q = p := fun q => by unfold gIn4; omega
  refine c_Ed_written (F := F) (F2 := gPut F x p) (x := x) hX hs3 hs2 hcr hd hF (hF.put hp xok) (h0.kp hF (fun a j _ _ => gCp_a (by omega)) (fun a j _ => gCp_a (by omega))) (gcPf_0 ((gCp_a (by omega)).trans h1) ((gCp_a (by omega)).trans h3)) fw hp hid ⟨Nat.le_refl _, by omega⟩ ⟨Nat.le_refl _, by omega⟩ (fun q y => ?_) (fun q y => if_neg (fun z => y ((ip q).mpr z))) (fun n1 n2 M2 o2 s2 => hk1 n1 n2 M2 (oM M2 o2) s2) (fun n1 M2 o2 => hk0 n1 M2 (oM M2 o2))
  have e := (ip q).mp y
  subst e
  rw [Int.sub_self, Int.sub_self, gMvC_0 xok]
  exact if_pos rfl
theorem c_St_refs {p : Nat} {S tg : List Int} {k : Int → gM → Prop} (hr : gsX X r) (h : gcSt M c r F) (hp : p < 5200) (e : F p = some (S, tg)) (hk : k (tg.length : Int) M) : cI l G y_St_refs (gRm d) false [gR G r, gI (gCn (gnE F) p : Int)] X M k := by
  obtain ⟨h0, h1, h2, h3, h4⟩ := h
  have lt := gCn_lt (Q := gnE F) hp (gnE_s e)
  have sle := gSp_le (F := F) (show p + 1 ≤ 5200 from hp)
  have nxt := h3 (p + 1) (by omega)
  rw [gSp_s e, gCn_y (Q := gnE F) (gnE_s e)] at nxt
  rw [gSp_s e] at sle
  refine e_St_refs (w_St_refs_0 hr ⟨by omega, by omega⟩ ⟨⟨by omega, by omega⟩, fun _ => ⟨⟨by omega, by omega⟩, fun _ => ?_⟩⟩)
  rw [show ((gCn (gnE F) p : Int) + 1).toNat = gCn (gnE F) p + 1 by omega, Int.toNat_natCast, nxt, h3 p (by omega), w32_id (x := ((gSp F p + tg.length : Nat) : Int) - (gSp F p : Int)) ⟨by omega, by omega⟩, show ((gSp F p + tg.length : Nat) : Int) - (gSp F p : Int) = (tg.length : Int) by omega]
  exact hk
theorem c_Ed_filled {p c1 r1 d1 s1 : Nat} {k : Int → gM → Prop} (hX : glX X c) (hs3 : X.2.2 (c + 21) 3 = r ∧ gsX X r) (hs2 : X.2.2 (c + 21) 2 = r0 ∧ gsX X r0) (hcr : c + 22 < r) (hcr0 : c + 22 < r0) (hd : r + 4 < r0 ∨ r0 + 4 < r) (hF : gSok F) (hp : p < 5200) (h0 : gcSt M c r0 F) (h1 : M r 0 = 0) (h3 : M (r + 3) 0 = 0) (hz : M (c + 3) 0 = 0) (hc : c1 ≤ d1 ∧ d1 < 26) (hr : r1 ≤ s1 ∧ s1 < 200)
    (hk1 : gCn (gnE (gWrt F (F p) p c1 r1 d1 s1)) 5200 ≤ 400 → gRsF (gWrt F (F p) p c1 r1 d1 s1) 5200 ≤ 20000 → ∀ M2, gOff (gEdR c r) M M2 → gcSt M2 c r (gWrt F (F p) p c1 r1 d1 s1) → k 1 M2) (hk0 : 400 < gCn (gnE (gWrt F (F p) p c1 r1 d1 s1)) 5200 ∨ 20000 < gRsF (gWrt F (F p) p c1 r1 d1 s1) 5200 → ∀ M2, gOff (gEdR c r) M M2 → k 0 M2) :
    cZ l G y_Ed_filled (gRm (d + 1 + 1 + 1 + 1)) true [gR G (c + 21), gI (p : Int), gI (c1 : Int), gI (r1 : Int), gI (d1 : Int), gI (s1 : Int)] X M k := by
  have hn := h0.2.1
  have np := gCn_le (Q := gnE F) (show p ≤ 5200 by omega)
  have xok : ∀ S tg, F p = some (S, tg) → gCok S tg := fun S tg e => (hF p S tg e).2
  have go : ∀ (M3 : gM) (id : Nat), gOff (fun a _ => a = c + 22) M M3 → gcWx M3 c id (F p) → id < 513 → cZ l G y_Ed_written (gRm (d + 1 + 1 + 1)) true [gR G (c + 21), gI (id : Int), gI (p : Int), gI (c1 : Int), gI (r1 : Int), gI (d1 : Int), gI (s1 : Int)] X M3 (fun v M5 => k v M5) := by
    intro M3 id o3 w3 hid
    have oM : ∀ M2, gOff (gStR r) M3 M2 → gOff (gEdR c r) M M2 := fun M2 o => (o3.mono (fun a j h => Or.inr (Or.inl h))).tr (o.mono (fun a j h => Or.inr (Or.inr h)))
    exact c_Ed_written (F := F) (F2 := gWrt F (F p) p c1 r1 d1 s1) (x := F p) hX hs3 hs2 hcr hd hF (hF.wrt hc.2 hr.2 xok) (h0.kp hF (fun a j _ _ => o3 _ _ (by omega)) (fun a j _ => o3 _ _ (by omega))) (gcPf_0 ((o3 _ _ (by omega)).trans h1) ((o3 _ _ (by omega)).trans h3)) w3 hp hid hc hr (fun q y => gWrt_i y) (fun q y => gWrt_o y) (fun n1 n2 M2 o2 s2 => hk1 n1 n2 M2 (oM M2 o2) s2) (fun n1 M2 o2 => hk0 n1 M2 (oM M2 o2))
  refine e_Ed_filled (w_Ed_filled_0 hX ⟨by omega, by omega⟩ ⟨by omega, by omega⟩ ⟨by omega, by omega⟩ ⟨by omega, by omega⟩ ⟨by omega, by omega⟩ hs2 (c_St_entryFrom hs2.2 h0 (by omega) fun _ => ?_))
  rw [h0.1, Int.toNat_natCast]
  cases e : F p with
  | none =>
    have g0 := go M 0 (gOff.rf _ _) (Or.inl ⟨e, rfl⟩) (by decide)
    refine ⟨fun _ => g0, fun y => ⟨⟨by omega, by omega⟩, fun _ => ⟨fun _ => g0, fun z => ?_⟩⟩⟩
    obtain ⟨q, q1, q2, q3⟩ := gCn_ex (Q := gnE F) 5200 (gCn (gnE F) p) (by omega)
    cases eq : F q with
    | none => exact absurd eq q2
    | some w =>
      have := (h0.2.2.2.2 q q1 w.1 w.2 eq).1
      rw [q3, z] at this
      rw [show p = q by omega, eq] at e
      cases e
  | some w =>
    obtain ⟨S, tg⟩ := w
    have lt := gCn_lt (Q := gnE F) hp (gnE_s e)
    obtain ⟨a1, ⟨ci, a2, a3⟩, a4⟩ := h0.2.2.2.2 p hp S tg e
    have ok := xok S tg e
    have l50 := hF.r50 p S tg e
    have sle := gSp_le (F := F) (show p + 1 ≤ 5200 from hp)
    rw [gSp_s e] at sle
    have s20 := h0.2.2.1
    have st := h0.2.2.2.1 p (by omega)
    have ci0 : 0 < ci := by
      rcases Nat.eq_zero_or_pos ci with y | y
      · have b3 := a3.2.1
        rw [y, hz] at b3
        rcases gSrt_c S with w | w | w <;> omega
      · exact y
    refine ⟨fun y => absurd y (by omega), fun _ => ⟨⟨by omega, by omega⟩, fun _ => ⟨fun z => absurd a1 z, fun _ => ⟨⟨by omega, by omega⟩, fun _ => ⟨⟨by omega, by omega⟩, fun _ => c_St_refs hs2.2 h0 hp e ?_⟩⟩⟩⟩⟩
    rw [st, a2, Int.toNat_natCast, Int.toNat_natCast]
    refine ⟨⟨by omega, by omega, by omega, by omega, by omega⟩, go _ ci (fun a j na => gCp_a na) (Or.inr ⟨S, tg, e, ok, ci0, a3.kp ok.1 ok.2.2.1 (fun a j _ _ => gCp_a (by omega)), fun i hi => ?_⟩) a3.1.1⟩
    show gCp M (c + 22) (r0 + 4) (gSp F p) 0 tg.length (c + 22) i = _
    rw [gCp_in (by omega) (by omega), Nat.sub_zero]
    exact a4 i hi
end gfQ
