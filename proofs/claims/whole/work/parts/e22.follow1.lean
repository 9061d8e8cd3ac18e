/-! The class's Results: the values are worked out. -/
section gfB
variable {M M2 : gM} {c r1 : Nat} {F : gSht}
/-- the contents' tables grow -/
def gcGr (M M2 : gM) (c : Nat) : Prop := (∀ i, 11 ≤ i → i ≤ 14 → M (c + 2) i ≤ M2 (c + 2) i) ∧ (∀ a j : Nat, 3 ≤ a → a ≤ 8 → (j : Int) < M (c + 2) 11 → M2 (c + a) j = M (c + a) j) ∧ (∀ a j : Nat, 9 ≤ a → a ≤ 10 → (j : Int) < M (c + 2) 12 → M2 (c + a) j = M (c + a) j) ∧ (∀ a j : Nat, 11 ≤ a → a ≤ 12 → (j : Int) < M (c + 2) 13 → M2 (c + a) j = M (c + a) j) ∧ ∀ j : Nat, (j : Int) < M (c + 2) 14 → M2 (c + 13) j = M (c + 13) j
theorem gcCn.gr {ci : Nat} {S : List Int} (h : gcCn M c ci S) (h0 : S ≠ []) (hb : ¬ gBadS S) (g : gcGr M M2 c) : gcCn M2 c ci S := by
  obtain ⟨gn, g3, g9, g11, g13⟩ := g
  obtain ⟨⟨a1, a1'⟩, a2, a3, cs, cz, rf, b1, b2, ⟨b3, b3'⟩, b4, b5, ⟨b6, b6'⟩, b7, b8, b9⟩ := h
  have n1 := gn 11 (by decide) (by decide)
  have n2 := gn 12 (by decide) (by decide)
  have n3 := gn 13 (by decide) (by decide)
  have n4 := gn 14 (by decide) (by decide)
  refine ⟨⟨a1, by omega⟩, by rw [g3 3 _ (by decide) (by decide) a1']; exact a2, a3, cs, cz, rf, by rw [g3 4 _ (by decide) (by decide) a1']; exact b1, by rw [g3 5 _ (by decide) (by decide) a1']; exact b2, ⟨b3, by omega⟩, by rw [g3 6 _ (by decide) (by decide) a1']; exact b4, by rw [g3 7 _ (by decide) (by decide) a1']; exact b5, ⟨b6, by omega⟩, ⟨fun i hi => ?_, by rw [g3 8 _ (by decide) (by decide) a1']; exact b7.2⟩, fun ht => ⟨(b8 ht).1, ?_⟩, fun e rs ht => ⟨(b9 e rs ht).1, ?_⟩⟩
  · rw [g11 11 _ (by decide) (by decide) (by omega), g11 12 _ (by decide) (by decide) (by omega)]
    exact b7.1 i hi
  · have z := (b8 ht).1
    have := (b8 ht).2
    exact ⟨by rw [g9 9 _ (by decide) (by decide) (by omega)]; exact this.1, by rw [g9 10 _ (by decide) (by decide) (by omega)]; exact this.2⟩
  · obtain ⟨B, ⟨B1, B1'⟩, B2⟩ := (b9 e rs ht).2
    have z := (b9 e rs ht).1
    have wf := gTree_wf ht h0 hb
    exact ⟨B, ⟨B1, by omega⟩, (gxCo_keep (P := gPP rs) (R := gRR rs) (n := S.length) (Nat.le_refl B) (fun j hj => g13 j (by omega)) e).1 wf.1 cs (fun j h1 h2 => ⟨g9 9 j (by decide) (by decide) (by omega), g9 10 j (by decide) (by decide) (by omega)⟩) B2⟩
theorem gcCn.kp {ci : Nat} {S : List Int} (h : gcCn M c ci S) (h0 : S ≠ []) (hb : ¬ gBadS S) (k : ∀ a j, 2 ≤ a → a ≤ 13 → M2 (c + a) j = M (c + a) j) : gcCn M2 c ci S := h.gr h0 hb ⟨fun i _ _ => Int.le_of_eq (k 2 i (by decide) (by decide)).symm, fun a j h1 h2 _ => k a j (by omega) (by omega), fun a j h1 h2 _ => k a j (by omega) (by omega), fun a j h1 h2 _ => k a j (by omega) (by omega), fun j _ => k 13 j (by decide) (by decide)⟩
/-- a state, while the contents' tables grow -/
theorem gcSt.gr (h : gcSt M c r1 F) (hF : gSok F) (g : gcGr M M2 c) (k2 : ∀ a j, a ≤ 4 → M2 (r1 + a) j = M (r1 + a) j) : gcSt M2 c r1 F := by
  obtain ⟨h0, h1, h2, h3, h4⟩ := h
  refine ⟨(k2 0 0 (by decide)).trans h0, h1, h2, fun p hp => (k2 3 _ (by decide)).trans (h3 p hp), fun p hp S tg e => ?_⟩
  obtain ⟨a1, ⟨ci, a2, a3⟩, a4⟩ := h4 p hp S tg e
  have ok := (hF p S tg e).2
  exact ⟨(k2 1 _ (by decide)).trans a1, ⟨ci, (k2 2 _ (by decide)).trans a2, a3.gr ok.1 ok.2.2.1 g⟩, fun i hi => (k2 4 _ (by decide)).trans (a4 i hi)⟩
theorem gcSt.kp (h : gcSt M c r1 F) (hF : gSok F) (k : ∀ a j, 2 ≤ a → a ≤ 13 → M2 (c + a) j = M (c + a) j) (k2 : ∀ a j, a ≤ 4 → M2 (r1 + a) j = M (r1 + a) j) : gcSt M2 c r1 F := by
  obtain ⟨h0, h1, h2, h3, h4⟩ := h
  refine ⟨(k2 0 0 (by decide)).trans h0, h1, h2, fun p hp => (k2 3 _ (by decide)).trans (h3 p hp), fun p hp S tg e => ?_⟩
  obtain ⟨a1, ⟨ci, a2, a3⟩, a4⟩ := h4 p hp S tg e
  have ok := (hF p S tg e).2
  exact ⟨(k2 1 _ (by decide)).trans a1, ⟨ci, (k2 2 _ (by decide)).trans a2, a3.kp ok.1 ok.2.2.1 k⟩, fun i hi => (k2 4 _ (by decide)).trans (a4 i hi)⟩
end gfB
/-- a table of values -/
def gvT (M : gM) (v : Nat) (w : Nat → gVl) : Prop := ∀ k, k < 401 → gvAt M v k (w k) ∧ gvP (w k)
def gFlR (c v : Nat) : Nat → Nat → Prop := fun a k => gxF2 c a k ∨ a = v + 1 ∨ a = v + 2 ∨ (v + 4 ≤ a ∧ a ≤ v + 404)
theorem gvP_tp {v : gVl} (h : gvP v) : gvP (gxTp v) := by
  unfold gxTp
  split
  · exact ⟨⟨by decide, by decide, g64_c rfl, fun y => absurd y (by decide), fun _ => rfl, fun y => absurd y (by decide), fun y => absurd y (by decide), fun y => absurd y (by decide), fun b hb => absurd hb (List.not_mem_nil)⟩, by decide⟩
  · exact h
theorem gvP_e {n : Int} (h : 1 ≤ n ∧ n ≤ 8) : gvP (gE n) := ⟨⟨(show (0 : Int) ≤ 4 by decide), (show (4 : Int) ≤ 5 by decide), ⟨by show -9223372036854775808 ≤ n; omega, by show n < 9223372036854775808; omega⟩, fun y => absurd y (show ¬ (4 : Int) = 2 by decide), fun _ => rfl, fun y => absurd y (show ¬ (4 : Int) = 0 by decide), fun y => absurd y (show ¬ (4 : Int) = 3 by decide), fun _ => h, fun b hb => absurd hb (List.not_mem_nil)⟩, (show (4 : Int) ≤ 4 by decide)⟩
section gfC
variable {l : Launch} {G : gG} {d : Nat} {X : gX} {M1 : gM} {c r1 r2 v n : Nat} {F : gSht} {Q : gQ} {r : Nat → Nat → Prop} {So : Nat → Nat} {ci : Nat → Prop}
theorem gvT.up {M M2 : gM} {w : Nat → gVl} {e : Nat} {u : gVl} (h : gvT M v w) (he : e < 401) (o : gOff (gVs v e) M M2) (h1 : gvAt M2 v e u) (hu : gvP u) : gvT M2 v (gwU w e u) := fun k hk => by
  unfold gwU
  by_cases q : k = e
  · rw [q, if_pos rfl]; exact ⟨h1, hu⟩
  · rw [if_neg q]
    exact ⟨(h k hk).1.keep o (by unfold gVs; omega) (by unfold gVs; omega) (fun j _ => by unfold gVs; omega), (h k hk).2⟩
theorem gvT.off {M M2 : gM} {w : Nat → gVl} {A : Nat → Nat → Prop} (h : gvT M v w) (o : gOff A M M2) (na : ∀ a k, A a k → ¬ (v + 1 ≤ a ∧ a ≤ v + 404)) : gvT M2 v w := fun k hk => ⟨(h k hk).1.keep o (fun y => na _ _ y (by omega)) (fun y => na _ _ y (by omega)) (fun j _ y => na _ _ y (by omega)), (h k hk).2⟩
theorem c_Fl120 {K : Outcome → gX → gM → Prop} (hX : glX X c) (hO : gOld G Q) (h1 : gsX X r1) (h2 : gsX X r2) (hq : X.2.2 (c + 234) 4 = v ∧ gvX X v 401) (hs0 : X.2.2 (c + 1057) 4 = r1) (hb : X.2.2 (c + 1167) 2 = v) (hr1 : c + 23 < r1 ∧ r1 + 4 < c + 234) (hv : c + 236 < v ∧ v + 404 < c + 1047) (hst : gcSt M1 c r1 F) (hF : gSok F) (hat : gcAt M1 c F) (hn : n = gCn (gnE F) 5200) (hr : ∀ i j, r i j ↔ ∃ p q, gCn (gnE F) p = i ∧ gCn (gnE F) q = j ∧ gEdg F p q) (hord : gOrd2 n r So ci) (hSo : ∀ k, k < n → M1 (c + 1049) k = (So k : Int)) (hci : ∀ e, e < n → (ci e ↔ M1 (c + 1050) e = 1))
    (hk : ∀ M2 w2, gOff (gFlR c v) M1 M2 → gvT M2 v w2 → gWd2 F So ci w2 n → cV l G y_Rs_compareWith (gRm (d + 9)) true [gR G (c + 234), gR G r2] X M2 (fun M34 => (g32 (M34 (c + 234) 7) → (K (.returned (some (gI (M34 (c + 234) 7)))) X M34)))) :
    ∀ (m x : Nat) (M : gM) (w : Nat → gVl), x + m = n → gOff (gFlR c v) M1 M → gvT M v w → gWd2 F So ci w x → wp l G y_Rs_follow (gRr (d + 9 + 1) 0) true K true 120 [.val (gR G (c + 234)), .val (gR G r1), .val (gR G r2), .unset, .val (gI (x : Int)), .unset] [] X M 0 0 := by
  have hn2 := hst.2.1
  rw [← hn] at hn2
  have nr : ∀ M, gOff (gFlR c v) M1 M → ∀ a j, (a ≤ c + 236 ∨ (c + 1047 ≤ a ∧ a ≤ c + 1056)) → M a j = M1 a j := fun M o a j ha => o _ _ (by unfold gFlR gxF2 gxF gAb; omega)
  intro m
  induction m with
  | zero =>
    intro x M w hx o1 hT hW
    refine u_Rs_follow_120 hX h1 h2 ⟨by omega, by omega⟩ fun _ => ?_
    rw [nr M o1 r1 0 (by omega), hst.1, ← hn]
    refine ⟨fun _ => hk M w o1 hT (by rw [show n = x by omega]; exact hW), fun z => absurd (by omega) z⟩
  | succ m ih =>
    intro x M w hx o1 hT hW
    have sx : So x < n := hord.1 x (by omega)
    obtain ⟨p, p1, p2, p3⟩ := gCn_ex (Q := gnE F) 5200 (So x) (by omega)
    cases eF : F p with
    | none => exact absurd eF p2
    | some y =>
      obtain ⟨S, tg⟩ := y
      have st : gcSt M c r1 F := hst.kp hF (fun a j h1 h2 => nr M o1 _ _ (by omega)) (fun a j ha => nr M o1 _ _ (by omega))
      obtain ⟨_, ⟨id, id1, id2⟩, tg4⟩ := st.2.2.2.2 p p1 S tg eF
      obtain ⟨⟨d1, d1'⟩, d2, d3, cs, cz, rf, b1, b2, ⟨b3, b3'⟩, b4, b5, ⟨b6, b6'⟩, b7, b8, b9⟩ := id2
      have ok := (hF p S tg eF).2
      have f3 := st.2.2.2.1 p (by omega)
      have sle := gSp_le (F := F) (show p + 1 ≤ 5200 from p1)
      rw [gSp_s eF] at sle
      have sle2 := st.2.2.1
      rw [p3] at id1 f3
      have eSo : M (c + 1049) x = (So x : Int) := (nr M o1 _ _ (by omega)).trans (hSo x (by omega))
      have eci : M (c + 1050) (So x) = M1 (c + 1050) (So x) := nr M o1 _ _ (by omega)
      have nx : w32 ((x : Int) + 1) = ((x + 1 : Nat) : Int) := (w32_id ⟨by omega, by omega⟩).trans (by omega)
      have tyD : ∀ p2 S2 tg2, p2 < 5200 → F p2 = some (S2, tg2) → gCn (gnE F) p2 = So x → S2 = S ∧ tg2 = tg := fun p2' S2 tg2 _ e2 y => by
        have e3 : p2' = p := gCn_inj (gnE_s e2) p2 (by omega)
        rw [e3, eF] at e2
        cases e2
        exact ⟨rfl, rfl⟩
      refine u_Rs_follow_120 hX h1 h2 ⟨by omega, by omega⟩ fun _ => ?_
      rw [nr M o1 r1 0 (by omega), hst.1, ← hn, Int.toNat_natCast, eSo, Int.toNat_natCast, eci, hq.1, nx]
      refine ⟨fun z => absurd z (by omega), fun _ => ⟨⟨by omega, by omega⟩, fun _ => ⟨⟨by omega, by omega⟩, fun hbo => ⟨fun z => ?_, fun z => ⟨hq.2, ?_⟩⟩⟩⟩⟩
      · have nc : ¬ ci (So x) := fun y => by have := (hci _ sx).mp y; omega
        -- what is to be put down
        have put : ∀ (M3 : gM) (u : gVl), gOff (gxF2 c) M M3 → gvAt M3 (c + 1058) 0 u → gvP u → u = gOut (gEw F w) S tg → (gvX X v 401 ∧ cV l G y_Vl_setFrom (gRm (d + 9)) true [gR G v, gI (So x : Int), gR G (c + 1058), gI 0] X M3 (fun M40 => (wp l G y_Rs_follow (gRr (d + 9 + 1) 0) true K true 120 [.val (gR G (c + 234)), .val (gR G r1), .val (gR G r2), .unset, .val (gI ((x + 1 : Nat) : Int)), .unset] [] X M40 0 0))) := by
          intro M3 u o3 a3 hu eu
          refine ⟨hq.2, c_Vl_setFrom (d := d + 8) (n := 401) (m := 104) hq.2 ⟨by omega, by omega⟩ hX.2.2.2.2 (by decide) (by unfold gvDj; omega) a3 hu.1 (fun M4 o4 a4 => ?_)⟩
          rw [Int.toNat_natCast] at o4 a4
          have T3 : gvT M3 v w := hT.off o3 (fun a k h => by unfold gxF2 gxF gAb at h; omega)
          refine ih (x + 1) M4 (gwU w (So x) u) (by omega) ((o1.tr (o3.mono (fun a k h => Or.inl h))).tr (o4.mono (fun a k h => ?_))) (T3.up (by omega) o4 a4 hu) (hW.step hF hn hn2 hr hord (by omega) (fun p2' S2 tg2 a1 a2 a3 => ?_))
          · unfold gVs at h
            unfold gFlR
            omega
          · obtain ⟨e1, e2⟩ := tyD p2' S2 tg2 a1 a2 a3
            rw [if_neg nc, e1, e2]
            exact eu
        cases ht : gTree S with
        | none =>
          obtain ⟨c1, c2⟩ := b8 ht
          refine c_Ma_runE (d := d) (en := (So x : Int)) (id := id) (a0 := cs) hX hO ⟨hs0, h1⟩ ⟨by omega, by omega⟩ (by rw [Int.toNat_natCast]; exact id1) d1 b1 (by rw [b2, c1]) (by omega) c2 (fun M3 o3 a3 => put M3 (gE 1) o3 a3 (gvP_e (by decide)) ?_)
          unfold gOut
          rw [ht]
        | some y =>
          obtain ⟨e, rs⟩ := y
          obtain ⟨c1, B, ⟨c2, c2'⟩, c3⟩ := b9 e rs ht
          have wf := gTree_wf ht ok.1 ok.2.2.1
          have er : gRefs S = rs := by unfold gRefs; rw [ht]
          have hnl := ok.2.2.2.1
          rw [er] at hnl
          have hS : ∀ b ∈ S, 32 ≤ b ∧ b ≤ 126 := Classical.byContradiction fun y => ok.2.2.1 (Or.inl y)
          have hE : gEnv X M c v (gEw F w) := by
            refine ⟨⟨hb, hq.2⟩, ⟨hv.1, by omega⟩, fun q q0 q1 => ?_⟩
            have ea : M (c + 235) q.toNat = (gAt F q.toNat : Int) := (nr M o1 _ _ (by omega)).trans (hat q.toNat (by omega))
            have al := gAt_le (F := F) hst.2.1 (p := q.toNat) (by omega)
            rw [ea, Int.toNat_natCast]
            exact ⟨by omega, by omega, (hT _ (by omega)).1, (hT _ (by omega)).2.1, (hT _ (by omega)).2.2⟩
          have ev : gOut (gEw F w) S tg = gxTp (gxEv (gEw F w) (fun i => gTt tg i.toNat) S e).1 := by unfold gOut; rw [ht]
          have gv := (gxEv_ok (E := gEw F w) (T := fun i => gTt tg i.toNat) (S := S) (P := gPP rs) (R := gRR rs) (fun q q0 q1 => (hT _ (by have := gAt_le (F := F) hst.2.1 (p := q.toNat) (by omega); omega)).2) (ok.tk ht) hS e).1 wf.1 wf.2.1
          refine c_Ma_run (d := d) (en := (So x : Int)) (id := id) (a0 := cs) (e := e) (B := B) (S := S) (v := v) (E := gEw F w) (T := fun i => gTt tg i.toNat) (P := gPP rs) (R := gRR rs) (f0 := (gSp F p : Int)) hX hO ⟨hs0, h1⟩ hr1 c2 hS ⟨by omega, by omega⟩ (by rw [Int.toNat_natCast]; exact id1) d1 b1 (by rw [b2, c1]) (by omega) (by have := wf.2.2.1; omega) (by rw [Int.toNat_natCast]; exact f3) (by omega) hE (fun i hi => ?_) (ok.tk ht) wf.1 wf.2.1 c3 (fun M3 o3 a3 => put M3 _ o3 a3 (gvP_tp gv) ev.symm)
          have hi : 0 ≤ i ∧ i < (rs.length : Int) := hi
          refine ⟨hi.1, by omega, ?_⟩
          rw [show ((gSp F p : Int) + i).toNat = gSp F p + i.toNat by omega]
          exact tg4 i.toNat (by omega)
      · have cc : ci (So x) := (hci _ sx).mpr (by omega)
        refine c_Vl_set hq.2 ⟨by omega, by omega⟩ (g32_c rfl) (g64_c rfl) ?_
        rw [Int.toNat_natCast]
        have o4 : gOff (gVs v (So x)) M (gVset M v (So x) 4 8) := by
          unfold gVset
          refine ((gOff.rf _ M).up ?_).up ?_ <;> unfold gVs <;> omega
        refine ih (x + 1) _ (gwU w (So x) (gE 8)) (by omega) (o1.tr (o4.mono (fun a k h => ?_))) (hT.up (by omega) o4 (gVset_at M v (So x) 4 8) (gvP_e (by decide))) (hW.step hF hn hn2 hr hord (by omega) (fun p2' S2 tg2 a1 a2 a3 => by rw [if_pos cc]))
        unfold gVs at h
        unfold gFlR
        omega
end gfC
