/-! The class's Reader: a call; all of the parser. -/
theorem gLt_two {w : Int} (hw : w = -1 ∨ 14 ≤ w ∧ w < 52) (h : 0 ≤ w ∧ gWgr w.toNat = 5) : 2 ≤ (gLt w).length := by
  have key : ∀ v, v < 52 → gWgr v = 5 → 2 ≤ (gTks v).length := by decide +kernel
  have e : gLt w = gTks w.toNat := by unfold gLt; rw [if_neg (by omega)]
  rw [e]
  exact key w.toNat (by omega) h.2
theorem gPs_6D {S : List Int} {ts : List gTkn} {n : Nat} {w : Int} {D a : Nat} {rs : List gRf} {x : gEx} {q : gEx × Nat × List gRf} (h : gPs S ts n 6 w D x a rs = some q) : D ≤ 20 := by
  cases n with
  | zero => cases h
  | succ n =>
    have h : gPas ts (gPs S ts n) w D a rs = some q := h
    obtain ⟨y, b, r, h1, h2⟩ := gBd_some h
    cases n with
    | zero => cases h1
    | succ n =>
      have h1 : gPar S ts (gPs S ts n) D a rs = some (y, b, r) := h1
      unfold gPar at h1
      split at h1
      · cases h1
      · omega
section gdS
variable {l : Launch} {G : gG} {X : gX} {c : Nat} {Q : gQ} {S : List Int} {ts : List gTkn} {id R0 : Nat}
theorem gC5_step {n : Nat} (hX : glX X c) (hO : gOld G Q) (hts : ts.length ≤ 100) (hto : ∀ t ∈ ts, gTkO S t ∧ 1 ≤ t.2.1) (ih6 : gC6 l G X c Q S ts id R0 n) : gC5 l G X c S ts id R0 (n + 1) := by
  intro d M k w D a cs bs rs hp hm hD hw hR
  have spec : ∀ e' a' rs', gPca ts (gPs S ts n) w D a rs = some (e', a', rs') → a' ≤ ts.length ∧ (∃ us, rs' = rs ++ us ∧ us.length + a ≤ a') ∧ (a < a' ∧ (gxWf (gPP rs') (gRR rs') S.length e').1 ∧ ((5 : Nat) ≠ 7 → gxR e' = false) ∧ (gxLn e').1 + a ≤ a' ∧ gxH e' + a ≤ a' + 1) := fun e' a' rs' e => gPs_ok hto (n + 1) 5 w D (.num 0) a rs e' a' rs' e hp.2.2.2.2.2 (fun y => by omega) (fun _ => hw)
  have hR : gRpO M c S ts id R0 ((D + 1) * 4) cs a cs bs rs (gPca ts (gPs S ts n) w D a rs) k := hR
  obtain ⟨k1, k2, k3, k4, k5, k6⟩ := hp
  have c5 := k5
  unfold gRcap at c5
  have tk66 := gTkx_ok hw
  have L4 := gLt_4 hw
  have gw : g32 w := ⟨by omega, by omega⟩
  have gD : g32 (D : Int) := ⟨by omega, by omega⟩
  have gb : g32 (cs : Int) := ⟨by omega, by omega⟩
  rw [show d + (n + 1) + 8 = d + n + 4 + 5 by omega]
  have sF : ∀ (M2 : gM) (x5 x6 : Int), g32 x5 → g32 x6 → M2 (c + 14) 5 = 1 → k (gUp M2 (c + 14) 5 1) → gW163 l G X c Q (d + n + 4 + 5) k w D cs x5 x6 M2 := by
    intro M2 x5 x6 g5 g6 f hk
    unfold gW163
    refine w_Rd_readCall_163 (Q := Q) (d := d + n + 4) hX hO gw gD gb tk66 g5 g6 (c_Rd_expectF hX (g32_c rfl) f ?_)
    rw [gUp_eq]
    exact fun _ => ⟨fun y => absurd y (by decide), fun _ => hk⟩
  -- the end of a call
  have sS : ∀ (as : gEx) (M2 : gM) (x5 : Int) (a' : Nat) (rs' : List gRf) (cs' bs' : Nat), gPca ts (gPs S ts n) w D a rs = (if gTK ts a' = 14 then some (.sub (.num w) as, a' + 1, rs') else none) → (gxAL as).length ≤ 10000 → (gxAL as ≠ [] → D + 1 ≤ 20) → a' ≤ ts.length → (∀ e ∈ gxAL as, (gxWf (gPP rs') (gRR rs') S.length e).1) → gOff (gRdR c id cs (R0 + rs.length) bs ((D + 1) * 4)) M M2 → M2 (c + 14) 5 = 0 → gRwh M2 c a' cs' (R0 + rs'.length) bs' → gRbd ts a cs (R0 + rs.length) bs a' cs' (R0 + rs'.length) bs' → gRfM M2 c id R0 rs' → (x5 = 0 ∨ x5 = 1) → (gTK ts a' = 14 → x5 = (if gRq (gLt w) 0 (gxAL as) = true then 1 else 0) ∧ (gRq (gLt w) 0 (gxAL as) = true → (gxAL as).length ≤ (gLt w).length → gLay M2 c S bs' w (D + 1) cs (gxAL as) cs')) → gW163 l G X c Q (d + n + 4 + 5) k w D cs x5 (((gxAL as).length : Nat) : Int) M2 := by
    intro as M2 x5 a' rs' cs' bs' hq hlen hD1 ha' hwf o f s bd rf h01 h14
    have b2 := bd
    unfold gRbd at b2
    have g5 : g32 x5 := by rcases h01 with q | q <;> rw [q] <;> exact g32_c rfl
    unfold gW163
    by_cases kd : gTK ts a' = 14
    · rw [if_pos kd] at hq
      obtain ⟨p1, ⟨us, p2, p3⟩, p4⟩ := spec _ _ _ hq
      have lenr : rs'.length = rs.length + us.length := by rw [p2, List.length_append]
      refine w_Rd_readCall_163 (Q := Q) (d := d + n + 4) hX hO gw gD gb tk66 g5 ⟨by omega, by omega⟩ (c_Rd_expect hX (k1.kp o).2.1 hts (g32_c rfl) s.1 ha' f (fun _ => ?_) (fun y => absurd kd y))
      rw [gUp_k (by decide), f]
      generalize hM : gUp M2 (c + 14) 4 ((a' + 1 : Nat) : Int) = M3
      have o3 : ∀ x p : Nat, (x ≠ c + 14) → M3 x p = M2 x p := fun x p hx => by rw [← hM, gUp_a hx]
      have oT : gOff (gRdR c id cs (R0 + rs.length) bs ((D + 1) * 4)) M M3 := by rw [← hM]; exact o.tr gAd_off
      have s3 : gRwh M3 c (a' + 1) cs' (R0 + rs'.length) bs' := by rw [← hM]; exact gAd_st s
      have f3 : M3 (c + 14) 5 = 0 := by rw [← hM, gUp_k (by decide)]; exact f
      have r3 : gRfM M3 c id R0 rs' := by rw [← hM]; exact rf.ad
      have tl := gTln_mono ts a' 1
      have bF : gRbd ts a cs (R0 + rs.length) bs (a' + 1) (cs + (gxLn (.sub (.num w) as)).1) (R0 + rs'.length) bs' := by
        unfold gRbd
        have := p4.2.2.2.1
        omega
      have fin : ∀ M5 : gM, gOff (gRdR c id cs (R0 + rs.length) bs ((D + 1) * 4)) M M5 → M5 (c + 14) 5 = 0 → gRwh M5 c (a' + 1) (cs + (gxLn (.sub (.num w) as)).1) (R0 + rs'.length) bs' → gRfM M5 c id R0 rs' → gxCc M5 c w (gxAL as) ((gxAL as).map (fun x => (gxCo M5 c S bs' x).1)) ((gxAL as).map (fun x => (gxLn x).1)) cs → k M5 := by
        intro M5 o5 f5 s5 r5 co
        rw [hq] at hR
        refine hR.2 _ _ _ rfl M5 bs' o5 f5 s5 bF r5 ?_
        show gxCc M5 c w (gxAL as) (gxCo M5 c S bs' as).2 (gxLn as).2 cs
        rw [gxCo_map, gxLn_map]
        exact co
      have eLn : (gxLn (.sub (.num w) as)).1 = gxCl w (gxAL as) ((gxAL as).map (fun x => (gxLn x).1)) := by
        show gxCl w (gxAL as) (gxLn as).2 = _
        rw [gxLn_map]
      -- a wrong call
      have rep : ∀ x : Int, g32 x → (gxLn (.sub (.num w) as)).1 = 1 → (∀ M5, gAt2 M5 c cs 3 x → gxCc M5 c w (gxAL as) ((gxAL as).map (fun x => (gxCo M5 c S bs' x).1)) ((gxAL as).map (fun x => (gxLn x).1)) cs) → cV l G y_Rd_replaceCode (gRm (d + n + 4 + 4)) true [gR G (c + 14), gI (cs : Int), gI x] X M3 (fun M36 => k M36) := by
        intro x gx e1 hcc
        refine c_Rd_replaceCode (d := d + n + 7) hX (by omega) gx ?_
        have o4 : gOff (gRdR c id cs (R0 + rs.length) bs ((D + 1) * 4)) M3 (gUp M3 (c + 2) 12 (cs : Int)) := (gOff.rf _ _).up (by unfold gRdR; omega)
        have s4 : gRwh (gUp M3 (c + 2) 12 (cs : Int)) c (a' + 1) cs (R0 + rs'.length) bs' := by
          unfold gRwh at s3 ⊢
          rw [gUp_a (by omega), gUp_eq, gUp_k (by decide), gUp_k (by decide)]
          exact ⟨s3.1, rfl, s3.2.2.1, s3.2.2.2⟩
        have r4 : gRfM (gUp M3 (c + 2) 12 (cs : Int)) c id R0 rs' := ⟨fun i hi => by rw [gUp_a (by omega), gUp_a (by omega)]; exact r3.1 i hi, by rw [gUp_a (by omega)]; exact r3.2⟩
        exact fin _ ((oT.tr o4).tr gEm_off) (by rw [gEm_f, gUp_a (by omega)]; exact f3) (by rw [e1]; exact gEm_st s4) r4.em (hcc _ gEm_at)
      have bad : 0 ≤ w → gxRt (gTks w.toNat) (gxAL as) = false → cV l G y_Rd_replaceCode (gRm (d + n + 4 + 4)) true [gR G (c + 14), gI (cs : Int), gI 4] X M3 (fun M36 => k M36) := by
        intro w0 hr
        refine rep 4 (g32_c rfl) ?_ (fun M5 q => ?_)
        · rw [eLn]
          unfold gxCl
          rw [if_neg (by omega), if_pos hr]
        · unfold gxCc
          rw [if_neg (by omega), if_pos hr]
          exact q
      obtain ⟨e5, hlay⟩ := h14 kd
      refine fun _ => ⟨fun _ => ⟨fun w0 => ?_, fun w0 => ?_⟩, fun y => absurd rfl y⟩
      · have eL : gLt w = gTks w.toNat := by unfold gLt; rw [if_neg (by omega)]
        have rq := gRq_0 (gLt w) (gxAL as)
        rw [gTkx_l]
        refine ⟨fun z => bad w0 ?_, fun z => ⟨fun z2 => ⟨⟨w0, by omega⟩, ?_⟩, fun z2 => bad w0 ?_⟩⟩
        · rw [← eL]
          cases hq2 : gxRt (gLt w) (gxAL as) with
          | false => rfl
          | true =>
            rw [if_pos (rq.1 hq2).1] at e5
            rw [e5] at z
            exact absurd z (by decide)
        · have rt : gRq (gLt w) 0 (gxAL as) = true := by
            cases hq2 : gRq (gLt w) 0 (gxAL as) with
            | true => rfl
            | false =>
              rw [hq2] at e5
              exact absurd e5 z
          have ll : (gxAL as).length = (gLt w).length := by omega
          have grt : gxRt (gTks w.toNat) (gxAL as) ≠ false := by
            rw [← eL, rq.2 ⟨rt, ll⟩]
            decide
          have L0 := hlay rt (Nat.le_of_eq ll)
          unfold gLay at L0
          refine ⟨fun z3 => ?_, fun z3 => ?_⟩
          · rw [if_neg (fun y => z3 y.2)] at L0
            have eC : gxCl w (gxAL as) ((gxAL as).map (fun x => (gxLn x).1)) = gLsu (gxAL as) + 1 := by
              unfold gxCl
              rw [if_neg (by omega), if_neg grt, if_neg z3]
              rfl
            have em : gOff (gRdR c id cs' (R0 + rs'.length) bs' ((D + 1) * 4)) M3 (gEm M3 c cs' 11 w) := gEm_off
            refine c_Cn_emit hX (g32_c rfl) (g64_32 gw) s3.2.1 (by omega) (fin _ (oT.tr (em.mono (gRdR_le ⟨b2.2.1, b2.2.2.1, b2.2.2.2.1, Nat.le_refl _⟩))) (by rw [gEm_f]; exact f3) (by rw [eLn, eC, ← Nat.add_assoc, ← L0.2]; exact gEm_st s3) r3.em ?_)
            unfold gxCc
            rw [if_neg (by omega), if_neg grt, if_neg z3]
            refine ⟨?_, ?_⟩
            · rw [← eL]
              refine gxSq_keep (M := M2) (B := bs') (B2 := bs') _ _ _ (fun e he => ⟨gxLn_pos e (hwf e he), (gxCo_keep (Nat.le_refl _) (fun j hj => (em _ _ (by unfold gRdR; omega)).trans (o3 _ _ (by omega))) e).1 (hwf e he)⟩) (fun j j1 j2 => ?_) L0.1
              have j2 : j < cs + gLsu (gxAL as) := j2
              exact ⟨(em _ _ (by unfold gRdR; omega)).trans (o3 _ _ (by omega)), (em _ _ (by unfold gRdR; omega)).trans (o3 _ _ (by omega))⟩
            · have e6 : cs + ((gxAL as).map (fun x => (gxLn x).1)).sum = cs' := L0.2.symm
              rw [e6]
              exact gEm_at
          · have hp : 0 ≤ w ∧ gWgr w.toNat = 5 := ⟨w0, z3⟩
            rw [if_pos hp] at L0
            have l2 := gLt_two hw hp
            have ope : True := trivial
            generalize hes : gxAL as = es at *
            cases es with
            | nil => exact absurd ll (by show ¬ 0 = _; omega)
            | cons e0 rest =>
              obtain ⟨y1, y2, y3⟩ := L0
              have hD1 := hD1 (by intro y; cases y)
              have ll : rest.length + 1 = (gLt w).length := ll
              have rne : rest ≠ [] := fun y => by rw [y] at ll; have : 0 + 1 = (gLt w).length := ll; omega
              have l0 := List.length_pos_iff.2 rne
              rw [if_neg rne] at y3
              have wr : ∀ e ∈ rest, (gxWf (gPP rs') (gRR rs') S.length e).1 := fun e he => hwf e (List.mem_cons_of_mem _ he)
              have y2b : gPk0 M3 c S bs' (gxOp w.toNat) (D + 1) rest 1 (cs + (gxLn e0).1) := gPk0_rd (Nat.le_refl _) (fun j _ => o3 _ _ (by omega)) rest _ _ wr (fun p _ _ => ⟨o3 _ _ (by omega), o3 _ _ (by omega)⟩) (fun i _ _ => o3 _ _ (by omega)) y2
              have eC : gxCl w (e0 :: rest) ((e0 :: rest).map (fun x => (gxLn x).1)) = (gxLn e0).1 + gLsu rest + 2 * (rest.length + 1) - 3 := by
                unfold gxCl
                rw [if_neg (by omega), if_neg grt, if_pos z3, List.length_map]
                rfl
              have eZ : cs + gxCl w (e0 :: rest) ((e0 :: rest).map (fun x => (gxLn x).1)) = cs' := by rw [eC]; omega
              rw [show (D : Int) + 1 = ((D + 1 : Nat) : Int) by omega]
              refine c_Rd_closePicks (z := cs') hX rne (by omega) (by omega) s3.2.1 (by omega) (by omega) wr y2b (fun M5 o5 pk => ?_)
              have k5' : ∀ x p : Nat, x ≠ c + 10 → M5 x p = M3 x p := fun x p hx => o5 x p (fun y => hx y.1)
              refine fin M5 ?_ ?_ ?_ ?_ ?_
              · refine oT.tr (o5.mono (fun x p q => ?_))
                unfold gRdR
                omega
              · rw [k5' _ _ (by omega)]; exact f3
              · rw [eLn, eZ]
                unfold gRwh at s3 ⊢
                rw [k5' _ _ (by omega), k5' _ _ (by omega), k5' _ _ (by omega), k5' _ _ (by omega)]
                exact s3
              · exact ⟨fun i hi => by rw [k5' _ _ (by omega), k5' _ _ (by omega)]; exact r3.1 i hi, by rw [k5' _ _ (by omega)]; exact r3.2⟩
              · unfold gxCc
                rw [if_neg (by omega), if_neg grt, if_pos z3, eZ]
                refine ⟨?_, pk⟩
                exact (gxCo_keep (Nat.le_refl _) (fun j _ => (k5' _ _ (by omega)).trans (o3 _ _ (by omega))) e0).1 (hwf e0 List.mem_cons_self) cs (fun j j1 j2 => ⟨(k5' _ _ (by omega)).trans (o3 _ _ (by omega)), (o5 _ _ (by omega)).trans (o3 _ _ (by omega))⟩) y1
        · rw [← eL]
          cases hq2 : gxRt (gLt w) (gxAL as) with
          | false => rfl
          | true => exact absurd (show (((gxAL as).length : Nat) : Int) = ((gLt w).length : Int) by rw [(rq.1 hq2).2]) z2
      · refine rep 3 (g32_c rfl) ?_ (fun M5 q => ?_)
        · rw [eLn]
          unfold gxCl
          rw [if_pos (by omega)]
        · unfold gxCc
          rw [if_pos (by omega)]
          exact q
    · rw [if_neg kd] at hq
      refine w_Rd_readCall_163 (Q := Q) (d := d + n + 4) hX hO gw gD gb tk66 g5 ⟨by omega, by omega⟩ (c_Rd_expect hX (k1.kp o).2.1 hts (g32_c rfl) s.1 ha' f (fun y => absurd y kd) (fun _ => ?_))
      rw [gUp_eq]
      exact fun _ => ⟨fun y => absurd y (by decide), fun _ => ((hR.1 hq).step o bd (Nat.le_refl _)).fail s (by omega)⟩
  have stop : ∀ (M2 : gM), gW163 l G X c Q (d + n + 4 + 5) k w D cs 1 0 M2 → wp l G y_Rd_readCall (gRm (d + n + 4 + 5)) true (kkV X k) true 70 [.val (gR G (c + 14)), .val (gI w), .val (gI (D : Int)), .val (gI (cs : Int)), .val (.ref (Q.2.1 (gTkx w))), .val (gI 1), .val (gI 0), .val (gI 0)] [] X M2 0 0 := fun M2 hk => w_Rd_readCall_70 (Q := Q) (d := d + n + 4) hX hO gw gD gb tk66 (g32_c rfl) (g32_c rfl) (g32_c rfl) ⟨fun _ => hk, fun y => absurd rfl y⟩
  have adv : gOff (gRdR c id cs (R0 + rs.length) bs ((D + 1) * 4)) M (gUp M (c + 14) 4 ((a + 1 : Nat) : Int)) := gAd_off
  have b1 := gRbd.ad ts a 1 cs (R0 + rs.length) bs
  have main : cV l G y_Rd_expect (gRm (d + n + 4 + 4)) true [gR G (c + 14), gI 13] X M (fun M3 => ((0 ≤ M3 (c + 14) 5 ∧ M3 (c + 14) 5 ≤ 1) → ((¬ M3 (c + 14) 5 = 0 → (wp l G y_Rd_readCall (gRm (d + n + 4 + 5)) true (kkV X k) true 70 [.val (gR G (c + 14)), .val (gI w), .val (gI (D : Int)), .val (gI (cs : Int)), .val (.ref (Q.2.1 (gTkx w))), .val (gI 1), .val (gI 0), .val (gI 0)] [] X M3 0 0)) ∧ (M3 (c + 14) 5 = 0 → (g32 (M3 (c + 14) 4) → (((0 : Int) ≤ M3 (c + 14) 4 ∧ M3 (c + 14) 4 < 104) ∧ (g32 (M3 (c + 17) (Int.toNat (M3 (c + 14) 4))) → ((M3 (c + 17) (Int.toNat (M3 (c + 14) 4)) = 14 → (wp l G y_Rd_readCall (gRm (d + n + 4 + 5)) true (kkV X k) true 70 [.val (gR G (c + 14)), .val (gI w), .val (gI (D : Int)), .val (gI (cs : Int)), .val (.ref (Q.2.1 (gTkx w))), .val (gI 1), .val (gI 0), .val (gI 0)] [] X M3 0 0)) ∧ (¬ M3 (c + 17) (Int.toNat (M3 (c + 14) 4)) = 14 → (wp l G y_Rd_readCall (gRm (d + n + 4 + 5)) true (kkV X k) true 70 [.val (gR G (c + 14)), .val (gI w), .val (gI (D : Int)), .val (gI (cs : Int)), .val (.ref (Q.2.1 (gTkx w))), .val (gI 1), .val (gI 0), .val (gI 1)] [] X M3 0 0)))))))))) := by
    refine c_Rd_expect hX k1.2.1 hts (g32_c rfl) k2.1 k6 k3 (fun h13 => ?_) (fun h13 => ?_)
    · have l1 := gTK_lt (ts := ts) (a := a) (by rw [h13]; decide)
      have q5 : gUp M (c + 14) 4 ((a + 1 : Nat) : Int) (c + 14) 5 = 0 := by rw [gUp_k (by decide)]; exact k3
      have q17 : gUp M (c + 14) 4 ((a + 1 : Nat) : Int) (c + 17) (a + 1) = gTK ts (a + 1) := (k1.kp adv).2.1.kd (by omega)
      rw [q5, gUp_eq, Int.toNat_natCast, q17]
      refine fun _ => ⟨fun y => absurd rfl y, fun _ _ => ⟨⟨by omega, by omega⟩, fun _ => ⟨fun h14 => stop _ ?_, fun h14 => ?_⟩⟩⟩
      · refine sS (.num 0) _ 1 (a + 1) rs cs bs ?_ (Nat.zero_le _) (fun y => absurd rfl y) l1 (fun e he => by cases he) adv q5 (gAd_st k2) b1 k4.ad (Or.inr rfl) (fun _ => ⟨rfl, fun _ _ => ?_⟩)
        · unfold gPca
          rw [if_pos h13, if_pos h14, if_pos h14]
        · unfold gLay
          split
          · rfl
          · exact ⟨by cases gLt w <;> trivial, rfl⟩
      · have hq : gPca ts (gPs S ts n) w D a rs = gBd (gPs S ts n 6 w (D + 1) (.num 0) (a + 1) rs) (fun x b r => if gTK ts b = 14 then some (.sub (.num w) x, b + 1, r) else none) := by
          unfold gPca
          rw [if_pos h13, if_neg h14]
        have := ih6 (d + 1) (gUp M (c + 14) 4 ((a + 1 : Nat) : Int)) k w D cs a cs bs rs [] 1 (k1.kp adv) (gAd_st k2) q5 k4.ad k5 l1 (by omega) hD hw (Nat.zero_le _) (by omega) (fun e he => by cases he) rfl (fun _ _ => ?_) (fun e => ?_) (fun as a2 r2 e M2 z5 cs2 bs2 o2 f2 s2 bd2 rf2 z01 h14b => ?_)
        · rw [show d + 1 + n + 8 = d + n + 4 + 5 by omega] at this
          exact this
        · unfold gLay
          split
          · rfl
          · exact ⟨by cases gLt w <;> trivial, rfl⟩
        · rw [e] at hq
          rw [show d + 1 + n + 8 = d + n + 4 + 5 by omega]
          intro M2 a' cs' rf' bs' o f s b l' x5 x6 g5 g6
          exact sF M2 x5 x6 g5 g6 f (hR.1 hq _ a' cs' rf' bs' ((adv.tr o).tr gFa_off) (gUp_eq _ _ _ _) (gFa_st s) b l')
        · rw [e] at hq
          obtain ⟨p1, -, p4⟩ := gPs_ok hto n 6 w (D + 1) _ (a + 1) rs as a2 r2 e l1 (fun y => by omega) (fun y => by omega)
          have p4 : a + 1 < a2 ∧ (gxWf (gPP r2) (gRR r2) S.length as).2 ∧ (gxLn as).2.sum + (gxAL as).length + (a + 1) ≤ a2 + 1 ∧ _ := p4
          rw [show d + 1 + n + 8 = d + n + 4 + 5 by omega]
          rw [List.nil_append] at h14b ⊢
          exact sS as M2 z5 a2 r2 cs2 bs2 hq (by omega) (fun _ => gPs_6D e) p1 (gxWf_all as p4.2.1) (adv.tr o2) f2 s2 bd2 rf2 z01 h14b
    · have hq : gPca ts (gPs S ts n) w D a rs = none := by
        unfold gPca
        rw [if_neg h13]
      rw [gUp_eq]
      refine fun _ => ⟨fun _ => stop _ (sF _ 1 0 (g32_c rfl) (g32_c rfl) (gUp_eq _ _ _ _) ?_), fun y => absurd y (by decide)⟩
      exact hR.1 hq _ a cs _ bs (gFa_off.tr gFa_off) (gUp_eq _ _ _ _) (gFa_st (gFa_st k2)) (gRbd.rf _ _ _ _ _) (by omega)
  refine e_Rd_readCall (Q := Q) (w_Rd_readCall_0 (Q := Q) (d := d + n + 4) hX hO gw gD ?_)
  rw [k2.2.1]
  refine fun _ => ⟨fun w0 => ⟨⟨w0, by omega⟩, ?_⟩, fun w0 => ?_⟩
  · have e : gTkx w = gWta w.toNat := by unfold gTkx; rw [if_neg (by omega)]
    rw [← e]
    exact main
  · have e : gTkx w = 2 := by unfold gTkx; rw [if_pos (by omega)]
    rw [← e]
    exact main
end gdS
