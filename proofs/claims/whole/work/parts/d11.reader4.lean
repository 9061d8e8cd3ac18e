/-! The class's Reader: primaries, operands and expressions, one step of the parser after the other. -/
section gdK
variable {l : Launch} {G : gG} {X : gX} {c : Nat} {Q : gQ} {S : List Int} {ts : List gTkn} {id R0 : Nat}
theorem gC0_step {n : Nat} (hX : glX X c) (hO : gOld G Q) (hts : ts.length ≤ 100) (hto : ∀ t ∈ ts, gTkO S t ∧ 1 ≤ t.2.1) (hln : ∀ x, gTln ts x ≤ 240) (hid : id < 513) (ih3 : gC3 l G X c S ts id R0 n) (ih5 : gC5 l G X c S ts id R0 n) : gC0 l G X c S ts id R0 (n + 1) := by
  intro d M k D a cs bs rs hp hm hD hR
  have hR : gRpO M c S ts id R0 ((D + 1) * 4) cs a cs bs rs (gPp S ts (gPs S ts n) D a rs) k := hR
  obtain ⟨k1, k2, k3, k4, k5, k6⟩ := hp
  have ek : M (c + 17) a = gTK ts a := k1.2.1.kd (by omega)
  rw [show d + (n + 1) + 8 = d + n + 8 + 1 by omega]
  refine e_Rd_readPrimary (w_Rd_readPrimary_0 (d := d + n + 8) hX ⟨by omega, by omega⟩ ?_)
  simp (disch := omega) only [gUp_eq, gUp_a, gUp_k, k2.1, Int.toNat_natCast, ek]
  rw [w32_id (x := (a : Int) + 1) ⟨by omega, by omega⟩, show (a : Int) + 1 = ((a + 1 : Nat) : Int) by omega, show (D : Int) + 1 = ((D + 1 : Nat) : Int) by omega]
  have adv : gOff (gRdR c id cs (R0 + rs.length) bs ((D + 1) * 4)) M (gUp M (c + 14) 4 ((a + 1 : Nat) : Int)) := gAd_off
  have b1 := gRbd.ad ts a 1 cs (R0 + rs.length) bs
  have fl : gPp S ts (gPs S ts n) D a rs = none → k (gUp (gUp M (c + 14) 4 ((a + 1 : Nat) : Int)) (c + 14) 5 1) := fun e => ((hR.1 e).step adv b1 (Nat.le_refl _)).fail (gAd_st k2) (by omega)
  refine fun _ _ => ⟨⟨by omega, by omega⟩, fun _ => ⟨fun hk => ?_, fun hk => fl ?_, fun hk => fl ?_, fun hk => fl ?_, fun hk => ?_, fun hk => ?_, fun hk => ?_, fun hk => ?_, fun hk => ?_, fun hk => ?_, fun hk => fl ?_⟩⟩
  · -- brackets
    have l1 := gTK_lt (ts := ts) (a := a) (by rw [hk]; decide)
    have hq : gPp S ts (gPs S ts n) D a rs = gBd (gPs S ts n 3 1 (D + 1) (.num 0) (a + 1) rs) (fun x b r => if gTK ts b = 14 then some (.mulR x 0, b + 1, r) else none) := by
      unfold gPp
      rw [hk]
      rfl
    rw [hq] at hR
    refine ih3 d _ _ 1 (D + 1) (a + 1) cs bs rs (gRpre.ad ⟨k1, k2, k3, k4, k5, k6⟩ l1) (by omega) (by omega) ⟨by decide, by decide⟩ ⟨fun e => ?_, fun x b r e => ?_⟩
    · rw [e] at hR
      exact ((hR.1 rfl).step adv b1 (by omega)).ex hX (g32_c rfl)
    · rw [e] at hR
      have hR : gRpO M c S ts id R0 ((D + 1) * 4) cs a cs bs rs (if gTK ts b = 14 then some (.mulR x 0, b + 1, r) else none) k := hR
      obtain ⟨p1, -, p4⟩ := gPs_ok hto n 3 1 (D + 1) _ (a + 1) rs x b r e l1 (fun _ => by decide) (fun y => by omega)
      have p4 : a + 1 < b ∧ (gxWf (gPP r) (gRR r) S.length x).1 ∧ _ := p4
      intro M2 bs' o f s bd rf co
      have ot := adv.tr (o.mono (gRdR_le ⟨Nat.le_refl _, Nat.le_refl _, Nat.le_refl _, by omega⟩))
      have bt := b1.tr bd
      refine c_Rd_expect hX ((k1.kp adv).kp o).2.1 hts (g32_c rfl) s.1 p1 f (fun h14 => ?_) (fun h14 => ?_)
      · rw [if_pos h14] at hR
        refine hR.2 _ _ _ rfl _ bs' (ot.tr gAd_off) (by rw [gUp_k (by decide)]; exact f) (gAd_st s) (bt.tr (gRbd.ad ts b 1 _ _ _)) rf.ad ?_
        show (gxCo _ c S bs' x).1 cs
        exact gxCo_rd (gAd_off (id := id) (cs := cs + (gxLn x).1) (rf := 0) (bs := bs') (mk := 0)) p4.2.1 (Nat.le_refl _) (Nat.le_refl _) co
      · rw [if_neg h14] at hR
        exact ((hR.1 rfl).step ot bt (Nat.le_refl _)).fail s (by omega)
  · unfold gPp; rw [hk]; rfl
  · unfold gPp; rw [hk]; rfl
  · unfold gPp; rw [hk]; rfl
  · have l1 := gTK_lt (ts := ts) (a := a) (by rw [hk]; decide)
    have ho := (hto _ (gTs_mem l1)).1
    obtain ⟨z, hz⟩ := gTkO_17 ho hk
    have hq : gPp S ts (gPs S ts n) D a rs = some (.num z, a + 1, rs) := by
      unfold gPp
      rw [hk, hz]
      rfl
    rw [hq] at hR
    refine c_Tk_numberOf (d := d + n + 7) hX (k1.kp adv).1 (k1.kp adv).2.1.1 l1 (by omega) ho hz (gRd_lit hX (g32_c rfl) (gNum_ok hz) hts ⟨k1, k2, k3, k4, k5, k6⟩ l1 hR rfl (fun M3 q => q))
  · have l1 := gTK_lt (ts := ts) (a := a) (by rw [hk]; decide)
    have ho := (hto _ (gTs_mem l1)).1
    have hq : gPp S ts (gPs S ts n) D a rs = some (.mulL ((gTs ts a).2.1 + 1 : Nat) (.num ((gTs ts a).2.2 - 1 : Nat)), a + 1, rs) := by
      unfold gPp
      rw [hk]
      rfl
    rw [hq] at hR
    rw [(k1.2.1.1.2 a l1).2.1, (k1.2.1.1.2 a l1).2.2.1]
    exact ⟨⟨by omega, by omega⟩, fun _ => ⟨⟨by omega, by omega⟩, fun _ => ⟨⟨by omega, by omega⟩, fun _ => gRd_text (d := d + n + 7) hX hts hto hln ⟨k1, k2, k3, k4, k5, k6⟩ hk hR⟩⟩⟩
  · have l1 := gTK_lt (ts := ts) (a := a) (by rw [hk]; decide)
    have hq : gPp S ts (gPs S ts n) D a rs = some (.var rs.length, a + 1, rs ++ [gRfA S ts a 0]) := by
      unfold gPp
      rw [hk]
      rfl
    rw [hq] at hR
    have c5 := k5
    unfold gRcap at c5
    refine gRd_ref (d := d + n + 7) (x := 0) (mk := (D + 1) * 4) hX hts hto hid (k1.kp adv) (gAd_st k2) k4.ad (by omega) hk (by decide) (fun M3 o s f rf => ?_)
    refine c_Cn_emit hX (g32_c rfl) ⟨by omega, by omega⟩ s.2.1 (by omega) (hR.2 _ _ _ rfl _ bs ((adv.tr o).tr gEm_off) ?_ (gEm_st s) ?_ rf.em gEm_at)
    · rw [gEm_f, f, gUp_k (by decide)]; exact k3
    · rw [List.length_append]
      show gRbd ts a cs (R0 + rs.length) bs (a + 1) (cs + 1) (R0 + (rs.length + 1)) bs
      unfold gRbd at b1 ⊢
      omega
  · have l1 := gTK_lt (ts := ts) (a := a) (by rw [hk]; decide)
    have ho := (hto _ (gTs_mem l1)).1
    have hq : gPp S ts (gPs S ts n) D a rs = gPs S ts n 5 (gNmW (gSbs S (gTs ts a).2.1 (gTs ts a).2.2)) D (.num 0) (a + 1) rs := by
      unfold gPp
      rw [hk]
      rfl
    rw [hq] at hR
    refine c_Tk_workOf (d := d + n + 2) hX hO (k1.kp adv).1 (k1.kp adv).2.1.1 l1 (by omega) ho (ih5 d _ _ _ D (a + 1) cs bs rs (gRpre.ad ⟨k1, k2, k3, k4, k5, k6⟩ l1) (by omega) hD (gNmW_rng _) (hR.step adv b1 (Nat.le_refl _)))
  · have l1 := gTK_lt (ts := ts) (a := a) (by rw [hk]; decide)
    have hq : gPp S ts (gPs S ts n) D a rs = some (.mulL 1 (.var 0), a + 1, rs) := by
      unfold gPp
      rw [hk]
      rfl
    rw [hq] at hR
    exact gRd_lit hX (g32_c rfl) (g64_32 (g32_c rfl)) hts ⟨k1, k2, k3, k4, k5, k6⟩ l1 hR rfl (fun M3 q => q)
  · have l1 := gTK_lt (ts := ts) (a := a) (by rw [hk]; decide)
    have hq : gPp S ts (gPs S ts n) D a rs = some (.mulL 0 (.var 0), a + 1, rs) := by
      unfold gPp
      rw [hk]
      rfl
    rw [hq] at hR
    exact gRd_lit hX (g32_c rfl) (g64_32 (g32_c rfl)) hts ⟨k1, k2, k3, k4, k5, k6⟩ l1 hR rfl (fun M3 q => q)
  · unfold gPp
    rw [if_neg hk.2.2.2.2.1, if_neg hk.2.2.2.2.2.1, if_neg hk.2.2.2.2.2.2.1, if_neg hk.2.2.2.2.2.2.2.2.1, if_neg hk.2.2.2.2.2.2.2.2.2, if_neg hk.2.2.2.2.2.2.2.1, if_neg hk.1]
theorem gRpS.now {M : gM} {k : gM → Prop} {e : gEx} {a cs bs cb mk : Nat} {rs : List gRf} (hp : gRpre M c S ts id R0 a cs bs rs) (hc : cs = cb + (gxLn e).1) (co : (gxCo M c S bs e).1 cb) (h : gRpO M c S ts id R0 mk cb a cs bs rs (some (e, a, rs)) k) : k M := by
  refine h.2 e a rs rfl M bs (gOff.rf _ _) hp.2.2.1 (by rw [← hc]; exact hp.2.1) (by rw [← hc]; exact gRbd.rf _ _ _ _ _) hp.2.2.2.1 co
theorem gC1_step {n : Nat} (hX : glX X c) (hts : ts.length ≤ 100) (hto : ∀ t ∈ ts, gTkO S t ∧ 1 ≤ t.2.1) (ih0 : gC0 l G X c S ts id R0 n) (ih1 : gC1 l G X c S ts id R0 n) (ih2 : gC2 l G X c S ts id R0 n) : gC1 l G X c S ts id R0 (n + 1) := by
  intro d M k D a cs bs rs hp hm hD hR
  have hR : gRpO M c S ts id R0 ((D + 1) * 4) cs a cs bs rs (gPo ts (gPs S ts n) D a rs) k := hR
  obtain ⟨k1, k2, k3, k4, k5, k6⟩ := hp
  have ek : M (c + 17) a = gTK ts a := k1.2.1.kd (by omega)
  have c5 := k5
  unfold gRcap at c5
  rw [show d + (n + 1) + 8 = d + n + 8 + 1 by omega]
  refine e_Rd_readOperand (w_Rd_readOperand_0 (d := d + n + 8) hX ⟨by omega, by omega⟩ ⟨fun hd => ?_, fun hd => ?_⟩)
  · rw [k2.1, Int.toNat_natCast, ek, w32_id (x := (a : Int) + 1) ⟨by omega, by omega⟩, show (a : Int) + 1 = ((a + 1 : Nat) : Int) by omega, show (D : Int) + 1 = ((D + 1 : Nat) : Int) by omega]
    refine fun _ => ⟨⟨by omega, by omega⟩, fun _ => ⟨fun hk => ?_, fun hk _ => ?_⟩⟩
    · unfold gPo at hR
      rw [if_neg (by omega), if_neg hk] at hR
      refine ih0 d M _ D a cs bs rs ⟨k1, k2, k3, k4, k5, k6⟩ (by omega) (by omega) ⟨fun e => ?_, fun x b r e => ?_⟩
      · rw [e] at hR
        intro M2 a' cs' rf' bs' o f s b l
        refine w_Rd_readOperand_67 (d := d + n + 8) hX (g32_c rfl) ?_
        rw [f]
        exact ⟨fun z => absurd z (by decide), fun _ _ => ⟨fun _ => hR.1 rfl M2 a' cs' rf' bs' o f s b l, fun z => absurd z (by decide)⟩⟩
      · rw [e] at hR
        have hR : gRpO M c S ts id R0 ((D + 1) * 4) cs a cs bs rs (gPs S ts n 2 0 D x b r) k := hR
        obtain ⟨p1, -, p4⟩ := gPs_ok hto n 0 0 D _ a rs x b r e k6 (fun y => by omega) (fun y => by omega)
        have p4 : a < b ∧ (gxWf (gPP r) (gRR r) S.length x).1 ∧ ((0 : Nat) ≠ 7 → gxR x = false) ∧ _ := p4
        intro M2 bs' o f s bd rf co
        have := ih2 (d + 1) M2 k D b (cs + (gxLn x).1) bs' cs 100 r x ⟨k1.kp o, s, f, rf, k5.bd bd, p1⟩ (by omega) (by omega) (by omega) p4.2.1 (p4.2.2.1 (by decide)) rfl co (hR.step o bd (Nat.le_refl _))
        rw [show d + 1 + n + 8 = d + n + 8 + 1 by omega] at this
        exact this
    · have l1 := gTK_lt (ts := ts) (a := a) (by rw [hk]; decide)
      unfold gPo at hR
      rw [if_neg (by omega), if_pos hk] at hR
      have adv : gOff (gRdR c id cs (R0 + rs.length) bs ((D + 1) * 4)) M (gUp M (c + 14) 4 ((a + 1 : Nat) : Int)) := gAd_off
      have b1 := gRbd.ad ts a 1 cs (R0 + rs.length) bs
      refine ih1 d _ _ (D + 1) (a + 1) cs bs rs (gRpre.ad ⟨k1, k2, k3, k4, k5, k6⟩ l1) (by omega) (by omega) ⟨fun e => ?_, fun x b r e => ?_⟩
      · rw [e] at hR
        exact (hR.1 rfl).em hX (g32_c rfl) (g64_32 (g32_c rfl)) hts c5.1 adv (by omega)
      · rw [e] at hR
        have hR : gRpO M c S ts id R0 ((D + 1) * 4) cs a cs bs rs (some (.neg x, b, r)) k := hR
        obtain ⟨p1, -, p4⟩ := gPs_ok hto n 1 0 (D + 1) _ (a + 1) rs x b r e l1 (fun y => by omega) (fun y => by omega)
        have p4 : a + 1 < b ∧ (gxWf (gPP r) (gRR r) S.length x).1 ∧ ((1 : Nat) ≠ 7 → gxR x = false) ∧ (gxLn x).1 + (a + 1) ≤ b ∧ _ := p4
        intro M2 bs' o f s bd rf co
        have ot := adv.tr (o.mono (gRdR_le ⟨Nat.le_refl _, Nat.le_refl _, Nat.le_refl _, by omega⟩))
        have bt := b1.tr bd
        have bt2 := bt
        unfold gRbd at bt2
        refine c_Cn_emit hX (g32_c rfl) (g64_32 (g32_c rfl)) s.2.1 (by omega) (hR.2 _ _ _ rfl _ bs' (ot.tr (gEm_off.mono (gRdR_le (cs2 := cs + (gxLn x).1) (rf2 := R0 + rs.length) (bs2 := bs) (mk2 := (D + 1) * 4) ⟨by omega, Nat.le_refl _, Nat.le_refl _, Nat.le_refl _⟩))) (by rw [gEm_f]; exact f) (gEm_st s) ?_ rf.em ⟨?_, gEm_at⟩)
        · show gRbd ts a cs (R0 + rs.length) bs b (cs + ((gxLn x).1 + 1)) (R0 + r.length) bs'
          unfold gRbd
          omega
        · exact gxCo_rd (gEm_off (id := id) (cs := cs + (gxLn x).1) (rf := 0) (bs := bs') (mk := 0)) p4.2.1 (Nat.le_refl _) (Nat.le_refl _) co
  · unfold gPo at hR
    rw [if_pos (by omega)] at hR
    exact (hR.1 rfl).fail k2 (by omega)
theorem gC2_step {n : Nat} (hX : glX X c) (hts : ts.length ≤ 100) (ih2 : gC2 l G X c S ts id R0 n) : gC2 l G X c S ts id R0 (n + 1) := by
  intro d M k D a cs bs cb x2 rs e hp hm hx hx2 hw hr hc co hR
  have hR : gRpO M c S ts id R0 ((D + 1) * 4) cb a cs bs rs (gPpc ts (gPs S ts n) D e a rs) k := hR
  have done : gTK ts a ≠ 12 → k M := fun hk => by
    unfold gPpc at hR
    rw [if_neg hk] at hR
    exact gRpS.now hp hc co hR
  have hp0 := hp
  obtain ⟨k1, k2, k3, k4, k5, k6⟩ := hp
  have ek : M (c + 17) a = gTK ts a := k1.2.1.kd (by omega)
  have c5 := k5
  unfold gRcap at c5
  rw [show d + (n + 1) + 8 = d + n + 8 + 1 by omega]
  refine w_Rd_readOperand_67 (d := d + n + 8) hX ⟨by omega, by omega⟩ ?_
  rw [k3, k2.1, Int.toNat_natCast, ek, w32_id (x := (a : Int) + 1) ⟨by omega, by omega⟩, show (a : Int) + 1 = ((a + 1 : Nat) : Int) by omega]
  refine ⟨fun z => done (fun y => ?_), fun z _ => ⟨fun y => absurd rfl y, fun _ _ => ⟨⟨by omega, by omega⟩, fun _ => ⟨done, fun hk _ => ?_⟩⟩⟩⟩
  · have := gTK_lt (ts := ts) (a := a) (by rw [y]; decide)
    omega
  · have l1 := gTK_lt (ts := ts) (a := a) (by rw [hk]; decide)
    unfold gPpc at hR
    rw [if_pos hk] at hR
    have adv : gOff (gRdR c id cs (R0 + rs.length) bs ((D + 1) * 4)) M (gUp M (c + 14) 4 ((a + 1 : Nat) : Int)) := gAd_off
    obtain ⟨q1, q2, q3, q4, q5, q6⟩ := hp0.ad l1
    refine c_Cn_emit hX (g32_c rfl) (g64_32 (g32_c rfl)) q2.2.1 (by omega) ?_
    have em : gOff (gRdR c id cs (R0 + rs.length) bs ((D + 1) * 4)) (gUp M (c + 14) 4 ((a + 1 : Nat) : Int)) (gEm (gUp M (c + 14) 4 ((a + 1 : Nat) : Int)) c cs 11 12) := gEm_off
    have b1 : gRbd ts a cs (R0 + rs.length) bs (a + 1) (cs + 1) (R0 + rs.length) bs := by
      have := gRbd.ad ts a 1 cs (R0 + rs.length) bs
      unfold gRbd at this ⊢
      omega
    have hl : (gxLn (.mulR e 1)).1 = (gxLn e).1 + 1 := rfl
    have := ih2 (d + 1) _ k D (a + 1) (cs + 1) bs cb (x2 - 1) rs (.mulR e 1) ⟨(k1.kp adv).kp em, gEm_st q2, by rw [gEm_f]; exact q3, q4.em, k5.bd b1, l1⟩ (by omega) (by omega) (by omega) ⟨hw, hr⟩ rfl (by rw [hl]; omega) ?_ (hR.step (adv.tr em) b1 (Nat.le_refl _))
    · rw [show d + 1 + n + 8 = d + n + 8 + 1 by omega, show ((x2 - 1 : Nat) : Int) = (x2 : Int) + (-1) by omega] at this
      rw [w32_id (x := (x2 : Int) + (-1)) ⟨by omega, by omega⟩]
      exact this
    · show (gxCo _ c S bs e).1 cb ∧ gAt2 _ c (cb + (gxLn e).1) 11 12
      refine ⟨gxCo_rd (adv.tr em) hw (by omega) (Nat.le_refl _) co, ?_⟩
      rw [← hc]
      exact gEm_at
theorem gC3_step {n : Nat} (hX : glX X c) (hO : gOld G Q) (hts : ts.length ≤ 100) (hto : ∀ t ∈ ts, gTkO S t ∧ 1 ≤ t.2.1) (ih1 : gC1 l G X c S ts id R0 n) (ih4 : gC4 l G X c S ts id R0 n) : gC3 l G X c S ts id R0 (n + 1) := by
  intro d M k w D a cs bs rs hp hm hD hw hR
  have hR : gRpO M c S ts id R0 ((D + 1) * 4) cs a cs bs rs (gPe (gPs S ts n) w D a rs) k := hR
  have hp0 := hp
  obtain ⟨k1, k2, k3, k4, k5, k6⟩ := hp
  rw [show d + (n + 1) + 8 = d + n + 8 + 1 by omega]
  unfold gPe at hR
  refine e_Rd_readExpression (Q := Q) (w_Rd_readExpression_0 (Q := Q) (d := d + n + 8) hX hO ⟨by omega, by omega⟩ ⟨by omega, by omega⟩ (ih1 d M _ D a cs bs rs hp0 (by omega) hD ⟨fun e => ?_, fun x b r e => ?_⟩))
  · rw [e] at hR
    intro M2 a' cs' rf' bs' o f s b l
    refine w_Rd_readExpression_8 (Q := Q) (d := d + n + 8) hX hO ⟨by omega, by omega⟩ ⟨by omega, by omega⟩ (g32_c rfl) ?_
    rw [f]
    exact ⟨fun z => absurd z (by decide), fun _ _ => ⟨fun _ => hR.1 rfl M2 a' cs' rf' bs' o f s b l, fun z => absurd z (by decide)⟩⟩
  · rw [e] at hR
    have hR : gRpO M c S ts id R0 ((D + 1) * 4) cs a cs bs rs (gPs S ts n 4 w D x b r) k := hR
    obtain ⟨p1, -, p4⟩ := gPs_ok hto n 1 0 D _ a rs x b r e k6 (fun y => by omega) (fun y => by omega)
    have p4 : a < b ∧ (gxWf (gPP r) (gRR r) S.length x).1 ∧ ((1 : Nat) ≠ 7 → gxR x = false) ∧ _ := p4
    intro M2 bs' o f s bd rf co
    have := ih4 (d + 1) M2 k w D b (cs + (gxLn x).1) bs' cs 100 r x ⟨k1.kp o, s, f, rf, k5.bd bd, p1⟩ (by omega) hD hw (by omega) (by omega) p4.2.1 (p4.2.2.1 (by decide)) rfl co (hR.step o bd (Nat.le_refl _))
    rw [show d + 1 + n + 8 = d + n + 8 + 1 by omega] at this
    exact this
theorem gTg_5 (i : Nat) : gTg i ≤ 5 := by
  by_cases h2 : i < 25
  · have : ∀ j, j < 25 → gTg j ≤ 5 := by decide
    exact this i h2
  · unfold gTg
    rw [List.getD_eq_getElem?_getD, List.getElem?_eq_none (by show 25 ≤ i; omega)]
    decide
theorem gC4_step {n : Nat} (hX : glX X c) (hO : gOld G Q) (hts : ts.length ≤ 100) (hto : ∀ t ∈ ts, gTkO S t ∧ 1 ≤ t.2.1) (ih3 : gC3 l G X c S ts id R0 n) (ih4 : gC4 l G X c S ts id R0 n) : gC4 l G X c S ts id R0 (n + 1) := by
  intro d M k w D a cs bs cb x3 rs e hp hm hD hw hx hx3 hwf hr hc co hR
  have hR : gRpO M c S ts id R0 ((D + 1) * 4) cb a cs bs rs (gPl2 ts (gPs S ts n) w D e a rs) k := hR
  have done : gTg (gTK ts a).toNat < w → k M := fun hk => by
    unfold gPl2 at hR
    rw [if_pos hk] at hR
    exact gRpS.now hp hc co hR
  have hp0 := hp
  obtain ⟨k1, k2, k3, k4, k5, k6⟩ := hp
  have ek : M (c + 17) a = gTK ts a := k1.2.1.kd (by omega)
  have c5 := k5
  unfold gRcap at c5
  have kr : 0 ≤ gTK ts a ∧ gTK ts a < 24 := by
    by_cases q : a < ts.length
    · have := gTkO_k (hto _ (gTs_mem q)).1
      show 0 ≤ (gTs ts a).1 ∧ (gTs ts a).1 < 24
      omega
    · unfold gTK
      rw [gTs_o (by omega)]
      decide
  have g5 := gTg_5 (gTK ts a).toNat
  rw [show d + (n + 1) + 8 = d + n + 8 + 1 by omega]
  have w8 : ∀ (k : gM → Prop) (x : Int), g32 x → gRpF M c ts id ((D + 1) * 4) a cs (R0 + rs.length) bs k → gRpF M c ts id ((D + 1) * 4) a cs (R0 + rs.length) bs (fun M9 => wp l G y_Rd_readExpression (gRm (d + n + 8 + 1)) true (kkV X k) true 8 [.val (gR G (c + 14)), .val (gI w), .val (gI (D : Int)), .val (gI x), .unset] [] X M9 0 0) := by
    intro k x gx h M2 a' cs' rf' bs' o f s b l
    refine w_Rd_readExpression_8 (Q := Q) (d := d + n + 8) hX hO ⟨by omega, by omega⟩ ⟨by omega, by omega⟩ gx ?_
    rw [f]
    exact ⟨fun z => h M2 a' cs' rf' bs' o f s b l, fun _ _ => ⟨fun _ => h M2 a' cs' rf' bs' o f s b l, fun z => absurd z (by decide)⟩⟩
  refine w_Rd_readExpression_8 (Q := Q) (d := d + n + 8) hX hO ⟨by omega, by omega⟩ ⟨by omega, by omega⟩ ⟨by omega, by omega⟩ ?_
  rw [k3, k2.1, Int.toNat_natCast, ek, w32_id (x := (a : Int) + 1) ⟨by omega, by omega⟩, show (a : Int) + 1 = ((a + 1 : Nat) : Int) by omega, w32_id (x := (x3 : Int) + (-1)) ⟨by omega, by omega⟩]
  refine ⟨fun z => done ?_, fun z _ => ⟨fun y => absurd rfl y, fun _ _ => ⟨⟨by omega, by omega⟩, fun _ => ⟨⟨kr.1, by omega⟩, fun hk _ => ⟨⟨kr.1, by omega⟩, ?_⟩, fun hk => done (by omega)⟩⟩⟩⟩
  · have : gTK ts a = 23 := by unfold gTK; rw [gTs_o (by omega)]
    rw [this]
    exact Int.lt_of_lt_of_le (by decide) hw.1
  · have k12 := gTg_12 (gTK ts a).toNat (by omega)
    have l1 := gTK_lt (ts := ts) (a := a) (fun y => by rw [y] at k12; exact absurd k12 (by decide))
    unfold gPl2 at hR
    rw [if_neg (by omega)] at hR
    have adv : gOff (gRdR c id cs (R0 + rs.length) bs ((D + 1) * 4)) M (gUp M (c + 14) 4 ((a + 1 : Nat) : Int)) := gAd_off
    have b1 := gRbd.ad ts a 1 cs (R0 + rs.length) bs
    refine ih3 d _ _ (gTg (gTK ts a).toNat + 1) D (a + 1) cs bs rs (hp0.ad l1) (by omega) hD ⟨by omega, by omega⟩ ⟨fun e2 => ?_, fun y b r e2 => ?_⟩
    · rw [e2] at hR
      exact (w8 k _ ⟨by omega, by omega⟩ (hR.1 rfl)).em hX (g32_c rfl) ⟨by omega, by omega⟩ hts c5.1 adv (by omega)
    · rw [e2] at hR
      have hR : gRpO M c S ts id R0 ((D + 1) * 4) cb a cs bs rs (gPs S ts n 4 w D (.mulL (gTK ts a) (.add e y)) b r) k := hR
      obtain ⟨p1, ⟨us, p2, p3⟩, p4⟩ := gPs_ok hto n 3 _ D _ (a + 1) rs y b r e2 l1 (fun _ => by omega) (fun y => by omega)
      have p4 : a + 1 < b ∧ (gxWf (gPP r) (gRR r) S.length y).1 ∧ ((3 : Nat) ≠ 7 → gxR y = false) ∧ (gxLn y).1 + (a + 1) ≤ b ∧ _ := p4
      intro M2 bs' o f s bd rf co2
      have ot := adv.tr o
      have bt := b1.tr bd
      have bt2 := bt
      unfold gRbd at bt2
      have em : gOff (gRdR c id (cs + (gxLn y).1) (R0 + r.length) bs' ((D + 1) * 4)) M2 (gEm M2 c (cs + (gxLn y).1) 11 (gTK ts a)) := gEm_off
      have b3 : gRbd ts a cs (R0 + rs.length) bs b (cs + (gxLn y).1 + 1) (R0 + r.length) bs' := by
        unfold gRbd
        omega
      have ot2 := ot.tr (em.mono (gRdR_le ⟨by omega, by omega, by omega, Nat.le_refl _⟩))
      have hl : (gxLn (.mulL (gTK ts a) (.add e y))).1 = (gxLn e).1 + (gxLn y).1 + 1 := rfl
      refine c_Cn_emit hX (g32_c rfl) ⟨by omega, by omega⟩ s.2.1 (by omega) ?_
      have := ih4 (d + 1) _ k w D b (cs + (gxLn y).1 + 1) bs' cb (x3 - 1) r (.mulL (gTK ts a) (.add e y)) ⟨((k1.kp adv).kp o).kp em, gEm_st s, by rw [gEm_f]; exact f, rf.em, k5.bd b3, p1⟩ (by omega) hD hw (by omega) (by omega) ⟨kr.1, by omega, ⟨by rw [p2]; exact gxWf_app hwf, hr⟩, ⟨p4.2.1, p4.2.2.1 (by decide)⟩⟩ rfl (by rw [hl]; omega) ⟨?_, ?_, ?_⟩ (hR.step ot2 b3 (Nat.le_refl _))
      · rw [show d + 1 + n + 8 = d + n + 8 + 1 by omega, show ((x3 - 1 : Nat) : Int) = (x3 : Int) + (-1) by omega] at this
        exact this
      · exact gxCo_rd ot2 hwf (by omega) (by omega) co
      · rw [← hc]
        exact gxCo_rd em p4.2.1 (Nat.le_refl _) (Nat.le_refl _) co2
      · rw [← hc]
        exact gEm_at
end gdK
