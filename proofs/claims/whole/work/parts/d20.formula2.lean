/-! The class's Reader: a formula, read from INPUT. -/
def gFoR (c id cs rf bs : Nat) : Nat → Nat → Prop := fun x j => gRdR c id cs rf bs 0 x j ∨ gTkF c x j ∨ ((x = c + 3 ∨ x = c + 4 ∨ x = c + 6) ∧ j = id)
/-- the tables of content id, sort s, with codes from cs to cz, refs from R0 to rz, bytes to bz -/
def gCnT (M : gM) (c id : Nat) (s : Int) (cs cz R0 rz bz : Nat) : Prop := M (c + 2) 11 = (id : Int) ∧ M (c + 3) id = s ∧ M (c + 4) id = (cs : Int) ∧ M (c + 6) id = (R0 : Int) ∧ M (c + 2) 12 = (cz : Int) ∧ M (c + 2) 13 = (rz : Int) ∧ M (c + 2) 14 = (bz : Int)
section gdU
variable {l : Launch} {G : gG} {d : Nat} {X : gX} {M : gM} {c : Nat} {Q : gQ} {S : List Int} {id R0 cs bs : Nat}
theorem c_Rd_readFormula {k : gM → Prop} (hX : glX X c) (hO : gOld G Q) (hI : gInp M c S) (hl : 1 ≤ S.length) (hid : M (c + 2) 11 = (id : Int)) (hid2 : id < 513) (hcs : M (c + 2) 12 = (cs : Int)) (hrf : M (c + 2) 13 = (R0 : Int)) (hbs : M (c + 2) 14 = (bs : Int)) (hcap : cs ≤ 10240 ∧ R0 ≤ 10240 ∧ bs ≤ 10240)
    (h1 : ∀ e rs, gForm S = some (e, rs) → ∀ M2 bs', gOff (gFoR c id cs R0 bs) M M2 → gCnT M2 c id 3 cs (cs + (gxLn e).1) R0 (R0 + rs.length) bs' → bs ≤ bs' ∧ bs' + 1 ≤ bs + S.length → gRfM M2 c id R0 rs → (gxCo M2 c S bs' e).1 cs → k M2)
    (h0 : gForm S = none → ∀ M2 bs', gOff (gFoR c id cs R0 bs) M M2 → gCnT M2 c id 3 cs (cs + 1) R0 R0 bs' → bs ≤ bs' ∧ bs' + 1 ≤ bs + S.length → M2 (c + 8) id = 0 → gAt2 M2 c cs 3 1 → k M2) : cV l G y_Rd_readFormula (gRm (d + 312)) true [gR G (c + 14), gI (S.length : Int)] X M k := by
  have hl2 := hI.2.1
  have gl : g32 (S.length : Int) := ⟨by omega, by omega⟩
  -- the syntax error
  have syn : gForm S = none → ∀ (M2 : gM) (bs' : Nat), gOff (gFoR c id cs R0 bs) M M2 → M2 (c + 2) 11 = (id : Int) → M2 (c + 3) id = 3 → M2 (c + 4) id = (cs : Int) → M2 (c + 6) id = (R0 : Int) → M2 (c + 2) 14 = (bs' : Int) → bs ≤ bs' ∧ bs' + 1 ≤ bs + S.length → cV l G y_Cn_becomeSyntaxError (gRm (d + 311)) true [gR G (c + 2)] X M2 (fun M7 => k M7) := by
    intro hn M2 bs' o q1 q2 q3 q4 q5 q6
    refine c_Cn_syntax (d := d + 310) hX q1 hid2 q3 (by omega) q4 (h0 hn _ bs' ?_ ?_ q6 ?_ gEm_at)
    · refine (((o.up ?_).up ?_).up ?_).tr (gEm_off.mono (fun x j q => Or.inl q))
      · exact Or.inl (by unfold gRdR; omega)
      · exact Or.inl (by unfold gRdR; omega)
      · exact Or.inl (by unfold gRdR; omega)
    · unfold gSe gEm gCnT
      simp (disch := omega) only [gUp_eq, gUp_a, gUp_k]
      exact ⟨q1, q2, q3, q4, trivial, trivial, q5⟩
    · unfold gSe gEm
      simp (disch := omega) only [gUp_eq, gUp_a, gUp_k]
  refine e_Rd_readFormula (w_Rd_readFormula_0 (d := d + 311) hX gl (c_Cn_begin hX (g32_c rfl) hid hid2 hcs hrf ?_))
  have oB : gOff (gFoR c id cs R0 bs) M (gUp (gBg M c id 3 cs R0) (c + 14) 4 0) := by
    unfold gBg
    refine (((((gOff.rf _ M).up ?_).up ?_).up ?_).up ?_).up ?_
    · exact Or.inr (Or.inr ⟨by omega, rfl⟩)
    · exact Or.inr (Or.inr ⟨by omega, rfl⟩)
    · exact Or.inr (Or.inr ⟨by omega, rfl⟩)
    · exact Or.inl (by unfold gRdR; omega)
    · exact Or.inl (by unfold gRdR; omega)
  have fB : gUp (gBg M c id 3 cs R0) (c + 14) 4 0 (c + 2) 11 = (id : Int) ∧ gUp (gBg M c id 3 cs R0) (c + 14) 4 0 (c + 3) id = 3 ∧ gUp (gBg M c id 3 cs R0) (c + 14) 4 0 (c + 4) id = (cs : Int) ∧ gUp (gBg M c id 3 cs R0) (c + 14) 4 0 (c + 6) id = (R0 : Int) ∧ gUp (gBg M c id 3 cs R0) (c + 14) 4 0 (c + 2) 12 = (cs : Int) ∧ gUp (gBg M c id 3 cs R0) (c + 14) 4 0 (c + 2) 13 = (R0 : Int) ∧ gUp (gBg M c id 3 cs R0) (c + 14) 4 0 (c + 2) 14 = (bs : Int) ∧ gUp (gBg M c id 3 cs R0) (c + 14) 4 0 (c + 8) id = 0 ∧ gUp (gBg M c id 3 cs R0) (c + 14) 4 0 (c + 14) 4 = 0 := by
    unfold gBg
    simp (disch := omega) only [gUp_eq, gUp_a, gUp_k]
    exact ⟨hid, trivial, trivial, trivial, hcs, hrf, hbs, trivial, trivial⟩
  have iB : gInp (gUp (gBg M c id 3 cs R0) (c + 14) 4 0) c S := hI.kp (fun j => by unfold gBg; simp (disch := omega) only [gUp_a])
  generalize gUp (gBg M c id 3 cs R0) (c + 14) 4 0 = M1 at oB fB iB ⊢
  obtain ⟨f1, f2, f3, f4, f5, f6, f7, f8, f9⟩ := fB
  refine c_Tk_cut (d := d + 303) hX hO iB hl (fun hn M2 o => ?_) (fun ts ht M2 o tr => ?_)
  · have nf : gForm S = none := by unfold gForm; rw [hn]
    rw [gUp_eq M2 (c + 14) 5 1]
    have o2 := (oB.tr (o.mono (fun x j q => Or.inr (Or.inl q)))).up (a := c + 14) (k := 5) (x := 1) (Or.inl (by unfold gRdR; omega))
    have kk : ∀ x j, x ≠ c + 14 → ¬ gTkF c x j → gUp M2 (c + 14) 5 1 x j = M1 x j := fun x j hx hn => by rw [gUp_a hx, o x j hn]
    refine ⟨fun y => absurd rfl y, fun _ _ => ⟨fun _ _ => ⟨fun y => absurd y (by decide), fun _ => syn nf _ bs o2 ?_ ?_ ?_ ?_ ?_ ⟨Nat.le_refl _, by omega⟩⟩, fun y => absurd y (by decide)⟩⟩
    · rw [kk _ _ (by omega) (by unfold gTkF; omega)]; exact f1
    · rw [kk _ _ (by omega) (by unfold gTkF; omega)]; exact f2
    · rw [kk _ _ (by omega) (by unfold gTkF; omega)]; exact f3
    · rw [kk _ _ (by omega) (by unfold gTkF; omega)]; exact f4
    · rw [kk _ _ (by omega) (by unfold gTkF; omega)]; exact f7
  · have ok := gLexs_ok ht
    have tot := gLexs_tot ht hl
    have hln : ∀ x, gTln ts x ≤ 240 := fun x => by have := gTln_tot ts x; omega
    have o2 : gOff (gFoR c id cs R0 bs) M (gUp M2 (c + 14) 5 0) := (oB.tr (o.mono (fun x j q => Or.inr (Or.inl q)))).up (Or.inl (by unfold gRdR; omega))
    have kk : ∀ x j, x ≠ c + 14 → ¬ gTkF c x j → gUp M2 (c + 14) 5 0 x j = M1 x j := fun x j hx hn => by rw [gUp_a hx, o x j hn]
    have m4 : gUp M2 (c + 14) 5 0 (c + 14) 4 = 0 := by rw [gUp_k (by decide), o _ _ (by unfold gTkF; omega)]; exact f9
    have kp2 : gRkp M2 c S ts id R0 := ⟨o.inp iB (fun _ => gTkF_1), tr, (o _ _ (by unfold gTkF; omega)).trans f1, (o _ _ (by unfold gTkF; omega)).trans f4⟩
    have oM : gOff (gRdR c id cs R0 bs 0) M2 (gUp M2 (c + 14) 5 0) := (gOff.rf _ _).up (by unfold gRdR; omega)
    rw [gUp_eq]
    refine ⟨fun _ _ => ⟨fun y => absurd rfl y, fun _ => ?_⟩, fun y => absurd y (by decide)⟩
    have hp : gRpre (gUp M2 (c + 14) 5 0) c S ts id R0 0 cs bs [] := by
      refine ⟨kp2.kp oM, ⟨m4, ?_, ?_, ?_⟩, gUp_eq _ _ _ _, ⟨fun i hi => absurd hi (Nat.not_lt_zero _), ?_⟩, ⟨?_, ?_, ?_⟩, Nat.zero_le _⟩
      · rw [kk _ _ (by omega) (by unfold gTkF; omega)]; exact f5
      · rw [kk _ _ (by omega) (by unfold gTkF; omega)]; exact f6
      · rw [kk _ _ (by omega) (by unfold gTkF; omega)]; exact f7
      · rw [kk _ _ (by omega) (by unfold gTkF; omega)]; exact f8
      · omega
      · show R0 + 0 ≤ 10240 + 0; omega
      · show bs ≤ 10240 + 0; omega
    have g3 : gUp M2 (c + 14) 5 0 (c + 3) id = 3 := by rw [kk _ _ (by omega) (by unfold gTkF; omega)]; exact f2
    have g4 : gUp M2 (c + 14) 5 0 (c + 4) id = (cs : Int) := by rw [kk _ _ (by omega) (by unfold gTkF; omega)]; exact f3
    generalize gUp M2 (c + 14) 5 0 = M3 at o2 hp g3 g4 ⊢
    have wide : ∀ (M9 : gM), gOff (gRdR c id cs (R0 + ([] : List gRf).length) bs ((0 + 1) * 4)) M3 M9 → gOff (gFoR c id cs R0 bs) M M9 ∧ M9 (c + 2) 11 = (id : Int) ∧ M9 (c + 3) id = 3 ∧ M9 (c + 4) id = (cs : Int) ∧ M9 (c + 6) id = (R0 : Int) := by
      intro M9 o9
      refine ⟨o2.tr (o9.mono (fun x j q => Or.inl (gRdR_le ⟨Nat.le_refl _, Nat.le_refl _, Nat.le_refl _, Nat.zero_le _⟩ x j q))), ?_, ?_, ?_, ?_⟩
      · rw [o9 _ _ (by unfold gRdR; omega)]; exact hp.1.2.2.1
      · rw [o9 _ _ (by unfold gRdR; omega)]; exact g3
      · rw [o9 _ _ (by unfold gRdR; omega)]; exact g4
      · rw [o9 _ _ (by unfold gRdR; omega)]; exact hp.1.2.2.2
    have bsb : ∀ (a' cs' rf' bs' : Nat), gRbd ts 0 cs (R0 + ([] : List gRf).length) bs a' cs' rf' bs' → bs ≤ bs' ∧ bs' + 1 ≤ bs + S.length := by
      intro a' cs' rf' bs' b
      unfold gRbd at b
      have := gTln_tot ts a'
      have e0 : gTln ts 0 = 0 := rfl
      omega
    refine (gC_all (l := l) (R0 := R0) hX hO ok.1 ok.2 hln hid2 303).2.2.2.1 d M3 _ 1 0 0 cs bs [] hp (by omega) (by omega) ⟨by decide, by decide⟩ ⟨fun e => ?_, fun e a rs e1 => ?_⟩
    · have nf : gForm S = none := by unfold gForm; rw [ht]; show (match gPs S ts 303 3 1 0 (.num 0) 0 [] with | none => none | some (e, a, rs) => if gTK ts a = 23 then some (e, rs) else none) = none; rw [e]
      refine gRpF.ex hX (g32_c rfl) (k := fun M10 => _) ?_
      intro M9 a' cs' rf' bs' o9 f s b l'
      obtain ⟨w1, w2, w3, w4, w5⟩ := wide M9 o9
      rw [f]
      exact fun _ => ⟨fun y => absurd y (by decide), fun _ => syn nf M9 bs' w1 w2 w3 w4 w5 s.2.2.2 (bsb _ _ _ _ b)⟩
    · have ef : gForm S = if gTK ts a = 23 then some (e, rs) else none := by unfold gForm; rw [ht]; show (match gPs S ts 303 3 1 0 (.num 0) 0 [] with | none => none | some (e, a, rs) => if gTK ts a = 23 then some (e, rs) else none) = _; rw [e1]
      obtain ⟨p1, ⟨us, p2, p3⟩, p4⟩ := gPs_ok ok.2 303 3 1 0 _ 0 [] e a rs e1 (Nat.zero_le _) (fun _ => by decide) (fun y => by omega)
      have p4 : 0 < a ∧ (gxWf (gPP rs) (gRR rs) S.length e).1 ∧ _ := p4
      intro M9 bs' o9 f s b rf co
      obtain ⟨w1, w2, w3, w4, w5⟩ := wide M9 o9
      have bb := bsb _ _ _ _ b
      refine c_Rd_expect hX (hp.1.kp o9).2.1 ok.1 (g32_c rfl) s.1 p1 f (fun h23 => ?_) (fun h23 => ?_)
      · rw [if_pos h23] at ef
        rw [gUp_k (by decide), f]
        refine fun _ => ⟨fun _ => h1 e rs ef _ bs' (w1.up (Or.inl (by unfold gRdR; omega))) ?_ bb rf.ad (gxCo_rd (gAd_off (id := id) (cs := cs + (gxLn e).1) (rf := 0) (bs := bs') (mk := 0)) p4.2.1 (Nat.le_refl _) (Nat.le_refl _) co), fun y => absurd rfl y⟩
        unfold gCnT
        rw [gUp_a (by omega), gUp_a (by omega), gUp_a (by omega), gUp_a (by omega), gUp_a (by omega), gUp_a (by omega), gUp_a (by omega)]
        exact ⟨w2, w3, w4, w5, s.2.1, s.2.2.1, s.2.2.2⟩
      · rw [if_neg h23] at ef
        rw [gUp_eq]
        refine fun _ => ⟨fun y => absurd y (by decide), fun _ => syn ef _ bs' (w1.up (Or.inl (by unfold gRdR; omega))) ?_ ?_ ?_ ?_ ?_ bb⟩
        · rw [gUp_a (by omega)]; exact w2
        · rw [gUp_a (by omega)]; exact w3
        · rw [gUp_a (by omega)]; exact w4
        · rw [gUp_a (by omega)]; exact w5
        · rw [gUp_a (by omega)]; exact s.2.2.2
end gdU
