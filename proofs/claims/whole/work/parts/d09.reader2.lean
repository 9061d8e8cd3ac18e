/-! The class's Reader: primaries, operands, expressions. -/
section gdH
variable (l : Launch) (G : gG) (X : gX) (c : Nat) (S : List Int) (ts : List gTkn) (id R0 : Nat)
def gC0 (n : Nat) : Prop := ∀ (d : Nat) (M : gM) (k : gM → Prop) (D a cs bs : Nat) (rs : List gRf), gRpre M c S ts id R0 a cs bs rs → 3 * (ts.length - a) + 1 ≤ n → D ≤ 20 → gRpO M c S ts id R0 ((D + 1) * 4) cs a cs bs rs (gPs S ts n 0 0 D (.num 0) a rs) k → cV l G y_Rd_readPrimary (gRm (d + n + 8)) true [gR G (c + 14), gI (D : Int)] X M k
def gC1 (n : Nat) : Prop := ∀ (d : Nat) (M : gM) (k : gM → Prop) (D a cs bs : Nat) (rs : List gRf), gRpre M c S ts id R0 a cs bs rs → 3 * (ts.length - a) + 2 ≤ n → D ≤ 21 → gRpO M c S ts id R0 ((D + 1) * 4) cs a cs bs rs (gPs S ts n 1 0 D (.num 0) a rs) k → cV l G y_Rd_readOperand (gRm (d + n + 8)) true [gR G (c + 14), gI (D : Int)] X M k
def gC2 (n : Nat) : Prop := ∀ (d : Nat) (M : gM) (k : gM → Prop) (D a cs bs cb x2 : Nat) (rs : List gRf) (e : gEx), gRpre M c S ts id R0 a cs bs rs → 3 * (ts.length - a) + 1 ≤ n → ts.length ≤ a + x2 → x2 ≤ 100 → (gxWf (gPP rs) (gRR rs) S.length e).1 → gxR e = false → cs = cb + (gxLn e).1 → (gxCo M c S bs e).1 cb → gRpO M c S ts id R0 ((D + 1) * 4) cb a cs bs rs (gPs S ts n 2 0 D e a rs) k → wp l G y_Rd_readOperand (gRm (d + n + 8)) true (kkV X k) true 67 [.val (gR G (c + 14)), .unset, .val (gI (x2 : Int))] [] X M 0 0
def gC3 (n : Nat) : Prop := ∀ (d : Nat) (M : gM) (k : gM → Prop) (w : Int) (D a cs bs : Nat) (rs : List gRf), gRpre M c S ts id R0 a cs bs rs → 3 * (ts.length - a) + 3 ≤ n → D ≤ 21 → 1 ≤ w ∧ w ≤ 6 → gRpO M c S ts id R0 ((D + 1) * 4) cs a cs bs rs (gPs S ts n 3 w D (.num 0) a rs) k → cV l G y_Rd_readExpression (gRm (d + n + 8)) true [gR G (c + 14), gI w, gI (D : Int)] X M k
def gC4 (n : Nat) : Prop := ∀ (d : Nat) (M : gM) (k : gM → Prop) (w : Int) (D a cs bs cb x3 : Nat) (rs : List gRf) (e : gEx), gRpre M c S ts id R0 a cs bs rs → 3 * (ts.length - a) + 3 ≤ n → D ≤ 21 → 1 ≤ w ∧ w ≤ 6 → ts.length ≤ a + x3 → x3 ≤ 100 → (gxWf (gPP rs) (gRR rs) S.length e).1 → gxR e = false → cs = cb + (gxLn e).1 → (gxCo M c S bs e).1 cb → gRpO M c S ts id R0 ((D + 1) * 4) cb a cs bs rs (gPs S ts n 4 w D e a rs) k → wp l G y_Rd_readExpression (gRm (d + n + 8)) true (kkV X k) true 8 [.val (gR G (c + 14)), .val (gI w), .val (gI (D : Int)), .val (gI (x3 : Int)), .unset] [] X M 0 0
def gC5 (n : Nat) : Prop := ∀ (d : Nat) (M : gM) (k : gM → Prop) (w : Int) (D a cs bs : Nat) (rs : List gRf), gRpre M c S ts id R0 a cs bs rs → 3 * (ts.length - a) + 3 ≤ n → D ≤ 20 → (w = -1 ∨ 14 ≤ w ∧ w < 52) → gRpO M c S ts id R0 ((D + 1) * 4) cs a cs bs rs (gPs S ts n 5 w D (.num 0) a rs) k → cV l G y_Rd_readCall (gRm (d + n + 8)) true [gR G (c + 14), gI w, gI (D : Int)] X M k
end gdH
section gdI
variable {l : Launch} {G : gG} {d : Nat} {X : gX} {M M2 : gM} {c : Nat} {Q : gQ} {S : List Int} {ts : List gTkn} {id R0 a cs bs mk cb rf : Nat} {rs : List gRf} {k : gM → Prop}
theorem gRpO.step {y : gPr} {a1 cs1 bs1 mk1 : Nat} {r : List gRf} (h : gRpO M c S ts id R0 mk cb a cs bs rs y k) (o : gOff (gRdR c id cs (R0 + rs.length) bs mk) M M2) (b : gRbd ts a cs (R0 + rs.length) bs a1 cs1 (R0 + r.length) bs1) (hm : mk ≤ mk1) : gRpO M2 c S ts id R0 mk1 cb a1 cs1 bs1 r y k := by
  refine ⟨fun e => (h.1 e).step o b hm, fun e' a' rs' e M3 bs' o2 f s b2 rf co => h.2 e' a' rs' e M3 bs' (o.tr (o2.mono (gRdR_le ?_))) f s (b.tr b2) rf co⟩
  unfold gRbd at b
  omega
/-- a failure, and an expect behind it -/
theorem gRpF.ex {x : Int} (hX : glX X c) (hx : g32 x) (h : gRpF M c ts id mk a cs rf bs k) : gRpF M c ts id mk a cs rf bs (fun M4 => cV l G y_Rd_expect (gRm d) true [gR G (c + 14), gI x] X M4 (fun M5 => k M5)) := by
  intro M4 a' cs' rf' bs' o f s b l
  exact c_Rd_expectF hX hx f (h _ a' cs' rf' bs' (o.tr gFa_off) (gUp_eq _ _ _ _) (gFa_st s) b l)
/-- a failure, and a step written behind it: for that one token was passed -/
theorem gRpF.em {op x : Int} {mk1 : Nat} (hX : glX X c) (hop : g32 op) (hx : g64 x) (hts : ts.length ≤ 100) (hc : cs ≤ 10240 + 2 * a) (h : gRpF M c ts id mk a cs rf bs k) (o : gOff (gRdR c id cs rf bs mk) M M2) (hm : mk ≤ mk1) : gRpF M2 c ts id mk1 (a + 1) cs rf bs (fun M4 => cV l G y_Cn_emit (gRm d) true [gR G (c + 2), gI op, gL x] X M4 (fun M5 => k M5)) := by
  intro M4 a' cs' rf' bs' o2 f s b l
  have b0 := gRbd.ad ts a 1 cs rf bs
  have b1 : cs ≤ cs' ∧ rf ≤ rf' ∧ bs ≤ bs' ∧ cs' + 2 * (a + 1) ≤ cs + 2 * a' := ⟨b.2.1, b.2.2.1, b.2.2.2.1, b.2.2.2.2.1⟩
  refine c_Cn_emit hX hop hx s.2.1 (by omega) (h _ a' (cs' + 1) rf' bs' ((o.tr (o2.mono (gRdR_le ⟨Nat.le_refl _, Nat.le_refl _, Nat.le_refl _, hm⟩))).tr (gEm_off.mono (gRdR_le (cs2 := cs') (rf2 := rf') (bs2 := bs') (mk2 := mk) ⟨b1.1, b1.2.1, b1.2.2.1, Nat.le_refl _⟩))) (by rw [gEm_f]; exact f) (gEm_st s) ?_ l)
  unfold gRbd at b b0 ⊢
  omega
/-- one step is written for one token -/
theorem gRd_lit {e' : gEx} {op x : Int} (hX : glX X c) (hop : g32 op) (hx : g64 x) (hts : ts.length ≤ 100) (hp : gRpre M c S ts id R0 a cs bs rs) (l1 : a < ts.length) (hO : gRpO M c S ts id R0 mk cs a cs bs rs (some (e', a + 1, rs)) k) (hl : (gxLn e').1 = 1) (hco : ∀ M3, gAt2 M3 c cs op x → (gxCo M3 c S bs e').1 cs) : cV l G y_Cn_emit (gRm d) true [gR G (c + 2), gI op, gL x] X (gUp M (c + 14) 4 ((a + 1 : Nat) : Int)) (fun M9 => k M9) := by
  obtain ⟨k1, k2, k3, k4, k5, k6⟩ := hp.ad l1
  have := k5.1
  refine c_Cn_emit hX hop hx k2.2.1 (by omega) (hO.2 e' (a + 1) rs rfl _ bs (gAd_off.tr gEm_off) (by rw [gEm_f]; exact k3) ?_ ?_ k4.em (hco _ gEm_at))
  · rw [hl]; exact gEm_st k2
  · rw [hl]
    have := gRbd.ad ts a 1 cs (R0 + rs.length) bs
    unfold gRbd at this ⊢
    omega
end gdI
