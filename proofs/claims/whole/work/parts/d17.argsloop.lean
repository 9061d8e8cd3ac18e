/-! The class's Reader: the loop over arguments. -/
section gdQ
variable (l : Launch) (G : gG) (X : gX) (c : Nat) (Q : gQ) (S : List Int) (ts : List gTkn) (id R0 : Nat)
def gW163 (d : Nat) (k : gM → Prop) (w : Int) (D b : Nat) (x5 x6 : Int) (M : gM) : Prop := wp l G y_Rd_readCall (gRm d) true (kkV X k) true 163 [.val (gR G (c + 14)), .val (gI w), .val (gI (D : Int)), .val (gI (b : Int)), .val (.ref (Q.2.1 (gTkx w))), .val (gI x5), .val (gI x6), .unset] [] X M 0 0
def gC6 (n : Nat) : Prop := ∀ (d : Nat) (M : gM) (k : gM → Prop) (w : Int) (D b ab cs bs : Nat) (rs : List gRf) (es : List gEx) (x5 : Int), gRkp M c S ts id R0 → gRwh M c (ab + 1) cs (R0 + rs.length) bs → M (c + 14) 5 = 0 → gRfM M c id R0 rs → gRcap ts ab cs (R0 + rs.length) bs → ab + 1 ≤ ts.length → 3 * (ts.length - (ab + 1)) + 5 ≤ n → D ≤ 20 → (w = -1 ∨ 14 ≤ w ∧ w < 52) → es.length ≤ ab → b ≤ 10480 → (∀ e ∈ es, (gxWf (gPP rs) (gRR rs) S.length e).1) → x5 = (if gRq (gLt w) 0 es = true then 1 else 0) → (gRq (gLt w) 0 es = true → es.length ≤ (gLt w).length → gLay M c S bs w (D + 1) b es cs) →
  (gPs S ts n 6 w (D + 1) (.num 0) (ab + 1) rs = none → gRpF M c ts id ((D + 1) * 4) ab cs (R0 + rs.length) bs (fun M2 => ∀ x5 x6 : Int, g32 x5 → g32 x6 → gW163 l G X c Q (d + n + 8) k w D b x5 x6 M2)) →
  (∀ as a' rs', gPs S ts n 6 w (D + 1) (.num 0) (ab + 1) rs = some (as, a', rs') → ∀ M2 y5 cs' bs', gOff (gRdR c id cs (R0 + rs.length) bs ((D + 1) * 4)) M M2 → M2 (c + 14) 5 = 0 → gRwh M2 c a' cs' (R0 + rs'.length) bs' → gRbd ts ab cs (R0 + rs.length) bs a' cs' (R0 + rs'.length) bs' → gRfM M2 c id R0 rs' → (y5 = 0 ∨ y5 = 1) → (gTK ts a' = 14 → y5 = (if gRq (gLt w) 0 (es ++ gxAL as) = true then 1 else 0) ∧ (gRq (gLt w) 0 (es ++ gxAL as) = true → (es ++ gxAL as).length ≤ (gLt w).length → gLay M2 c S bs' w (D + 1) b (es ++ gxAL as) cs')) → gW163 l G X c Q (d + n + 8) k w D b y5 (((es ++ gxAL as).length : Nat) : Int) M2) →
  wp l G y_Rd_readCall (gRm (d + n + 8)) true (kkV X k) true 70 [.val (gR G (c + 14)), .val (gI w), .val (gI (D : Int)), .val (gI (b : Int)), .val (.ref (Q.2.1 (gTkx w))), .val (gI x5), .val (gI (es.length : Int)), .val (gI 1)] [] X M 0 0
end gdQ
section gdR
variable {l : Launch} {G : gG} {X : gX} {c : Nat} {Q : gQ} {S : List Int} {ts : List gTkn} {id R0 : Nat}
theorem gC6_step {n : Nat} (hX : glX X c) (hO : gOld G Q) (hts : ts.length ≤ 100) (hto : ∀ t ∈ ts, gTkO S t ∧ 1 ≤ t.2.1) (ih6 : gC6 l G X c Q S ts id R0 n) (ih7 : gC7 l G X c S ts id R0 n) : gC6 l G X c Q S ts id R0 (n + 1) := by
  intro d M k w D b ab cs bs rs es x5 k1 k2 k3 k4 k5 k6 hm hD hw hes hb hwf hx5 hlay hF hS
  have hF : gPas ts (gPs S ts n) w (D + 1) (ab + 1) rs = none → _ := hF
  have hS : ∀ as a' rs', gPas ts (gPs S ts n) w (D + 1) (ab + 1) rs = some (as, a', rs') → _ := hS
  rw [show d + (n + 1) + 8 = d + n + 4 + 5 by omega] at hF hS ⊢
  have tk66 := gTkx_ok hw
  have L4 := gLt_4 hw
  have gw : g32 w := ⟨by omega, by omega⟩
  have gD : g32 (D : Int) := ⟨by omega, by omega⟩
  have gb : g32 (b : Int) := ⟨by omega, by omega⟩
  have g5 : g32 x5 := by rw [hx5]; split <;> exact g32_c rfl
  have x01 : x5 = 0 ∨ x5 = 1 := by rw [hx5]; split <;> decide
  have ge : g32 (es.length : Int) := ⟨by omega, by omega⟩
  have ge1 : g32 ((es.length : Int) + 1) := ⟨by omega, by omega⟩
  -- no more arguments
  have stop : ∀ (M2 : gM) (y5 : Int), g32 y5 → gW163 l G X c Q (d + n + 4 + 5) k w D b y5 ((es.length : Int) + 1) M2 → wp l G y_Rd_readCall (gRm (d + n + 4 + 5)) true (kkV X k) true 70 [.val (gR G (c + 14)), .val (gI w), .val (gI (D : Int)), .val (gI (b : Int)), .val (.ref (Q.2.1 (gTkx w))), .val (gI y5), .val (gI ((es.length : Int) + 1)), .val (gI 0)] [] X M2 0 0 := fun M2 y5 gy hk => w_Rd_readCall_70 (Q := Q) (d := d + n + 4) hX hO gw gD gb tk66 gy ge1 (g32_c rfl) ⟨fun _ => hk, fun y => absurd rfl y⟩
  have nF : ∀ (M16 : gM) (y5 : Int), g32 y5 → M16 (c + 14) 5 = 1 → (∃ a' cs' rf' bs', gRwh M16 c a' cs' rf' bs' ∧ a' ≤ 1000) → gW163 l G X c Q (d + n + 4 + 5) k w D b y5 ((es.length : Int) + 1) M16 → ((0 ≤ M16 (c + 14) 5 ∧ M16 (c + 14) 5 ≤ 1) → ((¬ M16 (c + 14) 5 = 0 → (g32 (M16 (c + 14) 4) → (((0 : Int) = 0 → (wp l G y_Rd_readCall (gRm (d + n + 4 + 5)) true (kkV X k) true 70 [.val (gR G (c + 14)), .val (gI w), .val (gI (D : Int)), .val (gI (b : Int)), .val (.ref (Q.2.1 (gTkx w))), .val (gI y5), .val (gI (w32 ((es.length : Int) + 1))), .val (gI 0)] [] X (gUp M16 (c + 14) 4 (w32 ((M16 (c + 14) 4) + 0))) 0 0)) ∧ (¬ (0 : Int) = 0 → (wp l G y_Rd_readCall (gRm (d + n + 4 + 5)) true (kkV X k) true 70 [.val (gR G (c + 14)), .val (gI w), .val (gI (D : Int)), .val (gI (b : Int)), .val (.ref (Q.2.1 (gTkx w))), .val (gI y5), .val (gI (w32 ((es.length : Int) + 1))), .val (gI 0)] [] X (gUp M16 (c + 14) 4 (w32 ((M16 (c + 14) 4) + 1))) 0 0))))) ∧ (M16 (c + 14) 5 = 0 → (g32 (M16 (c + 14) 4) → (((0 : Int) ≤ M16 (c + 14) 4 ∧ M16 (c + 14) 4 < 104) ∧ (g32 (M16 (c + 17) (Int.toNat (M16 (c + 14) 4))) → ((¬ M16 (c + 17) (Int.toNat (M16 (c + 14) 4)) = 15 → (g32 (M16 (c + 14) 4) → (((0 : Int) = 0 → (wp l G y_Rd_readCall (gRm (d + n + 4 + 5)) true (kkV X k) true 70 [.val (gR G (c + 14)), .val (gI w), .val (gI (D : Int)), .val (gI (b : Int)), .val (.ref (Q.2.1 (gTkx w))), .val (gI y5), .val (gI (w32 ((es.length : Int) + 1))), .val (gI 0)] [] X (gUp M16 (c + 14) 4 (w32 ((M16 (c + 14) 4) + 0))) 0 0)) ∧ (¬ (0 : Int) = 0 → (wp l G y_Rd_readCall (gRm (d + n + 4 + 5)) true (kkV X k) true 70 [.val (gR G (c + 14)), .val (gI w), .val (gI (D : Int)), .val (gI (b : Int)), .val (.ref (Q.2.1 (gTkx w))), .val (gI y5), .val (gI (w32 ((es.length : Int) + 1))), .val (gI 0)] [] X (gUp M16 (c + 14) 4 (w32 ((M16 (c + 14) 4) + 1))) 0 0))))) ∧ (M16 (c + 17) (Int.toNat (M16 (c + 14) 4)) = 15 → (g32 (M16 (c + 14) 4) → (((1 : Int) = 0 → (wp l G y_Rd_readCall (gRm (d + n + 4 + 5)) true (kkV X k) true 70 [.val (gR G (c + 14)), .val (gI w), .val (gI (D : Int)), .val (gI (b : Int)), .val (.ref (Q.2.1 (gTkx w))), .val (gI y5), .val (gI (w32 ((es.length : Int) + 1))), .val (gI 1)] [] X (gUp M16 (c + 14) 4 (w32 ((M16 (c + 14) 4) + 0))) 0 0)) ∧ (¬ (1 : Int) = 0 → (wp l G y_Rd_readCall (gRm (d + n + 4 + 5)) true (kkV X k) true 70 [.val (gR G (c + 14)), .val (gI w), .val (gI (D : Int)), .val (gI (b : Int)), .val (.ref (Q.2.1 (gTkx w))), .val (gI y5), .val (gI (w32 ((es.length : Int) + 1))), .val (gI 1)] [] X (gUp M16 (c + 14) 4 (w32 ((M16 (c + 14) 4) + 1))) 0 0)))))))))))) := by
    intro M16 y5 gy f ⟨a', cs', rf', bs', s, l'⟩ hk
    rw [f, s.1, Int.add_zero, w32_id (x := (a' : Int)) ⟨by omega, by omega⟩, w32_id ge1, gUp_id s.1]
    exact fun _ => ⟨fun _ _ => ⟨fun _ => stop M16 y5 gy hk, fun y => absurd rfl y⟩, fun y => absurd y (by decide)⟩
  have nS : ∀ (M16 : gM) (x : gEx) (a' : Nat) (rs' : List gRf) (v y5 : Int) (cs' bs' : Nat), gPs S ts n 7 w (D + 1) (.num 0) (ab + 1) rs = some (x, a', rs') → (v = 0 ∨ v = 1) → (y5 = if v = 0 then 0 else x5) → gOff (gRdR c id cs (R0 + rs.length) bs ((D + 1) * 4 + min es.length 4)) M M16 → M16 (c + 14) 5 = 0 → gRwh M16 c a' cs' (R0 + rs'.length) bs' → gRbd ts ab cs (R0 + rs.length) bs a' cs' (R0 + rs'.length) bs' → gRfM M16 c id R0 rs' → (gTK ts a' = 15 ∨ gTK ts a' = 14 → v = (if gFts (gLt w) es.length x = true then 1 else 0) ∧ (gFts (gLt w) es.length x = true → gArE M16 c S w (D + 1) es.length cs x cs' bs')) → ((0 ≤ M16 (c + 14) 5 ∧ M16 (c + 14) 5 ≤ 1) → ((¬ M16 (c + 14) 5 = 0 → (g32 (M16 (c + 14) 4) → (((0 : Int) = 0 → (wp l G y_Rd_readCall (gRm (d + n + 4 + 5)) true (kkV X k) true 70 [.val (gR G (c + 14)), .val (gI w), .val (gI (D : Int)), .val (gI (b : Int)), .val (.ref (Q.2.1 (gTkx w))), .val (gI y5), .val (gI (w32 ((es.length : Int) + 1))), .val (gI 0)] [] X (gUp M16 (c + 14) 4 (w32 ((M16 (c + 14) 4) + 0))) 0 0)) ∧ (¬ (0 : Int) = 0 → (wp l G y_Rd_readCall (gRm (d + n + 4 + 5)) true (kkV X k) true 70 [.val (gR G (c + 14)), .val (gI w), .val (gI (D : Int)), .val (gI (b : Int)), .val (.ref (Q.2.1 (gTkx w))), .val (gI y5), .val (gI (w32 ((es.length : Int) + 1))), .val (gI 0)] [] X (gUp M16 (c + 14) 4 (w32 ((M16 (c + 14) 4) + 1))) 0 0))))) ∧ (M16 (c + 14) 5 = 0 → (g32 (M16 (c + 14) 4) → (((0 : Int) ≤ M16 (c + 14) 4 ∧ M16 (c + 14) 4 < 104) ∧ (g32 (M16 (c + 17) (Int.toNat (M16 (c + 14) 4))) → ((¬ M16 (c + 17) (Int.toNat (M16 (c + 14) 4)) = 15 → (g32 (M16 (c + 14) 4) → (((0 : Int) = 0 → (wp l G y_Rd_readCall (gRm (d + n + 4 + 5)) true (kkV X k) true 70 [.val (gR G (c + 14)), .val (gI w), .val (gI (D : Int)), .val (gI (b : Int)), .val (.ref (Q.2.1 (gTkx w))), .val (gI y5), .val (gI (w32 ((es.length : Int) + 1))), .val (gI 0)] [] X (gUp M16 (c + 14) 4 (w32 ((M16 (c + 14) 4) + 0))) 0 0)) ∧ (¬ (0 : Int) = 0 → (wp l G y_Rd_readCall (gRm (d + n + 4 + 5)) true (kkV X k) true 70 [.val (gR G (c + 14)), .val (gI w), .val (gI (D : Int)), .val (gI (b : Int)), .val (.ref (Q.2.1 (gTkx w))), .val (gI y5), .val (gI (w32 ((es.length : Int) + 1))), .val (gI 0)] [] X (gUp M16 (c + 14) 4 (w32 ((M16 (c + 14) 4) + 1))) 0 0))))) ∧ (M16 (c + 17) (Int.toNat (M16 (c + 14) 4)) = 15 → (g32 (M16 (c + 14) 4) → (((1 : Int) = 0 → (wp l G y_Rd_readCall (gRm (d + n + 4 + 5)) true (kkV X k) true 70 [.val (gR G (c + 14)), .val (gI w), .val (gI (D : Int)), .val (gI (b : Int)), .val (.ref (Q.2.1 (gTkx w))), .val (gI y5), .val (gI (w32 ((es.length : Int) + 1))), .val (gI 1)] [] X (gUp M16 (c + 14) 4 (w32 ((M16 (c + 14) 4) + 0))) 0 0)) ∧ (¬ (1 : Int) = 0 → (wp l G y_Rd_readCall (gRm (d + n + 4 + 5)) true (kkV X k) true 70 [.val (gR G (c + 14)), .val (gI w), .val (gI (D : Int)), .val (gI (b : Int)), .val (.ref (Q.2.1 (gTkx w))), .val (gI y5), .val (gI (w32 ((es.length : Int) + 1))), .val (gI 1)] [] X (gUp M16 (c + 14) 4 (w32 ((M16 (c + 14) 4) + 1))) 0 0)))))))))))) := by
    intro M16 x a' rs' v y5 cs' bs' e7 hv hy5 o f s bd rf hfl
    obtain ⟨p1, ⟨us, p2, p3⟩, p4⟩ := gPs_ok hto n 7 w (D + 1) _ (ab + 1) rs x a' rs' e7 k6 (fun y => by omega) (fun y => by omega)
    have p4 : ab + 1 < a' ∧ (gxWf (gPP rs') (gRR rs') S.length x).1 ∧ _ := p4
    have oT := o.mono (gRdR_le (cs := cs) (rf := R0 + rs.length) (bs := bs) (mk := (D + 1) * 4) ⟨Nat.le_refl _, Nat.le_refl _, Nat.le_refl _, by omega⟩)
    have y01 : y5 = 0 ∨ y5 = 1 := by rw [hy5]; split <;> omega
    have gy : g32 y5 := by rcases y01 with q | q <;> rw [q] <;> exact g32_c rfl
    have ek : M16 (c + 17) a' = gTK ts a' := (k1.kp o).2.1.kd (by omega)
    have b2 := bd
    unfold gRbd at b2
    -- flag and code of one argument more
    have fl : gTK ts a' = 15 ∨ gTK ts a' = 14 → y5 = (if gRq (gLt w) 0 (es ++ [x]) = true then 1 else 0) ∧ (gRq (gLt w) 0 (es ++ [x]) = true → (es ++ [x]).length ≤ (gLt w).length → gLay M16 c S bs' w (D + 1) b (es ++ [x]) cs') := by
      intro he
      obtain ⟨f1, f2⟩ := hfl he
      rw [gRq_app, Nat.zero_add]
      refine ⟨?_, fun q1 q2 => ?_⟩
      · rw [hy5, f1, hx5]
        cases gRq (gLt w) 0 es <;> cases gFts (gLt w) es.length x <;> decide
      · rw [Bool.and_eq_true] at q1
        rw [List.length_append] at q2
        have q2 : es.length + 1 ≤ (gLt w).length := q2
        exact gLay_snoc hw (hlay q1.1 (by omega)) hwf (by omega) (by omega) b2.2.2.2.1 o (f2 q1.2)
    have wf2 : ∀ e ∈ es ++ [x], (gxWf (gPP rs') (gRR rs') S.length e).1 := by
      intro e he
      rcases List.mem_append.1 he with q | q
      · rw [p2]; exact gxWf_app (hwf e q)
      · rw [List.mem_singleton.1 q]; exact p4.2.1
    have el : (es ++ [x]).length = es.length + 1 := List.length_append
    rw [f, s.1, Int.toNat_natCast, ek, Int.add_zero, w32_id (x := (a' : Int)) ⟨by omega, by omega⟩, w32_id ge1, gUp_id s.1, w32_id (x := (a' : Int) + 1) ⟨by omega, by omega⟩]
    refine fun _ => ⟨fun y => absurd rfl y, fun _ _ => ⟨⟨by omega, by omega⟩, fun _ => ⟨fun h15 _ => ⟨fun _ => stop M16 y5 gy ?_, fun y => absurd rfl y⟩, fun h15 _ => ⟨fun y => absurd y (by decide), fun _ => ?_⟩⟩⟩⟩
    · have hq : gPas ts (gPs S ts n) w (D + 1) (ab + 1) rs = some (.add x (.num 0), a', rs') := by
        unfold gPas
        rw [e7]
        show (if gTK ts a' = 15 then _ else _) = _
        rw [if_neg h15]
      have := hS _ _ _ hq M16 y5 cs' bs' oT f s bd rf y01 (fun h14 => fl (Or.inr h14))
      have e2 : (((es ++ gxAL (.add x (.num 0))).length : Nat) : Int) = (es.length : Int) + 1 := by
        show (((es ++ [x]).length : Nat) : Int) = _
        rw [el]
        omega
      rw [e2] at this
      exact this
    · have l15 := gTK_lt (ts := ts) (a := a') (by rw [h15]; decide)
      have hq : gPas ts (gPs S ts n) w (D + 1) (ab + 1) rs = gBd (gPs S ts n 6 w (D + 1) (.num 0) (a' + 1) rs') (fun y b2 r2 => some (.add x y, b2, r2)) := by
        unfold gPas
        rw [e7]
        show (if gTK ts a' = 15 then _ else _) = _
        rw [if_pos h15]
      rw [show (a' : Int) + 1 = ((a' + 1 : Nat) : Int) by omega]
      have adv : gOff (gRdR c id cs' (R0 + rs'.length) bs' ((D + 1) * 4)) M16 (gUp M16 (c + 14) 4 ((a' + 1 : Nat) : Int)) := gAd_off
      have oA := oT.tr (adv.mono (gRdR_le ⟨b2.2.1, b2.2.2.1, b2.2.2.2.1, Nat.le_refl _⟩))
      have fl15 := fl (Or.inl h15)
      have := ih6 (d + 1) (gUp M16 (c + 14) 4 ((a' + 1 : Nat) : Int)) k w D b a' cs' bs' rs' (es ++ [x]) y5 ((k1.kp o).kp adv) (gAd_st s) (by rw [gUp_k (by decide)]; exact f) rf.ad (k5.bd bd) l15 (by omega) hD hw (by rw [el]; omega) hb wf2 fl15.1 (fun q1 q2 => ?_) (fun e => ?_) (fun as a2 r2 e M2 z5 cs2 bs2 o2 f2 s2 bd2 rf2 z01 h14 => ?_)
      · rw [show d + 1 + n + 8 = d + n + 4 + 5 by omega, el, show ((es.length + 1 : Nat) : Int) = (es.length : Int) + 1 by omega] at this
        exact this
      · have L0 := fl15.2 q1 q2
        unfold gLay at L0 ⊢
        have hk : ∀ e ∈ es ++ [x], gxK M16 (gUp M16 (c + 14) 4 ((a' + 1 : Nat) : Int)) c S bs' bs' e := fun e he => (gxCo_keep (Nat.le_refl _) (fun j _ => gUp_a (by omega)) e).1 (wf2 e he)
        have h9 : ∀ p q, gEq2 M16 (gUp M16 (c + 14) 4 ((a' + 1 : Nat) : Int)) c p q := fun p q j _ _ => ⟨gUp_a (by omega), gUp_a (by omega)⟩
        by_cases hp : 0 ≤ w ∧ gWgr w.toNat = 5
        · rw [if_pos hp] at L0 ⊢
          generalize es ++ [x] = fs at L0 hk wf2
          cases fs with
          | nil => exact L0
          | cons f0 fr => exact ⟨hk f0 List.mem_cons_self _ (h9 _ _) L0.1, gPk0_rd (Nat.le_refl _) (fun j _ => gUp_a (by omega)) fr _ _ (fun e he => wf2 e (List.mem_cons_of_mem _ he)) (fun p _ _ => ⟨gUp_a (by omega), gUp_a (by omega)⟩) (fun i _ _ => gUp_a (by omega)) L0.2.1, L0.2.2⟩
        · rw [if_neg hp] at L0 ⊢
          exact ⟨gxSq_keep _ _ _ (fun e he => ⟨gxLn_pos e (wf2 e he), hk e he⟩) (h9 _ _) L0.1, L0.2⟩
      · rw [e] at hq
        rw [show d + 1 + n + 8 = d + n + 4 + 5 by omega]
        exact (hF hq).step oA bd (Nat.le_refl _)
      · rw [e] at hq
        have hq : gPas ts (gPs S ts n) w (D + 1) (ab + 1) rs = some (.add x as, a2, r2) := hq
        have e3 : es ++ [x] ++ gxAL as = es ++ gxAL (.add x as) := by
          rw [List.append_assoc]
          rfl
        rw [e3] at h14 ⊢
        rw [show d + 1 + n + 8 = d + n + 4 + 5 by omega]
        exact hS _ _ _ hq M2 z5 cs2 bs2 (oA.tr (o2.mono (gRdR_le ⟨b2.2.1, b2.2.2.1, b2.2.2.2.1, Nat.le_refl _⟩))) f2 s2 (bd.tr bd2) rf2 z01 h14
  refine w_Rd_readCall_70 (Q := Q) (d := d + n + 4) hX hO gw gD gb tk66 g5 ge (g32_c rfl) ⟨fun y => absurd y (by decide), fun _ => ⟨fun y => absurd y (by omega), fun _ => ?_⟩⟩
  rw [show (D : Int) + 1 = ((D + 1 : Nat) : Int) by omega]
  refine ih7 d M _ w es.length (D + 1) ab cs bs rs k1 k2 k3 k4 k5 k6 (by omega) (by omega) (by omega) hw (fun e => ?_) (fun x a' rs' e M2 v cs' bs' o f s bd rf v01 hfl => ?_)
  · have hq : gPas ts (gPs S ts n) w (D + 1) (ab + 1) rs = none := by
      unfold gPas
      rw [e]
      rfl
    intro M2 a' cs' rf' bs' o f s bd l' v v01
    have hk := hF hq M2 a' cs' rf' bs' (o.mono (gRdR_le ⟨Nat.le_refl _, Nat.le_refl _, Nat.le_refl _, by omega⟩)) f s bd l'
    refine ⟨fun _ => w_Rd_readCall_104 (Q := Q) (d := d + n + 4) hX hO gw gD gb tk66 ge (nF M2 0 (g32_c rfl) f ⟨a', cs', rf', bs', s, by omega⟩ (hk 0 _ (g32_c rfl) ge1)), fun _ => ⟨fun _ => w_Rd_readCall_104 (Q := Q) (d := d + n + 4) hX hO gw gD gb tk66 ge (nF M2 0 (g32_c rfl) f ⟨a', cs', rf', bs', s, by omega⟩ (hk 0 _ (g32_c rfl) ge1)), fun _ => nF M2 1 (g32_c rfl) f ⟨a', cs', rf', bs', s, by omega⟩ (hk 1 _ (g32_c rfl) ge1)⟩⟩
  · have hv : v = 0 ∨ v = 1 := by omega
    refine ⟨fun z => w_Rd_readCall_104 (Q := Q) (d := d + n + 4) hX hO gw gD gb tk66 ge (nS M2 x a' rs' v 0 cs' bs' e hv (by rw [if_pos z]) o f s bd rf hfl), fun z => ⟨fun z2 => w_Rd_readCall_104 (Q := Q) (d := d + n + 4) hX hO gw gD gb tk66 ge (nS M2 x a' rs' v 0 cs' bs' e hv (by rw [if_neg z, z2]) o f s bd rf hfl), fun z2 => nS M2 x a' rs' v 1 cs' bs' e hv (by rw [if_neg z]; omega) o f s bd rf hfl⟩⟩
end gdR
