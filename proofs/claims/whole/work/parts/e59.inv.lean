/-! What holds between the law's calls. -/
def gLy (X : gX) (c o w : Nat) : Prop := (1 ≤ w ∧ w ≤ X.1 ∧ X.2.1 w = (1, 1)) ∧ c + 1167 < o ∧ o + 46 < w
def gInv (X : gX) (M : gM) (c o w n : Nat) : Prop := ∃ (Rg : Nat → Nat) (v b : Nat) (u u1 : Nat → gVl) (T : Nat → gSht) (er nw lt ed : Nat) (S : List Int) (ch : Nat) (cl : Nat → Int), gLC X M c n Rg v b u u1 T er nw lt ed S ch cl ∧ gLM X M o n T er nw lt ed S (gEw (T nw) u) ch cl ∧ gLy X c o w ∧ gFr X M
def gRv (l : Launch) (G : gG) (K : Outcome → gX → gM → Prop) (p c o w cs ss n i : Nat) : Prop := ∀ (X' : gX) (M' : gM), gInv X' M' c o w (n + 1) → wp l G y_Lw_law room_1 true K true 1138 [.val (.ref p), .val (gR G c), .val (gR G o), .val (gR G w), .val (gI (i : Int)), .unset, .unset, .unset] [] X' M' cs ss
def gPv (l : Launch) (G : gG) (Q : gQ) (X : gX) (M : gM) (K : Outcome → gX → gM → Prop) (p Ls : Nat) (xs : Nat → Int) (c o w cs ss n i : Nat) : Prop := gOk l G ∧ gOld G Q ∧ gInv X M c o w n ∧ (∀ U, gSP G U → va_T .int p Ls (fun j => gI (xs j)) (gA G true) U U.heap) ∧ (i + 7 ≤ Ls ∧ Ls ≤ 3584 ∧ n < 512) ∧ (∀ j, g32 (xs j)) ∧ (cs + 1 ≤ room_1.cells ∧ ss + 6 ≤ room_1.slots) ∧ gRv l G K p c o w (cs + 1) (ss + 6) n i ∧ gRv l G K p c o w cs ss n i
section ggW
variable {l : Launch} {G : gG} {X X' X1 : gX} {M M' M1 M2 : gM} {c o w n n2 : Nat} {Rg : Nat → Nat} {v b : Nat} {u u1 : Nat → gVl} {T T0 : Nat → gSht} {er nw lt ed er0 nw0 lt0 ed0 : Nat} {S S0 : List Int} {ch ch0 : Nat} {cl cl0 : Nat → Int} {V : Int → gVl} {K : Outcome → gX → gM → Prop} {p cs ss : Nat}
theorem gLy.lw (hy : gLy X c o w) (hX : glX X c) (hm : gmX X o) : gLw X c o w := ⟨⟨hX.1, gl_2 hX (a := 0) (by decide), gl_s0 hX⟩, hm, hy.1⟩
theorem gLM.kx (h : gLM X M o n T er nw lt ed S V ch cl) (hx : gmX X' o) (k : ∀ a j, o ≤ a → a ≤ o + 46 → M' a j = M a j) : gLM X' M' o n T er nw lt ed S V ch cl := by
  obtain ⟨a1, a2⟩ := h.kp (X' := X) (gGw.rf X 0) k
  exact ⟨hx, a2⟩
theorem gMidT {t : Nat} (hC : gLC X1 M1 c n2 Rg v b u u1 T er nw lt ed S ch cl) (hM : gLM X M o n T0 er0 nw0 lt0 ed0 S0 V ch0 cl0) (hy : gLy X c o w) (hz : gFr X M) (s : gSm c X X1) (oC : gOff (gCR c) M M1) : gLC (gNw X1 (t, 0)) M1 c n2 Rg v b u u1 T er nw lt ed S ch cl ∧ gLM (gNw X1 (t, 0)) M1 o n T0 er0 nw0 lt0 ed0 S0 V ch0 cl0 ∧ gLy (gNw X1 (t, 0)) c o w ∧ gFr (gNw X1 (t, 0)) M1 ∧ gLw (gNw X1 (t, 0)) c o w := by
  have w1 := gGw.nw X1 0 (t, 0)
  have o1 := hM.1.1
  have e1 := s.1
  have m1 : gmX X1 o := hM.1.sm s hy.2.1
  have m2 : gmX (gNw X1 (t, 0)) o := m1.grow w1 (by omega)
  have c2 := hC.kp (M' := M1) w1 (fun _ _ _ _ => rfl)
  have y2 : gLy (gNw X1 (t, 0)) c o w := ⟨⟨hy.1.1, by have := hy.1.2.1; show w ≤ X1.1 + 1; omega, by
    rw [w1.2.1 w (by rw [e1]; exact hy.1.2.1), s.2.1]; exact hy.1.2.2⟩, hy.2⟩
  have hh := hy.1.2.1
  have h2 := hy.2
  refine ⟨c2, hM.kx m2 (fun a j h1 h3 => oC _ _ (by unfold gCR; omega)), y2, fun a j ha => ?_, y2.lw c2.1 m2⟩
  have ha : X1.1 + 1 < a := ha
  rw [oC _ _ (by unfold gCR; omega)]
  exact hz a j (by omega)
theorem gMidR {x : Int} (hC : gLC X1 M1 c n2 Rg v b u u1 T er nw lt ed S ch cl) (hM : gLM X M o n T0 er0 nw0 lt0 ed0 S0 V ch0 cl0) (hy : gLy X c o w) (hz : gFr X M) (s : gSm c X X1) (oC : gOff (gCR c) M M1) : gLC X1 (gUp M1 w 0 x) c n2 Rg v b u u1 T er nw lt ed S ch cl ∧ gLM X1 (gUp M1 w 0 x) o n T0 er0 nw0 lt0 ed0 S0 V ch0 cl0 ∧ gLy X1 c o w ∧ gFr X1 (gUp M1 w 0 x) ∧ gLw X1 c o w := by
  have o1 := hM.1.1
  have e1 := s.1
  have m1 : gmX X1 o := hM.1.sm s hy.2.1
  have hh := hy.1.2.1
  have h2 := hy.2
  have c2 := hC.kp (M' := gUp M1 w 0 x) (gGw.rf X1 0) (fun a j _ h => gUp_a (by omega))
  have y2 : gLy X1 c o w := ⟨⟨hy.1.1, by omega, by rw [s.2.1]; exact hy.1.2.2⟩, hy.2⟩
  refine ⟨c2, hM.kx m1 (fun a j h1 h3 => ?_), y2, fun a j ha => ?_, y2.lw c2.1 m1⟩
  · rw [gUp_a (by omega)]
    exact oC _ _ (by unfold gCR; omega)
  · rw [gUp_a (by omega), oC _ _ (by unfold gCR; omega)]
    exact hz a j (by omega)
theorem gFin (hC : gLC X M2 c n2 Rg v b u u1 T er nw lt ed S ch cl) (hy : gLy X c o w) (hz : gFr X M2) (oM : gOff (gMR o) M2 M') (hM : gLM X M' o n2 T er nw lt ed S (gEw (T nw) u) ch cl) : gInv X M' c o w n2 ∧ M' w 0 = M2 w 0 := by
  have hh := hy.1.2.1
  have h2 := hy.2
  refine ⟨⟨Rg, v, b, u, u1, T, er, nw, lt, ed, S, ch, cl, hC.kp (gGw.rf X 0) (fun a j h1 h3 => oM _ _ (by unfold gMR; omega)), hM, hy, fun a j ha => ?_⟩, oM _ _ (by unfold gMR; omega)⟩
  rw [oM _ _ (by unfold gMR; omega)]
  exact hz a j ha
theorem law_tl {i : Nat} {v4 v9 : Int} (hL : gLw X c o w) (h1 : M' o 0 = v4) (h2 : v4 = 0 → M' w 0 = v9) (R : wp l G y_Lw_law room_1 true K true 1138 [.val (.ref p), .val (gR G c), .val (gR G o), .val (gR G w), .val (gI (i : Int)), .unset, .unset, .unset] [] X M' cs ss) :
    cI l G y_GM_thrown (gRm 700) false [gR G o] X M' (fun v12 M11 => ((v12 = v4 → ((¬ v4 = 0 → (wp l G y_Lw_law room_1 true K true 1138 [.val (.ref p), .val (gR G c), .val (gR G o), .val (gR G w), .val (gI (i : Int)), .unset, .unset, .unset] [] X M11 cs ss)) ∧ (v4 = 0 → (((0 : Int) ≤ (0 : Int) ∧ (0 : Int) < 1) ∧ (g64 (M11 w (Int.toNat 0)) → ((M11 w (Int.toNat 0) = v9 → (wp l G y_Lw_law room_1 true K true 1138 [.val (.ref p), .val (gR G c), .val (gR G o), .val (gR G w), .val (gI (i : Int)), .unset, .unset, .unset] [] X M11 cs ss)) ∧ (¬ M11 w (Int.toNat 0) = v9 → (K (.returned (some (gI 0))) X M11)))))))) ∧ (¬ v12 = v4 → (K (.returned (some (gI 0))) X M11)))) :=
  c_GM_thrown hL.2.1 ⟨fun _ => ⟨fun _ => R, fun e => ⟨⟨by decide, by decide⟩, fun _ => ⟨fun _ => R, fun ne => absurd (h2 e) ne⟩⟩⟩, fun ne => absurd h1 ne⟩
theorem g_bdi {i Ls : Nat} {j : Int} (h : i + 7 ≤ Ls ∧ Ls ≤ 3584) (hj : 0 ≤ j ∧ j < 7) : (0 : Int) ≤ w32 ((i : Int) + j) ∧ w32 ((i : Int) + j) < (Ls : Int) := by
  rw [w32_id (by unfold g32; omega)]
  omega
theorem gMv_nat {x y : Int} (h : gIs x y) : ∃ a b : Nat, x = (a : Int) ∧ y = (b : Int) ∧ a < 26 ∧ b < 200 ∧ (x + 26 * y).toNat = a + 26 * b := by
  unfold gIs at h
  exact ⟨x.toNat, y.toNat, by omega, by omega, by omega, by omega, by omega⟩
end ggW
