/-! One call of the law on fresh objects. -/
theorem gmX.grow {X X' : gX} {o a : Nat} (h : gmX X o) (g : gGw X X' a) (hn : a ≠ o) : gmX X' o := by
  refine ⟨h.1, Nat.le_trans h.2.1 g.1, (g.2.1 o (gm_o2 h)).trans h.2.2.1, fun q hq => ?_⟩
  obtain ⟨h1, h2, h3, h4⟩ := h.2.2.2 q hq
  exact ⟨(g.2.2 o q.1 (gm_o2 h) (Ne.symm hn)).trans h1, (g.2.1 _ h4).trans h2, h3, Nat.le_trans h4 g.1⟩
/-- the class's object, the reference's and the row for answers, all fresh -/
def gLf (X : gX) (M : gM) (c o w : Nat) : Prop := gNew X c ∧ gmX X o ∧ (1 ≤ w ∧ w ≤ X.1 ∧ X.2.1 w = (1, 1)) ∧ (c + 1167 < o ∧ o + 46 < w) ∧ gZ0 M c ∧ gZo M o ∧ gFr X M
theorem gLf.lw {X : gX} {M : gM} {c o w : Nat} (h : gLf X M c o w) : gLw X c o w := ⟨⟨h.1.1.1, gl_2 h.1.1 (a := 0) (by decide), gl_s0 h.1.1⟩, h.2.1, h.2.2.1⟩
theorem gLw.nw {X : gX} {c o w : Nat} (h : gLw X c o w) (sh : Nat × Nat) : gLw (gNw X sh) c o w :=
  ⟨⟨h.1.1, gNw_2 h.1.2.1, (gNw_s h.1.2.1).trans h.1.2.2⟩, h.2.1.grow (gGw.nw X 0 sh) (by have := h.2.1.1; omega), h.2.2.1, gNw_2 h.2.2.2.1, (gNw_s h.2.2.2.1).trans h.2.2.2.2⟩
theorem gLw.sm {X X' : gX} {c o w : Nat} (h : gLw X c o w) (s : gSm c X X') (ho : c + 1167 < o) : gLw X' c o w :=
  ⟨⟨h.1.1, by rw [s.1]; exact h.1.2.1, by rw [s.2.1]; exact h.1.2.2⟩, h.2.1.sm s ho, h.2.2.1, by rw [s.1]; exact h.2.2.2.1, by rw [s.2.1]; exact h.2.2.2.2⟩
theorem gZo.ag {M M' : gM} {o : Nat} (h : gZo M o) (e : ∀ a j, o ≤ a → a ≤ o + 46 → M' a j = M a j) : gZo M' o :=
  ⟨fun a j h1 h2 h3 => (e _ _ (by omega) (by omega)).trans (h.1 a j h1 h2 h3), fun j => (e o j (Nat.le_refl _) (by omega)).trans (h.2 j)⟩
theorem gHr_r {G : gG} {K : Outcome → gX → gM → Prop} {X : gX} {M : gM} {c o w : Nat} {tab : List (Nat × Int)} {v : Int} (hv : g32 v) (hL : gLw X c o w) (h : K (.returned (some (gI 0))) X (gUp M w 0 v)) : gHr G K w tab (.returned (some (gI v))) X M := Or.inl ⟨v, rfl, hv, hL.2.2.2.1, hL.2.2.2.2, h⟩
theorem gHr_t {G : gG} {K : Outcome → gX → gM → Prop} {X : gX} {M : gM} {w : Nat} {tab : List (Nat × Int)} {t : Nat} {x : Int} (hq : (t, x) ∈ tab) (h : K (.returned (some (gI x))) (gNw X (t, 0)) M) : gHr G K w tab (.threw (G.2.2.1 + (X.1 + 1))) (gNw X (t, 0)) M := Or.inr ⟨X.1 + 1, (t, x), hq, rfl, Nat.succ_pos _, Nat.le_refl _, gNw_n X _, h⟩
theorem gHl_r {G : gG} {K : Outcome → gX → gM → Prop} {X : gX} {M : gM} {c o w : Nat} {tab : List (Nat × Int)} {v : Int} (hv : g64 v) (hL : gLw X c o w) (h : K (.returned (some (gI 0))) X (gUp M w 0 v)) : gHl G K w tab (.returned (some (gL v))) X M := Or.inl ⟨v, rfl, hv, hL.2.2.2.1, hL.2.2.2.2, h⟩
theorem gHl_t {G : gG} {K : Outcome → gX → gM → Prop} {X : gX} {M : gM} {w : Nat} {tab : List (Nat × Int)} {t : Nat} {x : Int} (hq : (t, x) ∈ tab) (h : K (.returned (some (gI x))) (gNw X (t, 0)) M) : gHl G K w tab (.threw (G.2.2.1 + (X.1 + 1))) (gNw X (t, 0)) M := Or.inr ⟨X.1 + 1, (t, x), hq, rfl, Nat.succ_pos _, Nat.le_refl _, gNw_n X _, h⟩
section gLaw1
variable {l : Launch} {G : gG} {X : gX} {M : gM} {K : Outcome → gX → gM → Prop} {cs ss b Ls c o w : Nat} {xs : Nat → Int}
def gRst (l : Launch) (G : gG) (K : Outcome → gX → gM → Prop) (b c o w cs ss : Nat) : Prop := ∀ (X' : gX) (M' : gM), gLw X' c o w → wp l G y_Lw_law room_1 true K true 1138 [.val (.ref b), .val (gR G c), .val (gR G o), .val (gR G w), .val (gI 0), .unset, .unset, .unset] [] X' M' cs ss
def gPk (l : Launch) (G : gG) (X : gX) (M : gM) (K : Outcome → gX → gM → Prop) (b Ls : Nat) (xs : Nat → Int) (c o w cs ss : Nat) : Prop := gOk l G ∧ gLf X M c o w ∧ (∀ U, gSP G U → va_T .int b Ls (fun j => gI (xs j)) (gA G true) U U.heap) ∧ Ls = 7 ∧ (∀ j, g32 (xs j)) ∧ (cs + 1 ≤ room_1.cells ∧ ss + 6 ≤ room_1.slots) ∧ gRst l G K b c o w (cs + 1) (ss + 6) ∧ gRst l G K b c o w cs ss
theorem g_bd {j : Int} (h : 0 ≤ j ∧ j < 7) : (0 : Int) ≤ w32 (0 + j) ∧ w32 (0 + j) < ((7 : Nat) : Int) := by
  rw [Int.zero_add, w32_id (by unfold g32; omega)]
  omega
/-- behind the reference's own call: its exception is asked, the answers are compared -/
theorem law_tail {X2 : gX} {M8 : gM} {v4 v9 : Int} (hL : gLw X2 c o w) (h1 : M8 o 0 = v4) (h2 : v4 = 0 → M8 w 0 = v9) (R : gRst l G K b c o w cs ss) :
    cI l G y_GM_thrown (gRm 700) false [gR G o] X2 M8 (fun v12 M11 => ((v12 = v4 → ((¬ v4 = 0 → (wp l G y_Lw_law room_1 true K true 1138 [.val (.ref b), .val (gR G c), .val (gR G o), .val (gR G w), .val (gI 0), .unset, .unset, .unset] [] X2 M11 cs ss)) ∧ (v4 = 0 → (((0 : Int) ≤ (0 : Int) ∧ (0 : Int) < 1) ∧ (g64 (M11 w (Int.toNat 0)) → ((M11 w (Int.toNat 0) = v9 → (wp l G y_Lw_law room_1 true K true 1138 [.val (.ref b), .val (gR G c), .val (gR G o), .val (gR G w), .val (gI 0), .unset, .unset, .unset] [] X2 M11 cs ss)) ∧ (¬ M11 w (Int.toNat 0) = v9 → (K (.returned (some (gI 0))) X2 M11)))))))) ∧ (¬ v12 = v4 → (K (.returned (some (gI 0))) X2 M11)))) :=
  c_GM_thrown hL.2.1 ⟨fun _ => ⟨fun _ => R _ _ hL, fun e => ⟨⟨by decide, by decide⟩, fun _ => ⟨fun _ => R _ _ hL, fun ne => absurd (h2 e) ne⟩⟩⟩, fun ne => absurd h1 ne⟩
set_option maxRecDepth 100000 in
set_option maxHeartbeats 4000000 in
theorem q_112 (P : gPk l G X M K b Ls xs c o w cs ss) : wp l G y_Lw_law room_1 true K true 112 [.val (.ref b), .val (gR G c), .val (gR G o), .val (gR G w), .val (gI 0), .unset, .unset, .unset] [] X M cs ss := by
  obtain ⟨hok, hF, hscr, rfl, hxs, hk, R1, R0⟩ := P
  have hL := hF.lw
  obtain ⟨hX, hO, hW, ⟨n1, n2⟩, z0, zo, hz⟩ := hF
  have b1 := g_bd (j := 1) (by decide)
  have b2 := g_bd (j := 2) (by decide)
  have b3 := g_bd (j := 3) (by decide)
  have b4 := g_bd (j := 4) (by decide)
  have b5 := g_bd (j := 5) (by decide)
  have b6 := g_bd (j := 6) (by decide)
  have oc : ∀ a, o ≤ a → a ≠ c := fun a h => by omega
  refine w_Lw_law_112 hscr (g32_c rfl) (by decide) hxs hL hk g32_0 ?_
  have z1 : M c 1 = 0 := z0.z 0 1 (by decide)
  have e20 : M c 1 + 20 = 20 := by omega
  refine ⟨b1, b2, b3, b4, b5, h_Lw_feed (d := 699) hok hL.1.1 hL.1.2.1 hL.1.2.2 hL.2.2.1 (c_GL_feed (d := 691) hok hX.1 (Nat.le_refl 1) hz (hxs _) (hxs _) (hxs _) (hxs _) (hxs _) (by omega) (fun _ => ?_) (fun e => absurd (by omega) e))⟩
  rw [e20]
  have ag : ∀ a j, o ≤ a → gTk (gTk (gTk (gTk (gTk M c (xs (Int.toNat (w32 (0 + 1))))) c (xs (Int.toNat (w32 (0 + 2))))) c (xs (Int.toNat (w32 (0 + 3))))) c (xs (Int.toNat (w32 (0 + 4))))) c (xs (Int.toNat (w32 (0 + 5)))) a j = M a j := fun a j h => by
    have s : ∀ (N : gM) (x : Int), gTk N c x a j = N a j := fun N x => by
      unfold gTk
      rw [gUp_a (oc a h), gFl_a (by omega)]
    rw [s, s, s, s, s]
  generalize gTk (gTk (gTk (gTk (gTk M c (xs (Int.toNat (w32 (0 + 1))))) c (xs (Int.toNat (w32 (0 + 2))))) c (xs (Int.toNat (w32 (0 + 3))))) c (xs (Int.toNat (w32 (0 + 4))))) c (xs (Int.toNat (w32 (0 + 5)))) = N at ag ⊢
  have hN : gZo (gUp N w 0 20) o := zo.ag (fun a j h1 h2 => (gUp_a (by omega)).trans (ag a j h1))
  refine gHr_r (g32_c rfl) hL ⟨0, rfl, g32_0, hL, b1, b2, b3, b4, b5, c_GM_feed hO (hxs _) (hxs _) (hxs _) (hxs _) (hxs _) (by rw [hN.2 72]; decide) (fun e => absurd e (by rw [hN.2 72]; decide)) (fun _ => law_tail hL ?_ (fun _ => ?_) R1)⟩
  · rw [gUp_k (by decide), gFl_o (by decide), gUp_eq]
  · rw [gUp_a (by omega), gFl_a (by omega), gUp_a (by omega), gUp_eq, hN.2 72]
    rfl
set_option maxRecDepth 100000 in
set_option maxHeartbeats 4000000 in
theorem q_216 (P : gPk l G X M K b Ls xs c o w cs ss) : wp l G y_Lw_law room_1 true K true 216 [.val (.ref b), .val (gR G c), .val (gR G o), .val (gR G w), .val (gI 0), .unset, .unset, .unset] [] X M cs ss := by
  obtain ⟨hok, hF, hscr, rfl, hxs, hk, R1, R0⟩ := P
  have hL := hF.lw
  obtain ⟨hX, hO, hW, ⟨n1, n2⟩, z0, zo, hz⟩ := hF
  have b1 := g_bd (j := 1) (by decide)
  have b2 := g_bd (j := 2) (by decide)
  have b3 := g_bd (j := 3) (by decide)
  have b4 := g_bd (j := 4) (by decide)
  have b5 := g_bd (j := 5) (by decide)
  have b6 := g_bd (j := 6) (by decide)
  have oc : ∀ a, o ≤ a → a ≠ c := fun a h => by omega
  refine w_Lw_law_216 hscr (g32_c rfl) (by decide) hxs hL hk g32_0 ?_
  have z1 : M c 1 = 0 := z0.z 0 1 (by decide)
  refine ⟨b1, h_Lw_end (d := 699) hok hL.1.1 hL.1.2.1 hL.1.2.2 hL.2.2.1 (c_GL_end (d := 690) hok (Nat.le_refl 1) hX.1 hz (hxs _) (by rw [z1]; decide) (fun e => ?_) (fun e => gHr_t (List.mem_of_getElem? (i := 0) rfl) ⟨1, rfl, g32_c rfl, hL.nw _, b1, c_GM_end (hL.nw _).2.1 (hxs _) (by rw [zo.2 72]; decide) (fun _ => law_tail (hL.nw _) (gUp_eq _ _ _ _) (fun h => absurd h (by decide)) R1) (fun h => absurd (by rw [zo.2 72] at h; rw [z1]; exact h) e)⟩))⟩
  rw [z1] at e
  have e0 : M c 1 - xs (Int.toNat (w32 (0 + 1))) = 0 := by omega
  rw [e0, gUp_id z1]
  have hN : gZo (gUp M w 0 0) o := (zo.ag (fun a j h1 h2 => gUp_a (by omega)))
  refine gHr_r g32_0 hL ⟨0, rfl, g32_0, hL, b1, c_GM_end hO (hxs _) (by rw [hN.2 72]; decide) (fun h => absurd (by rw [hN.2 72]; exact e) h) (fun _ => law_tail hL ?_ (fun _ => ?_) R1)⟩
  · rw [gUp_k (by decide), gUp_eq]
  · rw [gUp_a (by omega), gUp_a (by omega), gUp_eq, hN.2 72]
    omega
set_option maxRecDepth 100000 in
set_option maxHeartbeats 4000000 in
theorem q_272 (P : gPk l G X M K b Ls xs c o w cs ss) : wp l G y_Lw_law room_1 true K true 272 [.val (.ref b), .val (gR G c), .val (gR G o), .val (gR G w), .val (gI 0), .unset, .unset, .unset] [] X M cs ss := by
  obtain ⟨hok, hF, hscr, rfl, hxs, hk, R1, R0⟩ := P
  have hL := hF.lw
  obtain ⟨hX, hO, hW, ⟨n1, n2⟩, z0, zo, hz⟩ := hF
  have b1 := g_bd (j := 1) (by decide)
  have b2 := g_bd (j := 2) (by decide)
  have b3 := g_bd (j := 3) (by decide)
  have b4 := g_bd (j := 4) (by decide)
  have b5 := g_bd (j := 5) (by decide)
  have b6 := g_bd (j := 6) (by decide)
  have oc : ∀ a, o ≤ a → a ≠ c := fun a h => by omega
  refine w_Lw_law_272 hscr (g32_c rfl) (by decide) hxs hL hk g32_0 ?_
  refine ⟨b1, b2, h_Lw_put (d := 699) hok hL.1.1 hL.1.2.1 hL.1.2.2 hL.2.2.1 (f_GL_put (d := 689) hok (Nat.le_refl 1) hX z0 hz (hxs _) (hxs _) (fun i X' sm g' => ?_) (fun i => gHr_t (List.mem_of_getElem? (i := 0) rfl) ⟨1, rfl, g32_c rfl, hL.nw _, b1, b2, zm_put (d := 696) (hL.nw _).2.1 zo (hxs _) (hxs _) (fun i2 => absurd i2 i) (fun _ => law_tail (hL.nw _) (gUp_eq _ _ _ _) (fun h => absurd h (by decide)) R1)⟩))⟩
  have hL2 := hL.sm sm n1
  have hN : gZo (gUp (gLd M c) w 0 0) o := zo.ag (fun a j h1 h2 => (gUp_a (by omega)).trans (gLd_a (oc a h1) j))
  exact gHr_r g32_0 hL2 ⟨0, rfl, g32_0, hL2, b1, b2, zm_put (d := 696) hL2.2.1 hN (hxs _) (hxs _) (fun _ => (fun M' q => law_tail hL2 q.1 (fun _ => (q.2 w 0 n2).trans (gUp_eq _ _ _ _)) R1)) (fun h => absurd i h)⟩
set_option maxRecDepth 100000 in
set_option maxHeartbeats 4000000 in
theorem q_340 (P : gPk l G X M K b Ls xs c o w cs ss) : wp l G y_Lw_law room_1 true K true 340 [.val (.ref b), .val (gR G c), .val (gR G o), .val (gR G w), .val (gI 0), .unset, .unset, .unset] [] X M cs ss := by
  obtain ⟨hok, hF, hscr, rfl, hxs, hk, R1, R0⟩ := P
  have hL := hF.lw
  obtain ⟨hX, hO, hW, ⟨n1, n2⟩, z0, zo, hz⟩ := hF
  have b1 := g_bd (j := 1) (by decide)
  have b2 := g_bd (j := 2) (by decide)
  have b3 := g_bd (j := 3) (by decide)
  have b4 := g_bd (j := 4) (by decide)
  have b5 := g_bd (j := 5) (by decide)
  have b6 := g_bd (j := 6) (by decide)
  have oc : ∀ a, o ≤ a → a ≠ c := fun a h => by omega
  refine w_Lw_law_340 hscr (g32_c rfl) (by decide) hxs hL hk g32_0 ?_
  refine ⟨b1, b2, b3, b4, b5, b6, h_Lw_fill (d := 699) hok hL.1.1 hL.1.2.1 hL.1.2.2 hL.2.2.1 (f_GL_fill (d := 689) hok (Nat.le_refl 1) hX z0 hz (hxs _) (hxs _) (hxs _) (hxs _) (hxs _) (hxs _) (fun i X' sm g' => ?_) (fun i => gHr_t (List.mem_of_getElem? (i := 0) rfl) ⟨1, rfl, g32_c rfl, hL.nw _, b1, b2, b3, b4, b5, b6, zm_fill (d := 696) (hL.nw _).2.1 zo (hxs _) (hxs _) (hxs _) (hxs _) (hxs _) (hxs _) (fun i2 => absurd i2 i) (fun _ => law_tail (hL.nw _) (gUp_eq _ _ _ _) (fun h => absurd h (by decide)) R1)⟩))⟩
  have hL2 := hL.sm sm n1
  have hN : gZo (gUp (gLd M c) w 0 0) o := zo.ag (fun a j h1 h2 => (gUp_a (by omega)).trans (gLd_a (oc a h1) j))
  exact gHr_r g32_0 hL2 ⟨0, rfl, g32_0, hL2, b1, b2, b3, b4, b5, b6, zm_fill (d := 696) hL2.2.1 hN (hxs _) (hxs _) (hxs _) (hxs _) (hxs _) (hxs _) (fun _ => (fun M' q => law_tail hL2 q.1 (fun _ => (q.2 w 0 n2).trans (gUp_eq _ _ _ _)) R1)) (fun h => absurd i h)⟩
set_option maxRecDepth 100000 in
set_option maxHeartbeats 4000000 in
theorem q_458 (P : gPk l G X M K b Ls xs c o w cs ss) : wp l G y_Lw_law room_1 true K true 458 [.val (.ref b), .val (gR G c), .val (gR G o), .val (gR G w), .val (gI 0), .unset, .unset, .unset] [] X M cs ss := by
  obtain ⟨hok, hF, hscr, rfl, hxs, hk, R1, R0⟩ := P
  have hL := hF.lw
  obtain ⟨hX, hO, hW, ⟨n1, n2⟩, z0, zo, hz⟩ := hF
  have b1 := g_bd (j := 1) (by decide)
  have b2 := g_bd (j := 2) (by decide)
  have b3 := g_bd (j := 3) (by decide)
  have b4 := g_bd (j := 4) (by decide)
  have b5 := g_bd (j := 5) (by decide)
  have b6 := g_bd (j := 6) (by decide)
  have oc : ∀ a, o ≤ a → a ≠ c := fun a h => by omega
  refine w_Lw_law_458 hscr (g32_c rfl) (by decide) hxs hL hk g32_0 ?_
  refine ⟨b1, fun e => ?_, fun e => ?_⟩
  · refine ⟨b2, b3, h_Lw_insert (d := 699) hok hL.1.1 hL.1.2.1 hL.1.2.2 hL.2.2.1 (f_GL_insert (d := 690) hok (Nat.le_refl 1) hX z0 hz ⟨by decide, by decide⟩ (hxs _) (hxs _) (fun i X' sm g' => ?_) (fun i => gHr_t (List.mem_of_getElem? (i := 0) rfl) ⟨1, rfl, g32_c rfl, hL.nw _, b1, ⟨fun _ => ⟨b2, b3, zm_insert (d := 695) (hL.nw _).2.1 zo ⟨by decide, by decide⟩ (hxs _) (hxs _) (fun i2 => absurd i2 i) (fun _ => law_tail (hL.nw _) (gUp_eq _ _ _ _) (fun h => absurd h (by decide)) R1)⟩, fun ne => absurd e ne⟩⟩))⟩
    have hL2 := hL.sm sm n1
    have hN : gZo (gUp (gLd (gShf M c 0 1 (xs (Int.toNat (w32 (0 + 2)))) (xs (Int.toNat (w32 (0 + 3))))) c) w 0 0) o := zo.ag (fun a j h1 h2 => (gUp_a (by omega)).trans ((gLd_a (oc a h1) j).trans (gShf_a (by omega) j)))
    exact gHr_r g32_0 hL2 ⟨0, rfl, g32_0, hL2, b1, ⟨fun _ => ⟨b2, b3, zm_insert (d := 695) hL2.2.1 hN ⟨by decide, by decide⟩ (hxs _) (hxs _) (fun _ => (fun M' q => law_tail hL2 q.1 (fun _ => (q.2 w 0 n2).trans (gUp_eq _ _ _ _)) R1)) (fun h => absurd i h)⟩, fun ne => absurd e ne⟩⟩
  · refine ⟨b2, b3, h_Lw_insert (d := 699) hok hL.1.1 hL.1.2.1 hL.1.2.2 hL.2.2.1 (f_GL_insert (d := 690) hok (Nat.le_refl 1) hX z0 hz ⟨by decide, by decide⟩ (hxs _) (hxs _) (fun i X' sm g' => ?_) (fun i => gHr_t (List.mem_of_getElem? (i := 0) rfl) ⟨1, rfl, g32_c rfl, hL.nw _, b1, ⟨fun e0 => absurd e0 e, fun _ => ⟨b2, b3, zm_insert (d := 695) (hL.nw _).2.1 zo ⟨by decide, by decide⟩ (hxs _) (hxs _) (fun i2 => absurd i2 i) (fun _ => law_tail (hL.nw _) (gUp_eq _ _ _ _) (fun h => absurd h (by decide)) R1)⟩⟩⟩))⟩
    have hL2 := hL.sm sm n1
    have hN : gZo (gUp (gLd (gShf M c 1 1 (xs (Int.toNat (w32 (0 + 2)))) (xs (Int.toNat (w32 (0 + 3))))) c) w 0 0) o := zo.ag (fun a j h1 h2 => (gUp_a (by omega)).trans ((gLd_a (oc a h1) j).trans (gShf_a (by omega) j)))
    exact gHr_r g32_0 hL2 ⟨0, rfl, g32_0, hL2, b1, ⟨fun e0 => absurd e0 e, fun _ => ⟨b2, b3, zm_insert (d := 695) hL2.2.1 hN ⟨by decide, by decide⟩ (hxs _) (hxs _) (fun _ => (fun M' q => law_tail hL2 q.1 (fun _ => (q.2 w 0 n2).trans (gUp_eq _ _ _ _)) R1)) (fun h => absurd i h)⟩⟩⟩
set_option maxRecDepth 100000 in
set_option maxHeartbeats 4000000 in
theorem q_554 (P : gPk l G X M K b Ls xs c o w cs ss) : wp l G y_Lw_law room_1 true K true 554 [.val (.ref b), .val (gR G c), .val (gR G o), .val (gR G w), .val (gI 0), .unset, .unset, .unset] [] X M cs ss := by
  obtain ⟨hok, hF, hscr, rfl, hxs, hk, R1, R0⟩ := P
  have hL := hF.lw
  obtain ⟨hX, hO, hW, ⟨n1, n2⟩, z0, zo, hz⟩ := hF
  have b1 := g_bd (j := 1) (by decide)
  have b2 := g_bd (j := 2) (by decide)
  have b3 := g_bd (j := 3) (by decide)
  have b4 := g_bd (j := 4) (by decide)
  have b5 := g_bd (j := 5) (by decide)
  have b6 := g_bd (j := 6) (by decide)
  have oc : ∀ a, o ≤ a → a ≠ c := fun a h => by omega
  refine w_Lw_law_554 hscr (g32_c rfl) (by decide) hxs hL hk g32_0 ?_
  refine ⟨b1, fun e => ?_, fun e => ?_⟩
  · refine ⟨b2, b3, h_Lw_erase (d := 699) hok hL.1.1 hL.1.2.1 hL.1.2.2 hL.2.2.1 (f_GL_erase (d := 690) hok (Nat.le_refl 1) hX z0 hz ⟨by decide, by decide⟩ (hxs _) (hxs _) (fun i X' sm g' => ?_) (fun i => gHr_t (List.mem_of_getElem? (i := 0) rfl) ⟨1, rfl, g32_c rfl, hL.nw _, b1, ⟨fun _ => ⟨b2, b3, zm_erase (d := 695) (hL.nw _).2.1 zo ⟨by decide, by decide⟩ (hxs _) (hxs _) (fun i2 => absurd i2 i) (fun _ => law_tail (hL.nw _) (gUp_eq _ _ _ _) (fun h => absurd h (by decide)) R1)⟩, fun ne => absurd e ne⟩⟩))⟩
    have hL2 := hL.sm sm n1
    have hN : gZo (gUp (gLd (gShf M c 0 0 (xs (Int.toNat (w32 (0 + 2)))) (xs (Int.toNat (w32 (0 + 3))))) c) w 0 0) o := zo.ag (fun a j h1 h2 => (gUp_a (by omega)).trans ((gLd_a (oc a h1) j).trans (gShf_a (by omega) j)))
    exact gHr_r g32_0 hL2 ⟨0, rfl, g32_0, hL2, b1, ⟨fun _ => ⟨b2, b3, zm_erase (d := 695) hL2.2.1 hN ⟨by decide, by decide⟩ (hxs _) (hxs _) (fun _ => (fun M' q => law_tail hL2 q.1 (fun _ => (q.2 w 0 n2).trans (gUp_eq _ _ _ _)) R1)) (fun h => absurd i h)⟩, fun ne => absurd e ne⟩⟩
  · refine ⟨b2, b3, h_Lw_erase (d := 699) hok hL.1.1 hL.1.2.1 hL.1.2.2 hL.2.2.1 (f_GL_erase (d := 690) hok (Nat.le_refl 1) hX z0 hz ⟨by decide, by decide⟩ (hxs _) (hxs _) (fun i X' sm g' => ?_) (fun i => gHr_t (List.mem_of_getElem? (i := 0) rfl) ⟨1, rfl, g32_c rfl, hL.nw _, b1, ⟨fun e0 => absurd e0 e, fun _ => ⟨b2, b3, zm_erase (d := 695) (hL.nw _).2.1 zo ⟨by decide, by decide⟩ (hxs _) (hxs _) (fun i2 => absurd i2 i) (fun _ => law_tail (hL.nw _) (gUp_eq _ _ _ _) (fun h => absurd h (by decide)) R1)⟩⟩⟩))⟩
    have hL2 := hL.sm sm n1
    have hN : gZo (gUp (gLd (gShf M c 1 0 (xs (Int.toNat (w32 (0 + 2)))) (xs (Int.toNat (w32 (0 + 3))))) c) w 0 0) o := zo.ag (fun a j h1 h2 => (gUp_a (by omega)).trans ((gLd_a (oc a h1) j).trans (gShf_a (by omega) j)))
    exact gHr_r g32_0 hL2 ⟨0, rfl, g32_0, hL2, b1, ⟨fun e0 => absurd e0 e, fun _ => ⟨b2, b3, zm_erase (d := 695) hL2.2.1 hN ⟨by decide, by decide⟩ (hxs _) (hxs _) (fun _ => (fun M' q => law_tail hL2 q.1 (fun _ => (q.2 w 0 n2).trans (gUp_eq _ _ _ _)) R1)) (fun h => absurd i h)⟩⟩⟩
set_option maxRecDepth 100000 in
set_option maxHeartbeats 4000000 in
theorem q_650 (P : gPk l G X M K b Ls xs c o w cs ss) : wp l G y_Lw_law room_1 true K true 650 [.val (.ref b), .val (gR G c), .val (gR G o), .val (gR G w), .val (gI 0), .unset, .unset, .unset] [] X M cs ss := by
  obtain ⟨hok, hF, hscr, rfl, hxs, hk, R1, R0⟩ := P
  have hL := hF.lw
  obtain ⟨hX, hO, hW, ⟨n1, n2⟩, z0, zo, hz⟩ := hF
  have b1 := g_bd (j := 1) (by decide)
  have b2 := g_bd (j := 2) (by decide)
  have b3 := g_bd (j := 3) (by decide)
  have b4 := g_bd (j := 4) (by decide)
  have b5 := g_bd (j := 5) (by decide)
  have b6 := g_bd (j := 6) (by decide)
  have oc : ∀ a, o ≤ a → a ≠ c := fun a h => by omega
  refine w_Lw_law_650 hscr (g32_c rfl) (by decide) hxs hL hk g32_0 ?_
  exact h_Lw_undo (d := 699) hok hL.1.1 hL.1.2.1 hL.1.2.2 hL.2.2.1 (f_GL_undo (d := 691) hok (Nat.le_refl 1) hX z0 hz (gHr_t (List.mem_of_getElem? (i := 0) rfl) ⟨1, rfl, g32_c rfl, hL.nw _, zm_undo (d := 699) (hL.nw _).2.1 zo (law_tail (hL.nw _) (gUp_eq _ _ _ _) (fun h => absurd h (by decide)) R1)⟩))
set_option maxRecDepth 100000 in
set_option maxHeartbeats 4000000 in
theorem q_694 (P : gPk l G X M K b Ls xs c o w cs ss) : wp l G y_Lw_law room_1 true K true 694 [.val (.ref b), .val (gR G c), .val (gR G o), .val (gR G w), .val (gI 0), .unset, .unset, .unset] [] X M cs ss := by
  obtain ⟨hok, hF, hscr, rfl, hxs, hk, R1, R0⟩ := P
  have hL := hF.lw
  obtain ⟨hX, hO, hW, ⟨n1, n2⟩, z0, zo, hz⟩ := hF
  have b1 := g_bd (j := 1) (by decide)
  have b2 := g_bd (j := 2) (by decide)
  have b3 := g_bd (j := 3) (by decide)
  have b4 := g_bd (j := 4) (by decide)
  have b5 := g_bd (j := 5) (by decide)
  have b6 := g_bd (j := 6) (by decide)
  have oc : ∀ a, o ≤ a → a ≠ c := fun a h => by omega
  refine w_Lw_law_694 hscr (g32_c rfl) (by decide) hxs hL hk g32_0 ?_
  exact h_Lw_redo (d := 699) hok hL.1.1 hL.1.2.1 hL.1.2.2 hL.2.2.1 (f_GL_redo (d := 691) hok (Nat.le_refl 1) hX z0 hz (gHr_t (List.mem_of_getElem? (i := 0) rfl) ⟨1, rfl, g32_c rfl, hL.nw _, zm_redo (d := 699) (hL.nw _).2.1 zo (law_tail (hL.nw _) (gUp_eq _ _ _ _) (fun h => absurd h (by decide)) R1)⟩))
set_option maxRecDepth 100000 in
set_option maxHeartbeats 4000000 in
theorem q_738 (P : gPk l G X M K b Ls xs c o w cs ss) : wp l G y_Lw_law room_1 true K true 738 [.val (.ref b), .val (gR G c), .val (gR G o), .val (gR G w), .val (gI 0), .unset, .unset, .unset] [] X M cs ss := by
  obtain ⟨hok, hF, hscr, rfl, hxs, hk, R1, R0⟩ := P
  have hL := hF.lw
  obtain ⟨hX, hO, hW, ⟨n1, n2⟩, z0, zo, hz⟩ := hF
  have b1 := g_bd (j := 1) (by decide)
  have b2 := g_bd (j := 2) (by decide)
  have b3 := g_bd (j := 3) (by decide)
  have b4 := g_bd (j := 4) (by decide)
  have b5 := g_bd (j := 5) (by decide)
  have b6 := g_bd (j := 6) (by decide)
  have oc : ∀ a, o ≤ a → a ≠ c := fun a h => by omega
  refine w_Lw_law_738 hscr (g32_c rfl) (by decide) hxs hL hk g32_0 ?_
  have hN : gZo (gUp M w 0 0) o := (zo.ag (fun a j h1 h2 => gUp_a (by omega)))
  refine ⟨b1, b2, b3, h_Lw_value (d := 699) hok hL.1.1 hL.1.2.1 hL.1.2.2 hL.2.2.1 (f_GL_value (d := 689) hok (Nat.le_refl 1) hX z0 hz (hxs _) (hxs _) (hxs _) (fun i => gHl_r (by unfold g64; omega) hL ⟨0, rfl, g32_0, hL, b1, b2, b3, c_GM_value (d := 699) hO (hxs _) (hxs _) (hxs _) (fun h => absurd ⟨i.1, by omega, by omega⟩ h) (fun _ => law_tail hL (gUp_eq _ _ _ _) (fun _ => ?_) R1)⟩) (fun i => gHl_t (List.mem_of_getElem? (i := 0) rfl) ⟨1, rfl, g32_c rfl, hL.nw _, b1, b2, b3, c_GM_value (d := 699) (hL.nw _).2.1 (hxs _) (hxs _) (hxs _) (fun _ => law_tail (hL.nw _) (gUp_eq _ _ _ _) (fun h => absurd h (by decide)) R1) (fun h => absurd ⟨h.1, by omega⟩ i)⟩))⟩
  have z : ∀ a j, 1 ≤ a → a ≤ 46 → a ≠ 41 → gUp M w 0 0 (o + a) j = 0 := hN.1
  rw [gUp_a (by omega), gUp_eq, z 26 _ (by decide) (by decide) (by decide), z 27 _ (by decide) (by decide) (by decide), z 30 _ (by decide) (by decide) (by decide)]
  simp
set_option maxRecDepth 100000 in
set_option maxHeartbeats 4000000 in
theorem q_817 (P : gPk l G X M K b Ls xs c o w cs ss) : wp l G y_Lw_law room_1 true K true 817 [.val (.ref b), .val (gR G c), .val (gR G o), .val (gR G w), .val (gI 0), .unset, .unset, .unset] [] X M cs ss := by
  obtain ⟨hok, hF, hscr, rfl, hxs, hk, R1, R0⟩ := P
  have hL := hF.lw
  obtain ⟨hX, hO, hW, ⟨n1, n2⟩, z0, zo, hz⟩ := hF
  have b1 := g_bd (j := 1) (by decide)
  have b2 := g_bd (j := 2) (by decide)
  have b3 := g_bd (j := 3) (by decide)
  have b4 := g_bd (j := 4) (by decide)
  have b5 := g_bd (j := 5) (by decide)
  have b6 := g_bd (j := 6) (by decide)
  have oc : ∀ a, o ≤ a → a ≠ c := fun a h => by omega
  refine w_Lw_law_817 hscr (g32_c rfl) (by decide) hxs hL hk g32_0 ?_
  have z : ∀ a j, 1 ≤ a → a ≤ 46 → a ≠ 41 → M (o + a) j = 0 := zo.1
  refine ⟨b1, b2, b3, h_Lw_letter (d := 699) hok hL.1.1 hL.1.2.1 hL.1.2.2 hL.2.2.1 (f_GL_letter (d := 689) hok (Nat.le_refl 1) hX z0 hz (hxs _) (hxs _) (hxs _) (fun i => gHr_t (List.mem_of_getElem? (i := 1) rfl) ⟨2, rfl, g32_c rfl, hL.nw _, b1, b2, b3, c_GM_letter_2 (d := 699) (hL.nw _).2.1 (hxs _) (hxs _) (hxs _) (by rw [z 27 _ (by decide) (by decide) (by decide)]; decide) (fun h => absurd i h) (fun _ _ => law_tail (hL.nw _) (gUp_eq _ _ _ _) (fun h => absurd h (by decide)) R1) (fun _ h => absurd h.1 (by rw [z 26 _ (by decide) (by decide) (by decide)]; decide))⟩) (fun i => gHr_t (List.mem_of_getElem? (i := 0) rfl) ⟨1, rfl, g32_c rfl, hL.nw _, b1, b2, b3, c_GM_letter_2 (d := 699) (hL.nw _).2.1 (hxs _) (hxs _) (hxs _) (by rw [z 27 _ (by decide) (by decide) (by decide)]; decide) (fun _ => law_tail (hL.nw _) (gUp_eq _ _ _ _) (fun h => absurd h (by decide)) R1) (fun h => absurd h i) (fun h => absurd h i)⟩))⟩
set_option maxRecDepth 100000 in
set_option maxHeartbeats 4000000 in
theorem q_977 (P : gPk l G X M K b Ls xs c o w cs ss) : wp l G y_Lw_law room_1 true K true 977 [.val (.ref b), .val (gR G c), .val (gR G o), .val (gR G w), .val (gI 0), .unset, .unset, .unset] [] X M cs ss := by
  obtain ⟨hok, hF, hscr, rfl, hxs, hk, R1, R0⟩ := P
  have hL := hF.lw
  obtain ⟨hX, hO, hW, ⟨n1, n2⟩, z0, zo, hz⟩ := hF
  have b1 := g_bd (j := 1) (by decide)
  have b2 := g_bd (j := 2) (by decide)
  have b3 := g_bd (j := 3) (by decide)
  have b4 := g_bd (j := 4) (by decide)
  have b5 := g_bd (j := 5) (by decide)
  have b6 := g_bd (j := 6) (by decide)
  have oc : ∀ a, o ≤ a → a ≠ c := fun a h => by omega
  refine w_Lw_law_977 hscr (g32_c rfl) (by decide) hxs hL hk g32_0 ?_
  exact ⟨b1, b2, b3, h_Lw_reference (d := 699) hok hL.1.1 hL.1.2.1 hL.1.2.2 hL.2.2.1 (f_GL_reference (d := 689) hok (Nat.le_refl 1) hX z0 hz (hxs _) (hxs _) (hxs _) (fun i => gHr_t (List.mem_of_getElem? (i := 1) rfl) ⟨2, rfl, g32_c rfl, hL.nw _, b1, b2, b3, zm_reference (d := 699) (hL.nw _).2.1 zo (hxs _) (hxs _) (hxs _) (fun _ => law_tail (hL.nw _) (gUp_eq _ _ _ _) (fun h => absurd h (by decide)) R1) (fun h => absurd i h)⟩) (fun i => gHr_t (List.mem_of_getElem? (i := 0) rfl) ⟨1, rfl, g32_c rfl, hL.nw _, b1, b2, b3, zm_reference (d := 699) (hL.nw _).2.1 zo (hxs _) (hxs _) (hxs _) (fun h => absurd h i) (fun _ => law_tail (hL.nw _) (gUp_eq _ _ _ _) (fun h => absurd h (by decide)) R1)⟩))⟩
set_option maxRecDepth 100000 in
set_option maxHeartbeats 4000000 in
theorem q_897 (P : gPk l G X M K b Ls xs c o w cs ss) : wp l G y_Lw_law room_1 true K true 897 [.val (.ref b), .val (gR G c), .val (gR G o), .val (gR G w), .val (gI 0), .unset, .unset, .unset] [] X M cs ss := by
  obtain ⟨hok, hF, hscr, rfl, hxs, hk, R1, R0⟩ := P
  have hL := hF.lw
  obtain ⟨hX, hO, hW, ⟨n1, n2⟩, z0, zo, hz⟩ := hF
  have b1 := g_bd (j := 1) (by decide)
  have b2 := g_bd (j := 2) (by decide)
  have b3 := g_bd (j := 3) (by decide)
  have b4 := g_bd (j := 4) (by decide)
  have b5 := g_bd (j := 5) (by decide)
  have b6 := g_bd (j := 6) (by decide)
  have oc : ∀ a, o ≤ a → a ≠ c := fun a h => by omega
  refine w_Lw_law_897 hscr (g32_c rfl) (by decide) hxs hL hk g32_0 ?_
  have hN : gZo (gUp M w 0 0) o := (zo.ag (fun a j h1 h2 => gUp_a (by omega)))
  refine ⟨b1, b2, b3, h_Lw_content (d := 699) hok hL.1.1 hL.1.2.1 hL.1.2.2 hL.2.2.1 (f_GL_content (d := 689) hok (Nat.le_refl 1) hX z0 hz (hxs _) (hxs _) (hxs _) (fun i => gHr_r g32_0 hL ⟨0, rfl, g32_0, hL, b1, b2, b3, zm_content (d := 699) hO hN (hxs _) (hxs _) (hxs _) (fun _ => law_tail hL (gUp_eq _ _ _ _) (fun _ => ?_) R1) (fun h => absurd i h)⟩) (fun i => gHr_t (List.mem_of_getElem? (i := 0) rfl) ⟨1, rfl, g32_c rfl, hL.nw _, b1, b2, b3, zm_content (d := 699) (hL.nw _).2.1 zo (hxs _) (hxs _) (hxs _) (fun h => absurd h i) (fun _ => law_tail (hL.nw _) (gUp_eq _ _ _ _) (fun h => absurd h (by decide)) R1)⟩))⟩
  rw [gUp_a (by omega), gUp_eq]
set_option maxRecDepth 100000 in
set_option maxHeartbeats 4000000 in
theorem q_1057 (P : gPk l G X M K b Ls xs c o w cs ss) : wp l G y_Lw_law room_1 true K true 1057 [.val (.ref b), .val (gR G c), .val (gR G o), .val (gR G w), .val (gI 0), .unset, .unset, .unset] [] X M cs ss := by
  obtain ⟨hok, hF, hscr, rfl, hxs, hk, R1, R0⟩ := P
  have hL := hF.lw
  obtain ⟨hX, hO, hW, ⟨n1, n2⟩, z0, zo, hz⟩ := hF
  have b1 := g_bd (j := 1) (by decide)
  have b2 := g_bd (j := 2) (by decide)
  have b3 := g_bd (j := 3) (by decide)
  have b4 := g_bd (j := 4) (by decide)
  have b5 := g_bd (j := 5) (by decide)
  have b6 := g_bd (j := 6) (by decide)
  have oc : ∀ a, o ≤ a → a ≠ c := fun a h => by omega
  refine w_Lw_law_1057 hscr (g32_c rfl) (by decide) hxs hL hk g32_0 ?_
  have z7 : M (c + 234) 7 = 0 := z0.z 234 7 (by decide)
  exact ⟨b1, h_Lw_changed (d := 699) hok hL.1.1 hL.1.2.1 hL.1.2.2 hL.2.2.1 (c_GL_changed (d := 691) hok (Nat.le_refl 1) hX.1 hz (hxs _) (by rw [z7]; decide) (fun e => absurd e (by rw [z7]; omega)) (fun _ => gHr_t (List.mem_of_getElem? (i := 0) rfl) ⟨1, rfl, g32_c rfl, hL.nw _, b1, c_GM_changed (d := 699) (hL.nw _).2.1 (hxs _) (by rw [zo.2 69]; decide) (fun _ => law_tail (hL.nw _) (gUp_eq _ _ _ _) (fun h => absurd h (by decide)) R1) (fun h => absurd h (by rw [zo.2 69]; omega))⟩))⟩
set_option maxRecDepth 100000 in
set_option maxHeartbeats 4000000 in
theorem q_1113 (P : gPk l G X M K b Ls xs c o w cs ss) : wp l G y_Lw_law room_1 true K true 1113 [.val (.ref b), .val (gR G c), .val (gR G o), .val (gR G w), .val (gI 0), .unset, .unset, .unset] [] X M cs ss := by
  obtain ⟨hok, hF, hscr, rfl, hxs, hk, R1, R0⟩ := P
  have hL := hF.lw
  obtain ⟨hX, hO, hW, ⟨n1, n2⟩, z0, zo, hz⟩ := hF
  have b1 := g_bd (j := 1) (by decide)
  have b2 := g_bd (j := 2) (by decide)
  have b3 := g_bd (j := 3) (by decide)
  have b4 := g_bd (j := 4) (by decide)
  have b5 := g_bd (j := 5) (by decide)
  have b6 := g_bd (j := 6) (by decide)
  have oc : ∀ a, o ≤ a → a ≠ c := fun a h => by omega
  refine w_Lw_law_1113 hscr (g32_c rfl) (by decide) hxs hL hk g32_0 ?_
  refine ⟨b1, f_GL_count (d := 699) hX z0 (hxs _) ⟨b1, c_GM_count (d := 699) hO (hxs _) (by rw [zo.2 35, zo.2 36, zo.2 37]; decide) ⟨fun _ => R0 _ _ hL, fun ne => absurd ?_ ne⟩⟩⟩
  unfold gmCount
  rw [zo.2 72, zo.2 69, zo.2 36, zo.2 35, zo.2 37, zo.2 66, zo.2 65, zo.2 70, gmCnt_0 zo.1]
  generalize xs (Int.toNat (w32 (0 + 1))) = x
  split <;> (repeat' split) <;> omega
end gLaw1
