/-! Constructors: arrays made and put, objects made. -/
def gRk (d n m : Nat) : Room := { frames := d, cells := n, slots := m, locals := 100 * d }
theorem gRk_call (d n m n' m' k : Nat) (h : k ≤ 81) : (gRk d n m).frames + 1 ≤ (gRk (d + 1) n' m').frames ∧ 8 + (k + 11) + (gRk d n m).locals ≤ (gRk (d + 1) n' m').locals := by
  unfold gRk
  dsimp only
  omega
def gMk (X : gX) (a k : Nat) (sh : Nat × Nat) : gX := gGu (gNw X sh) a k (X.1 + 1)
theorem gNw_s {X : gX} {sh : Nat × Nat} {b : Nat} (h : b ≤ X.1) : (gNw X sh).2.1 b = X.2.1 b := by
  unfold gNw
  dsimp only
  rw [if_neg (by omega)]
theorem gNw_n (X : gX) (sh : Nat × Nat) : (gNw X sh).2.1 (X.1 + 1) = sh := if_pos rfl
theorem gNw_2 {X : gX} {sh : Nat × Nat} {b : Nat} (h : b ≤ X.1) : b ≤ (gNw X sh).1 := Nat.le_succ_of_le h
theorem gNw_r {X : gX} {sh : Nat × Nat} {b : Nat} (h : b ≤ X.1) (j : Nat) : (gNw X sh).2.2 b j = X.2.2 b j := by
  unfold gNw
  dsimp only
  rw [if_neg (by omega)]
theorem gGu_k (X : gX) (a k r : Nat) : (gGu X a k r).2.2 a k = r := if_pos ⟨rfl, rfl⟩
theorem gGu_o (X : gX) {a k b j : Nat} (r : Nat) (h : ¬ (b = a ∧ j = k)) : (gGu X a k r).2.2 b j = X.2.2 b j := if_neg h
theorem gMk_s {X : gX} {a k : Nat} {sh : Nat × Nat} {b : Nat} (h : b ≤ X.1) : (gMk X a k sh).2.1 b = X.2.1 b := gNw_s h
theorem gMk_n (X : gX) (a k : Nat) (sh : Nat × Nat) : (gMk X a k sh).2.1 (X.1 + 1) = sh := if_pos rfl
theorem gMk_2 {X : gX} {a k : Nat} {sh : Nat × Nat} {b : Nat} (h : b ≤ X.1) : b ≤ (gMk X a k sh).1 := Nat.le_succ_of_le h
theorem gMk_k (X : gX) (a k : Nat) (sh : Nat × Nat) : (gMk X a k sh).2.2 a k = X.1 + 1 := if_pos ⟨rfl, rfl⟩
theorem gMk_o {X : gX} {a k : Nat} {sh : Nat × Nat} {b j : Nat} (h : b ≤ X.1) (hn : ¬ (b = a ∧ j = k)) : (gMk X a k sh).2.2 b j = X.2.2 b j := (gGu_o _ _ hn).trans (gNw_r h j)
theorem gFr.mk {X : gX} {M : gM} (h : gFr X M) (a k : Nat) (sh : Nat × Nat) : gFr (gMk X a k sh) M := (h.nw sh).gu a k _
section gMake
variable {l : Launch} {G : gG} {y : gMt} {rm : Room} {fr md : Bool} {K : Outcome → gX → gM → Prop} {pc : Nat} {L : List Slot} {st : List Value} {X : gX} {M : gM} {cs ss : Nat}
theorem wp_anewSt {n : Int} {N index : Nat} (hd : decode y.2.1 pc = .ok (.anewarray index, 3)) (hw : Cond.classLink y.1.cls index "GridLedger$State" ∈ gTb) (hw2 : ∀ U, gSP G U → ∀ args : Array Value, (Cond.arrayOver (.object "GridLedger$State")).before args U = true) (hn : n = (N : Int)) (hN : N ≤ 8000000) (hcs : cs + 1 ≤ rm.cells) (hss : ss + N ≤ rm.slots)
    (kk : wp l G y rm fr K true (pc + 3) L (gR G (X.1 + 1) :: st) (gNw X (5, N)) (gZr M (X.1 + 1)) (cs + 1) (ss + N)) : wp l G y rm fr K md pc L (gI n :: st) X M cs ss := by
  intro p e s m args below meth c H locs ls hC hS hR hL
  have hts : ∀ w ∈ gTb, w.before args s = true := fun w h => hC.2.2.2.2.2.1 w h
  have hg : g32 n := by unfold g32; omega
  have hcl : (Int32.ofInt n).toNatClampNeg = N := by rw [g_clamp hg (by omega)]; omega
  refine W.anew hC.1 hC.2.1 hC.2.2.2.2.1 (hts _ hw) (hw2 s (gNow hC) args) rfl hd rfl (by rw [gz32, g32_lt hg g32_0]; omega) (by rw [hcl]; omega) hcs (by rw [hcl]; exact hss) fun cA kA comp f1 f2 f3 f4 => ?_
  have hcA : cA = G.2.1 5 := by
    obtain ⟨kA', comp', k1, k2, k3, k4⟩ := (hC.2.2.2.2.2.2.2.2.1.2 5 _ (gTy_at G (by omega))).2
    exact Option.some.inj (f1.symm.trans k4)
  subst hcA
  rw [hcl, g_size hR]
  have z1 : (H.push { cls := G.2.1 5, slots := Array.replicate N Value.null, vm := .none }).size = H.size + 1 := by simp
  have o1 : ∀ q, q < H.size → (H.push { cls := G.2.1 5, slots := Array.replicate N Value.null, vm := .none })[q]? = H[q]? := fun q hq => by rw [Array.getElem?_push, if_neg (Nat.ne_of_lt hq)]
  refine kk p e s m args below meth c _ locs ls hC (gS_nw (gS_t hS) z1 o1) (hR.nw z1 o1 ?_) hL
  unfold gCe
  rw [show (gNw X (5, N)).2.1 (X.1 + 1) = (5, N) from if_pos rfl, if_pos (by dsimp only; omega)]
  have hz : G.2.2.1 + (X.1 + 1) = H.size := by rw [hR.1]; omega
  rw [hz]
  have e1 : (H.push { cls := G.2.1 5, slots := Array.replicate N Value.null, vm := .none })[H.size]? = some { cls := G.2.1 5, slots := Array.replicate N Value.null, vm := .none } := by simp
  rw [e1]
  unfold arrV
  congr 2
  apply Array.ext
  · simp
  · intro j h1 h2
    simp only [Array.getElem_replicate, Array.getElem_ofFn]
    unfold gVal
    rw [show (gNw X (5, N)).2.1 (X.1 + 1) = (5, N) from if_pos rfl]
    unfold gNw
    dsimp only
    rw [if_pos rfl]
    rfl
theorem wp_mkF {n : Int} {N t a k Nf ci index : Nat} {C : String} {T : u_T} {at' : ArrayType} (hd : decode y.2.1 pc = .ok (.newarray at', 2)) (hd2 : decode y.2.1 (pc + 2) = .ok (.putfield index, 3)) (ht : t < 4) (hty : newarray.typeOf at' = gFt t) (hw : Cond.arrayClass (gFt t) ∈ gTb) (hn : n = (N : Int)) (hN : N ≤ 8000000) (hcs : cs + 1 ≤ rm.cells) (hss : ss + N ≤ rm.slots)
    (hc : gCl[ci]? = some (C, T, Nf)) (hk : k < Nf) (hT : (T k).1 = C) (hwf : Cond.fieldLink y.1.cls index C (T k).2.1 (T k).2.2.1 ∈ gTb) (h1 : 1 ≤ a) (h2 : a ≤ X.1) (hs : X.2.1 a = (ci + 6, Nf)) (hfin : (T k).2.2.2 = true) (hin : y.1.name = "<init>") (hown : y.1.cls = C) (hk0 : gFk ci k = 2) (hy : (∃ t, gFy ci k = .array t) ∨ ∃ C2, gFy ci k = .object C2) (hz : gFr X M)
    (kk : wp l G y rm fr K true (pc + 2 + 3) L st (gMk X a k (t, N)) M (cs + 1) (ss + N)) : wp l G y rm fr K md pc L (gI n :: gR G a :: st) X M cs ss :=
  wp_newarray hd ht hty hw hn hN hcs hss (by rw [gZr_id hz]; exact xputF hd2 hc hk hT hwf h1 (gNw_2 h2) ((gNw_s h2).trans hs) hfin hin hown hk0 hy kk)
theorem wp_mkO {ci N index : Nat} {C : String} {T : u_T} (hd : decode y.2.1 pc = .ok (.new index, 3)) (hd2 : decode y.2.1 (pc + 3) = .ok (.dup, 1)) (hc : gCl[ci]? = some (C, T, N)) (hw : Cond.classLink y.1.cls index C ∈ gTb) (hi : Cond.instantiable C N ∈ gTb) (hini : Cond.initialized C ∈ gTb) (hcs : cs + 1 ≤ rm.cells) (hss : ss + N ≤ rm.slots) (hz : gFr X M)
    (kk : wp l G y rm fr K true (pc + 3 + 1) L (gR G (X.1 + 1) :: gR G (X.1 + 1) :: st) (gNw X (ci + 6, N)) M (cs + 1) (ss + N)) : wp l G y rm fr K md pc L st X M cs ss :=
  wp_new hd hc hw hi hini hcs hss (by rw [gZr_id hz]; exact wp_dup hd2 (gR_cat _) kk)
theorem wp_mkS {n : Int} {N a k Nf ci index index2 : Nat} {C : String} {T : u_T} (hd : decode y.2.1 pc = .ok (.anewarray index, 3)) (hd2 : decode y.2.1 (pc + 3) = .ok (.putfield index2, 3)) (hw : Cond.classLink y.1.cls index "GridLedger$State" ∈ gTb) (hw2 : ∀ U, gSP G U → ∀ args : Array Value, (Cond.arrayOver (.object "GridLedger$State")).before args U = true) (hn : n = (N : Int)) (hN : N ≤ 8000000) (hcs : cs + 1 ≤ rm.cells) (hss : ss + N ≤ rm.slots)
    (hc : gCl[ci]? = some (C, T, Nf)) (hk : k < Nf) (hT : (T k).1 = C) (hwf : Cond.fieldLink y.1.cls index2 C (T k).2.1 (T k).2.2.1 ∈ gTb) (h1 : 1 ≤ a) (h2 : a ≤ X.1) (hs : X.2.1 a = (ci + 6, Nf)) (hfin : (T k).2.2.2 = true) (hin : y.1.name = "<init>") (hown : y.1.cls = C) (hk0 : gFk ci k = 2) (hy : (∃ t, gFy ci k = .array t) ∨ ∃ C2, gFy ci k = .object C2) (hz : gFr X M)
    (kk : wp l G y rm fr K true (pc + 3 + 3) L st (gMk X a k (5, N)) M (cs + 1) (ss + N)) : wp l G y rm fr K md pc L (gI n :: gR G a :: st) X M cs ss :=
  wp_anewSt hd hw hw2 hn hN hcs hss (by rw [gZr_id hz]; exact xputF hd2 hc hk hT hwf h1 (gNw_2 h2) ((gNw_s h2).trans hs) hfin hin hown hk0 hy kk)
theorem gMu_s {X : gX} {N k b : Nat} (h : b ≤ X.1) : (gMu X N k).2.1 b = X.2.1 b := by
  unfold gMu
  dsimp only
  rw [if_pos h]
theorem wp_mkM {n q : Int} {N Q a k Nf ci index index2 : Nat} {C : String} {T : u_T} (hd : decode y.2.1 pc = .ok (.multianewarray index 2, 4)) (hd2 : decode y.2.1 (pc + 4) = .ok (.putfield index2, 3)) (hw : Cond.classLink y.1.cls index "[[B" ∈ gTb) (hw2 : ∀ U, gSP G U → ∀ args : Array Value, (Cond.arrayOver (.array .byte)).before args U = true) (hw3 : Cond.arrayClass .byte ∈ gTb) (hn : n = (N : Int)) (hq : q = (Q : Int)) (hN : N ≤ 8000000) (hQ : Q ≤ 8000000) (hcs : cs + (1 + N) ≤ rm.cells) (hss : ss + (N + N * Q) ≤ rm.slots)
    (hc : gCl[ci]? = some (C, T, Nf)) (hk : k < Nf) (hT : (T k).1 = C) (hwf : Cond.fieldLink y.1.cls index2 C (T k).2.1 (T k).2.2.1 ∈ gTb) (h1 : 1 ≤ a) (h2 : a ≤ X.1) (hs : X.2.1 a = (ci + 6, Nf)) (hfin : (T k).2.2.2 = true) (hin : y.1.name = "<init>") (hown : y.1.cls = C) (hk0 : gFk ci k = 2) (hy : (∃ t, gFy ci k = .array t) ∨ ∃ C2, gFy ci k = .object C2) (hz : gFr X M)
    (kk : wp l G y rm fr K true (pc + 4 + 3) L st (gGu (gMu X N Q) a k (X.1 + 1)) M (cs + 1 + N) (ss + N + N * Q)) : wp l G y rm fr K md pc L (gI q :: gI n :: gR G a :: st) X M cs ss :=
  wp_multi hd hw hw2 hw3 hn hq hN hQ hcs hss hz (xputF hd2 hc hk hT hwf h1 (by show a ≤ X.1 + 1 + N; omega) ((gMu_s h2).trans hs) hfin hin hown hk0 hy kk)
end gMake
