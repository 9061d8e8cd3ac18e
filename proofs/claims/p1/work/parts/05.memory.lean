/-! Rows of the memory over wp: fields, arrays, new cells. -/
def gUp (M : gM) (a k : Nat) (x : Int) : gM := fun b j => if b = a ∧ j = k then x else M b j
def gGu (X : gX) (a k r : Nat) : gX := (X.1, X.2.1, fun b j => if b = a ∧ j = k then r else X.2.2 b j)
def gNw (X : gX) (sh : Nat × Nat) : gX := (X.1 + 1, fun b => if b = X.1 + 1 then sh else X.2.1 b, fun b j => if b = X.1 + 1 then 0 else X.2.2 b j)
def gZr (M : gM) (a : Nat) : gM := fun b j => if b = a then 0 else M b j
theorem gCe.other {G : gG} {X X' : gX} {M M' : gM} {b : Nat} {H H1 : Heap} (h : gCe G X M b H) (hs : X'.2.1 b = X.2.1 b) (hv : ∀ k, k < (X.2.1 b).2 → gVal G X' M' b k = gVal G X M b k) (hq : H1[G.2.2.1 + b]? = H[G.2.2.1 + b]?) : gCe G X' M' b H1 := by
  unfold gCe at h ⊢
  rw [hs]
  split
  · next hlt =>
    rw [if_pos hlt] at h
    rw [hq, h]
    unfold arrV
    congr 2
    apply Array.ext
    · simp
    · intro i h1 h2
      simp only [Array.size_ofFn] at h1
      simp only [Array.getElem_ofFn]
      exact (hv i h1).symm
  · next hlt =>
    rw [if_neg hlt] at h
    exact ⟨h.1, (h.2.kept hq).to fun k hk => (hv k hk).symm⟩
/-- the cell a's slot k has become another number -/
theorem gRep.up {G : gG} {X : gX} {M : gM} {a k : Nat} {x : Int} {H H1 : Heap} (h : gRep G X M H) (hz : H1.size = H.size) (ho : ∀ q, q ≠ G.2.2.1 + a → H1[q]? = H[q]?) (h1 : 1 ≤ a) (hc : gCe G X (gUp M a k x) a H1) (hr : gRg (gKd (X.2.1 a).1 k) x) : gRep G X (gUp M a k x) H1 := by
  refine ⟨hz.trans h.1, fun q hq => (ho q (by omega)).trans (h.2.1 q hq), fun b hb1 hb2 => ?_⟩
  obtain ⟨c1, c2⟩ := h.2.2 b hb1 hb2
  by_cases e : b = a
  · subst e
    refine ⟨hc, fun j hj => ?_⟩
    unfold gUp
    split
    · next q => rw [q.2]; exact hr
    · exact c2 j hj
  · refine ⟨c1.other rfl (fun j _ => ?_) (ho _ (by omega)), fun j hj => ?_⟩
    · unfold gVal gUp
      rw [if_neg (fun q => e q.1)]
    · unfold gUp
      rw [if_neg (fun q => e q.1)]
      exact c2 j hj
/-- the cell a's slot k has become another reference -/
theorem gRep.gu {G : gG} {X : gX} {M : gM} {a k r : Nat} {H H1 : Heap} (h : gRep G X M H) (hz : H1.size = H.size) (ho : ∀ q, q ≠ G.2.2.1 + a → H1[q]? = H[q]?) (h1 : 1 ≤ a) (hc : gCe G (gGu X a k r) M a H1) : gRep G (gGu X a k r) M H1 := by
  refine ⟨hz.trans h.1, fun q hq => (ho q (by omega)).trans (h.2.1 q hq), fun b hb1 hb2 => ?_⟩
  obtain ⟨c1, c2⟩ := h.2.2 b hb1 hb2
  by_cases e : b = a
  · subst e
    exact ⟨hc, c2⟩
  · refine ⟨c1.other rfl (fun j _ => ?_) (ho _ (by omega)), c2⟩
    unfold gVal gGu
    dsimp only
    rw [if_neg (fun q => e q.1)]
theorem gRep.nw {G : gG} {X : gX} {M : gM} {sh : Nat × Nat} {H H1 : Heap} (h : gRep G X M H) (hz : H1.size = H.size + 1) (ho : ∀ q, q < H.size → H1[q]? = H[q]?) (hc : gCe G (gNw X sh) (gZr M (X.1 + 1)) (X.1 + 1) H1) : gRep G (gNw X sh) (gZr M (X.1 + 1)) H1 := by
  have hs := h.1
  refine ⟨by rw [hz, hs]; unfold gNw; dsimp only; omega, fun q hq => (ho q (by omega)).trans (h.2.1 q hq), fun b hb1 hb2 => ?_⟩
  by_cases e : b = X.1 + 1
  · subst e
    refine ⟨hc, fun j hj => ?_⟩
    unfold gZr
    rw [if_pos rfl]
    unfold gRg
    split <;> first | trivial | (unfold g64; omega) | (unfold g32; omega) | omega
  · have hb : b ≤ X.1 := by unfold gNw at hb2; dsimp only at hb2; omega
    obtain ⟨c1, c2⟩ := h.2.2 b hb1 hb
    have e2 : (gNw X sh).2.1 b = X.2.1 b := by unfold gNw; dsimp only; rw [if_neg e]
    refine ⟨c1.other e2 (fun j _ => ?_) (ho _ (by omega)), fun j hj => ?_⟩
    · unfold gVal
      rw [e2]
      unfold gNw gZr
      dsimp only
      rw [if_neg e, if_neg e]
    · rw [e2] at hj ⊢
      unfold gZr
      rw [if_neg e]
      exact c2 j hj
theorem gA_pos {G : gG} {a : Nat} (h : 1 ≤ a) : gA G true (G.2.2.1 + a) := ⟨rfl, by omega⟩
section gMem
variable {l : Launch} {G : gG} {y : gMt} {rm : Room} {fr md : Bool} {K : Outcome → gX → gM → Prop} {pc : Nat} {L L' : List Slot} {st : List Value} {X : gX} {M : gM} {cs ss : Nat}
theorem wp_rng {a k t n : Nat} (h1 : 1 ≤ a) (h2 : a ≤ X.1) (hs : X.2.1 a = (t, n)) (hk : k < n) (h : gRg (gKd t k) (M a k) → wp l G y rm fr K md pc L st X M cs ss) : wp l G y rm fr K md pc L st X M cs ss := by
  intro p e s m args below meth c H locs ls hC hS hR hL
  have h3 := (hR.2.2 a h1 h2).2 k (by rw [hs]; exact hk)
  rw [hs] at h3
  exact h h3 p e s m args below meth c H locs ls hC hS hR hL
theorem wp_getf {a k N ci index : Nat} {C : String} {T : u_T} {v : Value} (hd : decode y.2.1 pc = .ok (.getfield index, 3)) (hc : gCl[ci]? = some (C, T, N)) (hk : k < N) (hT : (T k).1 = C) (hw : Cond.fieldLink y.1.cls index C (T k).2.1 (T k).2.2.1 ∈ gTb) (h1 : 1 ≤ a) (h2 : a ≤ X.1) (hs : X.2.1 a = (ci + 6, N))
    (hv : gV G (gFk ci k) (M a k) (X.2.2 a k) = v) (kk : wp l G y rm fr K md (pc + 3) L (v :: st) X M cs ss) : wp l G y rm fr K md pc L (gR G a :: st) X M cs ss := by
  intro p e s m args below meth c H locs ls hC hS hR hL
  have hts : ∀ w ∈ gTb, w.before args s = true := fun w h => hC.2.2.2.2.2.1 w h
  have hcc := (hR.2.2 a h1 h2).1
  unfold gCe at hcc
  rw [hs, if_neg (by dsimp only; omega)] at hcc
  dsimp only at hcc
  rw [Nat.add_sub_cancel] at hcc
  obtain ⟨-, cell, q1, q2, q3, q4⟩ := hcc
  obtain ⟨hSl, hfc, kC, hkC, hkind⟩ := hC.2.2.2.2.2.2.2.2.1.1 ci _ hc
  obtain ⟨cf, kf, fi, f, hi, hsl⟩ := hSl k hk
  rw [hT] at hi
  rw [gR_ref G (by omega)]
  have hall := gCl_all ci _ hc
  refine W.getf hC.1 hC.2.1 hC.2.2.2.2.1 (hts _ hw) hi (u_facts hfc hkC (hT ▸ u_lays hts hall.2.2.1 hk) hi).1 q1 (by rw [q3]; exact fun h => by cases h) (v := v) ?_ rfl rfl hd (kk p e s m args below meth c H locs ls hC hS hR hL)
  rw [hsl, q4 k hk]
  unfold gVal
  rw [hs]
  exact congrArg some hv
theorem wp_putf {a k N ci index : Nat} {C : String} {T : u_T} {x : Int} (hd : decode y.2.1 pc = .ok (.putfield index, 3)) (hc : gCl[ci]? = some (C, T, N)) (hk : k < N) (hT : (T k).1 = C) (hw : Cond.fieldLink y.1.cls index C (T k).2.1 (T k).2.2.1 ∈ gTb) (h1 : 1 ≤ a) (h2 : a ≤ X.1) (hs : X.2.1 a = (ci + 6, N)) (hfin : (T k).2.2.2 = false)
    (hn : narrow (gFy ci k) (gV G (gFk ci k) x 0) = gV G (gFk ci k) x 0) (hfit : fits (gFy ci k) (gV G (gFk ci k) x 0) = true) (hr : gRg (gFk ci k) x) (hk2 : gFk ci k ≠ 2) (kk : wp l G y rm fr K true (pc + 3) L st X (gUp M a k x) cs ss) : wp l G y rm fr K md pc L (gV G (gFk ci k) x 0 :: gR G a :: st) X M cs ss := by
  intro p e s m args below meth c H locs ls hC hS hR hL
  have hts : ∀ w ∈ gTb, w.before args s = true := fun w h => hC.2.2.2.2.2.1 w h
  have hcc := (hR.2.2 a h1 h2).1
  unfold gCe at hcc
  rw [hs, if_neg (by dsimp only; omega)] at hcc
  dsimp only at hcc
  rw [Nat.add_sub_cancel] at hcc
  obtain ⟨hq, cell, q1, q2, q3, q4⟩ := hcc
  have hall := gCl_all ci _ hc
  have hK := hC.2.2.2.2.2.2.2.2.1
  have hap := va_apart (own := C) hts hall.2.2.1 (gFy ci) hall.2.1 hall.1 hK hc
  obtain ⟨hSl, hfc, kC, hkC, hkind⟩ := hK.1 ci _ hc
  obtain ⟨cf, kf, fi, f, hi, hsl⟩ := hSl k hk
  have hlay := hts _ (hall.2.2.1 _ (u_in_lay hk))
  unfold u_lay at hlay
  rw [if_neg (by rw [hfin]; decide)] at hlay
  have hst := (u_facts hfc hkC (u_lays hts hall.2.2.1 hk) hi).1
  have h6 := u_store hfc hkC hkind hlay hi (hall.2.1 k hk) hn hfit
  rw [gR_ref G (by omega)]
  rw [hT] at hi
  refine W.putK hC.1 hC.2.1 (f := f) ⟨hC.2.2.2.2.1, hts _ hw, ⟨_, _, _, hi⟩, hst⟩ (by rw [q2]; exact h6) q1 q3 (by rw [hsl]; exact k2_hasslot (q4 k hk)) rfl rfl hd fun H' e1 e2 e3 => ?_
  rw [hsl] at e1 ⊢
  refine kk p e s m args below meth c H' _ ls hC ((gS_t hS).put e2 e3 (gA_pos h1)) (hR.up e2 e3 h1 ?_ (by rw [hs]; exact hr)) hL
  unfold gCe
  rw [hs, if_neg (by dsimp only; omega)]
  dsimp only
  rw [Nat.add_sub_cancel]
  refine ⟨hq, t_OB.to (V := updV (gVal G X M a) k (gV G (gFk ci k) x 0)) ⟨_, e1, q2, q3, t_set q4 hap hk _⟩ (fun j _ => ?_)⟩
  unfold updV gVal gUp
  rw [hs]
  by_cases ej : j = k
  · subst ej
    simp only [if_true, and_self]
    show _ = gV G (gFk ci j) x (X.2.2 a j)
    unfold gV
    split <;> first | rfl | (next h => exact absurd h hk2)
  · simp only [ej, if_false, and_false]
theorem wp_putr {a k N ci index r : Nat} {C : String} {T : u_T} (hd : decode y.2.1 pc = .ok (.putfield index, 3)) (hc : gCl[ci]? = some (C, T, N)) (hk : k < N) (hT : (T k).1 = C) (hw : Cond.fieldLink y.1.cls index C (T k).2.1 (T k).2.2.1 ∈ gTb) (h1 : 1 ≤ a) (h2 : a ≤ X.1) (hs : X.2.1 a = (ci + 6, N)) (hfin : (T k).2.2.2 = false)
    (hn : narrow (gFy ci k) (gR G r) = gR G r) (hfit : fits (gFy ci k) (gR G r) = true) (hk2 : gFk ci k = 2) (kk : wp l G y rm fr K true (pc + 3) L st (gGu X a k r) M cs ss) : wp l G y rm fr K md pc L (gR G r :: gR G a :: st) X M cs ss := by
  intro p e s m args below meth c H locs ls hC hS hR hL
  have hts : ∀ w ∈ gTb, w.before args s = true := fun w h => hC.2.2.2.2.2.1 w h
  have hcc := (hR.2.2 a h1 h2).1
  unfold gCe at hcc
  rw [hs, if_neg (by dsimp only; omega)] at hcc
  dsimp only at hcc
  rw [Nat.add_sub_cancel] at hcc
  obtain ⟨hq, cell, q1, q2, q3, q4⟩ := hcc
  have hall := gCl_all ci _ hc
  have hK := hC.2.2.2.2.2.2.2.2.1
  have hap := va_apart (own := C) hts hall.2.2.1 (gFy ci) hall.2.1 hall.1 hK hc
  obtain ⟨hSl, hfc, kC, hkC, hkind⟩ := hK.1 ci _ hc
  obtain ⟨cf, kf, fi, f, hi, hsl⟩ := hSl k hk
  have hlay := hts _ (hall.2.2.1 _ (u_in_lay hk))
  unfold u_lay at hlay
  rw [if_neg (by rw [hfin]; decide)] at hlay
  have hst := (u_facts hfc hkC (u_lays hts hall.2.2.1 hk) hi).1
  have h6 := u_store hfc hkC hkind hlay hi (hall.2.1 k hk) hn hfit
  rw [gR_ref G (r := a) (by omega)]
  rw [hT] at hi
  refine W.putK hC.1 hC.2.1 (f := f) ⟨hC.2.2.2.2.1, hts _ hw, ⟨_, _, _, hi⟩, hst⟩ (by rw [q2]; exact h6) q1 q3 (by rw [hsl]; exact k2_hasslot (q4 k hk)) rfl rfl hd fun H' e1 e2 e3 => ?_
  rw [hsl] at e1 ⊢
  refine kk p e s m args below meth c H' _ ls hC ((gS_t hS).put e2 e3 (gA_pos h1)) (hR.gu e2 e3 h1 ?_) hL
  unfold gCe
  rw [show (gGu X a k r).2.1 a = (ci + 6, N) from hs, if_neg (by dsimp only; omega)]
  dsimp only
  rw [Nat.add_sub_cancel]
  refine ⟨hq, t_OB.to (V := updV (gVal G X M a) k (gR G r)) ⟨_, e1, q2, q3, t_set q4 hap hk _⟩ (fun j _ => ?_)⟩
  unfold updV gVal
  rw [show (gGu X a k r).2.1 a = (ci + 6, N) from hs, hs]
  unfold gGu
  by_cases ej : j = k
  · subst ej
    simp only [if_true, and_self]
    show _ = gV G (gFk ci j) (M a j) r
    rw [hk2]
    rfl
  · simp only [ej, if_false, and_false]
theorem wp_putFr {a k N ci index r : Nat} {C : String} {T : u_T} (hd : decode y.2.1 pc = .ok (.putfield index, 3)) (hc : gCl[ci]? = some (C, T, N)) (hk : k < N) (hT : (T k).1 = C) (hw : Cond.fieldLink y.1.cls index C (T k).2.1 (T k).2.2.1 ∈ gTb) (h1 : 1 ≤ a) (h2 : a ≤ X.1) (hs : X.2.1 a = (ci + 6, N)) (hfin : (T k).2.2.2 = true) (hin : y.1.name = "<init>") (hown : y.1.cls = C)
    (hn : narrow (gFy ci k) (gR G r) = gR G r) (hfit : fits (gFy ci k) (gR G r) = true) (hk2 : gFk ci k = 2) (kk : wp l G y rm fr K true (pc + 3) L st (gGu X a k r) M cs ss) : wp l G y rm fr K md pc L (gR G r :: gR G a :: st) X M cs ss := by
  intro p e s m args below meth c H locs ls hC hS hR hL
  have hts : ∀ w ∈ gTb, w.before args s = true := fun w h => hC.2.2.2.2.2.1 w h
  have hcc := (hR.2.2 a h1 h2).1
  unfold gCe at hcc
  rw [hs, if_neg (by dsimp only; omega)] at hcc
  dsimp only at hcc
  rw [Nat.add_sub_cancel] at hcc
  obtain ⟨hq, cell, q1, q2, q3, q4⟩ := hcc
  have hall := gCl_all ci _ hc
  have hK := hC.2.2.2.2.2.2.2.2.1
  have hap := va_apart (own := C) hts hall.2.2.1 (gFy ci) hall.2.1 hall.1 hK hc
  obtain ⟨hSl, hfc, kC, hkC, hkind⟩ := hK.1 ci _ hc
  obtain ⟨cf, kf, fi, f, hi, hsl⟩ := hSl k hk
  have hlay := hts _ (hall.2.2.1 _ (u_in_lay hk))
  unfold u_lay at hlay
  rw [if_pos hfin] at hlay
  have hst := (u_facts hfc hkC (u_lays hts hall.2.2.1 hk) hi).1
  have hcf : m.cls = cf := by
    obtain ⟨_, _, c', _, _, _, -, -, hf', -, -, -, hown2, -⟩ := Cond.laysFinal_spec hlay
    have e1 : c' = cf := by have := hi.symm.trans hf'; simp at this; exact this.1.symm
    rw [hT, ← hown] at hown2
    rw [← e1]; exact Option.some.inj (hC.2.2.2.2.1.symm.trans hown2)
  have h6 := u_fits hfc hkC hkind (Or.inr hlay) hi (hall.2.1 k hk) hn hfit
  rw [gR_ref G (r := a) (by omega)]
  rw [hT] at hi
  refine W.putFinK hC.1 hC.2.1 hC.2.2.2.2.1 (hts _ hw) hi hst hcf (hC.2.2.2.2.2.2.2.1.trans hin) (by rw [q2]; exact h6) q1 q3 (by rw [hsl]; exact k2_hasslot (q4 k hk)) rfl rfl hd fun H' e1 e2 e3 => ?_
  rw [hsl] at e1 ⊢
  refine kk p e s m args below meth c H' _ ls hC ((gS_t hS).put e2 e3 (gA_pos h1)) (hR.gu e2 e3 h1 ?_) hL
  unfold gCe
  rw [show (gGu X a k r).2.1 a = (ci + 6, N) from hs, if_neg (by dsimp only; omega)]
  dsimp only
  rw [Nat.add_sub_cancel]
  refine ⟨hq, t_OB.to (V := updV (gVal G X M a) k (gR G r)) ⟨_, e1, q2, q3, t_set q4 hap hk _⟩ (fun j _ => ?_)⟩
  unfold updV gVal
  rw [show (gGu X a k r).2.1 a = (ci + 6, N) from hs, hs]
  unfold gGu
  by_cases ej : j = k
  · subst ej
    simp only [if_true, and_self]
    show _ = gV G (gFk ci j) (M a j) r
    rw [hk2]
    rfl
  · simp only [ej, if_false, and_false]
end gMem
