/-! Rows of arrays, and of new cells, over wp. -/
theorem g_clamp {i : Int} (hg : g32 i) (h0 : 0 ≤ i) : (Int32.ofInt i).toNatClampNeg = i.toNat := by
  rw [← Int32.toNat_toInt, g32_toInt hg]
theorem g_in {i : Int} {n : Nat} (hg : g32 i) (h0 : 0 ≤ i) (hi : i < (n : Int)) : ¬ (Int32.ofInt i < 0 ∨ n ≤ (Int32.ofInt i).toNatClampNeg) := by
  rw [g_clamp hg h0, gz32, g32_lt hg g32_0]
  omega
theorem gTy_at (G : gG) {t : Nat} (h : t < 6) : (gTy G)[t]? = some (G.2.1 t, gFt t) := by
  match t, h with
  | 0, _ => rfl
  | 1, _ => rfl
  | 2, _ => rfl
  | 3, _ => rfl
  | 4, _ => rfl
  | 5, _ => rfl
section gArr
variable {l : Launch} {G : gG} {y : gMt} {rm : Room} {fr md : Bool} {K : Outcome → gX → gM → Prop} {pc : Nat} {L L' : List Slot} {st : List Value} {X : gX} {M : gM} {cs ss : Nat}
theorem gCe.arr {a t n : Nat} {H : Heap} (h : gCe G X M a H) (hs : X.2.1 a = (t, n)) (ht : t < 6) : H[G.2.2.1 + a]? = some (arrV (G.2.1 t) n (gVal G X M a)) := by
  unfold gCe at h
  rw [hs, if_pos ht] at h
  exact h
theorem wp_iaload {a n : Nat} {i : Int} (hd : decode y.2.1 pc = .ok (.iaload, 1)) (h1 : 1 ≤ a) (h2 : a ≤ X.1) (hs : X.2.1 a = (0, n)) (hg : g32 i) (h0 : 0 ≤ i) (hi : i < (n : Int)) (kk : g32 (M a i.toNat) → wp l G y rm fr K md (pc + 1) L (gI (M a i.toNat) :: st) X M cs ss) : wp l G y rm fr K md pc L (gI i :: gR G a :: st) X M cs ss := by
  intro p e s m args below meth c H locs ls hC hS hR hL
  have hcc := (hR.2.2 a h1 h2).1.arr hs (by omega)
  have hrr := (hR.2.2 a h1 h2).2 i.toNat (by rw [hs]; dsimp only; omega)
  rw [hs] at hrr
  rw [gR_ref G (by omega)]
  refine W.iald (v := gI (M a i.toNat)) hC.1 hC.2.1 hcc ((hC.2.2.2.2.2.2.2.2.1.2 0 _ (gTy_at G (by omega))).1 n _) (fun q => by cases q) (by rw [arrV_size]; exact g_in hg h0 hi) ?_ rfl rfl hd (kk hrr p e s m args below meth c H locs ls hC hS hR hL)
  rw [g_clamp hg h0, arrV_read _ _ (by omega)]
  unfold gVal
  rw [hs]
  rfl
theorem wp_laload {a n : Nat} {i : Int} (hd : decode y.2.1 pc = .ok (.laload, 1)) (h1 : 1 ≤ a) (h2 : a ≤ X.1) (hs : X.2.1 a = (1, n)) (hg : g32 i) (h0 : 0 ≤ i) (hi : i < (n : Int)) (kk : g64 (M a i.toNat) → wp l G y rm fr K md (pc + 1) L (gL (M a i.toNat) :: st) X M cs ss) : wp l G y rm fr K md pc L (gI i :: gR G a :: st) X M cs ss := by
  intro p e s m args below meth c H locs ls hC hS hR hL
  have hcc := (hR.2.2 a h1 h2).1.arr hs (by omega)
  have hrr := (hR.2.2 a h1 h2).2 i.toNat (by rw [hs]; dsimp only; omega)
  rw [hs] at hrr
  rw [gR_ref G (by omega)]
  refine W.lald (v := gL (M a i.toNat)) hC.1 hC.2.1 hcc ((hC.2.2.2.2.2.2.2.2.1.2 1 _ (gTy_at G (by omega))).1 n _) (fun q => by cases q) (by rw [arrV_size]; exact g_in hg h0 hi) ?_ rfl rfl hd (kk hrr p e s m args below meth c H locs ls hC hS hR hL)
  rw [g_clamp hg h0, arrV_read _ _ (by omega)]
  unfold gVal
  rw [hs]
  rfl
theorem wp_baload {a n : Nat} {i : Int} (hd : decode y.2.1 pc = .ok (.baload, 1)) (h1 : 1 ≤ a) (h2 : a ≤ X.1) (hs : X.2.1 a = (2, n)) (hg : g32 i) (h0 : 0 ≤ i) (hi : i < (n : Int)) (kk : (-128 ≤ M a i.toNat ∧ M a i.toNat < 128) → wp l G y rm fr K md (pc + 1) L (gI (M a i.toNat) :: st) X M cs ss) : wp l G y rm fr K md pc L (gI i :: gR G a :: st) X M cs ss := by
  intro p e s m args below meth c H locs ls hC hS hR hL
  have hcc := (hR.2.2 a h1 h2).1.arr hs (by omega)
  have hrr := (hR.2.2 a h1 h2).2 i.toNat (by rw [hs]; dsimp only; omega)
  rw [hs] at hrr
  rw [gR_ref G (by omega)]
  refine W.bald (v := gI (M a i.toNat)) hC.1 hC.2.1 hcc ((hC.2.2.2.2.2.2.2.2.1.2 2 _ (gTy_at G (by omega))).1 n _) (fun q => by cases q) (by rw [arrV_size]; exact g_in hg h0 hi) ?_ rfl rfl hd (kk hrr p e s m args below meth c H locs ls hC hS hR hL)
  rw [g_clamp hg h0, arrV_read _ _ (by omega)]
  unfold gVal
  rw [hs]
  rfl
theorem wp_zaload {a n : Nat} {i : Int} (hd : decode y.2.1 pc = .ok (.baload, 1)) (h1 : 1 ≤ a) (h2 : a ≤ X.1) (hs : X.2.1 a = (3, n)) (hg : g32 i) (h0 : 0 ≤ i) (hi : i < (n : Int)) (kk : (0 ≤ M a i.toNat ∧ M a i.toNat ≤ 1) → wp l G y rm fr K md (pc + 1) L (gI (M a i.toNat) :: st) X M cs ss) : wp l G y rm fr K md pc L (gI i :: gR G a :: st) X M cs ss := by
  intro p e s m args below meth c H locs ls hC hS hR hL
  have hcc := (hR.2.2 a h1 h2).1.arr hs (by omega)
  have hrr := (hR.2.2 a h1 h2).2 i.toNat (by rw [hs]; dsimp only; omega)
  rw [hs] at hrr
  rw [gR_ref G (by omega)]
  refine W.zald (v := gI (M a i.toNat)) hC.1 hC.2.1 hcc ((hC.2.2.2.2.2.2.2.2.1.2 3 _ (gTy_at G (by omega))).1 n _) (fun q => by cases q) (by rw [arrV_size]; exact g_in hg h0 hi) ?_ rfl rfl hd (kk hrr p e s m args below meth c H locs ls hC hS hR hL)
  rw [g_clamp hg h0, arrV_read _ _ (by omega)]
  unfold gVal
  rw [hs]
  rfl
theorem wp_aaload {a n t : Nat} {i : Int} (hd : decode y.2.1 pc = .ok (.aaload, 1)) (ht : t = 4 ∨ t = 5) (h1 : 1 ≤ a) (h2 : a ≤ X.1) (hs : X.2.1 a = (t, n)) (hg : g32 i) (h0 : 0 ≤ i) (hi : i < (n : Int)) (kk : wp l G y rm fr K md (pc + 1) L (gR G (X.2.2 a i.toNat) :: st) X M cs ss) : wp l G y rm fr K md pc L (gI i :: gR G a :: st) X M cs ss := by
  intro p e s m args below meth c H locs ls hC hS hR hL
  have ht6 : t < 6 := by omega
  have hcc := (hR.2.2 a h1 h2).1.arr hs ht6
  rw [gR_ref G (by omega)]
  refine W.aald (v := gR G (X.2.2 a i.toNat)) (ty := gFt t) hC.1 hC.2.1 hcc ((hC.2.2.2.2.2.2.2.2.1.2 t _ (gTy_at G ht6)).1 n _) (by rcases ht with rfl | rfl <;> rfl) (fun q => by cases q) (by rw [arrV_size]; exact g_in hg h0 hi) ?_ rfl rfl hd (kk p e s m args below meth c H locs ls hC hS hR hL)
  rw [g_clamp hg h0, arrV_read _ _ (by omega)]
  unfold gVal
  rw [hs]
  rcases ht with rfl | rfl <;> rfl
/-- an array's cell behind a store -/
theorem gCe.set {a n t k : Nat} {x : Int} {H1 : Heap} (hs : X.2.1 a = (t, n)) (ht : t < 6) (hk2 : gKd t k ≠ 2) (hk : k < n) (e : H1[G.2.2.1 + a]? = some (arrV (G.2.1 t) n (updV (gVal G X M a) k (gV G (gKd t k) x 0)))) : gCe G X (gUp M a k x) a H1 := by
  unfold gCe
  rw [hs, if_pos ht, e]
  congr 2
  funext j
  unfold updV gVal gUp
  rw [hs]
  by_cases ej : j = k
  · subst ej
    simp only [if_true, and_self]
    unfold gV
    split <;> first | rfl | (next h => exact absurd h hk2)
  · simp only [ej, if_false, and_false]
theorem wp_iastore {a n : Nat} {i x : Int} (hd : decode y.2.1 pc = .ok (.iastore, 1)) (h1 : 1 ≤ a) (h2 : a ≤ X.1) (hs : X.2.1 a = (0, n)) (hg : g32 i) (h0 : 0 ≤ i) (hi : i < (n : Int)) (hx : g32 x) (kk : wp l G y rm fr K true (pc + 1) L st X (gUp M a i.toNat (x)) cs ss) : wp l G y rm fr K md pc L (gI x :: gI i :: gR G a :: st) X M cs ss := by
  intro p e s m args below meth c H locs ls hC hS hR hL
  have hcc := (hR.2.2 a h1 h2).1.arr hs (by omega)
  rw [gR_ref G (by omega)]
  refine W.iast hC.1 hC.2.1 hcc ((hC.2.2.2.2.2.2.2.2.1.2 0 _ (gTy_at G (by omega))).1 n _) (fun q => by cases q) (by rw [arrV_size]; exact g_in hg h0 hi) rfl rfl hd fun H1 e1 z oq => ?_
  rw [arrV_store, g_clamp hg h0] at e1
  exact kk p e s m args below meth c H1 _ ls hC ((gS_t hS).put z oq (gA_pos h1)) (hR.up z oq h1 (gCe.set hs (by omega) (show (0 : Nat) ≠ 2 by decide) (by omega) e1) (by rw [hs]; exact hx)) hL
theorem wp_lastore {a n : Nat} {i x : Int} (hd : decode y.2.1 pc = .ok (.lastore, 1)) (h1 : 1 ≤ a) (h2 : a ≤ X.1) (hs : X.2.1 a = (1, n)) (hg : g32 i) (h0 : 0 ≤ i) (hi : i < (n : Int)) (hx : g64 x) (kk : wp l G y rm fr K true (pc + 1) L st X (gUp M a i.toNat (x)) cs ss) : wp l G y rm fr K md pc L (gL x :: gI i :: gR G a :: st) X M cs ss := by
  intro p e s m args below meth c H locs ls hC hS hR hL
  have hcc := (hR.2.2 a h1 h2).1.arr hs (by omega)
  rw [gR_ref G (by omega)]
  refine W.last hC.1 hC.2.1 hcc ((hC.2.2.2.2.2.2.2.2.1.2 1 _ (gTy_at G (by omega))).1 n _) (fun q => by cases q) (by rw [arrV_size]; exact g_in hg h0 hi) rfl rfl hd fun H1 e1 z oq => ?_
  rw [arrV_store, g_clamp hg h0] at e1
  exact kk p e s m args below meth c H1 _ ls hC ((gS_t hS).put z oq (gA_pos h1)) (hR.up z oq h1 (gCe.set hs (by omega) (show (1 : Nat) ≠ 2 by decide) (by omega) e1) (by rw [hs]; exact hx)) hL
theorem wp_bastore {a n : Nat} {i x : Int} (hd : decode y.2.1 pc = .ok (.bastore, 1)) (h1 : 1 ≤ a) (h2 : a ≤ X.1) (hs : X.2.1 a = (2, n)) (hg : g32 i) (h0 : 0 ≤ i) (hi : i < (n : Int)) (kk : wp l G y rm fr K true (pc + 1) L st X (gUp M a i.toNat (gByte x)) cs ss) : wp l G y rm fr K md pc L (gI x :: gI i :: gR G a :: st) X M cs ss := by
  intro p e s m args below meth c H locs ls hC hS hR hL
  have hcc := (hR.2.2 a h1 h2).1.arr hs (by omega)
  rw [gR_ref G (by omega)]
  refine W.bast hC.1 hC.2.1 hcc ((hC.2.2.2.2.2.2.2.2.1.2 2 _ (gTy_at G (by omega))).1 n _) (fun q => by cases q) (by rw [arrV_size]; exact g_in hg h0 hi) rfl rfl hd fun H1 e1 z oq => ?_
  rw [arrV_store, g_clamp hg h0] at e1
  rw [show narrow .byte (Value.int (Int32.ofInt x)) = gI (gByte x) from congrArg _ (gByte_val x)] at e1
  exact kk p e s m args below meth c H1 _ ls hC ((gS_t hS).put z oq (gA_pos h1)) (hR.up z oq h1 (gCe.set hs (by omega) (show (3 : Nat) ≠ 2 by decide) (by omega) e1) (by rw [hs]; exact gByte_ok x)) hL
theorem wp_zastore {a n : Nat} {i x : Int} (hd : decode y.2.1 pc = .ok (.bastore, 1)) (h1 : 1 ≤ a) (h2 : a ≤ X.1) (hs : X.2.1 a = (3, n)) (hg : g32 i) (h0 : 0 ≤ i) (hi : i < (n : Int)) (hx : 0 ≤ x ∧ x ≤ 1) (kk : wp l G y rm fr K true (pc + 1) L st X (gUp M a i.toNat (x)) cs ss) : wp l G y rm fr K md pc L (gI x :: gI i :: gR G a :: st) X M cs ss := by
  intro p e s m args below meth c H locs ls hC hS hR hL
  have hcc := (hR.2.2 a h1 h2).1.arr hs (by omega)
  rw [gR_ref G (by omega)]
  refine W.zast hC.1 hC.2.1 hcc ((hC.2.2.2.2.2.2.2.2.1.2 3 _ (gTy_at G (by omega))).1 n _) (fun q => by cases q) (by rw [arrV_size]; exact g_in hg h0 hi) rfl rfl hd fun H1 e1 z oq => ?_
  rw [arrV_store, g_clamp hg h0] at e1
  rw [show narrow .boolean (Value.int (Int32.ofInt x)) = gI x from g_narz hx] at e1
  exact kk p e s m args below meth c H1 _ ls hC ((gS_t hS).put z oq (gA_pos h1)) (hR.up z oq h1 (gCe.set hs (by omega) (show (4 : Nat) ≠ 2 by decide) (by omega) e1) (by rw [hs]; exact hx)) hL
theorem wp_aastore {a n v : Nat} {i : Int} (hd : decode y.2.1 pc = .ok (.aastore, 1)) (h1 : 1 ≤ a) (h2 : a ≤ X.1) (hs : X.2.1 a = (5, n)) (hg : g32 i) (h0 : 0 ≤ i) (hi : i < (n : Int)) (v1 : 1 ≤ v) (v2 : v ≤ X.1) {N : Nat} (hvs : X.2.1 v = (15, N)) (kk : wp l G y rm fr K true (pc + 1) L st (gGu X a i.toNat v) M cs ss) : wp l G y rm fr K md pc L (gR G v :: gI i :: gR G a :: st) X M cs ss := by
  intro p e s m args below meth c H locs ls hC hS hR hL
  have hcc := (hR.2.2 a h1 h2).1.arr hs (by omega)
  have hvc := (hR.2.2 v v1 v2).1
  unfold gCe at hvc
  rw [hvs, if_neg (by dsimp only; omega)] at hvc
  dsimp only at hvc
  obtain ⟨-, cellV, g1, g2, g3, -⟩ := hvc
  have hK := hC.2.2.2.2.2.2.2.2.1
  have hcls := (hK.1 9 _ (show gCl[9]? = some ("GridLedger$State", gT_St, 5) from rfl)).2
  obtain ⟨kA, comp, k1, k2, k3, -⟩ := (hK.2 5 _ (gTy_at G (by omega))).2
  have hcomp : comp = G.1.1 9 := Option.some.inj (k3.symm.trans hcls.1)
  subst hcomp
  obtain ⟨kC, hkC, -⟩ := hcls.2
  have hin := g_in hg h0 hi
  rw [gR_ref G (r := a) (by omega), gR_ref G (r := v) (by omega)]
  refine W.aast hC.1 hC.2.1 hcc (fun q h => by cases h) (fun h => by cases h) k1 k2 rfl hkC ⟨fun q => hin (Or.inl q), by rw [arrV_size]; exact Nat.not_le.mp fun q => hin (Or.inr q)⟩ g1 (fun q h => by rw [g3] at h; cases h) (by rw [g2]; exact hkC) (by rw [g2]; exact va_assign hcls) rfl rfl hd fun H1 e1 z oq => ?_
  rw [arrV_store, g_clamp hg h0] at e1
  refine kk p e s m args below meth c H1 _ ls hC ((gS_t hS).put z oq (gA_pos h1)) (hR.gu z oq h1 ?_) hL
  unfold gCe
  rw [show (gGu X a i.toNat v).2.1 a = (5, n) from hs, if_pos (by dsimp only; omega), e1]
  dsimp only
  congr 2
  funext j
  unfold updV gVal
  rw [show (gGu X a i.toNat v).2.1 a = (5, n) from hs, hs]
  unfold gGu
  by_cases ej : j = i.toNat
  · subst ej
    simp only [if_true, and_self]
    exact (gR_ref G (by omega)).symm
  · simp only [ej, if_false, and_false]
theorem g_size {G : gG} {X : gX} {M : gM} {H : Heap} (h : gRep G X M H) : (Value.ref H.size) = gR G (X.1 + 1) := by
  rw [gR_ref G (by omega), h.1]
  have e : G.2.2.1 + 1 + X.1 = G.2.2.1 + (X.1 + 1) := by omega
  rw [e]
theorem gS_nw {s : State} {H H1 : Heap} {locs : List Loc} (hS : va_S (gA G true) s.heap H locs) (z : H1.size = H.size + 1) (oq : ∀ q, q < H.size → H1[q]? = H[q]?) : va_S (gA G true) s.heap H1 locs :=
  ⟨Nat.le_trans hS.1 (by omega), fun x h1 h2 => (oq x (Nat.lt_of_lt_of_le h1 hS.1)).trans (hS.2.1 x h1 h2), hS.2.2⟩
theorem wp_new {ci N index : Nat} {C : String} {T : u_T} (hd : decode y.2.1 pc = .ok (.new index, 3)) (hc : gCl[ci]? = some (C, T, N)) (hw : Cond.classLink y.1.cls index C ∈ gTb) (hi : Cond.instantiable C N ∈ gTb) (hini : Cond.initialized C ∈ gTb) (hcs : cs + 1 ≤ rm.cells) (hss : ss + N ≤ rm.slots)
    (kk : wp l G y rm fr K true (pc + 3) L (gR G (X.1 + 1) :: st) (gNw X (ci + 6, N)) (gZr M (X.1 + 1)) (cs + 1) (ss + N)) : wp l G y rm fr K md pc L st X M cs ss := by
  intro p e s m args below meth c H locs ls hC hS hR hL
  have hts : ∀ w ∈ gTb, w.before args s = true := fun w h => hC.2.2.2.2.2.1 w h
  have hKn := hC.2.2.2.2.2.2.2.2.1.1 ci _ hc
  have hall := gCl_all ci _ hc
  refine W.newcK hC.1 hC.2.1 hC.2.2.2.2.1 (hts _ hw) (hts _ hi) (hts _ hini) rfl hd hcs hss hKn.2.1 rfl fun H1 kC hkC e1 z1 o1 => ?_
  have hb := u_born (gFy ci) hts hall.2.2.1 hKn hkC e1 hall.2.1
  rw [g_size hR]
  refine kk p e s m args below meth c H1 locs ls hC (gS_nw (gS_t hS) z1 o1) (hR.nw z1 o1 ?_) hL
  unfold gCe
  rw [show (gNw X (ci + 6, N)).2.1 (X.1 + 1) = (ci + 6, N) from if_pos rfl, if_neg (by dsimp only; omega)]
  dsimp only
  rw [Nat.add_sub_cancel]
  refine ⟨⟨_, hc, rfl⟩, ?_⟩
  have hz : G.2.2.1 + (X.1 + 1) = H.size := by rw [hR.1]; omega
  rw [hz]
  refine hb.to fun k hk => ?_
  rw [hall.2.2.2 k hk]
  unfold gVal
  rw [show (gNw X (ci + 6, N)).2.1 (X.1 + 1) = (ci + 6, N) from if_pos rfl]
  unfold gZr gNw
  dsimp only
  rw [if_pos rfl, if_pos rfl]
  show _ = gV G (gFk ci k) 0 0
  generalize gFk ci k = t
  match t with
  | 0 => rfl
  | 1 => rfl
  | 2 => rfl
  | t + 3 => rfl
theorem wp_newarray {n : Int} {N t : Nat} {at' : ArrayType} (hd : decode y.2.1 pc = .ok (.newarray at', 2)) (ht : t < 4) (hty : newarray.typeOf at' = gFt t) (hw : Cond.arrayClass (gFt t) ∈ gTb) (hn : n = (N : Int)) (hN : N ≤ 8000000) (hcs : cs + 1 ≤ rm.cells) (hss : ss + N ≤ rm.slots)
    (kk : wp l G y rm fr K true (pc + 2) L (gR G (X.1 + 1) :: st) (gNw X (t, N)) (gZr M (X.1 + 1)) (cs + 1) (ss + N)) : wp l G y rm fr K md pc L (gI n :: st) X M cs ss := by
  intro p e s m args below meth c H locs ls hC hS hR hL
  have hts : ∀ w ∈ gTb, w.before args s = true := fun w h => hC.2.2.2.2.2.1 w h
  have hg : g32 n := by unfold g32; omega
  have hb8 : componentBytes (gFt t) ≤ 8 := by
    have : t = 0 ∨ t = 1 ∨ t = 2 ∨ t = 3 := by omega
    rcases this with rfl | rfl | rfl | rfl <;> decide
  have h8 : N * componentBytes (gFt t) ≤ 536870912 := Nat.le_trans (Nat.mul_le_mul hN hb8) (by decide)
  refine va_newaK hC.1 hC.2.1 (by rw [hty]; exact hts _ hw) rfl hd rfl (by rw [gz32, g32_lt hg g32_0]; omega) (by rw [g_clamp hg (by omega)]; omega) (by rw [hty]; exact h8) hcs hss rfl fun H1 cA e1 z1 o1 hAr hNm => ?_
  rw [hty] at hNm e1
  have hcA : cA = G.2.1 t := by
    have h9 := (hC.2.2.2.2.2.2.2.2.1.2 t _ (gTy_at G (by omega))).2
    have : t = 0 ∨ t = 1 ∨ t = 2 ∨ t = 3 := by omega
    rcases this with rfl | rfl | rfl | rfl <;> exact Option.some.inj (hNm.symm.trans h9)
  subst hcA
  rw [g_size hR]
  refine kk p e s m args below meth c H1 locs ls hC (gS_nw (gS_t hS) z1 o1) (hR.nw z1 o1 ?_) hL
  unfold gCe
  rw [show (gNw X (t, N)).2.1 (X.1 + 1) = (t, N) from if_pos rfl, if_pos (by dsimp only; omega)]
  have hz : G.2.2.1 + (X.1 + 1) = H.size := by rw [hR.1]; omega
  rw [hz, e1]
  dsimp only
  congr 2
  funext k
  unfold gVal
  rw [show (gNw X (t, N)).2.1 (X.1 + 1) = (t, N) from if_pos rfl]
  unfold gZr gNw
  dsimp only
  rw [if_pos rfl, if_pos rfl]
  have : t = 0 ∨ t = 1 ∨ t = 2 ∨ t = 3 := by omega
  rcases this with rfl | rfl | rfl | rfl <;> rfl
end gArr
