/-! The rows as the generated walks use them: where a number's range isn't known, w32 (w64) of it stands; contracts of methods that leave the graph as it is. -/
theorem g32_c {x : Int} (h : (decide (-2147483648 ≤ x) && decide (x < 2147483648)) = true) : g32 x := by
  simp only [Bool.and_eq_true, decide_eq_true_eq] at h
  exact h
theorem g64_c {x : Int} (h : (decide (-9223372036854775808 ≤ x) && decide (x < 9223372036854775808)) = true) : g64 x := by
  simp only [Bool.and_eq_true, decide_eq_true_eq] at h
  exact h
theorem g32_b {x : Int} (h : -128 ≤ x ∧ x < 128) : g32 x := by unfold g32; omega
theorem g32_z {x : Int} (h : 0 ≤ x ∧ x ≤ 1) : g32 x := by unfold g32; omega
theorem g32_n {x : Int} {n : Nat} (h : 0 ≤ x ∧ x < (n : Int)) (hn : n ≤ 2147483648) : g32 x := by unfold g32; omega
theorem g64_32 {x : Int} (h : g32 x) : g64 x := by unfold g32 at h; unfold g64; omega
theorem gAnd_ok (a b : Int) : g32 (gAnd a b) := g32_of _
/-- fewer locals, or the same numbers wrapped -/
def gSub : List Slot → List Slot → Prop
  | [], _ => True
  | .val v :: L', .val w :: L => v = w ∧ gSub L' L
  | .val _ :: _, _ => False
  | .unset :: L', _ :: L => gSub L' L
  | .unset :: L', [] => gSub L' []
  | .second :: L', _ :: L => gSub L' L
  | .second :: L', [] => gSub L' []
theorem gSub.get : ∀ (L' L : List Slot), gSub L' L → ∀ (i : Nat) (v : Value), L'[i]? = some (.val v) → L[i]? = some (.val v)
  | [], _, _, i, v, h => by simp at h
  | .val w :: L', .val u :: L, hs, 0, v, h => by
    simp only [List.getElem?_cons_zero, Option.some.injEq, Slot.val.injEq] at h ⊢
    rw [← h]; exact hs.1.symm
  | .val w :: L', .val u :: L, hs, i + 1, v, h => by
    simp only [List.getElem?_cons_succ] at h ⊢
    exact gSub.get L' L hs.2 i v h
  | .val _ :: _, [], hs, _, _, _ => hs.elim
  | .val _ :: _, .unset :: _, hs, _, _, _ => hs.elim
  | .val _ :: _, .second :: _, hs, _, _, _ => hs.elim
  | .unset :: L', _ :: L, hs, 0, v, h => by simp at h
  | .unset :: L', _ :: L, hs, i + 1, v, h => by
    simp only [List.getElem?_cons_succ] at h ⊢
    exact gSub.get L' L hs i v h
  | .unset :: L', [], hs, 0, v, h => by simp at h
  | .unset :: L', [], hs, i + 1, v, h => by
    simp only [List.getElem?_cons_succ] at h
    have := gSub.get L' [] hs i v h
    simp at this
  | .second :: L', _ :: L, hs, 0, v, h => by simp at h
  | .second :: L', _ :: L, hs, i + 1, v, h => by
    simp only [List.getElem?_cons_succ] at h ⊢
    exact gSub.get L' L hs i v h
  | .second :: L', [], hs, 0, v, h => by simp at h
  | .second :: L', [], hs, i + 1, v, h => by
    simp only [List.getElem?_cons_succ] at h
    have := gSub.get L' [] hs i v h
    simp at this
section gRules2
variable {l : Launch} {G : gG} {y z : gMt} {rm rm' : Room} {fr md : Bool} {K : Outcome → gX → gM → Prop} {pc : Nat} {L L' : List Slot} {st st' : List Value} {X : gX} {M : gM} {cs ss : Nat}
theorem wp_st (h : st = st') (k : wp l G y rm fr K md pc L st' X M cs ss) : wp l G y rm fr K md pc L st X M cs ss := h ▸ k
theorem wp_to (h : gSub L' L) (k : wp l G y rm fr K md pc L' st X M cs ss) : wp l G y rm fr K md pc L st X M cs ss := wp_sub (gSub.get L' L h) k
theorem xi_eq {a b a' b' off : Int} {tgt : Nat} (hd : decode y.2.1 pc = .ok (.if_icmp .eq off, 3)) (ht : (pc : Int) + off = (tgt : Int)) (ha : w32 a = a') (hb : w32 b = b') (kt : a' = b' → wp l G y rm fr K md tgt L st X M cs ss) (kf : ¬ a' = b' → wp l G y rm fr K md (pc + 3) L st X M cs ss) : wp l G y rm fr K md pc L (gI b :: gI a :: st) X M cs ss := by
  subst ha; subst hb
  exact wp_st (st' := gI (w32 b) :: gI (w32 a) :: st) (by simp only [gI_w]) (wp_icmp_eq hd ht (w32_ok a) (w32_ok b) kt kf)
theorem xl_eq {a b a' b' off : Int} {tgt : Nat} (hd : decode y.2.1 pc = .ok (.lcmp, 1)) (hd2 : decode y.2.1 (pc + 1) = .ok (.ifCond .eq off, 3)) (ht : ((pc + 1 : Nat) : Int) + off = (tgt : Int)) (ha : w64 a = a') (hb : w64 b = b') (kt : a' = b' → wp l G y rm fr K md tgt L st X M cs ss) (kf : ¬ a' = b' → wp l G y rm fr K md (pc + 1 + 3) L st X M cs ss) : wp l G y rm fr K md pc L (gL b :: gL a :: st) X M cs ss := by
  subst ha; subst hb
  exact wp_st (st' := gL (w64 b) :: gL (w64 a) :: st) (by simp only [gL_w]) (wp_lcmp_eq hd hd2 ht (w64_ok a) (w64_ok b) kt kf)
theorem xi_ne {a b a' b' off : Int} {tgt : Nat} (hd : decode y.2.1 pc = .ok (.if_icmp .ne off, 3)) (ht : (pc : Int) + off = (tgt : Int)) (ha : w32 a = a') (hb : w32 b = b') (kt : ¬ a' = b' → wp l G y rm fr K md tgt L st X M cs ss) (kf : a' = b' → wp l G y rm fr K md (pc + 3) L st X M cs ss) : wp l G y rm fr K md pc L (gI b :: gI a :: st) X M cs ss := by
  subst ha; subst hb
  exact wp_st (st' := gI (w32 b) :: gI (w32 a) :: st) (by simp only [gI_w]) (wp_icmp_ne hd ht (w32_ok a) (w32_ok b) kt kf)
theorem xl_ne {a b a' b' off : Int} {tgt : Nat} (hd : decode y.2.1 pc = .ok (.lcmp, 1)) (hd2 : decode y.2.1 (pc + 1) = .ok (.ifCond .ne off, 3)) (ht : ((pc + 1 : Nat) : Int) + off = (tgt : Int)) (ha : w64 a = a') (hb : w64 b = b') (kt : ¬ a' = b' → wp l G y rm fr K md tgt L st X M cs ss) (kf : a' = b' → wp l G y rm fr K md (pc + 1 + 3) L st X M cs ss) : wp l G y rm fr K md pc L (gL b :: gL a :: st) X M cs ss := by
  subst ha; subst hb
  exact wp_st (st' := gL (w64 b) :: gL (w64 a) :: st) (by simp only [gL_w]) (wp_lcmp_ne hd hd2 ht (w64_ok a) (w64_ok b) kt kf)
theorem xi_lt {a b a' b' off : Int} {tgt : Nat} (hd : decode y.2.1 pc = .ok (.if_icmp .lt off, 3)) (ht : (pc : Int) + off = (tgt : Int)) (ha : w32 a = a') (hb : w32 b = b') (kt : a' < b' → wp l G y rm fr K md tgt L st X M cs ss) (kf : ¬ a' < b' → wp l G y rm fr K md (pc + 3) L st X M cs ss) : wp l G y rm fr K md pc L (gI b :: gI a :: st) X M cs ss := by
  subst ha; subst hb
  exact wp_st (st' := gI (w32 b) :: gI (w32 a) :: st) (by simp only [gI_w]) (wp_icmp_lt hd ht (w32_ok a) (w32_ok b) kt kf)
theorem xl_lt {a b a' b' off : Int} {tgt : Nat} (hd : decode y.2.1 pc = .ok (.lcmp, 1)) (hd2 : decode y.2.1 (pc + 1) = .ok (.ifCond .lt off, 3)) (ht : ((pc + 1 : Nat) : Int) + off = (tgt : Int)) (ha : w64 a = a') (hb : w64 b = b') (kt : a' < b' → wp l G y rm fr K md tgt L st X M cs ss) (kf : ¬ a' < b' → wp l G y rm fr K md (pc + 1 + 3) L st X M cs ss) : wp l G y rm fr K md pc L (gL b :: gL a :: st) X M cs ss := by
  subst ha; subst hb
  exact wp_st (st' := gL (w64 b) :: gL (w64 a) :: st) (by simp only [gL_w]) (wp_lcmp_lt hd hd2 ht (w64_ok a) (w64_ok b) kt kf)
theorem xi_ge {a b a' b' off : Int} {tgt : Nat} (hd : decode y.2.1 pc = .ok (.if_icmp .ge off, 3)) (ht : (pc : Int) + off = (tgt : Int)) (ha : w32 a = a') (hb : w32 b = b') (kt : b' ≤ a' → wp l G y rm fr K md tgt L st X M cs ss) (kf : ¬ b' ≤ a' → wp l G y rm fr K md (pc + 3) L st X M cs ss) : wp l G y rm fr K md pc L (gI b :: gI a :: st) X M cs ss := by
  subst ha; subst hb
  exact wp_st (st' := gI (w32 b) :: gI (w32 a) :: st) (by simp only [gI_w]) (wp_icmp_ge hd ht (w32_ok a) (w32_ok b) kt kf)
theorem xi_gt {a b a' b' off : Int} {tgt : Nat} (hd : decode y.2.1 pc = .ok (.if_icmp .gt off, 3)) (ht : (pc : Int) + off = (tgt : Int)) (ha : w32 a = a') (hb : w32 b = b') (kt : b' < a' → wp l G y rm fr K md tgt L st X M cs ss) (kf : ¬ b' < a' → wp l G y rm fr K md (pc + 3) L st X M cs ss) : wp l G y rm fr K md pc L (gI b :: gI a :: st) X M cs ss := by
  subst ha; subst hb
  exact wp_st (st' := gI (w32 b) :: gI (w32 a) :: st) (by simp only [gI_w]) (wp_icmp_gt hd ht (w32_ok a) (w32_ok b) kt kf)
theorem xi_le {a b a' b' off : Int} {tgt : Nat} (hd : decode y.2.1 pc = .ok (.if_icmp .le off, 3)) (ht : (pc : Int) + off = (tgt : Int)) (ha : w32 a = a') (hb : w32 b = b') (kt : a' ≤ b' → wp l G y rm fr K md tgt L st X M cs ss) (kf : ¬ a' ≤ b' → wp l G y rm fr K md (pc + 3) L st X M cs ss) : wp l G y rm fr K md pc L (gI b :: gI a :: st) X M cs ss := by
  subst ha; subst hb
  exact wp_st (st' := gI (w32 b) :: gI (w32 a) :: st) (by simp only [gI_w]) (wp_icmp_le hd ht (w32_ok a) (w32_ok b) kt kf)
theorem xz_eq {a a' off : Int} {tgt : Nat} (hd : decode y.2.1 pc = .ok (.ifCond .eq off, 3)) (ht : (pc : Int) + off = (tgt : Int)) (ha : w32 a = a') (kt : a' = 0 → wp l G y rm fr K md tgt L st X M cs ss) (kf : ¬ a' = 0 → wp l G y rm fr K md (pc + 3) L st X M cs ss) : wp l G y rm fr K md pc L (gI a :: st) X M cs ss := by
  subst ha
  exact wp_st (st' := gI (w32 a) :: st) (by simp only [gI_w]) (wp_if_eq hd ht (w32_ok a) kt kf)
theorem xz_ne {a a' off : Int} {tgt : Nat} (hd : decode y.2.1 pc = .ok (.ifCond .ne off, 3)) (ht : (pc : Int) + off = (tgt : Int)) (ha : w32 a = a') (kt : ¬ a' = 0 → wp l G y rm fr K md tgt L st X M cs ss) (kf : a' = 0 → wp l G y rm fr K md (pc + 3) L st X M cs ss) : wp l G y rm fr K md pc L (gI a :: st) X M cs ss := by
  subst ha
  exact wp_st (st' := gI (w32 a) :: st) (by simp only [gI_w]) (wp_if_ne hd ht (w32_ok a) kt kf)
theorem xz_lt {a a' off : Int} {tgt : Nat} (hd : decode y.2.1 pc = .ok (.ifCond .lt off, 3)) (ht : (pc : Int) + off = (tgt : Int)) (ha : w32 a = a') (kt : a' < 0 → wp l G y rm fr K md tgt L st X M cs ss) (kf : ¬ a' < 0 → wp l G y rm fr K md (pc + 3) L st X M cs ss) : wp l G y rm fr K md pc L (gI a :: st) X M cs ss := by
  subst ha
  exact wp_st (st' := gI (w32 a) :: st) (by simp only [gI_w]) (wp_if_lt hd ht (w32_ok a) kt kf)
theorem xz_ge {a a' off : Int} {tgt : Nat} (hd : decode y.2.1 pc = .ok (.ifCond .ge off, 3)) (ht : (pc : Int) + off = (tgt : Int)) (ha : w32 a = a') (kt : 0 ≤ a' → wp l G y rm fr K md tgt L st X M cs ss) (kf : ¬ 0 ≤ a' → wp l G y rm fr K md (pc + 3) L st X M cs ss) : wp l G y rm fr K md pc L (gI a :: st) X M cs ss := by
  subst ha
  exact wp_st (st' := gI (w32 a) :: st) (by simp only [gI_w]) (wp_if_ge hd ht (w32_ok a) kt kf)
theorem xz_le {a a' off : Int} {tgt : Nat} (hd : decode y.2.1 pc = .ok (.ifCond .le off, 3)) (ht : (pc : Int) + off = (tgt : Int)) (ha : w32 a = a') (kt : a' ≤ 0 → wp l G y rm fr K md tgt L st X M cs ss) (kf : ¬ a' ≤ 0 → wp l G y rm fr K md (pc + 3) L st X M cs ss) : wp l G y rm fr K md pc L (gI a :: st) X M cs ss := by
  subst ha
  exact wp_st (st' := gI (w32 a) :: st) (by simp only [gI_w]) (wp_if_le hd ht (w32_ok a) kt kf)
theorem xidiv {a b a' b' : Int} (hd : decode y.2.1 pc = .ok (.idiv, 1)) (ha : w32 a = a') (hb : w32 b = b') (h0 : b' ≠ 0) (k : wp l G y rm fr K md (pc + 1) L (gI (a'.tdiv b') :: st) X M cs ss) : wp l G y rm fr K md pc L (gI b :: gI a :: st) X M cs ss := by
  subst ha; subst hb
  exact wp_st (st' := gI (w32 b) :: gI (w32 a) :: st) (by simp only [gI_w]) (wp_idiv hd (w32_ok a) (w32_ok b) h0 k)
theorem xirem {a b a' b' : Int} (hd : decode y.2.1 pc = .ok (.irem, 1)) (ha : w32 a = a') (hb : w32 b = b') (h0 : b' ≠ 0) (k : wp l G y rm fr K md (pc + 1) L (gI (a'.tmod b') :: st) X M cs ss) : wp l G y rm fr K md pc L (gI b :: gI a :: st) X M cs ss := by
  subst ha; subst hb
  exact wp_st (st' := gI (w32 b) :: gI (w32 a) :: st) (by simp only [gI_w]) (wp_irem hd (w32_ok a) (w32_ok b) h0 k)
theorem xi2l {a a' : Int} (hd : decode y.2.1 pc = .ok (.i2l, 1)) (ha : w32 a = a') (k : wp l G y rm fr K md (pc + 1) L (gL a' :: st) X M cs ss) : wp l G y rm fr K md pc L (gI a :: st) X M cs ss := by
  subst ha
  exact wp_st (st' := gI (w32 a) :: st) (by simp only [gI_w]) (wp_i2l hd (w32_ok a) k)
theorem xtabIn {a a' dflt lo hi off : Int} {offs : Array Int} {len tgt : Nat} (hd : decode y.2.1 pc = .ok (.tableswitch dflt lo hi offs, len)) (ha : w32 a = a') (c : Int) (hc : a' = c) (h1 : (decide (lo ≤ c) && decide (c ≤ hi)) = true) (ho : offs[(c - lo).toNat]? = some off) (ht : (pc : Int) + off = (tgt : Int)) (k : wp l G y rm fr K md tgt L st X M cs ss) : wp l G y rm fr K md pc L (gI a :: st) X M cs ss := by
  subst ha; subst hc
  simp only [Bool.and_eq_true, decide_eq_true_eq] at h1
  exact wp_st (st' := gI (w32 a) :: st) (by simp only [gI_w]) (wp_tableIn hd (w32_ok a) h1.1 h1.2 ho ht k)
theorem xtabOut {a a' dflt lo hi : Int} {offs : Array Int} {len tgt : Nat} (hd : decode y.2.1 pc = .ok (.tableswitch dflt lo hi offs, len)) (ha : w32 a = a') (h : a' < lo ∨ hi < a') (ht : (pc : Int) + dflt = (tgt : Int)) (k : wp l G y rm fr K md tgt L st X M cs ss) : wp l G y rm fr K md pc L (gI a :: st) X M cs ss := by
  subst ha
  exact wp_st (st' := gI (w32 a) :: st) (by simp only [gI_w]) (wp_tableOut hd (w32_ok a) h ht k)
theorem xlook {a a' dflt off : Int} {ps : Array (Int × Int)} {len tgt : Nat} (hd : decode y.2.1 pc = .ok (.lookupswitch dflt ps, len)) (ha : w32 a = a') (hp : (ps.toList.zip (ps.toList.drop 1)).all (fun (a, next) => a.1 < next.1) = true) (ho : Op.lookupswitch.offset ps.toList dflt a' = off) (ht : (pc : Int) + off = (tgt : Int)) (k : wp l G y rm fr K md tgt L st X M cs ss) : wp l G y rm fr K md pc L (gI a :: st) X M cs ss := by
  subst ha
  exact wp_st (st' := gI (w32 a) :: st) (by simp only [gI_w]) (wp_lookup hd (w32_ok a) hp ho ht k)
theorem xgetI {a k N ci index : Nat} {C : String} {T : u_T} (hd : decode y.2.1 pc = .ok (.getfield index, 3)) (hc : gCl[ci]? = some (C, T, N)) (hk : k < N) (hT : (T k).1 = C) (hw : Cond.fieldLink y.1.cls index C (T k).2.1 (T k).2.2.1 ∈ gTb) (h1 : 1 ≤ a) (h2 : a ≤ X.1) (hs : X.2.1 a = (ci + 6, N)) (hk0 : gFk ci k = 0) (kk : g32 (M a k) → wp l G y rm fr K md (pc + 3) L (gI (M a k) :: st) X M cs ss) : wp l G y rm fr K md pc L (gR G a :: st) X M cs ss :=
  wp_rng h1 h2 hs hk fun hr => wp_getf hd hc hk hT hw h1 h2 hs (by rw [hk0]; rfl) (kk (by have h9 : gKd (ci + 6) k = gFk ci k := rfl; rw [h9, hk0] at hr; exact hr))
theorem xgetJ {a k N ci index : Nat} {C : String} {T : u_T} (hd : decode y.2.1 pc = .ok (.getfield index, 3)) (hc : gCl[ci]? = some (C, T, N)) (hk : k < N) (hT : (T k).1 = C) (hw : Cond.fieldLink y.1.cls index C (T k).2.1 (T k).2.2.1 ∈ gTb) (h1 : 1 ≤ a) (h2 : a ≤ X.1) (hs : X.2.1 a = (ci + 6, N)) (hk0 : gFk ci k = 1) (kk : g64 (M a k) → wp l G y rm fr K md (pc + 3) L (gL (M a k) :: st) X M cs ss) : wp l G y rm fr K md pc L (gR G a :: st) X M cs ss :=
  wp_rng h1 h2 hs hk fun hr => wp_getf hd hc hk hT hw h1 h2 hs (by rw [hk0]; rfl) (kk (by have h9 : gKd (ci + 6) k = gFk ci k := rfl; rw [h9, hk0] at hr; exact hr))
theorem xgetZ {a k N ci index : Nat} {C : String} {T : u_T} (hd : decode y.2.1 pc = .ok (.getfield index, 3)) (hc : gCl[ci]? = some (C, T, N)) (hk : k < N) (hT : (T k).1 = C) (hw : Cond.fieldLink y.1.cls index C (T k).2.1 (T k).2.2.1 ∈ gTb) (h1 : 1 ≤ a) (h2 : a ≤ X.1) (hs : X.2.1 a = (ci + 6, N)) (hk0 : gFk ci k = 4) (kk : (0 ≤ M a k ∧ M a k ≤ 1) → wp l G y rm fr K md (pc + 3) L (gI (M a k) :: st) X M cs ss) : wp l G y rm fr K md pc L (gR G a :: st) X M cs ss :=
  wp_rng h1 h2 hs hk fun hr => wp_getf hd hc hk hT hw h1 h2 hs (by rw [hk0]; rfl) (kk (by have h9 : gKd (ci + 6) k = gFk ci k := rfl; rw [h9, hk0] at hr; exact hr))
theorem xgetR {a b k N ci index : Nat} {C : String} {T : u_T} (hd : decode y.2.1 pc = .ok (.getfield index, 3)) (hc : gCl[ci]? = some (C, T, N)) (hk : k < N) (hT : (T k).1 = C) (hw : Cond.fieldLink y.1.cls index C (T k).2.1 (T k).2.2.1 ∈ gTb) (h1 : 1 ≤ a) (h2 : a ≤ X.1) (hs : X.2.1 a = (ci + 6, N)) (hk0 : gFk ci k = 2) (hb : X.2.2 a k = b) (kk : wp l G y rm fr K md (pc + 3) L (gR G b :: st) X M cs ss) : wp l G y rm fr K md pc L (gR G a :: st) X M cs ss :=
  wp_getf hd hc hk hT hw h1 h2 hs (by rw [hk0, hb]; rfl) kk
theorem xputI {a k N ci index : Nat} {C : String} {T : u_T} {x x' : Int} (hd : decode y.2.1 pc = .ok (.putfield index, 3)) (hc : gCl[ci]? = some (C, T, N)) (hk : k < N) (hT : (T k).1 = C) (hw : Cond.fieldLink y.1.cls index C (T k).2.1 (T k).2.2.1 ∈ gTb) (h1 : 1 ≤ a) (h2 : a ≤ X.1) (hs : X.2.1 a = (ci + 6, N)) (hfin : (T k).2.2.2 = false) (hk0 : gFk ci k = 0) (hy : gFy ci k = .int) (hx : w32 x = x') (kk : wp l G y rm fr K true (pc + 3) L st X (gUp M a k x') cs ss) : wp l G y rm fr K md pc L (gI x :: gR G a :: st) X M cs ss := by
  subst hx
  have h := wp_putf (md := md) (x := w32 x) (st := st) (G := G) (M := M) hd hc hk hT hw h1 h2 hs hfin (by rw [hk0, hy]; rfl) (by rw [hk0, hy]; rfl) (by rw [hk0]; exact w32_ok x) (by rw [hk0]; decide) kk
  rw [hk0] at h
  exact wp_st (by show _ = gI (w32 x) :: _; rw [gI_w]) h
theorem xputZ {a k N ci index : Nat} {C : String} {T : u_T} {x : Int} (hd : decode y.2.1 pc = .ok (.putfield index, 3)) (hc : gCl[ci]? = some (C, T, N)) (hk : k < N) (hT : (T k).1 = C) (hw : Cond.fieldLink y.1.cls index C (T k).2.1 (T k).2.2.1 ∈ gTb) (h1 : 1 ≤ a) (h2 : a ≤ X.1) (hs : X.2.1 a = (ci + 6, N)) (hfin : (T k).2.2.2 = false) (hk0 : gFk ci k = 4) (hy : gFy ci k = .boolean) (hx : 0 ≤ x ∧ x ≤ 1) (kk : wp l G y rm fr K true (pc + 3) L st X (gUp M a k x) cs ss) : wp l G y rm fr K md pc L (gI x :: gR G a :: st) X M cs ss := by
  have hf : fits .boolean (gI x) = true := by
    have h9 : x = 0 ∨ x = 1 := by omega
    rcases h9 with rfl | rfl <;> rfl
  have h2 := wp_putf (md := md) (x := x) (st := st) (G := G) (M := M) hd hc hk hT hw h1 h2 hs hfin (by rw [hk0, hy]; exact g_narz hx) (by rw [hk0, hy]; exact hf) (by rw [hk0]; exact hx) (by rw [hk0]; decide) kk
  rw [hk0] at h2
  exact h2
theorem xputR {a k N ci index r : Nat} {C : String} {T : u_T} (hd : decode y.2.1 pc = .ok (.putfield index, 3)) (hc : gCl[ci]? = some (C, T, N)) (hk : k < N) (hT : (T k).1 = C) (hw : Cond.fieldLink y.1.cls index C (T k).2.1 (T k).2.2.1 ∈ gTb) (h1 : 1 ≤ a) (h2 : a ≤ X.1) (hs : X.2.1 a = (ci + 6, N)) (hfin : (T k).2.2.2 = false) (hk0 : gFk ci k = 2) (hy : (∃ t, gFy ci k = .array t) ∨ ∃ C2, gFy ci k = .object C2) (kk : wp l G y rm fr K true (pc + 3) L st (gGu X a k r) M cs ss) : wp l G y rm fr K md pc L (gR G r :: gR G a :: st) X M cs ss :=
  wp_putr hd hc hk hT hw h1 h2 hs hfin (by unfold gR; rcases hy with ⟨t, h⟩ | ⟨t, h⟩ <;> rw [h] <;> split <;> rfl) (by unfold gR; rcases hy with ⟨t, h⟩ | ⟨t, h⟩ <;> rw [h] <;> split <;> rfl) hk0 kk
theorem xputF {a k N ci index r : Nat} {C : String} {T : u_T} (hd : decode y.2.1 pc = .ok (.putfield index, 3)) (hc : gCl[ci]? = some (C, T, N)) (hk : k < N) (hT : (T k).1 = C) (hw : Cond.fieldLink y.1.cls index C (T k).2.1 (T k).2.2.1 ∈ gTb) (h1 : 1 ≤ a) (h2 : a ≤ X.1) (hs : X.2.1 a = (ci + 6, N)) (hfin : (T k).2.2.2 = true) (hin : y.1.name = "<init>") (hown : y.1.cls = C) (hk0 : gFk ci k = 2) (hy : (∃ t, gFy ci k = .array t) ∨ ∃ C2, gFy ci k = .object C2) (kk : wp l G y rm fr K true (pc + 3) L st (gGu X a k r) M cs ss) : wp l G y rm fr K md pc L (gR G r :: gR G a :: st) X M cs ss :=
  wp_putFr hd hc hk hT hw h1 h2 hs hfin hin hown (by unfold gR; rcases hy with ⟨t, h⟩ | ⟨t, h⟩ <;> rw [h] <;> split <;> rfl) (by unfold gR; rcases hy with ⟨t, h⟩ | ⟨t, h⟩ <;> rw [h] <;> split <;> rfl) hk0 kk
theorem xiast {a n : Nat} {i x x' : Int} (hd : decode y.2.1 pc = .ok (.iastore, 1)) (h1 : 1 ≤ a) (h2 : a ≤ X.1) (hs : X.2.1 a = (0, n)) (hn : n ≤ 2147483648) (hi : 0 ≤ i ∧ i < (n : Int)) (hx : w32 x = x') (kk : wp l G y rm fr K true (pc + 1) L st X (gUp M a i.toNat x') cs ss) : wp l G y rm fr K md pc L (gI x :: gI i :: gR G a :: st) X M cs ss := by
  subst hx
  exact wp_st (st' := gI (w32 x) :: gI i :: gR G a :: st) (by rw [gI_w x]) (wp_iastore hd h1 h2 hs (g32_n hi hn) hi.1 hi.2 (w32_ok x) kk)
theorem xlast {a n : Nat} {i x x' : Int} (hd : decode y.2.1 pc = .ok (.lastore, 1)) (h1 : 1 ≤ a) (h2 : a ≤ X.1) (hs : X.2.1 a = (1, n)) (hn : n ≤ 2147483648) (hi : 0 ≤ i ∧ i < (n : Int)) (hx : w64 x = x') (kk : wp l G y rm fr K true (pc + 1) L st X (gUp M a i.toNat x') cs ss) : wp l G y rm fr K md pc L (gL x :: gI i :: gR G a :: st) X M cs ss := by
  subst hx
  exact wp_st (st' := gL (w64 x) :: gI i :: gR G a :: st) (by rw [gL_w x]) (wp_lastore hd h1 h2 hs (g32_n hi hn) hi.1 hi.2 (w64_ok x) kk)
theorem xbast {a n : Nat} {i x : Int} (hd : decode y.2.1 pc = .ok (.bastore, 1)) (h1 : 1 ≤ a) (h2 : a ≤ X.1) (hs : X.2.1 a = (2, n)) (hn : n ≤ 2147483648) (hi : 0 ≤ i ∧ i < (n : Int)) (kk : wp l G y rm fr K true (pc + 1) L st X (gUp M a i.toNat (gByte x)) cs ss) : wp l G y rm fr K md pc L (gI x :: gI i :: gR G a :: st) X M cs ss :=
  wp_bastore hd h1 h2 hs (g32_n hi hn) hi.1 hi.2 kk
theorem xzast {a n : Nat} {i x : Int} (hd : decode y.2.1 pc = .ok (.bastore, 1)) (h1 : 1 ≤ a) (h2 : a ≤ X.1) (hs : X.2.1 a = (3, n)) (hn : n ≤ 2147483648) (hi : 0 ≤ i ∧ i < (n : Int)) (hx : 0 ≤ x ∧ x ≤ 1) (kk : wp l G y rm fr K true (pc + 1) L st X (gUp M a i.toNat x) cs ss) : wp l G y rm fr K md pc L (gI x :: gI i :: gR G a :: st) X M cs ss :=
  wp_zastore hd h1 h2 hs (g32_n hi hn) hi.1 hi.2 hx kk
end gRules2
/-- the room of a method that makes no cells, at depth d -/
def gRm (d : Nat) : Room := { frames := d, cells := 0, slots := 0, locals := 100 * d }
theorem gRm_call (d n : Nat) (h : n ≤ 81) : (gRm d).frames + 1 ≤ (gRm (d + 1)).frames ∧ 8 + (n + 11) + (gRm d).locals ≤ (gRm (d + 1)).locals := by
  unfold gRm
  dsimp only
  omega
def cV (l : Launch) (G : gG) (z : gMt) (rm : Room) (fr : Bool) (av : List Value) (X : gX) (M : gM) (k : gM → Prop) : Prop := gCt l G z rm fr av X M (fun o X' M' => o = .returned none ∧ X' = X ∧ k M')
def cI (l : Launch) (G : gG) (z : gMt) (rm : Room) (fr : Bool) (av : List Value) (X : gX) (M : gM) (k : Int → gM → Prop) : Prop := gCt l G z rm fr av X M (fun o X' M' => ∃ v, o = .returned (some (gI v)) ∧ g32 v ∧ X' = X ∧ k v M')
def cZ (l : Launch) (G : gG) (z : gMt) (rm : Room) (fr : Bool) (av : List Value) (X : gX) (M : gM) (k : Int → gM → Prop) : Prop := gCt l G z rm fr av X M (fun o X' M' => ∃ v, o = .returned (some (gI v)) ∧ (0 ≤ v ∧ v ≤ 1) ∧ X' = X ∧ k v M')
def cL (l : Launch) (G : gG) (z : gMt) (rm : Room) (fr : Bool) (av : List Value) (X : gX) (M : gM) (k : Int → gM → Prop) : Prop := gCt l G z rm fr av X M (fun o X' M' => ∃ v, o = .returned (some (gL v)) ∧ g64 v ∧ X' = X ∧ k v M')

theorem gS1_R {G : gG} {L L' : List Slot} {i r : Nat} {v : Value} (h : L[i]? = some (.val (gR G r))) (hL : L.set (i + 1) (.val v) = L') : gS1 L (i + 1) v = L' := by
  have e : gDd L (i + 1) = L := by
    unfold gDd
    dsimp only
    rw [h]
    by_cases hr : r = 0
    · subst hr; rfl
    · rw [gR_ref G hr]
  unfold gS1
  rw [e]
  exact hL
theorem wpt {l : Launch} {G : gG} {y : gMt} {rm : Room} {fr md : Bool} {K : Outcome → gX → gM → Prop} {pc : Nat} {L L' : List Slot} {st : List Value} {X : gX} {M : gM} {cs ss : Nat} (k : wp l G y rm fr K md pc L' st X M cs ss) (h : gSub L' L) : wp l G y rm fr K md pc L st X M cs ss := wp_to h k
theorem gI_cat (x : Int) : (gI x).category = 1 := rfl
theorem gL_cat (x : Int) : (gL x).category = 2 := rfl
section gCalls2
variable {l : Launch} {G : gG} {y z : gMt} {fr fz md md' : Bool} {K : Outcome → gX → gM → Prop} {pc d : Nat} {L : List Slot} {st st0 : List Value} {X : gX} {M : gM} {As : List Value} {index n : Nat}
theorem xcV_V {b ci N : Nat} {C : String} {T : u_T} {k : gM → Prop} (hd : decode y.2.1 pc = .ok (.invokevirtual index, 3)) (hz : gCal z n) (hl : Cond.methodLink y.1.cls index z.1 ∈ gTb) (hin : Cond.instanceMethod z.1 ∈ gTb) (hse : Cond.selects C z.1 z.1 ∈ gTb) (hc : gCl[ci]? = some (C, T, N)) (h1 : 1 ≤ b) (h2 : b ≤ X.1) (hs : X.2.1 b = (ci + 6, N)) (hn : As.length = n) (hm : z.2.2.1 ≤ 81) (hW : (st.map fun v => v.category).sum ≤ 8) (h0 : st0 = As.reverse ++ gR G b :: st)
    (hm1 : md = true → md' = true) (hm2 : fz = true → md' = true) (hM : cV l G z (gRm d) fz (gR G b :: As) X M k) (kk : ∀ M' : gM, k M' → wp l G y (gRm (d + 1)) fr K md' (pc + 3) L st X M' 0 0) : wp l G y (gRm (d + 1)) fr K md pc L st0 X M 0 0 :=
  wp_callV hd hz hl hin hse hc h1 h2 hs hM (fun o X' M' h => ⟨none, h.1⟩) hm1 hm2 hn (gRm_call d _ hm) hW ⟨Nat.le_refl _, Nat.le_refl _⟩ h0 (fun v X' M' h => by
    obtain ⟨h1, h2, h3⟩ := h
    cases h1
    subst h2
    exact kk M' h3)
theorem xcV_I {b ci N : Nat} {C : String} {T : u_T} {k : Int → gM → Prop} (hd : decode y.2.1 pc = .ok (.invokevirtual index, 3)) (hz : gCal z n) (hl : Cond.methodLink y.1.cls index z.1 ∈ gTb) (hin : Cond.instanceMethod z.1 ∈ gTb) (hse : Cond.selects C z.1 z.1 ∈ gTb) (hc : gCl[ci]? = some (C, T, N)) (h1 : 1 ≤ b) (h2 : b ≤ X.1) (hs : X.2.1 b = (ci + 6, N)) (hn : As.length = n) (hm : z.2.2.1 ≤ 81) (hW : (st.map fun v => v.category).sum ≤ 8) (h0 : st0 = As.reverse ++ gR G b :: st)
    (hm1 : md = true → md' = true) (hm2 : fz = true → md' = true) (hM : cI l G z (gRm d) fz (gR G b :: As) X M k) (kk : ∀ (v : Int) (M' : gM), g32 v → k v M' → wp l G y (gRm (d + 1)) fr K md' (pc + 3) L (gI v :: st) X M' 0 0) : wp l G y (gRm (d + 1)) fr K md pc L st0 X M 0 0 :=
  wp_callV hd hz hl hin hse hc h1 h2 hs hM (fun o X' M' h => by obtain ⟨w, h1, -⟩ := h; exact ⟨_, h1⟩) hm1 hm2 hn (gRm_call d _ hm) hW ⟨Nat.le_refl _, Nat.le_refl _⟩ h0 (fun v X' M' h => by
    obtain ⟨w, h1, h0, h2, h3⟩ := h
    cases h1
    subst h2
    exact kk w M' h0 h3)
theorem xcS_I {k : Int → gM → Prop} (hd : decode y.2.1 pc = .ok (.invokestatic index, 3)) (hz : gCal z n) (hl : Cond.methodLink y.1.cls index z.1 ∈ gTb) (hst : Cond.static z.1 ∈ gTb) (hn : As.length = n) (hm : z.2.2.1 ≤ 81) (hW : (st.map fun v => v.category).sum ≤ 8) (h0 : st0 = As.reverse ++ st)
    (hm1 : md = true → md' = true) (hm2 : fz = true → md' = true) (hM : cI l G z (gRm d) fz As X M k) (kk : ∀ (v : Int) (M' : gM), g32 v → k v M' → wp l G y (gRm (d + 1)) fr K md' (pc + 3) L (gI v :: st) X M' 0 0) : wp l G y (gRm (d + 1)) fr K md pc L st0 X M 0 0 :=
  wp_callS hd hz hl hst hM (fun o X' M' h => by obtain ⟨w, h1, -⟩ := h; exact ⟨_, h1⟩) hm1 hm2 hn (gRm_call d _ hm) hW ⟨Nat.le_refl _, Nat.le_refl _⟩ h0 (fun v X' M' h => by
    obtain ⟨w, h1, h0, h2, h3⟩ := h
    cases h1
    subst h2
    exact kk w M' h0 h3)
theorem xcN_I {host : String} {k : Int → gM → Prop} (hd : decode y.2.1 pc = .ok (.invokestatic index, 3)) (hz : gCal z n) (hl : Cond.methodLinkNest y.1.cls index z.1 host ∈ gNst) (hst : Cond.static z.1 ∈ gTb) (hn : As.length = n) (hm : z.2.2.1 ≤ 81) (hW : (st.map fun v => v.category).sum ≤ 8) (h0 : st0 = As.reverse ++ st)
    (hm1 : md = true → md' = true) (hm2 : fz = true → md' = true) (hM : cI l G z (gRm d) fz As X M k) (kk : ∀ (v : Int) (M' : gM), g32 v → k v M' → wp l G y (gRm (d + 1)) fr K md' (pc + 3) L (gI v :: st) X M' 0 0) : wp l G y (gRm (d + 1)) fr K md pc L st0 X M 0 0 :=
  wp_callSN hd hz hl hst hM (fun o X' M' h => by obtain ⟨w, h1, -⟩ := h; exact ⟨_, h1⟩) hm1 hm2 hn (gRm_call d _ hm) hW ⟨Nat.le_refl _, Nat.le_refl _⟩ h0 (fun v X' M' h => by
    obtain ⟨w, h1, h0, h2, h3⟩ := h
    cases h1
    subst h2
    exact kk w M' h0 h3)
theorem xcV_Z {b ci N : Nat} {C : String} {T : u_T} {k : Int → gM → Prop} (hd : decode y.2.1 pc = .ok (.invokevirtual index, 3)) (hz : gCal z n) (hl : Cond.methodLink y.1.cls index z.1 ∈ gTb) (hin : Cond.instanceMethod z.1 ∈ gTb) (hse : Cond.selects C z.1 z.1 ∈ gTb) (hc : gCl[ci]? = some (C, T, N)) (h1 : 1 ≤ b) (h2 : b ≤ X.1) (hs : X.2.1 b = (ci + 6, N)) (hn : As.length = n) (hm : z.2.2.1 ≤ 81) (hW : (st.map fun v => v.category).sum ≤ 8) (h0 : st0 = As.reverse ++ gR G b :: st)
    (hm1 : md = true → md' = true) (hm2 : fz = true → md' = true) (hM : cZ l G z (gRm d) fz (gR G b :: As) X M k) (kk : ∀ (v : Int) (M' : gM), (0 ≤ v ∧ v ≤ 1) → k v M' → wp l G y (gRm (d + 1)) fr K md' (pc + 3) L (gI v :: st) X M' 0 0) : wp l G y (gRm (d + 1)) fr K md pc L st0 X M 0 0 :=
  wp_callV hd hz hl hin hse hc h1 h2 hs hM (fun o X' M' h => by obtain ⟨w, h1, -⟩ := h; exact ⟨_, h1⟩) hm1 hm2 hn (gRm_call d _ hm) hW ⟨Nat.le_refl _, Nat.le_refl _⟩ h0 (fun v X' M' h => by
    obtain ⟨w, h1, h0, h2, h3⟩ := h
    cases h1
    subst h2
    exact kk w M' h0 h3)
theorem xcS_Z {k : Int → gM → Prop} (hd : decode y.2.1 pc = .ok (.invokestatic index, 3)) (hz : gCal z n) (hl : Cond.methodLink y.1.cls index z.1 ∈ gTb) (hst : Cond.static z.1 ∈ gTb) (hn : As.length = n) (hm : z.2.2.1 ≤ 81) (hW : (st.map fun v => v.category).sum ≤ 8) (h0 : st0 = As.reverse ++ st)
    (hm1 : md = true → md' = true) (hm2 : fz = true → md' = true) (hM : cZ l G z (gRm d) fz As X M k) (kk : ∀ (v : Int) (M' : gM), (0 ≤ v ∧ v ≤ 1) → k v M' → wp l G y (gRm (d + 1)) fr K md' (pc + 3) L (gI v :: st) X M' 0 0) : wp l G y (gRm (d + 1)) fr K md pc L st0 X M 0 0 :=
  wp_callS hd hz hl hst hM (fun o X' M' h => by obtain ⟨w, h1, -⟩ := h; exact ⟨_, h1⟩) hm1 hm2 hn (gRm_call d _ hm) hW ⟨Nat.le_refl _, Nat.le_refl _⟩ h0 (fun v X' M' h => by
    obtain ⟨w, h1, h0, h2, h3⟩ := h
    cases h1
    subst h2
    exact kk w M' h0 h3)
end gCalls2
def kkV (X : gX) (k : gM → Prop) : Outcome → gX → gM → Prop := fun o X' M' => o = .returned none ∧ X' = X ∧ k M'
theorem cen_V {l : Launch} {G : gG} {z : gMt} {rm : Room} {fr : Bool} {av : List Value} {X : gX} {M : gM} {k : gM → Prop} (hy : plainFor z.1 = true) (hn : (lg_sl av).length ≤ z.2.2.1) (h : wp l G z rm fr (kkV X k) false 0 (gEn av z.2.2.1) [] X M 0 0) : cV l G z rm fr av X M k := gCt.of hy hn h
theorem kV_mk {X : gX} {k : gM → Prop} {M : gM} (h : k M) : kkV X k (.returned none) X M := ⟨rfl, rfl, h⟩
theorem cV.mono {l : Launch} {G : gG} {z : gMt} {rm : Room} {fr : Bool} {av : List Value} {X : gX} {M : gM} {k k' : gM → Prop} (h : cV l G z rm fr av X M k) (hk : ∀ M', k M' → k' M') : cV l G z rm fr av X M k' := gCt.mono h (fun o X' M' q => ⟨q.1, q.2.1, hk _ q.2.2⟩)
def kkI (X : gX) (k : Int → gM → Prop) : Outcome → gX → gM → Prop := fun o X' M' => ∃ v, o = .returned (some (gI v)) ∧ g32 v ∧ X' = X ∧ k v M'
theorem cen_I {l : Launch} {G : gG} {z : gMt} {rm : Room} {fr : Bool} {av : List Value} {X : gX} {M : gM} {k : Int → gM → Prop} (hy : plainFor z.1 = true) (hn : (lg_sl av).length ≤ z.2.2.1) (h : wp l G z rm fr (kkI X k) false 0 (gEn av z.2.2.1) [] X M 0 0) : cI l G z rm fr av X M k := gCt.of hy hn h
theorem kI_mk {X : gX} {k : Int → gM → Prop} {M : gM} {v : Int} (hv : g32 v) (h : k v M) : kkI X k (.returned (some (gI v))) X M := ⟨v, rfl, hv, rfl, h⟩
theorem cI.mono {l : Launch} {G : gG} {z : gMt} {rm : Room} {fr : Bool} {av : List Value} {X : gX} {M : gM} {k k' : Int → gM → Prop} (h : cI l G z rm fr av X M k) (hk : ∀ v M', g32 v → k v M' → k' v M') : cI l G z rm fr av X M k' := gCt.mono h (fun o X' M' q => by obtain ⟨v, h1, h2, h3, h4⟩ := q; exact ⟨v, h1, h2, h3, hk v M' h2 h4⟩)
def kkZ (X : gX) (k : Int → gM → Prop) : Outcome → gX → gM → Prop := fun o X' M' => ∃ v, o = .returned (some (gI v)) ∧ (0 ≤ v ∧ v ≤ 1) ∧ X' = X ∧ k v M'
theorem cen_Z {l : Launch} {G : gG} {z : gMt} {rm : Room} {fr : Bool} {av : List Value} {X : gX} {M : gM} {k : Int → gM → Prop} (hy : plainFor z.1 = true) (hn : (lg_sl av).length ≤ z.2.2.1) (h : wp l G z rm fr (kkZ X k) false 0 (gEn av z.2.2.1) [] X M 0 0) : cZ l G z rm fr av X M k := gCt.of hy hn h
theorem kZ_mk {X : gX} {k : Int → gM → Prop} {M : gM} {v : Int} (hv : (0 ≤ v ∧ v ≤ 1)) (h : k v M) : kkZ X k (.returned (some (gI v))) X M := ⟨v, rfl, hv, rfl, h⟩
theorem cZ.mono {l : Launch} {G : gG} {z : gMt} {rm : Room} {fr : Bool} {av : List Value} {X : gX} {M : gM} {k k' : Int → gM → Prop} (h : cZ l G z rm fr av X M k) (hk : ∀ v M', (0 ≤ v ∧ v ≤ 1) → k v M' → k' v M') : cZ l G z rm fr av X M k' := gCt.mono h (fun o X' M' q => by obtain ⟨v, h1, h2, h3, h4⟩ := q; exact ⟨v, h1, h2, h3, hk v M' h2 h4⟩)
def kkL (X : gX) (k : Int → gM → Prop) : Outcome → gX → gM → Prop := fun o X' M' => ∃ v, o = .returned (some (gL v)) ∧ g64 v ∧ X' = X ∧ k v M'
theorem cen_L {l : Launch} {G : gG} {z : gMt} {rm : Room} {fr : Bool} {av : List Value} {X : gX} {M : gM} {k : Int → gM → Prop} (hy : plainFor z.1 = true) (hn : (lg_sl av).length ≤ z.2.2.1) (h : wp l G z rm fr (kkL X k) false 0 (gEn av z.2.2.1) [] X M 0 0) : cL l G z rm fr av X M k := gCt.of hy hn h
theorem kL_mk {X : gX} {k : Int → gM → Prop} {M : gM} {v : Int} (hv : g64 v) (h : k v M) : kkL X k (.returned (some (gL v))) X M := ⟨v, rfl, hv, rfl, h⟩
theorem cL.mono {l : Launch} {G : gG} {z : gMt} {rm : Room} {fr : Bool} {av : List Value} {X : gX} {M : gM} {k k' : Int → gM → Prop} (h : cL l G z rm fr av X M k) (hk : ∀ v M', g64 v → k v M' → k' v M') : cL l G z rm fr av X M k' := gCt.mono h (fun o X' M' q => by obtain ⟨v, h1, h2, h3, h4⟩ := q; exact ⟨v, h1, h2, h3, hk v M' h2 h4⟩)
