/-! The class's Order: what holds in memory while it searches. -/
def gAy (M : gM) (a : Nat) : Nat → Nat := fun k => (M a k).toNat
def gArn (M : gM) (a n : Nat) : Nat → Nat := fun k => if k < n then (M a k).toNat else 0
theorem gAy_up (M : gM) (a k v : Nat) : gAy (gUp M a k (v : Int)) a = gUf (gAy M a) k v := by
  funext j
  unfold gAy gUf gUp
  by_cases h : j = k
  · rw [if_pos ⟨rfl, h⟩, if_pos h, Int.toNat_natCast]
  · rw [if_neg (fun q => h q.2), if_neg h]
theorem gAy_ne {M : gM} {a b k : Nat} {v : Int} (h : b ≠ a) : gAy (gUp M a k v) b = gAy M b := by
  funext j
  unfold gAy
  rw [gUp_a h]
theorem gArn_up {M : gM} {a k v n : Nat} (hk : k < n) : gArn (gUp M a k (v : Int)) a n = gUf (gArn M a n) k v := by
  funext j
  unfold gArn gUf gUp
  by_cases h : j = k
  · rw [if_pos h, if_pos (by omega), if_pos ⟨rfl, h⟩, Int.toNat_natCast]
  · rw [if_neg h, if_neg (c := a = a ∧ j = k) (fun q => h q.2)]
theorem gArn_ne {M : gM} {a b k n : Nat} {v : Int} (h : b ≠ a) : gArn (gUp M a k v) b n = gArn M b n := by
  funext j
  unfold gArn
  rw [gUp_a h]
theorem gUf_same (f : Nat → Nat) (a : Nat) : gUf f a (f a) = f := by
  funext x
  unfold gUf
  split
  · rename_i h; rw [h]
  · rfl
theorem gUp_same (M : gM) (a k : Nat) : gUp M a k (M a k) = M := by
  funext b j
  unfold gUp
  split
  · rename_i h; rw [h.1, h.2]
  · rfl
def gSu (f : Nat → Nat) : Nat → Nat
  | 0 => 0
  | n + 1 => gSu f n + f n
theorem gSu_le {f g : Nat → Nat} : ∀ n, (∀ e, e < n → f e ≤ g e) → gSu f n ≤ gSu g n := by
  intro n
  induction n with
  | zero => intro _; exact Nat.le_refl _
  | succ n ih =>
    intro h
    have h1 := ih (fun e he => h e (by omega))
    have h2 := h n (by omega)
    show gSu f n + f n ≤ gSu g n + g n
    omega
theorem gSu_lt {f g : Nat → Nat} {x : Nat} : ∀ n, (∀ e, e < n → f e ≤ g e) → x < n → f x < g x → gSu f n < gSu g n := by
  intro n
  induction n with
  | zero => intro _ h; omega
  | succ n ih =>
    intro h hx hl
    have h2 := h n (by omega)
    show gSu f n + f n < gSu g n + g n
    by_cases q : x = n
    · have h1 := gSu_le n (fun e he => h e (by omega))
      rw [q] at hl
      omega
    · have h1 := ih (fun e he => h e (by omega)) (by omega) hl
      omega
theorem gSu_c (v : Nat) : ∀ n, gSu (fun _ => v) n = v * n := by
  intro n
  induction n with
  | zero => rfl
  | succ n ih => show gSu _ n + v = _; rw [ih, Nat.mul_succ]
theorem gSu_one {f g : Nat → Nat} {x : Nat} : ∀ n, x < n → (∀ e, e < n → e ≠ x → f e = g e) → gSu f n + g x = gSu g n + f x := by
  intro n
  induction n with
  | zero => intro h; omega
  | succ n ih =>
    intro hx h
    show gSu f n + f n + g x = gSu g n + g n + f x
    by_cases q : x = n
    · have e : gSu f n = gSu g n := Nat.le_antisymm (gSu_le n (fun e he => Nat.le_of_eq (h e (by omega) (by omega)))) (gSu_le n (fun e he => Nat.le_of_eq (h e (by omega) (by omega)).symm))
      rw [q, e]; omega
    · have h1 := ih (by omega) (fun e he hn => h e (by omega) hn)
      have h2 := h n (by omega) (by omega)
      omega
/-- what is still to be done for an entry -/
noncomputable def gPhi (met nx P : Nat → Nat) (d e : Nat) : Nat := if met e = 0 then 401 else @ite Nat (gIn P d e) (Classical.propDecidable _) (401 - nx e) 0
def gCnt (met : Nat → Nat) : Nat → Nat := fun e => if met e = 0 then 0 else 1
/-- what Order writes -/
def gOrR (c : Nat) : Nat → Nat → Prop := fun x j => (x = c + 1047 ∧ (j = 10 ∨ j = 11 ∨ j = 12)) ∨ (c + 1049 ≤ x ∧ x ≤ c + 1056)
/-- numbers in its tables -/
def gOz (M : gM) (c : Nat) : Prop := (∀ a, a = 1049 ∨ a = 1051 ∨ a = 1052 ∨ a = 1053 ∨ a = 1055 ∨ a = 1056 → ∀ k, k < 400 → 0 ≤ M (c + a) k) ∧ ∀ k, k < 400 → M (c + 1054) k = 0 ∨ M (c + 1054) k = 1
def gOI (M : gM) (c n : Nat) (r : Nat → Nat → Prop) (d ws ss mt : Nat) : Prop := (M (c + 1047) 10 = (mt : Int) ∧ M (c + 1047) 11 = (ws : Int) ∧ M (c + 1047) 12 = (ss : Int)) ∧ gOv1 n ws ss mt (gAy M (c + 1053)) (gAy M (c + 1049)) (gArn M (c + 1051) n) ∧ gOv2 r ws d ss (gAy M (c + 1053)) (gAy M (c + 1055)) (gAy M (c + 1049)) (gArn M (c + 1051) n) (gAy M (c + 1052)) (gAy M (c + 1056)) ∧ gOv3 r ss (gAy M (c + 1049)) (fun e => M (c + 1050) e = 1) ∧ (∀ e, e < 400 → (M (c + 1054) e = 1 ↔ gIn (gAy M (c + 1053)) ws e)) ∧ gOz M c ∧ (ws + ss = mt ∧ mt = gSu (gCnt (gArn M (c + 1051) n)) n) ∧ (∀ i, i < d → gAy M (c + 1056) (gAy M (c + 1055) i) ≤ 400)
section geF
variable {M : gM} {c n d ws ss mt : Nat} {r : Nat → Nat → Prop}
theorem gOz.v (h : gOz M c) {a k : Nat} (ha : a = 1049 ∨ a = 1051 ∨ a = 1052 ∨ a = 1053 ∨ a = 1055 ∨ a = 1056) (hk : k < 400) : M (c + a) k = (gAy M (c + a) k : Int) := by
  have := h.1 a ha k hk
  unfold gAy
  omega
theorem gOz.up {a k : Nat} {v : Int} (h : gOz M c) (hv : 0 ≤ v) (ha : a ≠ 1054) : gOz (gUp M (c + a) k v) c := by
  refine ⟨fun b hb j hj => ?_, fun j hj => ?_⟩
  · unfold gUp
    split
    · exact hv
    · exact h.1 b hb j hj
  · rw [gUp_a (by omega)]; exact h.2 j hj
theorem gCnt_le (met : Nat → Nat) (n : Nat) : gSu (gCnt met) n ≤ n := by
  have := gSu_le (f := gCnt met) (g := fun _ => 1) n (fun e _ => by unfold gCnt; split <;> omega)
  rw [gSu_c] at this
  omega
theorem gCnt_lt {met : Nat → Nat} {n x : Nat} (hx : x < n) (h0 : met x = 0) : gSu (gCnt met) n < n := by
  have := gSu_lt (f := gCnt met) (g := fun _ => 1) (x := x) n (fun e _ => by unfold gCnt; split <;> omega) hx (by unfold gCnt; rw [if_pos h0]; decide)
  rw [gSu_c] at this
  omega
theorem gCnt_up {met : Nat → Nat} {n x v : Nat} (hx : x < n) (h0 : met x = 0) (hv : v ≠ 0) : gSu (gCnt (gUf met x v)) n = gSu (gCnt met) n + 1 := by
  have := gSu_one (f := gCnt (gUf met x v)) (g := gCnt met) (x := x) n hx (fun e _ ne => by unfold gCnt; rw [gUf_n ne])
  have e1 : gCnt (gUf met x v) x = 1 := by unfold gCnt; rw [gUf_e, if_neg hv]
  have e2 : gCnt met x = 0 := by unfold gCnt; rw [if_pos h0]
  omega
/-- ghosts of the memory behind a read taken, and led back -/
theorem gOI_lead {x v : Nat} (h : gOI M c n r (d + 1) ws ss mt) (hn : n ≤ 400) (hx : gIn (gAy M (c + 1053)) ws x ∨ gIn (gAy M (c + 1049)) ss x) (hr : r (gAy M (c + 1055) d) x) (hx4 : x < 400) (hs : ∀ y, r (gAy M (c + 1055) d) y → y < x + 1 → y < gAy M (c + 1056) (gAy M (c + 1055) d) ∨ y = x) (hv : (gIn (gAy M (c + 1053)) ws x ∧ v = min (gAy M (c + 1052) (gAy M (c + 1055) d)) (gArn M (c + 1051) n x)) ∨ (gIn (gAy M (c + 1049)) ss x ∧ v = gAy M (c + 1052) (gAy M (c + 1055) d))) : gOI (gUp (gUp M (c + 1056) (gAy M (c + 1055) d) ((x + 1 : Nat) : Int)) (c + 1052) (gAy M (c + 1055) d) (v : Int)) c n r (d + 1) ws ss mt := by
  obtain ⟨⟨h10, h11, h12⟩, o1, o2, o3, hw, hz, hc, hp⟩ := h
  have key := gOv2_lead o1 o2 hx hr hs rfl hv
  generalize hE : gAy M (c + 1055) d = E at key ⊢
  have e53 : gAy (gUp (gUp M (c + 1056) E ((x + 1 : Nat) : Int)) (c + 1052) E (v : Int)) (c + 1053) = gAy M (c + 1053) := (gAy_ne (by omega)).trans (gAy_ne (by omega))
  have e49 : gAy (gUp (gUp M (c + 1056) E ((x + 1 : Nat) : Int)) (c + 1052) E (v : Int)) (c + 1049) = gAy M (c + 1049) := (gAy_ne (by omega)).trans (gAy_ne (by omega))
  have e55 : gAy (gUp (gUp M (c + 1056) E ((x + 1 : Nat) : Int)) (c + 1052) E (v : Int)) (c + 1055) = gAy M (c + 1055) := (gAy_ne (by omega)).trans (gAy_ne (by omega))
  have e51 : gArn (gUp (gUp M (c + 1056) E ((x + 1 : Nat) : Int)) (c + 1052) E (v : Int)) (c + 1051) n = gArn M (c + 1051) n := (gArn_ne (by omega)).trans (gArn_ne (by omega))
  have e52 : gAy (gUp (gUp M (c + 1056) E ((x + 1 : Nat) : Int)) (c + 1052) E (v : Int)) (c + 1052) = gUf (gAy M (c + 1052)) E v := by rw [gAy_up, gAy_ne (by omega)]
  have e56 : gAy (gUp (gUp M (c + 1056) E ((x + 1 : Nat) : Int)) (c + 1052) E (v : Int)) (c + 1056) = gUf (gAy M (c + 1056)) E (x + 1) := by rw [gAy_ne (by omega), gAy_up]
  unfold gOI
  rw [e53, e49, e55, e51, e52, e56]
  have f : ∀ a, a = 1047 ∨ a = 1050 ∨ a = 1054 → ∀ j, gUp (gUp M (c + 1056) E ((x + 1 : Nat) : Int)) (c + 1052) E (v : Int) (c + a) j = M (c + a) j := fun a ha j => by rw [gUp_a (by omega), gUp_a (by omega)]
  refine ⟨⟨(f 1047 (by omega) 10).trans h10, (f 1047 (by omega) 11).trans h11, (f 1047 (by omega) 12).trans h12⟩, o1, key, ?_, ?_, (hz.up (by omega) (by decide)).up (by omega) (by decide), hc, fun i hi => ?_⟩
  · have : (fun e => gUp (gUp M (c + 1056) E ((x + 1 : Nat) : Int)) (c + 1052) E (v : Int) (c + 1050) e = 1) = (fun e => M (c + 1050) e = 1) := funext fun e => by rw [f 1050 (by omega)]
    rw [this]
    exact o3
  · intro e he
    rw [f 1054 (by omega)]
    exact hw e he
  · unfold gUf
    split
    · omega
    · exact hp i hi
/-- behind a meeting -/
theorem gOI_meet {x : Nat} (h : gOI M c n r (d + 1) ws ss mt) (hn : n ≤ 400) (hx : x < n) (h0 : gArn M (c + 1051) n x = 0) (hr : r (gAy M (c + 1055) d) x) (hs : ∀ y, r (gAy M (c + 1055) d) y → y < x + 1 → y < gAy M (c + 1056) (gAy M (c + 1055) d) ∨ y = x) : gOI (gUp (gMtM (gUp M (c + 1056) (gAy M (c + 1055) d) ((x + 1 : Nat) : Int)) c x ws mt) (c + 1055) (d + 1) (x : Int)) c n r (d + 2) (ws + 1) ss (mt + 1) := by
  obtain ⟨⟨h10, h11, h12⟩, o1, o2, o3, hw, hz, hc, hp⟩ := h
  have key1 := gOv1_meet o1 hx h0
  have key2 := gOv2_meet o1 o2 hx h0 hr hs rfl
  generalize hE : gAy M (c + 1055) d = E at key2 ⊢
  unfold gMtM
  generalize hM : gUp (gUp (gUp (gUp (gUp (gUp (gUp (gUp (gUp M (c + 1056) E ((x + 1 : Nat) : Int)) (c + 1047) 10 ((mt + 1 : Nat) : Int)) (c + 1051) x ((mt + 1 : Nat) : Int)) (c + 1052) x ((mt + 1 : Nat) : Int)) (c + 1056) x ((0 : Nat) : Int)) (c + 1053) ws (x : Int)) (c + 1054) x 1) (c + 1047) 11 ((ws + 1 : Nat) : Int)) (c + 1055) (d + 1) (x : Int) = M2
  have e53 : gAy M2 (c + 1053) = gUf (gAy M (c + 1053)) ws x := by
    rw [← hM, gAy_ne (by omega), gAy_ne (by omega), gAy_ne (by omega), gAy_up, gAy_ne (by omega), gAy_ne (by omega), gAy_ne (by omega), gAy_ne (by omega), gAy_ne (by omega)]
  have e49 : gAy M2 (c + 1049) = gAy M (c + 1049) := by
    rw [← hM, gAy_ne (by omega), gAy_ne (by omega), gAy_ne (by omega), gAy_ne (by omega), gAy_ne (by omega), gAy_ne (by omega), gAy_ne (by omega), gAy_ne (by omega), gAy_ne (by omega)]
  have e55 : gAy M2 (c + 1055) = gUf (gAy M (c + 1055)) (d + 1) x := by
    rw [← hM, gAy_up, gAy_ne (by omega), gAy_ne (by omega), gAy_ne (by omega), gAy_ne (by omega), gAy_ne (by omega), gAy_ne (by omega), gAy_ne (by omega), gAy_ne (by omega)]
  have e51 : gArn M2 (c + 1051) n = gUf (gArn M (c + 1051) n) x (mt + 1) := by
    rw [← hM, gArn_ne (by omega), gArn_ne (by omega), gArn_ne (by omega), gArn_ne (by omega), gArn_ne (by omega), gArn_ne (by omega), gArn_up hx, gArn_ne (by omega), gArn_ne (by omega)]
  have e52 : gAy M2 (c + 1052) = gUf (gAy M (c + 1052)) x (mt + 1) := by
    rw [← hM, gAy_ne (by omega), gAy_ne (by omega), gAy_ne (by omega), gAy_ne (by omega), gAy_ne (by omega), gAy_up, gAy_ne (by omega), gAy_ne (by omega), gAy_ne (by omega)]
  have e56 : gAy M2 (c + 1056) = gUf (gUf (gAy M (c + 1056)) E (x + 1)) x 0 := by
    rw [← hM, gAy_ne (by omega), gAy_ne (by omega), gAy_ne (by omega), gAy_ne (by omega), gAy_up, gAy_ne (by omega), gAy_ne (by omega), gAy_ne (by omega), gAy_up]
  have f50 : ∀ j, M2 (c + 1050) j = M (c + 1050) j := fun j => by
    rw [← hM, gUp_a (by omega), gUp_a (by omega), gUp_a (by omega), gUp_a (by omega), gUp_a (by omega), gUp_a (by omega), gUp_a (by omega), gUp_a (by omega), gUp_a (by omega)]
  have f54 : ∀ j, M2 (c + 1054) j = if j = x then 1 else M (c + 1054) j := fun j => by
    rw [← hM, gUp_a (by omega), gUp_a (by omega)]
    by_cases q : j = x
    · rw [q, gUp_eq, if_pos rfl]
    · rw [gUp_k q, if_neg q, gUp_a (by omega), gUp_a (by omega), gUp_a (by omega), gUp_a (by omega), gUp_a (by omega), gUp_a (by omega)]
  have g10 : M2 (c + 1047) 10 = ((mt + 1 : Nat) : Int) := by
    rw [← hM, gUp_a (by omega), gUp_k (by decide), gUp_a (by omega), gUp_a (by omega), gUp_a (by omega), gUp_a (by omega), gUp_a (by omega), gUp_eq]
  have g11 : M2 (c + 1047) 11 = ((ws + 1 : Nat) : Int) := by rw [← hM, gUp_a (by omega), gUp_eq]
  have g12 : M2 (c + 1047) 12 = (ss : Int) := by
    rw [← hM, gUp_a (by omega), gUp_k (by decide), gUp_a (by omega), gUp_a (by omega), gUp_a (by omega), gUp_a (by omega), gUp_a (by omega), gUp_k (by decide), gUp_a (by omega)]
    exact h12
  have z2 : gOz M2 c := by
    refine ⟨fun a ha k hk => ?_, fun k hk => ?_⟩
    · rw [← hM]
      have := hz.1 a ha k hk
      unfold gUp
      repeat' split
      all_goals first | omega | assumption
    · rw [f54]
      split
      · exact Or.inr rfl
      · exact hz.2 k hk
  clear hM
  unfold gOI
  rw [e53, e49, e55, e51, e52, e56]
  refine ⟨⟨g10, g11, g12⟩, key1, key2, ?_, ?_, z2, ⟨by omega, ?_⟩, fun i hi => ?_⟩
  · have : (fun e => M2 (c + 1050) e = 1) = (fun e => M (c + 1050) e = 1) := funext fun e => by rw [f50]
    rw [this]
    exact o3
  · intro e he
    rw [f54, gIn_s]
    by_cases q : e = x
    · rw [if_pos q]; exact ⟨fun _ => Or.inr q, fun _ => rfl⟩
    · rw [if_neg q, hw e he]
      exact ⟨fun z => Or.inl z, fun z => z.resolve_right q⟩
  · rw [gCnt_up hx h0 (by omega), hc.2]
  · have p1 : ∀ j, j ≤ d → gUf (gAy M (c + 1055)) (d + 1) x j = gAy M (c + 1055) j := fun j hj => gUf_n (by omega)
    by_cases q : i = d + 1
    · rw [q, gUf_e, gUf_e]; omega
    · rw [p1 i (by omega)]
      have := hp i (by omega)
      unfold gUf
      split
      · omega
      · split
        · omega
        · exact this
end geF
