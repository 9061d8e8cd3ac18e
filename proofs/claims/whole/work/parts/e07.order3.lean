/-! The class's Order: leaving an entry; the search. -/
section geG
variable {l : Launch} {G : gG} {dd : Nat} {X : gX} {M M2 : gM} {c n d ws ss mt : Nat} {r : Nat → Nat → Prop}
/-- the root is met -/
theorem gOI_root {x : Nat} (h : gOI M c n r 0 0 ss mt) (hn : n ≤ 400) (hx : x < n) (h0 : gArn M (c + 1051) n x = 0) : gOI (gMtM (gUp M (c + 1055) 0 (x : Int)) c x 0 mt) c n r 1 1 ss (mt + 1) := by
  obtain ⟨⟨h10, h11, h12⟩, o1, o2, o3, hw, hz, hc, hp⟩ := h
  have key1 := gOv1_meet o1 hx h0
  have key2 := gOv2_root (r := r) (W := gAy M (c + 1053)) (P := gAy M (c + 1055)) (ear := gAy M (c + 1052)) (nx := gAy M (c + 1056)) o1 hx h0
  unfold gMtM
  generalize hM : gUp (gUp (gUp (gUp (gUp (gUp (gUp (gUp M (c + 1055) 0 (x : Int)) (c + 1047) 10 ((mt + 1 : Nat) : Int)) (c + 1051) x ((mt + 1 : Nat) : Int)) (c + 1052) x ((mt + 1 : Nat) : Int)) (c + 1056) x ((0 : Nat) : Int)) (c + 1053) 0 (x : Int)) (c + 1054) x 1) (c + 1047) 11 ((0 + 1 : Nat) : Int) = M2
  have e53 : gAy M2 (c + 1053) = gUf (gAy M (c + 1053)) 0 x := by
    rw [← hM, gAy_ne (by omega), gAy_ne (by omega), gAy_up, gAy_ne (by omega), gAy_ne (by omega), gAy_ne (by omega), gAy_ne (by omega), gAy_ne (by omega)]
  have e49 : gAy M2 (c + 1049) = gAy M (c + 1049) := by
    rw [← hM, gAy_ne (by omega), gAy_ne (by omega), gAy_ne (by omega), gAy_ne (by omega), gAy_ne (by omega), gAy_ne (by omega), gAy_ne (by omega), gAy_ne (by omega)]
  have e55 : gAy M2 (c + 1055) = gUf (gAy M (c + 1055)) 0 x := by
    rw [← hM, gAy_ne (by omega), gAy_ne (by omega), gAy_ne (by omega), gAy_ne (by omega), gAy_ne (by omega), gAy_ne (by omega), gAy_ne (by omega), gAy_up]
  have e51 : gArn M2 (c + 1051) n = gUf (gArn M (c + 1051) n) x (mt + 1) := by
    rw [← hM, gArn_ne (by omega), gArn_ne (by omega), gArn_ne (by omega), gArn_ne (by omega), gArn_ne (by omega), gArn_up hx, gArn_ne (by omega), gArn_ne (by omega)]
  have e52 : gAy M2 (c + 1052) = gUf (gAy M (c + 1052)) x (mt + 1) := by
    rw [← hM, gAy_ne (by omega), gAy_ne (by omega), gAy_ne (by omega), gAy_ne (by omega), gAy_up, gAy_ne (by omega), gAy_ne (by omega), gAy_ne (by omega)]
  have e56 : gAy M2 (c + 1056) = gUf (gAy M (c + 1056)) x 0 := by
    rw [← hM, gAy_ne (by omega), gAy_ne (by omega), gAy_ne (by omega), gAy_up, gAy_ne (by omega), gAy_ne (by omega), gAy_ne (by omega), gAy_ne (by omega)]
  have f50 : ∀ j, M2 (c + 1050) j = M (c + 1050) j := fun j => by
    rw [← hM, gUp_a (by omega), gUp_a (by omega), gUp_a (by omega), gUp_a (by omega), gUp_a (by omega), gUp_a (by omega), gUp_a (by omega), gUp_a (by omega)]
  have f54 : ∀ j, M2 (c + 1054) j = if j = x then 1 else M (c + 1054) j := fun j => by
    rw [← hM, gUp_a (by omega)]
    by_cases q : j = x
    · rw [q, gUp_eq, if_pos rfl]
    · rw [gUp_k q, if_neg q, gUp_a (by omega), gUp_a (by omega), gUp_a (by omega), gUp_a (by omega), gUp_a (by omega), gUp_a (by omega)]
  have g10 : M2 (c + 1047) 10 = ((mt + 1 : Nat) : Int) := by
    rw [← hM, gUp_k (by decide), gUp_a (by omega), gUp_a (by omega), gUp_a (by omega), gUp_a (by omega), gUp_a (by omega), gUp_eq]
  have g11 : M2 (c + 1047) 11 = ((1 : Nat) : Int) := by rw [← hM, gUp_eq]
  have g12 : M2 (c + 1047) 12 = (ss : Int) := by
    rw [← hM, gUp_k (by decide), gUp_a (by omega), gUp_a (by omega), gUp_a (by omega), gUp_a (by omega), gUp_a (by omega), gUp_k (by decide), gUp_a (by omega)]
    exact h12
  have z2 : gOz M2 c := by
    refine ⟨fun a ha k hk => ?_, fun k hk => ?_⟩
    · rw [← hM]
      have := hz.1 a ha k hk
      unfold gUp
      repeat' split
      all_goals first | omega | assumption
    · rw [f54]
      split
      · exact Or.inr rfl
      · exact hz.2 k hk
  clear hM
  unfold gOI
  rw [e53, e49, e55, e51, e52, e56]
  refine ⟨⟨g10, g11, g12⟩, key1, key2, ?_, ?_, z2, ⟨by omega, ?_⟩, fun i hi => ?_⟩
  · have : (fun e => M2 (c + 1050) e = 1) = (fun e => M (c + 1050) e = 1) := funext fun e => by rw [f50]
    rw [this]
    exact o3
  · intro e he
    rw [f54, gIn_s]
    by_cases q : e = x
    · rw [if_pos q]; exact ⟨fun _ => Or.inr q, fun _ => rfl⟩
    · rw [if_neg q, hw e he]
      exact ⟨fun z => Or.inl z, fun z => z.resolve_right q⟩
  · rw [gCnt_up hx h0 (by omega), hc.2]
  · rw [show i = 0 by omega, gUf_e, gUf_e]; omega
/-- an entry left, that waits on -/
theorem gOI_stay (h : gOI M c n r (d + 2) ws ss mt) (hne : gAy M (c + 1052) (gAy M (c + 1055) (d + 1)) ≠ gArn M (c + 1051) n (gAy M (c + 1055) (d + 1))) (hall : ∀ y, r (gAy M (c + 1055) (d + 1)) y → y < gAy M (c + 1056) (gAy M (c + 1055) (d + 1))) : gOI (gUp M (c + 1052) (gAy M (c + 1055) d) ((min (gAy M (c + 1052) (gAy M (c + 1055) d)) (gAy M (c + 1052) (gAy M (c + 1055) (d + 1))) : Nat) : Int)) c n r (d + 1) ws ss mt := by
  obtain ⟨⟨h10, h11, h12⟩, o1, o2, o3, hw, hz, hc, hp⟩ := h
  have key := gOv2_stay o1 o2 hne hall
  generalize min (gAy M (c + 1052) (gAy M (c + 1055) d)) (gAy M (c + 1052) (gAy M (c + 1055) (d + 1))) = v at key ⊢
  generalize hE : gAy M (c + 1055) d = E at key ⊢
  unfold gOI
  rw [gAy_ne (M := M) (b := c + 1053) (by omega), gAy_ne (M := M) (b := c + 1049) (by omega), gAy_ne (M := M) (b := c + 1055) (by omega), gArn_ne (M := M) (b := c + 1051) (by omega), gAy_up, gAy_ne (M := M) (b := c + 1056) (by omega)]
  have f : ∀ a, a = 1047 ∨ a = 1050 ∨ a = 1054 → ∀ j, gUp M (c + 1052) E (v : Int) (c + a) j = M (c + a) j := fun a ha j => gUp_a (by omega)
  refine ⟨⟨(f 1047 (by omega) 10).trans h10, (f 1047 (by omega) 11).trans h11, (f 1047 (by omega) 12).trans h12⟩, o1, key, ?_, ?_, hz.up (by omega) (by decide), hc, fun i hi => hp i (by omega)⟩
  · have : (fun e => gUp M (c + 1052) E (v : Int) (c + 1050) e = 1) = (fun e => M (c + 1050) e = 1) := funext fun e => by rw [f 1050 (by omega)]
    rw [this]
    exact o3
  · intro e he
    rw [f 1054 (by omega)]
    exact hw e he
/-- an entry left, and all that wait since -/
theorem gOI_comp {q : Nat} {b : Int} (h : gOI M c n r (d + 1) ws ss mt) (hn : n ≤ 400) (hear : gAy M (c + 1052) (gAy M (c + 1055) d) = gArn M (c + 1051) n (gAy M (c + 1055) d)) (hall : ∀ y, r (gAy M (c + 1055) d) y → y < gAy M (c + 1056) (gAy M (c + 1055) d)) (hq : q < ws) (hWq : gAy M (c + 1053) q = gAy M (c + 1055) d) (o : gOff (gLvR c q ws ss (gAy M (c + 1053))) M M2) (h11 : M2 (c + 1047) 11 = (q : Int)) (h12 : M2 (c + 1047) 12 = ((ss + (ws - q) : Nat) : Int)) (hS : ∀ j, j < ws - q → M2 (c + 1049) (ss + j) = (gAy M (c + 1053) (ws - 1 - j) : Int)) (hC : ∀ j, q ≤ j → j < ws → M2 (c + 1054) (gAy M (c + 1053) j) = 0 ∧ M2 (c + 1050) (gAy M (c + 1053) j) = b) (hb : b = 1 ↔ (q + 1 < ws ∨ r (gAy M (c + 1055) d) (gAy M (c + 1055) d))) : gOI M2 c n r d q (ss + (ws - q)) mt := by
  obtain ⟨⟨g10, g11, g12⟩, o1, o2, o3, hw, hz, hc, hp⟩ := h
  have inj : ∀ i j, i < ws → j < ws → gAy M (c + 1053) i = gAy M (c + 1053) j → i = j := fun i j hi hj e => by
    rcases Nat.lt_trichotomy i j with z | z | z
    · have := o1.2.1 i j z hj; rw [e] at this; omega
    · exact z
    · have := o1.2.1 j i z hi; rw [e] at this; omega
  have s1 : ∀ j, j < ss → gAy M2 (c + 1049) j = gAy M (c + 1049) j := fun j hj => by
    unfold gAy
    rw [o _ _ (by unfold gLvR; omega)]
  have s2 : ∀ j, j < ws - q → gAy M2 (c + 1049) (ss + j) = gAy M (c + 1053) (ws - 1 - j) := fun j hj => by
    show (M2 (c + 1049) (ss + j)).toNat = _
    rw [hS j hj, Int.toNat_natCast]
  have c1 : ∀ e, gIn (gAy M (c + 1049)) ss e → (M2 (c + 1050) e = 1 ↔ M (c + 1050) e = 1) := fun e he => by
    rw [o _ _ (by
      unfold gLvR
      rintro (z | ⟨_, i, i1, i2, i3⟩ | z)
      · omega
      · exact o1.2.2.2.2.1 e ⟨i, i2, i3⟩ he
      · omega)]
  have c2 : ∀ j, q ≤ j → j < ws → (M2 (c + 1050) (gAy M (c + 1053) j) = 1 ↔ (q + 1 < ws ∨ r (gAy M (c + 1055) d) (gAy M (c + 1055) d))) := fun j a b2 => by rw [(hC j a b2).2]; exact hb
  obtain ⟨k1, k2, k3⟩ := gOv_comp (ci := fun e => M (c + 1050) e = 1) (ci' := fun e => M2 (c + 1050) e = 1) (ss' := ss + (ws - q)) o1 o2 o3 hear hall hq hWq rfl s1 s2 c1 c2
  have ay : ∀ a, a = 1051 ∨ a = 1052 ∨ a = 1053 ∨ a = 1055 ∨ a = 1056 → ∀ k, M2 (c + a) k = M (c + a) k := fun a ha k => o _ _ (by unfold gLvR; omega)
  have e53 : gAy M2 (c + 1053) = gAy M (c + 1053) := funext fun k => by unfold gAy; rw [ay 1053 (by omega)]
  have e55 : gAy M2 (c + 1055) = gAy M (c + 1055) := funext fun k => by unfold gAy; rw [ay 1055 (by omega)]
  have e52 : gAy M2 (c + 1052) = gAy M (c + 1052) := funext fun k => by unfold gAy; rw [ay 1052 (by omega)]
  have e56 : gAy M2 (c + 1056) = gAy M (c + 1056) := funext fun k => by unfold gAy; rw [ay 1056 (by omega)]
  have e51 : gArn M2 (c + 1051) n = gArn M (c + 1051) n := funext fun k => by unfold gArn; rw [ay 1051 (by omega)]
  unfold gOI
  rw [e53, e55, e52, e56, e51]
  refine ⟨⟨(o _ _ (by unfold gLvR; omega)).trans g10, h11, h12⟩, k1, k2, k3, fun e he => ?_, ⟨fun a ha k hk => ?_, fun k hk => ?_⟩, ⟨by omega, hc.2⟩, fun i hi => hp i (by omega)⟩
  · by_cases z : ∃ j, q ≤ j ∧ j < ws ∧ gAy M (c + 1053) j = e
    · obtain ⟨j, j1, j2, j3⟩ := z
      rw [← j3, (hC j j1 j2).1]
      refine ⟨fun y => absurd y (by decide), fun y => ?_⟩
      obtain ⟨i, i1, i2⟩ := y
      have := inj i j (by omega) j2 i2
      omega
    · rw [o _ _ (by
        unfold gLvR
        rintro (y | ⟨_, y⟩ | y)
        · omega
        · exact z y
        · omega), hw e he]
      constructor
      · rintro ⟨i, i1, i2⟩
        refine ⟨i, Decidable.byContradiction fun y => z ⟨i, by omega, i1, i2⟩, i2⟩
      · rintro ⟨i, i1, i2⟩
        exact ⟨i, by omega, i2⟩
  · by_cases y : a = 1049 ∧ ss ≤ k ∧ k < ss + (ws - q)
    · have := hS (k - ss) (by omega)
      rw [show ss + (k - ss) = k by omega] at this
      rw [y.1, this]
      omega
    · rw [o _ _ (by unfold gLvR; omega)]
      exact hz.1 a ha k hk
  · by_cases z : ∃ j, q ≤ j ∧ j < ws ∧ gAy M (c + 1053) j = k
    · obtain ⟨j, j1, j2, j3⟩ := z
      rw [← j3]
      exact Or.inl (hC j j1 j2).1
    · rw [o _ _ (by
        unfold gLvR
        rintro (y | ⟨_, y⟩ | y)
        · omega
        · exact z y
        · omega)]
      exact hz.2 k hk
theorem c_Or_leave {k : gM → Prop} (hX : glX X c) (h : gOI M c n r (d + 1) ws ss mt) (hn : n ≤ 400) (hall : ∀ y, r (gAy M (c + 1055) d) y → y < gAy M (c + 1056) (gAy M (c + 1055) d)) (hrd : gRdB M c (gAy M (c + 1055) d) (gAy M (c + 1055) d) ↔ r (gAy M (c + 1055) d) (gAy M (c + 1055) d)) (h0 : gAy M (c + 1052) (gAy M (c + 1055) d) ≠ gArn M (c + 1051) n (gAy M (c + 1055) d) → k M) (h1 : gAy M (c + 1052) (gAy M (c + 1055) d) = gArn M (c + 1051) n (gAy M (c + 1055) d) → ∀ M2 q, gOff (gOrR c) M M2 → (∀ a, a = 1051 ∨ a = 1052 ∨ a = 1055 ∨ a = 1056 → ∀ j, M2 (c + a) j = M (c + a) j) → gOI M2 c n r d q (ss + (ws - q)) mt → k M2) : cV l G y_Or_leave (gRm dd) true [gR G (c + 1047), gI ((gAy M (c + 1055) d : Nat) : Int)] X M k := by
  obtain ⟨⟨g10, g11, g12⟩, o1, o2, o3, hw, hz, hc, hp⟩ := id h
  have inW := gPth o2 (i := d) (by omega)
  have eN := (inW.lt o1).1
  generalize hE : gAy M (c + 1055) d = E at *
  have v52 := hz.v (a := 1052) (k := E) (by omega) (by omega)
  have v51 := hz.v (a := 1051) (k := E) (by omega) (by omega)
  have m51 : gArn M (c + 1051) n E = gAy M (c + 1051) E := if_pos eN
  obtain ⟨q, q1, q2, q3⟩ := o2.1 d (by omega)
  rw [hE] at q3
  have cl := gCnt_le (gArn M (c + 1051) n) n
  have wlt : ∀ j, j < ws → gAy M (c + 1053) j < 400 := fun j hj => by have := o1.1 j hj; omega
  have v53 : ∀ j, j < ws → M (c + 1053) j = (gAy M (c + 1053) j : Int) := fun j hj => hz.v (a := 1053) (by omega) (by omega)
  have inj : ∀ i j, i < ws → j < ws → gAy M (c + 1053) i = gAy M (c + 1053) j → i = j := fun i j hi hj e => by
    rcases Nat.lt_trichotomy i j with z | z | z
    · have := o1.2.1 i j z hj; rw [e] at this; omega
    · exact z
    · have := o1.2.1 j i z hi; rw [e] at this; omega
  refine e_Or_leave (w_Or_leave_0 hX ⟨by omega, by omega⟩ ⟨⟨by omega, by omega⟩, fun _ => ⟨⟨by omega, by omega⟩, fun _ => ?_⟩⟩)
  rw [Int.toNat_natCast, v52, v51]
  refine ⟨fun z _ => ?_, fun z => h0 (by rw [m51]; omega)⟩
  have hear : gAy M (c + 1052) E = gArn M (c + 1051) n E := by rw [m51]; omega
  rw [g11, show ((ws : Int) - 1).toNat = ws - 1 by omega, v53 (ws - 1) (by omega), gShr_6 (by omega), gAnd_63 (by omega), show ((E : Int) * 7 + ((E / 64 : Nat) : Int)).toNat = 7 * E + E / 64 by omega, gBt_shr (Nat.mod_lt _ (by decide))]
  have fin : ∀ (x2 x3 b : Int), g32 x2 → g32 x3 → b = (if x2 = 0 ∧ x3 = 0 then 0 else 1) → (b = 1 ↔ (q + 1 < ws ∨ r E E)) → wp l G y_Or_leave (gRm dd) true (kkV X k) true 72 [.val (gR G (c + 1047)), .val (gI (E : Int)), .val (gI x2), .val (gI x3), .val (gI 1), .unset] [] X M 0 0 := by
    intro x2 x3 b g2 g3 eb hb
    refine c_Or_leave72 (q := q) (ws := ws) (ss := ss) (w := gAy M (c + 1053)) (b := b) hX eb g2 g3 (by rw [q3]) q2 (by omega) wlt inj M (by omega) (fun M3 o3 z11 z12 zS zC => ?_) (ws - 1 - q) M (by omega) (gOff.rf _ _) v53 (by rw [g11]; omega) (by rw [g12]; omega) (fun j hj => by omega) (fun j hj hj2 => by omega)
    refine h1 hear M3 q (fun x j hxj => o3 x j (fun y => hxj ?_)) (fun a ha j => o3 _ _ (by unfold gLvR; omega)) (gOI_comp h hn (by rw [hE]; exact hear) (by rw [hE]; exact hall) q2 (by rw [hE]; exact q3) o3 z11 z12 zS zC (by rw [hE]; exact hb))
    unfold gLvR at y
    unfold gOrR
    rcases y with y | ⟨y, _⟩ | y
    · omega
    · omega
    · omega
  have top : ((gAy M (c + 1053) (ws - 1) : Nat) : Int) = (E : Int) ↔ ¬ q + 1 < ws := by
    constructor
    · intro y y2
      have := inj (ws - 1) q (by omega) q2 (by rw [q3]; omega)
      omega
    · intro y
      rw [show ws - 1 = q by omega, q3]
  unfold gRdB at hrd
  refine ⟨⟨by omega, by omega⟩, fun _ => ⟨fun y => ⟨⟨by omega, by omega⟩, fun _ => ⟨fun y2 => fin 0 0 0 (g32_c rfl) (g32_c rfl) rfl ?_, fun y2 => fin 0 1 1 (g32_c rfl) (g32_c rfl) rfl ?_⟩⟩, fun y => ⟨⟨by omega, by omega⟩, fun _ => ⟨fun y2 => fin 1 0 1 (g32_c rfl) (g32_c rfl) rfl ?_, fun y2 => fin 1 1 1 (g32_c rfl) (g32_c rfl) rfl ?_⟩⟩⟩⟩
  · refine ⟨fun y3 => absurd y3 (by decide), fun y3 => ?_⟩
    rcases y3 with y3 | y3
    · exact absurd y3 (top.mp y)
    · rw [if_pos (hrd.mpr y3)] at y2
      exact absurd y2 (by decide)
  · refine ⟨fun _ => Or.inr (Classical.byContradiction fun y3 => y2 (if_neg (fun y4 => y3 (hrd.mp y4)))), fun _ => rfl⟩
  · exact ⟨fun _ => Or.inl (Decidable.byContradiction fun y3 => y (top.mpr y3)), fun _ => rfl⟩
  · exact ⟨fun _ => Or.inl (Decidable.byContradiction fun y3 => y (top.mpr y3)), fun _ => rfl⟩
end geG
