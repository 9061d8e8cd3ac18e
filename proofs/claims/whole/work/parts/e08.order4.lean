/-! The class's Order: the search's loop. -/
section geH
variable {met nx P : Nat → Nat} {d e : Nat}
theorem gPhi_un (h : met e = 0) : gPhi met nx P d e = 401 := if_pos h
theorem gPhi_on (h : met e ≠ 0) (k : gIn P d e) : gPhi met nx P d e = 401 - nx e := by
  unfold gPhi
  rw [if_neg h, if_pos k]
theorem gPhi_off (h : met e ≠ 0) (k : ¬ gIn P d e) : gPhi met nx P d e = 0 := by
  unfold gPhi
  rw [if_neg h, if_neg k]
/-- of two entries on the path, alike but for what was taken -/
theorem gPhi_eq {met2 nx2 P2 : Nat → Nat} {d2 : Nat} (h : met2 e = met e) (h2 : nx2 e = nx e) (h3 : gIn P2 d2 e ↔ gIn P d e) : gPhi met2 nx2 P2 d2 e = gPhi met nx P d e := by
  by_cases q : met e = 0
  · rw [gPhi_un q, gPhi_un (h.trans q)]
  · by_cases k : gIn P d e
    · rw [gPhi_on q k, gPhi_on (by rw [h]; exact q) (h3.mpr k), h2]
    · rw [gPhi_off q k, gPhi_off (by rw [h]; exact q) (fun z => k (h3.mp z))]
end geH
section geI
variable {l : Launch} {G : gG} {dd : Nat} {X : gX} {c n : Nat} {r : Nat → Nat → Prop}
theorem c_Or_search17 {k : gM → Prop} {M0 : gM} (hX : glX X c) (hn : n ≤ 400) (hrn : ∀ i j, r i j → j < n) (hr : ∀ i j, i < n → j < 448 → (gRdB M0 c i j ↔ r i j))
    (hk : ∀ M2 ss mt, gOff (gOrR c) M0 M2 → gOI M2 c n r 0 0 ss mt → (∀ e, gArn M0 (c + 1051) n e ≠ 0 → gArn M2 (c + 1051) n e ≠ 0) → k M2) :
    ∀ (left : Nat) (M : gM) (d ws ss mt : Nat), gOI M c n r d ws ss mt → gOff (gOrR c) M0 M → left ≤ 160800 → gSu (gPhi (gArn M (c + 1051) n) (gAy M (c + 1056)) (gAy M (c + 1055)) d) n ≤ left → (∀ e, gArn M0 (c + 1051) n e ≠ 0 → gArn M (c + 1051) n e ≠ 0) → wp l G y_Or_search (gRm (dd + 3)) true (kkV X k) true 17 [.val (gR G (c + 1047)), .unset, .val (gI (d : Int)), .val (gI (left : Int)), .unset, .unset] [] X M 0 0 := by
  have fin : ∀ (M : gM) (ws ss mt : Nat), gOI M c n r 0 ws ss mt → gOff (gOrR c) M0 M → (∀ e, gArn M0 (c + 1051) n e ≠ 0 → gArn M (c + 1051) n e ≠ 0) → k M := by
    intro M ws ss mt h o hm
    have e : ws = 0 := by
      refine Decidable.byContradiction fun q => ?_
      have := h.2.2.1.2.2.2.2.2.2 (gAy M (c + 1053) 0) ⟨0, by omega, rfl⟩
      omega
    rw [e] at h
    exact hk M ss mt o h hm
  intro left
  induction left with
  | zero =>
    intro M d ws ss mt h o _ hphi hm
    have e : d = 0 := by
      refine Decidable.byContradiction fun q => ?_
      obtain ⟨_, o1, o2, _, _, _, _, hp⟩ := id h
      have inW := gPth o2 (i := 0) (by omega)
      have lt := inW.lt o1
      have h1 := gPhi_on (nx := gAy M (c + 1056)) (P := gAy M (c + 1055)) (d := d) lt.2 ⟨0, by omega, rfl⟩
      have h2 := hp 0 (by omega)
      have h3 := gSu_lt (f := fun _ => 0) (g := gPhi (gArn M (c + 1051) n) (gAy M (c + 1056)) (gAy M (c + 1055)) d) (x := gAy M (c + 1055) 0) n (fun _ _ => Nat.zero_le _) lt.1 (by rw [h1]; omega)
      omega
    rw [e] at h ⊢
    exact w_Or_search_17 hX (g32_c rfl) (g32_c rfl) ⟨fun _ => fin M ws ss mt h o hm, fun y => absurd (by decide) y⟩
  | succ left ih =>
    intro M d ws ss mt h o hleft hphi hm
    have ew : w32 (((left + 1 : Nat) : Int) + (-1)) = (left : Int) := (w32_id ⟨by omega, by omega⟩).trans (by omega)
    cases d with
    | zero => exact w_Or_search_17 hX (g32_c rfl) ⟨by omega, by omega⟩ ⟨fun _ => fin M ws ss mt h o hm, fun _ => ⟨fun _ => fin M ws ss mt h o hm, fun y => absurd (by decide) y⟩⟩
    | succ d =>
      obtain ⟨⟨h10, h11, h12⟩, o1, o2, o3, hw, hz, hc, hp⟩ := id h
      have cl := gCnt_le (gArn M (c + 1051) n) n
      have dws : d < ws := by obtain ⟨k1, k2, k3, _⟩ := o2.1 d (by omega); omega
      have inW := gPth o2 (i := d) (by omega)
      have lt := inW.lt o1
      have hnx := hp d (by omega)
      have v55 := hz.v (a := 1055) (k := d) (by omega) (by omega)
      have rB : ∀ (M' : gM), gOff (gOrR c) M0 M' → ∀ i j, gRdB M' c i j ↔ gRdB M0 c i j := fun M' o' i j => by
        unfold gRdB
        rw [o' _ _ (by unfold gOrR; omega)]
      have onE : gIn (gAy M (c + 1055)) (d + 1) (gAy M (c + 1055) d) := ⟨d, by omega, rfl⟩
      have phiE := gPhi_on (nx := gAy M (c + 1056)) lt.2 onE
      have ew2 : w32 (((d + 1 : Nat) : Int) + (-1)) = (d : Int) := (w32_id ⟨by omega, by omega⟩).trans (by omega)
      have ew3 : w32 (((d + 1 : Nat) : Int) + 1) = ((d + 2 : Nat) : Int) := (w32_id ⟨by omega, by omega⟩).trans (by omega)
      refine w_Or_search_17 hX ⟨by omega, by omega⟩ ⟨by omega, by omega⟩ ⟨fun y => absurd y (by omega), fun _ => ⟨fun y => absurd y (by omega), fun _ => ⟨⟨by omega, by omega⟩, fun _ => ?_⟩⟩⟩
      rw [show (((d + 1 : Nat) : Int) - 1).toNat = d by omega, v55, ew, ew2, ew3]
      refine c_Or_takeRead (d := dd) (u := gAy M (c + 1056) (gAy M (c + 1055) d)) hX (by omega) (hz.v (a := 1056) (by omega) (by omega)) hnx (fun j hj hb => ?_) (fun hnone => ?_) (fun x hx4 hxr hux hs => ?_)
      · have := hrn _ _ ((hr _ j lt.1 hj).mp ((rB M o _ _).mp hb))
        omega
      · -- no read is left
        have hall : ∀ y, r (gAy M (c + 1055) d) y → y < gAy M (c + 1056) (gAy M (c + 1055) d) := fun y hy => by
          have := hrn _ _ hy
          exact hnone y (by omega) ((rB M o _ _).mpr ((hr _ y lt.1 (by omega)).mpr hy))
        have offE : ¬ gIn (gAy M (c + 1055)) d (gAy M (c + 1055) d) := by
          rintro ⟨i, i1, i2⟩
          have := gPth_uq o1 o2 (i := i) (j := d) (by omega) (by omega) i2
          omega
        have phi2 : gSu (gPhi (gArn M (c + 1051) n) (gAy M (c + 1056)) (gAy M (c + 1055)) d) n ≤ left := by
          have := gSu_lt (f := gPhi (gArn M (c + 1051) n) (gAy M (c + 1056)) (gAy M (c + 1055)) d) (g := gPhi (gArn M (c + 1051) n) (gAy M (c + 1056)) (gAy M (c + 1055)) (d + 1)) (x := gAy M (c + 1055) d) n (fun e he => ?_) lt.1 (by rw [phiE, gPhi_off lt.2 offE]; omega)
          · omega
          · by_cases q : e = gAy M (c + 1055) d
            · rw [q, gPhi_off lt.2 offE]; exact Nat.zero_le _
            · refine Nat.le_of_eq (gPhi_eq rfl rfl ⟨fun ⟨i, i1, i2⟩ => ⟨i, by omega, i2⟩, fun ⟨i, i1, i2⟩ => ⟨i, ?_, i2⟩⟩)
              refine Decidable.byContradiction fun q2 => q ?_
              rw [← i2, show i = d by omega]
        refine ⟨fun y => absurd rfl y, fun _ => c_Or_leave hX h hn hall ((rB M o _ _).trans (hr _ _ lt.1 (by omega))) (fun hne => ?_) (fun he M2 q o2' same h2 => ?_)⟩
        · cases d with
          | zero =>
            obtain ⟨a1, x, a2, a3, _⟩ := o2.2.2.2.2.1 0 (by omega)
            have := (o2.2.2.2.2.2.2 x a2).2
            omega
          | succ d =>
            refine ⟨fun y => absurd y (by omega), fun _ => ⟨⟨by omega, by omega⟩, fun _ => ⟨⟨by omega, by omega⟩, fun _ => ?_⟩⟩⟩
            have inW2 := gPth o2 (i := d) (by omega)
            have lt2 := inW2.lt o1
            have bd : ∀ i, i < d + 2 → gAy M (c + 1052) (gAy M (c + 1055) i) ≤ 1000 := fun i hi => by
              have := (o2.2.2.2.2.1 i hi).1
              have := o1.2.2.1 (gAy M (c + 1055) i)
              omega
            have b0 := bd d (by omega)
            have b1 := bd (d + 1) (by omega)
            rw [show (((d + 1 + 1 : Nat) : Int) + (-1) - 1).toNat = d by omega, hz.v (a := 1055) (k := d) (by omega) (by omega), Int.toNat_natCast, hz.v (a := 1052) (k := gAy M (c + 1055) (d + 1)) (by omega) (by omega)]
            refine c_Or_leadBack (d := dd + 1) hX (by omega) (hz.v (a := 1052) (by omega) (by omega)) b0 b1 ?_
            have h3 := gOI_stay h hne hall
            refine ih _ (d + 1) ws ss mt h3 (o.up (by unfold gOrR; omega)) (by omega) ?_ (fun e he => ?_)
            · rw [gArn_ne (by omega), gAy_ne (M := M) (b := c + 1056) (by omega), gAy_ne (M := M) (b := c + 1055) (by omega)]
              exact phi2
            · rw [gArn_ne (by omega)]
              exact hm e he
        · have e51 : gArn M2 (c + 1051) n = gArn M (c + 1051) n := funext fun j => by unfold gArn; rw [same 1051 (by omega)]
          have e55 : gAy M2 (c + 1055) = gAy M (c + 1055) := funext fun j => by unfold gAy; rw [same 1055 (by omega)]
          have e56 : gAy M2 (c + 1056) = gAy M (c + 1056) := funext fun j => by unfold gAy; rw [same 1056 (by omega)]
          have e52 : gAy M2 (c + 1052) = gAy M (c + 1052) := funext fun j => by unfold gAy; rw [same 1052 (by omega)]
          have nxt := ih M2 d q (ss + (ws - q)) mt h2 (o.tr o2') (by omega) (by rw [e51, e55, e56]; exact phi2) (fun e he => by rw [e51]; exact hm e he)
          cases d with
          | zero => exact ⟨fun _ => nxt, fun y => absurd (by decide) y⟩
          | succ d =>
            refine ⟨fun y => absurd y (by omega), fun _ => ⟨⟨by omega, by omega⟩, fun _ => ⟨⟨by omega, by omega⟩, fun _ => ?_⟩⟩⟩
            have inW2 := gPth o2 (i := d) (by omega)
            have lt2 := inW2.lt o1
            have hz2 := h2.2.2.2.2.2.1
            have bd : ∀ i, i < d + 2 → gAy M (c + 1052) (gAy M (c + 1055) i) ≤ 1000 := fun i hi => by
              have := (o2.2.2.2.2.1 i hi).1
              have := o1.2.2.1 (gAy M (c + 1055) i)
              omega
            have b0 := bd d (by omega)
            have b1 := bd (d + 1) (by omega)
            have mn : min (gAy M (c + 1052) (gAy M (c + 1055) d)) (gAy M (c + 1052) (gAy M (c + 1055) (d + 1))) = gAy M (c + 1052) (gAy M (c + 1055) d) := by
              have := (o2.2.2.2.2.1 d (by omega)).1
              have := o2.2.1 d (by omega)
              omega
            rw [show (((d + 1 + 1 : Nat) : Int) + (-1) - 1).toNat = d by omega, hz2.v (a := 1055) (k := d) (by omega) (by omega), Int.toNat_natCast, hz2.v (a := 1052) (k := gAy M (c + 1055) (d + 1)) (by omega) (by omega), e55, e52]
            refine c_Or_leadBack (d := dd + 1) (a := gAy M (c + 1052) (gAy M (c + 1055) d)) hX (by omega) (by rw [← e52]; exact hz2.v (a := 1052) (by omega) (by omega)) b0 b1 ?_
            rw [mn]
            have e : ((gAy M (c + 1052) (gAy M (c + 1055) d) : Nat) : Int) = M2 (c + 1052) (gAy M (c + 1055) d) := by
              rw [← e52]
              exact (hz2.v (a := 1052) (by omega) (by omega)).symm
            rw [e, gUp_same]
            exact nxt
      · -- a read
        have hxR : r (gAy M (c + 1055) d) x := (hr _ x lt.1 (by omega)).mp ((rB M o _ _).mp hxr)
        have hxn := hrn _ _ hxR
        have hs2 : ∀ y, r (gAy M (c + 1055) d) y → y < x + 1 → y < gAy M (c + 1056) (gAy M (c + 1055) d) ∨ y = x := fun y hy hl => by
          have := hrn _ _ hy
          exact hs y (by omega) ((rB M o _ _).mpr ((hr _ y lt.1 (by omega)).mpr hy)) hl
        have m51 : gArn M (c + 1051) n x = gAy M (c + 1051) x := if_pos hxn
        have v51 := hz.v (a := 1051) (k := x) (by omega) (by omega)
        have mtb := o1.2.2.1 x
        -- what is left to do gets less
        have phi3 : gSu (gPhi (gArn M (c + 1051) n) (gUf (gAy M (c + 1056)) (gAy M (c + 1055) d) (x + 1)) (gAy M (c + 1055)) (d + 1)) n ≤ left := by
          have := gSu_lt (f := gPhi (gArn M (c + 1051) n) (gUf (gAy M (c + 1056)) (gAy M (c + 1055) d) (x + 1)) (gAy M (c + 1055)) (d + 1)) (g := gPhi (gArn M (c + 1051) n) (gAy M (c + 1056)) (gAy M (c + 1055)) (d + 1)) (x := gAy M (c + 1055) d) n (fun e he => ?_) lt.1 (by rw [phiE, gPhi_on lt.2 onE, gUf_e]; omega)
          · omega
          · by_cases q : e = gAy M (c + 1055) d
            · rw [q, phiE, gPhi_on lt.2 onE, gUf_e]; omega
            · exact Nat.le_of_eq (gPhi_eq rfl (gUf_n q) Iff.rfl)
        refine ⟨fun _ => ⟨⟨by omega, by omega⟩, fun _ => ⟨fun z => ⟨⟨by omega, by omega⟩, fun _ => ⟨fun z2 => ?_, fun z2 => ⟨⟨by omega, by omega⟩, fun _ => ?_⟩⟩⟩, fun z => ?_⟩⟩, fun y => absurd y (by omega)⟩
        · -- done already
          rw [Int.toNat_natCast, gUp_a (by omega)] at z z2
          have hd : gIn (gAy M (c + 1049)) ss x := by
            rcases (o1.2.2.2.1 x hxn).mp (by rw [m51]; omega) with y | y
            · have := (hw x hx4).mpr y
              omega
            · exact y
          have h3 := gOI_lead (v := gAy M (c + 1052) (gAy M (c + 1055) d)) h hn (Or.inr hd) hxR hx4 hs2 (Or.inr ⟨hd, rfl⟩)
          have e : ((gAy M (c + 1052) (gAy M (c + 1055) d) : Nat) : Int) = gUp M (c + 1056) (gAy M (c + 1055) d) ((x + 1 : Nat) : Int) (c + 1052) (gAy M (c + 1055) d) := by
            rw [gUp_a (by omega)]
            exact (hz.v (a := 1052) (by omega) (by omega)).symm
          rw [e, gUp_same] at h3
          refine ih _ (d + 1) ws ss mt h3 (o.up (by unfold gOrR; omega)) (by omega) ?_ (fun e he => ?_)
          · rw [gArn_ne (by omega), gAy_up, gAy_ne (M := M) (b := c + 1055) (by omega)]
            exact phi3
          · rw [gArn_ne (by omega)]; exact hm e he
        · -- it waits
          rw [Int.toNat_natCast, gUp_a (by omega)] at z z2
          have hd : gIn (gAy M (c + 1053)) ws x := (hw x hx4).mp (by have := hz.2 x hx4; omega)
          have b0 : gAy M (c + 1052) (gAy M (c + 1055) d) ≤ 1000 := by
            have := (o2.2.2.2.2.1 d (by omega)).1
            have := o1.2.2.1 (gAy M (c + 1055) d)
            omega
          rw [Int.toNat_natCast, gUp_a (by omega), v51]
          refine c_Or_leadBack (d := dd + 1) (a := gAy M (c + 1052) (gAy M (c + 1055) d)) hX (by omega) (by rw [gUp_a (by omega)]; exact hz.v (a := 1052) (by omega) (by omega)) b0 (by omega) ?_
          have h3 := gOI_lead (v := min (gAy M (c + 1052) (gAy M (c + 1055) d)) (gArn M (c + 1051) n x)) h hn (Or.inl hd) hxR hx4 hs2 (Or.inl ⟨hd, rfl⟩)
          rw [m51] at h3
          refine ih _ (d + 1) ws ss mt h3 ((o.up (by unfold gOrR; omega)).up (by unfold gOrR; omega)) (by omega) ?_ (fun e he => ?_)
          · rw [gArn_ne (by omega), gArn_ne (by omega), gAy_ne (b := c + 1056) (by omega), gAy_up, gAy_ne (b := c + 1055) (by omega), gAy_ne (M := M) (b := c + 1055) (by omega)]
            exact phi3
          · rw [gArn_ne (by omega), gArn_ne (by omega)]; exact hm e he
        · -- it is met
          rw [Int.toNat_natCast, gUp_a (by omega)] at z
          have h0 : gArn M (c + 1051) n x = 0 := by rw [m51]; omega
          have cnt := gCnt_lt (met := gArn M (c + 1051) n) hxn h0
          refine c_Or_meet hX (by omega) (by rw [gUp_a (by omega)]; exact h10) (by omega) (by rw [gUp_a (by omega)]; exact h11) (by omega) ⟨⟨by omega, by omega⟩, ?_⟩
          rw [show (((d + 1 : Nat) : Int)).toNat = d + 1 from Int.toNat_natCast _]
          have h3 := gOI_meet h hn hxn h0 hxR hs2
          have xE : x ≠ gAy M (c + 1055) d := fun q => by rw [q] at h0; exact lt.2 h0
          have o5 : gOff (gOrR c) M (gUp (gMtM (gUp M (c + 1056) (gAy M (c + 1055) d) ((x + 1 : Nat) : Int)) c x ws mt) (c + 1055) (d + 1) (x : Int)) := by
            unfold gMtM
            refine (((((((((gOff.rf _ M).up ?_).up ?_).up ?_).up ?_).up ?_).up ?_).up ?_).up ?_).up ?_ <;> unfold gOrR <;> omega
          have e51 : gArn (gUp (gMtM (gUp M (c + 1056) (gAy M (c + 1055) d) ((x + 1 : Nat) : Int)) c x ws mt) (c + 1055) (d + 1) (x : Int)) (c + 1051) n = gUf (gArn M (c + 1051) n) x (mt + 1) := by
            unfold gMtM
            rw [gArn_ne (by omega), gArn_ne (by omega), gArn_ne (by omega), gArn_ne (by omega), gArn_ne (by omega), gArn_ne (by omega), gArn_up hxn, gArn_ne (by omega), gArn_ne (by omega)]
          have e55 : gAy (gUp (gMtM (gUp M (c + 1056) (gAy M (c + 1055) d) ((x + 1 : Nat) : Int)) c x ws mt) (c + 1055) (d + 1) (x : Int)) (c + 1055) = gUf (gAy M (c + 1055)) (d + 1) x := by
            unfold gMtM
            rw [gAy_up, gAy_ne (by omega), gAy_ne (by omega), gAy_ne (by omega), gAy_ne (by omega), gAy_ne (by omega), gAy_ne (by omega), gAy_ne (by omega), gAy_ne (by omega)]
          have e56 : gAy (gUp (gMtM (gUp M (c + 1056) (gAy M (c + 1055) d) ((x + 1 : Nat) : Int)) c x ws mt) (c + 1055) (d + 1) (x : Int)) (c + 1056) = gUf (gUf (gAy M (c + 1056)) (gAy M (c + 1055) d) (x + 1)) x 0 := by
            unfold gMtM
            rw [gAy_ne (by omega), gAy_ne (by omega), gAy_ne (by omega), gAy_ne (by omega), gAy_up, gAy_ne (by omega), gAy_ne (by omega), gAy_ne (by omega), gAy_up]
          refine ih _ (d + 2) (ws + 1) ss (mt + 1) h3 (o.tr o5) (by omega) ?_ (fun e he => ?_)
          · rw [e51, e55, e56]
            refine Nat.le_trans (gSu_le n (fun e he => ?_)) phi3
            by_cases q : e = x
            · rw [q, gPhi_un (met := gArn M (c + 1051) n) h0]
              rw [gPhi_on (by rw [gUf_e]; omega) ⟨d + 1, by omega, gUf_e _ _ _⟩, gUf_e]
              exact Nat.le_refl _
            · refine Nat.le_of_eq (gPhi_eq (gUf_n q) (gUf_n q) ?_)
              constructor
              · rintro ⟨i, i1, i2⟩
                by_cases q2 : i = d + 1
                · rw [q2, gUf_e] at i2; exact absurd i2.symm q
                · rw [gUf_n q2] at i2; exact ⟨i, by omega, i2⟩
              · rintro ⟨i, i1, i2⟩
                exact ⟨i, by omega, by rw [gUf_n (by omega)]; exact i2⟩
          · rw [e51]
            unfold gUf
            split
            · omega
            · exact hm e he
end geI
