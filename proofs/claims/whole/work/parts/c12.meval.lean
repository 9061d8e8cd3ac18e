/-! The reference: a call, one of several chosen, a tree worked out. -/
theorem gLand_20 {x : Int} (hx : 0 ≤ x) (gx : g64 x) : gLand x 1048575 = x % 1048576 := by
  rw [gLand_nn hx gx (by decide) ⟨by decide, by decide⟩]
  have e : x.toNat &&& (1048575 : Int).toNat = x.toNat % 1048576 := Nat.and_two_pow_sub_one_eq_mod x.toNat 20
  rw [e]
  omega
section gcL
variable {l : Launch} {G : gG} {d : Nat} {X : gX} {M : gM} {o t w i L : Nat} {Q : gQ} {E : Int → gVl} {k : gM → Prop} {T : Int → Int} {S : List Int} {P R : Int → Prop}
theorem gm_vP {e : gEx} (hC : gmCx M o L E T S P R) (hS : ∀ b ∈ S, 32 ≤ b ∧ b ≤ 126) (hw : (gxWf P R S.length e).1) (hr : gxR e = false) : gvP (gxEv E T S e).1 :=
  (gxEv_ok (fun p h0 h1 => by have := (hC.1 p.toNat (by omega)).1; rw [Int.toNat_of_nonneg h0] at this; exact this) hC.2.2.2.1 hS e).1 hw hr
theorem r_choose {es : List gEx} {n0 : Int} (hX : gmX X o) (hw : w = i + 14) (hi : i = 10 ∨ i = 11 ∨ i = 12) (hS : ∀ b ∈ S, 32 ≤ b ∧ b ≤ 126) (hln : es.length = (gTks w).length) (he : ∀ e ∈ es, (gxWf P R S.length e).1 ∧ gxR e = false ∧ gxGm l G X o L E T S P R e ∧ 8 + gxH e ≤ d + 7) (hn : t + (es.map (fun x => (gxLn x).1)).sum ≤ 1000) (ht : M o 50 = (t : Int)) (hC : gmCx M o L E T S P R) (hch : gxCh M o L es n0) (h : gmPost M o t (gxPi w (es.map (fun x => (gxEv E T S x).1))) k) : cV l G y_GM_choose (gRm (d + 8)) true [gR G o, gI (i : Int), gI n0] X M k := by
  have gi : g32 (i : Int) := ⟨by omega, by omega⟩
  have sumj : ∀ (es : List gEx) (j : Nat), j < es.length → (gxLn (es.getD j (.num 0))).1 ≤ (es.map (fun x => (gxLn x).1)).sum := by
    intro es
    induction es with
    | nil => intro j hj; exact absurd hj (Nat.not_lt_zero _)
    | cons e es ih =>
      intro j hj
      rw [List.map_cons, List.sum_cons]
      cases j with
      | zero => show (gxLn e).1 ≤ _; omega
      | succ j =>
        have := ih j (by rw [List.length_cons] at hj; omega)
        show (gxLn (es.getD j (.num 0))).1 ≤ _
        omega
  have len : es.length = (if i = 10 then 3 else if i = 11 then 2 else 4) := by rw [hln, hw]; rcases hi with e | e | e <;> rw [e] <;> decide
  have len2 : 2 ≤ es.length := by rw [len]; (split) <;> (try split) <;> omega
  have len4 : es.length ≤ 4 := by rw [len]; (split) <;> (try split) <;> omega
  obtain ⟨g1, m0⟩ := gxGet (E := E) (T := T) (S := S) es 0 (by omega)
  obtain ⟨w0, r0, G0, H0⟩ := he _ m0
  have v0 := gm_vP hC hS w0 r0
  have hd0 : es = es.getD 0 (.num 0) :: es.drop 1 := by
    cases es with
    | nil => exact absurd len2 (by decide)
    | cons e es => rfl
  have hch0 := hch
  rw [hd0] at hch0
  have srt := gxNd_sort w0 hch0.1
  have gn : g32 n0 := ⟨by omega, by omega⟩
  have hPi : gxPi w (es.map (fun x => (gxEv E T S x).1)) = (match gxWt w (gxEv E T S (es.getD 0 (.num 0))).1 with | (none, v) => v | (some n, _) => (es.map (fun x => (gxEv E T S x).1)).getD n.toNat (gE 4)) := by
    unfold gxPi
    rw [g1]
    cases gxWt w (gxEv E T S (es.getD 0 (.num 0))).1 with
    | mk o v => cases o <;> rfl
  -- another argument in its place
  have pick : ∀ (y : Nat) (n1 : Int) (M2 : gM), y < es.length → gOff (gmF o t) M M2 → M2 o 50 = (t : Int) → gxCh M2 o L (es.drop y) n1 → (∀ V, gxWt w (gxEv E T S (es.getD 0 (.num 0))).1 = V → ∃ u, V = (some (y : Int), u)) → cV l G y_GM_eval (gRm (d + 7)) true [gR G o, gI n1] X M2 (fun M25 => (k M25)) := by
    intro y n1 M2 hy o2 t2 hc2 hV
    obtain ⟨u, hu⟩ := hV _ rfl
    rw [hPi, hu] at h
    dsimp only at h
    rw [Int.toNat_natCast] at h
    obtain ⟨g2, m2⟩ := gxGet (E := E) (T := T) (S := S) es y hy
    rw [g2] at h
    obtain ⟨w2, r2, G2, H2⟩ := he _ m2
    have hd : es.drop y = es.getD y (.num 0) :: es.drop (y + 1) := by
      rw [List.getD_eq_getElem?_getD, List.getElem?_eq_getElem hy]
      exact List.drop_eq_getElem_cons hy
    rw [hd] at hc2
    exact G2 (d + 7) t M2 n1 _ H2 (hC.keepF o2) hc2.1 t2 (by have := sumj es y hy; omega) (h.pre o2)
  -- along the chain
  have along : ∀ (y : Nat), 1 ≤ y → y < es.length → ∀ (m q : Nat) (n1 : Int) (M2 : gM), q + m = y → gOff (gmF o t) M M2 → M2 o 50 = (t : Int) → gxCh M2 o L (es.drop q) n1 → g32 n1 → (∀ V, gxWt w (gxEv E T S (es.getD 0 (.num 0))).1 = V → ∃ u, V = (some (y : Int), u)) → wp l G y_GM_choose (gRm (d + 7 + 1)) true (kkV X k) true 164 [.val (gR G o), .unset, .unset, .unset, .unset, .val (gL (y : Int)), .unset, .val (gI n1), .val (gI (q : Int))] [] X M2 0 0 := by
    intro y hy1 hy m
    induction m with
    | zero =>
      intro q n1 M2 hq o2 t2 hc2 gn1 hV
      have e : q = y := by omega
      subst e
      exact w_GM_choose_164 hX ⟨by omega, by omega⟩ gn1 ⟨by omega, by omega⟩ ⟨fun _ => pick q n1 M2 hy o2 t2 hc2 hV, fun z => absurd (Int.le_refl _) z⟩
    | succ m ih =>
      intro q n1 M2 hq o2 t2 hc2 gn1 hV
      have hd : es.drop q = es.getD q (.num 0) :: es.drop (q + 1) := by
        rw [List.getD_eq_getElem?_getD, List.getElem?_eq_getElem (by omega)]
        exact List.drop_eq_getElem_cons (by omega)
      rw [hd] at hc2
      obtain ⟨w2, -⟩ := he _ (gxGet (E := E) (T := T) (S := S) es q (by omega)).2
      have s2 := gxNd_sort w2 hc2.1
      refine w_GM_choose_164 hX ⟨by omega, by omega⟩ gn1 ⟨by omega, by omega⟩ ⟨fun z => absurd z (by omega), fun _ => ⟨s2.1, fun g2 => ?_⟩⟩
      rw [w32_id (x := (q : Int) + 1) ⟨by omega, by omega⟩, show (q : Int) + 1 = ((q + 1 : Nat) : Int) by omega]
      exact ih (q + 1) _ M2 (by omega) o2 t2 hc2.2 g2 hV
  have b0 := sumj es 0 (by omega)
  refine e_GM_choose (d := d + 7) (w_GM_choose_0 (d := d + 7) hX gi gn (G0 (d + 7) t M n0 _ H0 hC hch0.1 ht (by omega) (fun M1 o1 a1 t1 => ?_)))
  rw [t1, show (t : Int) + 1 - 1 = (t : Int) by omega, Int.toNat_natCast]
  have bt : (0 : Int) ≤ (t : Int) ∧ (t : Int) < 1200 := ⟨by omega, by omega⟩
  have C1 := hC.keepF o1
  have ch1 := gxCh_F o1 es n0 hch
  generalize hv : (gxEv E T S (es.getD 0 (.num 0))).1 = v at a1 v0 hPi pick along
  -- the outcome stays
  have stay : ∀ M2 : gM, gOff (gmF o t) M M2 → M2 o 50 = (t : Int) + 1 → ∀ u, gxWt w v = (none, u) → gmAt M2 o t u → k M2 := fun M2 o2 t2 u hu a2 => by
    rw [hPi, hu] at h
    exact h M2 o2 a2 t2
  have bad : ∀ M2 : gM, gOff (gmF o t) M M2 → M2 o 50 = (t : Int) + 1 → gxWt w v = (none, gE 4) → cV l G y_GM_become (gRm (d + 7)) true [gR G o, gI 1, gI 4, gL 4] X M2 (fun M28 => (k M28)) := fun M2 o2 t2 hu => by
    rw [hPi, hu] at h
    exact r_become hX (by decide) (g32_c (x := 4) rfl) (g64_c (x := 4) rfl) (by omega) (by omega) (by omega) (h.pre o2)
  have kf : M1 (o + 34) (t : Int).toNat = v.kd := a1.1
  refine fun _ => ⟨fun n11 => c_GM_isFault hX bt ?_, fun y11 => c_GM_isFault hX bt ?_⟩
  · rw [kf]
    by_cases k4 : v.kd = 4
    · rw [if_pos k4]
      refine ⟨fun z => absurd z (by decide), fun _ => stay M1 o1 t1 v ?_ a1⟩
      unfold gxWt
      rw [if_neg (by omega), if_pos k4]
    · rw [if_neg k4]
      refine ⟨fun _ => ⟨fun n10 => ?_, fun y10 => ?_⟩, fun z => absurd rfl z⟩
      · have i12 : i = 12 := by omega
        have eW : gxWt w v = (match gToN v with | none => (none, gE 4) | some u => if u.nm < 1 ∨ 3 < u.nm then (none, gE 4) else (some u.nm, u)) := by
          unfold gxWt
          rw [if_neg (by omega), if_neg k4, if_neg (by omega)]
          cases gToN v <;> rfl
        refine r_asNumber (d := d + 5) hX (by omega) a1 v0.1 (fun zn M2 q2 => ⟨bt, fun g6 => ⟨fun _ => ?_, fun z => absurd z n10⟩⟩) (fun u hu M2 q2 a2 => ⟨bt, ?_⟩)
        · rw [zn] at eW
          have o2 := o1.tr (q2.mono (gmSl_F (Nat.le_refl _)))
          have t2 : M2 o 50 = (t : Int) + 1 := (q2 _ _ (by unfold gmSl; omega)).trans t1
          exact w_GM_choose_108 (d := d + 7) hX gi gn (g32_c (x := 0) rfl) g6 ⟨fun _ => bad M2 o2 t2 eW, fun z => absurd rfl z⟩
        · rw [hu] at eW
          have o2 := o1.tr (q2.mono (gmSl_F (Nat.le_refl _)))
          have t2 : M2 o 50 = (t : Int) + 1 := (q2 _ _ (by unfold gmSl; omega)).trans t1
          have ku : u.kd = 1 := by
            unfold gToN at hu
            split at hu
            · cases hq : gNum v.tx with
              | none => rw [hq] at hu; cases hu
              | some z => rw [hq] at hu; cases hu; rfl
            · cases hu; rfl
          rw [a2.2.2.1 (by omega)]
          refine fun g6 => ⟨fun _ => ?_, fun z => absurd z n10⟩
          refine w_GM_choose_108 (d := d + 7) hX gi gn (g32_c (x := 1) rfl) g6 ⟨fun z => absurd z (by decide), fun _ => ⟨fun z => bad M2 o2 t2 (by rw [eW]; exact if_pos (Or.inl z)), fun z => ⟨fun _ => ⟨fun z3 => ?_, fun z3 => bad M2 o2 t2 (by rw [eW]; exact if_pos (Or.inr (by omega)))⟩, fun z2 => absurd z2 n10⟩⟩⟩
          rw [t2, w32_id (x := (t : Int) + 1 - 1) ⟨by omega, by omega⟩]
          intro _
          have eW2 : gxWt w v = (some u.nm, u) := by rw [eW]; exact if_neg (by omega)
          have oo : gOff (gmF o t) M (gUp M2 o 50 ((t : Int) + 1 - 1)) := o2.up (by unfold gmF; omega)
          have := along u.nm.toNat (by omega) (by rw [len, if_neg (by omega), if_neg (by omega)]; omega) u.nm.toNat 0 n0 _ (by omega) oo (by rw [gUp_eq]; omega) (by rw [List.drop_zero]; exact gxCh_F oo es n0 hch) gn (fun V hV => ⟨u, by rw [← hV, eW2, Int.toNat_of_nonneg (by omega)]⟩)
          rw [Int.toNat_of_nonneg (by omega)] at this
          exact this
      · have i10 : i = 10 := by omega
        have eW : gxWt w v = (match gToB v with | none => (none, gE 4) | some u => (some (2 - u.nm), u)) := by
          unfold gxWt
          rw [if_neg (by omega), if_neg k4, if_pos (by omega)]
          cases gToB v <;> rfl
        refine r_asTruth (d := d + 7) hX (by omega) a1 v0.1 (fun zn => ⟨bt, fun g6 => ⟨fun z => absurd y10 z, fun _ => ?_⟩⟩) (fun u hu M2 q2 a2 => ⟨bt, ?_⟩)
        · rw [zn] at eW
          exact ⟨fun _ => w_GM_choose_108 (d := d + 7) hX gi gn (g32_c (x := 0) rfl) (g64_c (x := 2) rfl) ⟨fun _ => bad M1 o1 t1 eW, fun z => absurd rfl z⟩, fun _ => w_GM_choose_108 (d := d + 7) hX gi gn (g32_c (x := 0) rfl) (g64_c (x := 1) rfl) ⟨fun _ => bad M1 o1 t1 eW, fun z => absurd rfl z⟩⟩
        · rw [hu] at eW
          have o2 := o1.tr (q2.mono (gmSl_F (Nat.le_refl _)))
          have t2 : M2 o 50 = (t : Int) + 1 := (q2 _ _ (by unfold gmSl; omega)).trans t1
          have ku : u.kd = 3 ∧ (u.nm = 0 ∨ u.nm = 1) := by
            unfold gToB at hu
            split at hu
            · cases hu
            · cases hu
              refine ⟨rfl, ?_⟩
              show (if v.nm = 0 then (0 : Int) else 1) = 0 ∨ (if v.nm = 0 then (0 : Int) else 1) = 1
              split
              · exact Or.inl rfl
              · exact Or.inr rfl
          rw [a2.2.2.1 (by omega)]
          have go : ∀ x5 : Nat, 1 ≤ x5 ∧ x5 ≤ 2 → (2 - u.nm = (x5 : Int)) → wp l G y_GM_choose (gRm (d + 7 + 1)) true (kkV X k) true 108 [.val (gR G o), .val (gI (i : Int)), .val (gI n0), .unset, .val (gI 1), .val (gL (x5 : Int)), .unset, .unset, .unset] [] X M2 0 0 := by
            intro x5 b5 e5
            refine w_GM_choose_108 (d := d + 7) hX gi gn (g32_c (x := 1) rfl) ⟨by omega, by omega⟩ ⟨fun z => absurd z (by decide), fun _ => ⟨fun z => by omega, fun z => ⟨fun z2 => absurd y10 z2, fun _ => ⟨fun z3 => ?_, fun z3 => by omega⟩⟩⟩⟩
            rw [t2, w32_id (x := (t : Int) + 1 - 1) ⟨by omega, by omega⟩]
            intro _
            have oo : gOff (gmF o t) M (gUp M2 o 50 ((t : Int) + 1 - 1)) := o2.up (by unfold gmF; omega)
            exact along x5 (by omega) (by rw [len, if_pos i10]; omega) x5 0 n0 _ (by omega) oo (by rw [gUp_eq]; omega) (by rw [List.drop_zero]; exact gxCh_F oo es n0 hch) gn (fun V hV => ⟨u, by rw [← hV, eW]; dsimp only; rw [e5]⟩)
          exact fun _ => ⟨fun z => absurd y10 z, fun _ => ⟨fun z => go 2 (by decide) (by omega), fun z => go 1 (by decide) (by omega)⟩⟩
  · have i11 : i = 11 := by omega
    rw [kf]
    by_cases k4 : v.kd = 4
    · rw [if_pos k4, t1, w32_id (x := (t : Int) + 1 - 1) ⟨by omega, by omega⟩]
      have eW : gxWt w v = (some 1, v) := by
        unfold gxWt
        rw [if_pos (by omega), if_pos k4]
      refine ⟨fun _ _ => ⟨srt.1, ?_⟩, fun z => absurd z (by decide)⟩
      have oo : gOff (gmF o t) M (gUp M1 o 50 ((t : Int) + 1 - 1)) := o1.up (by unfold gmF; omega)
      have ch2 := gxCh_F oo es n0 hch
      rw [hd0] at ch2
      exact fun g2 => pick 1 _ _ (by omega) oo (by rw [gUp_eq]; omega) ch2.2 (fun V hV => ⟨v, by rw [← hV, eW]; rfl⟩)
    · rw [if_neg k4]
      refine ⟨fun z => absurd rfl z, fun _ => stay M1 o1 t1 v ?_ a1⟩
      unfold gxWt
      rw [if_pos (by omega), if_neg k4]
theorem r_call {n : Int} {w0 : Int} {es : List gEx} (hX : gmX X o) (hO : gOld G Q) (hS : ∀ b ∈ S, 32 ≤ b ∧ b ≤ 126) (hw0 : w0 = -1 ∨ 14 ≤ w0 ∧ w0 < 52) (he : ∀ e ∈ es, (gxWf P R S.length e).1 ∧ (gxR e = false → gxGm l G X o L E T S P R e) ∧ 8 + gxH e ≤ d + 7) (hn : t + gxCl w0 es (es.map (fun x => (gxLn x).1)) ≤ 1000) (ht : M o 50 = (t : Int)) (hC : gmCx M o L E T S P R) (hnd : 0 ≤ n ∧ n < 90000) (h4 : M (o + 4) n.toNat = (es.length : Int)) (hch : gxCh M o L es (M (o + 3) n.toNat)) {a b : Nat} (hab : a ≤ b ∧ b ≤ 90000) (h6 : M (o + 6) n.toNat = (a : Int) * 1048576 + (b : Int)) (hnm : gNmW (gBy M (o + 1) a (b - a)) = w0) (h : gmPost M o t (gxCv E T w0 es (es.map (fun x => (gxEv E T S x).1))) k) : cV l G y_GM_call_2 (gRm (d + 9)) true [gR G o, gI n] X M k := by
  have gn : g32 n := ⟨by omega, by omega⟩
  have g6 : g64 ((a : Int) * 1048576 + (b : Int)) := ⟨by omega, by omega⟩
  have cl1 : 1 ≤ gxCl w0 es (es.map (fun x => (gxLn x).1)) := by
    unfold gxCl
    split
    · exact Nat.le_refl _
    · split
      · exact Nat.le_refl _
      · split
        · rename_i h1 h2 h3
          have hl := gxRt_len _ _ (gBtr h2)
          have : ∀ w, w < 52 → gWgr w = 5 → 2 ≤ (gTks w).length := by decide +kernel
          have := this w0.toNat (by omega) h3
          rw [List.length_map]
          omega
        · omega
  refine e_GM_call_2 (Q := Q) (d := d + 4) (w_GM_call_2_0 (d := d + 4) hX hO gn ⟨hnd, ?_⟩)
  rw [h6, show gLshr ((a : Int) * 1048576 + (b : Int)) 20 = (a : Int) by rw [show gLshr ((a : Int) * 1048576 + (b : Int)) 20 = ((a : Int) * 1048576 + (b : Int)) / 1048576 from gLshr_div (n := 20) g6 (by decide)]; omega, show gLand ((a : Int) * 1048576 + (b : Int)) 1048575 = (b : Int) by rw [gLand_20 (by omega) g6]; omega]
  refine fun _ => ⟨hnd, fun _ => r_takes (d := d + 3) hX hO hab hnm (fun e0 M2 o2 _ => ⟨fun z => absurd z (by decide), fun _ => ?_⟩) (fun i hi e0 M2 o2 m2 => ?_)⟩
  · rw [show gxCv E T w0 es (es.map (fun x => (gxEv E T S x).1)) = gE 3 from by unfold gxCv; rw [if_pos (by omega)]] at h
    have o2' : gOff (gmF o t) M M2 := o2.mono (fun a k q => by unfold gmF; omega)
    exact r_fault (d := d + 7) hX (by decide) (by omega) ((o2 _ _ (by omega)).trans ht) (h.pre o2')
  · rw [m2]
    refine fun _ => ⟨fun _ => ?_, fun z => absurd (by omega) z⟩
    obtain ⟨w, rfl⟩ : ∃ w : Nat, w = i + 14 := ⟨_, rfl⟩
    have ew : w0.toNat = i + 14 := by omega
    have o2' : gOff (gmF o t) M M2 := o2.mono (fun a k q => by unfold gmF; omega)
    have t2 : M2 o 50 = (t : Int) := (o2 _ _ (by omega)).trans ht
    have C2 := hC.keepF o2'
    have h4' : M2 (o + 4) n.toNat = (es.length : Int) := (o2 _ _ (by omega)).trans h4
    have h3' : M2 (o + 3) n.toNat = M (o + 3) n.toNat := o2 _ _ (by omega)
    have ch2 := gxCh_F o2' es _ hch
    have h2 := h.pre o2'
    clear h hC hch
    have hw2 : 14 ≤ i + 14 ∧ i + 14 < 52 := by omega
    have gl4 := gGl (i + 14) hw2.2
    have k1 := gNk_1 i hi
    have k4 := gNk_4 i hi
    have k5 := gNk_5 i hi
    generalize hp0 : gNk i + (gTi (i + 14)).length + 1 = p0 at k1 k4 k5
    have gp : g32 (p0 : Int) := ⟨by omega, by omega⟩
    have gi : g32 (i : Int) := ⟨by omega, by omega⟩
    have gsl : g32 (gSl (gWta (i + 14)) : Int) := ⟨by omega, by omega⟩
    -- behind the look at the arguments
    have s205 : ∀ x7 : Int, (x7 = 0 ∧ gxRt (gTks (i + 14)) es = false ∨ x7 = 1 ∧ gxRt (gTks (i + 14)) es = true) → wp l G y_GM_call_2 (gRm (d + 9)) true (kkV X k) true 205 [.val (gR G o), .val (gI n), .unset, .unset, .val (gI (p0 : Int)), .val (gI (i : Int)), .val (gI (gSl (gWta (i + 14)) : Int)), .val (gI x7), .unset, .unset, .unset, .unset, .unset, .unset, .unset] [] X M2 0 0 := by
      intro x7 h7
      refine w_GM_call_2_205 (d := d + 4) hX hO gn gp gi gsl ⟨by omega, by omega⟩ ⟨fun z => ?_, fun z => ?_⟩
      · have rt : gxRt (gTks (i + 14)) es = true := by
          rcases h7 with q | q
          · exact absurd q.1 z
          · exact q.2
        have ec : gxCv E T w0 es (es.map (fun x => (gxEv E T S x).1)) = (if gWgr (i + 14) = 5 then gxPi (i + 14) (es.map (fun x => (gxEv E T S x).1)) else gApp E (i + 14) (gxAv E T S (gTks (i + 14)) es)) := by
          unfold gxCv
          rw [if_neg (by omega), ew, if_neg (by rw [rt]; decide)]
          rfl
        have el : gxCl w0 es (es.map (fun x => (gxLn x).1)) = (if gWgr (i + 14) = 5 then (es.map (fun x => (gxLn x).1)).sum + 2 * es.length - 3 else (es.map (fun x => (gxLn x).1)).sum + 1) := by
          unfold gxCl
          rw [if_neg (by omega), ew, if_neg (by rw [rt]; decide), List.length_map]
        have lrt := gxRt_len _ _ rt
        have g5 : gWgr (i + 14) = 5 ↔ (i = 10 ∨ i = 11 ∨ i = 12) := by
          have : ∀ w, w < 52 → (gWgr w = 5 ↔ (w = 24 ∨ w = 25 ∨ w = 26)) := by decide +kernel
          have := this (i + 14) hw2.2
          omega
        have norm : ¬ (i = 10 ∨ i = 11 ∨ i = 12) → (g32 (M2 o 50) → ((0 ≤ n ∧ n < 90000) ∧ (g32 (M2 (o + 3) (Int.toNat n)) → (wp l G y_GM_call_2 (gRm (d + 9)) true (kkV X k) true 263 [.val (gR G o), .unset, .unset, .unset, .val (gI (p0 : Int)), .val (gI (i : Int)), .val (gI (gSl (gWta (i + 14)) : Int)), .unset, .val (gI (M2 (o + 3) (Int.toNat n))), .val (gI (M2 o 50)), .val (gI (-1)), .val (gI 0), .unset, .unset, .unset] [] X M2 0 0)))) := fun q => by
          have n5 : gWgr (i + 14) ≠ 5 := fun y => q (g5.mp y)
          rw [ec, if_neg n5] at h2
          rw [el, if_neg n5] at hn
          rw [t2, h3']
          refine fun _ => ⟨hnd, fun g3 => ?_⟩
          rw [← hp0]
          exact gm_263 (d := d) (s := t) (t := t + gSl (gWta (i + 14))) (w := i + 14) (E := E) (T := T) (S := S) (P := P) (R := R) (L := L) hX hO rfl hi n5 rfl hS rt (fun e hm => ⟨(he e hm).1, (he e hm).2.1, by have := (he e hm).2.2; omega⟩) rfl (by omega) t2 C2 ch2 g3 h2
        refine ⟨fun z2 => norm (by omega), fun z2 => ⟨fun z3 => norm (by omega), fun z3 => ⟨hnd, fun g3 => ?_⟩⟩⟩
        have i3 : i = 10 ∨ i = 11 ∨ i = 12 := by omega
        rw [ec, if_pos (g5.mpr i3)] at h2
        rw [el, if_pos (g5.mpr i3)] at hn
        have l2 : 2 ≤ es.length := by
          rw [← lrt]
          have : ∀ w, w < 52 → gWgr w = 5 → 2 ≤ (gTks w).length := by decide +kernel
          exact this _ hw2.2 (g5.mpr i3)
        have nr : ∀ x ∈ es, gxR x = false := by
          intro x hx
          obtain ⟨j, hj, rfl⟩ := List.mem_iff_getElem.mp hx
          have := gxRt_at _ _ j rt (by omega)
          have no114 : (gTks (i + 14)).getD j 0 ≠ 114 := by
            have q : ∀ j, j < (gTks (i + 14)).length → (gTks (i + 14)).getD j 0 ≠ 114 := by rcases i3 with e | e | e <;> rw [e] <;> decide
            exact q j (by omega)
          rw [if_neg no114, List.getD_eq_getElem?_getD, List.getElem?_eq_getElem hj] at this
          simpa using this
        rw [h3']
        exact r_choose (d := d) (w := i + 14) (E := E) (T := T) (S := S) (P := P) (R := R) (L := L) hX rfl i3 hS lrt.symm (fun e hm => ⟨(he e hm).1, nr e hm, (he e hm).2.1 (nr e hm), (he e hm).2.2⟩) (by omega) t2 C2 ch2 h2
      · have rf : gxRt (gTks (i + 14)) es = false := by
          rcases h7 with q | q
          · exact q.2
          · omega
        rw [show gxCv E T w0 es (es.map (fun x => (gxEv E T S x).1)) = gE 4 from by unfold gxCv; rw [if_neg (by omega), ew, if_pos rf]] at h2
        exact r_fault (d := d + 7) hX (by decide) (by omega) t2 h2
    -- each argument is looked at
    have s102 : ∀ (m j : Nat) (x7 n1 : Int), j + m = gSl (gWta (i + 14)) → g32 n1 → (x7 = 0 ∧ gxRt (gTks (i + 14)) es = false ∨ x7 = 1 ∧ es.length = gSl (gWta (i + 14)) ∧ gxRt (gTks (i + 14)) es = gxRt ((gTks (i + 14)).drop j) (es.drop j) ∧ gxCh M2 o L (es.drop j) n1) → wp l G y_GM_call_2 (gRm (d + 9)) true (kkV X k) true 102 [.val (gR G o), .val (gI n), .unset, .unset, .val (gI (p0 : Int)), .val (gI (i : Int)), .val (gI (gSl (gWta (i + 14)) : Int)), .val (gI x7), .val (gI n1), .val (gI (j : Int)), .unset, .unset, .unset, .unset, .unset] [] X M2 0 0 := by
      intro m
      induction m with
      | zero =>
        intro j x7 n1 hj gn1 h7
        refine w_GM_call_2_102 (d := d + 4) hX hO gn gp gi gsl ⟨by omega, by omega⟩ gn1 ⟨by omega, by omega⟩ ⟨fun z => s205 x7 ?_, fun z => ⟨fun _ => s205 x7 ?_, fun z2 => absurd (by omega) z2⟩⟩
        · rcases h7 with q | q
          · exact Or.inl q
          · omega
        · rcases h7 with q | ⟨q1, q2, q3, q4⟩
          · exact Or.inl q
          · refine Or.inr ⟨q1, ?_⟩
            rw [q3, List.drop_of_length_le (by show gSl (gWta (i + 14)) ≤ j; omega), List.drop_of_length_le (by omega)]
            rfl
      | succ m ih =>
        intro j x7 n1 hj gn1 h7
        rcases h7 with q | ⟨q1, q2, q3, q4⟩
        · exact w_GM_call_2_102 (d := d + 4) hX hO gn gp gi gsl ⟨by omega, by omega⟩ gn1 ⟨by omega, by omega⟩ ⟨fun z => s205 x7 (Or.inl q), fun z => absurd q.1 z⟩
        · have hje : j < es.length := by omega
          have hd : es.drop j = es.getD j (.num 0) :: es.drop (j + 1) := by
            rw [List.getD_eq_getElem?_getD, List.getElem?_eq_getElem hje]
            exact List.drop_eq_getElem_cons hje
          have hjl : j < (gTks (i + 14)).length := by show j < gSl (gWta (i + 14)); omega
          have hdl : (gTks (i + 14)).drop j = gSc (gWta (i + 14)) j :: (gTks (i + 14)).drop (j + 1) := by
            show _ = (gTks (i + 14)).getD j 0 :: _
            rw [List.getD_eq_getElem?_getD, List.getElem?_eq_getElem hjl]
            exact List.drop_eq_getElem_cons hjl
          rw [hd] at q4
          rw [hd, hdl, show gxRt (gSc (gWta (i + 14)) j :: (gTks (i + 14)).drop (j + 1)) (es.getD j (.num 0) :: es.drop (j + 1)) = ((if gSc (gWta (i + 14)) j = 114 then gxR (es.getD j (.num 0)) || gxV (es.getD j (.num 0)) else !gxR (es.getD j (.num 0))) && gxRt ((gTks (i + 14)).drop (j + 1)) (es.drop (j + 1))) from rfl] at q3
          have wf := (he _ (gxGet (E := E) (T := T) (S := S) es j hje).2).1
          have srt := gxNd_sort wf q4.1
          have kj := k5 j (by omega)
          -- to the next
          have nxt : ∀ x7' : Int, (x7' = 0 ∧ (if gSc (gWta (i + 14)) j = 114 then gxR (es.getD j (.num 0)) || gxV (es.getD j (.num 0)) else !gxR (es.getD j (.num 0))) = false ∨ x7' = 1 ∧ (if gSc (gWta (i + 14)) j = 114 then gxR (es.getD j (.num 0)) || gxV (es.getD j (.num 0)) else !gxR (es.getD j (.num 0))) = true) → g32 (M2 (o + 5) n1.toNat) → wp l G y_GM_call_2 (gRm (d + 9)) true (kkV X k) true 102 [.val (gR G o), .val (gI n), .unset, .unset, .val (gI (p0 : Int)), .val (gI (i : Int)), .val (gI (gSl (gWta (i + 14)) : Int)), .val (gI x7'), .val (gI (M2 (o + 5) n1.toNat)), .val (gI ((j : Int) + 1)), .unset, .unset, .unset, .unset, .unset] [] X M2 0 0 := by
            intro x7' hx g5
            have := ih (j + 1) x7' (M2 (o + 5) n1.toNat) (by omega) g5 (by
              rcases hx with y | y
              · refine Or.inl ⟨y.1, ?_⟩
                rw [q3, y.2]; rfl
              · refine Or.inr ⟨y.1, q2, ?_, q4.2⟩
                rw [q3, y.2]; rfl)
            rw [show ((j + 1 : Nat) : Int) = (j : Int) + 1 by omega] at this
            exact this
          refine w_GM_call_2_102 (d := d + 4) hX hO gn gp gi gsl ⟨by omega, by omega⟩ gn1 ⟨by omega, by omega⟩ ⟨fun z => by omega, fun z => ⟨fun z2 => by omega, fun z2 => ?_⟩⟩
          rw [w32_id (x := (p0 : Int) + (j : Int)) ⟨by omega, by omega⟩, show ((p0 : Int) + (j : Int)).toNat = p0 + j by omega, w32_id (x := (j : Int) + 1) ⟨by omega, by omega⟩]
          have bn := srt.1
          refine ⟨⟨by omega, by rw [gSl7]; omega⟩, fun y => ⟨fun _ => ⟨bn, fun _ => ⟨fun y3 => ⟨bn, fun g5 => nxt 0 (Or.inl ⟨rfl, ?_⟩) g5⟩, fun y3 => ⟨bn, fun g5 => nxt 1 (Or.inr ⟨rfl, ?_⟩) g5⟩⟩⟩, fun y2 => absurd rfl y2⟩, fun y => ⟨fun y2 => absurd y2 (by decide), fun _ => ⟨bn, fun _ => ⟨fun y3 => ⟨bn, fun g5 => nxt 1 (Or.inr ⟨rfl, ?_⟩) g5⟩, fun y3 => ⟨bn, fun _ => ⟨fun y4 => ⟨bn, fun g5 => nxt 0 (Or.inl ⟨rfl, ?_⟩) g5⟩, fun y4 => ⟨bn, fun g5 => nxt 1 (Or.inr ⟨rfl, ?_⟩) g5⟩⟩⟩⟩⟩⟩⟩
          · rw [if_neg (fun q => y (kj.1.mpr q)), srt.2.1.mp y3]; rfl
          · rw [if_neg (fun q => y (kj.1.mpr q)), gBf (fun q => y3 (srt.2.1.mpr q))]; rfl
          · rw [if_pos (kj.1.mp y), srt.2.1.mp y3]; rfl
          · rw [if_pos (kj.1.mp y), gBf (fun q => y3 (srt.2.1.mpr q)), gBf (fun q => y4 (srt.2.2.mpr q))]; rfl
          · rw [if_pos (kj.1.mp y), srt.2.2.mp y4, Bool.or_true]
    have s51 : ∀ (m j : Nat), j + m = gSl (gWta (i + 14)) → wp l G y_GM_call_2 (gRm (d + 9)) true (kkV X k) true 51 [.val (gR G o), .val (gI n), .unset, .unset, .val (gI (p0 : Int)), .val (gI (i : Int)), .val (gI (j : Int)), .unset, .unset, .unset, .unset, .unset, .unset, .unset, .unset] [] X M2 0 0 := by
      intro m
      induction m with
      | zero =>
        intro j hj
        have e : j = gSl (gWta (i + 14)) := by omega
        subst e
        refine w_GM_call_2_51 (d := d + 4) hX hO gn gp gi gsl ?_
        rw [w32_id (x := (p0 : Int) + (gSl (gWta (i + 14)) : Int)) ⟨by omega, by omega⟩, show ((p0 : Int) + (gSl (gWta (i + 14)) : Int)).toNat = gNk (i + 1) - 1 by omega, k1.2.2.2, h4']
        refine ⟨⟨by omega, by rw [gSl7]; omega⟩, fun _ => ⟨hnd, fun _ => ⟨fun z => ⟨hnd, fun g3 => s102 (gSl (gWta (i + 14))) 0 0 _ (by omega) g3 (Or.inl ⟨rfl, ?_⟩)⟩, fun z => ⟨hnd, fun g3 => s102 (gSl (gWta (i + 14))) 0 1 _ (by omega) g3 (Or.inr ⟨rfl, by omega, rfl, ?_⟩)⟩⟩⟩, fun z => absurd rfl z⟩
        · refine gBf (fun q => z ?_)
          have := gxRt_len _ _ q
          have : gSl (gWta (i + 14)) = es.length := this
          omega
        · rw [h3']
          exact ch2
      | succ m ih =>
        intro j hj
        have i1 := ih (j + 1) (by omega)
        have kj := k5 j (by omega)
        refine w_GM_call_2_51 (d := d + 4) hX hO gn gp gi ⟨by omega, by omega⟩ ?_
        rw [w32_id (x := (p0 : Int) + (j : Int)) ⟨by omega, by omega⟩, show ((p0 : Int) + (j : Int)).toNat = p0 + j by omega, w32_id (x := (j : Int) + 1) ⟨by omega, by omega⟩]
        refine ⟨⟨by omega, by rw [gSl7]; omega⟩, fun z => absurd z kj.2.2.2.2, fun _ => ?_⟩
        rw [show ((j + 1 : Nat) : Int) = (j : Int) + 1 by omega] at i1
        exact i1
    exact s51 (gSl (gWta (i + 14))) 0 (by omega)
end gcL
