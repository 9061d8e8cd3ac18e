/-! The constructors of the reference, of Results and of the class itself. -/
abbrev qGM : List (Nat × Nat × Nat) := [(1, 2, 90000), (4, 0, 90000), (5, 0, 90000), (6, 0, 90000), (7, 0, 90000), (8, 1, 90000), (10, 0, 4200), (11, 0, 4200), (12, 0, 4200), (14, 0, 45000), (15, 0, 45000), (16, 0, 45000), (18, 0, 101), (19, 0, 101), (20, 0, 101), (21, 0, 101), (22, 0, 101), (23, 1, 101), (28, 0, 218400), (29, 0, 218400), (30, 0, 218400), (31, 0, 218400), (32, 1, 218400), (33, 0, 873600), (34, 0, 42), (38, 0, 5200), (39, 0, 5200), (40, 0, 5200), (41, 0, 5200), (42, 1, 5200), (43, 1, 5200), (44, 2, 332800), (45, 2, 332800), (46, 0, 1200), (47, 0, 1200), (48, 1, 1200), (49, 2, 76800), (53, 2, 64), (60, 2, 4200), (61, 0, 400), (62, 0, 5200), (63, 1, 2800), (64, 3, 400), (67, 1, 2800), (68, 0, 5200), (71, 2, 240)]
section gCtor3
variable {l : Launch} {G : gG} {d : Nat} {X : gX} {M : gM} {K : Outcome → gX → gM → Prop}
theorem qGM_f : ∀ q ∈ gmTab, (0, q.1, q.2.1) ∈ gBF 0 0 qGM [] := by decide +kernel
theorem qGM_s : ∀ q ∈ gmTab, (q.2.1, q.2.2.1, q.2.2.2) ∈ gBS 0 qGM [(0, 7, 73)] := by decide +kernel
theorem qGM_n : (qGM.map (·.1)).Nodup := by decide +kernel
set_option maxRecDepth 100000 in
theorem c_GM_init {o : Nat} (h1 : 1 ≤ o) (ho : X.1 = o) (hs : X.2.1 o = (7, 73)) (hz : gFr X M) (k : ∀ X', X'.1 = o + 46 → gmX X' o → gGw X X' o → gFr X' M → K (.returned none) X' M) : gCt l G y_GM_init (gRk (d + 1) 46 3452352) true [gR G o] X M K := by
  have hb := gKn.bld (i := 0) qGM (gKn.one (by omega) hs) (j := 0) ho (Nat.le_refl 0) qGM_n (fun q hq => absurd hq List.not_mem_nil)
  have e1 : (gBld X (o + 0) qGM).1 = o + 46 := by rw [gBld_1, ho]; rfl
  refine me_GM_init (m_GM_init_0 h1 (by omega) hs hz ?_)
  refine k (gBld X (o + 0) qGM) e1 ⟨h1, by omega, ?_, fun q hq => ⟨hb.f (i := 0) (qGM_f q hq), hb.s (qGM_s q hq), by omega, hb.l (qGM_s q hq)⟩⟩ (gBld_w _ qGM X) (gBld_z _ qGM X hz)
  exact ((gBld_w (o + 0) qGM X).2.1 o (by omega)).trans hs
abbrev kF1 : List (Nat × Nat × Nat) := [(0, 0, 1)]
abbrev kS1 : List (Nat × Nat × Nat) := [(1, 2, 240), (0, 6, 12)]
abbrev kF4 : List (Nat × Nat × Nat) := (0, 2, 2) :: gBF 2 2 qCn kF1
abbrev kS3 : List (Nat × Nat × Nat) := gBS 2 qCn ((2, 9, 15) :: kS1)
abbrev kF6 : List (Nat × Nat × Nat) := (0, 3, 14) :: (14, 2, 16) :: (16, 0, 1) :: gBF 16 16 qTk ((14, 1, 2) :: (14, 0, 1) :: (14, 3, 15) :: kF4)
abbrev kS5 : List (Nat × Nat × Nat) := gBS 16 qTk ((16, 16, 6) :: (15, 0, 84) :: (14, 13, 6) :: kS3)
abbrev kF9 : List (Nat × Nat × Nat) := (0, 6, 23) :: (0, 4, 21) :: (21, 0, 2) :: (21, 1, 22) :: kF6
abbrev kS9 : List (Nat × Nat × Nat) := (23, 5, 41) :: (22, 0, 50) :: (21, 10, 8) :: kS5
abbrev kFr : List (Nat × Nat × Nat) := (0, 7, 229) :: kF9
abbrev kSr : List (Nat × Nat × Nat) := (234, 14, 8) :: kS9
abbrev kFo : List (Nat × Nat × Nat) := (234, 2, 1047) :: (1047, 0, 2) :: gBF 1047 1047 qOr ((234, 6, 24) :: (234, 5, 642) :: (234, 4, 237) :: (234, 1, 236) :: (234, 0, 235) :: kFr)
abbrev kSo : List (Nat × Nat × Nat) := gBS 1047 qOr ((1047, 12, 13) :: (236, 0, 800) :: (235, 0, 5200) :: kSr)
abbrev kFe : List (Nat × Nat × Nat) := (234, 3, 1057) :: (1057, 3, 1167) :: (1167, 2, 237) :: (1167, 1, 235) :: (1167, 0, 1058) :: (1057, 4, 24) :: (1057, 2, 2) :: (1057, 1, 1166) :: (1057, 0, 1058) :: kFo
abbrev kSe : List (Nat × Nat × Nat) := (1167, 8, 7) :: (1166, 2, 64) :: (1057, 11, 7) :: kSo
set_option maxRecDepth 100000 in
set_option maxHeartbeats 4000000 in
theorem c_Rs_init (hok : gOk l G) {c : Nat} (h1 : 1 ≤ c) (hk : gKn X c kFr kSr) (hj : X.1 = c + 234) (hz : gFr X M)
    (k : ∀ X', X'.1 = c + 1167 → gKn X' c kFe kSe → gvX X' (c + 237) 401 → gvX X' (c + 642) 401 → gvX X' (c + 1058) 104 → gGw X X' (c + 234) → gFr X' (gFl M (c + 235) 0 (fun _ => 400) 5200) → K (.returned none) X' (gFl M (c + 235) 0 (fun _ => 400) 5200)) :
    gCt l G y_Rs_init (gRk (d + 3) 933 72802) true [gR G (c + 234), gR G (c + 2), gR G (c + 24)] X M K := by
  have hs : X.2.1 (c + 234) = (14, 8) := hk.s (by decide)
  refine me_Rs_init (m_Rs_init_0 (by omega) (by omega) hs hz (by omega) (by omega) ?_)
  have a1 := hk.mk (i := 234) (j := 234) (k := 0) (sh := (0, 5200)) hj (Nat.le_refl _) (by decide)
  have a2 := a1.mk (i := 234) (j := 235) (k := 1) (sh := (0, 800)) (by show X.1 + 1 = _; omega) (by decide) (by decide)
  have z2 : gFr (gMk (gMk X (c + 234) 0 (0, 5200)) (c + 234) 1 (0, 800)) M := (hz.mk _ _ _).mk _ _ _
  have w2 : gGw X (gMk (gMk X (c + 234) 0 (0, 5200)) (c + 234) 1 (0, 800)) (c + 234) := (gGw.mk _ _ _ _).tr (gGw.mk _ _ _ _)
  have f2 : (gMk (gMk X (c + 234) 0 (0, 5200)) (c + 234) 1 (0, 800)).1 = c + 236 := by show X.1 + 1 + 1 = _; omega
  generalize gMk (gMk X (c + 234) 0 (0, 5200)) (c + 234) 1 (0, 800) = Y at a2 z2 w2 f2 ⊢
  have e2 : Y.1 + 1 = c + 237 := by omega
  rw [e2]
  refine c_Vl_init (n := 401) hok (by omega) (by show Y.1 + 1 = _; omega) (by rw [← e2]; exact gNw_n Y _) (z2.nw _) (by decide) (fun X1 f1 hv hg hz1 => ?_)
  rw [← e2] at hg
  have w1 := w2.tr (hg.new (c + 234))
  have b1 := a2.gro (hg.new (Y.1 + 1)) (by omega)
  refine ⟨rfl, by omega, b1.s (i := 234) (by decide), hz1, ?_⟩
  have b2 := gKn.gu b1 (i := 234) (k := 4) (t := 237) rfl rfl (by omega) (by decide)
  have v1 := hv.grow (gGw.gu X1 (c + 234) 4 (c + 237)) (by omega) (by omega)
  have w3 := w1.tr (gGw.gu X1 (c + 234) 4 (c + 237))
  have f3 : (gGu X1 (c + 234) 4 (c + 237)).1 = c + 641 := by show X1.1 = _; omega
  have z3 := hz1.gu (c + 234) 4 (c + 237)
  generalize gGu X1 (c + 234) 4 (c + 237) = Z at b2 v1 w3 f3 z3 ⊢
  have e3 : Z.1 + 1 = c + 642 := by omega
  rw [e3]
  refine c_Vl_init (n := 401) hok (by omega) (by show Z.1 + 1 = _; omega) (by rw [← e3]; exact gNw_n Z _) (z3.nw _) (by decide) (fun X7 f7 hv7 hg7 hz7 => ?_)
  rw [← e3] at hg7
  have w7 := w3.tr (hg7.new (c + 234))
  have b7 := b2.gro (hg7.new (Z.1 + 1)) (by omega)
  have v7 := v1.grow (hg7.new (Z.1 + 1)) (by omega) (by omega)
  refine ⟨rfl, by omega, b7.s (i := 234) (by decide), hz7, ?_⟩
  have b8 := gKn.gu (gKn.gu b7 (i := 234) (k := 5) (t := 642) rfl rfl (by omega) (by decide)) (i := 234) (k := 6) (t := 24) rfl rfl (by show c + 234 ≤ X7.1; omega) (by decide)
  have g8 := (gGw.gu X7 (c + 234) 5 (c + 642)).tr (gGw.gu _ (c + 234) 6 (c + 24))
  have f8 : (gGu (gGu X7 (c + 234) 5 (c + 642)) (c + 234) 6 (c + 24)).1 = c + 1046 := by show X7.1 = _; omega
  have z8 := (hz7.gu (c + 234) 5 (c + 642)).gu (c + 234) 6 (c + 24)
  have v8 := v7.grow g8 (by omega) (by omega)
  have u8 := hv7.grow g8 (by omega) (by omega)
  have w8 := w7.tr g8
  generalize gGu (gGu X7 (c + 234) 5 (c + 642)) (c + 234) 6 (c + 24) = P at b8 f8 z8 v8 u8 w8 ⊢
  have e8 : P.1 + 1 = c + 1047 := by omega
  rw [e8]
  refine c_Or_init h1 (b8.nw (sh := (12, 13)) (j := 1046) f8) (by show P.1 + 1 = _; omega) (by decide) (z8.nw _) (by decide) (fun X13 f13 b13 g13 z13 => ?_)
  rw [← e8] at g13
  have w13 := w8.tr (g13.new (c + 234))
  have v13 := v8.grow (g13.new (P.1 + 1)) (by omega) (by omega)
  have u13 := u8.grow (g13.new (P.1 + 1)) (by omega) (by omega)
  refine ⟨rfl, by omega, b13.s (i := 234) (by decide), z13, ?_⟩
  have b14 := gKn.gu b13 (i := 234) (k := 2) (t := 1047) rfl rfl (by omega) (by decide)
  have g14 := gGw.gu X13 (c + 234) 2 (c + 1047)
  have f14 : (gGu X13 (c + 234) 2 (c + 1047)).1 = c + 1056 := f13
  have z14 := z13.gu (c + 234) 2 (c + 1047)
  have v14 := v13.grow g14 (by omega) (by omega)
  have u14 := u13.grow g14 (by omega) (by omega)
  have w14 := w13.tr g14
  generalize gGu X13 (c + 234) 2 (c + 1047) = Q at b14 f14 z14 v14 u14 w14 ⊢
  have e14 : Q.1 + 1 = c + 1057 := by omega
  have b15 := b14.nw (sh := (11, 7)) (j := 1056) f14
  have r0 : (gNw Q (11, 7)).2.2 (c + 234) 0 = c + 235 := b15.f (by decide)
  have r4 : (gNw Q (11, 7)).2.2 (c + 234) 4 = c + 237 := b15.f (by decide)
  rw [e14, r0, r4]
  refine c_Ma_init hok h1 b15 (by show Q.1 + 1 = _; omega) (by decide) (z14.nw _) (by decide) (fun X19 f19 b19 t19 g19 z19 => ?_)
  rw [← e14] at g19
  have w19 := w14.tr (g19.new (c + 234))
  have v19 := v14.grow (g19.new (Q.1 + 1)) (by omega) (by omega)
  have u19 := u14.grow (g19.new (Q.1 + 1)) (by omega) (by omega)
  refine ⟨rfl, by omega, b19.s (i := 234) (by decide), z19, ?_⟩
  have b20 : gKn (gGu X19 (c + 234) 3 (c + 1057)) c kFe kSe := gKn.gu b19 (i := 234) (k := 3) (t := 1057) rfl rfl (by omega) (by decide)
  have g20 := gGw.gu X19 (c + 234) 3 (c + 1057)
  have f20 : (gGu X19 (c + 234) 3 (c + 1057)).1 = c + 1167 := f19
  have z20 := z19.gu (c + 234) 3 (c + 1057)
  have v20 := v19.grow g20 (by omega) (by omega)
  have u20 := u19.grow g20 (by omega) (by omega)
  have t20 := t19.grow g20 (by omega) (by omega)
  have w20 := w19.tr g20
  generalize gGu X19 (c + 234) 3 (c + 1057) = R at b20 f20 z20 v20 u20 t20 w20 ⊢
  have hsR : R.2.1 (c + 234) = (14, 8) := b20.s (by decide)
  have hrR : R.2.2 (c + 234) 0 = c + 235 := b20.f (by decide)
  have haR : R.2.1 (c + 235) = (0, 5200) := b20.s (by decide)
  have hzR : ∀ p, gFr R (gFl M (c + 235) 0 (fun _ => 400) p) := fun p b j hb => by
    rw [gFl_a (by omega)]
    exact z20 b j hb
  have key : ∀ (n p : Nat), p + n = 5200 → wp l G y_Rs_init (gRk (d + 3) 933 72802) true K true 90 [.val (gR G (c + 234)), .unset, .unset, .val (gI (p : Int))] [] R (gFl M (c + 235) 0 (fun _ => 400) p) (0 + 1 + 1 + 1 + 404 + 1 + 404 + 1 + 9 + 1 + 110) (0 + 5200 + 800 + 3 + 26867 + 3 + 26867 + 13 + 6000 + 7 + 7042) := by
    intro n
    induction n with
    | zero =>
      intro p hp
      obtain rfl : p = 5200 := by omega
      refine m_Rs_init_90 (by omega) (by omega) hsR (hzR _) (r1 := 1) (by decide) (r2 := 1) (by decide) (by unfold g32; omega) ⟨fun _ => ⟨⟨by decide, by decide⟩, ?_⟩, fun h => absurd (by decide) h⟩
      exact k R f20 b20 v20 u20 t20 w20 (hzR _)
    | succ n ih =>
      intro p hp
      refine m_Rs_init_90 (by omega) (by omega) hsR (hzR _) (r1 := 1) (by decide) (r2 := 1) (by decide) (by unfold g32; omega) ⟨fun h => absurd h (by omega), fun _ => ⟨⟨?_, by omega, by omega⟩, ?_⟩⟩
      · rw [hrR]; exact ⟨by omega, by omega, haR⟩
      · have e : w32 ((p : Int) + 1) = ((p + 1 : Nat) : Int) := by rw [w32_id (by unfold g32; omega)]; omega
        rw [e, hrR, Int.toNat_natCast]
        have e9 := gFl_s M (c + 235) 0 (fun _ => 400) p
        rw [Nat.zero_add] at e9
        rw [e9]
        exact ih (p + 1) (by omega)
  have k0 := key 5200 0 (by omega)
  rw [gFl_0] at k0
  exact k0
end gCtor3
