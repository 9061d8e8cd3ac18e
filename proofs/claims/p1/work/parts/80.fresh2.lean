/-! put, fill, insert, erase on a fresh object. -/
theorem gLd_a {M : gM} {c a : Nat} (h : a ≠ c) (j : Nat) : gLd M c a j = M a j := by
  unfold gLd
  rw [gUp_a h, gUp_a h, gUp_a h, gUp_a h]
theorem gLd_8 (M : gM) (c : Nat) : gLd M c c 8 = 1 := by
  unfold gLd
  rw [gUp_k (by decide), gUp_k (by decide), gUp_k (by decide), gUp_eq]
section gFresh2
variable {l : Launch} {G : gG} {d Nr : Nat} {X : gX} {M : gM} {K : Outcome → gX → gM → Prop} {c : Nat}
/-- the graph behind Edits.open on a fresh object -/
def gOp (X : gX) (c : Nat) : gX := gGu (gGu X (c + 21) 2 (c + 24)) (c + 21) 3 (c + 229)
theorem gOp_s (X : gX) (c : Nat) : gSm c X (gOp X c) := ((gSm.rf c X).gu (a := c + 21) 2 (c + 24) (by omega)).gu (a := c + 21) 3 (c + 229) (by omega)
theorem gOp_w (X : gX) (c : Nat) : gGw X (gOp X c) (c + 21) := (gGw.gu X (c + 21) 2 (c + 24)).tr (gGw.gu _ (c + 21) 3 (c + 229))
theorem gOp_g {X : gX} {c : Nat} (h : glX X c) : glX (gOp X c) c := (h.gu (i := 21) (k := 2) (c + 24) (by decide) ⟨by decide, by decide⟩).gu (i := 21) (k := 3) (c + 229) (by decide) ⟨by decide, by decide⟩
theorem gOp_e {X : gX} {c : Nat} (hX : gNew X c) (hM : gZ0 M c) : gEe (gOp X c) M c (c + 24) (c + 229) := by
  have w := gOp_w X c
  have h24 : gsX X (c + 24) := (hX.2.1 0 (by decide)).2
  refine ⟨⟨(gGu_o _ _ (by omega)).trans (gGu_k _ _ _ _), h24.grow w (by omega)⟩, ⟨gGu_k _ _ _ _, hX.2.2.1.2.grow w (by omega)⟩, hM.z 24 0 (by decide), hM.z 229 0 (by decide), hM.z 27 0 (by decide), hM.z 232 0 (by decide)⟩
/-- Edits.open, then what follows it -/
theorem z_open (hX : gNew X c) (hM : gZ0 M c) {k : gX → gM → Prop} (hk : k (gOp X c) M) : cX l G y_Ed_open (gRm d) true [gR G (c + 21), gR G (X.2.2 (c + 23) (Int.toNat (M c 8))), gR G (X.2.2 c 7)] X M k := by
  have z8 : M c 8 = 0 := hM.z 0 8 (by decide)
  have e1 : X.2.2 (c + 23) (Int.toNat 0) = c + 24 := (hX.2.1 0 (by decide)).1
  rw [z8, e1, hX.2.2.1.1]
  refine c_Ed_open hX.1 (hX.2.1 0 (by decide)).2 hX.2.2.1.2 (by omega) ?_
  rw [gUp_id (hM.z 229 0 (by decide))]
  exact hk
theorem z_lf (hl : gOk l G) (hX : gNew X c) (hM : gZ0 M c) {M1 : gM} (hs : ∀ a j, a ≠ c + 21 → M1 a j = M a j) (hk : ∀ X', gSm c X X' → glX X' c → K (.returned (some (gI 0))) X' (gLd M1 c)) :
    cX l G y_GL_land (gRm (d + 8)) true [gR G c, gI 1] (gOp X c) M1 (fun X43 M42 => glX X43 c ∧ (g32 (M42 c 8) → (((0 : Int) ≤ M42 c 8 ∧ M42 c 8 < 41) ∧ gsX X43 (X43.2.2 (c + 23) (Int.toNat (M42 c 8))) ∧ (cXI l G y_Rs_follow (gRm (d + 8)) true [gR G (c + 234), gR G (X43.2.2 (c + 23) (Int.toNat (M42 c 8)))] X43 M42 (fun v49 X51 M48 => glX X51 c ∧ (K (.returned (some (gI v49))) X51 M48)))))) := by
  have w := gOp_w X c
  have g := gOp_g hX.1
  have z : ∀ a k, a ≤ 1167 ∧ a ≠ 2 ∧ a ≠ 235 → a ≠ 21 → M1 (c + a) k = 0 := fun a k h1 h2 => (hs _ _ (by omega)).trans (hM.z a k h1)
  have lx : ∀ b, b ≤ 1167 → c + b ≤ X.1 := fun b hb => gl_2 hX.1 hb
  have r1 : (gOp X c).2.2 (c + 23) 1 = c + 29 := (w.2.2 _ _ (lx 23 (by decide)) (by omega)).trans (hX.2.1 1 (by decide)).1
  have s1 : gsX (gOp X c) (c + 29) := (hX.2.1 1 (by decide)).2.grow w (by omega)
  have r4 : (gOp X c).2.2 c 7 = c + 229 := (w.2.2 _ _ (lx 0 (by decide)) (by omega)).trans hX.2.2.1.1
  have s4 : gsX (gOp X c) (c + 229) := hX.2.2.1.2.grow w (by omega)
  refine z_land hl g ⟨r1, s1⟩ ⟨r4, s4⟩ ⟨by omega, by omega⟩ (z 0 8 (by decide) (by decide)) (z 0 9 (by decide) (by decide)) (z 0 11 (by decide) (by decide)) ?_
  have g2 : glX (gGu (gGu (gOp X c) (c + 23) 1 (c + 229)) c 7 (c + 29)) c := (g.gu (i := 23) (k := 1) (c + 229) (by decide) ⟨by decide, by decide⟩).gu (i := 0) (k := 7) (c + 29) (by decide) ⟨by decide, by decide⟩
  have w1 := gGw.gu (gOp X c) (c + 23) 1 (c + 229)
  have w2 := gGw.gu (gGu (gOp X c) (c + 23) 1 (c + 229)) c 7 (c + 29)
  have q1 : (gGu (gGu (gOp X c) (c + 23) 1 (c + 229)) c 7 (c + 29)).2.2 (c + 23) 1 = c + 229 := (gGu_o _ _ (by omega)).trans (gGu_k _ _ _ _)
  have m2 : gSm c X (gGu (gGu (gOp X c) (c + 23) 1 (c + 229)) c 7 (c + 29)) := ((gOp_s X c).gu (a := c + 23) 1 (c + 229) (by omega)).gu (a := c) 7 (c + 29) (by omega)
  have up : ∀ b j, b ≤ 1167 → b ≠ 21 → b ≠ 23 → b ≠ 0 → (gGu (gGu (gOp X c) (c + 23) 1 (c + 229)) c 7 (c + 29)).2.2 (c + b) j = X.2.2 (c + b) j := fun b j h1 h2 h3 h4 => (gGu_o _ _ (by omega)).trans ((gGu_o _ _ (by omega)).trans (w.2.2 _ _ (lx b h1) (by omega)))
  have t229 : gsX (gGu (gGu (gOp X c) (c + 23) 1 (c + 229)) c 7 (c + 29)) (c + 229) := (s4.grow w1 (by omega)).grow w2 (by omega)
  have t24 : gsX (gGu (gGu (gOp X c) (c + 23) 1 (c + 229)) c 7 (c + 29)) (c + 24) := (((hX.2.1 0 (by decide)).2.grow w (by omega)).grow w1 (by omega)).grow w2 (by omega)
  have v237 : gvX (gGu (gGu (gOp X c) (c + 23) 1 (c + 229)) c 7 (c + 29)) (c + 237) 401 := ((hX.2.2.2.1.2.grow w (by omega) (by omega)).grow w1 (by omega) (by omega)).grow w2 (by omega) (by omega)
  have v642 : gvX (gGu (gGu (gOp X c) (c + 23) 1 (c + 229)) c 7 (c + 29)) (c + 642) 401 := ((hX.2.2.2.2.1.2.grow w (by omega) (by omega)).grow w1 (by omega) (by omega)).grow w2 (by omega) (by omega)
  generalize gGu (gGu (gOp X c) (c + 23) 1 (c + 229)) c 7 (c + 29) = Y at g2 q1 m2 up t229 t24 v237 v642 ⊢
  refine ⟨g2, fun _ => ?_⟩
  have t1 : Int.toNat 1 = 1 := rfl
  rw [gLd_8, t1, q1]
  refine ⟨⟨by decide, by decide⟩, t229, ?_⟩
  have y : ∀ a k, a ≤ 1167 ∧ a ≠ 2 ∧ a ≠ 235 → a ≠ 21 ∧ a ≠ 0 → gLd M1 c (c + a) k = 0 := fun a k h1 h2 => (gLd_a (by omega) k).trans (z a k h1 h2.1)
  refine z_follow (r2 := c + 24) (v := c + 237) (b := c + 642) g2 t229 ⟨(up 234 6 (by decide) (by decide) (by decide) (by decide)).trans hX.2.2.2.2.2.1, t24⟩ ⟨(up 234 4 (by decide) (by decide) (by decide) (by decide)).trans hX.2.2.2.1.1, v237⟩ ⟨(up 234 5 (by decide) (by decide) (by decide) (by decide)).trans hX.2.2.2.2.1.1, v642⟩ ⟨by omega, by omega, by omega, by omega⟩ ⟨by omega, by omega, by omega⟩ ⟨by omega, by omega⟩ ⟨by omega, by omega, by omega, by omega⟩ (y 229 0 (by decide) (by decide)) (y 24 0 (by decide) (by decide)) (y 234 7 (by decide) (by decide)) (y 1047 10 (by decide) (by decide)) (y 1047 12 (by decide) (by decide)) (fun X' m' g' => ⟨g', hk X' (m2.tr m') g'⟩)
theorem z_typed (hX : glX X c) {k : Int → gM → Prop} (hk : k 0 M) : cI l G y_Rd_typed (gRm (d + 1)) true [gR G (c + 14), gI 0] X M k :=
  e_Rd_typed (w_Rd_typed_0 hX g32_0 ⟨fun h => absurd rfl h, fun _ => hk⟩)
theorem f_GL_put (hl : gOk l G) (hN : 1 ≤ Nr) (hX : gNew X c) (hM : gZ0 M c) (hz : gFr X M) {x y : Int} (hx : g32 x) (hy : g32 y) (k1 : gIs x y → ∀ X', gSm c X X' → glX X' c → K (.returned (some (gI 0))) X' (gLd M c)) (k0 : ¬ gIs x y → K (.threw (G.2.2.1 + (X.1 + 1))) (gNw X (19, 0)) M) : gCt l G y_GL_put (gRr (d + 10) Nr) true [gR G c, gI x, gI y] X M K := by
  have z1 : M c 1 = 0 := hM.z 0 1 (by decide)
  refine eu_GL_put (d := d + 2) (u_GL_put_0 hX.1 hx hy (fun _ => ?_))
  rw [gUp_id z1, z1]
  by_cases h : gIs x y
  · have hp : (0 : Int) ≤ x + 26 * y ∧ x + 26 * y < 5200 := by unfold gIs at h; omega
    have b8 : (0 : Int) ≤ M c 8 ∧ M c 8 < 41 := by rw [show M c 8 = 0 from hM.z 0 8 (by decide)]; decide
    have g8 : gsX X (X.2.2 (c + 23) (Int.toNat (M c 8))) := by
      rw [show M c 8 = 0 from hM.z 0 8 (by decide), show X.2.2 (c + 23) (Int.toNat 0) = c + 24 from (hX.2.1 0 (by decide)).1]
      exact (hX.2.1 0 (by decide)).2
    have g7 : gsX X (X.2.2 c 7) := by rw [hX.2.2.1.1]; exact hX.2.2.1.2
    refine Or.inr (c_cell1 hl h (z_typed hX.1 ⟨fun e => absurd e (by decide), fun _ => Or.inr (c_need1 hl (fun _ => ⟨b8, g8, g7, z_open hX hM ⟨gOp_g hX.1, fun e => absurd e (by decide), fun _ => c_GL_place h (z_replaced (gOp_g hX.1) (gOp_e hX hM) (hM.z 6 0 (by decide)) (hM.z 7 0 (by decide)) hp ⟨fun e => absurd e (by decide), fun _ => Or.inr ?_⟩)⟩⟩))⟩))
    exact z_lf (d := d + 1) hl hX hM (fun _ _ _ => rfl) (k1 h)
  · exact Or.inl (c_cell0 hl hN hz hx hy h (k0 h))
theorem f_GL_fill (hl : gOk l G) (hN : 1 ≤ Nr) (hX : gNew X c) (hM : gZ0 M c) (hz : gFr X M) {x y a b u v : Int} (hx : g32 x) (hy : g32 y) (ha : g32 a) (hb : g32 b) (hu : g32 u) (hv : g32 v) (k1 : gIs x y ∧ gIs a b ∧ gIs u v ∧ a ≤ u ∧ b ≤ v → ∀ X', gSm c X X' → glX X' c → K (.returned (some (gI 0))) X' (gLd M c)) (k0 : ¬ (gIs x y ∧ gIs a b ∧ gIs u v ∧ a ≤ u ∧ b ≤ v) → K (.threw (G.2.2.1 + (X.1 + 1))) (gNw X (19, 0)) M) : gCt l G y_GL_fill (gRr (d + 10) Nr) true [gR G c, gI x, gI y, gI a, gI b, gI u, gI v] X M K := by
  have b8 : (0 : Int) ≤ M c 8 ∧ M c 8 < 41 := by rw [show M c 8 = 0 from hM.z 0 8 (by decide)]; decide
  have g8 : gsX X (X.2.2 (c + 23) (Int.toNat (M c 8))) := by
    rw [show M c 8 = 0 from hM.z 0 8 (by decide), show X.2.2 (c + 23) (Int.toNat 0) = c + 24 from (hX.2.1 0 (by decide)).1]
    exact (hX.2.1 0 (by decide)).2
  have g7 : gsX X (X.2.2 c 7) := by rw [hX.2.2.1.1]; exact hX.2.2.1.2
  refine eu_GL_fill (d := d + 2) (u_GL_fill_0 hX.1 hx hy ha hb hu hv ?_)
  by_cases h1 : gIs x y
  · refine Or.inr (c_cell1 hl h1 ?_)
    by_cases h2 : gIs a b
    · refine Or.inr (c_cell1 hl h2 ?_)
      by_cases h3 : gIs u v
      · refine Or.inr (c_cell1 hl h3 ⟨fun e => Or.inl (c_need0 hl hN hz (k0 (by omega))), fun e => ⟨fun e2 => Or.inl (c_need0 hl hN hz (k0 (by omega))), fun e2 => Or.inr (c_need1 hl (fun _ => ⟨b8, g8, g7, z_open hX hM ⟨gOp_g hX.1, c_GL_place h1 (z_filled (gOp_g hX.1) (gOp_e hX hM) (by unfold gIs at h1; unfold g32; omega) h2 h3 (by omega) (Or.inr ?_))⟩⟩))⟩⟩)
        exact z_lf (d := d + 1) hl hX hM (fun _ _ _ => rfl) (k1 ⟨h1, h2, h3, by omega, by omega⟩)
      · exact Or.inl (c_cell0 hl hN hz hu hv h3 (k0 (fun q => h3 q.2.2.1)))
    · exact Or.inl (c_cell0 hl hN hz ha hb h2 (k0 (fun q => h2 q.2.1)))
  · exact Or.inl (c_cell0 hl hN hz hx hy h1 (k0 (fun q => h1 q.1)))
theorem f_GL_insert (hl : gOk l G) (hN : 1 ≤ Nr) (hX : gNew X c) (hM : gZ0 M c) (hz : gFr X M) {s i n : Int} (hs : 0 ≤ s ∧ s ≤ 1) (hi : g32 i) (hn : g32 n) (k1 : 0 ≤ i ∧ i < (if s = 0 then 200 else 26) ∧ 1 ≤ n ∧ n ≤ 50 → ∀ X', gSm c X X' → glX X' c → K (.returned (some (gI 0))) X' (gLd (gShf M c s 1 i n) c)) (k0 : ¬ (0 ≤ i ∧ i < (if s = 0 then 200 else 26) ∧ 1 ≤ n ∧ n ≤ 50) → K (.threw (G.2.2.1 + (X.1 + 1))) (gNw X (19, 0)) M) : gCt l G y_GL_insert (gRr (d + 9) Nr) true [gR G c, gI s, gI i, gI n] X M K := by
  have b8 : (0 : Int) ≤ M c 8 ∧ M c 8 < 41 := by rw [show M c 8 = 0 from hM.z 0 8 (by decide)]; decide
  have g8 : gsX X (X.2.2 (c + 23) (Int.toNat (M c 8))) := by
    rw [show M c 8 = 0 from hM.z 0 8 (by decide), show X.2.2 (c + 23) (Int.toNat 0) = c + 24 from (hX.2.1 0 (by decide)).1]
    exact (hX.2.1 0 (by decide)).2
  have g7 : gsX X (X.2.2 c 7) := by rw [hX.2.2.1.1]; exact hX.2.2.1.2
  refine eu_GL_insert (d := d + 1) (u_GL_insert_0 hX.1 hs hi hn ⟨fun e => Or.inl (c_need0 hl hN hz (k0 (by omega))), fun e => c_GL_lines hs ⟨fun e2 => Or.inl (c_need0 hl hN hz (k0 (by omega))), fun e2 => Or.inr (c_need1 hl ⟨fun e3 => Or.inl (c_need0 hl hN hz (k0 (by omega))), fun e3 => ⟨fun e4 => Or.inl (c_need0 hl hN hz (k0 (by omega))), fun e4 => Or.inr (c_need1 hl (fun _ => ⟨b8, g8, g7, z_open hX hM ⟨gOp_g hX.1, z_shifted (gOp_g hX.1) (gOp_e hX hM) (by omega) (by omega) hs ⟨by decide, by decide⟩ hi hn (Or.inr ?_)⟩⟩))⟩⟩)⟩⟩)
  exact z_lf hl hX hM (fun a j h => gShf_a h j) (k1 ⟨by omega, by omega, by omega, by omega⟩)
theorem f_GL_erase (hl : gOk l G) (hN : 1 ≤ Nr) (hX : gNew X c) (hM : gZ0 M c) (hz : gFr X M) {s i n : Int} (hs : 0 ≤ s ∧ s ≤ 1) (hi : g32 i) (hn : g32 n) (k1 : 0 ≤ i ∧ i < (if s = 0 then 200 else 26) ∧ 1 ≤ n ∧ n ≤ 50 ∧ i + n ≤ (if s = 0 then 200 else 26) → ∀ X', gSm c X X' → glX X' c → K (.returned (some (gI 0))) X' (gLd (gShf M c s 0 i n) c)) (k0 : ¬ (0 ≤ i ∧ i < (if s = 0 then 200 else 26) ∧ 1 ≤ n ∧ n ≤ 50 ∧ i + n ≤ (if s = 0 then 200 else 26)) → K (.threw (G.2.2.1 + (X.1 + 1))) (gNw X (19, 0)) M) : gCt l G y_GL_erase (gRr (d + 9) Nr) true [gR G c, gI s, gI i, gI n] X M K := by
  have b8 : (0 : Int) ≤ M c 8 ∧ M c 8 < 41 := by rw [show M c 8 = 0 from hM.z 0 8 (by decide)]; decide
  have g8 : gsX X (X.2.2 (c + 23) (Int.toNat (M c 8))) := by
    rw [show M c 8 = 0 from hM.z 0 8 (by decide), show X.2.2 (c + 23) (Int.toNat 0) = c + 24 from (hX.2.1 0 (by decide)).1]
    exact (hX.2.1 0 (by decide)).2
  have g7 : gsX X (X.2.2 c 7) := by rw [hX.2.2.1.1]; exact hX.2.2.1.2
  have hL : (if s = 0 then (200 : Int) else 26) ≤ 200 ∧ 26 ≤ (if s = 0 then (200 : Int) else 26) := by split <;> omega
  refine eu_GL_erase (d := d + 1) (u_GL_erase_0 hX.1 hs hi hn ⟨fun e => Or.inl (c_need0 hl hN hz (k0 (by omega))), fun e => c_GL_lines hs ⟨fun e2 => Or.inl (c_need0 hl hN hz (k0 (by omega))), fun e2 => Or.inr (c_need1 hl ⟨fun e3 => Or.inl (c_need0 hl hN hz (k0 (by omega))), fun e3 => ⟨fun e4 => Or.inl (c_need0 hl hN hz (k0 (by omega))), fun e4 => c_GL_lines hs ?_⟩⟩)⟩⟩)
  have ew : w32 ((if s = 0 then (200 : Int) else 26) - i) = (if s = 0 then (200 : Int) else 26) - i := w32_id (by unfold g32; omega)
  rw [ew]
  refine ⟨fun e5 => Or.inl (c_need0 hl hN hz (k0 (by omega))), fun e5 => Or.inr (c_need1 hl (fun _ => ⟨b8, g8, g7, z_open hX hM ⟨gOp_g hX.1, z_shifted (gOp_g hX.1) (gOp_e hX hM) (by omega) (by omega) hs ⟨by decide, by decide⟩ hi hn (Or.inr ?_)⟩⟩))⟩
  exact z_lf hl hX hM (fun a j h => gShf_a h j) (k1 ⟨by omega, by omega, by omega, by omega, by omega⟩)
end gFresh2
