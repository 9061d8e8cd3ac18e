/-! The class's put: the content is read, the tables grow. -/
theorem gTree_ln {S : List Int} {e : gEx} {rs : List gRf} (h : gTree S = some (e, rs)) (h0 : S ≠ []) : (gxLn e).1 ≤ S.length ∧ rs.length ≤ S.length := by
  have l1 : 1 ≤ S.length := by
    cases S with
    | nil => exact absurd rfl h0
    | cons a b => exact Nat.le_add_left 1 _
  unfold gTree at h
  split at h
  · have := gForm_ok h l1
    omega
  · split at h
    · cases h
      exact ⟨l1, Nat.zero_le _⟩
    · cases h
      exact ⟨l1, Nat.zero_le _⟩
section ggM
variable {X X' : gX} {M M2 : gM} {c o n : Nat} {Rg : Nat → Nat} {v b : Nat} {w w1 : Nat → gVl} {T : Nat → gSht} {er nw lt ed : Nat} {S : List Int} {ch : Nat} {cl : Nat → Int} {id cs rf bs : Nat}
theorem gTyR.gr (oT : gOff (gTyR c id cs rf bs) M M2) (m1 : M (c + 2) 11 = (id : Int)) (m2 : M (c + 2) 12 = (cs : Int)) (m3 : M (c + 2) 13 = (rf : Int)) (m4 : M (c + 2) 14 = (bs : Int)) (n1 : (id : Int) ≤ M2 (c + 2) 11) (n2 : (cs : Int) ≤ M2 (c + 2) 12) (n3 : (rf : Int) ≤ M2 (c + 2) 13) (n4 : (bs : Int) ≤ M2 (c + 2) 14) : gcGr M M2 c := by
  refine ⟨fun i h1 h2 => ?_, fun a j h1 h2 h3 => oT _ _ ?_, fun a j h1 h2 h3 => oT _ _ ?_, fun a j h1 h2 h3 => oT _ _ ?_, fun j h3 => oT _ _ ?_⟩
  · rcases (show i = 11 ∨ i = 12 ∨ i = 13 ∨ i = 14 by omega) with e | e | e | e <;> subst e
    · rw [m1]; exact n1
    · rw [m2]; exact n2
    · rw [m3]; exact n3
    · rw [m4]; exact n4
  · rw [m1] at h3
    unfold gTyR gFoR gRdR gTkF
    omega
  · rw [m2] at h3
    unfold gTyR gFoR gRdR gTkF
    omega
  · rw [m3] at h3
    unfold gTyR gFoR gRdR gTkF
    omega
  · rw [m4] at h3
    unfold gTyR gFoR gRdR gTkF
    omega
/-- the class's object behind Reader.typed -/
theorem gLC.ty {id2 cs2 rf2 bs2 n2 : Nat} (h : gLC X M c n Rg v b w w1 T er nw lt ed [] ch cl) (hid : 1 ≤ id) (oT : gOff (gTyR c id cs rf bs) M M2) (g : gcGr M M2 c) (hn : n ≤ n2) (e1 : M2 (c + 2) 11 = (id2 : Int)) (e2 : M2 (c + 2) 12 = (cs2 : Int)) (e3 : M2 (c + 2) 13 = (rf2 : Int)) (e4 : M2 (c + 2) 14 = (bs2 : Int)) (b1 : 1 ≤ id2 ∧ id2 ≤ n2 + 1) (b2 : cs2 ≤ 20 * n2 ∧ rf2 ≤ 20 * n2 ∧ bs2 ≤ 20 * n2) : gLC X M2 c n2 Rg v b w w1 T er nw lt ed [] ch cl := by
  obtain ⟨a1, a2, a3, a4, a5, a6, a7, a8, a9, ⟨t1, t2, t3, t4, t5⟩, a11⟩ := h
  obtain ⟨_, _, _, _, _, _, _, _, _, _, z3, z6, z7⟩ := a7
  have rb : ∀ i, i < 42 → c + 23 < Rg i ∧ Rg i + 4 < c + 234 := fun i hi => (a2.2.2.1 i hi).2
  have k0 : ∀ j, M2 c j = M c j := fun j => oT _ _ (by unfold gTyR gFoR gRdR gTkF; omega)
  have k1 : ∀ a j, c + 23 < a → M2 a j = M a j := fun a j h => oT _ _ (by unfold gTyR gFoR gRdR gTkF; omega)
  refine ⟨a1, a2, ⟨(k0 _).trans a3.1, (k0 _).trans a3.2.1, (k0 _).trans a3.2.2.1, (k0 _).trans a3.2.2.2⟩, fun t h1 h2 => ?_, fun i hi => (k1 _ _ (by have := rb i hi; omega)).trans (a5 i hi), a6.kp a1 (gGw.rf X 0) (Or.inl rfl) (fun a j h1 h2 => k1 a j (by omega)), ⟨id2, cs2, rf2, bs2, e1, e2, e3, e4, b1, ⟨by show cs2 + 0 ≤ _; omega, by show rf2 + 0 ≤ _; omega, by show bs2 + 0 ≤ _; omega⟩, ?_, ?_, ?_⟩, ⟨(k0 _).trans a8.1, fun j hj => absurd hj (Nat.not_lt_zero _), by decide⟩, ⟨(k1 _ _ (by omega)).trans a9.1, a9.2.1, fun i hi => (k1 _ _ (by omega)).trans (a9.2.2 i hi)⟩, ⟨t1, t2, t3, by omega, t5⟩, by omega⟩
  · have := rb (t % 41) (by omega)
    exact (a4 t h1 h2).gr (t5 t h1 h2) g (fun a j h1 => k1 _ _ (by omega))
  · rw [oT _ _ (by unfold gTyR gFoR gRdR gTkF; omega)]; exact z3
  · rw [oT _ _ (by unfold gTyR gFoR gRdR gTkF; omega)]; exact z6
  · rw [oT _ _ (by unfold gTyR gFoR gRdR gTkF; omega)]; exact z7
theorem gcCn_ty {e : gEx} {rs : List gRf} {bs2 : Nat} (h0 : S ≠ []) (hb : ¬ gBadS S) (ht : gTree S = some (e, rs)) (hid : id < 513) (hc : cs ≤ 10240 ∧ rf ≤ 10240 ∧ bs2 ≤ 10480) (hf : gCnF M c id (gSrt S) cs (cs + (gxLn e).1) rf rs.length bs2) (hr : gRfM M c id rf rs) (hx : (gxCo M c S bs2 e).1 cs) : gcCn M c id S := by
  obtain ⟨f1, f2, f3, f4, f5, f6, f7, f8, f9⟩ := hf
  have er : gRefs S = rs := by unfold gRefs; rw [ht]
  have ok := gRefs_ok h0
  have wf := gTree_wf ht h0 hb
  refine ⟨⟨hid, by rw [f1]; omega⟩, f2, fun i hi => ?_, cs, cs + (gxLn e).1, rf, f3, f4, ⟨by omega, by rw [f7]; exact Int.le_refl _⟩, f5, by rw [er]; exact f6, ⟨by rw [er]; omega, by rw [er, f8]; exact Int.le_refl _⟩, by rw [er]; exact hr, fun y => by rw [ht] at y; exact (nomatch y), fun e2 rs2 y => ?_⟩
  · have := (ok.1 i hi).1.2
    exact this
  · rw [ht] at y
    cases y
    exact ⟨rfl, bs2, ⟨by omega, by rw [f9]; exact Int.le_refl _⟩, hx⟩
theorem gcCn_ty0 {bs2 : Nat} (h0 : S ≠ []) (ht : gTree S = none) (hid : id < 513) (hc : cs ≤ 10240 ∧ rf ≤ 10240 ∧ bs2 ≤ 10480) (hf : gCnF M c id 3 cs (cs + 1) rf 0 bs2) (h8 : M (c + 8) id = 0) (hx : gAt2 M c cs 3 1) : gcCn M c id S := by
  obtain ⟨f1, f2, f3, f4, f5, f6, f7, f8, f9⟩ := hf
  have er : gRefs S = [] := by unfold gRefs; rw [ht]
  have el : (gRefs S).length = 0 := by rw [er]; rfl
  have s3 : gSrt S = 3 := by
    unfold gTree at ht
    split at ht
    · exact gSrt_3 ‹_›
    · split at ht
      · exact nomatch ht
      · exact nomatch ht
  refine ⟨⟨hid, by rw [f1]; omega⟩, by rw [s3]; exact f2, fun i hi => absurd hi (by omega), cs, cs + 1, rf, f3, f4, ⟨by omega, by rw [f7]; exact Int.le_refl _⟩, f5, by rw [el]; exact f6, ⟨by omega, by rw [el, f8]; exact Int.le_refl _⟩, ⟨fun i hi => absurd hi (by omega), by rw [er]; exact h8⟩, fun _ => ⟨rfl, hx⟩, fun e2 rs2 y => by rw [ht] at y; exact nomatch y⟩
end ggM
