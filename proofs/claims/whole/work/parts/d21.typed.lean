/-! The class's Reader: what was TYPED becomes a content. -/
theorem gForm_ok {S : List Int} {e : gEx} {rs : List gRf} (h : gForm S = some (e, rs)) (hl : 1 ≤ S.length) : (gxWf (gPP rs) (gRR rs) S.length e).1 ∧ gxR e = false ∧ (gxLn e).1 + 1 ≤ S.length ∧ rs.length + 1 ≤ S.length ∧ gxH e ≤ 100 ∧ (gxLn e).1 ≤ 100 ∧ rs.length ≤ 100 := by
  unfold gForm at h
  cases ht : gLexs S with
  | none => rw [ht] at h; cases h
  | some ts =>
    rw [ht] at h
    dsimp only at h
    cases hp : gPs S ts 303 3 1 0 (.num 0) 0 [] with
    | none => rw [hp] at h; cases h
    | some q =>
      obtain ⟨e1, a, r1⟩ := q
      rw [hp] at h
      dsimp only at h
      split at h
      · cases h
        have ok := gLexs_ok ht
        have tot := gLexs_tot ht hl
        obtain ⟨p1, ⟨us, p2, p3⟩, p4⟩ := gPs_ok ok.2 303 3 1 0 _ 0 [] e a rs hp (Nat.zero_le _) (fun _ => by decide) (fun y => by omega)
        have p4 : 0 < a ∧ (gxWf (gPP rs) (gRR rs) S.length e).1 ∧ ((3 : Nat) ≠ 7 → gxR e = false) ∧ (gxLn e).1 + 0 ≤ a ∧ gxH e + 0 ≤ a + 0 := p4
        have el : rs.length = us.length := by rw [p2, List.nil_append]
        exact ⟨p4.2.1, p4.2.2.1 (by decide), by omega, by omega, by omega, by omega, by omega⟩
      · cases h
/-- the content that bytes are: its tree (none: SYNTAX), its sort -/
noncomputable def gTree (S : List Int) : Option (gEx × List gRf) := if S.getD 0 0 = 61 then gForm S else match gNum S with
  | some z => some (.num z, [])
  | none => some (.mulL 0 (.num (S.length : Int)), [])
def gSrt (S : List Int) : Int := if S.getD 0 0 = 61 then 3 else if (gNum S).isSome = true then 1 else 2
def gBadS (S : List Int) : Prop := ¬ (∀ b ∈ S, 32 ≤ b ∧ b ≤ 126) ∨ (gNum S = none ∧ (if S.getD 0 0 = 61 then 201 else 64) < S.length)
def gCnF (M : gM) (c id : Nat) (s : Int) (cs cz R0 n bz : Nat) : Prop := M (c + 2) 11 = ((id + 1 : Nat) : Int) ∧ M (c + 3) id = s ∧ M (c + 4) id = (cs : Int) ∧ M (c + 5) id = (cz : Int) ∧ M (c + 6) id = (R0 : Int) ∧ M (c + 7) id = (n : Int) ∧ M (c + 2) 12 = (cz : Int) ∧ M (c + 2) 13 = ((R0 + n : Nat) : Int) ∧ M (c + 2) 14 = (bz : Int)
def gTyR (c id cs rf bs : Nat) : Nat → Nat → Prop := fun x j => gFoR c id cs rf bs x j ∨ ((x = c + 5 ∨ x = c + 7) ∧ j = id) ∨ (x = c + 2 ∧ j = 11)
section gdV
variable {l : Launch} {G : gG} {d : Nat} {X : gX} {M : gM} {c : Nat} {Q : gQ} {S : List Int} {id R0 cs bs : Nat}
theorem c_Rd_isPrintable {k : Int → gM → Prop} (hX : glX X c) (hB : ∀ j, j < S.length → M (c + 1) j = S.getD j 0) (hl : S.length ≤ 240) (h1 : (∀ b ∈ S, 32 ≤ b ∧ b ≤ 126) → k 1 M) (h0 : ¬ (∀ b ∈ S, 32 ≤ b ∧ b ≤ 126) → k 0 M) : cZ l G y_Rd_isPrintable (gRm d) false [gR G (c + 14), gI (S.length : Int)] X M k := by
  have gl : g32 (S.length : Int) := ⟨by omega, by omega⟩
  have mem : ∀ j, j < S.length → S.getD j 0 ∈ S := fun j hj => by
    rw [List.getD_eq_getElem?_getD, List.getElem?_eq_getElem hj]
    exact List.getElem_mem _
  have key : ∀ (m j : Nat), j + m = S.length → (∀ i, i < j → 32 ≤ S.getD i 0 ∧ S.getD i 0 ≤ 126) → wp l G y_Rd_isPrintable (gRm d) false (kkZ X k) false 2 [.val (gR G (c + 14)), .val (gI (S.length : Int)), .val (gI (j : Int))] [] X M 0 0 := by
    intro m
    induction m with
    | zero =>
      intro j hj ha
      refine w_Rd_isPrintable_2 hX gl ⟨by omega, by omega⟩ ⟨fun _ => h1 (fun b hb => ?_), fun z => absurd (by omega) z⟩
      obtain ⟨i, hi, e⟩ := List.getElem_of_mem hb
      have := ha i (by omega)
      rw [List.getD_eq_getElem?_getD, List.getElem?_eq_getElem hi] at this
      rw [← e]
      exact this
    | succ m ih =>
      intro j hj ha
      refine w_Rd_isPrintable_2 hX gl ⟨by omega, by omega⟩ ⟨fun z => absurd z (by omega), fun _ => ?_⟩
      rw [Int.toNat_natCast, hB j (by omega), w32_id (x := (j : Int) + 1) ⟨by omega, by omega⟩, show (j : Int) + 1 = ((j + 1 : Nat) : Int) by omega]
      refine ⟨⟨by omega, by omega⟩, fun _ => ⟨fun z => h0 (fun y => by have := y _ (mem j (by omega)); omega), fun z => ⟨⟨by omega, by omega⟩, fun _ => ⟨fun z2 => ih (j + 1) (by omega) (fun i hi => ?_), fun z2 => h0 (fun y => by have := y _ (mem j (by omega)); omega)⟩⟩⟩⟩
      by_cases e : i = j
      · rw [e]; exact ⟨by omega, z2⟩
      · exact ha i (by omega)
  exact e_Rd_isPrintable (w_Rd_isPrintable_0 hX gl (key S.length 0 (by omega) (fun i hi => absurd hi (Nat.not_lt_zero _))))
theorem c_Cn_hasRoom {k : Int → gM → Prop} (hX : glX X c) (hid : M (c + 2) 11 = (id : Int)) (hid2 : id ≤ 512) (hcs : M (c + 2) 12 = (cs : Int)) (hrf : M (c + 2) 13 = (R0 : Int)) (hbs : M (c + 2) 14 = (bs : Int)) (hcap : cs ≤ 10240 ∧ R0 ≤ 10240 ∧ bs ≤ 10240) (h : k 1 M) : cZ l G y_Cn_hasRoom (gRm (d + 1)) false [gR G (c + 2)] X M k := by
  refine e_Cn_hasRoom (w_Cn_hasRoom_0 hX ?_)
  rw [hcs, hrf, hbs]
  refine fun _ _ _ => c_max ⟨by omega, by omega⟩ ⟨by omega, by omega⟩ (c_max ⟨by omega, by omega⟩ ⟨by omega, by omega⟩ ?_)
  rw [hid]
  exact fun _ => ⟨fun z => absurd z (by omega), fun _ => ⟨fun z => absurd z (by omega), fun _ => h⟩⟩
theorem c_Rd_typed {k : Int → gM → Prop} (hX : glX X c) (hO : gOld G Q) (hB : ∀ j, j < S.length → M (c + 1) j = S.getD j 0) (hl : S.length ≤ 240) (hid : M (c + 2) 11 = (id : Int)) (hid2 : id ≤ 512) (hcs : M (c + 2) 12 = (cs : Int)) (hrf : M (c + 2) 13 = (R0 : Int)) (hbs : M (c + 2) 14 = (bs : Int)) (hcap : cs ≤ 10240 ∧ R0 ≤ 10240 ∧ bs ≤ 10240)
    (hN : S = [] → k 0 M) (hBd : S ≠ [] → gBadS S → k (-1) M)
    (h1 : S ≠ [] → ¬ gBadS S → ∀ e rs, gTree S = some (e, rs) → ∀ M2 bs', gOff (gTyR c id cs R0 bs) M M2 → gCnF M2 c id (gSrt S) cs (cs + (gxLn e).1) R0 rs.length bs' → bs ≤ bs' ∧ bs' ≤ bs + S.length → gRfM M2 c id R0 rs → (gxCo M2 c S bs' e).1 cs → k (id : Int) M2)
    (h0 : S ≠ [] → ¬ gBadS S → gTree S = none → ∀ M2 bs', gOff (gTyR c id cs R0 bs) M M2 → gCnF M2 c id 3 cs (cs + 1) R0 0 bs' → bs ≤ bs' ∧ bs' ≤ bs + S.length → M2 (c + 8) id = 0 → gAt2 M2 c cs 3 1 → k (id : Int) M2) : cI l G y_Rd_typed (gRm (d + 313)) true [gR G (c + 14), gI (S.length : Int)] X M k := by
  have gl : g32 (S.length : Int) := ⟨by omega, by omega⟩
  have eB : gBy M (c + 1) 0 S.length = S := gBy_of S 0 (fun j hj => by rw [Nat.zero_add]; exact hB j hj)
  have ne : S.length ≠ 0 → S ≠ [] := fun h y => h (by rw [y]; rfl)
  -- the end
  have fin : ∀ (M3 : gM) (s : Int) (cz n bz : Nat), gOff (gFoR c id cs R0 bs) M M3 → gCnT M3 c id s cs cz R0 (R0 + n) bz → n ≤ 1000 → (∀ M4 : gM, gOff (gTyR c id cs R0 bs) M M4 → gCnF M4 c id s cs cz R0 n bz → (∀ x j, x ≠ c + 2 → x ≠ c + 5 → x ≠ c + 7 → M4 x j = M3 x j) → k (id : Int) M4) → wp l G y_Rd_typed (gRm (d + 312 + 1)) true (kkI X k) true 147 [.val (gR G (c + 14)), .unset, .unset, .unset, .unset] [] X M3 0 0 := by
    intro M3 s cz n bz o ⟨q1, q2, q3, q4, q5, q6, q7⟩ hn hk
    refine w_Rd_typed_147 (d := d + 312) hX (c_Cn_finish hX q1 (by omega) q5 q6 q4 (by omega) (hk _ ?_ ?_ ?_))
    · unfold gFn
      refine (((o.mono (fun x j q => Or.inl q)).up ?_).up ?_).up ?_
      · exact Or.inr (Or.inl ⟨Or.inl rfl, rfl⟩)
      · exact Or.inr (Or.inl ⟨Or.inr rfl, rfl⟩)
      · exact Or.inr (Or.inr ⟨rfl, rfl⟩)
    · unfold gFn gCnF
      simp (disch := omega) only [gUp_eq, gUp_a, gUp_k]
      exact ⟨trivial, q2, q3, trivial, q4, trivial, q5, q6, q7⟩
    · intro x j z1 z2 z3
      unfold gFn
      rw [gUp_a z1, gUp_a z3, gUp_a z2]
  have s69 : S ≠ [] → ¬ gBadS S → ∀ (x2 x3 : Int), (x2 = if (gNum S).isSome = true then 1 else 0) → (x3 = if S.getD 0 0 = 61 then 1 else 0) → wp l G y_Rd_typed (gRm (d + 312 + 1)) true (kkI X k) true 69 [.val (gR G (c + 14)), .val (gI (S.length : Int)), .val (gI x2), .val (gI x3), .unset] [] X M 0 0 := by
    intro hne hb x2 x3 e2 e3
    have l0 : 1 ≤ S.length := List.length_pos_iff.2 hne
    have g2 : g32 x2 := by rw [e2]; split <;> exact g32_c rfl
    have g3 : g32 x3 := by rw [e3]; split <;> exact g32_c rfl
    have pr : ∀ b ∈ S, 32 ≤ b ∧ b ≤ 126 := Classical.byContradiction fun y => hb (Or.inl y)
    have hI : gInp M c S := ⟨hB, hl, pr⟩
    have oB : ∀ s : Int, gOff (gFoR c id cs R0 bs) M (gBg M c id s cs R0) := by
      intro s
      unfold gBg
      refine ((((gOff.rf _ M).up ?_).up ?_).up ?_).up ?_
      · exact Or.inr (Or.inr ⟨by omega, rfl⟩)
      · exact Or.inr (Or.inr ⟨by omega, rfl⟩)
      · exact Or.inr (Or.inr ⟨by omega, rfl⟩)
      · exact Or.inl (by unfold gRdR; omega)
    refine w_Rd_typed_69 (d := d + 312) hX gl g2 g3 (c_Cn_hasRoom (d := d + 311) hX hid hid2 hcs hrf hbs hcap ⟨fun _ => ⟨fun z => ?_, fun z => ?_⟩, fun y => absurd y (by decide)⟩)
    · have n61 : S.getD 0 0 ≠ 61 := fun y => by rw [if_pos y] at e3; omega
      refine ⟨fun z2 => ?_, fun z2 => ?_⟩
      · have nn : gNum S = none := by
          cases hq : gNum S with
          | none => rfl
          | some v =>
            rw [hq] at e2
            have e2 : x2 = 1 := e2
            omega
        have l64 : S.length ≤ 64 := Decidable.byContradiction fun y => hb (Or.inr ⟨nn, by rw [if_neg n61]; omega⟩)
        have eT : gTree S = some (.mulL 0 (.num (S.length : Int)), []) := by unfold gTree; rw [if_neg n61, nn]
        have eS : gSrt S = 2 := by unfold gSrt; rw [if_neg n61, nn]; rfl
        refine c_Cn_begin hX (g32_c rfl) hid (by omega) hcs hrf ?_
        have fB : gBg M c id 2 cs R0 (c + 2) 11 = (id : Int) ∧ gBg M c id 2 cs R0 (c + 3) id = 2 ∧ gBg M c id 2 cs R0 (c + 4) id = (cs : Int) ∧ gBg M c id 2 cs R0 (c + 6) id = (R0 : Int) ∧ gBg M c id 2 cs R0 (c + 2) 12 = (cs : Int) ∧ gBg M c id 2 cs R0 (c + 2) 13 = (R0 : Int) ∧ gBg M c id 2 cs R0 (c + 2) 14 = (bs : Int) ∧ gBg M c id 2 cs R0 (c + 8) id = 0 := by
          unfold gBg
          simp (disch := omega) only [gUp_eq, gUp_a, gUp_k]
          exact ⟨hid, trivial, trivial, trivial, hcs, hrf, hbs, trivial⟩
        have iB : ∀ j, gBg M c id 2 cs R0 (c + 1) j = M (c + 1) j := fun j => by unfold gBg; simp (disch := omega) only [gUp_a]
        have o1 := oB 2
        generalize gBg M c id 2 cs R0 = M1 at fB iB o1 ⊢
        obtain ⟨f1, f2, f3, f4, f5, f6, f7, f8⟩ := fB
        refine c_Cn_emitText (d := d + 311) (a := 0) hX (by omega) f5 (by omega) f7 (by omega) ?_
        have o2 : gOff (gFoR c id cs R0 bs) M1 (gUp (gEm (gCp M1 (c + 13) (c + 1) 0 bs S.length) c cs 1 ((bs : Int) * 240 + (S.length : Int))) (c + 2) 14 ((bs + S.length : Nat) : Int)) := by
          refine (((gOff.rf _ M1).cp (fun j _ _ => ?_)).tr (gEm_off.mono (fun x j q => Or.inl q))).up ?_
          · exact Or.inl (by unfold gRdR; omega)
          · exact Or.inl (by unfold gRdR; omega)
        refine fin _ 2 (cs + 1) 0 (bs + S.length) (o1.tr o2) ?_ (by decide) (fun M4 o4 t4 k4 => h1 hne hb _ _ eT M4 (bs + S.length) o4 (by rw [eS]; exact t4) ⟨by omega, by omega⟩ ⟨fun i hi => absurd hi (Nat.not_lt_zero _), ?_⟩ ⟨bs, ?_, ?_, ?_⟩)
        · unfold gEm gCnT
          simp (disch := omega) only [gUp_eq, gUp_a, gUp_k, gCp_a]
          exact ⟨f1, f2, f3, f4, trivial, f6, trivial⟩
        · rw [k4 _ _ (by omega) (by omega) (by omega)]
          unfold gEm
          simp (disch := omega) only [gUp_a, gCp_a]
          exact f8
        · unfold gAt2
          rw [k4 _ _ (by omega) (by omega) (by omega), k4 _ _ (by omega) (by omega) (by omega), Int.sub_zero]
          unfold gEm
          simp (disch := omega) only [gUp_eq, gUp_a, gUp_k]
          exact ⟨trivial, trivial⟩
        · omega
        · rw [Int.sub_zero, Int.toNat_natCast]
          show gBy M4 (c + 13) bs S.length = (S.drop 0).take S.length
          rw [List.drop_zero, List.take_length]
          rw [← eB, gBy_len]
          refine gBy_congr _ _ _ (fun j hj => ?_)
          rw [k4 _ _ (by omega) (by omega) (by omega)]
          unfold gEm
          rw [gUp_a (by omega), gUp_a (by omega), gUp_a (by omega), gUp_a (by omega), gCp_in (by omega) (by omega), show bs + j - bs = j by omega, iB]
      · obtain ⟨v, hv⟩ : ∃ v, gNum S = some v := by
          cases hq : gNum S with
          | none => rw [hq] at e2; exact absurd e2 z2
          | some v => exact ⟨v, rfl⟩
        have eT : gTree S = some (.num v, []) := by unfold gTree; rw [if_neg n61, hv]
        have eS : gSrt S = 1 := by unfold gSrt; rw [if_neg n61, hv]; rfl
        refine c_Cn_begin hX (g32_c rfl) hid (by omega) hcs hrf ?_
        have fB : gBg M c id 1 cs R0 (c + 2) 11 = (id : Int) ∧ gBg M c id 1 cs R0 (c + 3) id = 1 ∧ gBg M c id 1 cs R0 (c + 4) id = (cs : Int) ∧ gBg M c id 1 cs R0 (c + 6) id = (R0 : Int) ∧ gBg M c id 1 cs R0 (c + 2) 12 = (cs : Int) ∧ gBg M c id 1 cs R0 (c + 2) 13 = (R0 : Int) ∧ gBg M c id 1 cs R0 (c + 2) 14 = (bs : Int) ∧ gBg M c id 1 cs R0 (c + 8) id = 0 := by
          unfold gBg
          simp (disch := omega) only [gUp_eq, gUp_a, gUp_k]
          exact ⟨hid, trivial, trivial, trivial, hcs, hrf, hbs, trivial⟩
        have iB : ∀ j, gBg M c id 1 cs R0 (c + 1) j = M (c + 1) j := fun j => by unfold gBg; simp (disch := omega) only [gUp_a]
        have o1 := oB 1
        generalize gBg M c id 1 cs R0 = M1 at fB iB o1 ⊢
        obtain ⟨f1, f2, f3, f4, f5, f6, f7, f8⟩ := fB
        have eB1 : gBy M1 (c + 1) (0 : Int).toNat ((S.length : Int) - 0).toNat = S := by
          rw [Int.sub_zero, Int.toNat_natCast]
          exact (gBy_congr _ _ _ (fun j _ => iB _)).trans eB
        refine c_Vl_numberIn (gl_inp hX) ⟨by decide, by omega⟩ ⟨by omega, by omega⟩ (by rw [eB1]; exact hv) (c_Cn_emit hX (g32_c rfl) (gNum_ok hv) f5 (by omega) ?_)
        refine fin _ 1 (cs + 1) 0 bs (o1.tr (gEm_off.mono (fun x j q => Or.inl q))) ?_ (by decide) (fun M4 o4 t4 k4 => h1 hne hb _ _ eT M4 bs o4 (by rw [eS]; exact t4) ⟨Nat.le_refl _, by omega⟩ ⟨fun i hi => absurd hi (Nat.not_lt_zero _), ?_⟩ ?_)
        · unfold gEm gCnT
          simp (disch := omega) only [gUp_eq, gUp_a, gUp_k]
          exact ⟨f1, f2, f3, f4, trivial, f6, f7⟩
        · rw [k4 _ _ (by omega) (by omega) (by omega)]
          unfold gEm
          simp (disch := omega) only [gUp_a]
          exact f8
        · show gAt2 M4 c cs 0 v
          unfold gAt2
          rw [k4 _ _ (by omega) (by omega) (by omega), k4 _ _ (by omega) (by omega) (by omega)]
          exact gEm_at
    · have y61 : S.getD 0 0 = 61 := Decidable.byContradiction fun y => z (by rw [if_neg y] at e3; exact e3)
      have eT : gTree S = gForm S := by unfold gTree; rw [if_pos y61]
      have eS : gSrt S = 3 := by unfold gSrt; rw [if_pos y61]
      refine c_Rd_readFormula hX hO hI l0 hid (by omega) hcs hrf hbs hcap (fun e rs ef M2 bs' o t b rf co => ?_) (fun ef M2 bs' o t b z8 at2 => ?_)
      · have ok := gForm_ok ef l0
        refine fin M2 3 _ rs.length bs' o t (by omega) (fun M4 o4 t4 k4 => h1 hne hb e rs (eT.trans ef) M4 bs' o4 (by rw [eS]; exact t4) ⟨b.1, by omega⟩ ⟨fun i hi => ?_, ?_⟩ ?_)
        · rw [k4 _ _ (by omega) (by omega) (by omega), k4 _ _ (by omega) (by omega) (by omega)]; exact rf.1 i hi
        · rw [k4 _ _ (by omega) (by omega) (by omega)]; exact rf.2
        · exact (gxCo_keep (Nat.le_refl _) (fun j _ => k4 _ _ (by omega) (by omega) (by omega)) e).1 ok.1 cs (fun j _ _ => ⟨k4 _ _ (by omega) (by omega) (by omega), k4 _ _ (by omega) (by omega) (by omega)⟩) co
      · refine fin M2 3 _ 0 bs' o t (by decide) (fun M4 o4 t4 k4 => h0 hne hb (eT.trans ef) M4 bs' o4 t4 ⟨b.1, by omega⟩ ?_ ?_)
        · rw [k4 _ _ (by omega) (by omega) (by omega)]; exact z8
        · unfold gAt2 at at2 ⊢
          rw [k4 _ _ (by omega) (by omega) (by omega), k4 _ _ (by omega) (by omega) (by omega)]; exact at2
  have s42 : S ≠ [] → (∀ b ∈ S, 32 ≤ b ∧ b ≤ 126) → ∀ (x2 s0 : Int), (x2 = if (gNum S).isSome = true then 1 else 0) → (s0 = if S.getD 0 0 = 61 then 1 else 0) → wp l G y_Rd_typed (gRm (d + 312 + 1)) true (kkI X k) true 42 [.val (gR G (c + 14)), .val (gI (S.length : Int)), .val (gI x2), .unset, .unset] [gI s0] X M 0 0 := by
    intro hne pr x2 s0 e2 e3
    have g2 : g32 x2 := by rw [e2]; split <;> exact g32_c rfl
    have g3 : g32 s0 := by rw [e3]; split <;> exact g32_c rfl
    have num : x2 = 0 → gNum S = none := fun z2 => by
      cases hq : gNum S with
      | none => rfl
      | some v =>
            rw [hq] at e2
            have e2 : x2 = 1 := e2
            omega
    have num2 : ¬ x2 = 0 → gNum S ≠ none := fun z2 y => by rw [y] at e2; exact z2 e2
    refine w_Rd_typed_42 (d := d + 312) hX gl g2 g3 ⟨fun z => ?_, fun z => ?_⟩
    · have n61 : S.getD 0 0 ≠ 61 := fun y => by rw [if_pos y] at e3; omega
      refine ⟨fun z2 => s69 hne (fun y => ?_) x2 s0 e2 e3, fun z2 => ⟨fun z3 => s69 hne (fun y => ?_) x2 s0 e2 e3, fun z3 => hBd hne (Or.inr ⟨num z2, by rw [if_neg n61]; omega⟩)⟩⟩
      · rcases y with y | y
        · exact y pr
        · exact num2 z2 y.1
      · rcases y with y | y
        · exact y pr
        · have := y.2; rw [if_neg n61] at this; omega
    · have y61 : S.getD 0 0 = 61 := Decidable.byContradiction fun y => z (by rw [if_neg y] at e3; exact e3)
      refine ⟨fun z2 => s69 hne (fun y => ?_) x2 s0 e2 e3, fun z2 => ⟨fun z3 => s69 hne (fun y => ?_) x2 s0 e2 e3, fun z3 => hBd hne (Or.inr ⟨num z2, by rw [if_pos y61]; omega⟩)⟩⟩
      · rcases y with y | y
        · exact y pr
        · exact num2 z2 y.1
      · rcases y with y | y
        · exact y pr
        · have := y.2; rw [if_pos y61] at this; omega
  refine e_Rd_typed (w_Rd_typed_0 (d := d + 312) hX gl ⟨fun z => ?_, fun z => hN (List.length_eq_zero_iff.1 (by omega))⟩)
  have hne : S ≠ [] := ne (by omega)
  refine c_Rd_isPrintable hX hB hl (fun pr => ⟨fun _ => ?_, fun y => absurd y (by decide)⟩) (fun pr => ⟨fun y => absurd rfl y, fun _ => hBd hne (Or.inl pr)⟩)
  have e0 : ((S.length : Int) - 0).toNat = S.length := by omega
  have b0 : M (c + 1) (Int.toNat 0) = S.getD 0 0 := hB 0 (by omega)
  refine c_Vl_isNumber (gl_inp hX) ⟨by decide, by omega⟩ ⟨by omega, by omega⟩ ?_ ?_
  · rw [e0, show (0 : Int).toNat = 0 from rfl, eB]
    intro hn
    have e2 : (0 : Int) = if (gNum S).isSome = true then 1 else 0 := by rw [hn]; rfl
    refine ⟨⟨by decide, by decide⟩, fun _ => ?_⟩
    rw [show M (c + 1) 0 = S.getD 0 0 from b0]
    exact ⟨fun y => s42 hne pr 0 0 e2 (by rw [if_neg y]), fun y => s42 hne pr 0 1 e2 (by rw [if_pos y])⟩
  · rw [e0, show (0 : Int).toNat = 0 from rfl, eB]
    intro v hn
    have e2 : (1 : Int) = if (gNum S).isSome = true then 1 else 0 := by rw [hn]; rfl
    refine ⟨⟨by decide, by decide⟩, fun _ => ?_⟩
    rw [show M (c + 1) 0 = S.getD 0 0 from b0]
    exact ⟨fun y => s42 hne pr 1 0 e2 (by rw [if_neg y]), fun y => s42 hne pr 1 1 e2 (by rw [if_pos y])⟩
end gdV
