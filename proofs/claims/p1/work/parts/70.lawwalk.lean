/-! The walk of the law's loop, written by wip/whole/gen_law.py. Its callees at depth 700. -/
theorem g_rm1 (n : Nat) (h : n ≤ 81) : (gRm 700).frames + 1 ≤ room_1.frames ∧ 8 + (n + 11) + (gRm 700).locals ≤ room_1.locals := by
  show 700 + 1 ≤ 2048 ∧ 8 + (n + 11) + 100 * 700 ≤ 84000
  omega
theorem g_rm2 (n : Nat) (h : n ≤ 81) : (gRr 700 1).frames + 1 ≤ room_1.frames ∧ 8 + (n + 11) + (gRr 700 1).locals ≤ room_1.locals := by
  show 700 + 1 ≤ 2048 ∧ 8 + (n + 11) + 100 * 700 ≤ 84000
  omega
section gZc
variable {l : Launch} {G : gG} {y z : gMt} {fr fz md md' : Bool} {K : Outcome → gX → gM → Prop} {pc : Nat} {L : List Slot} {st st0 As : List Value} {X : gX} {M : gM} {index n cs ss : Nat}
theorem zcV_I (hk : cs ≤ room_1.cells ∧ ss ≤ room_1.slots) {b ci N : Nat} {C : String} {T : u_T} {k : Int → gM → Prop} (hd : decode y.2.1 pc = .ok (.invokevirtual index, 3)) (hz : gCal z n) (hl : Cond.methodLink y.1.cls index z.1 ∈ gTb) (hin : Cond.instanceMethod z.1 ∈ gTb) (hse : Cond.selects C z.1 z.1 ∈ gTb) (hc : gCl[ci]? = some (C, T, N)) (h1 : 1 ≤ b) (h2 : b ≤ X.1) (hs : X.2.1 b = (ci + 6, N)) (hn : As.length = n) (hm : z.2.2.1 ≤ 81) (hW : (st.map fun v => v.category).sum ≤ 8) (h0 : st0 = As.reverse ++ gR G b :: st)
    (hm1 : md = true → md' = true) (hm2 : fz = true → md' = true) (hM : cI l G z (gRm 700) fz (gR G b :: As) X M k) (kk : ∀ (v : Int) (M' : gM), g32 v → k v M' → wp l G y room_1 fr K md' (pc + 3) L (gI v :: st) X M' cs ss) : wp l G y room_1 fr K md pc L st0 X M cs ss :=
  wp_callV hd hz hl hin hse hc h1 h2 hs hM (fun o X' M' h => by obtain ⟨w, h1, -⟩ := h; exact ⟨_, h1⟩) hm1 hm2 hn (g_rm1 _ hm) hW hk h0 (fun v X' M' h => by
    obtain ⟨w, h1, h0, h2, h3⟩ := h
    cases h1
    subst h2
    exact kk w M' h0 h3)
theorem zcV_L (hk : cs ≤ room_1.cells ∧ ss ≤ room_1.slots) {b ci N : Nat} {C : String} {T : u_T} {k : Int → gM → Prop} (hd : decode y.2.1 pc = .ok (.invokevirtual index, 3)) (hz : gCal z n) (hl : Cond.methodLink y.1.cls index z.1 ∈ gTb) (hin : Cond.instanceMethod z.1 ∈ gTb) (hse : Cond.selects C z.1 z.1 ∈ gTb) (hc : gCl[ci]? = some (C, T, N)) (h1 : 1 ≤ b) (h2 : b ≤ X.1) (hs : X.2.1 b = (ci + 6, N)) (hn : As.length = n) (hm : z.2.2.1 ≤ 81) (hW : (st.map fun v => v.category).sum ≤ 8) (h0 : st0 = As.reverse ++ gR G b :: st)
    (hm1 : md = true → md' = true) (hm2 : fz = true → md' = true) (hM : cL l G z (gRm 700) fz (gR G b :: As) X M k) (kk : ∀ (v : Int) (M' : gM), g64 v → k v M' → wp l G y room_1 fr K md' (pc + 3) L (gL v :: st) X M' cs ss) : wp l G y room_1 fr K md pc L st0 X M cs ss :=
  wp_callV hd hz hl hin hse hc h1 h2 hs hM (fun o X' M' h => by obtain ⟨w, h1, -⟩ := h; exact ⟨_, h1⟩) hm1 hm2 hn (g_rm1 _ hm) hW hk h0 (fun v X' M' h => by
    obtain ⟨w, h1, h0, h2, h3⟩ := h
    cases h1
    subst h2
    exact kk w M' h0 h3)
theorem wp_oaload_n {j : Fin 4} {i q : Nat} {rm : Room} (hd : decode y.2.1 pc = .ok (.aload_n j, 1)) (hi : (j : Nat) = i) (hl : L[i]? = some (.val (.ref q))) (k : wp l G y rm fr K md (pc + 1) L (.ref q :: st) X M cs ss) : wp l G y rm fr K md pc L st X M cs ss := by
  intro p e s m args below meth c H locs ls hC hS hR hL
  exact lv_aload_n hC.1 hC.2.1 hd hi (hL.2.2 _ _ hl) (k p e s m args below meth c H locs ls hC hS hR hL)
theorem xoiald {t N : Nat} {f : Nat → Int} {i i' : Int} {rm : Room} (hd : decode y.2.1 pc = .ok (.iaload, 1)) (hT : ∀ U, gSP G U → va_T .int t N (fun j => gI (f j)) (gA G true) U U.heap) (hi : w32 i = i') (hg : g32 i') (h0 : 0 ≤ i') (hn : i' < (N : Int)) (kk : wp l G y rm fr K md (pc + 1) L (gI (f i'.toNat) :: st) X M cs ss) : wp l G y rm fr K md pc L (gI i :: .ref t :: st) X M cs ss := by
  subst hi
  exact wp_st (st' := gI (w32 i) :: .ref t :: st) (by rw [gI_w]) (wp_oiald hd hT hg h0 hn kk)
end gZc
/-- where the class's object, the reference's and the row for answers lie -/
def gLw (X : gX) (c o w : Nat) : Prop := (1 ≤ c ∧ c ≤ X.1 ∧ X.2.1 c = (6, 12)) ∧ gmX X o ∧ 1 ≤ w ∧ w ≤ X.1 ∧ X.2.1 w = (1, 1)
theorem ml_Lw_68 : (Cond.methodLink "GridLedgerLaw" (68 : Nat) ({ cls := "GridLedgerLaw", name := "feed", desc := "(LGridLedger;IIIII[J)I" } : MethodName)) ∈ gTb := (tc_2 (List.mem_of_getElem? (i := 218) rfl) rfl)
theorem sm_Lw_feed : (Cond.static ({ cls := "GridLedgerLaw", name := "feed", desc := "(LGridLedger;IIIII[J)I" } : MethodName)) ∈ gTb := (tc_2 (List.mem_of_getElem? (i := 219) rfl) rfl)
theorem ii_Lw : (Cond.initialized "GridLedgerLaw") ∈ gTb := (tc_1 (List.mem_of_getElem? (i := 0) rfl) rfl)
theorem ml_Lw_73 : (Cond.methodLink "GridLedgerLaw" (73 : Nat) ({ cls := "GridLedgerModel", name := "feed", desc := "(IIIII)I" } : MethodName)) ∈ gTb := (tc_7 (List.mem_of_getElem? (i := 138) rfl) rfl)
theorem im_GM_feed : (Cond.instanceMethod ({ cls := "GridLedgerModel", name := "feed", desc := "(IIIII)I" } : MethodName)) ∈ gTb := (tc_7 (List.mem_of_getElem? (i := 139) rfl) rfl)
theorem ml_Lw_74 : (Cond.methodLink "GridLedgerLaw" (74 : Nat) ({ cls := "GridLedgerModel", name := "thrown", desc := "()I" } : MethodName)) ∈ gTb := (tc_7 (List.mem_of_getElem? (i := 134) rfl) rfl)
theorem im_GM_thrown : (Cond.instanceMethod ({ cls := "GridLedgerModel", name := "thrown", desc := "()I" } : MethodName)) ∈ gTb := (tc_7 (List.mem_of_getElem? (i := 135) rfl) rfl)
theorem ml_Lw_77 : (Cond.methodLink "GridLedgerLaw" (77 : Nat) ({ cls := "GridLedgerLaw", name := "end", desc := "(LGridLedger;I[J)I" } : MethodName)) ∈ gTb := (tc_3 (List.mem_of_getElem? (i := 54) rfl) rfl)
theorem sm_Lw_end : (Cond.static ({ cls := "GridLedgerLaw", name := "end", desc := "(LGridLedger;I[J)I" } : MethodName)) ∈ gTb := (tc_3 (List.mem_of_getElem? (i := 55) rfl) rfl)
theorem ml_Lw_80 : (Cond.methodLink "GridLedgerLaw" (80 : Nat) ({ cls := "GridLedgerModel", name := "end", desc := "(I)I" } : MethodName)) ∈ gTb := (tc_7 (List.mem_of_getElem? (i := 146) rfl) rfl)
theorem im_GM_end : (Cond.instanceMethod ({ cls := "GridLedgerModel", name := "end", desc := "(I)I" } : MethodName)) ∈ gTb := (tc_7 (List.mem_of_getElem? (i := 147) rfl) rfl)
theorem ml_Lw_81 : (Cond.methodLink "GridLedgerLaw" (81 : Nat) ({ cls := "GridLedgerLaw", name := "put", desc := "(LGridLedger;II[J)I" } : MethodName)) ∈ gTb := (tc_3 (List.mem_of_getElem? (i := 80) rfl) rfl)
theorem sm_Lw_put : (Cond.static ({ cls := "GridLedgerLaw", name := "put", desc := "(LGridLedger;II[J)I" } : MethodName)) ∈ gTb := (tc_3 (List.mem_of_getElem? (i := 81) rfl) rfl)
theorem ml_Lw_84 : (Cond.methodLink "GridLedgerLaw" (84 : Nat) ({ cls := "GridLedgerModel", name := "put", desc := "(II)I" } : MethodName)) ∈ gTb := (tc_7 (List.mem_of_getElem? (i := 150) rfl) rfl)
theorem im_GM_put : (Cond.instanceMethod ({ cls := "GridLedgerModel", name := "put", desc := "(II)I" } : MethodName)) ∈ gTb := (tc_7 (List.mem_of_getElem? (i := 151) rfl) rfl)
theorem ml_Lw_85 : (Cond.methodLink "GridLedgerLaw" (85 : Nat) ({ cls := "GridLedgerLaw", name := "fill", desc := "(LGridLedger;IIIIII[J)I" } : MethodName)) ∈ gTb := (tc_6 (List.mem_of_getElem? (i := 5) rfl) rfl)
theorem sm_Lw_fill : (Cond.static ({ cls := "GridLedgerLaw", name := "fill", desc := "(LGridLedger;IIIIII[J)I" } : MethodName)) ∈ gTb := (tc_6 (List.mem_of_getElem? (i := 6) rfl) rfl)
theorem ml_Lw_88 : (Cond.methodLink "GridLedgerLaw" (88 : Nat) ({ cls := "GridLedgerModel", name := "fill", desc := "(IIIIII)I" } : MethodName)) ∈ gTb := (tc_9 (List.mem_of_getElem? (i := 2) rfl) rfl)
theorem im_GM_fill : (Cond.instanceMethod ({ cls := "GridLedgerModel", name := "fill", desc := "(IIIIII)I" } : MethodName)) ∈ gTb := (tc_9 (List.mem_of_getElem? (i := 3) rfl) rfl)
theorem ml_Lw_89 : (Cond.methodLink "GridLedgerLaw" (89 : Nat) ({ cls := "GridLedgerLaw", name := "insert", desc := "(LGridLedger;ZII[J)I" } : MethodName)) ∈ gTb := (tc_6 (List.mem_of_getElem? (i := 20) rfl) rfl)
theorem sm_Lw_insert : (Cond.static ({ cls := "GridLedgerLaw", name := "insert", desc := "(LGridLedger;ZII[J)I" } : MethodName)) ∈ gTb := (tc_6 (List.mem_of_getElem? (i := 21) rfl) rfl)
theorem ml_Lw_92 : (Cond.methodLink "GridLedgerLaw" (92 : Nat) ({ cls := "GridLedgerModel", name := "insert", desc := "(ZII)I" } : MethodName)) ∈ gTb := (tc_9 (List.mem_of_getElem? (i := 14) rfl) rfl)
theorem im_GM_insert : (Cond.instanceMethod ({ cls := "GridLedgerModel", name := "insert", desc := "(ZII)I" } : MethodName)) ∈ gTb := (tc_9 (List.mem_of_getElem? (i := 15) rfl) rfl)
theorem ml_Lw_93 : (Cond.methodLink "GridLedgerLaw" (93 : Nat) ({ cls := "GridLedgerLaw", name := "erase", desc := "(LGridLedger;ZII[J)I" } : MethodName)) ∈ gTb := (tc_6 (List.mem_of_getElem? (i := 65) rfl) rfl)
theorem sm_Lw_erase : (Cond.static ({ cls := "GridLedgerLaw", name := "erase", desc := "(LGridLedger;ZII[J)I" } : MethodName)) ∈ gTb := (tc_6 (List.mem_of_getElem? (i := 66) rfl) rfl)
theorem ml_Lw_95 : (Cond.methodLink "GridLedgerLaw" (95 : Nat) ({ cls := "GridLedgerModel", name := "erase", desc := "(ZII)I" } : MethodName)) ∈ gTb := (tc_9 (List.mem_of_getElem? (i := 32) rfl) rfl)
theorem im_GM_erase : (Cond.instanceMethod ({ cls := "GridLedgerModel", name := "erase", desc := "(ZII)I" } : MethodName)) ∈ gTb := (tc_9 (List.mem_of_getElem? (i := 33) rfl) rfl)
theorem ml_Lw_96 : (Cond.methodLink "GridLedgerLaw" (96 : Nat) ({ cls := "GridLedgerLaw", name := "undo", desc := "(LGridLedger;[J)I" } : MethodName)) ∈ gTb := (tc_6 (List.mem_of_getElem? (i := 72) rfl) rfl)
theorem sm_Lw_undo : (Cond.static ({ cls := "GridLedgerLaw", name := "undo", desc := "(LGridLedger;[J)I" } : MethodName)) ∈ gTb := (tc_6 (List.mem_of_getElem? (i := 73) rfl) rfl)
theorem ml_Lw_99 : (Cond.methodLink "GridLedgerLaw" (99 : Nat) ({ cls := "GridLedgerModel", name := "undo", desc := "()I" } : MethodName)) ∈ gTb := (tc_9 (List.mem_of_getElem? (i := 36) rfl) rfl)
theorem im_GM_undo : (Cond.instanceMethod ({ cls := "GridLedgerModel", name := "undo", desc := "()I" } : MethodName)) ∈ gTb := (tc_9 (List.mem_of_getElem? (i := 37) rfl) rfl)
theorem ml_Lw_100 : (Cond.methodLink "GridLedgerLaw" (100 : Nat) ({ cls := "GridLedgerLaw", name := "redo", desc := "(LGridLedger;[J)I" } : MethodName)) ∈ gTb := (tc_6 (List.mem_of_getElem? (i := 79) rfl) rfl)
theorem sm_Lw_redo : (Cond.static ({ cls := "GridLedgerLaw", name := "redo", desc := "(LGridLedger;[J)I" } : MethodName)) ∈ gTb := (tc_6 (List.mem_of_getElem? (i := 80) rfl) rfl)
theorem ml_Lw_102 : (Cond.methodLink "GridLedgerLaw" (102 : Nat) ({ cls := "GridLedgerModel", name := "redo", desc := "()I" } : MethodName)) ∈ gTb := (tc_9 (List.mem_of_getElem? (i := 40) rfl) rfl)
theorem im_GM_redo : (Cond.instanceMethod ({ cls := "GridLedgerModel", name := "redo", desc := "()I" } : MethodName)) ∈ gTb := (tc_9 (List.mem_of_getElem? (i := 41) rfl) rfl)
theorem ml_Lw_103 : (Cond.methodLink "GridLedgerLaw" (103 : Nat) ({ cls := "GridLedgerLaw", name := "value", desc := "(LGridLedger;III[J)I" } : MethodName)) ∈ gTb := (tc_6 (List.mem_of_getElem? (i := 86) rfl) rfl)
theorem sm_Lw_value : (Cond.static ({ cls := "GridLedgerLaw", name := "value", desc := "(LGridLedger;III[J)I" } : MethodName)) ∈ gTb := (tc_6 (List.mem_of_getElem? (i := 87) rfl) rfl)
theorem ml_Lw_106 : (Cond.methodLink "GridLedgerLaw" (106 : Nat) ({ cls := "GridLedgerModel", name := "value", desc := "(III)J" } : MethodName)) ∈ gTb := (tc_9 (List.mem_of_getElem? (i := 44) rfl) rfl)
theorem im_GM_value : (Cond.instanceMethod ({ cls := "GridLedgerModel", name := "value", desc := "(III)J" } : MethodName)) ∈ gTb := (tc_9 (List.mem_of_getElem? (i := 45) rfl) rfl)
theorem ml_Lw_107 : (Cond.methodLink "GridLedgerLaw" (107 : Nat) ({ cls := "GridLedgerLaw", name := "letter", desc := "(LGridLedger;III[J)I" } : MethodName)) ∈ gTb := (tc_6 (List.mem_of_getElem? (i := 93) rfl) rfl)
theorem sm_Lw_letter : (Cond.static ({ cls := "GridLedgerLaw", name := "letter", desc := "(LGridLedger;III[J)I" } : MethodName)) ∈ gTb := (tc_6 (List.mem_of_getElem? (i := 94) rfl) rfl)
theorem ml_Lw_109 : (Cond.methodLink "GridLedgerLaw" (109 : Nat) ({ cls := "GridLedgerModel", name := "letter", desc := "(III)I" } : MethodName)) ∈ gTb := (tc_9 (List.mem_of_getElem? (i := 48) rfl) rfl)
theorem im_GM_letter_2 : (Cond.instanceMethod ({ cls := "GridLedgerModel", name := "letter", desc := "(III)I" } : MethodName)) ∈ gTb := (tc_9 (List.mem_of_getElem? (i := 49) rfl) rfl)
theorem ml_Lw_110 : (Cond.methodLink "GridLedgerLaw" (110 : Nat) ({ cls := "GridLedgerLaw", name := "content", desc := "(LGridLedger;III[J)I" } : MethodName)) ∈ gTb := (tc_6 (List.mem_of_getElem? (i := 116) rfl) rfl)
theorem sm_Lw_content : (Cond.static ({ cls := "GridLedgerLaw", name := "content", desc := "(LGridLedger;III[J)I" } : MethodName)) ∈ gTb := (tc_6 (List.mem_of_getElem? (i := 117) rfl) rfl)
theorem ml_Lw_112 : (Cond.methodLink "GridLedgerLaw" (112 : Nat) ({ cls := "GridLedgerModel", name := "content", desc := "(III)I" } : MethodName)) ∈ gTb := (tc_9 (List.mem_of_getElem? (i := 52) rfl) rfl)
theorem im_GM_content : (Cond.instanceMethod ({ cls := "GridLedgerModel", name := "content", desc := "(III)I" } : MethodName)) ∈ gTb := (tc_9 (List.mem_of_getElem? (i := 53) rfl) rfl)
theorem ml_Lw_113 : (Cond.methodLink "GridLedgerLaw" (113 : Nat) ({ cls := "GridLedgerLaw", name := "reference", desc := "(LGridLedger;III[J)I" } : MethodName)) ∈ gTb := (tc_6 (List.mem_of_getElem? (i := 128) rfl) rfl)
theorem sm_Lw_reference : (Cond.static ({ cls := "GridLedgerLaw", name := "reference", desc := "(LGridLedger;III[J)I" } : MethodName)) ∈ gTb := (tc_6 (List.mem_of_getElem? (i := 129) rfl) rfl)
theorem ml_Lw_115 : (Cond.methodLink "GridLedgerLaw" (115 : Nat) ({ cls := "GridLedgerModel", name := "reference", desc := "(III)I" } : MethodName)) ∈ gTb := (tc_9 (List.mem_of_getElem? (i := 56) rfl) rfl)
theorem im_GM_reference : (Cond.instanceMethod ({ cls := "GridLedgerModel", name := "reference", desc := "(III)I" } : MethodName)) ∈ gTb := (tc_9 (List.mem_of_getElem? (i := 57) rfl) rfl)
theorem ml_Lw_116 : (Cond.methodLink "GridLedgerLaw" (116 : Nat) ({ cls := "GridLedgerLaw", name := "changed", desc := "(LGridLedger;I[J)I" } : MethodName)) ∈ gTb := (tc_6 (List.mem_of_getElem? (i := 135) rfl) rfl)
theorem sm_Lw_changed : (Cond.static ({ cls := "GridLedgerLaw", name := "changed", desc := "(LGridLedger;I[J)I" } : MethodName)) ∈ gTb := (tc_6 (List.mem_of_getElem? (i := 136) rfl) rfl)
theorem ml_Lw_118 : (Cond.methodLink "GridLedgerLaw" (118 : Nat) ({ cls := "GridLedgerModel", name := "changed", desc := "(I)I" } : MethodName)) ∈ gTb := (tc_9 (List.mem_of_getElem? (i := 60) rfl) rfl)
theorem im_GM_changed : (Cond.instanceMethod ({ cls := "GridLedgerModel", name := "changed", desc := "(I)I" } : MethodName)) ∈ gTb := (tc_9 (List.mem_of_getElem? (i := 61) rfl) rfl)
theorem ml_Lw_119 : (Cond.methodLink "GridLedgerLaw" (119 : Nat) ({ cls := "GridLedger", name := "count", desc := "(I)I" } : MethodName)) ∈ gTb := (tc_2 (List.mem_of_getElem? (i := 205) rfl) rfl)
theorem im_GL_count : (Cond.instanceMethod ({ cls := "GridLedger", name := "count", desc := "(I)I" } : MethodName)) ∈ gTb := (tc_2 (List.mem_of_getElem? (i := 206) rfl) rfl)
theorem ml_Lw_122 : (Cond.methodLink "GridLedgerLaw" (122 : Nat) ({ cls := "GridLedgerModel", name := "count", desc := "(I)I" } : MethodName)) ∈ gTb := (tc_9 (List.mem_of_getElem? (i := 64) rfl) rfl)
theorem im_GM_count : (Cond.instanceMethod ({ cls := "GridLedgerModel", name := "count", desc := "(I)I" } : MethodName)) ∈ gTb := (tc_9 (List.mem_of_getElem? (i := 65) rfl) rfl)
theorem ca_GM_feed : gCal y_GM_feed 5 := ⟨(tc_7 (List.mem_of_getElem? (i := 141) rfl) rfl), (tc_1 (List.mem_of_getElem? (i := 12) rfl) rfl), by decide, by decide, by decide +kernel⟩
theorem se_GM_feed : Cond.selects "GridLedgerModel" y_GM_feed.1 y_GM_feed.1 ∈ gTb := (tc_7 (List.mem_of_getElem? (i := 140) rfl) rfl)
theorem ca_GM_thrown : gCal y_GM_thrown 0 := ⟨(tc_7 (List.mem_of_getElem? (i := 137) rfl) rfl), (tc_1 (List.mem_of_getElem? (i := 12) rfl) rfl), by decide, by decide, by decide +kernel⟩
theorem se_GM_thrown : Cond.selects "GridLedgerModel" y_GM_thrown.1 y_GM_thrown.1 ∈ gTb := (tc_7 (List.mem_of_getElem? (i := 136) rfl) rfl)
theorem ca_GM_end : gCal y_GM_end 1 := ⟨(tc_7 (List.mem_of_getElem? (i := 149) rfl) rfl), (tc_1 (List.mem_of_getElem? (i := 12) rfl) rfl), by decide, by decide, by decide +kernel⟩
theorem se_GM_end : Cond.selects "GridLedgerModel" y_GM_end.1 y_GM_end.1 ∈ gTb := (tc_7 (List.mem_of_getElem? (i := 148) rfl) rfl)
theorem ca_GM_put : gCal y_GM_put 2 := ⟨(tc_7 (List.mem_of_getElem? (i := 153) rfl) rfl), (tc_1 (List.mem_of_getElem? (i := 12) rfl) rfl), by decide, by decide, by decide +kernel⟩
theorem se_GM_put : Cond.selects "GridLedgerModel" y_GM_put.1 y_GM_put.1 ∈ gTb := (tc_7 (List.mem_of_getElem? (i := 152) rfl) rfl)
theorem ca_GM_fill : gCal y_GM_fill 6 := ⟨(tc_9 (List.mem_of_getElem? (i := 5) rfl) rfl), (tc_1 (List.mem_of_getElem? (i := 12) rfl) rfl), by decide, by decide, by decide +kernel⟩
theorem se_GM_fill : Cond.selects "GridLedgerModel" y_GM_fill.1 y_GM_fill.1 ∈ gTb := (tc_9 (List.mem_of_getElem? (i := 4) rfl) rfl)
theorem ca_GM_insert : gCal y_GM_insert 3 := ⟨(tc_9 (List.mem_of_getElem? (i := 17) rfl) rfl), (tc_1 (List.mem_of_getElem? (i := 12) rfl) rfl), by decide, by decide, by decide +kernel⟩
theorem se_GM_insert : Cond.selects "GridLedgerModel" y_GM_insert.1 y_GM_insert.1 ∈ gTb := (tc_9 (List.mem_of_getElem? (i := 16) rfl) rfl)
theorem ca_GM_erase : gCal y_GM_erase 3 := ⟨(tc_9 (List.mem_of_getElem? (i := 35) rfl) rfl), (tc_1 (List.mem_of_getElem? (i := 12) rfl) rfl), by decide, by decide, by decide +kernel⟩
theorem se_GM_erase : Cond.selects "GridLedgerModel" y_GM_erase.1 y_GM_erase.1 ∈ gTb := (tc_9 (List.mem_of_getElem? (i := 34) rfl) rfl)
theorem ca_GM_undo : gCal y_GM_undo 0 := ⟨(tc_9 (List.mem_of_getElem? (i := 39) rfl) rfl), (tc_1 (List.mem_of_getElem? (i := 12) rfl) rfl), by decide, by decide, by decide +kernel⟩
theorem se_GM_undo : Cond.selects "GridLedgerModel" y_GM_undo.1 y_GM_undo.1 ∈ gTb := (tc_9 (List.mem_of_getElem? (i := 38) rfl) rfl)
theorem ca_GM_redo : gCal y_GM_redo 0 := ⟨(tc_9 (List.mem_of_getElem? (i := 43) rfl) rfl), (tc_1 (List.mem_of_getElem? (i := 12) rfl) rfl), by decide, by decide, by decide +kernel⟩
theorem se_GM_redo : Cond.selects "GridLedgerModel" y_GM_redo.1 y_GM_redo.1 ∈ gTb := (tc_9 (List.mem_of_getElem? (i := 42) rfl) rfl)
theorem ca_GM_value : gCal y_GM_value 3 := ⟨(tc_9 (List.mem_of_getElem? (i := 47) rfl) rfl), (tc_1 (List.mem_of_getElem? (i := 12) rfl) rfl), by decide, by decide, by decide +kernel⟩
theorem se_GM_value : Cond.selects "GridLedgerModel" y_GM_value.1 y_GM_value.1 ∈ gTb := (tc_9 (List.mem_of_getElem? (i := 46) rfl) rfl)
theorem ca_GM_letter_2 : gCal y_GM_letter_2 3 := ⟨(tc_9 (List.mem_of_getElem? (i := 51) rfl) rfl), (tc_1 (List.mem_of_getElem? (i := 12) rfl) rfl), by decide, by decide, by decide +kernel⟩
theorem se_GM_letter_2 : Cond.selects "GridLedgerModel" y_GM_letter_2.1 y_GM_letter_2.1 ∈ gTb := (tc_9 (List.mem_of_getElem? (i := 50) rfl) rfl)
theorem ca_GM_content : gCal y_GM_content 3 := ⟨(tc_9 (List.mem_of_getElem? (i := 55) rfl) rfl), (tc_1 (List.mem_of_getElem? (i := 12) rfl) rfl), by decide, by decide, by decide +kernel⟩
theorem se_GM_content : Cond.selects "GridLedgerModel" y_GM_content.1 y_GM_content.1 ∈ gTb := (tc_9 (List.mem_of_getElem? (i := 54) rfl) rfl)
theorem ca_GM_reference : gCal y_GM_reference 3 := ⟨(tc_9 (List.mem_of_getElem? (i := 59) rfl) rfl), (tc_1 (List.mem_of_getElem? (i := 12) rfl) rfl), by decide, by decide, by decide +kernel⟩
theorem se_GM_reference : Cond.selects "GridLedgerModel" y_GM_reference.1 y_GM_reference.1 ∈ gTb := (tc_9 (List.mem_of_getElem? (i := 58) rfl) rfl)
theorem ca_GM_changed : gCal y_GM_changed 1 := ⟨(tc_9 (List.mem_of_getElem? (i := 63) rfl) rfl), (tc_1 (List.mem_of_getElem? (i := 12) rfl) rfl), by decide, by decide, by decide +kernel⟩
theorem se_GM_changed : Cond.selects "GridLedgerModel" y_GM_changed.1 y_GM_changed.1 ∈ gTb := (tc_9 (List.mem_of_getElem? (i := 62) rfl) rfl)
theorem ca_GL_count : gCal y_GL_count 1 := ⟨(tc_2 (List.mem_of_getElem? (i := 208) rfl) rfl), (tc_1 (List.mem_of_getElem? (i := 1) rfl) rfl), by decide, by decide, by decide +kernel⟩
theorem se_GL_count : Cond.selects "GridLedger" y_GL_count.1 y_GL_count.1 ∈ gTb := (tc_2 (List.mem_of_getElem? (i := 207) rfl) rfl)
theorem ca_GM_count : gCal y_GM_count 1 := ⟨(tc_9 (List.mem_of_getElem? (i := 67) rfl) rfl), (tc_1 (List.mem_of_getElem? (i := 12) rfl) rfl), by decide, by decide, by decide +kernel⟩
theorem se_GM_count : Cond.selects "GridLedgerModel" y_GM_count.1 y_GM_count.1 ∈ gTb := (tc_9 (List.mem_of_getElem? (i := 66) rfl) rfl)
theorem d_Lw_law_23 : decode code 23 = .ok (.iload 4, 2) := by decide +kernel
theorem d_Lw_law_25 : decode code 25 = .ok (.aload_n 0, 1) := by decide +kernel
theorem d_Lw_law_26 : decode code 26 = .ok (.arraylength, 1) := by decide +kernel
theorem d_Lw_law_27 : decode code 27 = .ok (.bipush 7, 2) := by decide +kernel
theorem d_Lw_law_29 : decode code 29 = .ok (.isub, 1) := by decide +kernel
theorem d_Lw_law_30 : decode code 30 = .ok (.if_icmp .gt 1114, 3) := by decide +kernel
theorem d_Lw_law_1144 : decode code 1144 = .ok (.iconst 1, 1) := by decide +kernel
theorem d_Lw_law_1145 : decode code 1145 = .ok (.ireturn, 1) := by decide +kernel
theorem d_Lw_law_33 : decode code 33 = .ok (.aload_n 0, 1) := by decide +kernel
theorem d_Lw_law_34 : decode code 34 = .ok (.iload 4, 2) := by decide +kernel
theorem d_Lw_law_36 : decode code 36 = .ok (.iaload, 1) := by decide +kernel
theorem d_Lw_law_37 : decode code 37 = .ok (.bipush 15, 2) := by decide +kernel
theorem d_Lw_law_39 : decode code 39 = .ok (.iand, 1) := by decide +kernel
theorem d_Lw_law_40 : decode code 40 = .ok (.tableswitch 1098 0 13 #[72, 176, 232, 300, 418, 514, 610, 654, 698, 777, 857, 937, 1017, 1073], 72) := by decide +kernel
theorem d_Lw_law_112 : decode code 112 = .ok (.aload_n 1, 1) := by decide +kernel
theorem d_Lw_law_113 : decode code 113 = .ok (.aload_n 0, 1) := by decide +kernel
theorem d_Lw_law_114 : decode code 114 = .ok (.iload 4, 2) := by decide +kernel
theorem d_Lw_law_116 : decode code 116 = .ok (.iconst 1, 1) := by decide +kernel
theorem d_Lw_law_117 : decode code 117 = .ok (.iadd, 1) := by decide +kernel
theorem d_Lw_law_118 : decode code 118 = .ok (.iaload, 1) := by decide +kernel
theorem d_Lw_law_119 : decode code 119 = .ok (.aload_n 0, 1) := by decide +kernel
theorem d_Lw_law_120 : decode code 120 = .ok (.iload 4, 2) := by decide +kernel
theorem d_Lw_law_122 : decode code 122 = .ok (.iconst 2, 1) := by decide +kernel
theorem d_Lw_law_123 : decode code 123 = .ok (.iadd, 1) := by decide +kernel
theorem d_Lw_law_124 : decode code 124 = .ok (.iaload, 1) := by decide +kernel
theorem d_Lw_law_125 : decode code 125 = .ok (.aload_n 0, 1) := by decide +kernel
theorem d_Lw_law_126 : decode code 126 = .ok (.iload 4, 2) := by decide +kernel
theorem d_Lw_law_128 : decode code 128 = .ok (.iconst 3, 1) := by decide +kernel
theorem d_Lw_law_129 : decode code 129 = .ok (.iadd, 1) := by decide +kernel
theorem d_Lw_law_130 : decode code 130 = .ok (.iaload, 1) := by decide +kernel
theorem d_Lw_law_131 : decode code 131 = .ok (.aload_n 0, 1) := by decide +kernel
theorem d_Lw_law_132 : decode code 132 = .ok (.iload 4, 2) := by decide +kernel
theorem d_Lw_law_134 : decode code 134 = .ok (.iconst 4, 1) := by decide +kernel
theorem d_Lw_law_135 : decode code 135 = .ok (.iadd, 1) := by decide +kernel
theorem d_Lw_law_136 : decode code 136 = .ok (.iaload, 1) := by decide +kernel
theorem d_Lw_law_137 : decode code 137 = .ok (.aload_n 0, 1) := by decide +kernel
theorem d_Lw_law_138 : decode code 138 = .ok (.iload 4, 2) := by decide +kernel
theorem d_Lw_law_140 : decode code 140 = .ok (.iconst 5, 1) := by decide +kernel
theorem d_Lw_law_141 : decode code 141 = .ok (.iadd, 1) := by decide +kernel
theorem d_Lw_law_142 : decode code 142 = .ok (.iaload, 1) := by decide +kernel
theorem d_Lw_law_143 : decode code 143 = .ok (.aload_n 3, 1) := by decide +kernel
theorem d_Lw_law_144 : decode code 144 = .ok (.invokestatic 68, 3) := by decide +kernel
theorem d_Lw_law_147 : decode code 147 = .ok (.istore 5, 2) := by decide +kernel
theorem d_Lw_law_149 : decode code 149 = .ok (.aload_n 2, 1) := by decide +kernel
theorem d_Lw_law_150 : decode code 150 = .ok (.aload_n 0, 1) := by decide +kernel
theorem d_Lw_law_151 : decode code 151 = .ok (.iload 4, 2) := by decide +kernel
theorem d_Lw_law_153 : decode code 153 = .ok (.iconst 1, 1) := by decide +kernel
theorem d_Lw_law_154 : decode code 154 = .ok (.iadd, 1) := by decide +kernel
theorem d_Lw_law_155 : decode code 155 = .ok (.iaload, 1) := by decide +kernel
theorem d_Lw_law_156 : decode code 156 = .ok (.aload_n 0, 1) := by decide +kernel
theorem d_Lw_law_157 : decode code 157 = .ok (.iload 4, 2) := by decide +kernel
theorem d_Lw_law_159 : decode code 159 = .ok (.iconst 2, 1) := by decide +kernel
theorem d_Lw_law_160 : decode code 160 = .ok (.iadd, 1) := by decide +kernel
theorem d_Lw_law_161 : decode code 161 = .ok (.iaload, 1) := by decide +kernel
theorem d_Lw_law_162 : decode code 162 = .ok (.aload_n 0, 1) := by decide +kernel
theorem d_Lw_law_163 : decode code 163 = .ok (.iload 4, 2) := by decide +kernel
theorem d_Lw_law_165 : decode code 165 = .ok (.iconst 3, 1) := by decide +kernel
theorem d_Lw_law_166 : decode code 166 = .ok (.iadd, 1) := by decide +kernel
theorem d_Lw_law_167 : decode code 167 = .ok (.iaload, 1) := by decide +kernel
theorem d_Lw_law_168 : decode code 168 = .ok (.aload_n 0, 1) := by decide +kernel
theorem d_Lw_law_169 : decode code 169 = .ok (.iload 4, 2) := by decide +kernel
theorem d_Lw_law_171 : decode code 171 = .ok (.iconst 4, 1) := by decide +kernel
theorem d_Lw_law_172 : decode code 172 = .ok (.iadd, 1) := by decide +kernel
theorem d_Lw_law_173 : decode code 173 = .ok (.iaload, 1) := by decide +kernel
theorem d_Lw_law_174 : decode code 174 = .ok (.aload_n 0, 1) := by decide +kernel
theorem d_Lw_law_175 : decode code 175 = .ok (.iload 4, 2) := by decide +kernel
theorem d_Lw_law_177 : decode code 177 = .ok (.iconst 5, 1) := by decide +kernel
theorem d_Lw_law_178 : decode code 178 = .ok (.iadd, 1) := by decide +kernel
theorem d_Lw_law_179 : decode code 179 = .ok (.iaload, 1) := by decide +kernel
theorem d_Lw_law_180 : decode code 180 = .ok (.invokevirtual 73, 3) := by decide +kernel
theorem d_Lw_law_183 : decode code 183 = .ok (.istore 6, 2) := by decide +kernel
theorem d_Lw_law_185 : decode code 185 = .ok (.aload_n 2, 1) := by decide +kernel
theorem d_Lw_law_186 : decode code 186 = .ok (.invokevirtual 74, 3) := by decide +kernel
theorem d_Lw_law_189 : decode code 189 = .ok (.iload 5, 2) := by decide +kernel
theorem d_Lw_law_191 : decode code 191 = .ok (.if_icmp .eq 5, 3) := by decide +kernel
theorem d_Lw_law_196 : decode code 196 = .ok (.iload 5, 2) := by decide +kernel
theorem d_Lw_law_198 : decode code 198 = .ok (.ifCond .ne 15, 3) := by decide +kernel
theorem d_Lw_law_213 : decode code 213 = .ok (.goto 925, 3) := by decide +kernel
theorem d_Lw_law_201 : decode code 201 = .ok (.aload_n 3, 1) := by decide +kernel
theorem d_Lw_law_202 : decode code 202 = .ok (.iconst 0, 1) := by decide +kernel
theorem d_Lw_law_203 : decode code 203 = .ok (.laload, 1) := by decide +kernel
theorem d_Lw_law_204 : decode code 204 = .ok (.iload 6, 2) := by decide +kernel
theorem d_Lw_law_206 : decode code 206 = .ok (.i2l, 1) := by decide +kernel
theorem d_Lw_law_207 : decode code 207 = .ok (.lcmp, 1) := by decide +kernel
theorem d_Lw_law_208 : decode code 208 = .ok (.ifCond .eq 5, 3) := by decide +kernel
theorem d_Lw_law_211 : decode code 211 = .ok (.iconst 0, 1) := by decide +kernel
theorem d_Lw_law_212 : decode code 212 = .ok (.ireturn, 1) := by decide +kernel
theorem d_Lw_law_194 : decode code 194 = .ok (.iconst 0, 1) := by decide +kernel
theorem d_Lw_law_195 : decode code 195 = .ok (.ireturn, 1) := by decide +kernel
theorem d_Lw_law_216 : decode code 216 = .ok (.aload_n 1, 1) := by decide +kernel
theorem d_Lw_law_217 : decode code 217 = .ok (.aload_n 0, 1) := by decide +kernel
theorem d_Lw_law_218 : decode code 218 = .ok (.iload 4, 2) := by decide +kernel
theorem d_Lw_law_220 : decode code 220 = .ok (.iconst 1, 1) := by decide +kernel
theorem d_Lw_law_221 : decode code 221 = .ok (.iadd, 1) := by decide +kernel
theorem d_Lw_law_222 : decode code 222 = .ok (.iaload, 1) := by decide +kernel
theorem d_Lw_law_223 : decode code 223 = .ok (.aload_n 3, 1) := by decide +kernel
theorem d_Lw_law_224 : decode code 224 = .ok (.invokestatic 77, 3) := by decide +kernel
theorem d_Lw_law_227 : decode code 227 = .ok (.istore 5, 2) := by decide +kernel
theorem d_Lw_law_229 : decode code 229 = .ok (.aload_n 2, 1) := by decide +kernel
theorem d_Lw_law_230 : decode code 230 = .ok (.aload_n 0, 1) := by decide +kernel
theorem d_Lw_law_231 : decode code 231 = .ok (.iload 4, 2) := by decide +kernel
theorem d_Lw_law_233 : decode code 233 = .ok (.iconst 1, 1) := by decide +kernel
theorem d_Lw_law_234 : decode code 234 = .ok (.iadd, 1) := by decide +kernel
theorem d_Lw_law_235 : decode code 235 = .ok (.iaload, 1) := by decide +kernel
theorem d_Lw_law_236 : decode code 236 = .ok (.invokevirtual 80, 3) := by decide +kernel
theorem d_Lw_law_239 : decode code 239 = .ok (.istore 6, 2) := by decide +kernel
theorem d_Lw_law_241 : decode code 241 = .ok (.aload_n 2, 1) := by decide +kernel
theorem d_Lw_law_242 : decode code 242 = .ok (.invokevirtual 74, 3) := by decide +kernel
theorem d_Lw_law_245 : decode code 245 = .ok (.iload 5, 2) := by decide +kernel
theorem d_Lw_law_247 : decode code 247 = .ok (.if_icmp .eq 5, 3) := by decide +kernel
theorem d_Lw_law_252 : decode code 252 = .ok (.iload 5, 2) := by decide +kernel
theorem d_Lw_law_254 : decode code 254 = .ok (.ifCond .ne 15, 3) := by decide +kernel
theorem d_Lw_law_269 : decode code 269 = .ok (.goto 869, 3) := by decide +kernel
theorem d_Lw_law_257 : decode code 257 = .ok (.aload_n 3, 1) := by decide +kernel
theorem d_Lw_law_258 : decode code 258 = .ok (.iconst 0, 1) := by decide +kernel
theorem d_Lw_law_259 : decode code 259 = .ok (.laload, 1) := by decide +kernel
theorem d_Lw_law_260 : decode code 260 = .ok (.iload 6, 2) := by decide +kernel
theorem d_Lw_law_262 : decode code 262 = .ok (.i2l, 1) := by decide +kernel
theorem d_Lw_law_263 : decode code 263 = .ok (.lcmp, 1) := by decide +kernel
theorem d_Lw_law_264 : decode code 264 = .ok (.ifCond .eq 5, 3) := by decide +kernel
theorem d_Lw_law_267 : decode code 267 = .ok (.iconst 0, 1) := by decide +kernel
theorem d_Lw_law_268 : decode code 268 = .ok (.ireturn, 1) := by decide +kernel
theorem d_Lw_law_250 : decode code 250 = .ok (.iconst 0, 1) := by decide +kernel
theorem d_Lw_law_251 : decode code 251 = .ok (.ireturn, 1) := by decide +kernel
theorem d_Lw_law_272 : decode code 272 = .ok (.aload_n 1, 1) := by decide +kernel
theorem d_Lw_law_273 : decode code 273 = .ok (.aload_n 0, 1) := by decide +kernel
theorem d_Lw_law_274 : decode code 274 = .ok (.iload 4, 2) := by decide +kernel
theorem d_Lw_law_276 : decode code 276 = .ok (.iconst 1, 1) := by decide +kernel
theorem d_Lw_law_277 : decode code 277 = .ok (.iadd, 1) := by decide +kernel
theorem d_Lw_law_278 : decode code 278 = .ok (.iaload, 1) := by decide +kernel
theorem d_Lw_law_279 : decode code 279 = .ok (.aload_n 0, 1) := by decide +kernel
theorem d_Lw_law_280 : decode code 280 = .ok (.iload 4, 2) := by decide +kernel
theorem d_Lw_law_282 : decode code 282 = .ok (.iconst 2, 1) := by decide +kernel
theorem d_Lw_law_283 : decode code 283 = .ok (.iadd, 1) := by decide +kernel
theorem d_Lw_law_284 : decode code 284 = .ok (.iaload, 1) := by decide +kernel
theorem d_Lw_law_285 : decode code 285 = .ok (.aload_n 3, 1) := by decide +kernel
theorem d_Lw_law_286 : decode code 286 = .ok (.invokestatic 81, 3) := by decide +kernel
theorem d_Lw_law_289 : decode code 289 = .ok (.istore 5, 2) := by decide +kernel
theorem d_Lw_law_291 : decode code 291 = .ok (.aload_n 2, 1) := by decide +kernel
theorem d_Lw_law_292 : decode code 292 = .ok (.aload_n 0, 1) := by decide +kernel
theorem d_Lw_law_293 : decode code 293 = .ok (.iload 4, 2) := by decide +kernel
theorem d_Lw_law_295 : decode code 295 = .ok (.iconst 1, 1) := by decide +kernel
theorem d_Lw_law_296 : decode code 296 = .ok (.iadd, 1) := by decide +kernel
theorem d_Lw_law_297 : decode code 297 = .ok (.iaload, 1) := by decide +kernel
theorem d_Lw_law_298 : decode code 298 = .ok (.aload_n 0, 1) := by decide +kernel
theorem d_Lw_law_299 : decode code 299 = .ok (.iload 4, 2) := by decide +kernel
theorem d_Lw_law_301 : decode code 301 = .ok (.iconst 2, 1) := by decide +kernel
theorem d_Lw_law_302 : decode code 302 = .ok (.iadd, 1) := by decide +kernel
theorem d_Lw_law_303 : decode code 303 = .ok (.iaload, 1) := by decide +kernel
theorem d_Lw_law_304 : decode code 304 = .ok (.invokevirtual 84, 3) := by decide +kernel
theorem d_Lw_law_307 : decode code 307 = .ok (.istore 6, 2) := by decide +kernel
theorem d_Lw_law_309 : decode code 309 = .ok (.aload_n 2, 1) := by decide +kernel
theorem d_Lw_law_310 : decode code 310 = .ok (.invokevirtual 74, 3) := by decide +kernel
theorem d_Lw_law_313 : decode code 313 = .ok (.iload 5, 2) := by decide +kernel
theorem d_Lw_law_315 : decode code 315 = .ok (.if_icmp .eq 5, 3) := by decide +kernel
theorem d_Lw_law_320 : decode code 320 = .ok (.iload 5, 2) := by decide +kernel
theorem d_Lw_law_322 : decode code 322 = .ok (.ifCond .ne 15, 3) := by decide +kernel
theorem d_Lw_law_337 : decode code 337 = .ok (.goto 801, 3) := by decide +kernel
theorem d_Lw_law_325 : decode code 325 = .ok (.aload_n 3, 1) := by decide +kernel
theorem d_Lw_law_326 : decode code 326 = .ok (.iconst 0, 1) := by decide +kernel
theorem d_Lw_law_327 : decode code 327 = .ok (.laload, 1) := by decide +kernel
theorem d_Lw_law_328 : decode code 328 = .ok (.iload 6, 2) := by decide +kernel
theorem d_Lw_law_330 : decode code 330 = .ok (.i2l, 1) := by decide +kernel
theorem d_Lw_law_331 : decode code 331 = .ok (.lcmp, 1) := by decide +kernel
theorem d_Lw_law_332 : decode code 332 = .ok (.ifCond .eq 5, 3) := by decide +kernel
theorem d_Lw_law_335 : decode code 335 = .ok (.iconst 0, 1) := by decide +kernel
theorem d_Lw_law_336 : decode code 336 = .ok (.ireturn, 1) := by decide +kernel
theorem d_Lw_law_318 : decode code 318 = .ok (.iconst 0, 1) := by decide +kernel
theorem d_Lw_law_319 : decode code 319 = .ok (.ireturn, 1) := by decide +kernel
theorem d_Lw_law_340 : decode code 340 = .ok (.aload_n 1, 1) := by decide +kernel
theorem d_Lw_law_341 : decode code 341 = .ok (.aload_n 0, 1) := by decide +kernel
theorem d_Lw_law_342 : decode code 342 = .ok (.iload 4, 2) := by decide +kernel
theorem d_Lw_law_344 : decode code 344 = .ok (.iconst 1, 1) := by decide +kernel
theorem d_Lw_law_345 : decode code 345 = .ok (.iadd, 1) := by decide +kernel
theorem d_Lw_law_346 : decode code 346 = .ok (.iaload, 1) := by decide +kernel
theorem d_Lw_law_347 : decode code 347 = .ok (.aload_n 0, 1) := by decide +kernel
theorem d_Lw_law_348 : decode code 348 = .ok (.iload 4, 2) := by decide +kernel
theorem d_Lw_law_350 : decode code 350 = .ok (.iconst 2, 1) := by decide +kernel
theorem d_Lw_law_351 : decode code 351 = .ok (.iadd, 1) := by decide +kernel
theorem d_Lw_law_352 : decode code 352 = .ok (.iaload, 1) := by decide +kernel
theorem d_Lw_law_353 : decode code 353 = .ok (.aload_n 0, 1) := by decide +kernel
theorem d_Lw_law_354 : decode code 354 = .ok (.iload 4, 2) := by decide +kernel
theorem d_Lw_law_356 : decode code 356 = .ok (.iconst 3, 1) := by decide +kernel
theorem d_Lw_law_357 : decode code 357 = .ok (.iadd, 1) := by decide +kernel
theorem d_Lw_law_358 : decode code 358 = .ok (.iaload, 1) := by decide +kernel
theorem d_Lw_law_359 : decode code 359 = .ok (.aload_n 0, 1) := by decide +kernel
theorem d_Lw_law_360 : decode code 360 = .ok (.iload 4, 2) := by decide +kernel
theorem d_Lw_law_362 : decode code 362 = .ok (.iconst 4, 1) := by decide +kernel
theorem d_Lw_law_363 : decode code 363 = .ok (.iadd, 1) := by decide +kernel
theorem d_Lw_law_364 : decode code 364 = .ok (.iaload, 1) := by decide +kernel
theorem d_Lw_law_365 : decode code 365 = .ok (.aload_n 0, 1) := by decide +kernel
theorem d_Lw_law_366 : decode code 366 = .ok (.iload 4, 2) := by decide +kernel
theorem d_Lw_law_368 : decode code 368 = .ok (.iconst 5, 1) := by decide +kernel
theorem d_Lw_law_369 : decode code 369 = .ok (.iadd, 1) := by decide +kernel
theorem d_Lw_law_370 : decode code 370 = .ok (.iaload, 1) := by decide +kernel
theorem d_Lw_law_371 : decode code 371 = .ok (.aload_n 0, 1) := by decide +kernel
theorem d_Lw_law_372 : decode code 372 = .ok (.iload 4, 2) := by decide +kernel
theorem d_Lw_law_374 : decode code 374 = .ok (.bipush 6, 2) := by decide +kernel
theorem d_Lw_law_376 : decode code 376 = .ok (.iadd, 1) := by decide +kernel
theorem d_Lw_law_377 : decode code 377 = .ok (.iaload, 1) := by decide +kernel
theorem d_Lw_law_378 : decode code 378 = .ok (.aload_n 3, 1) := by decide +kernel
theorem d_Lw_law_379 : decode code 379 = .ok (.invokestatic 85, 3) := by decide +kernel
theorem d_Lw_law_382 : decode code 382 = .ok (.istore 5, 2) := by decide +kernel
theorem d_Lw_law_384 : decode code 384 = .ok (.aload_n 2, 1) := by decide +kernel
theorem d_Lw_law_385 : decode code 385 = .ok (.aload_n 0, 1) := by decide +kernel
theorem d_Lw_law_386 : decode code 386 = .ok (.iload 4, 2) := by decide +kernel
theorem d_Lw_law_388 : decode code 388 = .ok (.iconst 1, 1) := by decide +kernel
theorem d_Lw_law_389 : decode code 389 = .ok (.iadd, 1) := by decide +kernel
theorem d_Lw_law_390 : decode code 390 = .ok (.iaload, 1) := by decide +kernel
theorem d_Lw_law_391 : decode code 391 = .ok (.aload_n 0, 1) := by decide +kernel
theorem d_Lw_law_392 : decode code 392 = .ok (.iload 4, 2) := by decide +kernel
theorem d_Lw_law_394 : decode code 394 = .ok (.iconst 2, 1) := by decide +kernel
theorem d_Lw_law_395 : decode code 395 = .ok (.iadd, 1) := by decide +kernel
theorem d_Lw_law_396 : decode code 396 = .ok (.iaload, 1) := by decide +kernel
theorem d_Lw_law_397 : decode code 397 = .ok (.aload_n 0, 1) := by decide +kernel
theorem d_Lw_law_398 : decode code 398 = .ok (.iload 4, 2) := by decide +kernel
theorem d_Lw_law_400 : decode code 400 = .ok (.iconst 3, 1) := by decide +kernel
theorem d_Lw_law_401 : decode code 401 = .ok (.iadd, 1) := by decide +kernel
theorem d_Lw_law_402 : decode code 402 = .ok (.iaload, 1) := by decide +kernel
theorem d_Lw_law_403 : decode code 403 = .ok (.aload_n 0, 1) := by decide +kernel
theorem d_Lw_law_404 : decode code 404 = .ok (.iload 4, 2) := by decide +kernel
theorem d_Lw_law_406 : decode code 406 = .ok (.iconst 4, 1) := by decide +kernel
theorem d_Lw_law_407 : decode code 407 = .ok (.iadd, 1) := by decide +kernel
theorem d_Lw_law_408 : decode code 408 = .ok (.iaload, 1) := by decide +kernel
theorem d_Lw_law_409 : decode code 409 = .ok (.aload_n 0, 1) := by decide +kernel
theorem d_Lw_law_410 : decode code 410 = .ok (.iload 4, 2) := by decide +kernel
theorem d_Lw_law_412 : decode code 412 = .ok (.iconst 5, 1) := by decide +kernel
theorem d_Lw_law_413 : decode code 413 = .ok (.iadd, 1) := by decide +kernel
theorem d_Lw_law_414 : decode code 414 = .ok (.iaload, 1) := by decide +kernel
theorem d_Lw_law_415 : decode code 415 = .ok (.aload_n 0, 1) := by decide +kernel
theorem d_Lw_law_416 : decode code 416 = .ok (.iload 4, 2) := by decide +kernel
theorem d_Lw_law_418 : decode code 418 = .ok (.bipush 6, 2) := by decide +kernel
theorem d_Lw_law_420 : decode code 420 = .ok (.iadd, 1) := by decide +kernel
theorem d_Lw_law_421 : decode code 421 = .ok (.iaload, 1) := by decide +kernel
theorem d_Lw_law_422 : decode code 422 = .ok (.invokevirtual 88, 3) := by decide +kernel
theorem d_Lw_law_425 : decode code 425 = .ok (.istore 6, 2) := by decide +kernel
theorem d_Lw_law_427 : decode code 427 = .ok (.aload_n 2, 1) := by decide +kernel
theorem d_Lw_law_428 : decode code 428 = .ok (.invokevirtual 74, 3) := by decide +kernel
theorem d_Lw_law_431 : decode code 431 = .ok (.iload 5, 2) := by decide +kernel
theorem d_Lw_law_433 : decode code 433 = .ok (.if_icmp .eq 5, 3) := by decide +kernel
theorem d_Lw_law_438 : decode code 438 = .ok (.iload 5, 2) := by decide +kernel
theorem d_Lw_law_440 : decode code 440 = .ok (.ifCond .ne 15, 3) := by decide +kernel
theorem d_Lw_law_455 : decode code 455 = .ok (.goto 683, 3) := by decide +kernel
theorem d_Lw_law_443 : decode code 443 = .ok (.aload_n 3, 1) := by decide +kernel
theorem d_Lw_law_444 : decode code 444 = .ok (.iconst 0, 1) := by decide +kernel
theorem d_Lw_law_445 : decode code 445 = .ok (.laload, 1) := by decide +kernel
theorem d_Lw_law_446 : decode code 446 = .ok (.iload 6, 2) := by decide +kernel
theorem d_Lw_law_448 : decode code 448 = .ok (.i2l, 1) := by decide +kernel
theorem d_Lw_law_449 : decode code 449 = .ok (.lcmp, 1) := by decide +kernel
theorem d_Lw_law_450 : decode code 450 = .ok (.ifCond .eq 5, 3) := by decide +kernel
theorem d_Lw_law_453 : decode code 453 = .ok (.iconst 0, 1) := by decide +kernel
theorem d_Lw_law_454 : decode code 454 = .ok (.ireturn, 1) := by decide +kernel
theorem d_Lw_law_436 : decode code 436 = .ok (.iconst 0, 1) := by decide +kernel
theorem d_Lw_law_437 : decode code 437 = .ok (.ireturn, 1) := by decide +kernel
theorem d_Lw_law_458 : decode code 458 = .ok (.aload_n 1, 1) := by decide +kernel
theorem d_Lw_law_459 : decode code 459 = .ok (.aload_n 0, 1) := by decide +kernel
theorem d_Lw_law_460 : decode code 460 = .ok (.iload 4, 2) := by decide +kernel
theorem d_Lw_law_462 : decode code 462 = .ok (.iconst 1, 1) := by decide +kernel
theorem d_Lw_law_463 : decode code 463 = .ok (.iadd, 1) := by decide +kernel
theorem d_Lw_law_464 : decode code 464 = .ok (.iaload, 1) := by decide +kernel
theorem d_Lw_law_465 : decode code 465 = .ok (.ifCond .eq 7, 3) := by decide +kernel
theorem d_Lw_law_472 : decode code 472 = .ok (.iconst 0, 1) := by decide +kernel
theorem d_Lw_law_473 : decode code 473 = .ok (.aload_n 0, 1) := by decide +kernel
theorem d_Lw_law_474 : decode code 474 = .ok (.iload 4, 2) := by decide +kernel
theorem d_Lw_law_476 : decode code 476 = .ok (.iconst 2, 1) := by decide +kernel
theorem d_Lw_law_477 : decode code 477 = .ok (.iadd, 1) := by decide +kernel
theorem d_Lw_law_478 : decode code 478 = .ok (.iaload, 1) := by decide +kernel
theorem d_Lw_law_479 : decode code 479 = .ok (.aload_n 0, 1) := by decide +kernel
theorem d_Lw_law_480 : decode code 480 = .ok (.iload 4, 2) := by decide +kernel
theorem d_Lw_law_482 : decode code 482 = .ok (.iconst 3, 1) := by decide +kernel
theorem d_Lw_law_483 : decode code 483 = .ok (.iadd, 1) := by decide +kernel
theorem d_Lw_law_484 : decode code 484 = .ok (.iaload, 1) := by decide +kernel
theorem d_Lw_law_485 : decode code 485 = .ok (.aload_n 3, 1) := by decide +kernel
theorem d_Lw_law_486 : decode code 486 = .ok (.invokestatic 89, 3) := by decide +kernel
theorem d_Lw_law_489 : decode code 489 = .ok (.istore 5, 2) := by decide +kernel
theorem d_Lw_law_491 : decode code 491 = .ok (.aload_n 2, 1) := by decide +kernel
theorem d_Lw_law_492 : decode code 492 = .ok (.aload_n 0, 1) := by decide +kernel
theorem d_Lw_law_493 : decode code 493 = .ok (.iload 4, 2) := by decide +kernel
theorem d_Lw_law_495 : decode code 495 = .ok (.iconst 1, 1) := by decide +kernel
theorem d_Lw_law_496 : decode code 496 = .ok (.iadd, 1) := by decide +kernel
theorem d_Lw_law_497 : decode code 497 = .ok (.iaload, 1) := by decide +kernel
theorem d_Lw_law_498 : decode code 498 = .ok (.ifCond .eq 7, 3) := by decide +kernel
theorem d_Lw_law_505 : decode code 505 = .ok (.iconst 0, 1) := by decide +kernel
theorem d_Lw_law_506 : decode code 506 = .ok (.aload_n 0, 1) := by decide +kernel
theorem d_Lw_law_507 : decode code 507 = .ok (.iload 4, 2) := by decide +kernel
theorem d_Lw_law_509 : decode code 509 = .ok (.iconst 2, 1) := by decide +kernel
theorem d_Lw_law_510 : decode code 510 = .ok (.iadd, 1) := by decide +kernel
theorem d_Lw_law_511 : decode code 511 = .ok (.iaload, 1) := by decide +kernel
theorem d_Lw_law_512 : decode code 512 = .ok (.aload_n 0, 1) := by decide +kernel
theorem d_Lw_law_513 : decode code 513 = .ok (.iload 4, 2) := by decide +kernel
theorem d_Lw_law_515 : decode code 515 = .ok (.iconst 3, 1) := by decide +kernel
theorem d_Lw_law_516 : decode code 516 = .ok (.iadd, 1) := by decide +kernel
theorem d_Lw_law_517 : decode code 517 = .ok (.iaload, 1) := by decide +kernel
theorem d_Lw_law_518 : decode code 518 = .ok (.invokevirtual 92, 3) := by decide +kernel
theorem d_Lw_law_521 : decode code 521 = .ok (.istore 6, 2) := by decide +kernel
theorem d_Lw_law_523 : decode code 523 = .ok (.aload_n 2, 1) := by decide +kernel
theorem d_Lw_law_524 : decode code 524 = .ok (.invokevirtual 74, 3) := by decide +kernel
theorem d_Lw_law_527 : decode code 527 = .ok (.iload 5, 2) := by decide +kernel
theorem d_Lw_law_529 : decode code 529 = .ok (.if_icmp .eq 5, 3) := by decide +kernel
theorem d_Lw_law_534 : decode code 534 = .ok (.iload 5, 2) := by decide +kernel
theorem d_Lw_law_536 : decode code 536 = .ok (.ifCond .ne 15, 3) := by decide +kernel
theorem d_Lw_law_551 : decode code 551 = .ok (.goto 587, 3) := by decide +kernel
theorem d_Lw_law_539 : decode code 539 = .ok (.aload_n 3, 1) := by decide +kernel
theorem d_Lw_law_540 : decode code 540 = .ok (.iconst 0, 1) := by decide +kernel
theorem d_Lw_law_541 : decode code 541 = .ok (.laload, 1) := by decide +kernel
theorem d_Lw_law_542 : decode code 542 = .ok (.iload 6, 2) := by decide +kernel
theorem d_Lw_law_544 : decode code 544 = .ok (.i2l, 1) := by decide +kernel
theorem d_Lw_law_545 : decode code 545 = .ok (.lcmp, 1) := by decide +kernel
theorem d_Lw_law_546 : decode code 546 = .ok (.ifCond .eq 5, 3) := by decide +kernel
theorem d_Lw_law_549 : decode code 549 = .ok (.iconst 0, 1) := by decide +kernel
theorem d_Lw_law_550 : decode code 550 = .ok (.ireturn, 1) := by decide +kernel
theorem d_Lw_law_532 : decode code 532 = .ok (.iconst 0, 1) := by decide +kernel
theorem d_Lw_law_533 : decode code 533 = .ok (.ireturn, 1) := by decide +kernel
theorem d_Lw_law_501 : decode code 501 = .ok (.iconst 1, 1) := by decide +kernel
theorem d_Lw_law_502 : decode code 502 = .ok (.goto 4, 3) := by decide +kernel
theorem d_Lw_law_468 : decode code 468 = .ok (.iconst 1, 1) := by decide +kernel
theorem d_Lw_law_469 : decode code 469 = .ok (.goto 4, 3) := by decide +kernel
theorem d_Lw_law_554 : decode code 554 = .ok (.aload_n 1, 1) := by decide +kernel
theorem d_Lw_law_555 : decode code 555 = .ok (.aload_n 0, 1) := by decide +kernel
theorem d_Lw_law_556 : decode code 556 = .ok (.iload 4, 2) := by decide +kernel
theorem d_Lw_law_558 : decode code 558 = .ok (.iconst 1, 1) := by decide +kernel
theorem d_Lw_law_559 : decode code 559 = .ok (.iadd, 1) := by decide +kernel
theorem d_Lw_law_560 : decode code 560 = .ok (.iaload, 1) := by decide +kernel
theorem d_Lw_law_561 : decode code 561 = .ok (.ifCond .eq 7, 3) := by decide +kernel
theorem d_Lw_law_568 : decode code 568 = .ok (.iconst 0, 1) := by decide +kernel
theorem d_Lw_law_569 : decode code 569 = .ok (.aload_n 0, 1) := by decide +kernel
theorem d_Lw_law_570 : decode code 570 = .ok (.iload 4, 2) := by decide +kernel
theorem d_Lw_law_572 : decode code 572 = .ok (.iconst 2, 1) := by decide +kernel
theorem d_Lw_law_573 : decode code 573 = .ok (.iadd, 1) := by decide +kernel
theorem d_Lw_law_574 : decode code 574 = .ok (.iaload, 1) := by decide +kernel
theorem d_Lw_law_575 : decode code 575 = .ok (.aload_n 0, 1) := by decide +kernel
theorem d_Lw_law_576 : decode code 576 = .ok (.iload 4, 2) := by decide +kernel
theorem d_Lw_law_578 : decode code 578 = .ok (.iconst 3, 1) := by decide +kernel
theorem d_Lw_law_579 : decode code 579 = .ok (.iadd, 1) := by decide +kernel
theorem d_Lw_law_580 : decode code 580 = .ok (.iaload, 1) := by decide +kernel
theorem d_Lw_law_581 : decode code 581 = .ok (.aload_n 3, 1) := by decide +kernel
theorem d_Lw_law_582 : decode code 582 = .ok (.invokestatic 93, 3) := by decide +kernel
theorem d_Lw_law_585 : decode code 585 = .ok (.istore 5, 2) := by decide +kernel
theorem d_Lw_law_587 : decode code 587 = .ok (.aload_n 2, 1) := by decide +kernel
theorem d_Lw_law_588 : decode code 588 = .ok (.aload_n 0, 1) := by decide +kernel
theorem d_Lw_law_589 : decode code 589 = .ok (.iload 4, 2) := by decide +kernel
theorem d_Lw_law_591 : decode code 591 = .ok (.iconst 1, 1) := by decide +kernel
theorem d_Lw_law_592 : decode code 592 = .ok (.iadd, 1) := by decide +kernel
theorem d_Lw_law_593 : decode code 593 = .ok (.iaload, 1) := by decide +kernel
theorem d_Lw_law_594 : decode code 594 = .ok (.ifCond .eq 7, 3) := by decide +kernel
theorem d_Lw_law_601 : decode code 601 = .ok (.iconst 0, 1) := by decide +kernel
theorem d_Lw_law_602 : decode code 602 = .ok (.aload_n 0, 1) := by decide +kernel
theorem d_Lw_law_603 : decode code 603 = .ok (.iload 4, 2) := by decide +kernel
theorem d_Lw_law_605 : decode code 605 = .ok (.iconst 2, 1) := by decide +kernel
theorem d_Lw_law_606 : decode code 606 = .ok (.iadd, 1) := by decide +kernel
theorem d_Lw_law_607 : decode code 607 = .ok (.iaload, 1) := by decide +kernel
theorem d_Lw_law_608 : decode code 608 = .ok (.aload_n 0, 1) := by decide +kernel
theorem d_Lw_law_609 : decode code 609 = .ok (.iload 4, 2) := by decide +kernel
theorem d_Lw_law_611 : decode code 611 = .ok (.iconst 3, 1) := by decide +kernel
theorem d_Lw_law_612 : decode code 612 = .ok (.iadd, 1) := by decide +kernel
theorem d_Lw_law_613 : decode code 613 = .ok (.iaload, 1) := by decide +kernel
theorem d_Lw_law_614 : decode code 614 = .ok (.invokevirtual 95, 3) := by decide +kernel
theorem d_Lw_law_617 : decode code 617 = .ok (.istore 6, 2) := by decide +kernel
theorem d_Lw_law_619 : decode code 619 = .ok (.aload_n 2, 1) := by decide +kernel
theorem d_Lw_law_620 : decode code 620 = .ok (.invokevirtual 74, 3) := by decide +kernel
theorem d_Lw_law_623 : decode code 623 = .ok (.iload 5, 2) := by decide +kernel
theorem d_Lw_law_625 : decode code 625 = .ok (.if_icmp .eq 5, 3) := by decide +kernel
theorem d_Lw_law_630 : decode code 630 = .ok (.iload 5, 2) := by decide +kernel
theorem d_Lw_law_632 : decode code 632 = .ok (.ifCond .ne 15, 3) := by decide +kernel
theorem d_Lw_law_647 : decode code 647 = .ok (.goto 491, 3) := by decide +kernel
theorem d_Lw_law_635 : decode code 635 = .ok (.aload_n 3, 1) := by decide +kernel
theorem d_Lw_law_636 : decode code 636 = .ok (.iconst 0, 1) := by decide +kernel
theorem d_Lw_law_637 : decode code 637 = .ok (.laload, 1) := by decide +kernel
theorem d_Lw_law_638 : decode code 638 = .ok (.iload 6, 2) := by decide +kernel
theorem d_Lw_law_640 : decode code 640 = .ok (.i2l, 1) := by decide +kernel
theorem d_Lw_law_641 : decode code 641 = .ok (.lcmp, 1) := by decide +kernel
theorem d_Lw_law_642 : decode code 642 = .ok (.ifCond .eq 5, 3) := by decide +kernel
theorem d_Lw_law_645 : decode code 645 = .ok (.iconst 0, 1) := by decide +kernel
theorem d_Lw_law_646 : decode code 646 = .ok (.ireturn, 1) := by decide +kernel
theorem d_Lw_law_628 : decode code 628 = .ok (.iconst 0, 1) := by decide +kernel
theorem d_Lw_law_629 : decode code 629 = .ok (.ireturn, 1) := by decide +kernel
theorem d_Lw_law_597 : decode code 597 = .ok (.iconst 1, 1) := by decide +kernel
theorem d_Lw_law_598 : decode code 598 = .ok (.goto 4, 3) := by decide +kernel
theorem d_Lw_law_564 : decode code 564 = .ok (.iconst 1, 1) := by decide +kernel
theorem d_Lw_law_565 : decode code 565 = .ok (.goto 4, 3) := by decide +kernel
theorem d_Lw_law_650 : decode code 650 = .ok (.aload_n 1, 1) := by decide +kernel
theorem d_Lw_law_651 : decode code 651 = .ok (.aload_n 3, 1) := by decide +kernel
theorem d_Lw_law_652 : decode code 652 = .ok (.invokestatic 96, 3) := by decide +kernel
theorem d_Lw_law_655 : decode code 655 = .ok (.istore 5, 2) := by decide +kernel
theorem d_Lw_law_657 : decode code 657 = .ok (.aload_n 2, 1) := by decide +kernel
theorem d_Lw_law_658 : decode code 658 = .ok (.invokevirtual 99, 3) := by decide +kernel
theorem d_Lw_law_661 : decode code 661 = .ok (.istore 6, 2) := by decide +kernel
theorem d_Lw_law_663 : decode code 663 = .ok (.aload_n 2, 1) := by decide +kernel
theorem d_Lw_law_664 : decode code 664 = .ok (.invokevirtual 74, 3) := by decide +kernel
theorem d_Lw_law_667 : decode code 667 = .ok (.iload 5, 2) := by decide +kernel
theorem d_Lw_law_669 : decode code 669 = .ok (.if_icmp .eq 5, 3) := by decide +kernel
theorem d_Lw_law_674 : decode code 674 = .ok (.iload 5, 2) := by decide +kernel
theorem d_Lw_law_676 : decode code 676 = .ok (.ifCond .ne 15, 3) := by decide +kernel
theorem d_Lw_law_691 : decode code 691 = .ok (.goto 447, 3) := by decide +kernel
theorem d_Lw_law_679 : decode code 679 = .ok (.aload_n 3, 1) := by decide +kernel
theorem d_Lw_law_680 : decode code 680 = .ok (.iconst 0, 1) := by decide +kernel
theorem d_Lw_law_681 : decode code 681 = .ok (.laload, 1) := by decide +kernel
theorem d_Lw_law_682 : decode code 682 = .ok (.iload 6, 2) := by decide +kernel
theorem d_Lw_law_684 : decode code 684 = .ok (.i2l, 1) := by decide +kernel
theorem d_Lw_law_685 : decode code 685 = .ok (.lcmp, 1) := by decide +kernel
theorem d_Lw_law_686 : decode code 686 = .ok (.ifCond .eq 5, 3) := by decide +kernel
theorem d_Lw_law_689 : decode code 689 = .ok (.iconst 0, 1) := by decide +kernel
theorem d_Lw_law_690 : decode code 690 = .ok (.ireturn, 1) := by decide +kernel
theorem d_Lw_law_672 : decode code 672 = .ok (.iconst 0, 1) := by decide +kernel
theorem d_Lw_law_673 : decode code 673 = .ok (.ireturn, 1) := by decide +kernel
theorem d_Lw_law_694 : decode code 694 = .ok (.aload_n 1, 1) := by decide +kernel
theorem d_Lw_law_695 : decode code 695 = .ok (.aload_n 3, 1) := by decide +kernel
theorem d_Lw_law_696 : decode code 696 = .ok (.invokestatic 100, 3) := by decide +kernel
theorem d_Lw_law_699 : decode code 699 = .ok (.istore 5, 2) := by decide +kernel
theorem d_Lw_law_701 : decode code 701 = .ok (.aload_n 2, 1) := by decide +kernel
theorem d_Lw_law_702 : decode code 702 = .ok (.invokevirtual 102, 3) := by decide +kernel
theorem d_Lw_law_705 : decode code 705 = .ok (.istore 6, 2) := by decide +kernel
theorem d_Lw_law_707 : decode code 707 = .ok (.aload_n 2, 1) := by decide +kernel
theorem d_Lw_law_708 : decode code 708 = .ok (.invokevirtual 74, 3) := by decide +kernel
theorem d_Lw_law_711 : decode code 711 = .ok (.iload 5, 2) := by decide +kernel
theorem d_Lw_law_713 : decode code 713 = .ok (.if_icmp .eq 5, 3) := by decide +kernel
theorem d_Lw_law_718 : decode code 718 = .ok (.iload 5, 2) := by decide +kernel
theorem d_Lw_law_720 : decode code 720 = .ok (.ifCond .ne 15, 3) := by decide +kernel
theorem d_Lw_law_735 : decode code 735 = .ok (.goto 403, 3) := by decide +kernel
theorem d_Lw_law_723 : decode code 723 = .ok (.aload_n 3, 1) := by decide +kernel
theorem d_Lw_law_724 : decode code 724 = .ok (.iconst 0, 1) := by decide +kernel
theorem d_Lw_law_725 : decode code 725 = .ok (.laload, 1) := by decide +kernel
theorem d_Lw_law_726 : decode code 726 = .ok (.iload 6, 2) := by decide +kernel
theorem d_Lw_law_728 : decode code 728 = .ok (.i2l, 1) := by decide +kernel
theorem d_Lw_law_729 : decode code 729 = .ok (.lcmp, 1) := by decide +kernel
theorem d_Lw_law_730 : decode code 730 = .ok (.ifCond .eq 5, 3) := by decide +kernel
theorem d_Lw_law_733 : decode code 733 = .ok (.iconst 0, 1) := by decide +kernel
theorem d_Lw_law_734 : decode code 734 = .ok (.ireturn, 1) := by decide +kernel
theorem d_Lw_law_716 : decode code 716 = .ok (.iconst 0, 1) := by decide +kernel
theorem d_Lw_law_717 : decode code 717 = .ok (.ireturn, 1) := by decide +kernel
theorem d_Lw_law_738 : decode code 738 = .ok (.aload_n 1, 1) := by decide +kernel
theorem d_Lw_law_739 : decode code 739 = .ok (.aload_n 0, 1) := by decide +kernel
theorem d_Lw_law_740 : decode code 740 = .ok (.iload 4, 2) := by decide +kernel
theorem d_Lw_law_742 : decode code 742 = .ok (.iconst 1, 1) := by decide +kernel
theorem d_Lw_law_743 : decode code 743 = .ok (.iadd, 1) := by decide +kernel
theorem d_Lw_law_744 : decode code 744 = .ok (.iaload, 1) := by decide +kernel
theorem d_Lw_law_745 : decode code 745 = .ok (.aload_n 0, 1) := by decide +kernel
theorem d_Lw_law_746 : decode code 746 = .ok (.iload 4, 2) := by decide +kernel
theorem d_Lw_law_748 : decode code 748 = .ok (.iconst 2, 1) := by decide +kernel
theorem d_Lw_law_749 : decode code 749 = .ok (.iadd, 1) := by decide +kernel
theorem d_Lw_law_750 : decode code 750 = .ok (.iaload, 1) := by decide +kernel
theorem d_Lw_law_751 : decode code 751 = .ok (.aload_n 0, 1) := by decide +kernel
theorem d_Lw_law_752 : decode code 752 = .ok (.iload 4, 2) := by decide +kernel
theorem d_Lw_law_754 : decode code 754 = .ok (.iconst 3, 1) := by decide +kernel
theorem d_Lw_law_755 : decode code 755 = .ok (.iadd, 1) := by decide +kernel
theorem d_Lw_law_756 : decode code 756 = .ok (.iaload, 1) := by decide +kernel
theorem d_Lw_law_757 : decode code 757 = .ok (.aload_n 3, 1) := by decide +kernel
theorem d_Lw_law_758 : decode code 758 = .ok (.invokestatic 103, 3) := by decide +kernel
theorem d_Lw_law_761 : decode code 761 = .ok (.istore 5, 2) := by decide +kernel
theorem d_Lw_law_763 : decode code 763 = .ok (.aload_n 2, 1) := by decide +kernel
theorem d_Lw_law_764 : decode code 764 = .ok (.aload_n 0, 1) := by decide +kernel
theorem d_Lw_law_765 : decode code 765 = .ok (.iload 4, 2) := by decide +kernel
theorem d_Lw_law_767 : decode code 767 = .ok (.iconst 1, 1) := by decide +kernel
theorem d_Lw_law_768 : decode code 768 = .ok (.iadd, 1) := by decide +kernel
theorem d_Lw_law_769 : decode code 769 = .ok (.iaload, 1) := by decide +kernel
theorem d_Lw_law_770 : decode code 770 = .ok (.aload_n 0, 1) := by decide +kernel
theorem d_Lw_law_771 : decode code 771 = .ok (.iload 4, 2) := by decide +kernel
theorem d_Lw_law_773 : decode code 773 = .ok (.iconst 2, 1) := by decide +kernel
theorem d_Lw_law_774 : decode code 774 = .ok (.iadd, 1) := by decide +kernel
theorem d_Lw_law_775 : decode code 775 = .ok (.iaload, 1) := by decide +kernel
theorem d_Lw_law_776 : decode code 776 = .ok (.aload_n 0, 1) := by decide +kernel
theorem d_Lw_law_777 : decode code 777 = .ok (.iload 4, 2) := by decide +kernel
theorem d_Lw_law_779 : decode code 779 = .ok (.iconst 3, 1) := by decide +kernel
theorem d_Lw_law_780 : decode code 780 = .ok (.iadd, 1) := by decide +kernel
theorem d_Lw_law_781 : decode code 781 = .ok (.iaload, 1) := by decide +kernel
theorem d_Lw_law_782 : decode code 782 = .ok (.invokevirtual 106, 3) := by decide +kernel
theorem d_Lw_law_785 : decode code 785 = .ok (.lstore 6, 2) := by decide +kernel
theorem d_Lw_law_787 : decode code 787 = .ok (.aload_n 2, 1) := by decide +kernel
theorem d_Lw_law_788 : decode code 788 = .ok (.invokevirtual 74, 3) := by decide +kernel
theorem d_Lw_law_791 : decode code 791 = .ok (.iload 5, 2) := by decide +kernel
theorem d_Lw_law_793 : decode code 793 = .ok (.if_icmp .eq 5, 3) := by decide +kernel
theorem d_Lw_law_798 : decode code 798 = .ok (.iload 5, 2) := by decide +kernel
theorem d_Lw_law_800 : decode code 800 = .ok (.ifCond .ne 14, 3) := by decide +kernel
theorem d_Lw_law_814 : decode code 814 = .ok (.goto 324, 3) := by decide +kernel
theorem d_Lw_law_803 : decode code 803 = .ok (.aload_n 3, 1) := by decide +kernel
theorem d_Lw_law_804 : decode code 804 = .ok (.iconst 0, 1) := by decide +kernel
theorem d_Lw_law_805 : decode code 805 = .ok (.laload, 1) := by decide +kernel
theorem d_Lw_law_806 : decode code 806 = .ok (.lload 6, 2) := by decide +kernel
theorem d_Lw_law_808 : decode code 808 = .ok (.lcmp, 1) := by decide +kernel
theorem d_Lw_law_809 : decode code 809 = .ok (.ifCond .eq 5, 3) := by decide +kernel
theorem d_Lw_law_812 : decode code 812 = .ok (.iconst 0, 1) := by decide +kernel
theorem d_Lw_law_813 : decode code 813 = .ok (.ireturn, 1) := by decide +kernel
theorem d_Lw_law_796 : decode code 796 = .ok (.iconst 0, 1) := by decide +kernel
theorem d_Lw_law_797 : decode code 797 = .ok (.ireturn, 1) := by decide +kernel
theorem d_Lw_law_817 : decode code 817 = .ok (.aload_n 1, 1) := by decide +kernel
theorem d_Lw_law_818 : decode code 818 = .ok (.aload_n 0, 1) := by decide +kernel
theorem d_Lw_law_819 : decode code 819 = .ok (.iload 4, 2) := by decide +kernel
theorem d_Lw_law_821 : decode code 821 = .ok (.iconst 1, 1) := by decide +kernel
theorem d_Lw_law_822 : decode code 822 = .ok (.iadd, 1) := by decide +kernel
theorem d_Lw_law_823 : decode code 823 = .ok (.iaload, 1) := by decide +kernel
theorem d_Lw_law_824 : decode code 824 = .ok (.aload_n 0, 1) := by decide +kernel
theorem d_Lw_law_825 : decode code 825 = .ok (.iload 4, 2) := by decide +kernel
theorem d_Lw_law_827 : decode code 827 = .ok (.iconst 2, 1) := by decide +kernel
theorem d_Lw_law_828 : decode code 828 = .ok (.iadd, 1) := by decide +kernel
theorem d_Lw_law_829 : decode code 829 = .ok (.iaload, 1) := by decide +kernel
theorem d_Lw_law_830 : decode code 830 = .ok (.aload_n 0, 1) := by decide +kernel
theorem d_Lw_law_831 : decode code 831 = .ok (.iload 4, 2) := by decide +kernel
theorem d_Lw_law_833 : decode code 833 = .ok (.iconst 3, 1) := by decide +kernel
theorem d_Lw_law_834 : decode code 834 = .ok (.iadd, 1) := by decide +kernel
theorem d_Lw_law_835 : decode code 835 = .ok (.iaload, 1) := by decide +kernel
theorem d_Lw_law_836 : decode code 836 = .ok (.aload_n 3, 1) := by decide +kernel
theorem d_Lw_law_837 : decode code 837 = .ok (.invokestatic 107, 3) := by decide +kernel
theorem d_Lw_law_840 : decode code 840 = .ok (.istore 5, 2) := by decide +kernel
theorem d_Lw_law_842 : decode code 842 = .ok (.aload_n 2, 1) := by decide +kernel
theorem d_Lw_law_843 : decode code 843 = .ok (.aload_n 0, 1) := by decide +kernel
theorem d_Lw_law_844 : decode code 844 = .ok (.iload 4, 2) := by decide +kernel
theorem d_Lw_law_846 : decode code 846 = .ok (.iconst 1, 1) := by decide +kernel
theorem d_Lw_law_847 : decode code 847 = .ok (.iadd, 1) := by decide +kernel
theorem d_Lw_law_848 : decode code 848 = .ok (.iaload, 1) := by decide +kernel
theorem d_Lw_law_849 : decode code 849 = .ok (.aload_n 0, 1) := by decide +kernel
theorem d_Lw_law_850 : decode code 850 = .ok (.iload 4, 2) := by decide +kernel
theorem d_Lw_law_852 : decode code 852 = .ok (.iconst 2, 1) := by decide +kernel
theorem d_Lw_law_853 : decode code 853 = .ok (.iadd, 1) := by decide +kernel
theorem d_Lw_law_854 : decode code 854 = .ok (.iaload, 1) := by decide +kernel
theorem d_Lw_law_855 : decode code 855 = .ok (.aload_n 0, 1) := by decide +kernel
theorem d_Lw_law_856 : decode code 856 = .ok (.iload 4, 2) := by decide +kernel
theorem d_Lw_law_858 : decode code 858 = .ok (.iconst 3, 1) := by decide +kernel
theorem d_Lw_law_859 : decode code 859 = .ok (.iadd, 1) := by decide +kernel
theorem d_Lw_law_860 : decode code 860 = .ok (.iaload, 1) := by decide +kernel
theorem d_Lw_law_861 : decode code 861 = .ok (.invokevirtual 109, 3) := by decide +kernel
theorem d_Lw_law_864 : decode code 864 = .ok (.istore 6, 2) := by decide +kernel
theorem d_Lw_law_866 : decode code 866 = .ok (.aload_n 2, 1) := by decide +kernel
theorem d_Lw_law_867 : decode code 867 = .ok (.invokevirtual 74, 3) := by decide +kernel
theorem d_Lw_law_870 : decode code 870 = .ok (.iload 5, 2) := by decide +kernel
theorem d_Lw_law_872 : decode code 872 = .ok (.if_icmp .eq 5, 3) := by decide +kernel
theorem d_Lw_law_877 : decode code 877 = .ok (.iload 5, 2) := by decide +kernel
theorem d_Lw_law_879 : decode code 879 = .ok (.ifCond .ne 15, 3) := by decide +kernel
theorem d_Lw_law_894 : decode code 894 = .ok (.goto 244, 3) := by decide +kernel
theorem d_Lw_law_882 : decode code 882 = .ok (.aload_n 3, 1) := by decide +kernel
theorem d_Lw_law_883 : decode code 883 = .ok (.iconst 0, 1) := by decide +kernel
theorem d_Lw_law_884 : decode code 884 = .ok (.laload, 1) := by decide +kernel
theorem d_Lw_law_885 : decode code 885 = .ok (.iload 6, 2) := by decide +kernel
theorem d_Lw_law_887 : decode code 887 = .ok (.i2l, 1) := by decide +kernel
theorem d_Lw_law_888 : decode code 888 = .ok (.lcmp, 1) := by decide +kernel
theorem d_Lw_law_889 : decode code 889 = .ok (.ifCond .eq 5, 3) := by decide +kernel
theorem d_Lw_law_892 : decode code 892 = .ok (.iconst 0, 1) := by decide +kernel
theorem d_Lw_law_893 : decode code 893 = .ok (.ireturn, 1) := by decide +kernel
theorem d_Lw_law_875 : decode code 875 = .ok (.iconst 0, 1) := by decide +kernel
theorem d_Lw_law_876 : decode code 876 = .ok (.ireturn, 1) := by decide +kernel
theorem d_Lw_law_897 : decode code 897 = .ok (.aload_n 1, 1) := by decide +kernel
theorem d_Lw_law_898 : decode code 898 = .ok (.aload_n 0, 1) := by decide +kernel
theorem d_Lw_law_899 : decode code 899 = .ok (.iload 4, 2) := by decide +kernel
theorem d_Lw_law_901 : decode code 901 = .ok (.iconst 1, 1) := by decide +kernel
theorem d_Lw_law_902 : decode code 902 = .ok (.iadd, 1) := by decide +kernel
theorem d_Lw_law_903 : decode code 903 = .ok (.iaload, 1) := by decide +kernel
theorem d_Lw_law_904 : decode code 904 = .ok (.aload_n 0, 1) := by decide +kernel
theorem d_Lw_law_905 : decode code 905 = .ok (.iload 4, 2) := by decide +kernel
theorem d_Lw_law_907 : decode code 907 = .ok (.iconst 2, 1) := by decide +kernel
theorem d_Lw_law_908 : decode code 908 = .ok (.iadd, 1) := by decide +kernel
theorem d_Lw_law_909 : decode code 909 = .ok (.iaload, 1) := by decide +kernel
theorem d_Lw_law_910 : decode code 910 = .ok (.aload_n 0, 1) := by decide +kernel
theorem d_Lw_law_911 : decode code 911 = .ok (.iload 4, 2) := by decide +kernel
theorem d_Lw_law_913 : decode code 913 = .ok (.iconst 3, 1) := by decide +kernel
theorem d_Lw_law_914 : decode code 914 = .ok (.iadd, 1) := by decide +kernel
theorem d_Lw_law_915 : decode code 915 = .ok (.iaload, 1) := by decide +kernel
theorem d_Lw_law_916 : decode code 916 = .ok (.aload_n 3, 1) := by decide +kernel
theorem d_Lw_law_917 : decode code 917 = .ok (.invokestatic 110, 3) := by decide +kernel
theorem d_Lw_law_920 : decode code 920 = .ok (.istore 5, 2) := by decide +kernel
theorem d_Lw_law_922 : decode code 922 = .ok (.aload_n 2, 1) := by decide +kernel
theorem d_Lw_law_923 : decode code 923 = .ok (.aload_n 0, 1) := by decide +kernel
theorem d_Lw_law_924 : decode code 924 = .ok (.iload 4, 2) := by decide +kernel
theorem d_Lw_law_926 : decode code 926 = .ok (.iconst 1, 1) := by decide +kernel
theorem d_Lw_law_927 : decode code 927 = .ok (.iadd, 1) := by decide +kernel
theorem d_Lw_law_928 : decode code 928 = .ok (.iaload, 1) := by decide +kernel
theorem d_Lw_law_929 : decode code 929 = .ok (.aload_n 0, 1) := by decide +kernel
theorem d_Lw_law_930 : decode code 930 = .ok (.iload 4, 2) := by decide +kernel
theorem d_Lw_law_932 : decode code 932 = .ok (.iconst 2, 1) := by decide +kernel
theorem d_Lw_law_933 : decode code 933 = .ok (.iadd, 1) := by decide +kernel
theorem d_Lw_law_934 : decode code 934 = .ok (.iaload, 1) := by decide +kernel
theorem d_Lw_law_935 : decode code 935 = .ok (.aload_n 0, 1) := by decide +kernel
theorem d_Lw_law_936 : decode code 936 = .ok (.iload 4, 2) := by decide +kernel
theorem d_Lw_law_938 : decode code 938 = .ok (.iconst 3, 1) := by decide +kernel
theorem d_Lw_law_939 : decode code 939 = .ok (.iadd, 1) := by decide +kernel
theorem d_Lw_law_940 : decode code 940 = .ok (.iaload, 1) := by decide +kernel
theorem d_Lw_law_941 : decode code 941 = .ok (.invokevirtual 112, 3) := by decide +kernel
theorem d_Lw_law_944 : decode code 944 = .ok (.istore 6, 2) := by decide +kernel
theorem d_Lw_law_946 : decode code 946 = .ok (.aload_n 2, 1) := by decide +kernel
theorem d_Lw_law_947 : decode code 947 = .ok (.invokevirtual 74, 3) := by decide +kernel
theorem d_Lw_law_950 : decode code 950 = .ok (.iload 5, 2) := by decide +kernel
theorem d_Lw_law_952 : decode code 952 = .ok (.if_icmp .eq 5, 3) := by decide +kernel
theorem d_Lw_law_957 : decode code 957 = .ok (.iload 5, 2) := by decide +kernel
theorem d_Lw_law_959 : decode code 959 = .ok (.ifCond .ne 15, 3) := by decide +kernel
theorem d_Lw_law_974 : decode code 974 = .ok (.goto 164, 3) := by decide +kernel
theorem d_Lw_law_962 : decode code 962 = .ok (.aload_n 3, 1) := by decide +kernel
theorem d_Lw_law_963 : decode code 963 = .ok (.iconst 0, 1) := by decide +kernel
theorem d_Lw_law_964 : decode code 964 = .ok (.laload, 1) := by decide +kernel
theorem d_Lw_law_965 : decode code 965 = .ok (.iload 6, 2) := by decide +kernel
theorem d_Lw_law_967 : decode code 967 = .ok (.i2l, 1) := by decide +kernel
theorem d_Lw_law_968 : decode code 968 = .ok (.lcmp, 1) := by decide +kernel
theorem d_Lw_law_969 : decode code 969 = .ok (.ifCond .eq 5, 3) := by decide +kernel
theorem d_Lw_law_972 : decode code 972 = .ok (.iconst 0, 1) := by decide +kernel
theorem d_Lw_law_973 : decode code 973 = .ok (.ireturn, 1) := by decide +kernel
theorem d_Lw_law_955 : decode code 955 = .ok (.iconst 0, 1) := by decide +kernel
theorem d_Lw_law_956 : decode code 956 = .ok (.ireturn, 1) := by decide +kernel
theorem d_Lw_law_977 : decode code 977 = .ok (.aload_n 1, 1) := by decide +kernel
theorem d_Lw_law_978 : decode code 978 = .ok (.aload_n 0, 1) := by decide +kernel
theorem d_Lw_law_979 : decode code 979 = .ok (.iload 4, 2) := by decide +kernel
theorem d_Lw_law_981 : decode code 981 = .ok (.iconst 1, 1) := by decide +kernel
theorem d_Lw_law_982 : decode code 982 = .ok (.iadd, 1) := by decide +kernel
theorem d_Lw_law_983 : decode code 983 = .ok (.iaload, 1) := by decide +kernel
theorem d_Lw_law_984 : decode code 984 = .ok (.aload_n 0, 1) := by decide +kernel
theorem d_Lw_law_985 : decode code 985 = .ok (.iload 4, 2) := by decide +kernel
theorem d_Lw_law_987 : decode code 987 = .ok (.iconst 2, 1) := by decide +kernel
theorem d_Lw_law_988 : decode code 988 = .ok (.iadd, 1) := by decide +kernel
theorem d_Lw_law_989 : decode code 989 = .ok (.iaload, 1) := by decide +kernel
theorem d_Lw_law_990 : decode code 990 = .ok (.aload_n 0, 1) := by decide +kernel
theorem d_Lw_law_991 : decode code 991 = .ok (.iload 4, 2) := by decide +kernel
theorem d_Lw_law_993 : decode code 993 = .ok (.iconst 3, 1) := by decide +kernel
theorem d_Lw_law_994 : decode code 994 = .ok (.iadd, 1) := by decide +kernel
theorem d_Lw_law_995 : decode code 995 = .ok (.iaload, 1) := by decide +kernel
theorem d_Lw_law_996 : decode code 996 = .ok (.aload_n 3, 1) := by decide +kernel
theorem d_Lw_law_997 : decode code 997 = .ok (.invokestatic 113, 3) := by decide +kernel
theorem d_Lw_law_1000 : decode code 1000 = .ok (.istore 5, 2) := by decide +kernel
theorem d_Lw_law_1002 : decode code 1002 = .ok (.aload_n 2, 1) := by decide +kernel
theorem d_Lw_law_1003 : decode code 1003 = .ok (.aload_n 0, 1) := by decide +kernel
theorem d_Lw_law_1004 : decode code 1004 = .ok (.iload 4, 2) := by decide +kernel
theorem d_Lw_law_1006 : decode code 1006 = .ok (.iconst 1, 1) := by decide +kernel
theorem d_Lw_law_1007 : decode code 1007 = .ok (.iadd, 1) := by decide +kernel
theorem d_Lw_law_1008 : decode code 1008 = .ok (.iaload, 1) := by decide +kernel
theorem d_Lw_law_1009 : decode code 1009 = .ok (.aload_n 0, 1) := by decide +kernel
theorem d_Lw_law_1010 : decode code 1010 = .ok (.iload 4, 2) := by decide +kernel
theorem d_Lw_law_1012 : decode code 1012 = .ok (.iconst 2, 1) := by decide +kernel
theorem d_Lw_law_1013 : decode code 1013 = .ok (.iadd, 1) := by decide +kernel
theorem d_Lw_law_1014 : decode code 1014 = .ok (.iaload, 1) := by decide +kernel
theorem d_Lw_law_1015 : decode code 1015 = .ok (.aload_n 0, 1) := by decide +kernel
theorem d_Lw_law_1016 : decode code 1016 = .ok (.iload 4, 2) := by decide +kernel
theorem d_Lw_law_1018 : decode code 1018 = .ok (.iconst 3, 1) := by decide +kernel
theorem d_Lw_law_1019 : decode code 1019 = .ok (.iadd, 1) := by decide +kernel
theorem d_Lw_law_1020 : decode code 1020 = .ok (.iaload, 1) := by decide +kernel
theorem d_Lw_law_1021 : decode code 1021 = .ok (.invokevirtual 115, 3) := by decide +kernel
theorem d_Lw_law_1024 : decode code 1024 = .ok (.istore 6, 2) := by decide +kernel
theorem d_Lw_law_1026 : decode code 1026 = .ok (.aload_n 2, 1) := by decide +kernel
theorem d_Lw_law_1027 : decode code 1027 = .ok (.invokevirtual 74, 3) := by decide +kernel
theorem d_Lw_law_1030 : decode code 1030 = .ok (.iload 5, 2) := by decide +kernel
theorem d_Lw_law_1032 : decode code 1032 = .ok (.if_icmp .eq 5, 3) := by decide +kernel
theorem d_Lw_law_1037 : decode code 1037 = .ok (.iload 5, 2) := by decide +kernel
theorem d_Lw_law_1039 : decode code 1039 = .ok (.ifCond .ne 15, 3) := by decide +kernel
theorem d_Lw_law_1054 : decode code 1054 = .ok (.goto 84, 3) := by decide +kernel
theorem d_Lw_law_1042 : decode code 1042 = .ok (.aload_n 3, 1) := by decide +kernel
theorem d_Lw_law_1043 : decode code 1043 = .ok (.iconst 0, 1) := by decide +kernel
theorem d_Lw_law_1044 : decode code 1044 = .ok (.laload, 1) := by decide +kernel
theorem d_Lw_law_1045 : decode code 1045 = .ok (.iload 6, 2) := by decide +kernel
theorem d_Lw_law_1047 : decode code 1047 = .ok (.i2l, 1) := by decide +kernel
theorem d_Lw_law_1048 : decode code 1048 = .ok (.lcmp, 1) := by decide +kernel
theorem d_Lw_law_1049 : decode code 1049 = .ok (.ifCond .eq 5, 3) := by decide +kernel
theorem d_Lw_law_1052 : decode code 1052 = .ok (.iconst 0, 1) := by decide +kernel
theorem d_Lw_law_1053 : decode code 1053 = .ok (.ireturn, 1) := by decide +kernel
theorem d_Lw_law_1035 : decode code 1035 = .ok (.iconst 0, 1) := by decide +kernel
theorem d_Lw_law_1036 : decode code 1036 = .ok (.ireturn, 1) := by decide +kernel
theorem d_Lw_law_1057 : decode code 1057 = .ok (.aload_n 1, 1) := by decide +kernel
theorem d_Lw_law_1058 : decode code 1058 = .ok (.aload_n 0, 1) := by decide +kernel
theorem d_Lw_law_1059 : decode code 1059 = .ok (.iload 4, 2) := by decide +kernel
theorem d_Lw_law_1061 : decode code 1061 = .ok (.iconst 1, 1) := by decide +kernel
theorem d_Lw_law_1062 : decode code 1062 = .ok (.iadd, 1) := by decide +kernel
theorem d_Lw_law_1063 : decode code 1063 = .ok (.iaload, 1) := by decide +kernel
theorem d_Lw_law_1064 : decode code 1064 = .ok (.aload_n 3, 1) := by decide +kernel
theorem d_Lw_law_1065 : decode code 1065 = .ok (.invokestatic 116, 3) := by decide +kernel
theorem d_Lw_law_1068 : decode code 1068 = .ok (.istore 5, 2) := by decide +kernel
theorem d_Lw_law_1070 : decode code 1070 = .ok (.aload_n 2, 1) := by decide +kernel
theorem d_Lw_law_1071 : decode code 1071 = .ok (.aload_n 0, 1) := by decide +kernel
theorem d_Lw_law_1072 : decode code 1072 = .ok (.iload 4, 2) := by decide +kernel
theorem d_Lw_law_1074 : decode code 1074 = .ok (.iconst 1, 1) := by decide +kernel
theorem d_Lw_law_1075 : decode code 1075 = .ok (.iadd, 1) := by decide +kernel
theorem d_Lw_law_1076 : decode code 1076 = .ok (.iaload, 1) := by decide +kernel
theorem d_Lw_law_1077 : decode code 1077 = .ok (.invokevirtual 118, 3) := by decide +kernel
theorem d_Lw_law_1080 : decode code 1080 = .ok (.istore 6, 2) := by decide +kernel
theorem d_Lw_law_1082 : decode code 1082 = .ok (.aload_n 2, 1) := by decide +kernel
theorem d_Lw_law_1083 : decode code 1083 = .ok (.invokevirtual 74, 3) := by decide +kernel
theorem d_Lw_law_1086 : decode code 1086 = .ok (.iload 5, 2) := by decide +kernel
theorem d_Lw_law_1088 : decode code 1088 = .ok (.if_icmp .eq 5, 3) := by decide +kernel
theorem d_Lw_law_1093 : decode code 1093 = .ok (.iload 5, 2) := by decide +kernel
theorem d_Lw_law_1095 : decode code 1095 = .ok (.ifCond .ne 15, 3) := by decide +kernel
theorem d_Lw_law_1110 : decode code 1110 = .ok (.goto 28, 3) := by decide +kernel
theorem d_Lw_law_1098 : decode code 1098 = .ok (.aload_n 3, 1) := by decide +kernel
theorem d_Lw_law_1099 : decode code 1099 = .ok (.iconst 0, 1) := by decide +kernel
theorem d_Lw_law_1100 : decode code 1100 = .ok (.laload, 1) := by decide +kernel
theorem d_Lw_law_1101 : decode code 1101 = .ok (.iload 6, 2) := by decide +kernel
theorem d_Lw_law_1103 : decode code 1103 = .ok (.i2l, 1) := by decide +kernel
theorem d_Lw_law_1104 : decode code 1104 = .ok (.lcmp, 1) := by decide +kernel
theorem d_Lw_law_1105 : decode code 1105 = .ok (.ifCond .eq 5, 3) := by decide +kernel
theorem d_Lw_law_1108 : decode code 1108 = .ok (.iconst 0, 1) := by decide +kernel
theorem d_Lw_law_1109 : decode code 1109 = .ok (.ireturn, 1) := by decide +kernel
theorem d_Lw_law_1091 : decode code 1091 = .ok (.iconst 0, 1) := by decide +kernel
theorem d_Lw_law_1092 : decode code 1092 = .ok (.ireturn, 1) := by decide +kernel
theorem d_Lw_law_1113 : decode code 1113 = .ok (.aload_n 1, 1) := by decide +kernel
theorem d_Lw_law_1114 : decode code 1114 = .ok (.aload_n 0, 1) := by decide +kernel
theorem d_Lw_law_1115 : decode code 1115 = .ok (.iload 4, 2) := by decide +kernel
theorem d_Lw_law_1117 : decode code 1117 = .ok (.iconst 1, 1) := by decide +kernel
theorem d_Lw_law_1118 : decode code 1118 = .ok (.iadd, 1) := by decide +kernel
theorem d_Lw_law_1119 : decode code 1119 = .ok (.iaload, 1) := by decide +kernel
theorem d_Lw_law_1120 : decode code 1120 = .ok (.invokevirtual 119, 3) := by decide +kernel
theorem d_Lw_law_1123 : decode code 1123 = .ok (.aload_n 2, 1) := by decide +kernel
theorem d_Lw_law_1124 : decode code 1124 = .ok (.aload_n 0, 1) := by decide +kernel
theorem d_Lw_law_1125 : decode code 1125 = .ok (.iload 4, 2) := by decide +kernel
theorem d_Lw_law_1127 : decode code 1127 = .ok (.iconst 1, 1) := by decide +kernel
theorem d_Lw_law_1128 : decode code 1128 = .ok (.iadd, 1) := by decide +kernel
theorem d_Lw_law_1129 : decode code 1129 = .ok (.iaload, 1) := by decide +kernel
theorem d_Lw_law_1130 : decode code 1130 = .ok (.invokevirtual 122, 3) := by decide +kernel
theorem d_Lw_law_1133 : decode code 1133 = .ok (.if_icmp .eq 5, 3) := by decide +kernel
theorem d_Lw_law_1136 : decode code 1136 = .ok (.iconst 0, 1) := by decide +kernel
theorem d_Lw_law_1137 : decode code 1137 = .ok (.ireturn, 1) := by decide +kernel
theorem d_Lw_law_1138 : decode code 1138 = .ok (.iinc 4 7, 3) := by decide +kernel
theorem d_Lw_law_1141 : decode code 1141 = .ok (.goto (-1118), 3) := by decide +kernel
set_option maxRecDepth 100000 in
set_option maxHeartbeats 16000000 in
theorem w_Lw_law_23 {l : Launch} {G : gG} {X : gX} {M : gM} {K : Outcome → gX → gM → Prop} {cs ss : Nat} {b Ls : Nat} {xs : Nat → Int} (hscr : ∀ U, gSP G U → va_T .int b Ls (fun j => gI (xs j)) (gA G true) U U.heap) (hLs : g32 (Ls : Int)) (hLn : Ls ≤ 2147483648) (hxs : ∀ j, g32 (xs j)) {c o w : Nat} (hX : gLw X c o w) (hk : cs + 1 ≤ room_1.cells ∧ ss + 6 ≤ room_1.slots) {i : Int} (hi : g32 i) (T : ((w32 ((Ls : Int) - 7)) < i → (K (.returned (some (gI 1))) X M)) ∧ (¬ (w32 ((Ls : Int) - 7)) < i → (((0 : Int) ≤ i ∧ i < (Ls : Int)) ∧ ((gAnd (xs (Int.toNat i)) 15 = 0 → (wp l G y_Lw_law room_1 true K true 112 [.val (.ref b), .val (gR G c), .val (gR G o), .val (gR G w), .val (gI i), .unset, .unset, .unset] [] X M cs ss)) ∧ (gAnd (xs (Int.toNat i)) 15 = 1 → (wp l G y_Lw_law room_1 true K true 216 [.val (.ref b), .val (gR G c), .val (gR G o), .val (gR G w), .val (gI i), .unset, .unset, .unset] [] X M cs ss)) ∧ (gAnd (xs (Int.toNat i)) 15 = 2 → (wp l G y_Lw_law room_1 true K true 272 [.val (.ref b), .val (gR G c), .val (gR G o), .val (gR G w), .val (gI i), .unset, .unset, .unset] [] X M cs ss)) ∧ (gAnd (xs (Int.toNat i)) 15 = 3 → (wp l G y_Lw_law room_1 true K true 340 [.val (.ref b), .val (gR G c), .val (gR G o), .val (gR G w), .val (gI i), .unset, .unset, .unset] [] X M cs ss)) ∧ (gAnd (xs (Int.toNat i)) 15 = 4 → (wp l G y_Lw_law room_1 true K true 458 [.val (.ref b), .val (gR G c), .val (gR G o), .val (gR G w), .val (gI i), .unset, .unset, .unset] [] X M cs ss)) ∧ (gAnd (xs (Int.toNat i)) 15 = 5 → (wp l G y_Lw_law room_1 true K true 554 [.val (.ref b), .val (gR G c), .val (gR G o), .val (gR G w), .val (gI i), .unset, .unset, .unset] [] X M cs ss)) ∧ (gAnd (xs (Int.toNat i)) 15 = 6 → (wp l G y_Lw_law room_1 true K true 650 [.val (.ref b), .val (gR G c), .val (gR G o), .val (gR G w), .val (gI i), .unset, .unset, .unset] [] X M cs ss)) ∧ (gAnd (xs (Int.toNat i)) 15 = 7 → (wp l G y_Lw_law room_1 true K true 694 [.val (.ref b), .val (gR G c), .val (gR G o), .val (gR G w), .val (gI i), .unset, .unset, .unset] [] X M cs ss)) ∧ (gAnd (xs (Int.toNat i)) 15 = 8 → (wp l G y_Lw_law room_1 true K true 738 [.val (.ref b), .val (gR G c), .val (gR G o), .val (gR G w), .val (gI i), .unset, .unset, .unset] [] X M cs ss)) ∧ (gAnd (xs (Int.toNat i)) 15 = 9 → (wp l G y_Lw_law room_1 true K true 817 [.val (.ref b), .val (gR G c), .val (gR G o), .val (gR G w), .val (gI i), .unset, .unset, .unset] [] X M cs ss)) ∧ (gAnd (xs (Int.toNat i)) 15 = 10 → (wp l G y_Lw_law room_1 true K true 897 [.val (.ref b), .val (gR G c), .val (gR G o), .val (gR G w), .val (gI i), .unset, .unset, .unset] [] X M cs ss)) ∧ (gAnd (xs (Int.toNat i)) 15 = 11 → (wp l G y_Lw_law room_1 true K true 977 [.val (.ref b), .val (gR G c), .val (gR G o), .val (gR G w), .val (gI i), .unset, .unset, .unset] [] X M cs ss)) ∧ (gAnd (xs (Int.toNat i)) 15 = 12 → (wp l G y_Lw_law room_1 true K true 1057 [.val (.ref b), .val (gR G c), .val (gR G o), .val (gR G w), .val (gI i), .unset, .unset, .unset] [] X M cs ss)) ∧ (gAnd (xs (Int.toNat i)) 15 = 13 → (wp l G y_Lw_law room_1 true K true 1113 [.val (.ref b), .val (gR G c), .val (gR G o), .val (gR G w), .val (gI i), .unset, .unset, .unset] [] X M cs ss)) ∧ ((¬ gAnd (xs (Int.toNat i)) 15 = 0 ∧ ¬ gAnd (xs (Int.toNat i)) 15 = 1 ∧ ¬ gAnd (xs (Int.toNat i)) 15 = 2 ∧ ¬ gAnd (xs (Int.toNat i)) 15 = 3 ∧ ¬ gAnd (xs (Int.toNat i)) 15 = 4 ∧ ¬ gAnd (xs (Int.toNat i)) 15 = 5 ∧ ¬ gAnd (xs (Int.toNat i)) 15 = 6 ∧ ¬ gAnd (xs (Int.toNat i)) 15 = 7 ∧ ¬ gAnd (xs (Int.toNat i)) 15 = 8 ∧ ¬ gAnd (xs (Int.toNat i)) 15 = 9 ∧ ¬ gAnd (xs (Int.toNat i)) 15 = 10 ∧ ¬ gAnd (xs (Int.toNat i)) 15 = 11 ∧ ¬ gAnd (xs (Int.toNat i)) 15 = 12 ∧ ¬ gAnd (xs (Int.toNat i)) 15 = 13) → (wp l G y_Lw_law room_1 true K true 1138 [.val (.ref b), .val (gR G c), .val (gR G o), .val (gR G w), .val (gI i), .unset, .unset, .unset] [] X M cs ss)))))) : wp l G y_Lw_law room_1 true K true 23 [.val (.ref b), .val (gR G c), .val (gR G o), .val (gR G w), .val (gI i), .unset, .unset, .unset] [] X M cs ss := by
  refine wp_iload d_Lw_law_23 rfl ?_
  refine wp_oaload_n d_Lw_law_25 rfl rfl ?_
  refine wp_olen d_Lw_law_26 hscr ?_
  refine wp_bipush d_Lw_law_27 ⟨by decide, by decide⟩ ?_
  refine wp_isub d_Lw_law_29 ?_
  refine xi_gt (tgt := 1144) d_Lw_law_30 (by decide) (w32_id hi) rfl (fun h2 => ?_) (fun h2 => ?_)
  · have T := T.1 h2
    refine wp_iconst d_Lw_law_1144 ?_
    exact wp_zreturn d_Lw_law_1145 rfl (g_narz (⟨by decide, by decide⟩ : (0 : Int) ≤ 1 ∧ (1 : Int) ≤ 1)) (fun _ => rfl) (Nat.le_of_succ_le hk.1) (Nat.le_trans (Nat.le_add_right _ 6) hk.2) T
  · have T := T.2 h2
    refine wp_oaload_n d_Lw_law_33 rfl rfl ?_
    refine wp_iload d_Lw_law_34 rfl ?_
    have q1 := T.1
    have T := T.2
    refine xoiald d_Lw_law_36 hscr (w32_id hi) (g32_n q1 hLn) q1.1 q1.2 ?_
    refine wp_bipush d_Lw_law_37 ⟨by decide, by decide⟩ ?_
    refine wp_iand d_Lw_law_39 ?_
    obtain ⟨T0, T1, T2, T3, T4, T5, T6, T7, T8, T9, T10, T11, T12, T13, T14⟩ := T
    by_cases hc0 : gAnd (xs (Int.toNat i)) 15 = 0
    · refine xtabIn (tgt := 112) d_Lw_law_40 (w32_id (gAnd_ok _ _)) 0 hc0 rfl rfl (by decide) ?_
      have T := T0 hc0
      exact wp_md (wpt T (And.intro rfl (And.intro rfl (And.intro rfl (And.intro rfl (And.intro rfl True.intro))))))
    by_cases hc1 : gAnd (xs (Int.toNat i)) 15 = 1
    · refine xtabIn (tgt := 216) d_Lw_law_40 (w32_id (gAnd_ok _ _)) 1 hc1 rfl rfl (by decide) ?_
      have T := T1 hc1
      exact wp_md (wpt T (And.intro rfl (And.intro rfl (And.intro rfl (And.intro rfl (And.intro rfl True.intro))))))
    by_cases hc2 : gAnd (xs (Int.toNat i)) 15 = 2
    · refine xtabIn (tgt := 272) d_Lw_law_40 (w32_id (gAnd_ok _ _)) 2 hc2 rfl rfl (by decide) ?_
      have T := T2 hc2
      exact wp_md (wpt T (And.intro rfl (And.intro rfl (And.intro rfl (And.intro rfl (And.intro rfl True.intro))))))
    by_cases hc3 : gAnd (xs (Int.toNat i)) 15 = 3
    · refine xtabIn (tgt := 340) d_Lw_law_40 (w32_id (gAnd_ok _ _)) 3 hc3 rfl rfl (by decide) ?_
      have T := T3 hc3
      exact wp_md (wpt T (And.intro rfl (And.intro rfl (And.intro rfl (And.intro rfl (And.intro rfl True.intro))))))
    by_cases hc4 : gAnd (xs (Int.toNat i)) 15 = 4
    · refine xtabIn (tgt := 458) d_Lw_law_40 (w32_id (gAnd_ok _ _)) 4 hc4 rfl rfl (by decide) ?_
      have T := T4 hc4
      exact wp_md (wpt T (And.intro rfl (And.intro rfl (And.intro rfl (And.intro rfl (And.intro rfl True.intro))))))
    by_cases hc5 : gAnd (xs (Int.toNat i)) 15 = 5
    · refine xtabIn (tgt := 554) d_Lw_law_40 (w32_id (gAnd_ok _ _)) 5 hc5 rfl rfl (by decide) ?_
      have T := T5 hc5
      exact wp_md (wpt T (And.intro rfl (And.intro rfl (And.intro rfl (And.intro rfl (And.intro rfl True.intro))))))
    by_cases hc6 : gAnd (xs (Int.toNat i)) 15 = 6
    · refine xtabIn (tgt := 650) d_Lw_law_40 (w32_id (gAnd_ok _ _)) 6 hc6 rfl rfl (by decide) ?_
      have T := T6 hc6
      exact wp_md (wpt T (And.intro rfl (And.intro rfl (And.intro rfl (And.intro rfl (And.intro rfl True.intro))))))
    by_cases hc7 : gAnd (xs (Int.toNat i)) 15 = 7
    · refine xtabIn (tgt := 694) d_Lw_law_40 (w32_id (gAnd_ok _ _)) 7 hc7 rfl rfl (by decide) ?_
      have T := T7 hc7
      exact wp_md (wpt T (And.intro rfl (And.intro rfl (And.intro rfl (And.intro rfl (And.intro rfl True.intro))))))
    by_cases hc8 : gAnd (xs (Int.toNat i)) 15 = 8
    · refine xtabIn (tgt := 738) d_Lw_law_40 (w32_id (gAnd_ok _ _)) 8 hc8 rfl rfl (by decide) ?_
      have T := T8 hc8
      exact wp_md (wpt T (And.intro rfl (And.intro rfl (And.intro rfl (And.intro rfl (And.intro rfl True.intro))))))
    by_cases hc9 : gAnd (xs (Int.toNat i)) 15 = 9
    · refine xtabIn (tgt := 817) d_Lw_law_40 (w32_id (gAnd_ok _ _)) 9 hc9 rfl rfl (by decide) ?_
      have T := T9 hc9
      exact wp_md (wpt T (And.intro rfl (And.intro rfl (And.intro rfl (And.intro rfl (And.intro rfl True.intro))))))
    by_cases hc10 : gAnd (xs (Int.toNat i)) 15 = 10
    · refine xtabIn (tgt := 897) d_Lw_law_40 (w32_id (gAnd_ok _ _)) 10 hc10 rfl rfl (by decide) ?_
      have T := T10 hc10
      exact wp_md (wpt T (And.intro rfl (And.intro rfl (And.intro rfl (And.intro rfl (And.intro rfl True.intro))))))
    by_cases hc11 : gAnd (xs (Int.toNat i)) 15 = 11
    · refine xtabIn (tgt := 977) d_Lw_law_40 (w32_id (gAnd_ok _ _)) 11 hc11 rfl rfl (by decide) ?_
      have T := T11 hc11
      exact wp_md (wpt T (And.intro rfl (And.intro rfl (And.intro rfl (And.intro rfl (And.intro rfl True.intro))))))
    by_cases hc12 : gAnd (xs (Int.toNat i)) 15 = 12
    · refine xtabIn (tgt := 1057) d_Lw_law_40 (w32_id (gAnd_ok _ _)) 12 hc12 rfl rfl (by decide) ?_
      have T := T12 hc12
      exact wp_md (wpt T (And.intro rfl (And.intro rfl (And.intro rfl (And.intro rfl (And.intro rfl True.intro))))))
    by_cases hc13 : gAnd (xs (Int.toNat i)) 15 = 13
    · refine xtabIn (tgt := 1113) d_Lw_law_40 (w32_id (gAnd_ok _ _)) 13 hc13 rfl rfl (by decide) ?_
      have T := T13 hc13
      exact wp_md (wpt T (And.intro rfl (And.intro rfl (And.intro rfl (And.intro rfl (And.intro rfl True.intro))))))
    refine xtabOut (tgt := 1138) d_Lw_law_40 (w32_id (gAnd_ok _ _)) (by omega) (by decide) ?_
    have T := T14 ⟨hc0, hc1, hc2, hc3, hc4, hc5, hc6, hc7, hc8, hc9, hc10, hc11, hc12, hc13⟩
    exact wp_md (wpt T (And.intro rfl (And.intro rfl (And.intro rfl (And.intro rfl (And.intro rfl True.intro))))))
set_option maxRecDepth 100000 in
set_option maxHeartbeats 16000000 in
theorem w_Lw_law_112 {l : Launch} {G : gG} {X : gX} {M : gM} {K : Outcome → gX → gM → Prop} {cs ss : Nat} {b Ls : Nat} {xs : Nat → Int} (hscr : ∀ U, gSP G U → va_T .int b Ls (fun j => gI (xs j)) (gA G true) U U.heap) (hLs : g32 (Ls : Int)) (hLn : Ls ≤ 2147483648) (hxs : ∀ j, g32 (xs j)) {c o w : Nat} (hX : gLw X c o w) (hk : cs + 1 ≤ room_1.cells ∧ ss + 6 ≤ room_1.slots) {i : Int} (hi : g32 i) (T : ((0 : Int) ≤ (w32 (i + 1)) ∧ (w32 (i + 1)) < (Ls : Int)) ∧ (((0 : Int) ≤ (w32 (i + 2)) ∧ (w32 (i + 2)) < (Ls : Int)) ∧ (((0 : Int) ≤ (w32 (i + 3)) ∧ (w32 (i + 3)) < (Ls : Int)) ∧ (((0 : Int) ≤ (w32 (i + 4)) ∧ (w32 (i + 4)) < (Ls : Int)) ∧ (((0 : Int) ≤ (w32 (i + 5)) ∧ (w32 (i + 5)) < (Ls : Int)) ∧ (gCh l G y_Lw_feed tb_Lw_feed (gRr 700 1) true [gR G c, gI (xs (Int.toNat (w32 (i + 1)))), gI (xs (Int.toNat (w32 (i + 2)))), gI (xs (Int.toNat (w32 (i + 3)))), gI (xs (Int.toNat (w32 (i + 4)))), gI (xs (Int.toNat (w32 (i + 5)))), gR G w] X M (fun o1 X6 M7 => ∃ v8, o1 = .returned (some (gI v8)) ∧ g32 v8 ∧ gLw X6 c o w ∧ (((0 : Int) ≤ (w32 (i + 1)) ∧ (w32 (i + 1)) < (Ls : Int)) ∧ (((0 : Int) ≤ (w32 (i + 2)) ∧ (w32 (i + 2)) < (Ls : Int)) ∧ (((0 : Int) ≤ (w32 (i + 3)) ∧ (w32 (i + 3)) < (Ls : Int)) ∧ (((0 : Int) ≤ (w32 (i + 4)) ∧ (w32 (i + 4)) < (Ls : Int)) ∧ (((0 : Int) ≤ (w32 (i + 5)) ∧ (w32 (i + 5)) < (Ls : Int)) ∧ (cI l G y_GM_feed (gRm 700) true [gR G o, gI (xs (Int.toNat (w32 (i + 1)))), gI (xs (Int.toNat (w32 (i + 2)))), gI (xs (Int.toNat (w32 (i + 3)))), gI (xs (Int.toNat (w32 (i + 4)))), gI (xs (Int.toNat (w32 (i + 5))))] X6 M7 (fun v17 M16 => (cI l G y_GM_thrown (gRm 700) false [gR G o] X6 M16 (fun v20 M19 => ((v20 = v8 → ((¬ v8 = 0 → (wp l G y_Lw_law room_1 true K true 1138 [.val (.ref b), .val (gR G c), .val (gR G o), .val (gR G w), .val (gI i), .unset, .unset, .unset] [] X6 M19 (cs + 1) (ss + 6))) ∧ (v8 = 0 → (((0 : Int) ≤ (0 : Int) ∧ (0 : Int) < 1) ∧ (g64 (M19 w (Int.toNat 0)) → ((M19 w (Int.toNat 0) = v17 → (wp l G y_Lw_law room_1 true K true 1138 [.val (.ref b), .val (gR G c), .val (gR G o), .val (gR G w), .val (gI i), .unset, .unset, .unset] [] X6 M19 (cs + 1) (ss + 6))) ∧ (¬ M19 w (Int.toNat 0) = v17 → (K (.returned (some (gI 0))) X6 M19)))))))) ∧ (¬ v20 = v8 → (K (.returned (some (gI 0))) X6 M19))))))))))))))))))) : wp l G y_Lw_law room_1 true K true 112 [.val (.ref b), .val (gR G c), .val (gR G o), .val (gR G w), .val (gI i), .unset, .unset, .unset] [] X M cs ss := by
  refine wp_aload_n d_Lw_law_112 rfl rfl (g_nz hX.1.1) ?_
  refine wp_oaload_n d_Lw_law_113 rfl rfl ?_
  refine wp_iload d_Lw_law_114 rfl ?_
  refine wp_iconst d_Lw_law_116 ?_
  refine wp_iadd d_Lw_law_117 ?_
  have q1 := T.1
  have T := T.2
  refine xoiald d_Lw_law_118 hscr rfl (g32_n q1 hLn) q1.1 q1.2 ?_
  refine wp_oaload_n d_Lw_law_119 rfl rfl ?_
  refine wp_iload d_Lw_law_120 rfl ?_
  refine wp_iconst d_Lw_law_122 ?_
  refine wp_iadd d_Lw_law_123 ?_
  have q2 := T.1
  have T := T.2
  refine xoiald d_Lw_law_124 hscr rfl (g32_n q2 hLn) q2.1 q2.2 ?_
  refine wp_oaload_n d_Lw_law_125 rfl rfl ?_
  refine wp_iload d_Lw_law_126 rfl ?_
  refine wp_iconst d_Lw_law_128 ?_
  refine wp_iadd d_Lw_law_129 ?_
  have q3 := T.1
  have T := T.2
  refine xoiald d_Lw_law_130 hscr rfl (g32_n q3 hLn) q3.1 q3.2 ?_
  refine wp_oaload_n d_Lw_law_131 rfl rfl ?_
  refine wp_iload d_Lw_law_132 rfl ?_
  refine wp_iconst d_Lw_law_134 ?_
  refine wp_iadd d_Lw_law_135 ?_
  have q4 := T.1
  have T := T.2
  refine xoiald d_Lw_law_136 hscr rfl (g32_n q4 hLn) q4.1 q4.2 ?_
  refine wp_oaload_n d_Lw_law_137 rfl rfl ?_
  refine wp_iload d_Lw_law_138 rfl ?_
  refine wp_iconst d_Lw_law_140 ?_
  refine wp_iadd d_Lw_law_141 ?_
  have q5 := T.1
  have T := T.2
  refine xoiald d_Lw_law_142 hscr rfl (g32_n q5 hLn) q5.1 q5.2 ?_
  refine wp_aload_n d_Lw_law_143 rfl rfl (g_nz hX.2.2.1) ?_
  refine wp_callH (z := y_Lw_feed) (tb := tb_Lw_feed) (n := 7) (rm' := gRr 700 1) (md' := true) (As := [gR G c, gI (xs (Int.toNat (w32 (i + 1)))), gI (xs (Int.toNat (w32 (i + 2)))), gI (xs (Int.toNat (w32 (i + 3)))), gI (xs (Int.toNat (w32 (i + 4)))), gI (xs (Int.toNat (w32 (i + 5)))), gR G w]) (st := []) d_Lw_law_144 cw_Lw_feed ii_Lw ⟨by decide, by decide⟩ (by decide +kernel) ml_Lw_68 sm_Lw_feed T (fun o X' M' h => by obtain ⟨w1, h1, -⟩ := h; exact ⟨_, h1⟩) (fun _ => rfl) (fun _ => rfl) rfl (g_rm2 _ (by decide)) (by decide) hk rfl (fun v0 X6 M7 h => ?_)
  obtain ⟨v8, e1, h9, hX10, T⟩ := h
  cases e1
  refine wp_st (st' := [gI v8]) rfl ?_
  refine wp_istore (L' := [.val (.ref b), .val (gR G c), .val (gR G o), .val (gR G w), .val (gI i), .val (gI v8), .unset, .unset]) d_Lw_law_147 (by decide) rfl ?_
  refine wp_aload_n d_Lw_law_149 rfl rfl (g_nz hX10.2.1.1) ?_
  refine wp_oaload_n d_Lw_law_150 rfl rfl ?_
  refine wp_iload d_Lw_law_151 rfl ?_
  refine wp_iconst d_Lw_law_153 ?_
  refine wp_iadd d_Lw_law_154 ?_
  have q11 := T.1
  have T := T.2
  refine xoiald d_Lw_law_155 hscr rfl (g32_n q11 hLn) q11.1 q11.2 ?_
  refine wp_oaload_n d_Lw_law_156 rfl rfl ?_
  refine wp_iload d_Lw_law_157 rfl ?_
  refine wp_iconst d_Lw_law_159 ?_
  refine wp_iadd d_Lw_law_160 ?_
  have q12 := T.1
  have T := T.2
  refine xoiald d_Lw_law_161 hscr rfl (g32_n q12 hLn) q12.1 q12.2 ?_
  refine wp_oaload_n d_Lw_law_162 rfl rfl ?_
  refine wp_iload d_Lw_law_163 rfl ?_
  refine wp_iconst d_Lw_law_165 ?_
  refine wp_iadd d_Lw_law_166 ?_
  have q13 := T.1
  have T := T.2
  refine xoiald d_Lw_law_167 hscr rfl (g32_n q13 hLn) q13.1 q13.2 ?_
  refine wp_oaload_n d_Lw_law_168 rfl rfl ?_
  refine wp_iload d_Lw_law_169 rfl ?_
  refine wp_iconst d_Lw_law_171 ?_
  refine wp_iadd d_Lw_law_172 ?_
  have q14 := T.1
  have T := T.2
  refine xoiald d_Lw_law_173 hscr rfl (g32_n q14 hLn) q14.1 q14.2 ?_
  refine wp_oaload_n d_Lw_law_174 rfl rfl ?_
  refine wp_iload d_Lw_law_175 rfl ?_
  refine wp_iconst d_Lw_law_177 ?_
  refine wp_iadd d_Lw_law_178 ?_
  have q15 := T.1
  have T := T.2
  refine xoiald d_Lw_law_179 hscr rfl (g32_n q15 hLn) q15.1 q15.2 ?_
  refine zcV_I ⟨hk.1, hk.2⟩ (md' := true) (As := [gI (xs (Int.toNat (w32 (i + 1)))), gI (xs (Int.toNat (w32 (i + 2)))), gI (xs (Int.toNat (w32 (i + 3)))), gI (xs (Int.toNat (w32 (i + 4)))), gI (xs (Int.toNat (w32 (i + 5))))]) (st := []) d_Lw_law_180 ca_GM_feed ml_Lw_73 im_GM_feed se_GM_feed gc_GM hX10.2.1.1 (gm_o2 hX10.2.1) hX10.2.1.2.2.1 rfl (by decide) (by decide) rfl (fun _ => rfl) (fun _ => rfl) T (fun v17 M16 h18 T => ?_)
  refine wp_istore (L' := [.val (.ref b), .val (gR G c), .val (gR G o), .val (gR G w), .val (gI i), .val (gI v8), .val (gI v17), .unset]) d_Lw_law_183 (by decide) rfl ?_
  refine wp_aload_n d_Lw_law_185 rfl rfl (g_nz hX10.2.1.1) ?_
  refine zcV_I ⟨hk.1, hk.2⟩ (md' := true) (As := []) (st := []) d_Lw_law_186 ca_GM_thrown ml_Lw_74 im_GM_thrown se_GM_thrown gc_GM hX10.2.1.1 (gm_o2 hX10.2.1) hX10.2.1.2.2.1 rfl (by decide) (by decide) rfl (fun _ => rfl) (fun _ => rfl) T (fun v20 M19 h21 T => ?_)
  refine wp_iload d_Lw_law_189 rfl ?_
  refine xi_eq (tgt := 196) d_Lw_law_191 (by decide) (w32_id h21) (w32_id h9) (fun h25 => ?_) (fun h25 => ?_)
  · have T := T.1 h25
    refine wp_iload d_Lw_law_196 rfl ?_
    refine xz_ne (tgt := 213) d_Lw_law_198 (by decide) (w32_id h9) (fun h24 => ?_) (fun h24 => ?_)
    · have T := T.1 h24
      refine wp_goto (tgt := 1138) d_Lw_law_213 (by decide) ?_
      exact wp_md (wpt T (And.intro rfl (And.intro rfl (And.intro rfl (And.intro rfl (And.intro rfl True.intro))))))
    · have T := T.2 h24
      refine wp_aload_n d_Lw_law_201 rfl rfl (g_nz hX10.2.2.1) ?_
      refine wp_iconst d_Lw_law_202 ?_
      refine wp_laload d_Lw_law_203 hX10.2.2.1 hX10.2.2.2.1 hX10.2.2.2.2 (g32_n T.1 (by decide)) T.1.1 T.1.2 (fun h22 => ?_)
      have T := T.2 h22
      refine wp_iload d_Lw_law_204 rfl ?_
      refine xi2l d_Lw_law_206 (w32_id h18) ?_
      refine xl_eq (tgt := 213) d_Lw_law_207 d_Lw_law_208 (by decide) (w64_id h22) (w64_id (g64_32 h18)) (fun h23 => ?_) (fun h23 => ?_)
      · have T := T.1 h23
        refine wp_goto (tgt := 1138) d_Lw_law_213 (by decide) ?_
        exact wp_md (wpt T (And.intro rfl (And.intro rfl (And.intro rfl (And.intro rfl (And.intro rfl True.intro))))))
      · have T := T.2 h23
        refine wp_iconst d_Lw_law_211 ?_
        exact wp_zreturn d_Lw_law_212 rfl (g_narz (⟨by decide, by decide⟩ : (0 : Int) ≤ 0 ∧ (0 : Int) ≤ 1)) (fun _ => rfl) hk.1 hk.2 T
  · have T := T.2 h25
    refine wp_iconst d_Lw_law_194 ?_
    exact wp_zreturn d_Lw_law_195 rfl (g_narz (⟨by decide, by decide⟩ : (0 : Int) ≤ 0 ∧ (0 : Int) ≤ 1)) (fun _ => rfl) hk.1 hk.2 T
set_option maxRecDepth 100000 in
set_option maxHeartbeats 16000000 in
theorem w_Lw_law_216 {l : Launch} {G : gG} {X : gX} {M : gM} {K : Outcome → gX → gM → Prop} {cs ss : Nat} {b Ls : Nat} {xs : Nat → Int} (hscr : ∀ U, gSP G U → va_T .int b Ls (fun j => gI (xs j)) (gA G true) U U.heap) (hLs : g32 (Ls : Int)) (hLn : Ls ≤ 2147483648) (hxs : ∀ j, g32 (xs j)) {c o w : Nat} (hX : gLw X c o w) (hk : cs + 1 ≤ room_1.cells ∧ ss + 6 ≤ room_1.slots) {i : Int} (hi : g32 i) (T : ((0 : Int) ≤ (w32 (i + 1)) ∧ (w32 (i + 1)) < (Ls : Int)) ∧ (gCh l G y_Lw_end tb_Lw_end (gRr 700 1) true [gR G c, gI (xs (Int.toNat (w32 (i + 1)))), gR G w] X M (fun o1 X2 M3 => ∃ v4, o1 = .returned (some (gI v4)) ∧ g32 v4 ∧ gLw X2 c o w ∧ (((0 : Int) ≤ (w32 (i + 1)) ∧ (w32 (i + 1)) < (Ls : Int)) ∧ (cI l G y_GM_end (gRm 700) true [gR G o, gI (xs (Int.toNat (w32 (i + 1))))] X2 M3 (fun v9 M8 => (cI l G y_GM_thrown (gRm 700) false [gR G o] X2 M8 (fun v12 M11 => ((v12 = v4 → ((¬ v4 = 0 → (wp l G y_Lw_law room_1 true K true 1138 [.val (.ref b), .val (gR G c), .val (gR G o), .val (gR G w), .val (gI i), .unset, .unset, .unset] [] X2 M11 (cs + 1) (ss + 6))) ∧ (v4 = 0 → (((0 : Int) ≤ (0 : Int) ∧ (0 : Int) < 1) ∧ (g64 (M11 w (Int.toNat 0)) → ((M11 w (Int.toNat 0) = v9 → (wp l G y_Lw_law room_1 true K true 1138 [.val (.ref b), .val (gR G c), .val (gR G o), .val (gR G w), .val (gI i), .unset, .unset, .unset] [] X2 M11 (cs + 1) (ss + 6))) ∧ (¬ M11 w (Int.toNat 0) = v9 → (K (.returned (some (gI 0))) X2 M11)))))))) ∧ (¬ v12 = v4 → (K (.returned (some (gI 0))) X2 M11))))))))))) : wp l G y_Lw_law room_1 true K true 216 [.val (.ref b), .val (gR G c), .val (gR G o), .val (gR G w), .val (gI i), .unset, .unset, .unset] [] X M cs ss := by
  refine wp_aload_n d_Lw_law_216 rfl rfl (g_nz hX.1.1) ?_
  refine wp_oaload_n d_Lw_law_217 rfl rfl ?_
  refine wp_iload d_Lw_law_218 rfl ?_
  refine wp_iconst d_Lw_law_220 ?_
  refine wp_iadd d_Lw_law_221 ?_
  have q1 := T.1
  have T := T.2
  refine xoiald d_Lw_law_222 hscr rfl (g32_n q1 hLn) q1.1 q1.2 ?_
  refine wp_aload_n d_Lw_law_223 rfl rfl (g_nz hX.2.2.1) ?_
  refine wp_callH (z := y_Lw_end) (tb := tb_Lw_end) (n := 3) (rm' := gRr 700 1) (md' := true) (As := [gR G c, gI (xs (Int.toNat (w32 (i + 1)))), gR G w]) (st := []) d_Lw_law_224 cw_Lw_end ii_Lw ⟨by decide, by decide⟩ (by decide +kernel) ml_Lw_77 sm_Lw_end T (fun o X' M' h => by obtain ⟨w1, h1, -⟩ := h; exact ⟨_, h1⟩) (fun _ => rfl) (fun _ => rfl) rfl (g_rm2 _ (by decide)) (by decide) hk rfl (fun v0 X2 M3 h => ?_)
  obtain ⟨v4, e1, h5, hX6, T⟩ := h
  cases e1
  refine wp_st (st' := [gI v4]) rfl ?_
  refine wp_istore (L' := [.val (.ref b), .val (gR G c), .val (gR G o), .val (gR G w), .val (gI i), .val (gI v4), .unset, .unset]) d_Lw_law_227 (by decide) rfl ?_
  refine wp_aload_n d_Lw_law_229 rfl rfl (g_nz hX6.2.1.1) ?_
  refine wp_oaload_n d_Lw_law_230 rfl rfl ?_
  refine wp_iload d_Lw_law_231 rfl ?_
  refine wp_iconst d_Lw_law_233 ?_
  refine wp_iadd d_Lw_law_234 ?_
  have q7 := T.1
  have T := T.2
  refine xoiald d_Lw_law_235 hscr rfl (g32_n q7 hLn) q7.1 q7.2 ?_
  refine zcV_I ⟨hk.1, hk.2⟩ (md' := true) (As := [gI (xs (Int.toNat (w32 (i + 1))))]) (st := []) d_Lw_law_236 ca_GM_end ml_Lw_80 im_GM_end se_GM_end gc_GM hX6.2.1.1 (gm_o2 hX6.2.1) hX6.2.1.2.2.1 rfl (by decide) (by decide) rfl (fun _ => rfl) (fun _ => rfl) T (fun v9 M8 h10 T => ?_)
  refine wp_istore (L' := [.val (.ref b), .val (gR G c), .val (gR G o), .val (gR G w), .val (gI i), .val (gI v4), .val (gI v9), .unset]) d_Lw_law_239 (by decide) rfl ?_
  refine wp_aload_n d_Lw_law_241 rfl rfl (g_nz hX6.2.1.1) ?_
  refine zcV_I ⟨hk.1, hk.2⟩ (md' := true) (As := []) (st := []) d_Lw_law_242 ca_GM_thrown ml_Lw_74 im_GM_thrown se_GM_thrown gc_GM hX6.2.1.1 (gm_o2 hX6.2.1) hX6.2.1.2.2.1 rfl (by decide) (by decide) rfl (fun _ => rfl) (fun _ => rfl) T (fun v12 M11 h13 T => ?_)
  refine wp_iload d_Lw_law_245 rfl ?_
  refine xi_eq (tgt := 252) d_Lw_law_247 (by decide) (w32_id h13) (w32_id h5) (fun h17 => ?_) (fun h17 => ?_)
  · have T := T.1 h17
    refine wp_iload d_Lw_law_252 rfl ?_
    refine xz_ne (tgt := 269) d_Lw_law_254 (by decide) (w32_id h5) (fun h16 => ?_) (fun h16 => ?_)
    · have T := T.1 h16
      refine wp_goto (tgt := 1138) d_Lw_law_269 (by decide) ?_
      exact wp_md (wpt T (And.intro rfl (And.intro rfl (And.intro rfl (And.intro rfl (And.intro rfl True.intro))))))
    · have T := T.2 h16
      refine wp_aload_n d_Lw_law_257 rfl rfl (g_nz hX6.2.2.1) ?_
      refine wp_iconst d_Lw_law_258 ?_
      refine wp_laload d_Lw_law_259 hX6.2.2.1 hX6.2.2.2.1 hX6.2.2.2.2 (g32_n T.1 (by decide)) T.1.1 T.1.2 (fun h14 => ?_)
      have T := T.2 h14
      refine wp_iload d_Lw_law_260 rfl ?_
      refine xi2l d_Lw_law_262 (w32_id h10) ?_
      refine xl_eq (tgt := 269) d_Lw_law_263 d_Lw_law_264 (by decide) (w64_id h14) (w64_id (g64_32 h10)) (fun h15 => ?_) (fun h15 => ?_)
      · have T := T.1 h15
        refine wp_goto (tgt := 1138) d_Lw_law_269 (by decide) ?_
        exact wp_md (wpt T (And.intro rfl (And.intro rfl (And.intro rfl (And.intro rfl (And.intro rfl True.intro))))))
      · have T := T.2 h15
        refine wp_iconst d_Lw_law_267 ?_
        exact wp_zreturn d_Lw_law_268 rfl (g_narz (⟨by decide, by decide⟩ : (0 : Int) ≤ 0 ∧ (0 : Int) ≤ 1)) (fun _ => rfl) hk.1 hk.2 T
  · have T := T.2 h17
    refine wp_iconst d_Lw_law_250 ?_
    exact wp_zreturn d_Lw_law_251 rfl (g_narz (⟨by decide, by decide⟩ : (0 : Int) ≤ 0 ∧ (0 : Int) ≤ 1)) (fun _ => rfl) hk.1 hk.2 T
set_option maxRecDepth 100000 in
set_option maxHeartbeats 16000000 in
theorem w_Lw_law_272 {l : Launch} {G : gG} {X : gX} {M : gM} {K : Outcome → gX → gM → Prop} {cs ss : Nat} {b Ls : Nat} {xs : Nat → Int} (hscr : ∀ U, gSP G U → va_T .int b Ls (fun j => gI (xs j)) (gA G true) U U.heap) (hLs : g32 (Ls : Int)) (hLn : Ls ≤ 2147483648) (hxs : ∀ j, g32 (xs j)) {c o w : Nat} (hX : gLw X c o w) (hk : cs + 1 ≤ room_1.cells ∧ ss + 6 ≤ room_1.slots) {i : Int} (hi : g32 i) (T : ((0 : Int) ≤ (w32 (i + 1)) ∧ (w32 (i + 1)) < (Ls : Int)) ∧ (((0 : Int) ≤ (w32 (i + 2)) ∧ (w32 (i + 2)) < (Ls : Int)) ∧ (gCh l G y_Lw_put tb_Lw_put (gRr 700 1) true [gR G c, gI (xs (Int.toNat (w32 (i + 1)))), gI (xs (Int.toNat (w32 (i + 2)))), gR G w] X M (fun o1 X3 M4 => ∃ v5, o1 = .returned (some (gI v5)) ∧ g32 v5 ∧ gLw X3 c o w ∧ (((0 : Int) ≤ (w32 (i + 1)) ∧ (w32 (i + 1)) < (Ls : Int)) ∧ (((0 : Int) ≤ (w32 (i + 2)) ∧ (w32 (i + 2)) < (Ls : Int)) ∧ (cI l G y_GM_put (gRm 700) true [gR G o, gI (xs (Int.toNat (w32 (i + 1)))), gI (xs (Int.toNat (w32 (i + 2))))] X3 M4 (fun v11 M10 => (cI l G y_GM_thrown (gRm 700) false [gR G o] X3 M10 (fun v14 M13 => ((v14 = v5 → ((¬ v5 = 0 → (wp l G y_Lw_law room_1 true K true 1138 [.val (.ref b), .val (gR G c), .val (gR G o), .val (gR G w), .val (gI i), .unset, .unset, .unset] [] X3 M13 (cs + 1) (ss + 6))) ∧ (v5 = 0 → (((0 : Int) ≤ (0 : Int) ∧ (0 : Int) < 1) ∧ (g64 (M13 w (Int.toNat 0)) → ((M13 w (Int.toNat 0) = v11 → (wp l G y_Lw_law room_1 true K true 1138 [.val (.ref b), .val (gR G c), .val (gR G o), .val (gR G w), .val (gI i), .unset, .unset, .unset] [] X3 M13 (cs + 1) (ss + 6))) ∧ (¬ M13 w (Int.toNat 0) = v11 → (K (.returned (some (gI 0))) X3 M13)))))))) ∧ (¬ v14 = v5 → (K (.returned (some (gI 0))) X3 M13))))))))))))) : wp l G y_Lw_law room_1 true K true 272 [.val (.ref b), .val (gR G c), .val (gR G o), .val (gR G w), .val (gI i), .unset, .unset, .unset] [] X M cs ss := by
  refine wp_aload_n d_Lw_law_272 rfl rfl (g_nz hX.1.1) ?_
  refine wp_oaload_n d_Lw_law_273 rfl rfl ?_
  refine wp_iload d_Lw_law_274 rfl ?_
  refine wp_iconst d_Lw_law_276 ?_
  refine wp_iadd d_Lw_law_277 ?_
  have q1 := T.1
  have T := T.2
  refine xoiald d_Lw_law_278 hscr rfl (g32_n q1 hLn) q1.1 q1.2 ?_
  refine wp_oaload_n d_Lw_law_279 rfl rfl ?_
  refine wp_iload d_Lw_law_280 rfl ?_
  refine wp_iconst d_Lw_law_282 ?_
  refine wp_iadd d_Lw_law_283 ?_
  have q2 := T.1
  have T := T.2
  refine xoiald d_Lw_law_284 hscr rfl (g32_n q2 hLn) q2.1 q2.2 ?_
  refine wp_aload_n d_Lw_law_285 rfl rfl (g_nz hX.2.2.1) ?_
  refine wp_callH (z := y_Lw_put) (tb := tb_Lw_put) (n := 4) (rm' := gRr 700 1) (md' := true) (As := [gR G c, gI (xs (Int.toNat (w32 (i + 1)))), gI (xs (Int.toNat (w32 (i + 2)))), gR G w]) (st := []) d_Lw_law_286 cw_Lw_put ii_Lw ⟨by decide, by decide⟩ (by decide +kernel) ml_Lw_81 sm_Lw_put T (fun o X' M' h => by obtain ⟨w1, h1, -⟩ := h; exact ⟨_, h1⟩) (fun _ => rfl) (fun _ => rfl) rfl (g_rm2 _ (by decide)) (by decide) hk rfl (fun v0 X3 M4 h => ?_)
  obtain ⟨v5, e1, h6, hX7, T⟩ := h
  cases e1
  refine wp_st (st' := [gI v5]) rfl ?_
  refine wp_istore (L' := [.val (.ref b), .val (gR G c), .val (gR G o), .val (gR G w), .val (gI i), .val (gI v5), .unset, .unset]) d_Lw_law_289 (by decide) rfl ?_
  refine wp_aload_n d_Lw_law_291 rfl rfl (g_nz hX7.2.1.1) ?_
  refine wp_oaload_n d_Lw_law_292 rfl rfl ?_
  refine wp_iload d_Lw_law_293 rfl ?_
  refine wp_iconst d_Lw_law_295 ?_
  refine wp_iadd d_Lw_law_296 ?_
  have q8 := T.1
  have T := T.2
  refine xoiald d_Lw_law_297 hscr rfl (g32_n q8 hLn) q8.1 q8.2 ?_
  refine wp_oaload_n d_Lw_law_298 rfl rfl ?_
  refine wp_iload d_Lw_law_299 rfl ?_
  refine wp_iconst d_Lw_law_301 ?_
  refine wp_iadd d_Lw_law_302 ?_
  have q9 := T.1
  have T := T.2
  refine xoiald d_Lw_law_303 hscr rfl (g32_n q9 hLn) q9.1 q9.2 ?_
  refine zcV_I ⟨hk.1, hk.2⟩ (md' := true) (As := [gI (xs (Int.toNat (w32 (i + 1)))), gI (xs (Int.toNat (w32 (i + 2))))]) (st := []) d_Lw_law_304 ca_GM_put ml_Lw_84 im_GM_put se_GM_put gc_GM hX7.2.1.1 (gm_o2 hX7.2.1) hX7.2.1.2.2.1 rfl (by decide) (by decide) rfl (fun _ => rfl) (fun _ => rfl) T (fun v11 M10 h12 T => ?_)
  refine wp_istore (L' := [.val (.ref b), .val (gR G c), .val (gR G o), .val (gR G w), .val (gI i), .val (gI v5), .val (gI v11), .unset]) d_Lw_law_307 (by decide) rfl ?_
  refine wp_aload_n d_Lw_law_309 rfl rfl (g_nz hX7.2.1.1) ?_
  refine zcV_I ⟨hk.1, hk.2⟩ (md' := true) (As := []) (st := []) d_Lw_law_310 ca_GM_thrown ml_Lw_74 im_GM_thrown se_GM_thrown gc_GM hX7.2.1.1 (gm_o2 hX7.2.1) hX7.2.1.2.2.1 rfl (by decide) (by decide) rfl (fun _ => rfl) (fun _ => rfl) T (fun v14 M13 h15 T => ?_)
  refine wp_iload d_Lw_law_313 rfl ?_
  refine xi_eq (tgt := 320) d_Lw_law_315 (by decide) (w32_id h15) (w32_id h6) (fun h19 => ?_) (fun h19 => ?_)
  · have T := T.1 h19
    refine wp_iload d_Lw_law_320 rfl ?_
    refine xz_ne (tgt := 337) d_Lw_law_322 (by decide) (w32_id h6) (fun h18 => ?_) (fun h18 => ?_)
    · have T := T.1 h18
      refine wp_goto (tgt := 1138) d_Lw_law_337 (by decide) ?_
      exact wp_md (wpt T (And.intro rfl (And.intro rfl (And.intro rfl (And.intro rfl (And.intro rfl True.intro))))))
    · have T := T.2 h18
      refine wp_aload_n d_Lw_law_325 rfl rfl (g_nz hX7.2.2.1) ?_
      refine wp_iconst d_Lw_law_326 ?_
      refine wp_laload d_Lw_law_327 hX7.2.2.1 hX7.2.2.2.1 hX7.2.2.2.2 (g32_n T.1 (by decide)) T.1.1 T.1.2 (fun h16 => ?_)
      have T := T.2 h16
      refine wp_iload d_Lw_law_328 rfl ?_
      refine xi2l d_Lw_law_330 (w32_id h12) ?_
      refine xl_eq (tgt := 337) d_Lw_law_331 d_Lw_law_332 (by decide) (w64_id h16) (w64_id (g64_32 h12)) (fun h17 => ?_) (fun h17 => ?_)
      · have T := T.1 h17
        refine wp_goto (tgt := 1138) d_Lw_law_337 (by decide) ?_
        exact wp_md (wpt T (And.intro rfl (And.intro rfl (And.intro rfl (And.intro rfl (And.intro rfl True.intro))))))
      · have T := T.2 h17
        refine wp_iconst d_Lw_law_335 ?_
        exact wp_zreturn d_Lw_law_336 rfl (g_narz (⟨by decide, by decide⟩ : (0 : Int) ≤ 0 ∧ (0 : Int) ≤ 1)) (fun _ => rfl) hk.1 hk.2 T
  · have T := T.2 h19
    refine wp_iconst d_Lw_law_318 ?_
    exact wp_zreturn d_Lw_law_319 rfl (g_narz (⟨by decide, by decide⟩ : (0 : Int) ≤ 0 ∧ (0 : Int) ≤ 1)) (fun _ => rfl) hk.1 hk.2 T
set_option maxRecDepth 100000 in
set_option maxHeartbeats 16000000 in
theorem w_Lw_law_340 {l : Launch} {G : gG} {X : gX} {M : gM} {K : Outcome → gX → gM → Prop} {cs ss : Nat} {b Ls : Nat} {xs : Nat → Int} (hscr : ∀ U, gSP G U → va_T .int b Ls (fun j => gI (xs j)) (gA G true) U U.heap) (hLs : g32 (Ls : Int)) (hLn : Ls ≤ 2147483648) (hxs : ∀ j, g32 (xs j)) {c o w : Nat} (hX : gLw X c o w) (hk : cs + 1 ≤ room_1.cells ∧ ss + 6 ≤ room_1.slots) {i : Int} (hi : g32 i) (T : ((0 : Int) ≤ (w32 (i + 1)) ∧ (w32 (i + 1)) < (Ls : Int)) ∧ (((0 : Int) ≤ (w32 (i + 2)) ∧ (w32 (i + 2)) < (Ls : Int)) ∧ (((0 : Int) ≤ (w32 (i + 3)) ∧ (w32 (i + 3)) < (Ls : Int)) ∧ (((0 : Int) ≤ (w32 (i + 4)) ∧ (w32 (i + 4)) < (Ls : Int)) ∧ (((0 : Int) ≤ (w32 (i + 5)) ∧ (w32 (i + 5)) < (Ls : Int)) ∧ (((0 : Int) ≤ (w32 (i + 6)) ∧ (w32 (i + 6)) < (Ls : Int)) ∧ (gCh l G y_Lw_fill tb_Lw_fill (gRr 700 1) true [gR G c, gI (xs (Int.toNat (w32 (i + 1)))), gI (xs (Int.toNat (w32 (i + 2)))), gI (xs (Int.toNat (w32 (i + 3)))), gI (xs (Int.toNat (w32 (i + 4)))), gI (xs (Int.toNat (w32 (i + 5)))), gI (xs (Int.toNat (w32 (i + 6)))), gR G w] X M (fun o1 X7 M8 => ∃ v9, o1 = .returned (some (gI v9)) ∧ g32 v9 ∧ gLw X7 c o w ∧ (((0 : Int) ≤ (w32 (i + 1)) ∧ (w32 (i + 1)) < (Ls : Int)) ∧ (((0 : Int) ≤ (w32 (i + 2)) ∧ (w32 (i + 2)) < (Ls : Int)) ∧ (((0 : Int) ≤ (w32 (i + 3)) ∧ (w32 (i + 3)) < (Ls : Int)) ∧ (((0 : Int) ≤ (w32 (i + 4)) ∧ (w32 (i + 4)) < (Ls : Int)) ∧ (((0 : Int) ≤ (w32 (i + 5)) ∧ (w32 (i + 5)) < (Ls : Int)) ∧ (((0 : Int) ≤ (w32 (i + 6)) ∧ (w32 (i + 6)) < (Ls : Int)) ∧ (cI l G y_GM_fill (gRm 700) true [gR G o, gI (xs (Int.toNat (w32 (i + 1)))), gI (xs (Int.toNat (w32 (i + 2)))), gI (xs (Int.toNat (w32 (i + 3)))), gI (xs (Int.toNat (w32 (i + 4)))), gI (xs (Int.toNat (w32 (i + 5)))), gI (xs (Int.toNat (w32 (i + 6))))] X7 M8 (fun v19 M18 => (cI l G y_GM_thrown (gRm 700) false [gR G o] X7 M18 (fun v22 M21 => ((v22 = v9 → ((¬ v9 = 0 → (wp l G y_Lw_law room_1 true K true 1138 [.val (.ref b), .val (gR G c), .val (gR G o), .val (gR G w), .val (gI i), .unset, .unset, .unset] [] X7 M21 (cs + 1) (ss + 6))) ∧ (v9 = 0 → (((0 : Int) ≤ (0 : Int) ∧ (0 : Int) < 1) ∧ (g64 (M21 w (Int.toNat 0)) → ((M21 w (Int.toNat 0) = v19 → (wp l G y_Lw_law room_1 true K true 1138 [.val (.ref b), .val (gR G c), .val (gR G o), .val (gR G w), .val (gI i), .unset, .unset, .unset] [] X7 M21 (cs + 1) (ss + 6))) ∧ (¬ M21 w (Int.toNat 0) = v19 → (K (.returned (some (gI 0))) X7 M21)))))))) ∧ (¬ v22 = v9 → (K (.returned (some (gI 0))) X7 M21))))))))))))))))))))) : wp l G y_Lw_law room_1 true K true 340 [.val (.ref b), .val (gR G c), .val (gR G o), .val (gR G w), .val (gI i), .unset, .unset, .unset] [] X M cs ss := by
  refine wp_aload_n d_Lw_law_340 rfl rfl (g_nz hX.1.1) ?_
  refine wp_oaload_n d_Lw_law_341 rfl rfl ?_
  refine wp_iload d_Lw_law_342 rfl ?_
  refine wp_iconst d_Lw_law_344 ?_
  refine wp_iadd d_Lw_law_345 ?_
  have q1 := T.1
  have T := T.2
  refine xoiald d_Lw_law_346 hscr rfl (g32_n q1 hLn) q1.1 q1.2 ?_
  refine wp_oaload_n d_Lw_law_347 rfl rfl ?_
  refine wp_iload d_Lw_law_348 rfl ?_
  refine wp_iconst d_Lw_law_350 ?_
  refine wp_iadd d_Lw_law_351 ?_
  have q2 := T.1
  have T := T.2
  refine xoiald d_Lw_law_352 hscr rfl (g32_n q2 hLn) q2.1 q2.2 ?_
  refine wp_oaload_n d_Lw_law_353 rfl rfl ?_
  refine wp_iload d_Lw_law_354 rfl ?_
  refine wp_iconst d_Lw_law_356 ?_
  refine wp_iadd d_Lw_law_357 ?_
  have q3 := T.1
  have T := T.2
  refine xoiald d_Lw_law_358 hscr rfl (g32_n q3 hLn) q3.1 q3.2 ?_
  refine wp_oaload_n d_Lw_law_359 rfl rfl ?_
  refine wp_iload d_Lw_law_360 rfl ?_
  refine wp_iconst d_Lw_law_362 ?_
  refine wp_iadd d_Lw_law_363 ?_
  have q4 := T.1
  have T := T.2
  refine xoiald d_Lw_law_364 hscr rfl (g32_n q4 hLn) q4.1 q4.2 ?_
  refine wp_oaload_n d_Lw_law_365 rfl rfl ?_
  refine wp_iload d_Lw_law_366 rfl ?_
  refine wp_iconst d_Lw_law_368 ?_
  refine wp_iadd d_Lw_law_369 ?_
  have q5 := T.1
  have T := T.2
  refine xoiald d_Lw_law_370 hscr rfl (g32_n q5 hLn) q5.1 q5.2 ?_
  refine wp_oaload_n d_Lw_law_371 rfl rfl ?_
  refine wp_iload d_Lw_law_372 rfl ?_
  refine wp_bipush d_Lw_law_374 ⟨by decide, by decide⟩ ?_
  refine wp_iadd d_Lw_law_376 ?_
  have q6 := T.1
  have T := T.2
  refine xoiald d_Lw_law_377 hscr rfl (g32_n q6 hLn) q6.1 q6.2 ?_
  refine wp_aload_n d_Lw_law_378 rfl rfl (g_nz hX.2.2.1) ?_
  refine wp_callH (z := y_Lw_fill) (tb := tb_Lw_fill) (n := 8) (rm' := gRr 700 1) (md' := true) (As := [gR G c, gI (xs (Int.toNat (w32 (i + 1)))), gI (xs (Int.toNat (w32 (i + 2)))), gI (xs (Int.toNat (w32 (i + 3)))), gI (xs (Int.toNat (w32 (i + 4)))), gI (xs (Int.toNat (w32 (i + 5)))), gI (xs (Int.toNat (w32 (i + 6)))), gR G w]) (st := []) d_Lw_law_379 cw_Lw_fill ii_Lw ⟨by decide, by decide⟩ (by decide +kernel) ml_Lw_85 sm_Lw_fill T (fun o X' M' h => by obtain ⟨w1, h1, -⟩ := h; exact ⟨_, h1⟩) (fun _ => rfl) (fun _ => rfl) rfl (g_rm2 _ (by decide)) (by decide) hk rfl (fun v0 X7 M8 h => ?_)
  obtain ⟨v9, e1, h10, hX11, T⟩ := h
  cases e1
  refine wp_st (st' := [gI v9]) rfl ?_
  refine wp_istore (L' := [.val (.ref b), .val (gR G c), .val (gR G o), .val (gR G w), .val (gI i), .val (gI v9), .unset, .unset]) d_Lw_law_382 (by decide) rfl ?_
  refine wp_aload_n d_Lw_law_384 rfl rfl (g_nz hX11.2.1.1) ?_
  refine wp_oaload_n d_Lw_law_385 rfl rfl ?_
  refine wp_iload d_Lw_law_386 rfl ?_
  refine wp_iconst d_Lw_law_388 ?_
  refine wp_iadd d_Lw_law_389 ?_
  have q12 := T.1
  have T := T.2
  refine xoiald d_Lw_law_390 hscr rfl (g32_n q12 hLn) q12.1 q12.2 ?_
  refine wp_oaload_n d_Lw_law_391 rfl rfl ?_
  refine wp_iload d_Lw_law_392 rfl ?_
  refine wp_iconst d_Lw_law_394 ?_
  refine wp_iadd d_Lw_law_395 ?_
  have q13 := T.1
  have T := T.2
  refine xoiald d_Lw_law_396 hscr rfl (g32_n q13 hLn) q13.1 q13.2 ?_
  refine wp_oaload_n d_Lw_law_397 rfl rfl ?_
  refine wp_iload d_Lw_law_398 rfl ?_
  refine wp_iconst d_Lw_law_400 ?_
  refine wp_iadd d_Lw_law_401 ?_
  have q14 := T.1
  have T := T.2
  refine xoiald d_Lw_law_402 hscr rfl (g32_n q14 hLn) q14.1 q14.2 ?_
  refine wp_oaload_n d_Lw_law_403 rfl rfl ?_
  refine wp_iload d_Lw_law_404 rfl ?_
  refine wp_iconst d_Lw_law_406 ?_
  refine wp_iadd d_Lw_law_407 ?_
  have q15 := T.1
  have T := T.2
  refine xoiald d_Lw_law_408 hscr rfl (g32_n q15 hLn) q15.1 q15.2 ?_
  refine wp_oaload_n d_Lw_law_409 rfl rfl ?_
  refine wp_iload d_Lw_law_410 rfl ?_
  refine wp_iconst d_Lw_law_412 ?_
  refine wp_iadd d_Lw_law_413 ?_
  have q16 := T.1
  have T := T.2
  refine xoiald d_Lw_law_414 hscr rfl (g32_n q16 hLn) q16.1 q16.2 ?_
  refine wp_oaload_n d_Lw_law_415 rfl rfl ?_
  refine wp_iload d_Lw_law_416 rfl ?_
  refine wp_bipush d_Lw_law_418 ⟨by decide, by decide⟩ ?_
  refine wp_iadd d_Lw_law_420 ?_
  have q17 := T.1
  have T := T.2
  refine xoiald d_Lw_law_421 hscr rfl (g32_n q17 hLn) q17.1 q17.2 ?_
  refine zcV_I ⟨hk.1, hk.2⟩ (md' := true) (As := [gI (xs (Int.toNat (w32 (i + 1)))), gI (xs (Int.toNat (w32 (i + 2)))), gI (xs (Int.toNat (w32 (i + 3)))), gI (xs (Int.toNat (w32 (i + 4)))), gI (xs (Int.toNat (w32 (i + 5)))), gI (xs (Int.toNat (w32 (i + 6))))]) (st := []) d_Lw_law_422 ca_GM_fill ml_Lw_88 im_GM_fill se_GM_fill gc_GM hX11.2.1.1 (gm_o2 hX11.2.1) hX11.2.1.2.2.1 rfl (by decide) (by decide) rfl (fun _ => rfl) (fun _ => rfl) T (fun v19 M18 h20 T => ?_)
  refine wp_istore (L' := [.val (.ref b), .val (gR G c), .val (gR G o), .val (gR G w), .val (gI i), .val (gI v9), .val (gI v19), .unset]) d_Lw_law_425 (by decide) rfl ?_
  refine wp_aload_n d_Lw_law_427 rfl rfl (g_nz hX11.2.1.1) ?_
  refine zcV_I ⟨hk.1, hk.2⟩ (md' := true) (As := []) (st := []) d_Lw_law_428 ca_GM_thrown ml_Lw_74 im_GM_thrown se_GM_thrown gc_GM hX11.2.1.1 (gm_o2 hX11.2.1) hX11.2.1.2.2.1 rfl (by decide) (by decide) rfl (fun _ => rfl) (fun _ => rfl) T (fun v22 M21 h23 T => ?_)
  refine wp_iload d_Lw_law_431 rfl ?_
  refine xi_eq (tgt := 438) d_Lw_law_433 (by decide) (w32_id h23) (w32_id h10) (fun h27 => ?_) (fun h27 => ?_)
  · have T := T.1 h27
    refine wp_iload d_Lw_law_438 rfl ?_
    refine xz_ne (tgt := 455) d_Lw_law_440 (by decide) (w32_id h10) (fun h26 => ?_) (fun h26 => ?_)
    · have T := T.1 h26
      refine wp_goto (tgt := 1138) d_Lw_law_455 (by decide) ?_
      exact wp_md (wpt T (And.intro rfl (And.intro rfl (And.intro rfl (And.intro rfl (And.intro rfl True.intro))))))
    · have T := T.2 h26
      refine wp_aload_n d_Lw_law_443 rfl rfl (g_nz hX11.2.2.1) ?_
      refine wp_iconst d_Lw_law_444 ?_
      refine wp_laload d_Lw_law_445 hX11.2.2.1 hX11.2.2.2.1 hX11.2.2.2.2 (g32_n T.1 (by decide)) T.1.1 T.1.2 (fun h24 => ?_)
      have T := T.2 h24
      refine wp_iload d_Lw_law_446 rfl ?_
      refine xi2l d_Lw_law_448 (w32_id h20) ?_
      refine xl_eq (tgt := 455) d_Lw_law_449 d_Lw_law_450 (by decide) (w64_id h24) (w64_id (g64_32 h20)) (fun h25 => ?_) (fun h25 => ?_)
      · have T := T.1 h25
        refine wp_goto (tgt := 1138) d_Lw_law_455 (by decide) ?_
        exact wp_md (wpt T (And.intro rfl (And.intro rfl (And.intro rfl (And.intro rfl (And.intro rfl True.intro))))))
      · have T := T.2 h25
        refine wp_iconst d_Lw_law_453 ?_
        exact wp_zreturn d_Lw_law_454 rfl (g_narz (⟨by decide, by decide⟩ : (0 : Int) ≤ 0 ∧ (0 : Int) ≤ 1)) (fun _ => rfl) hk.1 hk.2 T
  · have T := T.2 h27
    refine wp_iconst d_Lw_law_436 ?_
    exact wp_zreturn d_Lw_law_437 rfl (g_narz (⟨by decide, by decide⟩ : (0 : Int) ≤ 0 ∧ (0 : Int) ≤ 1)) (fun _ => rfl) hk.1 hk.2 T
set_option maxRecDepth 100000 in
set_option maxHeartbeats 16000000 in
theorem w_Lw_law_458 {l : Launch} {G : gG} {X : gX} {M : gM} {K : Outcome → gX → gM → Prop} {cs ss : Nat} {b Ls : Nat} {xs : Nat → Int} (hscr : ∀ U, gSP G U → va_T .int b Ls (fun j => gI (xs j)) (gA G true) U U.heap) (hLs : g32 (Ls : Int)) (hLn : Ls ≤ 2147483648) (hxs : ∀ j, g32 (xs j)) {c o w : Nat} (hX : gLw X c o w) (hk : cs + 1 ≤ room_1.cells ∧ ss + 6 ≤ room_1.slots) {i : Int} (hi : g32 i) (T : ((0 : Int) ≤ (w32 (i + 1)) ∧ (w32 (i + 1)) < (Ls : Int)) ∧ ((xs (Int.toNat (w32 (i + 1))) = 0 → (((0 : Int) ≤ (w32 (i + 2)) ∧ (w32 (i + 2)) < (Ls : Int)) ∧ (((0 : Int) ≤ (w32 (i + 3)) ∧ (w32 (i + 3)) < (Ls : Int)) ∧ (gCh l G y_Lw_insert tb_Lw_insert (gRr 700 1) true [gR G c, gI 0, gI (xs (Int.toNat (w32 (i + 2)))), gI (xs (Int.toNat (w32 (i + 3)))), gR G w] X M (fun o1 X4 M5 => ∃ v6, o1 = .returned (some (gI v6)) ∧ g32 v6 ∧ gLw X4 c o w ∧ (((0 : Int) ≤ (w32 (i + 1)) ∧ (w32 (i + 1)) < (Ls : Int)) ∧ ((xs (Int.toNat (w32 (i + 1))) = 0 → (((0 : Int) ≤ (w32 (i + 2)) ∧ (w32 (i + 2)) < (Ls : Int)) ∧ (((0 : Int) ≤ (w32 (i + 3)) ∧ (w32 (i + 3)) < (Ls : Int)) ∧ (cI l G y_GM_insert (gRm 700) true [gR G o, gI 0, gI (xs (Int.toNat (w32 (i + 2)))), gI (xs (Int.toNat (w32 (i + 3))))] X4 M5 (fun v13 M12 => (cI l G y_GM_thrown (gRm 700) false [gR G o] X4 M12 (fun v16 M15 => ((v16 = v6 → ((¬ v6 = 0 → (wp l G y_Lw_law room_1 true K true 1138 [.val (.ref b), .val (gR G c), .val (gR G o), .val (gR G w), .val (gI i), .unset, .unset, .unset] [] X4 M15 (cs + 1) (ss + 6))) ∧ (v6 = 0 → (((0 : Int) ≤ (0 : Int) ∧ (0 : Int) < 1) ∧ (g64 (M15 w (Int.toNat 0)) → ((M15 w (Int.toNat 0) = v13 → (wp l G y_Lw_law room_1 true K true 1138 [.val (.ref b), .val (gR G c), .val (gR G o), .val (gR G w), .val (gI i), .unset, .unset, .unset] [] X4 M15 (cs + 1) (ss + 6))) ∧ (¬ M15 w (Int.toNat 0) = v13 → (K (.returned (some (gI 0))) X4 M15)))))))) ∧ (¬ v16 = v6 → (K (.returned (some (gI 0))) X4 M15)))))))))) ∧ (¬ xs (Int.toNat (w32 (i + 1))) = 0 → (((0 : Int) ≤ (w32 (i + 2)) ∧ (w32 (i + 2)) < (Ls : Int)) ∧ (((0 : Int) ≤ (w32 (i + 3)) ∧ (w32 (i + 3)) < (Ls : Int)) ∧ (cI l G y_GM_insert (gRm 700) true [gR G o, gI 1, gI (xs (Int.toNat (w32 (i + 2)))), gI (xs (Int.toNat (w32 (i + 3))))] X4 M5 (fun v25 M24 => (cI l G y_GM_thrown (gRm 700) false [gR G o] X4 M24 (fun v28 M27 => ((v28 = v6 → ((¬ v6 = 0 → (wp l G y_Lw_law room_1 true K true 1138 [.val (.ref b), .val (gR G c), .val (gR G o), .val (gR G w), .val (gI i), .unset, .unset, .unset] [] X4 M27 (cs + 1) (ss + 6))) ∧ (v6 = 0 → (((0 : Int) ≤ (0 : Int) ∧ (0 : Int) < 1) ∧ (g64 (M27 w (Int.toNat 0)) → ((M27 w (Int.toNat 0) = v25 → (wp l G y_Lw_law room_1 true K true 1138 [.val (.ref b), .val (gR G c), .val (gR G o), .val (gR G w), .val (gI i), .unset, .unset, .unset] [] X4 M27 (cs + 1) (ss + 6))) ∧ (¬ M27 w (Int.toNat 0) = v25 → (K (.returned (some (gI 0))) X4 M27)))))))) ∧ (¬ v28 = v6 → (K (.returned (some (gI 0))) X4 M27))))))))))))))))) ∧ (¬ xs (Int.toNat (w32 (i + 1))) = 0 → (((0 : Int) ≤ (w32 (i + 2)) ∧ (w32 (i + 2)) < (Ls : Int)) ∧ (((0 : Int) ≤ (w32 (i + 3)) ∧ (w32 (i + 3)) < (Ls : Int)) ∧ (gCh l G y_Lw_insert tb_Lw_insert (gRr 700 1) true [gR G c, gI 1, gI (xs (Int.toNat (w32 (i + 2)))), gI (xs (Int.toNat (w32 (i + 3)))), gR G w] X M (fun o1 X37 M38 => ∃ v39, o1 = .returned (some (gI v39)) ∧ g32 v39 ∧ gLw X37 c o w ∧ (((0 : Int) ≤ (w32 (i + 1)) ∧ (w32 (i + 1)) < (Ls : Int)) ∧ ((xs (Int.toNat (w32 (i + 1))) = 0 → (((0 : Int) ≤ (w32 (i + 2)) ∧ (w32 (i + 2)) < (Ls : Int)) ∧ (((0 : Int) ≤ (w32 (i + 3)) ∧ (w32 (i + 3)) < (Ls : Int)) ∧ (cI l G y_GM_insert (gRm 700) true [gR G o, gI 0, gI (xs (Int.toNat (w32 (i + 2)))), gI (xs (Int.toNat (w32 (i + 3))))] X37 M38 (fun v46 M45 => (cI l G y_GM_thrown (gRm 700) false [gR G o] X37 M45 (fun v49 M48 => ((v49 = v39 → ((¬ v39 = 0 → (wp l G y_Lw_law room_1 true K true 1138 [.val (.ref b), .val (gR G c), .val (gR G o), .val (gR G w), .val (gI i), .unset, .unset, .unset] [] X37 M48 (cs + 1) (ss + 6))) ∧ (v39 = 0 → (((0 : Int) ≤ (0 : Int) ∧ (0 : Int) < 1) ∧ (g64 (M48 w (Int.toNat 0)) → ((M48 w (Int.toNat 0) = v46 → (wp l G y_Lw_law room_1 true K true 1138 [.val (.ref b), .val (gR G c), .val (gR G o), .val (gR G w), .val (gI i), .unset, .unset, .unset] [] X37 M48 (cs + 1) (ss + 6))) ∧ (¬ M48 w (Int.toNat 0) = v46 → (K (.returned (some (gI 0))) X37 M48)))))))) ∧ (¬ v49 = v39 → (K (.returned (some (gI 0))) X37 M48)))))))))) ∧ (¬ xs (Int.toNat (w32 (i + 1))) = 0 → (((0 : Int) ≤ (w32 (i + 2)) ∧ (w32 (i + 2)) < (Ls : Int)) ∧ (((0 : Int) ≤ (w32 (i + 3)) ∧ (w32 (i + 3)) < (Ls : Int)) ∧ (cI l G y_GM_insert (gRm 700) true [gR G o, gI 1, gI (xs (Int.toNat (w32 (i + 2)))), gI (xs (Int.toNat (w32 (i + 3))))] X37 M38 (fun v58 M57 => (cI l G y_GM_thrown (gRm 700) false [gR G o] X37 M57 (fun v61 M60 => ((v61 = v39 → ((¬ v39 = 0 → (wp l G y_Lw_law room_1 true K true 1138 [.val (.ref b), .val (gR G c), .val (gR G o), .val (gR G w), .val (gI i), .unset, .unset, .unset] [] X37 M60 (cs + 1) (ss + 6))) ∧ (v39 = 0 → (((0 : Int) ≤ (0 : Int) ∧ (0 : Int) < 1) ∧ (g64 (M60 w (Int.toNat 0)) → ((M60 w (Int.toNat 0) = v58 → (wp l G y_Lw_law room_1 true K true 1138 [.val (.ref b), .val (gR G c), .val (gR G o), .val (gR G w), .val (gI i), .unset, .unset, .unset] [] X37 M60 (cs + 1) (ss + 6))) ∧ (¬ M60 w (Int.toNat 0) = v58 → (K (.returned (some (gI 0))) X37 M60)))))))) ∧ (¬ v61 = v39 → (K (.returned (some (gI 0))) X37 M60))))))))))))))))))) : wp l G y_Lw_law room_1 true K true 458 [.val (.ref b), .val (gR G c), .val (gR G o), .val (gR G w), .val (gI i), .unset, .unset, .unset] [] X M cs ss := by
  refine wp_aload_n d_Lw_law_458 rfl rfl (g_nz hX.1.1) ?_
  refine wp_oaload_n d_Lw_law_459 rfl rfl ?_
  refine wp_iload d_Lw_law_460 rfl ?_
  refine wp_iconst d_Lw_law_462 ?_
  refine wp_iadd d_Lw_law_463 ?_
  have q1 := T.1
  have T := T.2
  refine xoiald d_Lw_law_464 hscr rfl (g32_n q1 hLn) q1.1 q1.2 ?_
  refine xz_eq (tgt := 472) d_Lw_law_465 (by decide) (w32_id (hxs _)) (fun h68 => ?_) (fun h68 => ?_)
  · have T := T.1 h68
    refine wp_iconst d_Lw_law_472 ?_
    refine wp_oaload_n d_Lw_law_473 rfl rfl ?_
    refine wp_iload d_Lw_law_474 rfl ?_
    refine wp_iconst d_Lw_law_476 ?_
    refine wp_iadd d_Lw_law_477 ?_
    have q2 := T.1
    have T := T.2
    refine xoiald d_Lw_law_478 hscr rfl (g32_n q2 hLn) q2.1 q2.2 ?_
    refine wp_oaload_n d_Lw_law_479 rfl rfl ?_
    refine wp_iload d_Lw_law_480 rfl ?_
    refine wp_iconst d_Lw_law_482 ?_
    refine wp_iadd d_Lw_law_483 ?_
    have q3 := T.1
    have T := T.2
    refine xoiald d_Lw_law_484 hscr rfl (g32_n q3 hLn) q3.1 q3.2 ?_
    refine wp_aload_n d_Lw_law_485 rfl rfl (g_nz hX.2.2.1) ?_
    refine wp_callH (z := y_Lw_insert) (tb := tb_Lw_insert) (n := 5) (rm' := gRr 700 1) (md' := true) (As := [gR G c, gI 0, gI (xs (Int.toNat (w32 (i + 2)))), gI (xs (Int.toNat (w32 (i + 3)))), gR G w]) (st := []) d_Lw_law_486 cw_Lw_insert ii_Lw ⟨by decide, by decide⟩ (by decide +kernel) ml_Lw_89 sm_Lw_insert T (fun o X' M' h => by obtain ⟨w1, h1, -⟩ := h; exact ⟨_, h1⟩) (fun _ => rfl) (fun _ => rfl) rfl (g_rm2 _ (by decide)) (by decide) hk rfl (fun v0 X4 M5 h => ?_)
    obtain ⟨v6, e1, h7, hX8, T⟩ := h
    cases e1
    refine wp_st (st' := [gI v6]) rfl ?_
    refine wp_istore (L' := [.val (.ref b), .val (gR G c), .val (gR G o), .val (gR G w), .val (gI i), .val (gI v6), .unset, .unset]) d_Lw_law_489 (by decide) rfl ?_
    refine wp_aload_n d_Lw_law_491 rfl rfl (g_nz hX8.2.1.1) ?_
    refine wp_oaload_n d_Lw_law_492 rfl rfl ?_
    refine wp_iload d_Lw_law_493 rfl ?_
    refine wp_iconst d_Lw_law_495 ?_
    refine wp_iadd d_Lw_law_496 ?_
    have q9 := T.1
    have T := T.2
    refine xoiald d_Lw_law_497 hscr rfl (g32_n q9 hLn) q9.1 q9.2 ?_
    refine xz_eq (tgt := 505) d_Lw_law_498 (by decide) (w32_id (hxs _)) (fun h34 => ?_) (fun h34 => ?_)
    · have T := T.1 h34
      refine wp_iconst d_Lw_law_505 ?_
      refine wp_oaload_n d_Lw_law_506 rfl rfl ?_
      refine wp_iload d_Lw_law_507 rfl ?_
      refine wp_iconst d_Lw_law_509 ?_
      refine wp_iadd d_Lw_law_510 ?_
      have q10 := T.1
      have T := T.2
      refine xoiald d_Lw_law_511 hscr rfl (g32_n q10 hLn) q10.1 q10.2 ?_
      refine wp_oaload_n d_Lw_law_512 rfl rfl ?_
      refine wp_iload d_Lw_law_513 rfl ?_
      refine wp_iconst d_Lw_law_515 ?_
      refine wp_iadd d_Lw_law_516 ?_
      have q11 := T.1
      have T := T.2
      refine xoiald d_Lw_law_517 hscr rfl (g32_n q11 hLn) q11.1 q11.2 ?_
      refine zcV_I ⟨hk.1, hk.2⟩ (md' := true) (As := [gI 0, gI (xs (Int.toNat (w32 (i + 2)))), gI (xs (Int.toNat (w32 (i + 3))))]) (st := []) d_Lw_law_518 ca_GM_insert ml_Lw_92 im_GM_insert se_GM_insert gc_GM hX8.2.1.1 (gm_o2 hX8.2.1) hX8.2.1.2.2.1 rfl (by decide) (by decide) rfl (fun _ => rfl) (fun _ => rfl) T (fun v13 M12 h14 T => ?_)
      refine wp_istore (L' := [.val (.ref b), .val (gR G c), .val (gR G o), .val (gR G w), .val (gI i), .val (gI v6), .val (gI v13), .unset]) d_Lw_law_521 (by decide) rfl ?_
      refine wp_aload_n d_Lw_law_523 rfl rfl (g_nz hX8.2.1.1) ?_
      refine zcV_I ⟨hk.1, hk.2⟩ (md' := true) (As := []) (st := []) d_Lw_law_524 ca_GM_thrown ml_Lw_74 im_GM_thrown se_GM_thrown gc_GM hX8.2.1.1 (gm_o2 hX8.2.1) hX8.2.1.2.2.1 rfl (by decide) (by decide) rfl (fun _ => rfl) (fun _ => rfl) T (fun v16 M15 h17 T => ?_)
      refine wp_iload d_Lw_law_527 rfl ?_
      refine xi_eq (tgt := 534) d_Lw_law_529 (by decide) (w32_id h17) (w32_id h7) (fun h21 => ?_) (fun h21 => ?_)
      · have T := T.1 h21
        refine wp_iload d_Lw_law_534 rfl ?_
        refine xz_ne (tgt := 551) d_Lw_law_536 (by decide) (w32_id h7) (fun h20 => ?_) (fun h20 => ?_)
        · have T := T.1 h20
          refine wp_goto (tgt := 1138) d_Lw_law_551 (by decide) ?_
          exact wp_md (wpt T (And.intro rfl (And.intro rfl (And.intro rfl (And.intro rfl (And.intro rfl True.intro))))))
        · have T := T.2 h20
          refine wp_aload_n d_Lw_law_539 rfl rfl (g_nz hX8.2.2.1) ?_
          refine wp_iconst d_Lw_law_540 ?_
          refine wp_laload d_Lw_law_541 hX8.2.2.1 hX8.2.2.2.1 hX8.2.2.2.2 (g32_n T.1 (by decide)) T.1.1 T.1.2 (fun h18 => ?_)
          have T := T.2 h18
          refine wp_iload d_Lw_law_542 rfl ?_
          refine xi2l d_Lw_law_544 (w32_id h14) ?_
          refine xl_eq (tgt := 551) d_Lw_law_545 d_Lw_law_546 (by decide) (w64_id h18) (w64_id (g64_32 h14)) (fun h19 => ?_) (fun h19 => ?_)
          · have T := T.1 h19
            refine wp_goto (tgt := 1138) d_Lw_law_551 (by decide) ?_
            exact wp_md (wpt T (And.intro rfl (And.intro rfl (And.intro rfl (And.intro rfl (And.intro rfl True.intro))))))
          · have T := T.2 h19
            refine wp_iconst d_Lw_law_549 ?_
            exact wp_zreturn d_Lw_law_550 rfl (g_narz (⟨by decide, by decide⟩ : (0 : Int) ≤ 0 ∧ (0 : Int) ≤ 1)) (fun _ => rfl) hk.1 hk.2 T
      · have T := T.2 h21
        refine wp_iconst d_Lw_law_532 ?_
        exact wp_zreturn d_Lw_law_533 rfl (g_narz (⟨by decide, by decide⟩ : (0 : Int) ≤ 0 ∧ (0 : Int) ≤ 1)) (fun _ => rfl) hk.1 hk.2 T
    · have T := T.2 h34
      refine wp_iconst d_Lw_law_501 ?_
      refine wp_goto (tgt := 506) d_Lw_law_502 (by decide) ?_
      refine wp_oaload_n d_Lw_law_506 rfl rfl ?_
      refine wp_iload d_Lw_law_507 rfl ?_
      refine wp_iconst d_Lw_law_509 ?_
      refine wp_iadd d_Lw_law_510 ?_
      have q22 := T.1
      have T := T.2
      refine xoiald d_Lw_law_511 hscr rfl (g32_n q22 hLn) q22.1 q22.2 ?_
      refine wp_oaload_n d_Lw_law_512 rfl rfl ?_
      refine wp_iload d_Lw_law_513 rfl ?_
      refine wp_iconst d_Lw_law_515 ?_
      refine wp_iadd d_Lw_law_516 ?_
      have q23 := T.1
      have T := T.2
      refine xoiald d_Lw_law_517 hscr rfl (g32_n q23 hLn) q23.1 q23.2 ?_
      refine zcV_I ⟨hk.1, hk.2⟩ (md' := true) (As := [gI 1, gI (xs (Int.toNat (w32 (i + 2)))), gI (xs (Int.toNat (w32 (i + 3))))]) (st := []) d_Lw_law_518 ca_GM_insert ml_Lw_92 im_GM_insert se_GM_insert gc_GM hX8.2.1.1 (gm_o2 hX8.2.1) hX8.2.1.2.2.1 rfl (by decide) (by decide) rfl (fun _ => rfl) (fun _ => rfl) T (fun v25 M24 h26 T => ?_)
      refine wp_istore (L' := [.val (.ref b), .val (gR G c), .val (gR G o), .val (gR G w), .val (gI i), .val (gI v6), .val (gI v25), .unset]) d_Lw_law_521 (by decide) rfl ?_
      refine wp_aload_n d_Lw_law_523 rfl rfl (g_nz hX8.2.1.1) ?_
      refine zcV_I ⟨hk.1, hk.2⟩ (md' := true) (As := []) (st := []) d_Lw_law_524 ca_GM_thrown ml_Lw_74 im_GM_thrown se_GM_thrown gc_GM hX8.2.1.1 (gm_o2 hX8.2.1) hX8.2.1.2.2.1 rfl (by decide) (by decide) rfl (fun _ => rfl) (fun _ => rfl) T (fun v28 M27 h29 T => ?_)
      refine wp_iload d_Lw_law_527 rfl ?_
      refine xi_eq (tgt := 534) d_Lw_law_529 (by decide) (w32_id h29) (w32_id h7) (fun h33 => ?_) (fun h33 => ?_)
      · have T := T.1 h33
        refine wp_iload d_Lw_law_534 rfl ?_
        refine xz_ne (tgt := 551) d_Lw_law_536 (by decide) (w32_id h7) (fun h32 => ?_) (fun h32 => ?_)
        · have T := T.1 h32
          refine wp_goto (tgt := 1138) d_Lw_law_551 (by decide) ?_
          exact wp_md (wpt T (And.intro rfl (And.intro rfl (And.intro rfl (And.intro rfl (And.intro rfl True.intro))))))
        · have T := T.2 h32
          refine wp_aload_n d_Lw_law_539 rfl rfl (g_nz hX8.2.2.1) ?_
          refine wp_iconst d_Lw_law_540 ?_
          refine wp_laload d_Lw_law_541 hX8.2.2.1 hX8.2.2.2.1 hX8.2.2.2.2 (g32_n T.1 (by decide)) T.1.1 T.1.2 (fun h30 => ?_)
          have T := T.2 h30
          refine wp_iload d_Lw_law_542 rfl ?_
          refine xi2l d_Lw_law_544 (w32_id h26) ?_
          refine xl_eq (tgt := 551) d_Lw_law_545 d_Lw_law_546 (by decide) (w64_id h30) (w64_id (g64_32 h26)) (fun h31 => ?_) (fun h31 => ?_)
          · have T := T.1 h31
            refine wp_goto (tgt := 1138) d_Lw_law_551 (by decide) ?_
            exact wp_md (wpt T (And.intro rfl (And.intro rfl (And.intro rfl (And.intro rfl (And.intro rfl True.intro))))))
          · have T := T.2 h31
            refine wp_iconst d_Lw_law_549 ?_
            exact wp_zreturn d_Lw_law_550 rfl (g_narz (⟨by decide, by decide⟩ : (0 : Int) ≤ 0 ∧ (0 : Int) ≤ 1)) (fun _ => rfl) hk.1 hk.2 T
      · have T := T.2 h33
        refine wp_iconst d_Lw_law_532 ?_
        exact wp_zreturn d_Lw_law_533 rfl (g_narz (⟨by decide, by decide⟩ : (0 : Int) ≤ 0 ∧ (0 : Int) ≤ 1)) (fun _ => rfl) hk.1 hk.2 T
  · have T := T.2 h68
    refine wp_iconst d_Lw_law_468 ?_
    refine wp_goto (tgt := 473) d_Lw_law_469 (by decide) ?_
    refine wp_oaload_n d_Lw_law_473 rfl rfl ?_
    refine wp_iload d_Lw_law_474 rfl ?_
    refine wp_iconst d_Lw_law_476 ?_
    refine wp_iadd d_Lw_law_477 ?_
    have q35 := T.1
    have T := T.2
    refine xoiald d_Lw_law_478 hscr rfl (g32_n q35 hLn) q35.1 q35.2 ?_
    refine wp_oaload_n d_Lw_law_479 rfl rfl ?_
    refine wp_iload d_Lw_law_480 rfl ?_
    refine wp_iconst d_Lw_law_482 ?_
    refine wp_iadd d_Lw_law_483 ?_
    have q36 := T.1
    have T := T.2
    refine xoiald d_Lw_law_484 hscr rfl (g32_n q36 hLn) q36.1 q36.2 ?_
    refine wp_aload_n d_Lw_law_485 rfl rfl (g_nz hX.2.2.1) ?_
    refine wp_callH (z := y_Lw_insert) (tb := tb_Lw_insert) (n := 5) (rm' := gRr 700 1) (md' := true) (As := [gR G c, gI 1, gI (xs (Int.toNat (w32 (i + 2)))), gI (xs (Int.toNat (w32 (i + 3)))), gR G w]) (st := []) d_Lw_law_486 cw_Lw_insert ii_Lw ⟨by decide, by decide⟩ (by decide +kernel) ml_Lw_89 sm_Lw_insert T (fun o X' M' h => by obtain ⟨w1, h1, -⟩ := h; exact ⟨_, h1⟩) (fun _ => rfl) (fun _ => rfl) rfl (g_rm2 _ (by decide)) (by decide) hk rfl (fun v0 X37 M38 h => ?_)
    obtain ⟨v39, e1, h40, hX41, T⟩ := h
    cases e1
    refine wp_st (st' := [gI v39]) rfl ?_
    refine wp_istore (L' := [.val (.ref b), .val (gR G c), .val (gR G o), .val (gR G w), .val (gI i), .val (gI v39), .unset, .unset]) d_Lw_law_489 (by decide) rfl ?_
    refine wp_aload_n d_Lw_law_491 rfl rfl (g_nz hX41.2.1.1) ?_
    refine wp_oaload_n d_Lw_law_492 rfl rfl ?_
    refine wp_iload d_Lw_law_493 rfl ?_
    refine wp_iconst d_Lw_law_495 ?_
    refine wp_iadd d_Lw_law_496 ?_
    have q42 := T.1
    have T := T.2
    refine xoiald d_Lw_law_497 hscr rfl (g32_n q42 hLn) q42.1 q42.2 ?_
    refine xz_eq (tgt := 505) d_Lw_law_498 (by decide) (w32_id (hxs _)) (fun h67 => ?_) (fun h67 => ?_)
    · have T := T.1 h67
      refine wp_iconst d_Lw_law_505 ?_
      refine wp_oaload_n d_Lw_law_506 rfl rfl ?_
      refine wp_iload d_Lw_law_507 rfl ?_
      refine wp_iconst d_Lw_law_509 ?_
      refine wp_iadd d_Lw_law_510 ?_
      have q43 := T.1
      have T := T.2
      refine xoiald d_Lw_law_511 hscr rfl (g32_n q43 hLn) q43.1 q43.2 ?_
      refine wp_oaload_n d_Lw_law_512 rfl rfl ?_
      refine wp_iload d_Lw_law_513 rfl ?_
      refine wp_iconst d_Lw_law_515 ?_
      refine wp_iadd d_Lw_law_516 ?_
      have q44 := T.1
      have T := T.2
      refine xoiald d_Lw_law_517 hscr rfl (g32_n q44 hLn) q44.1 q44.2 ?_
      refine zcV_I ⟨hk.1, hk.2⟩ (md' := true) (As := [gI 0, gI (xs (Int.toNat (w32 (i + 2)))), gI (xs (Int.toNat (w32 (i + 3))))]) (st := []) d_Lw_law_518 ca_GM_insert ml_Lw_92 im_GM_insert se_GM_insert gc_GM hX41.2.1.1 (gm_o2 hX41.2.1) hX41.2.1.2.2.1 rfl (by decide) (by decide) rfl (fun _ => rfl) (fun _ => rfl) T (fun v46 M45 h47 T => ?_)
      refine wp_istore (L' := [.val (.ref b), .val (gR G c), .val (gR G o), .val (gR G w), .val (gI i), .val (gI v39), .val (gI v46), .unset]) d_Lw_law_521 (by decide) rfl ?_
      refine wp_aload_n d_Lw_law_523 rfl rfl (g_nz hX41.2.1.1) ?_
      refine zcV_I ⟨hk.1, hk.2⟩ (md' := true) (As := []) (st := []) d_Lw_law_524 ca_GM_thrown ml_Lw_74 im_GM_thrown se_GM_thrown gc_GM hX41.2.1.1 (gm_o2 hX41.2.1) hX41.2.1.2.2.1 rfl (by decide) (by decide) rfl (fun _ => rfl) (fun _ => rfl) T (fun v49 M48 h50 T => ?_)
      refine wp_iload d_Lw_law_527 rfl ?_
      refine xi_eq (tgt := 534) d_Lw_law_529 (by decide) (w32_id h50) (w32_id h40) (fun h54 => ?_) (fun h54 => ?_)
      · have T := T.1 h54
        refine wp_iload d_Lw_law_534 rfl ?_
        refine xz_ne (tgt := 551) d_Lw_law_536 (by decide) (w32_id h40) (fun h53 => ?_) (fun h53 => ?_)
        · have T := T.1 h53
          refine wp_goto (tgt := 1138) d_Lw_law_551 (by decide) ?_
          exact wp_md (wpt T (And.intro rfl (And.intro rfl (And.intro rfl (And.intro rfl (And.intro rfl True.intro))))))
        · have T := T.2 h53
          refine wp_aload_n d_Lw_law_539 rfl rfl (g_nz hX41.2.2.1) ?_
          refine wp_iconst d_Lw_law_540 ?_
          refine wp_laload d_Lw_law_541 hX41.2.2.1 hX41.2.2.2.1 hX41.2.2.2.2 (g32_n T.1 (by decide)) T.1.1 T.1.2 (fun h51 => ?_)
          have T := T.2 h51
          refine wp_iload d_Lw_law_542 rfl ?_
          refine xi2l d_Lw_law_544 (w32_id h47) ?_
          refine xl_eq (tgt := 551) d_Lw_law_545 d_Lw_law_546 (by decide) (w64_id h51) (w64_id (g64_32 h47)) (fun h52 => ?_) (fun h52 => ?_)
          · have T := T.1 h52
            refine wp_goto (tgt := 1138) d_Lw_law_551 (by decide) ?_
            exact wp_md (wpt T (And.intro rfl (And.intro rfl (And.intro rfl (And.intro rfl (And.intro rfl True.intro))))))
          · have T := T.2 h52
            refine wp_iconst d_Lw_law_549 ?_
            exact wp_zreturn d_Lw_law_550 rfl (g_narz (⟨by decide, by decide⟩ : (0 : Int) ≤ 0 ∧ (0 : Int) ≤ 1)) (fun _ => rfl) hk.1 hk.2 T
      · have T := T.2 h54
        refine wp_iconst d_Lw_law_532 ?_
        exact wp_zreturn d_Lw_law_533 rfl (g_narz (⟨by decide, by decide⟩ : (0 : Int) ≤ 0 ∧ (0 : Int) ≤ 1)) (fun _ => rfl) hk.1 hk.2 T
    · have T := T.2 h67
      refine wp_iconst d_Lw_law_501 ?_
      refine wp_goto (tgt := 506) d_Lw_law_502 (by decide) ?_
      refine wp_oaload_n d_Lw_law_506 rfl rfl ?_
      refine wp_iload d_Lw_law_507 rfl ?_
      refine wp_iconst d_Lw_law_509 ?_
      refine wp_iadd d_Lw_law_510 ?_
      have q55 := T.1
      have T := T.2
      refine xoiald d_Lw_law_511 hscr rfl (g32_n q55 hLn) q55.1 q55.2 ?_
      refine wp_oaload_n d_Lw_law_512 rfl rfl ?_
      refine wp_iload d_Lw_law_513 rfl ?_
      refine wp_iconst d_Lw_law_515 ?_
      refine wp_iadd d_Lw_law_516 ?_
      have q56 := T.1
      have T := T.2
      refine xoiald d_Lw_law_517 hscr rfl (g32_n q56 hLn) q56.1 q56.2 ?_
      refine zcV_I ⟨hk.1, hk.2⟩ (md' := true) (As := [gI 1, gI (xs (Int.toNat (w32 (i + 2)))), gI (xs (Int.toNat (w32 (i + 3))))]) (st := []) d_Lw_law_518 ca_GM_insert ml_Lw_92 im_GM_insert se_GM_insert gc_GM hX41.2.1.1 (gm_o2 hX41.2.1) hX41.2.1.2.2.1 rfl (by decide) (by decide) rfl (fun _ => rfl) (fun _ => rfl) T (fun v58 M57 h59 T => ?_)
      refine wp_istore (L' := [.val (.ref b), .val (gR G c), .val (gR G o), .val (gR G w), .val (gI i), .val (gI v39), .val (gI v58), .unset]) d_Lw_law_521 (by decide) rfl ?_
      refine wp_aload_n d_Lw_law_523 rfl rfl (g_nz hX41.2.1.1) ?_
      refine zcV_I ⟨hk.1, hk.2⟩ (md' := true) (As := []) (st := []) d_Lw_law_524 ca_GM_thrown ml_Lw_74 im_GM_thrown se_GM_thrown gc_GM hX41.2.1.1 (gm_o2 hX41.2.1) hX41.2.1.2.2.1 rfl (by decide) (by decide) rfl (fun _ => rfl) (fun _ => rfl) T (fun v61 M60 h62 T => ?_)
      refine wp_iload d_Lw_law_527 rfl ?_
      refine xi_eq (tgt := 534) d_Lw_law_529 (by decide) (w32_id h62) (w32_id h40) (fun h66 => ?_) (fun h66 => ?_)
      · have T := T.1 h66
        refine wp_iload d_Lw_law_534 rfl ?_
        refine xz_ne (tgt := 551) d_Lw_law_536 (by decide) (w32_id h40) (fun h65 => ?_) (fun h65 => ?_)
        · have T := T.1 h65
          refine wp_goto (tgt := 1138) d_Lw_law_551 (by decide) ?_
          exact wp_md (wpt T (And.intro rfl (And.intro rfl (And.intro rfl (And.intro rfl (And.intro rfl True.intro))))))
        · have T := T.2 h65
          refine wp_aload_n d_Lw_law_539 rfl rfl (g_nz hX41.2.2.1) ?_
          refine wp_iconst d_Lw_law_540 ?_
          refine wp_laload d_Lw_law_541 hX41.2.2.1 hX41.2.2.2.1 hX41.2.2.2.2 (g32_n T.1 (by decide)) T.1.1 T.1.2 (fun h63 => ?_)
          have T := T.2 h63
          refine wp_iload d_Lw_law_542 rfl ?_
          refine xi2l d_Lw_law_544 (w32_id h59) ?_
          refine xl_eq (tgt := 551) d_Lw_law_545 d_Lw_law_546 (by decide) (w64_id h63) (w64_id (g64_32 h59)) (fun h64 => ?_) (fun h64 => ?_)
          · have T := T.1 h64
            refine wp_goto (tgt := 1138) d_Lw_law_551 (by decide) ?_
            exact wp_md (wpt T (And.intro rfl (And.intro rfl (And.intro rfl (And.intro rfl (And.intro rfl True.intro))))))
          · have T := T.2 h64
            refine wp_iconst d_Lw_law_549 ?_
            exact wp_zreturn d_Lw_law_550 rfl (g_narz (⟨by decide, by decide⟩ : (0 : Int) ≤ 0 ∧ (0 : Int) ≤ 1)) (fun _ => rfl) hk.1 hk.2 T
      · have T := T.2 h66
        refine wp_iconst d_Lw_law_532 ?_
        exact wp_zreturn d_Lw_law_533 rfl (g_narz (⟨by decide, by decide⟩ : (0 : Int) ≤ 0 ∧ (0 : Int) ≤ 1)) (fun _ => rfl) hk.1 hk.2 T
set_option maxRecDepth 100000 in
set_option maxHeartbeats 16000000 in
theorem w_Lw_law_554 {l : Launch} {G : gG} {X : gX} {M : gM} {K : Outcome → gX → gM → Prop} {cs ss : Nat} {b Ls : Nat} {xs : Nat → Int} (hscr : ∀ U, gSP G U → va_T .int b Ls (fun j => gI (xs j)) (gA G true) U U.heap) (hLs : g32 (Ls : Int)) (hLn : Ls ≤ 2147483648) (hxs : ∀ j, g32 (xs j)) {c o w : Nat} (hX : gLw X c o w) (hk : cs + 1 ≤ room_1.cells ∧ ss + 6 ≤ room_1.slots) {i : Int} (hi : g32 i) (T : ((0 : Int) ≤ (w32 (i + 1)) ∧ (w32 (i + 1)) < (Ls : Int)) ∧ ((xs (Int.toNat (w32 (i + 1))) = 0 → (((0 : Int) ≤ (w32 (i + 2)) ∧ (w32 (i + 2)) < (Ls : Int)) ∧ (((0 : Int) ≤ (w32 (i + 3)) ∧ (w32 (i + 3)) < (Ls : Int)) ∧ (gCh l G y_Lw_erase tb_Lw_erase (gRr 700 1) true [gR G c, gI 0, gI (xs (Int.toNat (w32 (i + 2)))), gI (xs (Int.toNat (w32 (i + 3)))), gR G w] X M (fun o1 X4 M5 => ∃ v6, o1 = .returned (some (gI v6)) ∧ g32 v6 ∧ gLw X4 c o w ∧ (((0 : Int) ≤ (w32 (i + 1)) ∧ (w32 (i + 1)) < (Ls : Int)) ∧ ((xs (Int.toNat (w32 (i + 1))) = 0 → (((0 : Int) ≤ (w32 (i + 2)) ∧ (w32 (i + 2)) < (Ls : Int)) ∧ (((0 : Int) ≤ (w32 (i + 3)) ∧ (w32 (i + 3)) < (Ls : Int)) ∧ (cI l G y_GM_erase (gRm 700) true [gR G o, gI 0, gI (xs (Int.toNat (w32 (i + 2)))), gI (xs (Int.toNat (w32 (i + 3))))] X4 M5 (fun v13 M12 => (cI l G y_GM_thrown (gRm 700) false [gR G o] X4 M12 (fun v16 M15 => ((v16 = v6 → ((¬ v6 = 0 → (wp l G y_Lw_law room_1 true K true 1138 [.val (.ref b), .val (gR G c), .val (gR G o), .val (gR G w), .val (gI i), .unset, .unset, .unset] [] X4 M15 (cs + 1) (ss + 6))) ∧ (v6 = 0 → (((0 : Int) ≤ (0 : Int) ∧ (0 : Int) < 1) ∧ (g64 (M15 w (Int.toNat 0)) → ((M15 w (Int.toNat 0) = v13 → (wp l G y_Lw_law room_1 true K true 1138 [.val (.ref b), .val (gR G c), .val (gR G o), .val (gR G w), .val (gI i), .unset, .unset, .unset] [] X4 M15 (cs + 1) (ss + 6))) ∧ (¬ M15 w (Int.toNat 0) = v13 → (K (.returned (some (gI 0))) X4 M15)))))))) ∧ (¬ v16 = v6 → (K (.returned (some (gI 0))) X4 M15)))))))))) ∧ (¬ xs (Int.toNat (w32 (i + 1))) = 0 → (((0 : Int) ≤ (w32 (i + 2)) ∧ (w32 (i + 2)) < (Ls : Int)) ∧ (((0 : Int) ≤ (w32 (i + 3)) ∧ (w32 (i + 3)) < (Ls : Int)) ∧ (cI l G y_GM_erase (gRm 700) true [gR G o, gI 1, gI (xs (Int.toNat (w32 (i + 2)))), gI (xs (Int.toNat (w32 (i + 3))))] X4 M5 (fun v25 M24 => (cI l G y_GM_thrown (gRm 700) false [gR G o] X4 M24 (fun v28 M27 => ((v28 = v6 → ((¬ v6 = 0 → (wp l G y_Lw_law room_1 true K true 1138 [.val (.ref b), .val (gR G c), .val (gR G o), .val (gR G w), .val (gI i), .unset, .unset, .unset] [] X4 M27 (cs + 1) (ss + 6))) ∧ (v6 = 0 → (((0 : Int) ≤ (0 : Int) ∧ (0 : Int) < 1) ∧ (g64 (M27 w (Int.toNat 0)) → ((M27 w (Int.toNat 0) = v25 → (wp l G y_Lw_law room_1 true K true 1138 [.val (.ref b), .val (gR G c), .val (gR G o), .val (gR G w), .val (gI i), .unset, .unset, .unset] [] X4 M27 (cs + 1) (ss + 6))) ∧ (¬ M27 w (Int.toNat 0) = v25 → (K (.returned (some (gI 0))) X4 M27)))))))) ∧ (¬ v28 = v6 → (K (.returned (some (gI 0))) X4 M27))))))))))))))))) ∧ (¬ xs (Int.toNat (w32 (i + 1))) = 0 → (((0 : Int) ≤ (w32 (i + 2)) ∧ (w32 (i + 2)) < (Ls : Int)) ∧ (((0 : Int) ≤ (w32 (i + 3)) ∧ (w32 (i + 3)) < (Ls : Int)) ∧ (gCh l G y_Lw_erase tb_Lw_erase (gRr 700 1) true [gR G c, gI 1, gI (xs (Int.toNat (w32 (i + 2)))), gI (xs (Int.toNat (w32 (i + 3)))), gR G w] X M (fun o1 X37 M38 => ∃ v39, o1 = .returned (some (gI v39)) ∧ g32 v39 ∧ gLw X37 c o w ∧ (((0 : Int) ≤ (w32 (i + 1)) ∧ (w32 (i + 1)) < (Ls : Int)) ∧ ((xs (Int.toNat (w32 (i + 1))) = 0 → (((0 : Int) ≤ (w32 (i + 2)) ∧ (w32 (i + 2)) < (Ls : Int)) ∧ (((0 : Int) ≤ (w32 (i + 3)) ∧ (w32 (i + 3)) < (Ls : Int)) ∧ (cI l G y_GM_erase (gRm 700) true [gR G o, gI 0, gI (xs (Int.toNat (w32 (i + 2)))), gI (xs (Int.toNat (w32 (i + 3))))] X37 M38 (fun v46 M45 => (cI l G y_GM_thrown (gRm 700) false [gR G o] X37 M45 (fun v49 M48 => ((v49 = v39 → ((¬ v39 = 0 → (wp l G y_Lw_law room_1 true K true 1138 [.val (.ref b), .val (gR G c), .val (gR G o), .val (gR G w), .val (gI i), .unset, .unset, .unset] [] X37 M48 (cs + 1) (ss + 6))) ∧ (v39 = 0 → (((0 : Int) ≤ (0 : Int) ∧ (0 : Int) < 1) ∧ (g64 (M48 w (Int.toNat 0)) → ((M48 w (Int.toNat 0) = v46 → (wp l G y_Lw_law room_1 true K true 1138 [.val (.ref b), .val (gR G c), .val (gR G o), .val (gR G w), .val (gI i), .unset, .unset, .unset] [] X37 M48 (cs + 1) (ss + 6))) ∧ (¬ M48 w (Int.toNat 0) = v46 → (K (.returned (some (gI 0))) X37 M48)))))))) ∧ (¬ v49 = v39 → (K (.returned (some (gI 0))) X37 M48)))))))))) ∧ (¬ xs (Int.toNat (w32 (i + 1))) = 0 → (((0 : Int) ≤ (w32 (i + 2)) ∧ (w32 (i + 2)) < (Ls : Int)) ∧ (((0 : Int) ≤ (w32 (i + 3)) ∧ (w32 (i + 3)) < (Ls : Int)) ∧ (cI l G y_GM_erase (gRm 700) true [gR G o, gI 1, gI (xs (Int.toNat (w32 (i + 2)))), gI (xs (Int.toNat (w32 (i + 3))))] X37 M38 (fun v58 M57 => (cI l G y_GM_thrown (gRm 700) false [gR G o] X37 M57 (fun v61 M60 => ((v61 = v39 → ((¬ v39 = 0 → (wp l G y_Lw_law room_1 true K true 1138 [.val (.ref b), .val (gR G c), .val (gR G o), .val (gR G w), .val (gI i), .unset, .unset, .unset] [] X37 M60 (cs + 1) (ss + 6))) ∧ (v39 = 0 → (((0 : Int) ≤ (0 : Int) ∧ (0 : Int) < 1) ∧ (g64 (M60 w (Int.toNat 0)) → ((M60 w (Int.toNat 0) = v58 → (wp l G y_Lw_law room_1 true K true 1138 [.val (.ref b), .val (gR G c), .val (gR G o), .val (gR G w), .val (gI i), .unset, .unset, .unset] [] X37 M60 (cs + 1) (ss + 6))) ∧ (¬ M60 w (Int.toNat 0) = v58 → (K (.returned (some (gI 0))) X37 M60)))))))) ∧ (¬ v61 = v39 → (K (.returned (some (gI 0))) X37 M60))))))))))))))))))) : wp l G y_Lw_law room_1 true K true 554 [.val (.ref b), .val (gR G c), .val (gR G o), .val (gR G w), .val (gI i), .unset, .unset, .unset] [] X M cs ss := by
  refine wp_aload_n d_Lw_law_554 rfl rfl (g_nz hX.1.1) ?_
  refine wp_oaload_n d_Lw_law_555 rfl rfl ?_
  refine wp_iload d_Lw_law_556 rfl ?_
  refine wp_iconst d_Lw_law_558 ?_
  refine wp_iadd d_Lw_law_559 ?_
  have q1 := T.1
  have T := T.2
  refine xoiald d_Lw_law_560 hscr rfl (g32_n q1 hLn) q1.1 q1.2 ?_
  refine xz_eq (tgt := 568) d_Lw_law_561 (by decide) (w32_id (hxs _)) (fun h68 => ?_) (fun h68 => ?_)
  · have T := T.1 h68
    refine wp_iconst d_Lw_law_568 ?_
    refine wp_oaload_n d_Lw_law_569 rfl rfl ?_
    refine wp_iload d_Lw_law_570 rfl ?_
    refine wp_iconst d_Lw_law_572 ?_
    refine wp_iadd d_Lw_law_573 ?_
    have q2 := T.1
    have T := T.2
    refine xoiald d_Lw_law_574 hscr rfl (g32_n q2 hLn) q2.1 q2.2 ?_
    refine wp_oaload_n d_Lw_law_575 rfl rfl ?_
    refine wp_iload d_Lw_law_576 rfl ?_
    refine wp_iconst d_Lw_law_578 ?_
    refine wp_iadd d_Lw_law_579 ?_
    have q3 := T.1
    have T := T.2
    refine xoiald d_Lw_law_580 hscr rfl (g32_n q3 hLn) q3.1 q3.2 ?_
    refine wp_aload_n d_Lw_law_581 rfl rfl (g_nz hX.2.2.1) ?_
    refine wp_callH (z := y_Lw_erase) (tb := tb_Lw_erase) (n := 5) (rm' := gRr 700 1) (md' := true) (As := [gR G c, gI 0, gI (xs (Int.toNat (w32 (i + 2)))), gI (xs (Int.toNat (w32 (i + 3)))), gR G w]) (st := []) d_Lw_law_582 cw_Lw_erase ii_Lw ⟨by decide, by decide⟩ (by decide +kernel) ml_Lw_93 sm_Lw_erase T (fun o X' M' h => by obtain ⟨w1, h1, -⟩ := h; exact ⟨_, h1⟩) (fun _ => rfl) (fun _ => rfl) rfl (g_rm2 _ (by decide)) (by decide) hk rfl (fun v0 X4 M5 h => ?_)
    obtain ⟨v6, e1, h7, hX8, T⟩ := h
    cases e1
    refine wp_st (st' := [gI v6]) rfl ?_
    refine wp_istore (L' := [.val (.ref b), .val (gR G c), .val (gR G o), .val (gR G w), .val (gI i), .val (gI v6), .unset, .unset]) d_Lw_law_585 (by decide) rfl ?_
    refine wp_aload_n d_Lw_law_587 rfl rfl (g_nz hX8.2.1.1) ?_
    refine wp_oaload_n d_Lw_law_588 rfl rfl ?_
    refine wp_iload d_Lw_law_589 rfl ?_
    refine wp_iconst d_Lw_law_591 ?_
    refine wp_iadd d_Lw_law_592 ?_
    have q9 := T.1
    have T := T.2
    refine xoiald d_Lw_law_593 hscr rfl (g32_n q9 hLn) q9.1 q9.2 ?_
    refine xz_eq (tgt := 601) d_Lw_law_594 (by decide) (w32_id (hxs _)) (fun h34 => ?_) (fun h34 => ?_)
    · have T := T.1 h34
      refine wp_iconst d_Lw_law_601 ?_
      refine wp_oaload_n d_Lw_law_602 rfl rfl ?_
      refine wp_iload d_Lw_law_603 rfl ?_
      refine wp_iconst d_Lw_law_605 ?_
      refine wp_iadd d_Lw_law_606 ?_
      have q10 := T.1
      have T := T.2
      refine xoiald d_Lw_law_607 hscr rfl (g32_n q10 hLn) q10.1 q10.2 ?_
      refine wp_oaload_n d_Lw_law_608 rfl rfl ?_
      refine wp_iload d_Lw_law_609 rfl ?_
      refine wp_iconst d_Lw_law_611 ?_
      refine wp_iadd d_Lw_law_612 ?_
      have q11 := T.1
      have T := T.2
      refine xoiald d_Lw_law_613 hscr rfl (g32_n q11 hLn) q11.1 q11.2 ?_
      refine zcV_I ⟨hk.1, hk.2⟩ (md' := true) (As := [gI 0, gI (xs (Int.toNat (w32 (i + 2)))), gI (xs (Int.toNat (w32 (i + 3))))]) (st := []) d_Lw_law_614 ca_GM_erase ml_Lw_95 im_GM_erase se_GM_erase gc_GM hX8.2.1.1 (gm_o2 hX8.2.1) hX8.2.1.2.2.1 rfl (by decide) (by decide) rfl (fun _ => rfl) (fun _ => rfl) T (fun v13 M12 h14 T => ?_)
      refine wp_istore (L' := [.val (.ref b), .val (gR G c), .val (gR G o), .val (gR G w), .val (gI i), .val (gI v6), .val (gI v13), .unset]) d_Lw_law_617 (by decide) rfl ?_
      refine wp_aload_n d_Lw_law_619 rfl rfl (g_nz hX8.2.1.1) ?_
      refine zcV_I ⟨hk.1, hk.2⟩ (md' := true) (As := []) (st := []) d_Lw_law_620 ca_GM_thrown ml_Lw_74 im_GM_thrown se_GM_thrown gc_GM hX8.2.1.1 (gm_o2 hX8.2.1) hX8.2.1.2.2.1 rfl (by decide) (by decide) rfl (fun _ => rfl) (fun _ => rfl) T (fun v16 M15 h17 T => ?_)
      refine wp_iload d_Lw_law_623 rfl ?_
      refine xi_eq (tgt := 630) d_Lw_law_625 (by decide) (w32_id h17) (w32_id h7) (fun h21 => ?_) (fun h21 => ?_)
      · have T := T.1 h21
        refine wp_iload d_Lw_law_630 rfl ?_
        refine xz_ne (tgt := 647) d_Lw_law_632 (by decide) (w32_id h7) (fun h20 => ?_) (fun h20 => ?_)
        · have T := T.1 h20
          refine wp_goto (tgt := 1138) d_Lw_law_647 (by decide) ?_
          exact wp_md (wpt T (And.intro rfl (And.intro rfl (And.intro rfl (And.intro rfl (And.intro rfl True.intro))))))
        · have T := T.2 h20
          refine wp_aload_n d_Lw_law_635 rfl rfl (g_nz hX8.2.2.1) ?_
          refine wp_iconst d_Lw_law_636 ?_
          refine wp_laload d_Lw_law_637 hX8.2.2.1 hX8.2.2.2.1 hX8.2.2.2.2 (g32_n T.1 (by decide)) T.1.1 T.1.2 (fun h18 => ?_)
          have T := T.2 h18
          refine wp_iload d_Lw_law_638 rfl ?_
          refine xi2l d_Lw_law_640 (w32_id h14) ?_
          refine xl_eq (tgt := 647) d_Lw_law_641 d_Lw_law_642 (by decide) (w64_id h18) (w64_id (g64_32 h14)) (fun h19 => ?_) (fun h19 => ?_)
          · have T := T.1 h19
            refine wp_goto (tgt := 1138) d_Lw_law_647 (by decide) ?_
            exact wp_md (wpt T (And.intro rfl (And.intro rfl (And.intro rfl (And.intro rfl (And.intro rfl True.intro))))))
          · have T := T.2 h19
            refine wp_iconst d_Lw_law_645 ?_
            exact wp_zreturn d_Lw_law_646 rfl (g_narz (⟨by decide, by decide⟩ : (0 : Int) ≤ 0 ∧ (0 : Int) ≤ 1)) (fun _ => rfl) hk.1 hk.2 T
      · have T := T.2 h21
        refine wp_iconst d_Lw_law_628 ?_
        exact wp_zreturn d_Lw_law_629 rfl (g_narz (⟨by decide, by decide⟩ : (0 : Int) ≤ 0 ∧ (0 : Int) ≤ 1)) (fun _ => rfl) hk.1 hk.2 T
    · have T := T.2 h34
      refine wp_iconst d_Lw_law_597 ?_
      refine wp_goto (tgt := 602) d_Lw_law_598 (by decide) ?_
      refine wp_oaload_n d_Lw_law_602 rfl rfl ?_
      refine wp_iload d_Lw_law_603 rfl ?_
      refine wp_iconst d_Lw_law_605 ?_
      refine wp_iadd d_Lw_law_606 ?_
      have q22 := T.1
      have T := T.2
      refine xoiald d_Lw_law_607 hscr rfl (g32_n q22 hLn) q22.1 q22.2 ?_
      refine wp_oaload_n d_Lw_law_608 rfl rfl ?_
      refine wp_iload d_Lw_law_609 rfl ?_
      refine wp_iconst d_Lw_law_611 ?_
      refine wp_iadd d_Lw_law_612 ?_
      have q23 := T.1
      have T := T.2
      refine xoiald d_Lw_law_613 hscr rfl (g32_n q23 hLn) q23.1 q23.2 ?_
      refine zcV_I ⟨hk.1, hk.2⟩ (md' := true) (As := [gI 1, gI (xs (Int.toNat (w32 (i + 2)))), gI (xs (Int.toNat (w32 (i + 3))))]) (st := []) d_Lw_law_614 ca_GM_erase ml_Lw_95 im_GM_erase se_GM_erase gc_GM hX8.2.1.1 (gm_o2 hX8.2.1) hX8.2.1.2.2.1 rfl (by decide) (by decide) rfl (fun _ => rfl) (fun _ => rfl) T (fun v25 M24 h26 T => ?_)
      refine wp_istore (L' := [.val (.ref b), .val (gR G c), .val (gR G o), .val (gR G w), .val (gI i), .val (gI v6), .val (gI v25), .unset]) d_Lw_law_617 (by decide) rfl ?_
      refine wp_aload_n d_Lw_law_619 rfl rfl (g_nz hX8.2.1.1) ?_
      refine zcV_I ⟨hk.1, hk.2⟩ (md' := true) (As := []) (st := []) d_Lw_law_620 ca_GM_thrown ml_Lw_74 im_GM_thrown se_GM_thrown gc_GM hX8.2.1.1 (gm_o2 hX8.2.1) hX8.2.1.2.2.1 rfl (by decide) (by decide) rfl (fun _ => rfl) (fun _ => rfl) T (fun v28 M27 h29 T => ?_)
      refine wp_iload d_Lw_law_623 rfl ?_
      refine xi_eq (tgt := 630) d_Lw_law_625 (by decide) (w32_id h29) (w32_id h7) (fun h33 => ?_) (fun h33 => ?_)
      · have T := T.1 h33
        refine wp_iload d_Lw_law_630 rfl ?_
        refine xz_ne (tgt := 647) d_Lw_law_632 (by decide) (w32_id h7) (fun h32 => ?_) (fun h32 => ?_)
        · have T := T.1 h32
          refine wp_goto (tgt := 1138) d_Lw_law_647 (by decide) ?_
          exact wp_md (wpt T (And.intro rfl (And.intro rfl (And.intro rfl (And.intro rfl (And.intro rfl True.intro))))))
        · have T := T.2 h32
          refine wp_aload_n d_Lw_law_635 rfl rfl (g_nz hX8.2.2.1) ?_
          refine wp_iconst d_Lw_law_636 ?_
          refine wp_laload d_Lw_law_637 hX8.2.2.1 hX8.2.2.2.1 hX8.2.2.2.2 (g32_n T.1 (by decide)) T.1.1 T.1.2 (fun h30 => ?_)
          have T := T.2 h30
          refine wp_iload d_Lw_law_638 rfl ?_
          refine xi2l d_Lw_law_640 (w32_id h26) ?_
          refine xl_eq (tgt := 647) d_Lw_law_641 d_Lw_law_642 (by decide) (w64_id h30) (w64_id (g64_32 h26)) (fun h31 => ?_) (fun h31 => ?_)
          · have T := T.1 h31
            refine wp_goto (tgt := 1138) d_Lw_law_647 (by decide) ?_
            exact wp_md (wpt T (And.intro rfl (And.intro rfl (And.intro rfl (And.intro rfl (And.intro rfl True.intro))))))
          · have T := T.2 h31
            refine wp_iconst d_Lw_law_645 ?_
            exact wp_zreturn d_Lw_law_646 rfl (g_narz (⟨by decide, by decide⟩ : (0 : Int) ≤ 0 ∧ (0 : Int) ≤ 1)) (fun _ => rfl) hk.1 hk.2 T
      · have T := T.2 h33
        refine wp_iconst d_Lw_law_628 ?_
        exact wp_zreturn d_Lw_law_629 rfl (g_narz (⟨by decide, by decide⟩ : (0 : Int) ≤ 0 ∧ (0 : Int) ≤ 1)) (fun _ => rfl) hk.1 hk.2 T
  · have T := T.2 h68
    refine wp_iconst d_Lw_law_564 ?_
    refine wp_goto (tgt := 569) d_Lw_law_565 (by decide) ?_
    refine wp_oaload_n d_Lw_law_569 rfl rfl ?_
    refine wp_iload d_Lw_law_570 rfl ?_
    refine wp_iconst d_Lw_law_572 ?_
    refine wp_iadd d_Lw_law_573 ?_
    have q35 := T.1
    have T := T.2
    refine xoiald d_Lw_law_574 hscr rfl (g32_n q35 hLn) q35.1 q35.2 ?_
    refine wp_oaload_n d_Lw_law_575 rfl rfl ?_
    refine wp_iload d_Lw_law_576 rfl ?_
    refine wp_iconst d_Lw_law_578 ?_
    refine wp_iadd d_Lw_law_579 ?_
    have q36 := T.1
    have T := T.2
    refine xoiald d_Lw_law_580 hscr rfl (g32_n q36 hLn) q36.1 q36.2 ?_
    refine wp_aload_n d_Lw_law_581 rfl rfl (g_nz hX.2.2.1) ?_
    refine wp_callH (z := y_Lw_erase) (tb := tb_Lw_erase) (n := 5) (rm' := gRr 700 1) (md' := true) (As := [gR G c, gI 1, gI (xs (Int.toNat (w32 (i + 2)))), gI (xs (Int.toNat (w32 (i + 3)))), gR G w]) (st := []) d_Lw_law_582 cw_Lw_erase ii_Lw ⟨by decide, by decide⟩ (by decide +kernel) ml_Lw_93 sm_Lw_erase T (fun o X' M' h => by obtain ⟨w1, h1, -⟩ := h; exact ⟨_, h1⟩) (fun _ => rfl) (fun _ => rfl) rfl (g_rm2 _ (by decide)) (by decide) hk rfl (fun v0 X37 M38 h => ?_)
    obtain ⟨v39, e1, h40, hX41, T⟩ := h
    cases e1
    refine wp_st (st' := [gI v39]) rfl ?_
    refine wp_istore (L' := [.val (.ref b), .val (gR G c), .val (gR G o), .val (gR G w), .val (gI i), .val (gI v39), .unset, .unset]) d_Lw_law_585 (by decide) rfl ?_
    refine wp_aload_n d_Lw_law_587 rfl rfl (g_nz hX41.2.1.1) ?_
    refine wp_oaload_n d_Lw_law_588 rfl rfl ?_
    refine wp_iload d_Lw_law_589 rfl ?_
    refine wp_iconst d_Lw_law_591 ?_
    refine wp_iadd d_Lw_law_592 ?_
    have q42 := T.1
    have T := T.2
    refine xoiald d_Lw_law_593 hscr rfl (g32_n q42 hLn) q42.1 q42.2 ?_
    refine xz_eq (tgt := 601) d_Lw_law_594 (by decide) (w32_id (hxs _)) (fun h67 => ?_) (fun h67 => ?_)
    · have T := T.1 h67
      refine wp_iconst d_Lw_law_601 ?_
      refine wp_oaload_n d_Lw_law_602 rfl rfl ?_
      refine wp_iload d_Lw_law_603 rfl ?_
      refine wp_iconst d_Lw_law_605 ?_
      refine wp_iadd d_Lw_law_606 ?_
      have q43 := T.1
      have T := T.2
      refine xoiald d_Lw_law_607 hscr rfl (g32_n q43 hLn) q43.1 q43.2 ?_
      refine wp_oaload_n d_Lw_law_608 rfl rfl ?_
      refine wp_iload d_Lw_law_609 rfl ?_
      refine wp_iconst d_Lw_law_611 ?_
      refine wp_iadd d_Lw_law_612 ?_
      have q44 := T.1
      have T := T.2
      refine xoiald d_Lw_law_613 hscr rfl (g32_n q44 hLn) q44.1 q44.2 ?_
      refine zcV_I ⟨hk.1, hk.2⟩ (md' := true) (As := [gI 0, gI (xs (Int.toNat (w32 (i + 2)))), gI (xs (Int.toNat (w32 (i + 3))))]) (st := []) d_Lw_law_614 ca_GM_erase ml_Lw_95 im_GM_erase se_GM_erase gc_GM hX41.2.1.1 (gm_o2 hX41.2.1) hX41.2.1.2.2.1 rfl (by decide) (by decide) rfl (fun _ => rfl) (fun _ => rfl) T (fun v46 M45 h47 T => ?_)
      refine wp_istore (L' := [.val (.ref b), .val (gR G c), .val (gR G o), .val (gR G w), .val (gI i), .val (gI v39), .val (gI v46), .unset]) d_Lw_law_617 (by decide) rfl ?_
      refine wp_aload_n d_Lw_law_619 rfl rfl (g_nz hX41.2.1.1) ?_
      refine zcV_I ⟨hk.1, hk.2⟩ (md' := true) (As := []) (st := []) d_Lw_law_620 ca_GM_thrown ml_Lw_74 im_GM_thrown se_GM_thrown gc_GM hX41.2.1.1 (gm_o2 hX41.2.1) hX41.2.1.2.2.1 rfl (by decide) (by decide) rfl (fun _ => rfl) (fun _ => rfl) T (fun v49 M48 h50 T => ?_)
      refine wp_iload d_Lw_law_623 rfl ?_
      refine xi_eq (tgt := 630) d_Lw_law_625 (by decide) (w32_id h50) (w32_id h40) (fun h54 => ?_) (fun h54 => ?_)
      · have T := T.1 h54
        refine wp_iload d_Lw_law_630 rfl ?_
        refine xz_ne (tgt := 647) d_Lw_law_632 (by decide) (w32_id h40) (fun h53 => ?_) (fun h53 => ?_)
        · have T := T.1 h53
          refine wp_goto (tgt := 1138) d_Lw_law_647 (by decide) ?_
          exact wp_md (wpt T (And.intro rfl (And.intro rfl (And.intro rfl (And.intro rfl (And.intro rfl True.intro))))))
        · have T := T.2 h53
          refine wp_aload_n d_Lw_law_635 rfl rfl (g_nz hX41.2.2.1) ?_
          refine wp_iconst d_Lw_law_636 ?_
          refine wp_laload d_Lw_law_637 hX41.2.2.1 hX41.2.2.2.1 hX41.2.2.2.2 (g32_n T.1 (by decide)) T.1.1 T.1.2 (fun h51 => ?_)
          have T := T.2 h51
          refine wp_iload d_Lw_law_638 rfl ?_
          refine xi2l d_Lw_law_640 (w32_id h47) ?_
          refine xl_eq (tgt := 647) d_Lw_law_641 d_Lw_law_642 (by decide) (w64_id h51) (w64_id (g64_32 h47)) (fun h52 => ?_) (fun h52 => ?_)
          · have T := T.1 h52
            refine wp_goto (tgt := 1138) d_Lw_law_647 (by decide) ?_
            exact wp_md (wpt T (And.intro rfl (And.intro rfl (And.intro rfl (And.intro rfl (And.intro rfl True.intro))))))
          · have T := T.2 h52
            refine wp_iconst d_Lw_law_645 ?_
            exact wp_zreturn d_Lw_law_646 rfl (g_narz (⟨by decide, by decide⟩ : (0 : Int) ≤ 0 ∧ (0 : Int) ≤ 1)) (fun _ => rfl) hk.1 hk.2 T
      · have T := T.2 h54
        refine wp_iconst d_Lw_law_628 ?_
        exact wp_zreturn d_Lw_law_629 rfl (g_narz (⟨by decide, by decide⟩ : (0 : Int) ≤ 0 ∧ (0 : Int) ≤ 1)) (fun _ => rfl) hk.1 hk.2 T
    · have T := T.2 h67
      refine wp_iconst d_Lw_law_597 ?_
      refine wp_goto (tgt := 602) d_Lw_law_598 (by decide) ?_
      refine wp_oaload_n d_Lw_law_602 rfl rfl ?_
      refine wp_iload d_Lw_law_603 rfl ?_
      refine wp_iconst d_Lw_law_605 ?_
      refine wp_iadd d_Lw_law_606 ?_
      have q55 := T.1
      have T := T.2
      refine xoiald d_Lw_law_607 hscr rfl (g32_n q55 hLn) q55.1 q55.2 ?_
      refine wp_oaload_n d_Lw_law_608 rfl rfl ?_
      refine wp_iload d_Lw_law_609 rfl ?_
      refine wp_iconst d_Lw_law_611 ?_
      refine wp_iadd d_Lw_law_612 ?_
      have q56 := T.1
      have T := T.2
      refine xoiald d_Lw_law_613 hscr rfl (g32_n q56 hLn) q56.1 q56.2 ?_
      refine zcV_I ⟨hk.1, hk.2⟩ (md' := true) (As := [gI 1, gI (xs (Int.toNat (w32 (i + 2)))), gI (xs (Int.toNat (w32 (i + 3))))]) (st := []) d_Lw_law_614 ca_GM_erase ml_Lw_95 im_GM_erase se_GM_erase gc_GM hX41.2.1.1 (gm_o2 hX41.2.1) hX41.2.1.2.2.1 rfl (by decide) (by decide) rfl (fun _ => rfl) (fun _ => rfl) T (fun v58 M57 h59 T => ?_)
      refine wp_istore (L' := [.val (.ref b), .val (gR G c), .val (gR G o), .val (gR G w), .val (gI i), .val (gI v39), .val (gI v58), .unset]) d_Lw_law_617 (by decide) rfl ?_
      refine wp_aload_n d_Lw_law_619 rfl rfl (g_nz hX41.2.1.1) ?_
      refine zcV_I ⟨hk.1, hk.2⟩ (md' := true) (As := []) (st := []) d_Lw_law_620 ca_GM_thrown ml_Lw_74 im_GM_thrown se_GM_thrown gc_GM hX41.2.1.1 (gm_o2 hX41.2.1) hX41.2.1.2.2.1 rfl (by decide) (by decide) rfl (fun _ => rfl) (fun _ => rfl) T (fun v61 M60 h62 T => ?_)
      refine wp_iload d_Lw_law_623 rfl ?_
      refine xi_eq (tgt := 630) d_Lw_law_625 (by decide) (w32_id h62) (w32_id h40) (fun h66 => ?_) (fun h66 => ?_)
      · have T := T.1 h66
        refine wp_iload d_Lw_law_630 rfl ?_
        refine xz_ne (tgt := 647) d_Lw_law_632 (by decide) (w32_id h40) (fun h65 => ?_) (fun h65 => ?_)
        · have T := T.1 h65
          refine wp_goto (tgt := 1138) d_Lw_law_647 (by decide) ?_
          exact wp_md (wpt T (And.intro rfl (And.intro rfl (And.intro rfl (And.intro rfl (And.intro rfl True.intro))))))
        · have T := T.2 h65
          refine wp_aload_n d_Lw_law_635 rfl rfl (g_nz hX41.2.2.1) ?_
          refine wp_iconst d_Lw_law_636 ?_
          refine wp_laload d_Lw_law_637 hX41.2.2.1 hX41.2.2.2.1 hX41.2.2.2.2 (g32_n T.1 (by decide)) T.1.1 T.1.2 (fun h63 => ?_)
          have T := T.2 h63
          refine wp_iload d_Lw_law_638 rfl ?_
          refine xi2l d_Lw_law_640 (w32_id h59) ?_
          refine xl_eq (tgt := 647) d_Lw_law_641 d_Lw_law_642 (by decide) (w64_id h63) (w64_id (g64_32 h59)) (fun h64 => ?_) (fun h64 => ?_)
          · have T := T.1 h64
            refine wp_goto (tgt := 1138) d_Lw_law_647 (by decide) ?_
            exact wp_md (wpt T (And.intro rfl (And.intro rfl (And.intro rfl (And.intro rfl (And.intro rfl True.intro))))))
          · have T := T.2 h64
            refine wp_iconst d_Lw_law_645 ?_
            exact wp_zreturn d_Lw_law_646 rfl (g_narz (⟨by decide, by decide⟩ : (0 : Int) ≤ 0 ∧ (0 : Int) ≤ 1)) (fun _ => rfl) hk.1 hk.2 T
      · have T := T.2 h66
        refine wp_iconst d_Lw_law_628 ?_
        exact wp_zreturn d_Lw_law_629 rfl (g_narz (⟨by decide, by decide⟩ : (0 : Int) ≤ 0 ∧ (0 : Int) ≤ 1)) (fun _ => rfl) hk.1 hk.2 T
set_option maxRecDepth 100000 in
set_option maxHeartbeats 16000000 in
theorem w_Lw_law_650 {l : Launch} {G : gG} {X : gX} {M : gM} {K : Outcome → gX → gM → Prop} {cs ss : Nat} {b Ls : Nat} {xs : Nat → Int} (hscr : ∀ U, gSP G U → va_T .int b Ls (fun j => gI (xs j)) (gA G true) U U.heap) (hLs : g32 (Ls : Int)) (hLn : Ls ≤ 2147483648) (hxs : ∀ j, g32 (xs j)) {c o w : Nat} (hX : gLw X c o w) (hk : cs + 1 ≤ room_1.cells ∧ ss + 6 ≤ room_1.slots) {i : Int} (hi : g32 i) (T : gCh l G y_Lw_undo tb_Lw_undo (gRr 700 1) true [gR G c, gR G w] X M (fun o1 X1 M2 => ∃ v3, o1 = .returned (some (gI v3)) ∧ g32 v3 ∧ gLw X1 c o w ∧ (cI l G y_GM_undo (gRm 700) true [gR G o] X1 M2 (fun v7 M6 => (cI l G y_GM_thrown (gRm 700) false [gR G o] X1 M6 (fun v10 M9 => ((v10 = v3 → ((¬ v3 = 0 → (wp l G y_Lw_law room_1 true K true 1138 [.val (.ref b), .val (gR G c), .val (gR G o), .val (gR G w), .val (gI i), .unset, .unset, .unset] [] X1 M9 (cs + 1) (ss + 6))) ∧ (v3 = 0 → (((0 : Int) ≤ (0 : Int) ∧ (0 : Int) < 1) ∧ (g64 (M9 w (Int.toNat 0)) → ((M9 w (Int.toNat 0) = v7 → (wp l G y_Lw_law room_1 true K true 1138 [.val (.ref b), .val (gR G c), .val (gR G o), .val (gR G w), .val (gI i), .unset, .unset, .unset] [] X1 M9 (cs + 1) (ss + 6))) ∧ (¬ M9 w (Int.toNat 0) = v7 → (K (.returned (some (gI 0))) X1 M9)))))))) ∧ (¬ v10 = v3 → (K (.returned (some (gI 0))) X1 M9))))))))) : wp l G y_Lw_law room_1 true K true 650 [.val (.ref b), .val (gR G c), .val (gR G o), .val (gR G w), .val (gI i), .unset, .unset, .unset] [] X M cs ss := by
  refine wp_aload_n d_Lw_law_650 rfl rfl (g_nz hX.1.1) ?_
  refine wp_aload_n d_Lw_law_651 rfl rfl (g_nz hX.2.2.1) ?_
  refine wp_callH (z := y_Lw_undo) (tb := tb_Lw_undo) (n := 2) (rm' := gRr 700 1) (md' := true) (As := [gR G c, gR G w]) (st := []) d_Lw_law_652 cw_Lw_undo ii_Lw ⟨by decide, by decide⟩ (by decide +kernel) ml_Lw_96 sm_Lw_undo T (fun o X' M' h => by obtain ⟨w1, h1, -⟩ := h; exact ⟨_, h1⟩) (fun _ => rfl) (fun _ => rfl) rfl (g_rm2 _ (by decide)) (by decide) hk rfl (fun v0 X1 M2 h => ?_)
  obtain ⟨v3, e1, h4, hX5, T⟩ := h
  cases e1
  refine wp_st (st' := [gI v3]) rfl ?_
  refine wp_istore (L' := [.val (.ref b), .val (gR G c), .val (gR G o), .val (gR G w), .val (gI i), .val (gI v3), .unset, .unset]) d_Lw_law_655 (by decide) rfl ?_
  refine wp_aload_n d_Lw_law_657 rfl rfl (g_nz hX5.2.1.1) ?_
  refine zcV_I ⟨hk.1, hk.2⟩ (md' := true) (As := []) (st := []) d_Lw_law_658 ca_GM_undo ml_Lw_99 im_GM_undo se_GM_undo gc_GM hX5.2.1.1 (gm_o2 hX5.2.1) hX5.2.1.2.2.1 rfl (by decide) (by decide) rfl (fun _ => rfl) (fun _ => rfl) T (fun v7 M6 h8 T => ?_)
  refine wp_istore (L' := [.val (.ref b), .val (gR G c), .val (gR G o), .val (gR G w), .val (gI i), .val (gI v3), .val (gI v7), .unset]) d_Lw_law_661 (by decide) rfl ?_
  refine wp_aload_n d_Lw_law_663 rfl rfl (g_nz hX5.2.1.1) ?_
  refine zcV_I ⟨hk.1, hk.2⟩ (md' := true) (As := []) (st := []) d_Lw_law_664 ca_GM_thrown ml_Lw_74 im_GM_thrown se_GM_thrown gc_GM hX5.2.1.1 (gm_o2 hX5.2.1) hX5.2.1.2.2.1 rfl (by decide) (by decide) rfl (fun _ => rfl) (fun _ => rfl) T (fun v10 M9 h11 T => ?_)
  refine wp_iload d_Lw_law_667 rfl ?_
  refine xi_eq (tgt := 674) d_Lw_law_669 (by decide) (w32_id h11) (w32_id h4) (fun h15 => ?_) (fun h15 => ?_)
  · have T := T.1 h15
    refine wp_iload d_Lw_law_674 rfl ?_
    refine xz_ne (tgt := 691) d_Lw_law_676 (by decide) (w32_id h4) (fun h14 => ?_) (fun h14 => ?_)
    · have T := T.1 h14
      refine wp_goto (tgt := 1138) d_Lw_law_691 (by decide) ?_
      exact wp_md (wpt T (And.intro rfl (And.intro rfl (And.intro rfl (And.intro rfl (And.intro rfl True.intro))))))
    · have T := T.2 h14
      refine wp_aload_n d_Lw_law_679 rfl rfl (g_nz hX5.2.2.1) ?_
      refine wp_iconst d_Lw_law_680 ?_
      refine wp_laload d_Lw_law_681 hX5.2.2.1 hX5.2.2.2.1 hX5.2.2.2.2 (g32_n T.1 (by decide)) T.1.1 T.1.2 (fun h12 => ?_)
      have T := T.2 h12
      refine wp_iload d_Lw_law_682 rfl ?_
      refine xi2l d_Lw_law_684 (w32_id h8) ?_
      refine xl_eq (tgt := 691) d_Lw_law_685 d_Lw_law_686 (by decide) (w64_id h12) (w64_id (g64_32 h8)) (fun h13 => ?_) (fun h13 => ?_)
      · have T := T.1 h13
        refine wp_goto (tgt := 1138) d_Lw_law_691 (by decide) ?_
        exact wp_md (wpt T (And.intro rfl (And.intro rfl (And.intro rfl (And.intro rfl (And.intro rfl True.intro))))))
      · have T := T.2 h13
        refine wp_iconst d_Lw_law_689 ?_
        exact wp_zreturn d_Lw_law_690 rfl (g_narz (⟨by decide, by decide⟩ : (0 : Int) ≤ 0 ∧ (0 : Int) ≤ 1)) (fun _ => rfl) hk.1 hk.2 T
  · have T := T.2 h15
    refine wp_iconst d_Lw_law_672 ?_
    exact wp_zreturn d_Lw_law_673 rfl (g_narz (⟨by decide, by decide⟩ : (0 : Int) ≤ 0 ∧ (0 : Int) ≤ 1)) (fun _ => rfl) hk.1 hk.2 T
set_option maxRecDepth 100000 in
set_option maxHeartbeats 16000000 in
theorem w_Lw_law_694 {l : Launch} {G : gG} {X : gX} {M : gM} {K : Outcome → gX → gM → Prop} {cs ss : Nat} {b Ls : Nat} {xs : Nat → Int} (hscr : ∀ U, gSP G U → va_T .int b Ls (fun j => gI (xs j)) (gA G true) U U.heap) (hLs : g32 (Ls : Int)) (hLn : Ls ≤ 2147483648) (hxs : ∀ j, g32 (xs j)) {c o w : Nat} (hX : gLw X c o w) (hk : cs + 1 ≤ room_1.cells ∧ ss + 6 ≤ room_1.slots) {i : Int} (hi : g32 i) (T : gCh l G y_Lw_redo tb_Lw_redo (gRr 700 1) true [gR G c, gR G w] X M (fun o1 X1 M2 => ∃ v3, o1 = .returned (some (gI v3)) ∧ g32 v3 ∧ gLw X1 c o w ∧ (cI l G y_GM_redo (gRm 700) true [gR G o] X1 M2 (fun v7 M6 => (cI l G y_GM_thrown (gRm 700) false [gR G o] X1 M6 (fun v10 M9 => ((v10 = v3 → ((¬ v3 = 0 → (wp l G y_Lw_law room_1 true K true 1138 [.val (.ref b), .val (gR G c), .val (gR G o), .val (gR G w), .val (gI i), .unset, .unset, .unset] [] X1 M9 (cs + 1) (ss + 6))) ∧ (v3 = 0 → (((0 : Int) ≤ (0 : Int) ∧ (0 : Int) < 1) ∧ (g64 (M9 w (Int.toNat 0)) → ((M9 w (Int.toNat 0) = v7 → (wp l G y_Lw_law room_1 true K true 1138 [.val (.ref b), .val (gR G c), .val (gR G o), .val (gR G w), .val (gI i), .unset, .unset, .unset] [] X1 M9 (cs + 1) (ss + 6))) ∧ (¬ M9 w (Int.toNat 0) = v7 → (K (.returned (some (gI 0))) X1 M9)))))))) ∧ (¬ v10 = v3 → (K (.returned (some (gI 0))) X1 M9))))))))) : wp l G y_Lw_law room_1 true K true 694 [.val (.ref b), .val (gR G c), .val (gR G o), .val (gR G w), .val (gI i), .unset, .unset, .unset] [] X M cs ss := by
  refine wp_aload_n d_Lw_law_694 rfl rfl (g_nz hX.1.1) ?_
  refine wp_aload_n d_Lw_law_695 rfl rfl (g_nz hX.2.2.1) ?_
  refine wp_callH (z := y_Lw_redo) (tb := tb_Lw_redo) (n := 2) (rm' := gRr 700 1) (md' := true) (As := [gR G c, gR G w]) (st := []) d_Lw_law_696 cw_Lw_redo ii_Lw ⟨by decide, by decide⟩ (by decide +kernel) ml_Lw_100 sm_Lw_redo T (fun o X' M' h => by obtain ⟨w1, h1, -⟩ := h; exact ⟨_, h1⟩) (fun _ => rfl) (fun _ => rfl) rfl (g_rm2 _ (by decide)) (by decide) hk rfl (fun v0 X1 M2 h => ?_)
  obtain ⟨v3, e1, h4, hX5, T⟩ := h
  cases e1
  refine wp_st (st' := [gI v3]) rfl ?_
  refine wp_istore (L' := [.val (.ref b), .val (gR G c), .val (gR G o), .val (gR G w), .val (gI i), .val (gI v3), .unset, .unset]) d_Lw_law_699 (by decide) rfl ?_
  refine wp_aload_n d_Lw_law_701 rfl rfl (g_nz hX5.2.1.1) ?_
  refine zcV_I ⟨hk.1, hk.2⟩ (md' := true) (As := []) (st := []) d_Lw_law_702 ca_GM_redo ml_Lw_102 im_GM_redo se_GM_redo gc_GM hX5.2.1.1 (gm_o2 hX5.2.1) hX5.2.1.2.2.1 rfl (by decide) (by decide) rfl (fun _ => rfl) (fun _ => rfl) T (fun v7 M6 h8 T => ?_)
  refine wp_istore (L' := [.val (.ref b), .val (gR G c), .val (gR G o), .val (gR G w), .val (gI i), .val (gI v3), .val (gI v7), .unset]) d_Lw_law_705 (by decide) rfl ?_
  refine wp_aload_n d_Lw_law_707 rfl rfl (g_nz hX5.2.1.1) ?_
  refine zcV_I ⟨hk.1, hk.2⟩ (md' := true) (As := []) (st := []) d_Lw_law_708 ca_GM_thrown ml_Lw_74 im_GM_thrown se_GM_thrown gc_GM hX5.2.1.1 (gm_o2 hX5.2.1) hX5.2.1.2.2.1 rfl (by decide) (by decide) rfl (fun _ => rfl) (fun _ => rfl) T (fun v10 M9 h11 T => ?_)
  refine wp_iload d_Lw_law_711 rfl ?_
  refine xi_eq (tgt := 718) d_Lw_law_713 (by decide) (w32_id h11) (w32_id h4) (fun h15 => ?_) (fun h15 => ?_)
  · have T := T.1 h15
    refine wp_iload d_Lw_law_718 rfl ?_
    refine xz_ne (tgt := 735) d_Lw_law_720 (by decide) (w32_id h4) (fun h14 => ?_) (fun h14 => ?_)
    · have T := T.1 h14
      refine wp_goto (tgt := 1138) d_Lw_law_735 (by decide) ?_
      exact wp_md (wpt T (And.intro rfl (And.intro rfl (And.intro rfl (And.intro rfl (And.intro rfl True.intro))))))
    · have T := T.2 h14
      refine wp_aload_n d_Lw_law_723 rfl rfl (g_nz hX5.2.2.1) ?_
      refine wp_iconst d_Lw_law_724 ?_
      refine wp_laload d_Lw_law_725 hX5.2.2.1 hX5.2.2.2.1 hX5.2.2.2.2 (g32_n T.1 (by decide)) T.1.1 T.1.2 (fun h12 => ?_)
      have T := T.2 h12
      refine wp_iload d_Lw_law_726 rfl ?_
      refine xi2l d_Lw_law_728 (w32_id h8) ?_
      refine xl_eq (tgt := 735) d_Lw_law_729 d_Lw_law_730 (by decide) (w64_id h12) (w64_id (g64_32 h8)) (fun h13 => ?_) (fun h13 => ?_)
      · have T := T.1 h13
        refine wp_goto (tgt := 1138) d_Lw_law_735 (by decide) ?_
        exact wp_md (wpt T (And.intro rfl (And.intro rfl (And.intro rfl (And.intro rfl (And.intro rfl True.intro))))))
      · have T := T.2 h13
        refine wp_iconst d_Lw_law_733 ?_
        exact wp_zreturn d_Lw_law_734 rfl (g_narz (⟨by decide, by decide⟩ : (0 : Int) ≤ 0 ∧ (0 : Int) ≤ 1)) (fun _ => rfl) hk.1 hk.2 T
  · have T := T.2 h15
    refine wp_iconst d_Lw_law_716 ?_
    exact wp_zreturn d_Lw_law_717 rfl (g_narz (⟨by decide, by decide⟩ : (0 : Int) ≤ 0 ∧ (0 : Int) ≤ 1)) (fun _ => rfl) hk.1 hk.2 T
set_option maxRecDepth 100000 in
set_option maxHeartbeats 16000000 in
theorem w_Lw_law_738 {l : Launch} {G : gG} {X : gX} {M : gM} {K : Outcome → gX → gM → Prop} {cs ss : Nat} {b Ls : Nat} {xs : Nat → Int} (hscr : ∀ U, gSP G U → va_T .int b Ls (fun j => gI (xs j)) (gA G true) U U.heap) (hLs : g32 (Ls : Int)) (hLn : Ls ≤ 2147483648) (hxs : ∀ j, g32 (xs j)) {c o w : Nat} (hX : gLw X c o w) (hk : cs + 1 ≤ room_1.cells ∧ ss + 6 ≤ room_1.slots) {i : Int} (hi : g32 i) (T : ((0 : Int) ≤ (w32 (i + 1)) ∧ (w32 (i + 1)) < (Ls : Int)) ∧ (((0 : Int) ≤ (w32 (i + 2)) ∧ (w32 (i + 2)) < (Ls : Int)) ∧ (((0 : Int) ≤ (w32 (i + 3)) ∧ (w32 (i + 3)) < (Ls : Int)) ∧ (gCh l G y_Lw_value tb_Lw_value (gRr 700 1) true [gR G c, gI (xs (Int.toNat (w32 (i + 1)))), gI (xs (Int.toNat (w32 (i + 2)))), gI (xs (Int.toNat (w32 (i + 3)))), gR G w] X M (fun o1 X4 M5 => ∃ v6, o1 = .returned (some (gI v6)) ∧ g32 v6 ∧ gLw X4 c o w ∧ (((0 : Int) ≤ (w32 (i + 1)) ∧ (w32 (i + 1)) < (Ls : Int)) ∧ (((0 : Int) ≤ (w32 (i + 2)) ∧ (w32 (i + 2)) < (Ls : Int)) ∧ (((0 : Int) ≤ (w32 (i + 3)) ∧ (w32 (i + 3)) < (Ls : Int)) ∧ (cL l G y_GM_value (gRm 700) true [gR G o, gI (xs (Int.toNat (w32 (i + 1)))), gI (xs (Int.toNat (w32 (i + 2)))), gI (xs (Int.toNat (w32 (i + 3))))] X4 M5 (fun v13 M12 => (cI l G y_GM_thrown (gRm 700) false [gR G o] X4 M12 (fun v16 M15 => ((v16 = v6 → ((¬ v6 = 0 → (wp l G y_Lw_law room_1 true K true 1138 [.val (.ref b), .val (gR G c), .val (gR G o), .val (gR G w), .val (gI i), .unset, .unset, .unset] [] X4 M15 (cs + 1) (ss + 6))) ∧ (v6 = 0 → (((0 : Int) ≤ (0 : Int) ∧ (0 : Int) < 1) ∧ (g64 (M15 w (Int.toNat 0)) → ((M15 w (Int.toNat 0) = v13 → (wp l G y_Lw_law room_1 true K true 1138 [.val (.ref b), .val (gR G c), .val (gR G o), .val (gR G w), .val (gI i), .unset, .unset, .unset] [] X4 M15 (cs + 1) (ss + 6))) ∧ (¬ M15 w (Int.toNat 0) = v13 → (K (.returned (some (gI 0))) X4 M15)))))))) ∧ (¬ v16 = v6 → (K (.returned (some (gI 0))) X4 M15))))))))))))))) : wp l G y_Lw_law room_1 true K true 738 [.val (.ref b), .val (gR G c), .val (gR G o), .val (gR G w), .val (gI i), .unset, .unset, .unset] [] X M cs ss := by
  refine wp_aload_n d_Lw_law_738 rfl rfl (g_nz hX.1.1) ?_
  refine wp_oaload_n d_Lw_law_739 rfl rfl ?_
  refine wp_iload d_Lw_law_740 rfl ?_
  refine wp_iconst d_Lw_law_742 ?_
  refine wp_iadd d_Lw_law_743 ?_
  have q1 := T.1
  have T := T.2
  refine xoiald d_Lw_law_744 hscr rfl (g32_n q1 hLn) q1.1 q1.2 ?_
  refine wp_oaload_n d_Lw_law_745 rfl rfl ?_
  refine wp_iload d_Lw_law_746 rfl ?_
  refine wp_iconst d_Lw_law_748 ?_
  refine wp_iadd d_Lw_law_749 ?_
  have q2 := T.1
  have T := T.2
  refine xoiald d_Lw_law_750 hscr rfl (g32_n q2 hLn) q2.1 q2.2 ?_
  refine wp_oaload_n d_Lw_law_751 rfl rfl ?_
  refine wp_iload d_Lw_law_752 rfl ?_
  refine wp_iconst d_Lw_law_754 ?_
  refine wp_iadd d_Lw_law_755 ?_
  have q3 := T.1
  have T := T.2
  refine xoiald d_Lw_law_756 hscr rfl (g32_n q3 hLn) q3.1 q3.2 ?_
  refine wp_aload_n d_Lw_law_757 rfl rfl (g_nz hX.2.2.1) ?_
  refine wp_callH (z := y_Lw_value) (tb := tb_Lw_value) (n := 5) (rm' := gRr 700 1) (md' := true) (As := [gR G c, gI (xs (Int.toNat (w32 (i + 1)))), gI (xs (Int.toNat (w32 (i + 2)))), gI (xs (Int.toNat (w32 (i + 3)))), gR G w]) (st := []) d_Lw_law_758 cw_Lw_value ii_Lw ⟨by decide, by decide⟩ (by decide +kernel) ml_Lw_103 sm_Lw_value T (fun o X' M' h => by obtain ⟨w1, h1, -⟩ := h; exact ⟨_, h1⟩) (fun _ => rfl) (fun _ => rfl) rfl (g_rm2 _ (by decide)) (by decide) hk rfl (fun v0 X4 M5 h => ?_)
  obtain ⟨v6, e1, h7, hX8, T⟩ := h
  cases e1
  refine wp_st (st' := [gI v6]) rfl ?_
  refine wp_istore (L' := [.val (.ref b), .val (gR G c), .val (gR G o), .val (gR G w), .val (gI i), .val (gI v6), .unset, .unset]) d_Lw_law_761 (by decide) rfl ?_
  refine wp_aload_n d_Lw_law_763 rfl rfl (g_nz hX8.2.1.1) ?_
  refine wp_oaload_n d_Lw_law_764 rfl rfl ?_
  refine wp_iload d_Lw_law_765 rfl ?_
  refine wp_iconst d_Lw_law_767 ?_
  refine wp_iadd d_Lw_law_768 ?_
  have q9 := T.1
  have T := T.2
  refine xoiald d_Lw_law_769 hscr rfl (g32_n q9 hLn) q9.1 q9.2 ?_
  refine wp_oaload_n d_Lw_law_770 rfl rfl ?_
  refine wp_iload d_Lw_law_771 rfl ?_
  refine wp_iconst d_Lw_law_773 ?_
  refine wp_iadd d_Lw_law_774 ?_
  have q10 := T.1
  have T := T.2
  refine xoiald d_Lw_law_775 hscr rfl (g32_n q10 hLn) q10.1 q10.2 ?_
  refine wp_oaload_n d_Lw_law_776 rfl rfl ?_
  refine wp_iload d_Lw_law_777 rfl ?_
  refine wp_iconst d_Lw_law_779 ?_
  refine wp_iadd d_Lw_law_780 ?_
  have q11 := T.1
  have T := T.2
  refine xoiald d_Lw_law_781 hscr rfl (g32_n q11 hLn) q11.1 q11.2 ?_
  refine zcV_L ⟨hk.1, hk.2⟩ (md' := true) (As := [gI (xs (Int.toNat (w32 (i + 1)))), gI (xs (Int.toNat (w32 (i + 2)))), gI (xs (Int.toNat (w32 (i + 3))))]) (st := []) d_Lw_law_782 ca_GM_value ml_Lw_106 im_GM_value se_GM_value gc_GM hX8.2.1.1 (gm_o2 hX8.2.1) hX8.2.1.2.2.1 rfl (by decide) (by decide) rfl (fun _ => rfl) (fun _ => rfl) T (fun v13 M12 h14 T => ?_)
  refine wp_lstore (L' := [.val (.ref b), .val (gR G c), .val (gR G o), .val (gR G w), .val (gI i), .val (gI v6), .val (gL v13), .unset]) d_Lw_law_785 (by decide) rfl ?_
  refine wp_aload_n d_Lw_law_787 rfl rfl (g_nz hX8.2.1.1) ?_
  refine zcV_I ⟨hk.1, hk.2⟩ (md' := true) (As := []) (st := []) d_Lw_law_788 ca_GM_thrown ml_Lw_74 im_GM_thrown se_GM_thrown gc_GM hX8.2.1.1 (gm_o2 hX8.2.1) hX8.2.1.2.2.1 rfl (by decide) (by decide) rfl (fun _ => rfl) (fun _ => rfl) T (fun v16 M15 h17 T => ?_)
  refine wp_iload d_Lw_law_791 rfl ?_
  refine xi_eq (tgt := 798) d_Lw_law_793 (by decide) (w32_id h17) (w32_id h7) (fun h21 => ?_) (fun h21 => ?_)
  · have T := T.1 h21
    refine wp_iload d_Lw_law_798 rfl ?_
    refine xz_ne (tgt := 814) d_Lw_law_800 (by decide) (w32_id h7) (fun h20 => ?_) (fun h20 => ?_)
    · have T := T.1 h20
      refine wp_goto (tgt := 1138) d_Lw_law_814 (by decide) ?_
      exact wp_md (wpt T (And.intro rfl (And.intro rfl (And.intro rfl (And.intro rfl (And.intro rfl True.intro))))))
    · have T := T.2 h20
      refine wp_aload_n d_Lw_law_803 rfl rfl (g_nz hX8.2.2.1) ?_
      refine wp_iconst d_Lw_law_804 ?_
      refine wp_laload d_Lw_law_805 hX8.2.2.1 hX8.2.2.2.1 hX8.2.2.2.2 (g32_n T.1 (by decide)) T.1.1 T.1.2 (fun h18 => ?_)
      have T := T.2 h18
      refine wp_lload d_Lw_law_806 rfl ?_
      refine xl_eq (tgt := 814) d_Lw_law_808 d_Lw_law_809 (by decide) (w64_id h18) (w64_id h14) (fun h19 => ?_) (fun h19 => ?_)
      · have T := T.1 h19
        refine wp_goto (tgt := 1138) d_Lw_law_814 (by decide) ?_
        exact wp_md (wpt T (And.intro rfl (And.intro rfl (And.intro rfl (And.intro rfl (And.intro rfl True.intro))))))
      · have T := T.2 h19
        refine wp_iconst d_Lw_law_812 ?_
        exact wp_zreturn d_Lw_law_813 rfl (g_narz (⟨by decide, by decide⟩ : (0 : Int) ≤ 0 ∧ (0 : Int) ≤ 1)) (fun _ => rfl) hk.1 hk.2 T
  · have T := T.2 h21
    refine wp_iconst d_Lw_law_796 ?_
    exact wp_zreturn d_Lw_law_797 rfl (g_narz (⟨by decide, by decide⟩ : (0 : Int) ≤ 0 ∧ (0 : Int) ≤ 1)) (fun _ => rfl) hk.1 hk.2 T
set_option maxRecDepth 100000 in
set_option maxHeartbeats 16000000 in
theorem w_Lw_law_817 {l : Launch} {G : gG} {X : gX} {M : gM} {K : Outcome → gX → gM → Prop} {cs ss : Nat} {b Ls : Nat} {xs : Nat → Int} (hscr : ∀ U, gSP G U → va_T .int b Ls (fun j => gI (xs j)) (gA G true) U U.heap) (hLs : g32 (Ls : Int)) (hLn : Ls ≤ 2147483648) (hxs : ∀ j, g32 (xs j)) {c o w : Nat} (hX : gLw X c o w) (hk : cs + 1 ≤ room_1.cells ∧ ss + 6 ≤ room_1.slots) {i : Int} (hi : g32 i) (T : ((0 : Int) ≤ (w32 (i + 1)) ∧ (w32 (i + 1)) < (Ls : Int)) ∧ (((0 : Int) ≤ (w32 (i + 2)) ∧ (w32 (i + 2)) < (Ls : Int)) ∧ (((0 : Int) ≤ (w32 (i + 3)) ∧ (w32 (i + 3)) < (Ls : Int)) ∧ (gCh l G y_Lw_letter tb_Lw_letter (gRr 700 1) true [gR G c, gI (xs (Int.toNat (w32 (i + 1)))), gI (xs (Int.toNat (w32 (i + 2)))), gI (xs (Int.toNat (w32 (i + 3)))), gR G w] X M (fun o1 X4 M5 => ∃ v6, o1 = .returned (some (gI v6)) ∧ g32 v6 ∧ gLw X4 c o w ∧ (((0 : Int) ≤ (w32 (i + 1)) ∧ (w32 (i + 1)) < (Ls : Int)) ∧ (((0 : Int) ≤ (w32 (i + 2)) ∧ (w32 (i + 2)) < (Ls : Int)) ∧ (((0 : Int) ≤ (w32 (i + 3)) ∧ (w32 (i + 3)) < (Ls : Int)) ∧ (cI l G y_GM_letter_2 (gRm 700) true [gR G o, gI (xs (Int.toNat (w32 (i + 1)))), gI (xs (Int.toNat (w32 (i + 2)))), gI (xs (Int.toNat (w32 (i + 3))))] X4 M5 (fun v13 M12 => (cI l G y_GM_thrown (gRm 700) false [gR G o] X4 M12 (fun v16 M15 => ((v16 = v6 → ((¬ v6 = 0 → (wp l G y_Lw_law room_1 true K true 1138 [.val (.ref b), .val (gR G c), .val (gR G o), .val (gR G w), .val (gI i), .unset, .unset, .unset] [] X4 M15 (cs + 1) (ss + 6))) ∧ (v6 = 0 → (((0 : Int) ≤ (0 : Int) ∧ (0 : Int) < 1) ∧ (g64 (M15 w (Int.toNat 0)) → ((M15 w (Int.toNat 0) = v13 → (wp l G y_Lw_law room_1 true K true 1138 [.val (.ref b), .val (gR G c), .val (gR G o), .val (gR G w), .val (gI i), .unset, .unset, .unset] [] X4 M15 (cs + 1) (ss + 6))) ∧ (¬ M15 w (Int.toNat 0) = v13 → (K (.returned (some (gI 0))) X4 M15)))))))) ∧ (¬ v16 = v6 → (K (.returned (some (gI 0))) X4 M15))))))))))))))) : wp l G y_Lw_law room_1 true K true 817 [.val (.ref b), .val (gR G c), .val (gR G o), .val (gR G w), .val (gI i), .unset, .unset, .unset] [] X M cs ss := by
  refine wp_aload_n d_Lw_law_817 rfl rfl (g_nz hX.1.1) ?_
  refine wp_oaload_n d_Lw_law_818 rfl rfl ?_
  refine wp_iload d_Lw_law_819 rfl ?_
  refine wp_iconst d_Lw_law_821 ?_
  refine wp_iadd d_Lw_law_822 ?_
  have q1 := T.1
  have T := T.2
  refine xoiald d_Lw_law_823 hscr rfl (g32_n q1 hLn) q1.1 q1.2 ?_
  refine wp_oaload_n d_Lw_law_824 rfl rfl ?_
  refine wp_iload d_Lw_law_825 rfl ?_
  refine wp_iconst d_Lw_law_827 ?_
  refine wp_iadd d_Lw_law_828 ?_
  have q2 := T.1
  have T := T.2
  refine xoiald d_Lw_law_829 hscr rfl (g32_n q2 hLn) q2.1 q2.2 ?_
  refine wp_oaload_n d_Lw_law_830 rfl rfl ?_
  refine wp_iload d_Lw_law_831 rfl ?_
  refine wp_iconst d_Lw_law_833 ?_
  refine wp_iadd d_Lw_law_834 ?_
  have q3 := T.1
  have T := T.2
  refine xoiald d_Lw_law_835 hscr rfl (g32_n q3 hLn) q3.1 q3.2 ?_
  refine wp_aload_n d_Lw_law_836 rfl rfl (g_nz hX.2.2.1) ?_
  refine wp_callH (z := y_Lw_letter) (tb := tb_Lw_letter) (n := 5) (rm' := gRr 700 1) (md' := true) (As := [gR G c, gI (xs (Int.toNat (w32 (i + 1)))), gI (xs (Int.toNat (w32 (i + 2)))), gI (xs (Int.toNat (w32 (i + 3)))), gR G w]) (st := []) d_Lw_law_837 cw_Lw_letter ii_Lw ⟨by decide, by decide⟩ (by decide +kernel) ml_Lw_107 sm_Lw_letter T (fun o X' M' h => by obtain ⟨w1, h1, -⟩ := h; exact ⟨_, h1⟩) (fun _ => rfl) (fun _ => rfl) rfl (g_rm2 _ (by decide)) (by decide) hk rfl (fun v0 X4 M5 h => ?_)
  obtain ⟨v6, e1, h7, hX8, T⟩ := h
  cases e1
  refine wp_st (st' := [gI v6]) rfl ?_
  refine wp_istore (L' := [.val (.ref b), .val (gR G c), .val (gR G o), .val (gR G w), .val (gI i), .val (gI v6), .unset, .unset]) d_Lw_law_840 (by decide) rfl ?_
  refine wp_aload_n d_Lw_law_842 rfl rfl (g_nz hX8.2.1.1) ?_
  refine wp_oaload_n d_Lw_law_843 rfl rfl ?_
  refine wp_iload d_Lw_law_844 rfl ?_
  refine wp_iconst d_Lw_law_846 ?_
  refine wp_iadd d_Lw_law_847 ?_
  have q9 := T.1
  have T := T.2
  refine xoiald d_Lw_law_848 hscr rfl (g32_n q9 hLn) q9.1 q9.2 ?_
  refine wp_oaload_n d_Lw_law_849 rfl rfl ?_
  refine wp_iload d_Lw_law_850 rfl ?_
  refine wp_iconst d_Lw_law_852 ?_
  refine wp_iadd d_Lw_law_853 ?_
  have q10 := T.1
  have T := T.2
  refine xoiald d_Lw_law_854 hscr rfl (g32_n q10 hLn) q10.1 q10.2 ?_
  refine wp_oaload_n d_Lw_law_855 rfl rfl ?_
  refine wp_iload d_Lw_law_856 rfl ?_
  refine wp_iconst d_Lw_law_858 ?_
  refine wp_iadd d_Lw_law_859 ?_
  have q11 := T.1
  have T := T.2
  refine xoiald d_Lw_law_860 hscr rfl (g32_n q11 hLn) q11.1 q11.2 ?_
  refine zcV_I ⟨hk.1, hk.2⟩ (md' := true) (As := [gI (xs (Int.toNat (w32 (i + 1)))), gI (xs (Int.toNat (w32 (i + 2)))), gI (xs (Int.toNat (w32 (i + 3))))]) (st := []) d_Lw_law_861 ca_GM_letter_2 ml_Lw_109 im_GM_letter_2 se_GM_letter_2 gc_GM hX8.2.1.1 (gm_o2 hX8.2.1) hX8.2.1.2.2.1 rfl (by decide) (by decide) rfl (fun _ => rfl) (fun _ => rfl) T (fun v13 M12 h14 T => ?_)
  refine wp_istore (L' := [.val (.ref b), .val (gR G c), .val (gR G o), .val (gR G w), .val (gI i), .val (gI v6), .val (gI v13), .unset]) d_Lw_law_864 (by decide) rfl ?_
  refine wp_aload_n d_Lw_law_866 rfl rfl (g_nz hX8.2.1.1) ?_
  refine zcV_I ⟨hk.1, hk.2⟩ (md' := true) (As := []) (st := []) d_Lw_law_867 ca_GM_thrown ml_Lw_74 im_GM_thrown se_GM_thrown gc_GM hX8.2.1.1 (gm_o2 hX8.2.1) hX8.2.1.2.2.1 rfl (by decide) (by decide) rfl (fun _ => rfl) (fun _ => rfl) T (fun v16 M15 h17 T => ?_)
  refine wp_iload d_Lw_law_870 rfl ?_
  refine xi_eq (tgt := 877) d_Lw_law_872 (by decide) (w32_id h17) (w32_id h7) (fun h21 => ?_) (fun h21 => ?_)
  · have T := T.1 h21
    refine wp_iload d_Lw_law_877 rfl ?_
    refine xz_ne (tgt := 894) d_Lw_law_879 (by decide) (w32_id h7) (fun h20 => ?_) (fun h20 => ?_)
    · have T := T.1 h20
      refine wp_goto (tgt := 1138) d_Lw_law_894 (by decide) ?_
      exact wp_md (wpt T (And.intro rfl (And.intro rfl (And.intro rfl (And.intro rfl (And.intro rfl True.intro))))))
    · have T := T.2 h20
      refine wp_aload_n d_Lw_law_882 rfl rfl (g_nz hX8.2.2.1) ?_
      refine wp_iconst d_Lw_law_883 ?_
      refine wp_laload d_Lw_law_884 hX8.2.2.1 hX8.2.2.2.1 hX8.2.2.2.2 (g32_n T.1 (by decide)) T.1.1 T.1.2 (fun h18 => ?_)
      have T := T.2 h18
      refine wp_iload d_Lw_law_885 rfl ?_
      refine xi2l d_Lw_law_887 (w32_id h14) ?_
      refine xl_eq (tgt := 894) d_Lw_law_888 d_Lw_law_889 (by decide) (w64_id h18) (w64_id (g64_32 h14)) (fun h19 => ?_) (fun h19 => ?_)
      · have T := T.1 h19
        refine wp_goto (tgt := 1138) d_Lw_law_894 (by decide) ?_
        exact wp_md (wpt T (And.intro rfl (And.intro rfl (And.intro rfl (And.intro rfl (And.intro rfl True.intro))))))
      · have T := T.2 h19
        refine wp_iconst d_Lw_law_892 ?_
        exact wp_zreturn d_Lw_law_893 rfl (g_narz (⟨by decide, by decide⟩ : (0 : Int) ≤ 0 ∧ (0 : Int) ≤ 1)) (fun _ => rfl) hk.1 hk.2 T
  · have T := T.2 h21
    refine wp_iconst d_Lw_law_875 ?_
    exact wp_zreturn d_Lw_law_876 rfl (g_narz (⟨by decide, by decide⟩ : (0 : Int) ≤ 0 ∧ (0 : Int) ≤ 1)) (fun _ => rfl) hk.1 hk.2 T
set_option maxRecDepth 100000 in
set_option maxHeartbeats 16000000 in
theorem w_Lw_law_897 {l : Launch} {G : gG} {X : gX} {M : gM} {K : Outcome → gX → gM → Prop} {cs ss : Nat} {b Ls : Nat} {xs : Nat → Int} (hscr : ∀ U, gSP G U → va_T .int b Ls (fun j => gI (xs j)) (gA G true) U U.heap) (hLs : g32 (Ls : Int)) (hLn : Ls ≤ 2147483648) (hxs : ∀ j, g32 (xs j)) {c o w : Nat} (hX : gLw X c o w) (hk : cs + 1 ≤ room_1.cells ∧ ss + 6 ≤ room_1.slots) {i : Int} (hi : g32 i) (T : ((0 : Int) ≤ (w32 (i + 1)) ∧ (w32 (i + 1)) < (Ls : Int)) ∧ (((0 : Int) ≤ (w32 (i + 2)) ∧ (w32 (i + 2)) < (Ls : Int)) ∧ (((0 : Int) ≤ (w32 (i + 3)) ∧ (w32 (i + 3)) < (Ls : Int)) ∧ (gCh l G y_Lw_content tb_Lw_content (gRr 700 1) true [gR G c, gI (xs (Int.toNat (w32 (i + 1)))), gI (xs (Int.toNat (w32 (i + 2)))), gI (xs (Int.toNat (w32 (i + 3)))), gR G w] X M (fun o1 X4 M5 => ∃ v6, o1 = .returned (some (gI v6)) ∧ g32 v6 ∧ gLw X4 c o w ∧ (((0 : Int) ≤ (w32 (i + 1)) ∧ (w32 (i + 1)) < (Ls : Int)) ∧ (((0 : Int) ≤ (w32 (i + 2)) ∧ (w32 (i + 2)) < (Ls : Int)) ∧ (((0 : Int) ≤ (w32 (i + 3)) ∧ (w32 (i + 3)) < (Ls : Int)) ∧ (cI l G y_GM_content (gRm 700) true [gR G o, gI (xs (Int.toNat (w32 (i + 1)))), gI (xs (Int.toNat (w32 (i + 2)))), gI (xs (Int.toNat (w32 (i + 3))))] X4 M5 (fun v13 M12 => (cI l G y_GM_thrown (gRm 700) false [gR G o] X4 M12 (fun v16 M15 => ((v16 = v6 → ((¬ v6 = 0 → (wp l G y_Lw_law room_1 true K true 1138 [.val (.ref b), .val (gR G c), .val (gR G o), .val (gR G w), .val (gI i), .unset, .unset, .unset] [] X4 M15 (cs + 1) (ss + 6))) ∧ (v6 = 0 → (((0 : Int) ≤ (0 : Int) ∧ (0 : Int) < 1) ∧ (g64 (M15 w (Int.toNat 0)) → ((M15 w (Int.toNat 0) = v13 → (wp l G y_Lw_law room_1 true K true 1138 [.val (.ref b), .val (gR G c), .val (gR G o), .val (gR G w), .val (gI i), .unset, .unset, .unset] [] X4 M15 (cs + 1) (ss + 6))) ∧ (¬ M15 w (Int.toNat 0) = v13 → (K (.returned (some (gI 0))) X4 M15)))))))) ∧ (¬ v16 = v6 → (K (.returned (some (gI 0))) X4 M15))))))))))))))) : wp l G y_Lw_law room_1 true K true 897 [.val (.ref b), .val (gR G c), .val (gR G o), .val (gR G w), .val (gI i), .unset, .unset, .unset] [] X M cs ss := by
  refine wp_aload_n d_Lw_law_897 rfl rfl (g_nz hX.1.1) ?_
  refine wp_oaload_n d_Lw_law_898 rfl rfl ?_
  refine wp_iload d_Lw_law_899 rfl ?_
  refine wp_iconst d_Lw_law_901 ?_
  refine wp_iadd d_Lw_law_902 ?_
  have q1 := T.1
  have T := T.2
  refine xoiald d_Lw_law_903 hscr rfl (g32_n q1 hLn) q1.1 q1.2 ?_
  refine wp_oaload_n d_Lw_law_904 rfl rfl ?_
  refine wp_iload d_Lw_law_905 rfl ?_
  refine wp_iconst d_Lw_law_907 ?_
  refine wp_iadd d_Lw_law_908 ?_
  have q2 := T.1
  have T := T.2
  refine xoiald d_Lw_law_909 hscr rfl (g32_n q2 hLn) q2.1 q2.2 ?_
  refine wp_oaload_n d_Lw_law_910 rfl rfl ?_
  refine wp_iload d_Lw_law_911 rfl ?_
  refine wp_iconst d_Lw_law_913 ?_
  refine wp_iadd d_Lw_law_914 ?_
  have q3 := T.1
  have T := T.2
  refine xoiald d_Lw_law_915 hscr rfl (g32_n q3 hLn) q3.1 q3.2 ?_
  refine wp_aload_n d_Lw_law_916 rfl rfl (g_nz hX.2.2.1) ?_
  refine wp_callH (z := y_Lw_content) (tb := tb_Lw_content) (n := 5) (rm' := gRr 700 1) (md' := true) (As := [gR G c, gI (xs (Int.toNat (w32 (i + 1)))), gI (xs (Int.toNat (w32 (i + 2)))), gI (xs (Int.toNat (w32 (i + 3)))), gR G w]) (st := []) d_Lw_law_917 cw_Lw_content ii_Lw ⟨by decide, by decide⟩ (by decide +kernel) ml_Lw_110 sm_Lw_content T (fun o X' M' h => by obtain ⟨w1, h1, -⟩ := h; exact ⟨_, h1⟩) (fun _ => rfl) (fun _ => rfl) rfl (g_rm2 _ (by decide)) (by decide) hk rfl (fun v0 X4 M5 h => ?_)
  obtain ⟨v6, e1, h7, hX8, T⟩ := h
  cases e1
  refine wp_st (st' := [gI v6]) rfl ?_
  refine wp_istore (L' := [.val (.ref b), .val (gR G c), .val (gR G o), .val (gR G w), .val (gI i), .val (gI v6), .unset, .unset]) d_Lw_law_920 (by decide) rfl ?_
  refine wp_aload_n d_Lw_law_922 rfl rfl (g_nz hX8.2.1.1) ?_
  refine wp_oaload_n d_Lw_law_923 rfl rfl ?_
  refine wp_iload d_Lw_law_924 rfl ?_
  refine wp_iconst d_Lw_law_926 ?_
  refine wp_iadd d_Lw_law_927 ?_
  have q9 := T.1
  have T := T.2
  refine xoiald d_Lw_law_928 hscr rfl (g32_n q9 hLn) q9.1 q9.2 ?_
  refine wp_oaload_n d_Lw_law_929 rfl rfl ?_
  refine wp_iload d_Lw_law_930 rfl ?_
  refine wp_iconst d_Lw_law_932 ?_
  refine wp_iadd d_Lw_law_933 ?_
  have q10 := T.1
  have T := T.2
  refine xoiald d_Lw_law_934 hscr rfl (g32_n q10 hLn) q10.1 q10.2 ?_
  refine wp_oaload_n d_Lw_law_935 rfl rfl ?_
  refine wp_iload d_Lw_law_936 rfl ?_
  refine wp_iconst d_Lw_law_938 ?_
  refine wp_iadd d_Lw_law_939 ?_
  have q11 := T.1
  have T := T.2
  refine xoiald d_Lw_law_940 hscr rfl (g32_n q11 hLn) q11.1 q11.2 ?_
  refine zcV_I ⟨hk.1, hk.2⟩ (md' := true) (As := [gI (xs (Int.toNat (w32 (i + 1)))), gI (xs (Int.toNat (w32 (i + 2)))), gI (xs (Int.toNat (w32 (i + 3))))]) (st := []) d_Lw_law_941 ca_GM_content ml_Lw_112 im_GM_content se_GM_content gc_GM hX8.2.1.1 (gm_o2 hX8.2.1) hX8.2.1.2.2.1 rfl (by decide) (by decide) rfl (fun _ => rfl) (fun _ => rfl) T (fun v13 M12 h14 T => ?_)
  refine wp_istore (L' := [.val (.ref b), .val (gR G c), .val (gR G o), .val (gR G w), .val (gI i), .val (gI v6), .val (gI v13), .unset]) d_Lw_law_944 (by decide) rfl ?_
  refine wp_aload_n d_Lw_law_946 rfl rfl (g_nz hX8.2.1.1) ?_
  refine zcV_I ⟨hk.1, hk.2⟩ (md' := true) (As := []) (st := []) d_Lw_law_947 ca_GM_thrown ml_Lw_74 im_GM_thrown se_GM_thrown gc_GM hX8.2.1.1 (gm_o2 hX8.2.1) hX8.2.1.2.2.1 rfl (by decide) (by decide) rfl (fun _ => rfl) (fun _ => rfl) T (fun v16 M15 h17 T => ?_)
  refine wp_iload d_Lw_law_950 rfl ?_
  refine xi_eq (tgt := 957) d_Lw_law_952 (by decide) (w32_id h17) (w32_id h7) (fun h21 => ?_) (fun h21 => ?_)
  · have T := T.1 h21
    refine wp_iload d_Lw_law_957 rfl ?_
    refine xz_ne (tgt := 974) d_Lw_law_959 (by decide) (w32_id h7) (fun h20 => ?_) (fun h20 => ?_)
    · have T := T.1 h20
      refine wp_goto (tgt := 1138) d_Lw_law_974 (by decide) ?_
      exact wp_md (wpt T (And.intro rfl (And.intro rfl (And.intro rfl (And.intro rfl (And.intro rfl True.intro))))))
    · have T := T.2 h20
      refine wp_aload_n d_Lw_law_962 rfl rfl (g_nz hX8.2.2.1) ?_
      refine wp_iconst d_Lw_law_963 ?_
      refine wp_laload d_Lw_law_964 hX8.2.2.1 hX8.2.2.2.1 hX8.2.2.2.2 (g32_n T.1 (by decide)) T.1.1 T.1.2 (fun h18 => ?_)
      have T := T.2 h18
      refine wp_iload d_Lw_law_965 rfl ?_
      refine xi2l d_Lw_law_967 (w32_id h14) ?_
      refine xl_eq (tgt := 974) d_Lw_law_968 d_Lw_law_969 (by decide) (w64_id h18) (w64_id (g64_32 h14)) (fun h19 => ?_) (fun h19 => ?_)
      · have T := T.1 h19
        refine wp_goto (tgt := 1138) d_Lw_law_974 (by decide) ?_
        exact wp_md (wpt T (And.intro rfl (And.intro rfl (And.intro rfl (And.intro rfl (And.intro rfl True.intro))))))
      · have T := T.2 h19
        refine wp_iconst d_Lw_law_972 ?_
        exact wp_zreturn d_Lw_law_973 rfl (g_narz (⟨by decide, by decide⟩ : (0 : Int) ≤ 0 ∧ (0 : Int) ≤ 1)) (fun _ => rfl) hk.1 hk.2 T
  · have T := T.2 h21
    refine wp_iconst d_Lw_law_955 ?_
    exact wp_zreturn d_Lw_law_956 rfl (g_narz (⟨by decide, by decide⟩ : (0 : Int) ≤ 0 ∧ (0 : Int) ≤ 1)) (fun _ => rfl) hk.1 hk.2 T
set_option maxRecDepth 100000 in
set_option maxHeartbeats 16000000 in
theorem w_Lw_law_977 {l : Launch} {G : gG} {X : gX} {M : gM} {K : Outcome → gX → gM → Prop} {cs ss : Nat} {b Ls : Nat} {xs : Nat → Int} (hscr : ∀ U, gSP G U → va_T .int b Ls (fun j => gI (xs j)) (gA G true) U U.heap) (hLs : g32 (Ls : Int)) (hLn : Ls ≤ 2147483648) (hxs : ∀ j, g32 (xs j)) {c o w : Nat} (hX : gLw X c o w) (hk : cs + 1 ≤ room_1.cells ∧ ss + 6 ≤ room_1.slots) {i : Int} (hi : g32 i) (T : ((0 : Int) ≤ (w32 (i + 1)) ∧ (w32 (i + 1)) < (Ls : Int)) ∧ (((0 : Int) ≤ (w32 (i + 2)) ∧ (w32 (i + 2)) < (Ls : Int)) ∧ (((0 : Int) ≤ (w32 (i + 3)) ∧ (w32 (i + 3)) < (Ls : Int)) ∧ (gCh l G y_Lw_reference tb_Lw_reference (gRr 700 1) true [gR G c, gI (xs (Int.toNat (w32 (i + 1)))), gI (xs (Int.toNat (w32 (i + 2)))), gI (xs (Int.toNat (w32 (i + 3)))), gR G w] X M (fun o1 X4 M5 => ∃ v6, o1 = .returned (some (gI v6)) ∧ g32 v6 ∧ gLw X4 c o w ∧ (((0 : Int) ≤ (w32 (i + 1)) ∧ (w32 (i + 1)) < (Ls : Int)) ∧ (((0 : Int) ≤ (w32 (i + 2)) ∧ (w32 (i + 2)) < (Ls : Int)) ∧ (((0 : Int) ≤ (w32 (i + 3)) ∧ (w32 (i + 3)) < (Ls : Int)) ∧ (cI l G y_GM_reference (gRm 700) true [gR G o, gI (xs (Int.toNat (w32 (i + 1)))), gI (xs (Int.toNat (w32 (i + 2)))), gI (xs (Int.toNat (w32 (i + 3))))] X4 M5 (fun v13 M12 => (cI l G y_GM_thrown (gRm 700) false [gR G o] X4 M12 (fun v16 M15 => ((v16 = v6 → ((¬ v6 = 0 → (wp l G y_Lw_law room_1 true K true 1138 [.val (.ref b), .val (gR G c), .val (gR G o), .val (gR G w), .val (gI i), .unset, .unset, .unset] [] X4 M15 (cs + 1) (ss + 6))) ∧ (v6 = 0 → (((0 : Int) ≤ (0 : Int) ∧ (0 : Int) < 1) ∧ (g64 (M15 w (Int.toNat 0)) → ((M15 w (Int.toNat 0) = v13 → (wp l G y_Lw_law room_1 true K true 1138 [.val (.ref b), .val (gR G c), .val (gR G o), .val (gR G w), .val (gI i), .unset, .unset, .unset] [] X4 M15 (cs + 1) (ss + 6))) ∧ (¬ M15 w (Int.toNat 0) = v13 → (K (.returned (some (gI 0))) X4 M15)))))))) ∧ (¬ v16 = v6 → (K (.returned (some (gI 0))) X4 M15))))))))))))))) : wp l G y_Lw_law room_1 true K true 977 [.val (.ref b), .val (gR G c), .val (gR G o), .val (gR G w), .val (gI i), .unset, .unset, .unset] [] X M cs ss := by
  refine wp_aload_n d_Lw_law_977 rfl rfl (g_nz hX.1.1) ?_
  refine wp_oaload_n d_Lw_law_978 rfl rfl ?_
  refine wp_iload d_Lw_law_979 rfl ?_
  refine wp_iconst d_Lw_law_981 ?_
  refine wp_iadd d_Lw_law_982 ?_
  have q1 := T.1
  have T := T.2
  refine xoiald d_Lw_law_983 hscr rfl (g32_n q1 hLn) q1.1 q1.2 ?_
  refine wp_oaload_n d_Lw_law_984 rfl rfl ?_
  refine wp_iload d_Lw_law_985 rfl ?_
  refine wp_iconst d_Lw_law_987 ?_
  refine wp_iadd d_Lw_law_988 ?_
  have q2 := T.1
  have T := T.2
  refine xoiald d_Lw_law_989 hscr rfl (g32_n q2 hLn) q2.1 q2.2 ?_
  refine wp_oaload_n d_Lw_law_990 rfl rfl ?_
  refine wp_iload d_Lw_law_991 rfl ?_
  refine wp_iconst d_Lw_law_993 ?_
  refine wp_iadd d_Lw_law_994 ?_
  have q3 := T.1
  have T := T.2
  refine xoiald d_Lw_law_995 hscr rfl (g32_n q3 hLn) q3.1 q3.2 ?_
  refine wp_aload_n d_Lw_law_996 rfl rfl (g_nz hX.2.2.1) ?_
  refine wp_callH (z := y_Lw_reference) (tb := tb_Lw_reference) (n := 5) (rm' := gRr 700 1) (md' := true) (As := [gR G c, gI (xs (Int.toNat (w32 (i + 1)))), gI (xs (Int.toNat (w32 (i + 2)))), gI (xs (Int.toNat (w32 (i + 3)))), gR G w]) (st := []) d_Lw_law_997 cw_Lw_reference ii_Lw ⟨by decide, by decide⟩ (by decide +kernel) ml_Lw_113 sm_Lw_reference T (fun o X' M' h => by obtain ⟨w1, h1, -⟩ := h; exact ⟨_, h1⟩) (fun _ => rfl) (fun _ => rfl) rfl (g_rm2 _ (by decide)) (by decide) hk rfl (fun v0 X4 M5 h => ?_)
  obtain ⟨v6, e1, h7, hX8, T⟩ := h
  cases e1
  refine wp_st (st' := [gI v6]) rfl ?_
  refine wp_istore (L' := [.val (.ref b), .val (gR G c), .val (gR G o), .val (gR G w), .val (gI i), .val (gI v6), .unset, .unset]) d_Lw_law_1000 (by decide) rfl ?_
  refine wp_aload_n d_Lw_law_1002 rfl rfl (g_nz hX8.2.1.1) ?_
  refine wp_oaload_n d_Lw_law_1003 rfl rfl ?_
  refine wp_iload d_Lw_law_1004 rfl ?_
  refine wp_iconst d_Lw_law_1006 ?_
  refine wp_iadd d_Lw_law_1007 ?_
  have q9 := T.1
  have T := T.2
  refine xoiald d_Lw_law_1008 hscr rfl (g32_n q9 hLn) q9.1 q9.2 ?_
  refine wp_oaload_n d_Lw_law_1009 rfl rfl ?_
  refine wp_iload d_Lw_law_1010 rfl ?_
  refine wp_iconst d_Lw_law_1012 ?_
  refine wp_iadd d_Lw_law_1013 ?_
  have q10 := T.1
  have T := T.2
  refine xoiald d_Lw_law_1014 hscr rfl (g32_n q10 hLn) q10.1 q10.2 ?_
  refine wp_oaload_n d_Lw_law_1015 rfl rfl ?_
  refine wp_iload d_Lw_law_1016 rfl ?_
  refine wp_iconst d_Lw_law_1018 ?_
  refine wp_iadd d_Lw_law_1019 ?_
  have q11 := T.1
  have T := T.2
  refine xoiald d_Lw_law_1020 hscr rfl (g32_n q11 hLn) q11.1 q11.2 ?_
  refine zcV_I ⟨hk.1, hk.2⟩ (md' := true) (As := [gI (xs (Int.toNat (w32 (i + 1)))), gI (xs (Int.toNat (w32 (i + 2)))), gI (xs (Int.toNat (w32 (i + 3))))]) (st := []) d_Lw_law_1021 ca_GM_reference ml_Lw_115 im_GM_reference se_GM_reference gc_GM hX8.2.1.1 (gm_o2 hX8.2.1) hX8.2.1.2.2.1 rfl (by decide) (by decide) rfl (fun _ => rfl) (fun _ => rfl) T (fun v13 M12 h14 T => ?_)
  refine wp_istore (L' := [.val (.ref b), .val (gR G c), .val (gR G o), .val (gR G w), .val (gI i), .val (gI v6), .val (gI v13), .unset]) d_Lw_law_1024 (by decide) rfl ?_
  refine wp_aload_n d_Lw_law_1026 rfl rfl (g_nz hX8.2.1.1) ?_
  refine zcV_I ⟨hk.1, hk.2⟩ (md' := true) (As := []) (st := []) d_Lw_law_1027 ca_GM_thrown ml_Lw_74 im_GM_thrown se_GM_thrown gc_GM hX8.2.1.1 (gm_o2 hX8.2.1) hX8.2.1.2.2.1 rfl (by decide) (by decide) rfl (fun _ => rfl) (fun _ => rfl) T (fun v16 M15 h17 T => ?_)
  refine wp_iload d_Lw_law_1030 rfl ?_
  refine xi_eq (tgt := 1037) d_Lw_law_1032 (by decide) (w32_id h17) (w32_id h7) (fun h21 => ?_) (fun h21 => ?_)
  · have T := T.1 h21
    refine wp_iload d_Lw_law_1037 rfl ?_
    refine xz_ne (tgt := 1054) d_Lw_law_1039 (by decide) (w32_id h7) (fun h20 => ?_) (fun h20 => ?_)
    · have T := T.1 h20
      refine wp_goto (tgt := 1138) d_Lw_law_1054 (by decide) ?_
      exact wp_md (wpt T (And.intro rfl (And.intro rfl (And.intro rfl (And.intro rfl (And.intro rfl True.intro))))))
    · have T := T.2 h20
      refine wp_aload_n d_Lw_law_1042 rfl rfl (g_nz hX8.2.2.1) ?_
      refine wp_iconst d_Lw_law_1043 ?_
      refine wp_laload d_Lw_law_1044 hX8.2.2.1 hX8.2.2.2.1 hX8.2.2.2.2 (g32_n T.1 (by decide)) T.1.1 T.1.2 (fun h18 => ?_)
      have T := T.2 h18
      refine wp_iload d_Lw_law_1045 rfl ?_
      refine xi2l d_Lw_law_1047 (w32_id h14) ?_
      refine xl_eq (tgt := 1054) d_Lw_law_1048 d_Lw_law_1049 (by decide) (w64_id h18) (w64_id (g64_32 h14)) (fun h19 => ?_) (fun h19 => ?_)
      · have T := T.1 h19
        refine wp_goto (tgt := 1138) d_Lw_law_1054 (by decide) ?_
        exact wp_md (wpt T (And.intro rfl (And.intro rfl (And.intro rfl (And.intro rfl (And.intro rfl True.intro))))))
      · have T := T.2 h19
        refine wp_iconst d_Lw_law_1052 ?_
        exact wp_zreturn d_Lw_law_1053 rfl (g_narz (⟨by decide, by decide⟩ : (0 : Int) ≤ 0 ∧ (0 : Int) ≤ 1)) (fun _ => rfl) hk.1 hk.2 T
  · have T := T.2 h21
    refine wp_iconst d_Lw_law_1035 ?_
    exact wp_zreturn d_Lw_law_1036 rfl (g_narz (⟨by decide, by decide⟩ : (0 : Int) ≤ 0 ∧ (0 : Int) ≤ 1)) (fun _ => rfl) hk.1 hk.2 T
set_option maxRecDepth 100000 in
set_option maxHeartbeats 16000000 in
theorem w_Lw_law_1057 {l : Launch} {G : gG} {X : gX} {M : gM} {K : Outcome → gX → gM → Prop} {cs ss : Nat} {b Ls : Nat} {xs : Nat → Int} (hscr : ∀ U, gSP G U → va_T .int b Ls (fun j => gI (xs j)) (gA G true) U U.heap) (hLs : g32 (Ls : Int)) (hLn : Ls ≤ 2147483648) (hxs : ∀ j, g32 (xs j)) {c o w : Nat} (hX : gLw X c o w) (hk : cs + 1 ≤ room_1.cells ∧ ss + 6 ≤ room_1.slots) {i : Int} (hi : g32 i) (T : ((0 : Int) ≤ (w32 (i + 1)) ∧ (w32 (i + 1)) < (Ls : Int)) ∧ (gCh l G y_Lw_changed tb_Lw_changed (gRr 700 1) true [gR G c, gI (xs (Int.toNat (w32 (i + 1)))), gR G w] X M (fun o1 X2 M3 => ∃ v4, o1 = .returned (some (gI v4)) ∧ g32 v4 ∧ gLw X2 c o w ∧ (((0 : Int) ≤ (w32 (i + 1)) ∧ (w32 (i + 1)) < (Ls : Int)) ∧ (cI l G y_GM_changed (gRm 700) true [gR G o, gI (xs (Int.toNat (w32 (i + 1))))] X2 M3 (fun v9 M8 => (cI l G y_GM_thrown (gRm 700) false [gR G o] X2 M8 (fun v12 M11 => ((v12 = v4 → ((¬ v4 = 0 → (wp l G y_Lw_law room_1 true K true 1138 [.val (.ref b), .val (gR G c), .val (gR G o), .val (gR G w), .val (gI i), .unset, .unset, .unset] [] X2 M11 (cs + 1) (ss + 6))) ∧ (v4 = 0 → (((0 : Int) ≤ (0 : Int) ∧ (0 : Int) < 1) ∧ (g64 (M11 w (Int.toNat 0)) → ((M11 w (Int.toNat 0) = v9 → (wp l G y_Lw_law room_1 true K true 1138 [.val (.ref b), .val (gR G c), .val (gR G o), .val (gR G w), .val (gI i), .unset, .unset, .unset] [] X2 M11 (cs + 1) (ss + 6))) ∧ (¬ M11 w (Int.toNat 0) = v9 → (K (.returned (some (gI 0))) X2 M11)))))))) ∧ (¬ v12 = v4 → (K (.returned (some (gI 0))) X2 M11))))))))))) : wp l G y_Lw_law room_1 true K true 1057 [.val (.ref b), .val (gR G c), .val (gR G o), .val (gR G w), .val (gI i), .unset, .unset, .unset] [] X M cs ss := by
  refine wp_aload_n d_Lw_law_1057 rfl rfl (g_nz hX.1.1) ?_
  refine wp_oaload_n d_Lw_law_1058 rfl rfl ?_
  refine wp_iload d_Lw_law_1059 rfl ?_
  refine wp_iconst d_Lw_law_1061 ?_
  refine wp_iadd d_Lw_law_1062 ?_
  have q1 := T.1
  have T := T.2
  refine xoiald d_Lw_law_1063 hscr rfl (g32_n q1 hLn) q1.1 q1.2 ?_
  refine wp_aload_n d_Lw_law_1064 rfl rfl (g_nz hX.2.2.1) ?_
  refine wp_callH (z := y_Lw_changed) (tb := tb_Lw_changed) (n := 3) (rm' := gRr 700 1) (md' := true) (As := [gR G c, gI (xs (Int.toNat (w32 (i + 1)))), gR G w]) (st := []) d_Lw_law_1065 cw_Lw_changed ii_Lw ⟨by decide, by decide⟩ (by decide +kernel) ml_Lw_116 sm_Lw_changed T (fun o X' M' h => by obtain ⟨w1, h1, -⟩ := h; exact ⟨_, h1⟩) (fun _ => rfl) (fun _ => rfl) rfl (g_rm2 _ (by decide)) (by decide) hk rfl (fun v0 X2 M3 h => ?_)
  obtain ⟨v4, e1, h5, hX6, T⟩ := h
  cases e1
  refine wp_st (st' := [gI v4]) rfl ?_
  refine wp_istore (L' := [.val (.ref b), .val (gR G c), .val (gR G o), .val (gR G w), .val (gI i), .val (gI v4), .unset, .unset]) d_Lw_law_1068 (by decide) rfl ?_
  refine wp_aload_n d_Lw_law_1070 rfl rfl (g_nz hX6.2.1.1) ?_
  refine wp_oaload_n d_Lw_law_1071 rfl rfl ?_
  refine wp_iload d_Lw_law_1072 rfl ?_
  refine wp_iconst d_Lw_law_1074 ?_
  refine wp_iadd d_Lw_law_1075 ?_
  have q7 := T.1
  have T := T.2
  refine xoiald d_Lw_law_1076 hscr rfl (g32_n q7 hLn) q7.1 q7.2 ?_
  refine zcV_I ⟨hk.1, hk.2⟩ (md' := true) (As := [gI (xs (Int.toNat (w32 (i + 1))))]) (st := []) d_Lw_law_1077 ca_GM_changed ml_Lw_118 im_GM_changed se_GM_changed gc_GM hX6.2.1.1 (gm_o2 hX6.2.1) hX6.2.1.2.2.1 rfl (by decide) (by decide) rfl (fun _ => rfl) (fun _ => rfl) T (fun v9 M8 h10 T => ?_)
  refine wp_istore (L' := [.val (.ref b), .val (gR G c), .val (gR G o), .val (gR G w), .val (gI i), .val (gI v4), .val (gI v9), .unset]) d_Lw_law_1080 (by decide) rfl ?_
  refine wp_aload_n d_Lw_law_1082 rfl rfl (g_nz hX6.2.1.1) ?_
  refine zcV_I ⟨hk.1, hk.2⟩ (md' := true) (As := []) (st := []) d_Lw_law_1083 ca_GM_thrown ml_Lw_74 im_GM_thrown se_GM_thrown gc_GM hX6.2.1.1 (gm_o2 hX6.2.1) hX6.2.1.2.2.1 rfl (by decide) (by decide) rfl (fun _ => rfl) (fun _ => rfl) T (fun v12 M11 h13 T => ?_)
  refine wp_iload d_Lw_law_1086 rfl ?_
  refine xi_eq (tgt := 1093) d_Lw_law_1088 (by decide) (w32_id h13) (w32_id h5) (fun h17 => ?_) (fun h17 => ?_)
  · have T := T.1 h17
    refine wp_iload d_Lw_law_1093 rfl ?_
    refine xz_ne (tgt := 1110) d_Lw_law_1095 (by decide) (w32_id h5) (fun h16 => ?_) (fun h16 => ?_)
    · have T := T.1 h16
      refine wp_goto (tgt := 1138) d_Lw_law_1110 (by decide) ?_
      exact wp_md (wpt T (And.intro rfl (And.intro rfl (And.intro rfl (And.intro rfl (And.intro rfl True.intro))))))
    · have T := T.2 h16
      refine wp_aload_n d_Lw_law_1098 rfl rfl (g_nz hX6.2.2.1) ?_
      refine wp_iconst d_Lw_law_1099 ?_
      refine wp_laload d_Lw_law_1100 hX6.2.2.1 hX6.2.2.2.1 hX6.2.2.2.2 (g32_n T.1 (by decide)) T.1.1 T.1.2 (fun h14 => ?_)
      have T := T.2 h14
      refine wp_iload d_Lw_law_1101 rfl ?_
      refine xi2l d_Lw_law_1103 (w32_id h10) ?_
      refine xl_eq (tgt := 1110) d_Lw_law_1104 d_Lw_law_1105 (by decide) (w64_id h14) (w64_id (g64_32 h10)) (fun h15 => ?_) (fun h15 => ?_)
      · have T := T.1 h15
        refine wp_goto (tgt := 1138) d_Lw_law_1110 (by decide) ?_
        exact wp_md (wpt T (And.intro rfl (And.intro rfl (And.intro rfl (And.intro rfl (And.intro rfl True.intro))))))
      · have T := T.2 h15
        refine wp_iconst d_Lw_law_1108 ?_
        exact wp_zreturn d_Lw_law_1109 rfl (g_narz (⟨by decide, by decide⟩ : (0 : Int) ≤ 0 ∧ (0 : Int) ≤ 1)) (fun _ => rfl) hk.1 hk.2 T
  · have T := T.2 h17
    refine wp_iconst d_Lw_law_1091 ?_
    exact wp_zreturn d_Lw_law_1092 rfl (g_narz (⟨by decide, by decide⟩ : (0 : Int) ≤ 0 ∧ (0 : Int) ≤ 1)) (fun _ => rfl) hk.1 hk.2 T
set_option maxRecDepth 100000 in
set_option maxHeartbeats 16000000 in
theorem w_Lw_law_1113 {l : Launch} {G : gG} {X : gX} {M : gM} {K : Outcome → gX → gM → Prop} {cs ss : Nat} {b Ls : Nat} {xs : Nat → Int} (hscr : ∀ U, gSP G U → va_T .int b Ls (fun j => gI (xs j)) (gA G true) U U.heap) (hLs : g32 (Ls : Int)) (hLn : Ls ≤ 2147483648) (hxs : ∀ j, g32 (xs j)) {c o w : Nat} (hX : gLw X c o w) (hk : cs + 1 ≤ room_1.cells ∧ ss + 6 ≤ room_1.slots) {i : Int} (hi : g32 i) (T : ((0 : Int) ≤ (w32 (i + 1)) ∧ (w32 (i + 1)) < (Ls : Int)) ∧ (cI l G y_GL_count (gRm 700) false [gR G c, gI (xs (Int.toNat (w32 (i + 1))))] X M (fun v3 M2 => (((0 : Int) ≤ (w32 (i + 1)) ∧ (w32 (i + 1)) < (Ls : Int)) ∧ (cI l G y_GM_count (gRm 700) true [gR G o, gI (xs (Int.toNat (w32 (i + 1))))] X M2 (fun v7 M6 => ((v3 = v7 → (wp l G y_Lw_law room_1 true K true 1138 [.val (.ref b), .val (gR G c), .val (gR G o), .val (gR G w), .val (gI i), .unset, .unset, .unset] [] X M6 cs ss)) ∧ (¬ v3 = v7 → (K (.returned (some (gI 0))) X M6))))))))) : wp l G y_Lw_law room_1 true K true 1113 [.val (.ref b), .val (gR G c), .val (gR G o), .val (gR G w), .val (gI i), .unset, .unset, .unset] [] X M cs ss := by
  refine wp_aload_n d_Lw_law_1113 rfl rfl (g_nz hX.1.1) ?_
  refine wp_oaload_n d_Lw_law_1114 rfl rfl ?_
  refine wp_iload d_Lw_law_1115 rfl ?_
  refine wp_iconst d_Lw_law_1117 ?_
  refine wp_iadd d_Lw_law_1118 ?_
  have q1 := T.1
  have T := T.2
  refine xoiald d_Lw_law_1119 hscr rfl (g32_n q1 hLn) q1.1 q1.2 ?_
  refine zcV_I ⟨Nat.le_of_succ_le hk.1, Nat.le_trans (Nat.le_add_right _ 6) hk.2⟩ (md' := true) (As := [gI (xs (Int.toNat (w32 (i + 1))))]) (st := []) d_Lw_law_1120 ca_GL_count ml_Lw_119 im_GL_count se_GL_count gc_GL hX.1.1 hX.1.2.1 hX.1.2.2 rfl (by decide) (by decide) rfl (fun _ => rfl) (fun _ => rfl) T (fun v3 M2 h4 T => ?_)
  refine wp_aload_n d_Lw_law_1123 rfl rfl (g_nz hX.2.1.1) ?_
  refine wp_oaload_n d_Lw_law_1124 rfl rfl ?_
  refine wp_iload d_Lw_law_1125 rfl ?_
  refine wp_iconst d_Lw_law_1127 ?_
  refine wp_iadd d_Lw_law_1128 ?_
  have q5 := T.1
  have T := T.2
  refine xoiald d_Lw_law_1129 hscr rfl (g32_n q5 hLn) q5.1 q5.2 ?_
  refine zcV_I ⟨Nat.le_of_succ_le hk.1, Nat.le_trans (Nat.le_add_right _ 6) hk.2⟩ (md' := true) (As := [gI (xs (Int.toNat (w32 (i + 1))))]) (st := [gI v3]) d_Lw_law_1130 ca_GM_count ml_Lw_122 im_GM_count se_GM_count gc_GM hX.2.1.1 (gm_o2 hX.2.1) hX.2.1.2.2.1 rfl (by decide) (by simp only [List.map, gR_cat, gI_cat, gL_cat, List.sum_cons, List.sum_nil]; decide) rfl (fun _ => rfl) (fun _ => rfl) T (fun v7 M6 h8 T => ?_)
  refine xi_eq (tgt := 1138) d_Lw_law_1133 (by decide) (w32_id h4) (w32_id h8) (fun h9 => ?_) (fun h9 => ?_)
  · have T := T.1 h9
    exact wp_md (wpt T (And.intro rfl (And.intro rfl (And.intro rfl (And.intro rfl (And.intro rfl True.intro))))))
  · have T := T.2 h9
    refine wp_iconst d_Lw_law_1136 ?_
    exact wp_zreturn d_Lw_law_1137 rfl (g_narz (⟨by decide, by decide⟩ : (0 : Int) ≤ 0 ∧ (0 : Int) ≤ 1)) (fun _ => rfl) (Nat.le_of_succ_le hk.1) (Nat.le_trans (Nat.le_add_right _ 6) hk.2) T
set_option maxRecDepth 100000 in
set_option maxHeartbeats 16000000 in
theorem w_Lw_law_1138 {l : Launch} {G : gG} {X : gX} {M : gM} {K : Outcome → gX → gM → Prop} {cs ss : Nat} {b Ls : Nat} {xs : Nat → Int} (hscr : ∀ U, gSP G U → va_T .int b Ls (fun j => gI (xs j)) (gA G true) U U.heap) (hLs : g32 (Ls : Int)) (hLn : Ls ≤ 2147483648) (hxs : ∀ j, g32 (xs j)) {c o w : Nat} (hX : gLw X c o w) (hk : cs + 1 ≤ room_1.cells ∧ ss + 6 ≤ room_1.slots) {i : Int} (hi : g32 i) (T : wp l G y_Lw_law room_1 true K true 23 [.val (.ref b), .val (gR G c), .val (gR G o), .val (gR G w), .val (gI (w32 (i + 7))), .unset, .unset, .unset] [] X M cs ss) : wp l G y_Lw_law room_1 true K true 1138 [.val (.ref b), .val (gR G c), .val (gR G o), .val (gR G w), .val (gI i), .unset, .unset, .unset] [] X M cs ss := by
  refine wp_iinc (L' := [.val (.ref b), .val (gR G c), .val (gR G o), .val (gR G w), .val (gI (i + 7)), .unset, .unset, .unset]) d_Lw_law_1138 rfl (by decide) (gS1_R rfl rfl) ?_
  refine wp_goto (tgt := 23) d_Lw_law_1141 (by decide) ?_
  exact wp_md (wpt T (And.intro rfl (And.intro rfl (And.intro rfl (And.intro rfl (And.intro (gI_w _) True.intro))))))
