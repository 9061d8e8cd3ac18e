/-! What was there before the run, out of the statement's words. Written by wip/whole/gen_start.py -/
def gFl1 : List Cond := flatC (Jvm.Cond.and given_1 narrow_1)
def gIxW : List Nat := [166, 171, 176, 181, 186, 191, 196, 201, 206, 211, 216, 221, 226, 231, 236, 151, 241, 246, 156, 251, 256, 261, 266, 271, 276, 281, 286, 291, 296, 301, 306, 311, 316, 321, 326, 331, 336, 341, 346, 351, 356, 361, 366, 371, 376, 381, 386, 391, 396, 401, 161, 406]
def gIxS : List Nat := [475, 483, 492, 496, 505, 515, 525, 536, 857, 868, 873, 884, 893, 899, 904, 910, 916, 922, 927, 934, 941, 948, 957, 967, 974, 980, 986, 993, 998, 1004, 1011, 1022, 1028, 1038, 1046, 1057, 1062, 1074, 1084, 1095, 1102, 1110, 1117, 1124, 1129, 1138, 1147, 1155, 1161, 1170, 1177, 1184, 1192, 1203, 1210, 1217, 1227, 1235, 1246, 1252, 1261, 1268, 1277, 1283, 1293, 1300]
def gIxL : List Nat := [1997, 1998, 1999, 2000, 2001, 2002, 2003, 2004, 2005, 2006, 2007, 2008, 2009, 2010, 2011, 1111, 2012, 2013, 1126, 2014, 2015, 2016, 2017, 2018, 2019, 2020, 2021, 2022, 2023, 2024, 2025, 2026, 2027, 2028, 2029, 2030, 2031, 2032, 2033, 2034, 2035, 2036, 2037, 2038, 2039, 2040, 2041, 2042, 2043, 2044, 1176, 2045]
def gIxR : List Nat := [638, 691, 751, 969, 970, 1644, 1651, 1852, 2046, 2047, 2048, 2049, 2050, 2051, 2052, 2053, 2054, 2055, 2056, 2057, 2058, 2059, 2060, 2061, 2062, 2063, 2064, 2065, 2066, 2067, 2068, 2069, 2070, 2071, 2072, 2073, 2074, 2075, 2076, 2077, 2078, 2079, 2080, 2081, 2082, 2083, 2084, 2085, 2086, 2087, 2088, 2089, 2090, 2091, 2092, 2093, 2094, 2095, 2096, 2097, 2098, 2099, 2100, 2101, 2102, 2103]
def gWst (i : Nat) : Term := .static "GridLedger$Work" (gWn.getD i "") "LGridLedger$Work;"
def gStm (t : Nat) : Term := .string (gSrc.getD t ("", 0, "")).1 (gSrc.getD t ("", 0, "")).2.1
def gTmW : Term := .static "GridLedger" "WORKS" "[LGridLedger$Work;"
def gTmT : Term := .static "GridLedger" "TIGHTNESS" "[I"
def gTmS : Term := .static "GridLedger$1" "$SwitchMap$GridLedger$Work" "[I"
theorem n_ex : ∀ i, i < 52 → gFl1[gIxW.getD i 0]? = some (Cond.exactly (gWst i) "GridLedger$Work") := by decide +kernel
theorem n_or : ∀ i, i < 52 → gFl1[gIxW.getD i 0 + 1]? = some (Cond.eq (.field (gWst i) "java/lang/Enum" "ordinal" "I") (.int (Int32.ofInt (i : Int)))) := by decide +kernel
theorem n_ti : ∀ i, i < 52 → gFl1[gIxW.getD i 0 + 2]? = some (Cond.eq (.field (gWst i) "GridLedger$Work" "title" "Ljava/lang/String;") (gStm (gWti i))) := by decide +kernel
theorem n_ta : ∀ i, i < 52 → gFl1[gIxW.getD i 0 + 3]? = some (Cond.eq (.field (gWst i) "GridLedger$Work" "takes" "Ljava/lang/String;") (gStm (gWta i))) := by decide +kernel
theorem n_gr : ∀ i, i < 52 → gFl1[gIxW.getD i 0 + 4]? = some (Cond.eq (.field (gWst i) "GridLedger$Work" "group" "I") (.int (Int32.ofInt (gWgr i)))) := by decide +kernel
theorem n_we : (List.range 52).map (fun i => Cond.eq (.elem gTmW (.int (Int32.ofNat i))) (gWst i)) = (gFl1.drop 16).take 52 := by decide +kernel
theorem n_se : (List.range 52).map (fun i => Cond.eq (.elem gTmS (.int (Int32.ofNat i))) (.int (Int32.ofInt (gSw i)))) = (gFl1.drop 71).take 52 := by decide +kernel
theorem n_te : (List.range 25).map (fun i => Cond.eq (.elem gTmT (.int (Int32.ofNat i))) (.int (Int32.ofInt (gTg i)))) = (gFl1.drop 126).take 25 := by decide +kernel
theorem n_wa : gFl1[13]? = some (Cond.arrayOf gTmW (.object "GridLedger$Work")) := by decide +kernel
theorem n_wl : gFl1[14]? = some (Cond.eq (.length gTmW) (.int (Int32.ofNat 52))) := by decide +kernel
theorem n_sa : gFl1[69]? = some (Cond.arrayOf gTmS .int) := by decide +kernel
theorem n_sl : gFl1[70]? = some (Cond.eq (.length gTmS) (.int (Int32.ofNat 52))) := by decide +kernel
theorem n_ta1 : gFl1[124]? = some (Cond.arrayOf gTmT .int) := by decide +kernel
theorem n_tl : gFl1[125]? = some (Cond.eq (.length gTmT) (.int (Int32.ofNat 25))) := by decide +kernel
theorem n_cs : gFl1[6]? = some (Cond.eq (.static "java/lang/String" "COMPACT_STRINGS" "Z") (.int (Int32.ofInt 1))) := by decide +kernel
theorem n_sf : gFl1[7]? = some (Cond.isRef (.static "jdk/internal/util/Preconditions" "SIOOBE_FORMATTER" "Ljava/util/function/BiFunction;")) := by decide +kernel
theorem s_ex : ∀ t, t < 66 → gFl1[gIxS.getD t 0]? = some (Cond.exactly (gStm t) "java/lang/String") := by decide +kernel
theorem s_co : ∀ t, t < 66 → gFl1[gIxS.getD t 0 + 1]? = some (Cond.eq (.field (gStm t) "java/lang/String" "coder" "B") (.int (Int32.ofInt 0))) := by decide +kernel
theorem s_ar : ∀ t, t < 66 → gFl1[gIxS.getD t 0 + 2]? = some (Cond.arrayOf (.field (gStm t) "java/lang/String" "value" "[B") .byte) := by decide +kernel
theorem s_le : ∀ t, t < 66 → gFl1[gIxS.getD t 0 + 3]? = some (Cond.eq (.length (.field (gStm t) "java/lang/String" "value" "[B")) (.int (Int32.ofNat (gSl t)))) := by decide +kernel
theorem s_el : ∀ t, t < 66 → (List.range (gSl t)).map (fun j => Cond.eq (.elem (.field (gStm t) "java/lang/String" "value" "[B") (.int (Int32.ofNat j))) (.int (Int32.ofInt (gSc t j)))) = (gFl1.drop (gIxS.getD t 0 + 4)).take (gSl t) := by decide +kernel
theorem l_ws : ∀ i, i < 52 → tables_1[gIxL.getD i 0]? = some (Cond.laysStatic "GridLedger$Work" (gWn.getD i "") "LGridLedger$Work;") := by decide +kernel
theorem l_sr : ∀ t, t < 66 → tables_1[gIxR.getD t 0]? = some (Cond.stringRef (gSrc.getD t ("", 0, "")).1 (gSrc.getD t ("", 0, "")).2.1 (gSrc.getD t ("", 0, "")).2.2) := by decide +kernel
theorem l_iW : tables_1[29]? = some (Cond.initialized "GridLedger$Work") := by decide +kernel
theorem l_iL : tables_1[1]? = some (Cond.initialized "GridLedger") := by decide +kernel
theorem l_i1 : tables_1[24]? = some (Cond.initialized "GridLedger$1") := by decide +kernel
theorem l_iS : tables_1[19]? = some (Cond.initialized "java/lang/String") := by decide +kernel
theorem l_iP : tables_1[21]? = some (Cond.initialized "jdk/internal/util/Preconditions") := by decide +kernel
theorem l_zw : tables_1[746]? = some (Cond.laysStatic "GridLedger" "WORKS" "[LGridLedger$Work;") := by decide +kernel
theorem l_zt : tables_1[793]? = some (Cond.laysStatic "GridLedger" "TIGHTNESS" "[I") := by decide +kernel
theorem l_zs : tables_1[776]? = some (Cond.laysStatic "GridLedger$1" "$SwitchMap$GridLedger$Work" "[I") := by decide +kernel
theorem l_zc : tables_1[652]? = some (Cond.laysStatic "java/lang/String" "COMPACT_STRINGS" "Z") := by decide +kernel
theorem l_zf : tables_1[668]? = some (Cond.laysStatic "jdk/internal/util/Preconditions" "SIOOBE_FORMATTER" "Ljava/util/function/BiFunction;") := by decide +kernel
section ghA
variable {A : Array Value} {s U : State} {G : gG} {n : Nat} {Q : gQ}
theorem gOld_s (hfl : ∀ w ∈ gFl1, w.before A s = true) (hts : ∀ w ∈ tables_1, w.before A s = true) (hn : G.2.2.1 + 1 = s.heap.size) : ∃ Q : gQ, (∀ i, i < 52 → gOw G Q s i) ∧ (∀ t, t < 66 → gOs G Q s t) ∧ gOa G Q s := by
  have hA : ∀ a : Nat, a < s.heap.size → ¬ (gA G true) a := fun a h y => by
    have y2 : G.2.2.1 < a := y.2
    omega
  have m1 : ∀ {w : Cond} {k : Nat}, gFl1[k]? = some w → w.before A s = true := fun h => hfl _ (List.mem_of_getElem? h)
  have mt : ∀ {w : Cond} {k : Nat}, tables_1[k]? = some w → w.before A s = true := fun h => hts _ (List.mem_of_getElem? h)
  have w0 : ∀ i : Nat, ∃ t : Nat, i < 52 → (gWst i).eval A s none [] s = some (.ref t) ∧ va_O "GridLedger$Work" t (gA G true) s s.heap := by
    intro i
    by_cases hi : i < 52
    · obtain ⟨a, c, cell, k, q1, q2, q3, q4, q5, q6, -⟩ := Cond.exactly_spec (args := A) (first := s) (o := none) (s := s) (idx := []) (t := gWst i) (cls := "GridLedger$Work") (m1 (n_ex i hi))
      exact ⟨a, fun _ => ⟨q1, cell, q3, q5, by rw [q6]; exact q2, hA a (Array.getElem?_eq_some_iff.mp q3).1⟩⟩
    · exact ⟨0, fun h => absurd h hi⟩
  obtain ⟨ad, had⟩ := Classical.axiomOfChoice w0
  have s0 : ∀ t : Nat, ∃ q : Nat × Nat, t < 66 → (gStm t).eval A s none [] s = some (.ref q.1) ∧ va_O "java/lang/String" q.1 (gA G true) s s.heap ∧ va_OF "java/lang/String" "coder" "B" (gI 0) q.1 (gA G true) s s.heap ∧ va_OF "java/lang/String" "value" "[B" (.ref q.2) q.1 (gA G true) s s.heap ∧ va_T .byte q.2 (gSl t) (fun j => gI (gSc t j)) (gA G true) s s.heap := by
    intro t
    by_cases ht : t < 66
    · obtain ⟨a, c, cA, kA, q1, q2, q3, q4, q5, q6, -⟩ := Cond.exactly_spec (args := A) (first := s) (o := none) (s := s) (idx := []) (t := gStm t) (cls := "java/lang/String") (m1 (s_ex t ht))
      have l4 := (gSl_ok ht).2
      obtain ⟨b, hb, hT⟩ := va_Tof (f := fun j => gI (gSc t j)) (A := gA G true) (N := gSl t) (by omega) (m1 (s_ar t ht)) (va_eqt (m1 (s_le t ht))) (fun j hj => va_eqt (hfl _ (va_run (s_el t ht) j hj))) hA
      exact ⟨(a, b), fun _ => ⟨q1, ⟨cA, q3, q5, by rw [q6]; exact q2, hA a (Array.getElem?_eq_some_iff.mp q3).1⟩, vk_OFof q1 (va_eqt (m1 (s_co t ht))) hA, vk_OFof q1 hb hA, hT⟩⟩
    · exact ⟨(0, 0), fun h => absurd h ht⟩
  obtain ⟨as, has⟩ := Classical.axiomOfChoice s0
  obtain ⟨aW, eW, tW⟩ := va_Tof (tm := gTmW) (ty := .object "GridLedger$Work") (f := fun j => .ref (ad j)) (A := gA G true) (N := 52) (by decide) (m1 n_wa) (va_eqt (m1 n_wl)) (fun j hj => va_eqv (hfl _ (va_run n_we j hj)) (had j hj).1) hA
  obtain ⟨aT, eT, tT⟩ := va_Tof (tm := gTmT) (ty := .int) (f := fun j => gI (gTg j)) (A := gA G true) (N := 25) (by decide) (m1 n_ta1) (va_eqt (m1 n_tl)) (fun j hj => va_eqt (hfl _ (va_run n_te j hj))) hA
  obtain ⟨aS, eS, tS⟩ := va_Tof (tm := gTmS) (ty := .int) (f := fun j => gI (gSw j)) (A := gA G true) (N := 52) (by decide) (m1 n_sa) (va_eqt (m1 n_sl)) (fun j hj => va_eqt (hfl _ (va_run n_se j hj))) hA
  refine ⟨(ad, fun t => (as t).1, fun t => (as t).2, aW, aT, aS), fun i hi => ⟨va_Zof (mt (l_ws i hi)) (mt l_iW) (had i hi).1 hA, (had i hi).2, vk_OFof (had i hi).1 (va_eqt (m1 (n_or i hi))) hA, vk_OFof (had i hi).1 (va_eqv (m1 (n_ti i hi)) (has _ (gWti_lt i hi)).1) hA, vk_OFof (had i hi).1 (va_eqv (m1 (n_ta i hi)) (has _ (gWta_lt i hi)).1) hA, vk_OFof (had i hi).1 (va_eqt (m1 (n_gr i hi))) hA⟩, fun t ht => ⟨(has t ht).2.1, (has t ht).2.2.1, (has t ht).2.2.2.1, (has t ht).2.2.2.2, fun q hq => ?_⟩, ⟨va_Zof (mt l_zw) (mt l_iL) eW hA, tW⟩, ⟨va_Zof (mt l_zt) (mt l_iL) eT hA, tT⟩, ⟨va_Zof (mt l_zs) (mt l_i1) eS hA, tS⟩, va_Zof (mt l_zc) (mt l_iS) (va_eqi (m1 n_cs)) hA, va_Zqof (mt l_zf) (mt l_iP) (m1 n_sf) hA⟩
  have e : gSrc.getD t ("", 0, "") = q := by rw [List.getD_eq_getElem?_getD, hq]; rfl
  have h1 := l_sr t ht
  have h2 := (has t ht).1
  unfold gStm at h2
  rw [e] at h1 h2
  exact vk_R.of (mt h1) h2
theorem gOld_u (hW : s.WarmedH U.vm) (hq : ∀ q : Nat, q < s.heap.size → U.heap[q]? = s.heap[q]?) (h : (∀ i, i < 52 → gOw G Q s i) ∧ (∀ t, t < 66 → gOs G Q s t) ∧ gOa G Q s) : (∀ i, i < 52 → gOw G Q U i) ∧ (∀ t, t < 66 → gOs G Q U t) ∧ gOa G Q U := by
  have k : ∀ a : Nat, a < s.heap.size → ¬ (gA G true) a → U.heap[a]? = s.heap[a]? := fun a h _ => hq a h
  have al := hW.alike
  obtain ⟨h1, h2, h3⟩ := h
  refine ⟨fun i hi => ?_, fun t ht => ?_, ?_⟩
  · obtain ⟨a1, a2, a3, a4, a5, a6⟩ := h1 i hi
    exact ⟨(a1.kept k).moved al, (a2.kept k).moved al, (a3.kept k).moved al, (a4.kept k).moved al, (a5.kept k).moved al, (a6.kept k).moved al⟩
  · obtain ⟨a1, a2, a3, a4, a5⟩ := h2 t ht
    exact ⟨(a1.kept k).moved al, (a2.kept k).moved al, (a3.kept k).moved al, (a4.kept k).moved al, fun q hq => (a5 q hq).warm hW⟩
  · obtain ⟨⟨a1, a2⟩, ⟨b1, b2⟩, ⟨c1, c2⟩, d1, d2⟩ := h3
    exact ⟨⟨(a1.kept k).moved al, (a2.kept k).moved al⟩, ⟨(b1.kept k).moved al, (b2.kept k).moved al⟩, ⟨(c1.kept k).moved al, (c2.kept k).moved al⟩, (d1.kept k).moved al, (d2.kept k).moved al⟩
end ghA
