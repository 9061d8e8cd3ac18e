/-! The rows of calls at rooms with cells to spare; callees that throw, callees that put references. -/
def cT (l : Launch) (G : gG) (z : gMt) (rm : Room) (fr : Bool) (av : List Value) (X : gX) (M : gM) (K : Outcome → gX → gM → Prop) : Prop := gCt l G z rm fr av X M (fun o X' M' => (∃ a, o = .threw a) ∧ K o X' M')
def cX (l : Launch) (G : gG) (z : gMt) (rm : Room) (fr : Bool) (av : List Value) (X : gX) (M : gM) (k : gX → gM → Prop) : Prop := gCt l G z rm fr av X M (fun o X' M' => o = .returned none ∧ k X' M')
def cXI (l : Launch) (G : gG) (z : gMt) (rm : Room) (fr : Bool) (av : List Value) (X : gX) (M : gM) (k : Int → gX → gM → Prop) : Prop := gCt l G z rm fr av X M (fun o X' M' => ∃ v, o = .returned (some (gI v)) ∧ g32 v ∧ k v X' M')
theorem gRn_call (d Nr n : Nat) (h : n ≤ 81) : (gRm d).frames + 1 ≤ (gRr (d + 1) Nr).frames ∧ 8 + (n + 11) + (gRm d).locals ≤ (gRr (d + 1) Nr).locals := by
  unfold gRr gRm
  dsimp only
  omega
theorem g_zz (d Nr : Nat) : 0 + (gRr d Nr).cells ≤ (gRr (d + 1) Nr).cells ∧ 0 + (gRr d Nr).slots ≤ (gRr (d + 1) Nr).slots := by
  unfold gRr
  dsimp only
  omega
theorem g_six {Nr d : Nat} (h : 1 ≤ Nr) : 6 ≤ (gRr d Nr).slots := by
  show 6 ≤ 6 * Nr
  omega
theorem g_frk (d : Nat) {Nr : Nat} : 2 + 3 < (gRr (d + 8) Nr).frames := by
  show 5 < d + 8
  omega
theorem g_lok (d : Nat) {Nr : Nat} : 0 + 1 + (13 * (2 + 1) + 41) ≤ (gRr (d + 8) Nr).locals := by
  show _ ≤ 100 * (d + 8)
  omega
def gXn : List Cond := [.isRef (.static "java/lang/Throwable" "UNASSIGNED_STACK" "[Ljava/lang/StackTraceElement;"), .isRef (.static "java/lang/Throwable" "SUPPRESSED_SENTINEL" "Ljava/util/List;"), .not (.castable "java/lang/IllegalStateException" "java/lang/IllegalArgumentException"), .not (.castable "java/util/NoSuchElementException" "java/lang/IllegalArgumentException")]
/-- words that are no good words, and stay -/
def gKw : Cond → Bool
  | .castable .. => true
  | .declares .. => true
  | .arrayOver .. => true
  | .laysStatic c _ _ => c == "java/lang/Throwable"
  | _ => false
def gXw : List Cond := gXn ++ tables_1.filter gKw
/-- no stack traces; what else the tables say -/
def gOk (l : Launch) (G : gG) : Prop := (∀ e : Env, l.admits e → e.platform.stackTraces = false) ∧ ∀ U, gSP G U → ∀ w ∈ gXw, ∀ args : Array Value, w.before args U = true
theorem gAt_of {l : Launch} {G : gG} (hl : gOk l G) {ws : List Cond} (h : ws.all (fun w => decide (w ∈ gXn) || (decide (w ∈ tables_1) && (goodWord w || gKw w))) = true) : ∀ U, gSP G U → ∀ args : Array Value, (∀ w ∈ gTb, w.before args U = true) → ∀ a ∈ ws, a.before args U = true := by
  intro U hU args hts a ha
  have h1 := List.all_eq_true.mp h a ha
  simp only [Bool.and_eq_true, decide_eq_true_eq, Bool.or_eq_true] at h1
  rcases h1 with h1 | h1
  · exact hl.2 U hU a (List.mem_append_left _ h1) args
  · cases hg : goodWord a with
    | true => exact hts a (gTb_mem h1.1 hg)
    | false =>
      refine hl.2 U hU a (List.mem_append_right _ (List.mem_filter.mpr ⟨h1.1, ?_⟩)) args
      rcases h1.2 with h2 | h2
      · rw [hg] at h2; cases h2
      · exact h2
section gYc
variable {l : Launch} {G : gG} {y z : gMt} {fr fz md md' : Bool} {K : Outcome → gX → gM → Prop} {pc : Nat} {L : List Slot} {st st0 As : List Value} {X : gX} {M : gM} {index n d Nr : Nat}
theorem ycV_V {b ci N : Nat} {C : String} {T : u_T} {k : gM → Prop} (hd : decode y.2.1 pc = .ok (.invokevirtual index, 3)) (hz : gCal z n) (hl : Cond.methodLink y.1.cls index z.1 ∈ gTb) (hin : Cond.instanceMethod z.1 ∈ gTb) (hse : Cond.selects C z.1 z.1 ∈ gTb) (hc : gCl[ci]? = some (C, T, N)) (h1 : 1 ≤ b) (h2 : b ≤ X.1) (hs : X.2.1 b = (ci + 6, N)) (hn : As.length = n) (hm : z.2.2.1 ≤ 81) (hW : (st.map fun v => v.category).sum ≤ 8) (h0 : st0 = As.reverse ++ gR G b :: st)
    (hm1 : md = true → md' = true) (hm2 : fz = true → md' = true) (hM : cV l G z (gRm d) fz (gR G b :: As) X M k) (kk : ∀ M' : gM, k M' → wp l G y (gRr (d + 1) Nr) fr K md' (pc + 3) L st X M' 0 0) : wp l G y (gRr (d + 1) Nr) fr K md pc L st0 X M 0 0 :=
  wp_callV hd hz hl hin hse hc h1 h2 hs hM (fun o X' M' h => ⟨none, h.1⟩) hm1 hm2 hn (gRn_call d Nr _ hm) hW ⟨Nat.zero_le _, Nat.zero_le _⟩ h0 (fun v X' M' h => by
    obtain ⟨h1, h2, h3⟩ := h
    cases h1
    subst h2
    exact kk M' h3)
theorem ycS_V {k : gM → Prop} (hd : decode y.2.1 pc = .ok (.invokestatic index, 3)) (hz : gCal z n) (hl : Cond.methodLink y.1.cls index z.1 ∈ gTb) (hst : Cond.static z.1 ∈ gTb) (hn : As.length = n) (hm : z.2.2.1 ≤ 81) (hW : (st.map fun v => v.category).sum ≤ 8) (h0 : st0 = As.reverse ++ st)
    (hm1 : md = true → md' = true) (hm2 : fz = true → md' = true) (hM : cV l G z (gRm d) fz As X M k) (kk : ∀ M' : gM, k M' → wp l G y (gRr (d + 1) Nr) fr K md' (pc + 3) L st X M' 0 0) : wp l G y (gRr (d + 1) Nr) fr K md pc L st0 X M 0 0 :=
  wp_callS hd hz hl hst hM (fun o X' M' h => ⟨none, h.1⟩) hm1 hm2 hn (gRn_call d Nr _ hm) hW ⟨Nat.zero_le _, Nat.zero_le _⟩ h0 (fun v X' M' h => by
    obtain ⟨h1, h2, h3⟩ := h
    cases h1
    subst h2
    exact kk M' h3)
theorem ycV_I {b ci N : Nat} {C : String} {T : u_T} {k : Int → gM → Prop} (hd : decode y.2.1 pc = .ok (.invokevirtual index, 3)) (hz : gCal z n) (hl : Cond.methodLink y.1.cls index z.1 ∈ gTb) (hin : Cond.instanceMethod z.1 ∈ gTb) (hse : Cond.selects C z.1 z.1 ∈ gTb) (hc : gCl[ci]? = some (C, T, N)) (h1 : 1 ≤ b) (h2 : b ≤ X.1) (hs : X.2.1 b = (ci + 6, N)) (hn : As.length = n) (hm : z.2.2.1 ≤ 81) (hW : (st.map fun v => v.category).sum ≤ 8) (h0 : st0 = As.reverse ++ gR G b :: st)
    (hm1 : md = true → md' = true) (hm2 : fz = true → md' = true) (hM : cI l G z (gRm d) fz (gR G b :: As) X M k) (kk : ∀ (v : Int) (M' : gM), g32 v → k v M' → wp l G y (gRr (d + 1) Nr) fr K md' (pc + 3) L (gI v :: st) X M' 0 0) : wp l G y (gRr (d + 1) Nr) fr K md pc L st0 X M 0 0 :=
  wp_callV hd hz hl hin hse hc h1 h2 hs hM (fun o X' M' h => by obtain ⟨w, h1, -⟩ := h; exact ⟨_, h1⟩) hm1 hm2 hn (gRn_call d Nr _ hm) hW ⟨Nat.zero_le _, Nat.zero_le _⟩ h0 (fun v X' M' h => by
    obtain ⟨w, h1, h0, h2, h3⟩ := h
    cases h1
    subst h2
    exact kk w M' h0 h3)
theorem ycS_I {k : Int → gM → Prop} (hd : decode y.2.1 pc = .ok (.invokestatic index, 3)) (hz : gCal z n) (hl : Cond.methodLink y.1.cls index z.1 ∈ gTb) (hst : Cond.static z.1 ∈ gTb) (hn : As.length = n) (hm : z.2.2.1 ≤ 81) (hW : (st.map fun v => v.category).sum ≤ 8) (h0 : st0 = As.reverse ++ st)
    (hm1 : md = true → md' = true) (hm2 : fz = true → md' = true) (hM : cI l G z (gRm d) fz As X M k) (kk : ∀ (v : Int) (M' : gM), g32 v → k v M' → wp l G y (gRr (d + 1) Nr) fr K md' (pc + 3) L (gI v :: st) X M' 0 0) : wp l G y (gRr (d + 1) Nr) fr K md pc L st0 X M 0 0 :=
  wp_callS hd hz hl hst hM (fun o X' M' h => by obtain ⟨w, h1, -⟩ := h; exact ⟨_, h1⟩) hm1 hm2 hn (gRn_call d Nr _ hm) hW ⟨Nat.zero_le _, Nat.zero_le _⟩ h0 (fun v X' M' h => by
    obtain ⟨w, h1, h0, h2, h3⟩ := h
    cases h1
    subst h2
    exact kk w M' h0 h3)
theorem ycV_Z {b ci N : Nat} {C : String} {T : u_T} {k : Int → gM → Prop} (hd : decode y.2.1 pc = .ok (.invokevirtual index, 3)) (hz : gCal z n) (hl : Cond.methodLink y.1.cls index z.1 ∈ gTb) (hin : Cond.instanceMethod z.1 ∈ gTb) (hse : Cond.selects C z.1 z.1 ∈ gTb) (hc : gCl[ci]? = some (C, T, N)) (h1 : 1 ≤ b) (h2 : b ≤ X.1) (hs : X.2.1 b = (ci + 6, N)) (hn : As.length = n) (hm : z.2.2.1 ≤ 81) (hW : (st.map fun v => v.category).sum ≤ 8) (h0 : st0 = As.reverse ++ gR G b :: st)
    (hm1 : md = true → md' = true) (hm2 : fz = true → md' = true) (hM : cZ l G z (gRm d) fz (gR G b :: As) X M k) (kk : ∀ (v : Int) (M' : gM), (0 ≤ v ∧ v ≤ 1) → k v M' → wp l G y (gRr (d + 1) Nr) fr K md' (pc + 3) L (gI v :: st) X M' 0 0) : wp l G y (gRr (d + 1) Nr) fr K md pc L st0 X M 0 0 :=
  wp_callV hd hz hl hin hse hc h1 h2 hs hM (fun o X' M' h => by obtain ⟨w, h1, -⟩ := h; exact ⟨_, h1⟩) hm1 hm2 hn (gRn_call d Nr _ hm) hW ⟨Nat.zero_le _, Nat.zero_le _⟩ h0 (fun v X' M' h => by
    obtain ⟨w, h1, h0, h2, h3⟩ := h
    cases h1
    subst h2
    exact kk w M' h0 h3)
theorem ytS (hne : y.1.cls ≠ "GridLedgerLaw") (hd : decode y.2.1 pc = .ok (.invokestatic index, 3)) (hz : gCal z n) (hl : Cond.methodLink y.1.cls index z.1 ∈ gTb) (hst : Cond.static z.1 ∈ gTb) (hn : As.length = n) (hm : z.2.2.1 ≤ 81) (hW : (st.map fun v => v.category).sum ≤ 8) (h0 : st0 = As.reverse ++ st) (hm1 : md = true → fr = true) (hm2 : fz = true → fr = true) (hM : cT l G z (gRr d Nr) fz As X M K) : wp l G y (gRr (d + 1) Nr) fr K md pc L st0 X M 0 0 :=
  wp_callSt hne hd hz hl hst hM (fun o X' M' h => h.1) hm1 hm2 hn (gRr_call d _ Nr Nr hm) hW (g_zz d Nr) h0 (fun a X' M' h => h.2)
theorem ytV {b ci N : Nat} {C : String} {T : u_T} (hne : y.1.cls ≠ "GridLedgerLaw") (hd : decode y.2.1 pc = .ok (.invokevirtual index, 3)) (hz : gCal z n) (hl : Cond.methodLink y.1.cls index z.1 ∈ gTb) (hin : Cond.instanceMethod z.1 ∈ gTb) (hse : Cond.selects C z.1 z.1 ∈ gTb) (hc : gCl[ci]? = some (C, T, N)) (h1 : 1 ≤ b) (h2 : b ≤ X.1) (hs : X.2.1 b = (ci + 6, N)) (hn : As.length = n) (hm : z.2.2.1 ≤ 81) (hW : (st.map fun v => v.category).sum ≤ 8) (h0 : st0 = As.reverse ++ gR G b :: st) (hm1 : md = true → fr = true) (hm2 : fz = true → fr = true) (hM : cT l G z (gRr d Nr) fz (gR G b :: As) X M K) : wp l G y (gRr (d + 1) Nr) fr K md pc L st0 X M 0 0 :=
  wp_callVt hne hd hz hl hin hse hc h1 h2 hs hM (fun o X' M' h => h.1) hm1 hm2 hn (gRr_call d _ Nr Nr hm) hW (g_zz d Nr) h0 (fun a X' M' h => h.2)
theorem yxV_V {b ci N : Nat} {C : String} {T : u_T} {k : gX → gM → Prop} (hd : decode y.2.1 pc = .ok (.invokevirtual index, 3)) (hz : gCal z n) (hl : Cond.methodLink y.1.cls index z.1 ∈ gTb) (hin : Cond.instanceMethod z.1 ∈ gTb) (hse : Cond.selects C z.1 z.1 ∈ gTb) (hc : gCl[ci]? = some (C, T, N)) (h1 : 1 ≤ b) (h2 : b ≤ X.1) (hs : X.2.1 b = (ci + 6, N)) (hn : As.length = n) (hm : z.2.2.1 ≤ 81) (hW : (st.map fun v => v.category).sum ≤ 8) (h0 : st0 = As.reverse ++ gR G b :: st) (hm1 : md = true → md' = true) (hm2 : fz = true → md' = true) (hM : cX l G z (gRm d) fz (gR G b :: As) X M k) (kk : ∀ (X' : gX) (M' : gM), k X' M' → wp l G y (gRr (d + 1) Nr) fr K md' (pc + 3) L st X' M' 0 0) : wp l G y (gRr (d + 1) Nr) fr K md pc L st0 X M 0 0 :=
  wp_callV hd hz hl hin hse hc h1 h2 hs hM (fun o X' M' h => ⟨none, h.1⟩) hm1 hm2 hn (gRn_call d Nr _ hm) hW ⟨Nat.zero_le _, Nat.zero_le _⟩ h0 (fun v X' M' h => by
    obtain ⟨e1, h⟩ := h
    cases e1
    exact kk X' M' h)
theorem yxV_I {b ci N : Nat} {C : String} {T : u_T} {k : Int → gX → gM → Prop} (hd : decode y.2.1 pc = .ok (.invokevirtual index, 3)) (hz : gCal z n) (hl : Cond.methodLink y.1.cls index z.1 ∈ gTb) (hin : Cond.instanceMethod z.1 ∈ gTb) (hse : Cond.selects C z.1 z.1 ∈ gTb) (hc : gCl[ci]? = some (C, T, N)) (h1 : 1 ≤ b) (h2 : b ≤ X.1) (hs : X.2.1 b = (ci + 6, N)) (hn : As.length = n) (hm : z.2.2.1 ≤ 81) (hW : (st.map fun v => v.category).sum ≤ 8) (h0 : st0 = As.reverse ++ gR G b :: st) (hm1 : md = true → md' = true) (hm2 : fz = true → md' = true) (hM : cXI l G z (gRm d) fz (gR G b :: As) X M k) (kk : ∀ (v : Int) (X' : gX) (M' : gM), g32 v → k v X' M' → wp l G y (gRr (d + 1) Nr) fr K md' (pc + 3) L (gI v :: st) X' M' 0 0) : wp l G y (gRr (d + 1) Nr) fr K md pc L st0 X M 0 0 :=
  wp_callV hd hz hl hin hse hc h1 h2 hs hM (fun o X' M' h => by obtain ⟨w, h1, -⟩ := h; exact ⟨_, h1⟩) hm1 hm2 hn (gRn_call d Nr _ hm) hW ⟨Nat.zero_le _, Nat.zero_le _⟩ h0 (fun v X' M' h => by
    obtain ⟨w, e1, g1, h⟩ := h
    cases e1
    exact kk w X' M' g1 h)
end gYc
