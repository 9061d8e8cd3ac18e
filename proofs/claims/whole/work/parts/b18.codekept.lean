/-! The code of a tree, in another memory that has the same steps. -/
def gEq2 (M M2 : gM) (c a b : Nat) : Prop := ∀ j, a ≤ j → j < b → M2 (c + 9) j = M (c + 9) j ∧ M2 (c + 10) j = M (c + 10) j
theorem gEq2.sub {M M2 : gM} {c a b a' b' : Nat} (h : gEq2 M M2 c a b) (h1 : a ≤ a') (h2 : b' ≤ b) : gEq2 M M2 c a' b' := fun j q1 q2 => h j (by omega) (by omega)
theorem gAt2.keep {M M2 : gM} {c a b e : Nat} {op x : Int} (h : gAt2 M c e op x) (q : gEq2 M M2 c a b) (h1 : a ≤ e) (h2 : e < b) : gAt2 M2 c e op x := ⟨(q e h1 h2).1.trans h.1, (q e h1 h2).2.trans h.2⟩
/-- the code of e is kept where its steps are -/
def gxK (M M2 : gM) (c : Nat) (S : List Int) (B B2 : Nat) (e : gEx) : Prop := ∀ a, gEq2 M M2 c a (a + (gxLn e).1) → (gxCo M c S B e).1 a → (gxCo M2 c S B2 e).1 a
theorem gxBc_keep {M M2 : gM} {c a : Nat} {e : gEx} (q : gEq2 M M2 c a (a + 1)) (h : gxBc M c e a) : gxBc M2 c e a := by
  cases e with
  | var i => exact gAt2.keep h q (by omega) (by omega)
  | mulL k b =>
    cases b with
    | neg => exact gAt2.keep h q (by omega) (by omega)
    | _ => exact absurd h (fun z => z)
  | _ => exact absurd h (fun z => z)
theorem gxSq_keep {M M2 : gM} {c : Nat} {S : List Int} {B B2 : Nat} : ∀ (ls : List Int) (es : List gEx) (a : Nat), (∀ e ∈ es, 1 ≤ (gxLn e).1 ∧ gxK M M2 c S B B2 e) → gEq2 M M2 c a (a + (es.map (fun x => (gxLn x).1)).sum) → gxSq M c ls es (es.map (fun x => (gxCo M c S B x).1)) (es.map (fun x => (gxLn x).1)) a → gxSq M2 c ls es (es.map (fun x => (gxCo M2 c S B2 x).1)) (es.map (fun x => (gxLn x).1)) a := by
  intro ls
  induction ls with
  | nil => intro es a _ _ _; cases es <;> exact trivial
  | cons l ls ih =>
    intro es a hk q h
    cases es with
    | nil => exact trivial
    | cons e es =>
      have hs : (List.map (fun x : gEx => (gxLn x).1) (e :: es)).sum = (gxLn e).1 + (es.map (fun x => (gxLn x).1)).sum := by rw [List.map_cons, List.sum_cons]
      rw [hs] at q
      have k0 := hk e List.mem_cons_self
      obtain ⟨h1, h2⟩ := h
      refine ⟨?_, ih es (a + (gxLn e).1) (fun x hx => hk x (List.mem_cons_of_mem _ hx)) (q.sub (by omega) (by omega)) h2⟩
      by_cases e1 : l = 114
      · rw [if_pos e1] at h1 ⊢
        exact gxBc_keep (q.sub (by omega) (by omega)) h1
      · rw [if_neg e1] at h1 ⊢
        exact k0.2 a (q.sub (by omega) (by omega)) h1
theorem gxPk_keep {M M2 : gM} {c : Nat} {S : List Int} {B B2 : Nat} {op : Int} {z : Nat} : ∀ (es : List gEx) (k m : Nat), (∀ e ∈ es, 1 ≤ (gxLn e).1 ∧ gxK M M2 c S B B2 e) → gEq2 M M2 c m (m + ((es.map (fun x => (gxLn x).1)).sum + 2 * es.length - 1)) → gxPk M c op z (es.map (fun x => (gxCo M c S B x).1)) (es.map (fun x => (gxLn x).1)) k m → gxPk M2 c op z (es.map (fun x => (gxCo M2 c S B2 x).1)) (es.map (fun x => (gxLn x).1)) k m := by
  intro es
  induction es with
  | nil => intro k m _ _ _; exact trivial
  | cons e es ih =>
    intro k m hk q h
    have hs : (List.map (fun x : gEx => (gxLn x).1) (e :: es)).sum = (gxLn e).1 + (es.map (fun x => (gxLn x).1)).sum := by rw [List.map_cons, List.sum_cons]
    rw [hs, List.length_cons] at q
    have k0 := hk e List.mem_cons_self
    obtain ⟨h1, h2, h3, h4⟩ := h
    have em : ∀ f : gEx → Nat → Prop, (es.map f).isEmpty = es.isEmpty := fun f => by cases es <;> rfl
    have ex : (es.map (fun x => (gxCo M2 c S B2 x).1)).isEmpty = (es.map (fun x => (gxCo M c S B x).1)).isEmpty := by cases es <;> rfl
    refine ⟨?_, k0.2 (m + 1) (q.sub (by omega) (by omega)) h2, fun w => ?_, ?_⟩
    · rw [ex]
      exact gAt2.keep h1 q (by omega) (by omega)
    · rw [ex] at w
      have hne : 1 ≤ es.length := by
        cases es with
        | nil => cases w
        | cons => rw [List.length_cons]; omega
      have h3w : gAt2 M c (m + 1 + (gxLn e).1) 10 (z : Int) := h3 w
      exact h3w.keep q (by omega) (by omega)
    · cases es with
      | nil => exact trivial
      | cons e2 es2 =>
        refine ih (k + 1) (m + (gxLn e).1 + 2) (fun x hx => hk x (List.mem_cons_of_mem _ hx)) (q.sub (by omega) ?_) h4
        rw [List.length_cons]
        omega
theorem gxCo_keep {M M2 : gM} {c : Nat} {S : List Int} {B B2 : Nat} {P R : Int → Prop} {n : Nat} (hB : B ≤ B2) (hb : ∀ j, j < B → M2 (c + 13) j = M (c + 13) j) : ∀ e : gEx, ((gxWf P R n e).1 → gxK M M2 c S B B2 e) ∧ ((gxWf P R n e).2 → ∀ x ∈ gxAL e, gxK M M2 c S B B2 x) ∧ (∀ a b, e = .add a b → ((gxWf P R n a).1 → gxK M M2 c S B B2 a) ∧ ((gxWf P R n b).1 → gxK M M2 c S B B2 b)) := by
  intro e
  induction e with
  | num x => exact ⟨fun _ a q h => gAt2.keep h q (by omega) (Nat.lt_add_of_pos_right (Nat.succ_pos _)), fun _ y hy => (by cases hy), fun a b h => (by cases h)⟩
  | var i => exact ⟨fun _ a q h => gAt2.keep h q (by omega) (Nat.lt_add_of_pos_right (Nat.succ_pos _)), fun h => absurd h (fun q => q), fun a b h => (by cases h)⟩
  | neg x ih =>
    refine ⟨fun w a q h => ?_, fun h => absurd h (fun q => q), fun a b h => (by cases h)⟩
    have q : gEq2 M M2 c a (a + ((gxLn x).1 + 1)) := q
    exact ⟨ih.1 w.1 a (q.sub (by omega) (by omega)) h.1, h.2.keep q (by omega) (by omega)⟩
  | mulR x k ih =>
    refine ⟨fun w a q h => ?_, fun h => absurd h (fun q => q), fun a b h => (by cases h)⟩
    have q : gEq2 M M2 c a (a + (if k = 0 then (gxLn x).1 else (gxLn x).1 + 1)) := q
    have h : (if k = 0 then (gxCo M c S B x).1 a else (gxCo M c S B x).1 a ∧ gAt2 M c (a + (gxLn x).1) 11 12) := h
    show (if k = 0 then (gxCo M2 c S B2 x).1 a else (gxCo M2 c S B2 x).1 a ∧ gAt2 M2 c (a + (gxLn x).1) 11 12)
    by_cases e0 : k = 0
    · rw [if_pos e0] at q h ⊢
      exact ih.1 w.1 a q h
    · rw [if_neg e0] at q h ⊢
      exact ⟨ih.1 w.1 a (q.sub (by omega) (by omega)) h.1, h.2.keep q (by omega) (by omega)⟩
  | mulL k x ih =>
    cases x with
    | num q =>
      refine ⟨fun w a q2 h => ?_, fun h => absurd h (fun q => q), fun a b h => (by cases h)⟩
      obtain ⟨p, h1, h2, h3⟩ := h
      refine ⟨p, gAt2.keep h1 q2 (by omega) (Nat.lt_add_of_pos_right (Nat.succ_pos _)), by omega, ?_⟩
      rw [← h3]
      obtain ⟨w1, w2, -⟩ := w
      exact gBy_congr _ _ _ (fun j hj => hb _ (by omega))
    | var i => exact ⟨fun _ a q h => gAt2.keep h q (by omega) (Nat.lt_add_of_pos_right (Nat.succ_pos _)), fun h => absurd h (fun q => q), fun a b h => (by cases h)⟩
    | add y z =>
      refine ⟨fun w a q h => ?_, fun h => absurd h (fun q => q), fun a b h => (by cases h)⟩
      have q : gEq2 M M2 c a (a + ((gxLn y).1 + (gxLn z).1 + 1)) := q
      obtain ⟨-, -, w1, w2⟩ := w
      obtain ⟨i1, i2⟩ := ih.2.2 y z rfl
      exact ⟨i1 w1.1 a (q.sub (by omega) (by omega)) h.1, i2 w2.1 _ (q.sub (by omega) (by omega)) h.2.1, h.2.2.keep q (by omega) (by omega)⟩
    | neg y => exact ⟨fun _ a q h => trivial, fun h => absurd h (fun q => q), fun a b h => (by cases h)⟩
    | sub => exact ⟨fun h => absurd h (fun q => q), fun h => absurd h (fun q => q), fun a b h => (by cases h)⟩
    | mulL => exact ⟨fun h => absurd h (fun q => q), fun h => absurd h (fun q => q), fun a b h => (by cases h)⟩
    | mulR => exact ⟨fun h => absurd h (fun q => q), fun h => absurd h (fun q => q), fun a b h => (by cases h)⟩
  | add x xs ihx ihs =>
    refine ⟨fun h => absurd h (fun q => q), fun h y hy => ?_, fun a b h => by cases h; exact ⟨ihx.1, ihs.1⟩⟩
    rcases List.mem_cons.mp hy with q | q
    · rw [q]; exact ihx.1 h.1
    · exact ihs.2.1 h.2 y q
  | sub f as _ ih =>
    refine ⟨fun w a q h => ?_, fun h => absurd h (fun q => q), fun a b h => (by cases h)⟩
    cases f with
    | num w0 =>
      obtain ⟨hw, ha⟩ := w
      have hall : ∀ e ∈ gxAL as, 1 ≤ (gxLn e).1 ∧ gxK M M2 c S B B2 e := fun e he => ⟨gxLn_pos e (gxWf_all as ha e he), ih.2.1 ha e he⟩
      have q : gEq2 M M2 c a (a + gxCl w0 (gxAL as) (gxLn as).2) := q
      have h : gxCc M c w0 (gxAL as) (gxCo M c S B as).2 (gxLn as).2 a := h
      show gxCc M2 c w0 (gxAL as) (gxCo M2 c S B2 as).2 (gxLn as).2 a
      rw [gxCo_map, gxLn_map] at h ⊢
      rw [gxLn_map] at q
      generalize gxAL as = es at hall q h
      unfold gxCc at h ⊢
      have q0 := q
      unfold gxCl at q
      by_cases c1 : w0 < 0
      · rw [if_pos c1] at h q ⊢
        exact h.keep q (by omega) (by omega)
      · rw [if_neg c1] at h q ⊢
        by_cases c2 : gxRt (gTks w0.toNat) es = false
        · rw [if_pos c2] at h q ⊢
          exact h.keep q (by omega) (by omega)
        · rw [if_neg c2] at h q ⊢
          by_cases c3 : gWgr w0.toNat = 5
          · rw [if_pos c3] at h q ⊢
            rw [List.length_map] at q
            cases es with
            | nil => exact absurd h.1 (fun z => z)
            | cons e es =>
              have hs : (List.map (fun x : gEx => (gxLn x).1) (e :: es)).sum = (gxLn e).1 + (es.map (fun x => (gxLn x).1)).sum := by rw [List.map_cons, List.sum_cons]
              rw [hs, List.length_cons] at q
              have k0 := hall e List.mem_cons_self
              refine ⟨k0.2 a (q.sub (by omega) ?_) h.1, ?_⟩
              · by_cases l1 : es.length = 0
                · have : es = [] := List.length_eq_zero_iff.mp l1
                  subst this
                  exfalso
                  have rt : gxRt (gTks w0.toNat) [e] = true := gBtr c2
                  have hl := gxRt_len _ _ rt
                  have : ∀ w, w < 52 → gWgr w = 5 → 2 ≤ (gTks w).length := by decide +kernel
                  have := this w0.toNat (by omega) c3
                  rw [hl] at this
                  exact absurd this (by rw [List.length_cons, List.length_nil]; omega)
                · omega
              · cases es with
                | nil => exact trivial
                | cons e2 es2 =>
                  refine gxPk_keep (e2 :: es2) 1 (a + (gxLn e).1) (fun x hx => hall x (List.mem_cons_of_mem _ hx)) (q.sub (by omega) ?_) h.2
                  rw [List.length_cons]
                  omega
          · rw [if_neg c3] at h q ⊢
            exact ⟨gxSq_keep _ es a hall (q.sub (by omega) (by omega)) h.1, h.2.keep q (by omega) (by omega)⟩
    | _ => exact absurd w (fun q => q)
