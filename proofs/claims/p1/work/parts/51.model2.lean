/-! Contracts of the reference's small methods: stack, places, nodes. -/
section gmC2
variable {l : Launch} {G : gG} {d : Nat} {X : gX} {M : gM} {o : Nat} {x y1 s v i n p t : Int}
theorem c_min {k : Int → gM → Prop} (hx : g32 x) (hy : g32 y1) (h : k (min x y1) M) : cI l G y_jMath_min (gRm d) false [gI x, gI y1] X M k :=
  e_jMath_min (w_jMath_min_0 hx hy ⟨fun h1 => by rw [show min x y1 = y1 by omega] at h; exact h, fun h1 => by rw [show min x y1 = x by omega] at h; exact h⟩)
end gmC2
