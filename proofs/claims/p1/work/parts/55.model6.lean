/-! The reference's isNumber: the long that bytes spell. -/
/-- n slots of cell c from a on -/
def gBy (M : gM) (c : Nat) : Nat → Nat → List Int
  | _, 0 => []
  | a, n + 1 => M c a :: gBy M c (a + 1) n
section gmC6
variable {l : Launch} {G : gG} {d : Nat} {X : gX} {M : gM} {o : Nat}
end gmC6
