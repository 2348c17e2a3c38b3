/-! what is still open -/
def Inv (M : Mem) : Prop := ∃ h, G h M
theorem inv_start : ∀ M, Inv (Mini M) := by
  sorry
theorem twos_all : ∀ E, Twos E Inv := by
  sorry
