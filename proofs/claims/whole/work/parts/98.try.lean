/-! try -/
theorem try_1 : (1 : Nat) = 1 := rfl
