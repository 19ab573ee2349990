theorem pm_lt2 {i : Nat} (h : i < 2) : i = 0 ∨ i = 1 := by omega
theorem pm_LP0 {i : Nat} (h : i < 8) : 32 + 2 * i ∈ pm_LP := by
  rcases pm_lt8 h with rfl | rfl | rfl | rfl | rfl | rfl | rfl | rfl <;> decide
theorem pm_LP1 {i : Nat} (h : i < 8) : 51 + 2 * i ∈ pm_LP := by
  rcases pm_lt8 h with rfl | rfl | rfl | rfl | rfl | rfl | rfl | rfl <;> decide
