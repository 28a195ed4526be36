/-! TRUTH -/
theorem bool_if (v : Int) : (if v = 0 then (0 : Int) else 1) = 0 ∨ (if v = 0 then (0 : Int) else 1) = 1 := by
  by_cases h : v = 0
  · rw [if_pos h]; exact Or.inl rfl
  · rw [if_neg h]; exact Or.inr rfl
