/-! Ranges of what is told by 0 and 1 -/
theorem ri_b2 (b : Bool) : rI (b2 b) := by cases b <;> decide
