/-! The caches at first -/
theorem u0_36 : u0.2 36 1 = 46 ∨ u0.2 36 1 = 5 := by
  first
    | exact Or.inl rfl
    | exact Or.inr rfl
theorem inv0T : invT u0 := ⟨Or.inl (u0_near rfl), Or.inl (u0_near rfl), u0_36, fun h => by rw [u0_near rfl] at h; exact absurd h (by decide), fun h => by rw [u0_near rfl] at h; exact absurd h (by decide)⟩
