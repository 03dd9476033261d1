/-! The later invariants at first -/
theorem u1_mid {a : Nat} {x : Int} (h1 : Nat.ble a 58 = false) (h2 : Nat.ble 265 a = false) (h3 : mch a = false) (h4 : ∀ y : Int, u1.1 a y = 0) : u0.1 a x = 0 := by
  rw [u0_other (fun h => by rw [h] at h2; cases h2) (fun h => by rw [h] at h2; cases h2) (fun h => by rw [h] at h2; cases h2)]
  exact h4 x
theorem u0_far {a : Nat} {x : Int} (h : Nat.ble 265 a = true) (h1 : a ≠ 301) (h2 : a ≠ 302) (h3 : a ≠ 303) : u0.1 a x = 0 := by
  rw [u0_other h1 h2 h3, u1_far h]
theorem u0_near {a : Nat} {x : Int} (h : Nat.ble a 58 = true) : u0.1 a x = 0 := by
  rw [u0_other (fun e => by rw [e] at h; cases h) (fun e => by rw [e] at h; cases h) (fun e => by rw [e] at h; cases h), u1_near h]
theorem u0_231 : u0.1 231 0 = 0 := by
  rw [u0_other (by decide) (by decide) (by decide)]
  rfl
theorem inv0X : invX u0 := ⟨fun t _ _ => by rw [u0_far rfl (by decide) (by decide) (by decide)]; exact ⟨by omega, by omega⟩, Or.inl ⟨u0_231, u0_far rfl (by decide) (by decide) (by decide)⟩⟩
theorem u0_193 : u0.1 193 0 = 0 ∧ u0.1 212 0 = 0 := by
  constructor
  · rw [u0_other (by decide) (by decide) (by decide)]
    rfl
  · rw [u0_other (by decide) (by decide) (by decide)]
    rfl
theorem inv0P : invP u0 := ⟨⟨Or.inl u0_193.1, fun h => by rw [show u0.1 (193 + 19 * 0) 0 = 0 from u0_193.1] at h; exact absurd h (by decide)⟩, ⟨Or.inl u0_193.2, fun h => by rw [show u0.1 (193 + 19 * 1) 0 = 0 from u0_193.2] at h; exact absurd h (by decide)⟩⟩
theorem inv0Q : invQ u0 := fun j _ _ => by
  constructor
  · rw [u0_other (by decide) (by decide) (by decide)]
    rfl
  · rw [u0_other (by decide) (by decide) (by decide)]
    rfl
