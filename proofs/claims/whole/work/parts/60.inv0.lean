/-! What both sides hold alike at first -/
theorem u1_far {a : Nat} {x : Int} (h : Nat.ble 265 a = true) : u1.1 a x = 0 := by
  show (if Nat.ble a 58 = true then (0 : Int) else if Nat.ble 265 a = true then 0 else _) = 0
  rw [if_pos h]
  split <;> rfl
theorem u1_near {a : Nat} {x : Int} (h : Nat.ble a 58 = true) : u1.1 a x = 0 := by
  show (if Nat.ble a 58 = true then (0 : Int) else _) = 0
  rw [if_pos h]
theorem u0_302 (x : Int) : u0.1 302 x = 0 := by
  simp only [u0, one, fil_1, wr_1, u1_far (a := 302) rfl, true_and]
  simp
theorem u0_303 (x : Int) : u0.1 303 x = 0 := by
  simp only [u0, one, fil_1, wr_1, u1_far (a := 303) rfl, true_and]
  simp
theorem u0_other {a : Nat} {x : Int} (h1 : a ≠ 301) (h2 : a ≠ 302) (h3 : a ≠ 303) : u0.1 a x = u1.1 a x := by
  simp [u0, one, fil_1, wr_1, h1, h2, h3]
theorem u0_301 : u0.1 301 0 = 1 ∧ u0.1 301 1 = 1 := by
  constructor <;> simp [u0, one, fil_1, wr_1]
theorem inv0S : invS u0 := ⟨0, by omega, by rw [u0_other (by decide) (by decide) (by decide), u1_near rfl]; rfl, by rw [u0_other (by decide) (by decide) (by decide), u1_far rfl]; rfl, fun j hj => by omega⟩
theorem inv0W : invW u0 := ⟨0, by omega, by rw [u0_other (by decide) (by decide) (by decide), u1_near rfl]; rfl, by rw [u0_other (by decide) (by decide) (by decide), u1_far rfl]; rfl, fun i hi => by omega⟩
theorem inv0G : invG u0 := ⟨0, 0, by omega, by omega, by rw [u0_other (by decide) (by decide) (by decide), u1_near rfl]; rfl, by rw [u0_other (by decide) (by decide) (by decide), u1_far rfl]; rfl, by rw [u0_other (by decide) (by decide) (by decide), u1_near rfl]; rfl, by rw [u0_other (by decide) (by decide) (by decide), u1_far rfl]; rfl, by rw [u0_other (by decide) (by decide) (by decide), u1_far rfl]; rfl, fun x h0 h1 => by omega, fun r h0 h1 => by omega⟩
theorem u1_m {a : Nat} {x : Int} (h1 : Nat.ble a 58 = false) (h2 : Nat.ble 265 a = false) (h3 : mch a = true) : u1.1 a x = if x = 0 then 1 else 0 := by
  show (if Nat.ble a 58 = true then (0 : Int) else if Nat.ble 265 a = true then 0 else if mch a = true then (if x = 0 then 1 else 0) else _) = _
  rw [h1, h2, h3]
  rfl
theorem inv0M : invM u0 := by
  have hst : ∀ (w : Nat), (w = 0 ∨ w = 1) → mEq u0 w := by
    intro w hw
    have hm : u0.1 (59 + 2 * w) 0 = 1 ∧ u0.1 (59 + 2 * w) 1 = 0 ∧ (∀ x, u0.1 (59 + 2 * w + 1) x = 0) ∧ u0.1 301 w = 1 := by
      rcases hw with hw | hw
      · subst hw
        refine ⟨?_, ?_, fun x => ?_, u0_301.1⟩
        · rw [u0_other (by decide) (by decide) (by decide)]; rfl
        · rw [u0_other (by decide) (by decide) (by decide)]; rfl
        · rw [u0_other (by decide) (by decide) (by decide)]; rfl
      · subst hw
        refine ⟨?_, ?_, fun x => ?_, u0_301.2⟩
        · rw [u0_other (by decide) (by decide) (by decide)]; rfl
        · rw [u0_other (by decide) (by decide) (by decide)]; rfl
        · rw [u0_other (by decide) (by decide) (by decide)]; rfl
    obtain ⟨a1, a2, a3, a4⟩ := hm
    refine ⟨1, by omega, by omega, a1, a4, fun s c h0 h1 h2 h3 => ?_, fun s h0 h1 => ?_⟩
    · rw [u0_302, a3]
      omega
    · rw [u0_303, a2, bt_0]
      rfl
  exact ⟨hst 0 (Or.inl rfl), hst 1 (Or.inr rfl)⟩
