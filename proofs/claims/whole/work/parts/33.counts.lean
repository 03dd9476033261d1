/-! Numbers that are told as MOST above it, and one that has no end -/
abbrev mst : Int := 4000000000000000000
def cn (e x : Int) : Prop := x = e ∨ (0 ≤ x ∧ x ≤ 4000000000000000000)
def pl (e a b : Int) : Int := if a = e ∨ b = e then e else min 4000000000000000000 (a + b)
def tm (e a b : Int) : Int := if a = 0 ∨ b = 0 then 0 else if a = e ∨ b = e then e else min 4000000000000000000 (a * b)
theorem cn_pl {e a b : Int} (ha : cn e a) (hb : cn e b) : cn e (pl e a b) := by
  unfold pl
  split
  · exact Or.inl rfl
  · rcases ha with h | h
    · omega
    · rcases hb with h2 | h2
      · omega
      · right
        omega
theorem cn_tm {e a b : Int} (ha : cn e a) (hb : cn e b) : cn e (tm e a b) := by
  unfold tm
  split
  · right
    omega
  · split
    · exact Or.inl rfl
    · rcases ha with h | h
      · omega
      · rcases hb with h2 | h2
        · omega
        · right
          have := Int.mul_nonneg h.1 h2.1
          omega
theorem mul_gt {a b : Int} (ha : 0 < a) (hb : 0 < b) : ((4000000000000000000 : Int).tdiv b < a) ↔ 4000000000000000000 < a * b := by
  rw [Int.tdiv_eq_ediv_of_nonneg (by decide)]
  exact Int.ediv_lt_iff_lt_mul hb
theorem tdiv_r {b : Int} (hb : 0 < b) : 0 ≤ (4000000000000000000 : Int).tdiv b ∧ (4000000000000000000 : Int).tdiv b ≤ 4000000000000000000 := by
  rw [Int.tdiv_eq_ediv_of_nonneg (by decide)]
  exact ⟨Int.ediv_nonneg (by decide) (by omega), Int.ediv_le_self _ (by decide)⟩
theorem p_51 {d : Nat} {u : uS} {a b : Int} (ha : cn 9000000000000000000 a) (hb : cn 9000000000000000000 b) : cL (d + 1) 51 [lV a, lV b] u (fun r u' => r = pl 9000000000000000000 a b ∧ u' = u) := by
  have ra : rL a := by rcases ha with h | h <;> constructor <;> omega
  have rb : rL b := by rcases hb with h | h <;> constructor <;> omega
  refine e_51 ⟨ra, ?_⟩
  split
  · next h => exact ⟨by simp [pl, h], rfl⟩
  · next h =>
    refine ⟨rb, ?_⟩
    split
    · next h2 => exact ⟨by simp [pl, h2], rfl⟩
    · next h2 =>
      refine ⟨?_, by simp [pl, h, h2], rfl⟩
      rcases ha with h3 | h3
      · exact absurd h3 h
      · rcases hb with h4 | h4
        · exact absurd h4 h2
        · constructor <;> omega
theorem p_111 {d : Nat} {u : uS} {a b : Int} (ha : cn 9000000000000000000 a) (hb : cn 9000000000000000000 b) : cL (d + 1) 111 [lV a, lV b] u (fun r u' => r = tm 9000000000000000000 a b ∧ u' = u) := by
  have ra : rL a := by rcases ha with h | h <;> constructor <;> omega
  have rb : rL b := by rcases hb with h | h <;> constructor <;> omega
  refine e_111 ⟨ra, ?_⟩
  split
  · next h => exact ⟨by simp [tm, h], rfl⟩
  · next h =>
    refine ⟨rb, ?_⟩
    split
    · next h2 => exact ⟨by simp [tm, h2], rfl⟩
    · next h2 =>
      split
      · next h3 => exact ⟨by simp [tm, h, h2, h3], rfl⟩
      · next h3 =>
        split
        · next h4 => exact ⟨by simp [tm, h, h2, h4], rfl⟩
        · next h4 =>
          have pa : 0 < a := by rcases ha with h5 | h5 <;> omega
          have pb : 0 < b := by rcases hb with h5 | h5 <;> omega
          have ht := tdiv_r pb
          refine ⟨h2, ⟨by omega, by omega⟩, ?_⟩
          split
          · next h5 =>
            have := (mul_gt pa pb).mp h5
            refine ⟨?_, rfl⟩
            simp only [tm, h, h2, h3, h4, or_self, if_false]
            omega
          · next h5 =>
            have : ¬ 4000000000000000000 < a * b := fun q => h5 ((mul_gt pa pb).mpr q)
            refine ⟨?_, rfl⟩
            simp only [tm, h, h2, h3, h4, or_self, if_false]
            omega
theorem p_227 {d : Nat} {u : uS} {a b : Int} (ha : cn 5000000000000000000 a) (hb : cn 5000000000000000000 b) : cL (d + 1) 227 [lV a, lV b] u (fun r u' => r = tm 5000000000000000000 a b ∧ u' = u) := by
  have ra : rL a := by rcases ha with h | h <;> constructor <;> omega
  have rb : rL b := by rcases hb with h | h <;> constructor <;> omega
  refine e_227 ⟨ra, ?_⟩
  split
  · next h => exact ⟨by simp [tm, h], rfl⟩
  · next h =>
    refine ⟨rb, ?_⟩
    split
    · next h2 => exact ⟨by simp [tm, h2], rfl⟩
    · next h2 =>
      split
      · next h3 => exact ⟨by simp [tm, h, h2, h3], rfl⟩
      · next h3 =>
        split
        · next h4 => exact ⟨by simp [tm, h, h2, h4], rfl⟩
        · next h4 =>
          have pa : 0 < a := by rcases ha with h5 | h5 <;> omega
          have pb : 0 < b := by rcases hb with h5 | h5 <;> omega
          have ht := tdiv_r pb
          refine ⟨h2, ⟨by omega, by omega⟩, ?_⟩
          split
          · next h5 =>
            have := (mul_gt pa pb).mp h5
            refine ⟨?_, rfl⟩
            simp only [tm, h, h2, h3, h4, or_self, if_false]
            omega
          · next h5 =>
            have : ¬ 4000000000000000000 < a * b := fun q => h5 ((mul_gt pa pb).mpr q)
            refine ⟨?_, rfl⟩
            simp only [tm, h, h2, h3, h4, or_self, if_false]
            omega
theorem p_217 {d : Nat} {u : uS} {a b : Int} (ha : cn 5000000000000000000 a) (hb : cn 5000000000000000000 b) : cL (d + 1) 217 [lV a, lV b] u (fun r u' => r = pl 5000000000000000000 a b ∧ u' = u) := by
  have ra : rL a := by rcases ha with h | h <;> constructor <;> omega
  have rb : rL b := by rcases hb with h | h <;> constructor <;> omega
  refine e_217 ⟨ra, ?_⟩
  split
  · next h => exact ⟨by simp [pl, h], rfl⟩
  · next h =>
    refine ⟨rb, ?_⟩
    split
    · next h2 => exact ⟨by simp [pl, h2], rfl⟩
    · next h2 =>
      have ga : 0 ≤ a ∧ a ≤ 4000000000000000000 := by
        rcases ha with h3 | h3
        · exact absurd h3 h
        · exact h3
      have gb : 0 ≤ b ∧ b ≤ 4000000000000000000 := by
        rcases hb with h3 | h3
        · exact absurd h3 h2
        · exact h3
      have e : pl 5000000000000000000 a b = min 4000000000000000000 (a + b) := by simp [pl, h, h2]
      refine ⟨⟨by omega, by omega⟩, ?_⟩
      rw [e]
      split
      · exact ⟨by omega, rfl⟩
      · split
        · omega
        · exact ⟨by omega, rfl⟩
theorem rl_cn9 {x : Int} (h : cn 9000000000000000000 x) : rL x := by rcases h with h | h <;> constructor <;> omega
theorem rl_cn5 {x : Int} (h : cn 5000000000000000000 x) : rL x := by rcases h with h | h <;> constructor <;> omega
