/-! Numbers of trees: sums and products that stop at the most -/
abbrev cv (a : Int) : Prop := cn 5000000000000000000 a
abbrev sP (a b : Int) : Int := pl 5000000000000000000 a b
abbrev sT (a b : Int) : Int := tm 5000000000000000000 a b
theorem cv_P {a b : Int} (ha : cv a) (hb : cv b) : cv (sP a b) := cn_pl ha hb
theorem cv_T {a b : Int} (ha : cv a) (hb : cv b) : cv (sT a b) := cn_tm ha hb
theorem cv_0 : cv 0 := Or.inr ⟨by omega, by omega⟩
theorem cv_1 : cv 1 := Or.inr ⟨by omega, by omega⟩
theorem cv_E : cv 5000000000000000000 := Or.inl rfl
theorem cv_n {a : Int} (h : cv a) : 0 ≤ a ∧ a ≤ 5000000000000000000 := by
  rcases h with z | z <;> omega
theorem cv_L {a : Int} (h : cv a) : rL a := by
  have := cv_n h
  exact ⟨by omega, by omega⟩
theorem sP_comm (a b : Int) : sP a b = sP b a := by
  simp only [sP, pl]
  rw [Int.add_comm a b]
  by_cases h1 : a = 5000000000000000000 <;> by_cases h2 : b = 5000000000000000000 <;> simp [h1, h2]
theorem sP_0 {a : Int} (h : cv a) : sP a 0 = a := by
  simp only [sP, pl]
  rcases h with z | z
  · rw [if_pos (Or.inl z)]; exact z.symm
  · rw [if_neg (by omega), Int.min_def]
    split <;> omega
theorem sP_0l {a : Int} (h : cv a) : sP 0 a = a := by rw [sP_comm, sP_0 h]
theorem sP_n {a b : Int} (h1 : a ≠ 5000000000000000000) (h2 : b ≠ 5000000000000000000) : sP a b = min 4000000000000000000 (a + b) := by
  simp only [sP, pl]
  rw [if_neg (by omega)]
theorem sP_E (a : Int) : sP 5000000000000000000 a = 5000000000000000000 := by simp [sP, pl]
theorem sP_E' (a : Int) : sP a 5000000000000000000 = 5000000000000000000 := by simp [sP, pl]
theorem sP_assoc {a b c : Int} (ha : cv a) (hb : cv b) (hc : cv c) : sP (sP a b) c = sP a (sP b c) := by
  by_cases h1 : a = 5000000000000000000
  · rw [h1, sP_E, sP_E, sP_E]
  · by_cases h2 : b = 5000000000000000000
    · rw [h2, sP_E', sP_E, sP_E']
    · by_cases h3 : c = 5000000000000000000
      · rw [h3, sP_E', sP_E', sP_E']
      · have a1 : 0 ≤ a ∧ a ≤ 4000000000000000000 := by rcases ha with z | z <;> omega
        have b1 : 0 ≤ b ∧ b ≤ 4000000000000000000 := by rcases hb with z | z <;> omega
        have c1 : 0 ≤ c ∧ c ≤ 4000000000000000000 := by rcases hc with z | z <;> omega
        rw [sP_n h1 h2, sP_n h2 h3, sP_n (by omega) h3, sP_n h1 (by omega)]
        omega
theorem sP_z {a b : Int} (ha : cv a) (hb : cv b) : sP a b = 0 ↔ a = 0 ∧ b = 0 := by
  have h1 := cv_n ha
  have h2 := cv_n hb
  simp only [sP, pl]
  split
  · omega
  · omega
theorem sT_z {a b : Int} (ha : cv a) (hb : cv b) : sT a b = 0 ↔ a = 0 ∨ b = 0 := by
  have h1 := cv_n ha
  have h2 := cv_n hb
  simp only [sT, tm]
  by_cases h : a = 0 ∨ b = 0
  · rw [if_pos h]; exact ⟨fun _ => h, fun _ => rfl⟩
  · rw [if_neg h]
    refine ⟨fun z => ?_, fun z => absurd z h⟩
    split at z
    · omega
    · have : 0 < a * b := Int.mul_pos (by omega) (by omega)
      omega
theorem sT_0 (a : Int) : sT a 0 = 0 := by simp [sT, tm]
theorem sT_0l (a : Int) : sT 0 a = 0 := by simp [sT, tm]
theorem sT_1 {a : Int} (h : cv a) : sT a 1 = a := by
  simp only [sT, tm]
  by_cases h0 : a = 0
  · rw [if_pos (Or.inl h0)]; exact h0.symm
  · rw [if_neg (by omega)]
    rcases h with z | z
    · rw [if_pos (Or.inl z)]; exact z.symm
    · rw [if_neg (by omega), Int.mul_one]
      omega
theorem min_mul {a b : Int} (ha : 1 ≤ a) (hb : 1 ≤ b) : min 4000000000000000000 (min 4000000000000000000 a * b) = min 4000000000000000000 (a * b) := by
  by_cases h : a ≤ 4000000000000000000
  · rw [Int.min_eq_right h]
  · have h1 : (4000000000000000000 : Int) * 1 ≤ 4000000000000000000 * b := Int.mul_le_mul_of_nonneg_left hb (by omega)
    have h2 : a * 1 ≤ a * b := Int.mul_le_mul_of_nonneg_left hb (by omega)
    rw [Int.min_eq_left (a := 4000000000000000000) (b := a) (by omega), Int.min_eq_left (by omega), Int.min_eq_left (by omega)]
theorem sT_n {a b : Int} (ha : cv a) (hb : cv b) (h1 : a ≠ 0) (h2 : b ≠ 0) (h3 : a ≠ 5000000000000000000) (h4 : b ≠ 5000000000000000000) : sT a b = min 4000000000000000000 (a * b) := by
  simp only [sT, tm]
  rw [if_neg (by omega), if_neg (by omega)]
theorem sT_assoc {a b c : Int} (ha : cv a) (hb : cv b) (hc : cv c) : sT (sT a b) c = sT a (sT b c) := by
  by_cases h1 : a = 0
  · rw [h1, sT_0l, sT_0l, sT_0l]
  · by_cases h2 : b = 0
    · rw [h2, sT_0, sT_0l, sT_0]
    · by_cases h3 : c = 0
      · rw [h3, sT_0, sT_0, sT_0]
      · have n1 : sT a b ≠ 0 := fun h => by rcases (sT_z ha hb).mp h with z | z <;> contradiction
        have n2 : sT b c ≠ 0 := fun h => by rcases (sT_z hb hc).mp h with z | z <;> contradiction
        by_cases e1 : a = 5000000000000000000
        · rw [e1]
          have : sT 5000000000000000000 b = 5000000000000000000 := by simp [sT, tm, h2]
          rw [this]
          have q1 : sT 5000000000000000000 c = 5000000000000000000 := by simp [sT, tm, h3]
          rw [q1]
          generalize sT b c = t at n2
          simp [sT, tm, n2]
        · by_cases e2 : b = 5000000000000000000
          · rw [e2]
            simp [sT, tm, h1, h3]
          · by_cases e3 : c = 5000000000000000000
            · rw [e3]
              have : sT b 5000000000000000000 = 5000000000000000000 := by simp [sT, tm, h2]
              rw [this]
              have q1 : sT (sT a b) 5000000000000000000 = 5000000000000000000 := by
                generalize sT a b = t at n1
                simp [sT, tm, n1]
              rw [q1]
              simp [sT, tm, h1]
            · have a1 := cv_n ha
              have b1 := cv_n hb
              have c1 := cv_n hc
              have m1 : sT a b ≠ 5000000000000000000 := by
                rw [sT_n ha hb h1 h2 e1 e2]
                omega
              have m2 : sT b c ≠ 5000000000000000000 := by
                rw [sT_n hb hc h2 h3 e2 e3]
                omega
              rw [sT_n (cv_T ha hb) hc n1 h3 m1 e3, sT_n ha (cv_T hb hc) h1 n2 e1 m2, sT_n ha hb h1 h2 e1 e2, sT_n hb hc h2 h3 e2 e3]
              have p1 : 1 ≤ a * b := Int.mul_pos (by omega) (by omega)
              have p2 : 1 ≤ b * c := Int.mul_pos (by omega) (by omega)
              rw [min_mul p1 (by omega), Int.mul_comm a (min 4000000000000000000 (b * c)), min_mul p2 (by omega), Int.mul_assoc, Int.mul_comm (b * c) a]
/-- the first side's number of the other's -/
def cl (a : Int) : Int := if a = 5000000000000000000 then 9000000000000000000 else a
theorem cl_cn {a : Int} (h : cv a) : cn 9000000000000000000 (cl a) := by
  unfold cl
  split
  · exact Or.inl rfl
  · rcases h with z | z
    · contradiction
    · exact Or.inr z
theorem cl_z {a : Int} : cl a = 0 ↔ a = 0 := by
  unfold cl
  split <;> omega
theorem cl_0 : cl 0 = 0 := by decide
theorem cl_1 : cl 1 = 1 := by decide
theorem cl_E : cl 5000000000000000000 = 9000000000000000000 := by decide
theorem cl_i {a b : Int} (ha : cv a) (hb : cv b) (h : cl a = cl b) : a = b := by
  unfold cl at h
  rcases ha with z | z <;> rcases hb with y | y
  · omega
  · rw [if_pos z, if_neg (by omega)] at h; omega
  · rw [if_neg (by omega), if_pos y] at h; omega
  · rw [if_neg (by omega), if_neg (by omega)] at h; exact h
theorem cl_n {a : Int} (h : a ≠ 5000000000000000000) : cl a = a := by unfold cl; rw [if_neg h]
theorem cl_9 {a : Int} (ha : cv a) : cl a = 9000000000000000000 ↔ a = 5000000000000000000 := by
  unfold cl
  rcases ha with z | z
  · rw [if_pos z]; exact ⟨fun _ => z, fun _ => rfl⟩
  · rw [if_neg (by omega)]; omega
theorem cl_P {a b : Int} (ha : cv a) (hb : cv b) : pl 9000000000000000000 (cl a) (cl b) = cl (sP a b) := by
  by_cases h1 : a = 5000000000000000000
  · rw [h1, cl_E]
    simp [sP, pl, cl_E]
  · by_cases h2 : b = 5000000000000000000
    · rw [h2, cl_E]
      simp [sP, pl, cl_E]
    · have a1 : a ≤ 4000000000000000000 := by rcases ha with z | z <;> omega
      have b1 : b ≤ 4000000000000000000 := by rcases hb with z | z <;> omega
      rw [cl_n h1, cl_n h2]
      simp only [sP, pl]
      rw [if_neg (by omega), if_neg (by omega), cl_n (by omega)]
theorem cl_T {a b : Int} (ha : cv a) (hb : cv b) : tm 9000000000000000000 (cl a) (cl b) = cl (sT a b) := by
  by_cases h0 : a = 0
  · rw [h0, cl_0, sT_0l, cl_0]
    simp [tm]
  · by_cases h0' : b = 0
    · rw [h0', cl_0, sT_0, cl_0]
      simp [tm]
    · have n1 : cl a ≠ 0 := fun h => h0 (cl_z.mp h)
      have n2 : cl b ≠ 0 := fun h => h0' (cl_z.mp h)
      by_cases h1 : a = 5000000000000000000
      · have e : sT a b = 5000000000000000000 := by rw [h1]; simp [sT, tm, h0']
        rw [e, cl_E]
        rw [h1, cl_E]
        simp [tm, n2]
      · by_cases h2 : b = 5000000000000000000
        · have e : sT a b = 5000000000000000000 := by rw [h2]; simp [sT, tm, h0]
          rw [e, cl_E]
          rw [h2, cl_E]
          simp [tm, n1]
        · have a1 : a ≤ 4000000000000000000 := by rcases ha with z | z <;> omega
          have b1 : b ≤ 4000000000000000000 := by rcases hb with z | z <;> omega
          rw [cl_n h1, cl_n h2, sT_n ha hb h0 h0' h1 h2, cl_n (by omega)]
          simp only [tm]
          rw [if_neg (by omega), if_neg (by omega)]
/-- sums and products along a row -/
def su (f : Nat → Int) : Nat → Int
  | 0 => 0
  | k + 1 => sP (su f k) (f k)
def pr (f : Nat → Int) : Nat → Int
  | 0 => 1
  | k + 1 => sT (pr f k) (f k)
theorem su_cv {f : Nat → Int} : ∀ k : Nat, (∀ i, i < k → cv (f i)) → cv (su f k)
  | 0, _ => cv_0
  | k + 1, h => cv_P (su_cv k (fun i hi => h i (by omega))) (h k (by omega))
theorem pr_cv {f : Nat → Int} : ∀ k : Nat, (∀ i, i < k → cv (f i)) → cv (pr f k)
  | 0, _ => cv_1
  | k + 1, h => cv_T (pr_cv k (fun i hi => h i (by omega))) (h k (by omega))
theorem su_congr {f g : Nat → Int} : ∀ k : Nat, (∀ i, i < k → f i = g i) → su f k = su g k
  | 0, _ => rfl
  | k + 1, h => by
    simp only [su]
    rw [su_congr k (fun i hi => h i (by omega)), h k (by omega)]
theorem pr_congr {f g : Nat → Int} : ∀ k : Nat, (∀ i, i < k → f i = g i) → pr f k = pr g k
  | 0, _ => rfl
  | k + 1, h => by
    simp only [pr]
    rw [pr_congr k (fun i hi => h i (by omega)), h k (by omega)]
theorem su_z {f : Nat → Int} : ∀ k : Nat, (∀ i, i < k → cv (f i)) → (su f k = 0 ↔ ∀ i, i < k → f i = 0)
  | 0, _ => ⟨fun _ i h => absurd h (Nat.not_lt_zero _), fun _ => rfl⟩
  | k + 1, h => by
    simp only [su]
    rw [sP_z (su_cv k (fun i hi => h i (by omega))) (h k (by omega)), su_z k (fun i hi => h i (by omega))]
    constructor
    · rintro ⟨h1, h2⟩ i hi
      by_cases e : i = k
      · rw [e]; exact h2
      · exact h1 i (by omega)
    · intro h1
      exact ⟨fun i hi => h1 i (by omega), h1 k (by omega)⟩
/-- a product with one factor left out -/
def prB (f : Nat → Int) (k : Nat) : Nat → Int
  | 0 => 1
  | h + 1 => if h = k then prB f k h else sT (prB f k h) (f h)
theorem prB_le {f : Nat → Int} {k : Nat} : ∀ h : Nat, h ≤ k → prB f k h = pr f h
  | 0, _ => rfl
  | h + 1, hk => by
    simp only [prB, pr]
    rw [if_neg (by omega), prB_le h (by omega)]
theorem prB_gt {f : Nat → Int} {k : Nat} (hf : ∀ i, cv (f i)) : ∀ m : Nat, prB f k (k + 1 + m) = sT (pr f k) (pr (fun i => f (k + 1 + i)) m)
  | 0 => by
    show (if k = k then prB f k k else sT (prB f k k) (f k)) = sT (pr f k) 1
    rw [if_pos rfl, prB_le k (Nat.le_refl _), sT_1 (pr_cv k (fun i _ => hf i))]
  | m + 1 => by
    show (if k + 1 + m = k then prB f k (k + 1 + m) else sT (prB f k (k + 1 + m)) (f (k + 1 + m))) = sT (pr f k) (sT (pr (fun i => f (k + 1 + i)) m) (f (k + 1 + m)))
    rw [if_neg (by omega), prB_gt hf m, sT_assoc (pr_cv k (fun i _ => hf i)) (pr_cv m (fun i _ => hf _)) (hf _)]
