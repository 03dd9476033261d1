/-! What a run leaves as it was -/
def sb (u u' : uS) (ps : List Nat) : Prop := u'.2 = u.2 ∧ ∀ b, b ∉ ps → u'.1 b = u.1 b
theorem sb_refl (u : uS) (ps : List Nat) : sb u u ps := ⟨rfl, fun _ _ => rfl⟩
theorem sb_trans {u u1 u2 : uS} {ps : List Nat} (h : sb u u1 ps) (h2 : sb u1 u2 ps) : sb u u2 ps := ⟨h2.1.trans h.1, fun b hb => (h2.2 b hb).trans (h.2 b hb)⟩
theorem sb_mono {u u1 : uS} {ps qs : List Nat} (h : sb u u1 ps) (hq : ∀ b, b ∈ ps → b ∈ qs) : sb u u1 qs := ⟨h.1, fun b hb => h.2 b (fun q => hb (hq b q))⟩
theorem sb_wr {u u1 : uS} {ps : List Nat} {a : Nat} {i x : Int} (h : sb u u1 ps) (ha : a ∈ ps) : sb u (wr u1 a i x) ps := ⟨h.1, fun b hb => (wr_ne (fun e : b = _ => hb (by rw [e]; exact ha))).trans (h.2 b hb)⟩
theorem sb_cpy {u u1 : uS} {ps : List Nat} {p q : Nat} {sp dp n : Int} (h : sb u u1 ps) (ha : q ∈ ps) : sb u (cpy u1 p sp q dp n) ps := ⟨h.1, fun b hb => (cpy_ne (fun e : b = _ => hb (by rw [e]; exact ha))).trans (h.2 b hb)⟩
/-! Signs without blanks: how many stand ahead of a place -/
def cnt (f : Int → Int) : Nat → Int
  | 0 => 0
  | j + 1 => if f j = 32 then cnt f j else cnt f j + 1
theorem cnt_s (f : Int → Int) (j : Nat) : cnt f (j + 1) = if f j = 32 then cnt f j else cnt f j + 1 := rfl
theorem cnt_r (f : Int → Int) (j : Nat) : 0 ≤ cnt f j ∧ cnt f j ≤ j := by
  induction j with
  | zero => exact ⟨Int.le_refl 0, Int.le_refl 0⟩
  | succ j ih =>
    rw [cnt_s]
    split <;> omega
theorem cnt_mono (f : Int → Int) {i j : Nat} (h : i ≤ j) : cnt f i ≤ cnt f j := by
  induction j with
  | zero =>
    have : i = 0 := by omega
    subst this
    exact Int.le_refl _
  | succ j ih =>
    rcases Nat.lt_or_ge j i with h1 | h1
    · have : i = j + 1 := by omega
      subst this
      exact Int.le_refl _
    · have := ih h1
      rw [cnt_s]
      split <;> omega
theorem cnt_lt (f : Int → Int) {i j : Nat} (h : i < j) (hi : f i ≠ 32) : cnt f i < cnt f j := by
  have h1 := cnt_mono f (show i + 1 ≤ j from h)
  rw [cnt_s, if_neg hi] at h1
  omega
theorem cnt_congr {f g : Int → Int} {n : Nat} (h : ∀ i : Nat, i < n → f i = g i) : ∀ j : Nat, j ≤ n → cnt f j = cnt g j := by
  intro j
  induction j with
  | zero => intro _; rfl
  | succ j ih =>
    intro hj
    rw [cnt_s, cnt_s, ih (by omega), h j (by omega)]
theorem cnt_surj (f : Int → Int) : ∀ (n : Nat) (i : Int), 0 ≤ i → i < cnt f n → ∃ j : Nat, j < n ∧ f j ≠ 32 ∧ cnt f j = i := by
  intro n
  induction n with
  | zero =>
    intro i h0 h1
    simp [cnt] at h1
    omega
  | succ n ih =>
    intro i h0 h1
    rw [cnt_s] at h1
    by_cases hf : f n = 32
    · rw [if_pos hf] at h1
      obtain ⟨j, a, b, c⟩ := ih i h0 h1
      exact ⟨j, by omega, b, c⟩
    · rw [if_neg hf] at h1
      by_cases he : i = cnt f n
      · exact ⟨n, by omega, hf, he.symm⟩
      · obtain ⟨j, a, b, c⟩ := ih i h0 (by omega)
        exact ⟨j, by omega, b, c⟩
/-- the text that was taken: u, the signs f, their number n -/
def txt (u : uS) (f : Int → Int) (n : Nat) : Prop := u.1 1 5 = cnt f n ∧ u.1 1 3 = n ∧ ∀ j : Nat, j < n → f j ≠ 32 → u.1 3 (cnt f j) = f j ∧ u.1 4 (cnt f j) = j
