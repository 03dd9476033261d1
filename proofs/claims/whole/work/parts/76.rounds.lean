/-! Counting; rounds that grow come to their end -/
def ct (p : Nat → Bool) : Nat → Nat
  | 0 => 0
  | n + 1 => ct p n + (if p n = true then 1 else 0)
theorem ct_le (p : Nat → Bool) : ∀ n : Nat, ct p n ≤ n
  | 0 => Nat.le_refl 0
  | n + 1 => by
    have := ct_le p n
    simp only [ct]
    split <;> omega
theorem ct_mono {p q : Nat → Bool} : ∀ n : Nat, (∀ i, i < n → p i = true → q i = true) → ct p n ≤ ct q n
  | 0, _ => Nat.le_refl 0
  | n + 1, h => by
    have := ct_mono (p := p) (q := q) n (fun i hi => h i (by omega))
    simp only [ct]
    by_cases hp : p n = true
    · rw [if_pos hp, if_pos (h n (by omega) hp)]
      omega
    · rw [if_neg hp]
      omega
theorem ct_lt {p q : Nat → Bool} : ∀ n : Nat, (∀ i, i < n → p i = true → q i = true) → (∃ i, i < n ∧ p i = false ∧ q i = true) → ct p n < ct q n
  | 0, _, ⟨i, hi, _⟩ => absurd hi (Nat.not_lt_zero i)
  | n + 1, h, ⟨i, hi, h1, h2⟩ => by
    simp only [ct]
    by_cases e : i = n
    · have := ct_mono (p := p) (q := q) n (fun i hi => h i (by omega))
      rw [e] at h1 h2
      rw [h1, h2, if_pos rfl, if_neg (by decide)]
      omega
    · have := ct_lt (p := p) (q := q) n (fun i hi => h i (by omega)) ⟨i, by omega, h1, h2⟩
      by_cases hp : p n = true
      · rw [if_pos hp, if_pos (h n (by omega) hp)]
        omega
      · rw [if_neg hp]
        omega
theorem ct_full {p : Nat → Bool} : ∀ n : Nat, n ≤ ct p n → ∀ i, i < n → p i = true
  | 0, _, i, hi => absurd hi (Nat.not_lt_zero i)
  | n + 1, h, i, hi => by
    have h1 := ct_le p n
    simp only [ct] at h
    by_cases hp : p n = true
    · rw [if_pos hp] at h
      by_cases e : i = n
      · rw [e]; exact hp
      · exact ct_full n (by omega) i (by omega)
    · rw [if_neg hp] at h
      omega
def it {T : Type} (R : T → T) : Nat → T → T
  | 0, t => t
  | k + 1, t => it R k (R t)
theorem it_inv {T : Type} {R : T → T} {C : T → Prop} (h : ∀ t, C t → C (R t)) : ∀ (k : Nat) (t : T), C t → C (it R k t)
  | 0, _, ht => ht
  | k + 1, t, ht => it_inv h k (R t) (h t ht)
/-- a process that grows in each round until it is closed is closed behind as many rounds as there are places; G: what holds of all its states -/
theorem clos {T : Type} {R : T → T} {p : T → Nat → Bool} {C G : T → Prop} {n : Nat} (hG : ∀ t, G t → G (R t)) (h1 : ∀ t, G t → ∀ i, i < n → p t i = true → p (R t) i = true) (h2 : ∀ t, G t → (∀ i, i < n → p (R t) i = p t i) → C t) (h3 : ∀ t, G t → (∀ i, i < n → p t i = true) → C t) (h4 : ∀ t, G t → C t → C (R t)) : ∀ (k j : Nat) (t : T), G t → j ≤ ct (p t) n → n ≤ j + k → C (it R k t) := by
  intro k
  induction k with
  | zero =>
    intro j t hg hj hn
    exact h3 t hg (ct_full n (by omega))
  | succ k ih =>
    intro j t hg hj hn
    by_cases hc : C t
    · have : ∀ (k : Nat) (t : T), G t → C t → C (it R k t) := fun k => by
        induction k with
        | zero => exact fun t _ h => h
        | succ k ih => exact fun t g h => ih (R t) (hG t g) (h4 t g h)
      exact this k (R t) (hG t hg) (h4 t hg hc)
    · refine ih (j + 1) (R t) (hG t hg) ?_ (by omega)
      have hex : ∃ i, i < n ∧ p t i = false ∧ p (R t) i = true := by
        refine Classical.byContradiction (fun hne => hc (h2 t hg (fun i hi => ?_)))
        cases hp : p t i with
        | true => exact h1 t hg i hi hp
        | false =>
          cases hq : p (R t) i with
          | false => rfl
          | true => exact absurd ⟨i, hi, hp, hq⟩ hne
      have := ct_lt n (h1 t hg) hex
      omega
