/-! Two tables in which keys are looked for, slot by slot -/
theorem ct_all {p : Nat → Bool} : ∀ n : Nat, (∀ i, i < n → p i = true) → ct p n = n
  | 0, _ => rfl
  | n + 1, h => by
    simp only [ct]
    rw [ct_all n (fun i hi => h i (by omega)), if_pos (h n (by omega))]
def HT (N : Nat) (e : Int) (T : Int → Int) (h0 : Int → Int → Int) (n : Nat) (f g : Int → Int) : Prop :=
  (∀ s : Int, 0 ≤ s → s < N → T s = e ∨ (0 ≤ T s ∧ T s < n)) ∧ (∀ q : Nat, q < n → ∃ t : Nat, T ((h0 (f q) (g q) + t) % N) = q ∧ ∀ t' : Nat, t' < t → 0 ≤ T ((h0 (f q) (g q) + t') % N)) ∧ ct (fun s => decide (0 ≤ T (s : Int))) N ≤ n
theorem HT_0 {N : Nat} {e : Int} {T : Int → Int} {h0 : Int → Int → Int} {f g : Int → Int} (he : e < 0) (h : ∀ s : Int, 0 ≤ s → s < N → T s = e) : HT N e T h0 0 f g := by
  refine ⟨fun s h1 h2 => Or.inl (h s h1 h2), fun q hq => absurd hq (Nat.not_lt_zero q), ?_⟩
  rw [ct_zero N (fun i hi => by
    have := h i (by omega) (by omega)
    rw [decide_eq_false]
    omega)]
  exact Nat.le_refl 0
/-- walking from h on one comes to a free slot -/
theorem HT_free {N n : Nat} {e : Int} {T : Int → Int} {h0 : Int → Int → Int} {f g : Int → Int} (hH : HT N e T h0 n f g) (hn : n < N) {h : Int} (h1 : 0 ≤ h) (h2 : h < N) : ∃ t : Nat, t < N ∧ T ((h + t) % N) = e := by
  have : ∃ s : Nat, s < N ∧ ¬ 0 ≤ T (s : Int) := by
    refine Classical.byContradiction (fun hc => ?_)
    have := ct_all (p := fun s => decide (0 ≤ T (s : Int))) N (fun i hi => by
      refine decide_eq_true (Classical.byContradiction (fun hh => hc ⟨i, hi, hh⟩)))
    have := hH.2.2
    omega
  obtain ⟨s, s1, s2⟩ := this
  have e1 : T (s : Int) = e := by
    rcases hH.1 s (by omega) (by omega) with h | h
    · exact h
    · exact absurd h.1 s2
  by_cases c : h ≤ s
  · refine ⟨((s : Int) - h).toNat, by omega, ?_⟩
    rw [show h + (((s : Int) - h).toNat : Int) = s by omega, Int.emod_eq_of_lt (by omega) (by omega)]
    exact e1
  · refine ⟨((s : Int) - h + N).toNat, by omega, ?_⟩
    rw [show h + (((s : Int) - h + N).toNat : Int) = (s : Int) + N by omega, Int.add_emod_right, Int.emod_eq_of_lt (by omega) (by omega)]
    exact e1
theorem HT_miss {N n : Nat} {e : Int} {T : Int → Int} {h0 : Int → Int → Int} {f g : Int → Int} (hH : HT N e T h0 n f g) {a b : Int} {t : Nat} (ht : T ((h0 a b + t) % N) < 0) (hp : ∀ t' : Nat, t' < t → ∀ q : Nat, q < n → T ((h0 a b + t') % N) = q → ¬ (f q = a ∧ g q = b)) : ∀ q : Nat, q < n → ¬ (f q = a ∧ g q = b) := by
  intro q hq hk
  obtain ⟨t1, e1, e2⟩ := hH.2.1 q hq
  rw [hk.1, hk.2] at e1 e2
  by_cases c : t1 < t
  · exact hp t1 c q hq e1 hk
  · by_cases c2 : t < t1
    · have := e2 t c2
      omega
    · have e3 : t1 = t := by omega
      rw [e3] at e1
      omega
theorem HT_add {N n : Nat} {e : Int} {T T' : Int → Int} {h0 : Int → Int → Int} {f g : Int → Int} (he : e < 0) (hH : HT N e T h0 n f g) {a b s : Int} {t : Nat} (hs : s = (h0 a b + t) % N) (hN : 0 < N) (ht : T s = e) (hp : ∀ t' : Nat, t' < t → 0 ≤ T ((h0 a b + t') % N)) (hT : ∀ j : Int, 0 ≤ j → j < N → T' j = if j = s then (n : Int) else T j) : HT N e T' h0 (n + 1) (uf f n a) (uf g n b) := by
  have hr : ∀ x : Int, 0 ≤ x % N ∧ x % N < N := fun x => ⟨Int.emod_nonneg _ (by omega), Int.emod_lt_of_pos _ (by omega)⟩
  refine ⟨fun j j1 j2 => ?_, fun q hq => ?_, ?_⟩
  · rw [hT j j1 j2]
    by_cases c : j = s
    · rw [if_pos c]
      right
      omega
    · rw [if_neg c]
      rcases hH.1 j j1 j2 with h | h
      · exact Or.inl h
      · right
        omega
  · by_cases c : q = n
    · rw [c, uf_eq, uf_eq]
      refine ⟨t, ?_, fun t' ht' => ?_⟩
      · rw [hT _ (hr _).1 (hr _).2, if_pos hs.symm]
      · rw [hT _ (hr _).1 (hr _).2]
        split
        · omega
        · exact hp t' ht'
    · rw [uf_ne (by omega), uf_ne (by omega)]
      obtain ⟨t1, e1, e2⟩ := hH.2.1 q (by omega)
      refine ⟨t1, ?_, fun t' ht' => ?_⟩
      · rw [hT _ (hr _).1 (hr _).2, if_neg (fun hh => by rw [hh] at e1; omega)]
        exact e1
      · rw [hT _ (hr _).1 (hr _).2]
        split
        · omega
        · exact e2 t' ht'
  · have h1 := hH.2.2
    have hs' := hr (h0 a b + t)
    rw [← hs] at hs'
    have := ct_upd (p := fun s => decide (0 ≤ T (s : Int))) (p' := fun s => decide (0 ≤ T' (s : Int))) (j := s.toNat) N (by omega) (fun i hi hne => by
      show decide (0 ≤ T' (i : Int)) = decide (0 ≤ T (i : Int))
      rw [hT i (by omega) (by omega), if_neg (by omega)]) (by
      show decide (0 ≤ T ((s.toNat : Nat) : Int)) = false
      rw [show ((s.toNat : Nat) : Int) = s by omega, ht]
      exact decide_eq_false (by omega)) (by
      show decide (0 ≤ T' ((s.toNat : Nat) : Int)) = true
      rw [hT _ (by omega) (by omega), if_pos (by omega)]
      exact decide_eq_true (by omega))
    omega
def dK (n : Nat) (f g : Int → Int) : Prop := ∀ p q : Nat, p < q → q < n → ¬ (f p = f q ∧ g p = g q)
theorem dK_hit {n q : Nat} {f g : Int → Int} {a b : Int} (h : dK n f g) (hq : q < n) (hk : f q = a ∧ g q = b) : fdk f g a b n = q := fdk_of hq hk (fun p hp hh => h p q hp hq ⟨hh.1.trans hk.1.symm, hh.2.trans hk.2.symm⟩)
theorem dK_add {n : Nat} {f g : Int → Int} {a b : Int} (h : dK n f g) (hn : ∀ q : Nat, q < n → ¬ (f q = a ∧ g q = b)) : dK (n + 1) (uf f n a) (uf g n b) := fun p q h1 h2 => by
  by_cases c : q = n
  · rw [c, uf_eq, uf_eq, uf_ne (by omega), uf_ne (by omega)]
    exact hn p (by omega)
  · rw [uf_ne (by omega), uf_ne (by omega), uf_ne (by omega), uf_ne (by omega)]
    exact h p q h1 (by omega)
