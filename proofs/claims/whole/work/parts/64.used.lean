/-! learnUsed -/
theorem wr_wr {u : uS} {a : Nat} {i x y : Int} : wr (wr u a i x) a i y = wr u a i y := by
  refine Prod.ext ?_ rfl
  funext b j
  simp only [wr]
  by_cases h : b = a ∧ j = i
  · rw [if_pos h, if_pos h]
  · rw [if_neg h, if_neg h, if_neg h]
theorem row_wr {u : uS} {a : Nat} {k x r : Int} : row (wr u a k x) a r = row u a r := by
  simp [row, wr_1]
theorem gR_wr {u : uS} {a : Nat} {k x r : Int} (h : gR u a r) : gR (wr u a k x) a r := by
  unfold gR at h ⊢
  simpa [wr_1] using h
/-- the grammar at a keeps within its bounds -/
def gA (u : uS) (a nv nr : Nat) : Prop := nv ≤ 10 ∧ nr ≤ 30 ∧ u.1 a 0 = nv ∧ u.1 a 1 = nr ∧ ∀ r : Int, 0 ≤ r → r < nr → gR u a r ∧ 0 ≤ u.1 (a + 2) r ∧ u.1 (a + 2) r < nv
def usd1 (u : uS) (a : Nat) : Nat → Int → Int → Int
  | 0, _, x => x
  | m + 1, r, x => usd1 u a m (r + 1) (if bi x (u.1 (a + 2) r).toNat = true ∧ wth (u.1 a 6) (row u a r) = true then ior x (vrs 0 (row u a r)) else x)
def usd2 (u : uS) (a nr : Nat) : Nat → Int → Int
  | 0, x => x
  | m + 1, x => usd2 u a nr m (usd1 u a nr 0 x)
theorem q_53 {d : Nat} {u : uS} {a nv nr : Nat} (hO : isO a 2) (hg : gA u a nv nr) : cV (d + 3) 53 [.ref a] u (fun u' => u' = wr u a 7 (usd2 u a nr nv (iand (u.1 a 6) 1))) := by
  obtain ⟨hv, hn, g0, g1, g2⟩ := hg
  have inner : ∀ (m : Nat) (k r x : Int) (Q : uS → Prop), 0 ≤ r → r + m = nr → K_53p (d + 2) 12 [.ref a, iV (k + 1), .retAddr 0] [] (wr u a 7 (usd1 u a m r x)) Q → K_53p (d + 2) 22 [.ref a, iV k, iV r] [] (wr u a 7 x) Q := by
    intro m
    induction m with
    | zero =>
      intro k r x Q hr he hQ
      have e1 : (wr u a 7 x).1 a 1 = nr := by simp [wr_1, g1]
      refine k_53_22p hO ⟨⟨by omega, by omega⟩, by rw [e1]; exact ⟨by omega, by omega⟩, ?_⟩
      rw [e1, if_neg (by omega)]
      exact hQ
    | succ m ih =>
      intro k r x Q hr he hQ
      have e1 : (wr u a 7 x).1 a 1 = nr := by simp [wr_1, g1]
      have e2 : (wr u a 7 x).1 a 7 = x := wr_self
      have e3 : (wr u a 7 x).1 (a + 2) r = u.1 (a + 2) r := by simp [wr_1]
      have e4 : (wr u a 7 x).1 a 6 = u.1 a 6 := by simp [wr_1]
      obtain ⟨q1, q2, q3⟩ := g2 r hr (by omega)
      refine k_53_22p hO ⟨⟨by omega, by omega⟩, by rw [e1]; exact ⟨by omega, by omega⟩, ?_⟩
      rw [e1, if_pos (by omega), e2, e3, e4, row_wr, bit_i q2 (by omega)]
      refine ⟨hr, by omega, ?_⟩
      simp only [usd1] at hQ
      by_cases hb : bi x (u.1 (a + 2) r).toNat = true
      · rw [if_pos hb, if_pos rfl]
        refine ⟨gR_wr q1, ?_⟩
        by_cases hw : wth (u.1 a 6) (row u a r) = true
        · rw [if_pos ⟨hb, hw⟩] at hQ
          rw [hw, if_neg (by decide)]
          intro u2 eu
          rw [eu, wr_wr]
          exact ih k (r + 1) _ Q (by omega) (by omega) hQ
        · rw [if_neg (fun q => hw q.2)] at hQ
          have hw2 : wth (u.1 a 6) (row u a r) = false := by simpa using hw
          rw [hw2, if_pos (by decide)]
          exact ih k (r + 1) x Q (by omega) (by omega) hQ
      · rw [if_neg (fun q => hb q.1)] at hQ
        rw [if_neg hb, if_neg (by decide)]
        exact ih k (r + 1) x Q (by omega) (by omega) hQ
  have outer : ∀ (m : Nat) (k x : Int) (Q : uS → Prop), 0 ≤ k → k + m = nv → Q (wr u a 7 (usd2 u a nr m x)) → K_53p (d + 2) 12 [.ref a, iV k, .retAddr 0] [] (wr u a 7 x) Q := by
    intro m
    induction m with
    | zero =>
      intro k x Q hk he hQ
      have e0 : (wr u a 7 x).1 a 0 = nv := by simp [wr_1, g0]
      refine k_53_12p hO ⟨⟨by omega, by omega⟩, by rw [e0]; exact ⟨by omega, by omega⟩, ?_⟩
      rw [e0, if_neg (by omega)]
      exact hQ
    | succ m ih =>
      intro k x Q hk he hQ
      have e0 : (wr u a 7 x).1 a 0 = nv := by simp [wr_1, g0]
      refine k_53_12p hO ⟨⟨by omega, by omega⟩, by rw [e0]; exact ⟨by omega, by omega⟩, ?_⟩
      rw [e0, if_pos (by omega)]
      exact inner nr k 0 x Q (Int.le_refl 0) (by omega) (ih (k + 1) _ Q (by omega) (by omega) hQ)
  refine e_53p hO (fun u1 e1 => ?_)
  rw [e1]
  exact outer nv 0 _ _ (Int.le_refl 0) (by omega) rfl
