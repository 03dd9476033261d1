/-! findLettered -/
def fld1 (u : uS) (a : Nat) : Nat → Int → Int → Int
  | 0, _, x => x
  | m + 1, r, x => fld1 u a m (r + 1) (if wth (u.1 a 6) (row u a r) = true ∧ 0 < lts x 0 (row u a r) then ior x (ishl 1 (u.1 (a + 2) r)) else x)
def fld2 (u : uS) (a nr : Nat) : Nat → Int → Int
  | 0, x => x
  | m + 1, x => fld2 u a nr m (fld1 u a nr 0 x)
theorem p_56 {d : Nat} {u : uS} {a nv nr : Nat} (hO : isO a 2) (hg : gA u a nv nr) : cI (d + 4) 56 [.ref a] u (fun x u' => x = fld2 u a nr nv 0 ∧ u' = u) := by
  obtain ⟨hv, hn, g0, g1, g2⟩ := hg
  have inner : ∀ (m : Nat) (k r x : Int) (Q : Int → uS → Prop), 0 ≤ r → r + m = nr → K_56p (d + 3) 4 [.ref a, iV (fld1 u a m r x), iV (k + 1), .retAddr 0] [] u Q → K_56p (d + 3) 14 [.ref a, iV x, iV k, iV r] [] u Q := by
    intro m
    induction m with
    | zero =>
      intro k r x Q hr he hQ
      refine k_56_14p hO ⟨⟨by omega, by omega⟩, by rw [g1]; exact ⟨by omega, by omega⟩, ?_⟩
      rw [g1, if_neg (by omega)]
      exact hQ
    | succ m ih =>
      intro k r x Q hr he hQ
      obtain ⟨q1, q2, q3⟩ := g2 r hr (by omega)
      have hl := lts_r x (row u a r) 0
      rw [rowF_len] at hl
      have hq := q1.2.2.2.1
      refine k_56_14p hO ⟨⟨by omega, by omega⟩, by rw [g1]; exact ⟨by omega, by omega⟩, ?_⟩
      rw [g1, if_pos (by omega)]
      refine ⟨q1, ?_⟩
      simp only [fld1] at hQ
      by_cases hw : wth (u.1 a 6) (row u a r) = true
      · rw [hw, if_neg (by decide)]
        refine ⟨⟨by omega, by omega⟩, ?_⟩
        by_cases hp : 0 < lts x 0 (row u a r)
        · rw [if_pos ⟨hw, hp⟩] at hQ
          rw [if_pos hp]
          exact ⟨hr, by omega, ih k (r + 1) _ Q (by omega) (by omega) hQ⟩
        · rw [if_neg (fun q => hp q.2)] at hQ
          rw [if_neg hp]
          exact ih k (r + 1) x Q (by omega) (by omega) hQ
      · rw [if_neg (fun q => hw q.1)] at hQ
        have hw2 : wth (u.1 a 6) (row u a r) = false := by simpa using hw
        rw [hw2, if_pos (by decide)]
        exact ih k (r + 1) x Q (by omega) (by omega) hQ
  have outer : ∀ (m : Nat) (k x : Int) (Q : Int → uS → Prop), 0 ≤ k → k + m = nv → Q (fld2 u a nr m x) u → K_56p (d + 3) 4 [.ref a, iV x, iV k, .retAddr 0] [] u Q := by
    intro m
    induction m with
    | zero =>
      intro k x Q hk he hQ
      refine k_56_4p hO ⟨⟨by omega, by omega⟩, by rw [g0]; exact ⟨by omega, by omega⟩, ?_⟩
      rw [g0, if_neg (by omega)]
      exact hQ
    | succ m ih =>
      intro k x Q hk he hQ
      refine k_56_4p hO ⟨⟨by omega, by omega⟩, by rw [g0]; exact ⟨by omega, by omega⟩, ?_⟩
      rw [g0, if_pos (by omega)]
      exact inner nr k 0 x Q (Int.le_refl 0) (by omega) (ih (k + 1) _ Q (by omega) (by omega) hQ)
  exact e_56p hO (outer nv 0 0 _ (Int.le_refl 0) (by omega) ⟨rfl, rfl⟩)
