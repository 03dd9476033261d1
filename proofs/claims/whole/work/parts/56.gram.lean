/-! The grammar is the same: count, rule -/
def symR (nv : Nat) (s : Int) : Prop := (0 ≤ s ∧ s < 10) ∨ (100 ≤ s ∧ s < 100 + nv)
def invG (u : uS) : Prop := ∃ nv nr : Nat, nv ≤ 10 ∧ nr ≤ 30 ∧ u.1 6 0 = nv ∧ u.1 271 5 = nv ∧ u.1 6 1 = nr ∧ u.1 271 6 = nr ∧ u.1 271 11 = (if nr = 0 then 0 else 1) ∧ (∀ x : Int, 0 ≤ x → x < nv → u.1 274 x = u.1 7 x) ∧ (∀ r : Int, 0 ≤ r → r < nr → u.1 275 r = u.1 8 r ∧ u.1 276 r = u.1 9 r ∧ 0 ≤ u.1 8 r ∧ u.1 8 r < nv ∧ 0 ≤ u.1 9 r ∧ u.1 9 r ≤ 6 ∧ ∀ d : Int, 0 ≤ d → d < u.1 9 r → u.1 277 (6 * r + d) = u.1 10 (r * 6 + d) ∧ symR nv (u.1 10 (r * 6 + d)))
theorem st_count {d : Nat} {u : uS} {x : Int} (hx : rI x) (hS : invS u) (hW : invW u) (hG : invG u) : cI (d + 1) 98 [.ref 0, iV x] u (fun r u1 => cI (d + 1) 220 [.ref 271, iV x] u1 (fun r' u2 => r' = r ∧ u2 = u)) := by
  obtain ⟨n, _, s1, s2, _⟩ := hS
  obtain ⟨k, _, w1, w2, _⟩ := hW
  obtain ⟨nv, nr, _, _, g1, g2, g3, g4, _⟩ := hG
  refine e_98 ⟨hx, ?_⟩
  split
  · next h =>
    refine e_220 ⟨hx, ?_⟩
    rw [if_pos h]
    exact ⟨by rw [g1, g2], rfl⟩
  · next h0 =>
    split
    · next h =>
      refine e_220 ⟨hx, ?_⟩
      rw [if_neg h0, if_pos h]
      exact ⟨by rw [g3, g4], rfl⟩
    · next h1 =>
      split
      · next h =>
        refine e_220 ⟨hx, ?_⟩
        rw [if_neg h0, if_neg h1, if_pos h]
        exact ⟨by rw [s1, s2], rfl⟩
      · next h2 =>
        split
        · next h =>
          refine e_220 ⟨hx, ?_⟩
          rw [if_neg h0, if_neg h1, if_neg h2, if_pos h]
          exact ⟨by rw [w1, w2], rfl⟩
        · next h3 =>
          refine e_220 ⟨hx, ?_⟩
          rw [if_neg h0, if_neg h1, if_neg h2, if_neg h3]
          exact ⟨rfl, rfl⟩
def rulR (u : uS) (nr r w x : Int) : Prop := (0 ≤ r ∧ r < nr ∧ w = 0 ∧ x = u.1 8 r) ∨ (0 ≤ r ∧ r < nr ∧ w = 1 ∧ x = u.1 9 r) ∨ (0 ≤ r ∧ r < nr ∧ 2 ≤ w ∧ w < 2 + u.1 9 r ∧ x = u.1 10 (r * 6 + (w - 2))) ∨ (¬ (0 ≤ r ∧ r < nr ∧ 0 ≤ w ∧ w < 2 + u.1 9 r) ∧ x = -1)
theorem rulR_eq {u : uS} {nr r w x x' : Int} (hl : 0 ≤ r → r < nr → 0 ≤ u.1 9 r) (h : rulR u nr r w x) (h' : rulR u nr r w x') : x' = x := by
  unfold rulR at h h'
  rcases h with h | h | h | h
  · have := hl h.1 h.2.1
    rcases h' with g | g | g | g <;> omega
  · have := hl h.1 h.2.1
    rcases h' with g | g | g | g <;> omega
  · rcases h' with g | g | g | g
    · omega
    · omega
    · rw [h.2.2.2.2, g.2.2.2.2]
    · omega
  · rcases h' with g | g | g | g
    · have := hl g.1 g.2.1
      omega
    · have := hl g.1 g.2.1
      omega
    · omega
    · omega
theorem c_99 {d : Nat} {u : uS} {x y : Int} {nr : Nat} (hx : rI x) (hy : rI y) (hn : nr ≤ 30) (g3 : u.1 6 1 = nr) (hl : ∀ r : Int, 0 ≤ r → r < nr → 0 ≤ u.1 9 r ∧ u.1 9 r ≤ 6) : cI (d + 2) 99 [.ref 0, iV x, iV y] u (fun r u' => u' = u ∧ rulR u nr x y r) := by
  refine e_99 ⟨hx, ?_⟩
  split
  · exact ⟨rfl, Or.inr (Or.inr (Or.inr ⟨by omega, rfl⟩))⟩
  · next h1 =>
    rw [g3]
    refine ⟨⟨by omega, by omega⟩, ?_⟩
    split
    · next h2 =>
      have hl := hl x (by omega) h2
      refine ⟨hy, ?_⟩
      split
      · exact ⟨rfl, Or.inr (Or.inr (Or.inr ⟨by omega, rfl⟩))⟩
      · next h3 =>
        split
        · next h4 => exact ⟨by omega, rfl, Or.inl ⟨by omega, h2, h4, rfl⟩⟩
        · next h4 =>
          split
          · next h5 => exact ⟨by omega, rfl, Or.inr (Or.inl ⟨by omega, h2, h5, rfl⟩)⟩
          · next h5 =>
            refine ⟨by omega, ⟨by have := hy.1; omega, by have := hy.2; omega⟩, ⟨by omega, by omega⟩, ?_⟩
            split
            · next h6 => exact ⟨by omega, by omega, rfl, Or.inr (Or.inr (Or.inl ⟨by omega, h2, by omega, by omega, rfl⟩))⟩
            · exact ⟨rfl, Or.inr (Or.inr (Or.inr ⟨by omega, rfl⟩))⟩
    · exact ⟨rfl, Or.inr (Or.inr (Or.inr ⟨by omega, rfl⟩))⟩
theorem st_rule {d : Nat} {u : uS} {x y : Int} (hx : rI x) (hy : rI y) (hG : invG u) : cI (d + 2) 99 [.ref 0, iV x, iV y] u (fun r u1 => cI (d + 2) 221 [.ref 271, iV x, iV y] u1 (fun r' u2 => r' = r ∧ u2 = u)) := by
  obtain ⟨nv, nr, hv, hn, g1, g2, g3, g4, _, _, g5⟩ := hG
  refine cI.mono (c_99 (d := d) hx hy hn g3 (fun r h0 h1 => ⟨(g5 r h0 h1).2.2.2.2.1, (g5 r h0 h1).2.2.2.2.2.1⟩)) (Nat.le_refl _) (fun r u1 h1 => ?_)
  rw [h1.1]
  have key : cI (d + 2) 221 [.ref 271, iV x, iV y] u (fun r' u2 => u2 = u ∧ rulR u nr x y r') := by
    refine e_221 ⟨hx, ?_⟩
    rw [g4]
    refine ⟨⟨by omega, by omega⟩, ?_⟩
    split
    · exact ⟨rfl, Or.inr (Or.inr (Or.inr ⟨by omega, rfl⟩))⟩
    · next h1 =>
      split
      · exact ⟨rfl, Or.inr (Or.inr (Or.inr ⟨by omega, rfl⟩))⟩
      · next h2 =>
        obtain ⟨q1, q2, q3, q4, q5, q6, q7⟩ := g5 x (by omega) (by omega)
        rw [q1, q2]
        refine ⟨hy, ?_⟩
        split
        · exact ⟨rfl, Or.inr (Or.inr (Or.inr ⟨by omega, rfl⟩))⟩
        · next h3 =>
          refine ⟨by omega, ⟨by omega, by omega⟩, ?_⟩
          split
          · next h4 =>
            split
            · next h5 => exact ⟨rfl, Or.inl ⟨by omega, by omega, h5, rfl⟩⟩
            · next h5 =>
              split
              · next h6 => exact ⟨rfl, Or.inr (Or.inl ⟨by omega, by omega, h6, rfl⟩)⟩
              · next h6 =>
                refine ⟨by omega, by omega, rfl, Or.inr (Or.inr (Or.inl ⟨by omega, by omega, by omega, h4, ?_⟩))⟩
                have := (q7 (y - 2) (by omega) (by omega)).1
                rw [show 6 * x + y - 2 = 6 * x + (y - 2) by omega]
                exact this
          · exact ⟨rfl, Or.inr (Or.inr (Or.inr ⟨by omega, rfl⟩))⟩
  exact cI.mono key (Nat.le_refl _) (fun r' u2 h2 => ⟨rulR_eq (fun h0 h3 => (g5 x h0 h3).2.2.2.2.1) h1.2 h2.2, h2.1⟩)
