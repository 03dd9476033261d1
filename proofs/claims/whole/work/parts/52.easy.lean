/-! The expressions' machines are the same; next, isLast, has; count -/
def mEq (u : uS) (w : Nat) : Prop := ∃ n : Nat, 1 ≤ n ∧ n ≤ 40 ∧ u.1 (59 + 2 * w) 0 = n ∧ u.1 301 w = n ∧ (∀ s c : Int, 0 ≤ s → s < n → 0 ≤ c → c < 10 → u.1 302 (400 * w + 10 * s + c) = u.1 (59 + 2 * w + 1) (s * 10 + c) ∧ 0 ≤ u.1 (59 + 2 * w + 1) (s * 10 + c) ∧ u.1 (59 + 2 * w + 1) (s * 10 + c) < n) ∧ (∀ s : Int, 0 ≤ s → s < n → u.1 303 (40 * w + s) = b2 (bt (u.1 (59 + 2 * w) 1) s.toNat))
def invM (u : uS) : Prop := mEq u 0 ∧ mEq u 1
theorem invM_at {u : uS} (h : invM u) {x : Int} (h0 : 0 ≤ x) (h2 : x < 2) : mEq u x.toNat := by
  have h3 : x = 0 ∨ x = 1 := by omega
  rcases h3 with h3 | h3
  · rw [h3]
    exact h.1
  · rw [h3]
    exact h.2
theorem c_127 {d : Nat} {u : uS} {x y z : Int} (hx : rI x) (hy : rI y) (hz : rI z) (hM : invM u) : cI (d + 2) 127 [.ref 0, iV x, iV y, iV z] u (fun r u' => u' = u ∧ ((0 ≤ x ∧ x < 2 ∧ 0 ≤ y ∧ y < u.1 301 x ∧ 0 ≤ z ∧ z < 10 ∧ r = u.1 302 (400 * x + 10 * y + z)) ∨ (¬ (0 ≤ x ∧ x < 2 ∧ 0 ≤ y ∧ y < u.1 301 x ∧ 0 ≤ z ∧ z < 10) ∧ r = -1))) := by
  refine e_127 ⟨hx, ?_⟩
  split
  · exact ⟨rfl, Or.inr ⟨by omega, rfl⟩⟩
  · next h1 =>
    split
    · next h2 =>
      obtain ⟨n, n1, n2, m1, m2, m3, m4⟩ := invM_at hM (by omega) h2
      have ex : ((x.toNat : Nat) : Int) = x := by omega
      rw [ex] at m2 m3
      rw [m1, m2]
      refine ⟨hz, ?_⟩
      split
      · exact ⟨rfl, Or.inr ⟨by omega, rfl⟩⟩
      · next h3 =>
        split
        · next h4 =>
          refine ⟨hy, ?_⟩
          split
          · exact ⟨rfl, Or.inr ⟨by omega, rfl⟩⟩
          · next h5 =>
            refine ⟨⟨by omega, by omega⟩, ?_⟩
            split
            · next h6 =>
              refine ⟨by omega, by omega, rfl, Or.inl ⟨by omega, h2, by omega, h6, by omega, h4, ?_⟩⟩
              exact (m3 y z (by omega) h6 (by omega) h4).1.symm
            · exact ⟨rfl, Or.inr ⟨by omega, rfl⟩⟩
        · exact ⟨rfl, Or.inr ⟨by omega, rfl⟩⟩
    · exact ⟨rfl, Or.inr ⟨by omega, rfl⟩⟩
theorem c_262 {d : Nat} {u : uS} {x y z : Int} (hx : rI x) (hy : rI y) (hz : rI z) (hM : invM u) : cI (d + 2) 262 [.ref 271, iV x, iV y, iV z] u (fun r u' => u' = u ∧ ((0 ≤ x ∧ x < 2 ∧ 0 ≤ y ∧ y < u.1 301 x ∧ 0 ≤ z ∧ z < 10 ∧ r = u.1 302 (400 * x + 10 * y + z)) ∨ (¬ (0 ≤ x ∧ x < 2 ∧ 0 ≤ y ∧ y < u.1 301 x ∧ 0 ≤ z ∧ z < 10) ∧ r = -1))) := by
  refine e_262 ⟨hx, ?_⟩
  split
  · exact k_262_44 ⟨rfl, Or.inr ⟨by omega, rfl⟩⟩
  · next h1 =>
    split
    · exact k_262_44 ⟨rfl, Or.inr ⟨by omega, rfl⟩⟩
    · next h2 =>
      obtain ⟨n, n1, n2, m1, m2, m3, m4⟩ := invM_at hM (show 0 ≤ x by omega) (by omega)
      have ex : ((x.toNat : Nat) : Int) = x := by omega
      rw [ex] at m2
      rw [m2]
      refine ⟨hy, by omega, ⟨by omega, by omega⟩, ?_⟩
      split
      · exact k_262_44 ⟨rfl, Or.inr ⟨by omega, rfl⟩⟩
      · next h3 =>
        split
        · exact k_262_44 ⟨rfl, Or.inr ⟨by omega, rfl⟩⟩
        · next h4 =>
          refine ⟨hz, ?_⟩
          split
          · exact k_262_44 ⟨rfl, Or.inr ⟨by omega, rfl⟩⟩
          · next h5 =>
            split
            · exact k_262_44 ⟨rfl, Or.inr ⟨by omega, rfl⟩⟩
            · next h6 => exact ⟨by omega, by omega, rfl, Or.inl ⟨by omega, by omega, by omega, by omega, by omega, by omega, rfl⟩⟩
theorem st_next {d : Nat} {u : uS} {x y z : Int} (hx : rI x) (hy : rI y) (hz : rI z) (hM : invM u) : cI (d + 2) 127 [.ref 0, iV x, iV y, iV z] u (fun r u1 => cI (d + 2) 262 [.ref 271, iV x, iV y, iV z] u1 (fun r' u2 => r' = r ∧ u2 = u)) := by
  refine cI.mono (c_127 hx hy hz hM) (Nat.le_refl _) (fun r u1 h1 => ?_)
  rw [h1.1]
  refine cI.mono (c_262 hx hy hz hM) (Nat.le_refl _) (fun r' u2 h2 => ⟨?_, h2.1⟩)
  rcases h1.2 with q | q
  · rcases h2.2 with q2 | q2
    · rw [q2.2.2.2.2.2.2, q.2.2.2.2.2.2]
    · exact absurd ⟨q.1, q.2.1, q.2.2.1, q.2.2.2.1, q.2.2.2.2.1, q.2.2.2.2.2.1⟩ q2.1
  · rcases h2.2 with q2 | q2
    · exact absurd ⟨q2.1, q2.2.1, q2.2.2.1, q2.2.2.2.1, q2.2.2.2.2.1, q2.2.2.2.2.2.1⟩ q.1
    · rw [q2.2, q.2]
/-- isLast -/
def isLst (u : uS) (x y r : Int) : Prop := (0 ≤ x ∧ x < 2 ∧ y = -1 ∧ r = u.1 301 x) ∨ (0 ≤ x ∧ x < 2 ∧ 0 ≤ y ∧ y < u.1 301 x ∧ r = u.1 303 (40 * x + y)) ∨ (¬ (0 ≤ x ∧ x < 2 ∧ -1 ≤ y ∧ y < u.1 301 x) ∧ r = -1)
theorem isLst_eq {u : uS} {x y r r' : Int} (hn : 0 ≤ x → x < 2 → 1 ≤ u.1 301 x) (h : isLst u x y r) (h' : isLst u x y r') : r' = r := by
  unfold isLst at h h'
  rcases h with h | h | h
  · rcases h' with g | g | g
    · omega
    · omega
    · have := hn h.1 h.2.1
      omega
  · rcases h' with g | g | g
    · omega
    · rw [h.2.2.2.2, g.2.2.2.2]
    · omega
  · rcases h' with g | g | g
    · have := hn g.1 g.2.1
      omega
    · omega
    · omega
theorem b2_if {b : Bool} : (if (if b = true then (1 : Int) else 0) = 0 then (0 : Int) else 1) = b2 b := by cases b <;> rfl
theorem c_129 {d : Nat} {u : uS} {x y : Int} (hx : rI x) (hy : rI y) (hM : invM u) : cI (d + 2) 129 [.ref 0, iV x, iV y] u (fun r u' => u' = u ∧ isLst u x y r) := by
  refine e_129 ⟨hx, ?_⟩
  split
  · exact ⟨rfl, Or.inr (Or.inr ⟨by omega, rfl⟩)⟩
  · next h1 =>
    split
    · next h2 =>
      obtain ⟨n, n1, n2, m1, m2, m3, m4⟩ := invM_at hM (show 0 ≤ x by omega) h2
      have ex : ((x.toNat : Nat) : Int) = x := by omega
      rw [ex] at m2 m4
      rw [m1]
      refine ⟨hy, ?_⟩
      split
      · next h3 => exact ⟨rfl, Or.inl ⟨by omega, h2, h3, m2.symm⟩⟩
      · next h3 =>
        split
        · exact ⟨rfl, Or.inr (Or.inr ⟨by omega, rfl⟩)⟩
        · next h4 =>
          refine ⟨⟨by omega, by omega⟩, ?_⟩
          split
          · next h5 =>
            have hb := m4 y (by omega) h5
            rw [bit_l (by omega) (by omega)]
            cases hbt : bt (u.1 (59 + 2 * x.toNat) 1) y.toNat with
            | true =>
              rw [hbt] at hb
              rw [if_pos rfl, if_neg (by decide)]
              exact ⟨rfl, Or.inr (Or.inl ⟨by omega, h2, by omega, by omega, hb.symm⟩)⟩
            | false =>
              rw [hbt] at hb
              rw [if_pos (by decide)]
              exact ⟨rfl, Or.inr (Or.inl ⟨by omega, h2, by omega, by omega, hb.symm⟩)⟩
          · exact ⟨rfl, Or.inr (Or.inr ⟨by omega, rfl⟩)⟩
    · exact ⟨rfl, Or.inr (Or.inr ⟨by omega, rfl⟩)⟩
theorem c_263 {d : Nat} {u : uS} {x y : Int} (hx : rI x) (hy : rI y) (hM : invM u) : cI (d + 2) 263 [.ref 271, iV x, iV y] u (fun r u' => u' = u ∧ isLst u x y r) := by
  refine e_263 ⟨hx, ?_⟩
  split
  · exact ⟨rfl, Or.inr (Or.inr ⟨by omega, rfl⟩)⟩
  · next h1 =>
    split
    · exact ⟨rfl, Or.inr (Or.inr ⟨by omega, rfl⟩)⟩
    · next h2 =>
      obtain ⟨n, n1, n2, m1, m2, m3, m4⟩ := invM_at hM (show 0 ≤ x by omega) (by omega)
      have ex : ((x.toNat : Nat) : Int) = x := by omega
      rw [ex] at m2 m4
      rw [m2]
      refine ⟨hy, by omega, ⟨by omega, by omega⟩, ?_⟩
      split
      · exact ⟨rfl, Or.inr (Or.inr ⟨by omega, rfl⟩)⟩
      · next h3 =>
        split
        · exact ⟨rfl, Or.inr (Or.inr ⟨by omega, rfl⟩)⟩
        · next h4 =>
          split
          · next h5 => exact ⟨rfl, Or.inl ⟨by omega, by omega, h5, m2.symm⟩⟩
          · next h5 =>
            have hb := m4 y (by omega) (by omega)
            have hr := b2_r (bt (u.1 (59 + 2 * x.toNat) 1) y.toNat)
            rw [← hb] at hr
            refine ⟨by omega, by omega, ⟨by omega, by omega⟩, ?_⟩
            split
            · next h6 => exact ⟨rfl, Or.inr (Or.inl ⟨by omega, by omega, by omega, by omega, h6.symm⟩)⟩
            · next h6 => exact ⟨rfl, Or.inr (Or.inl ⟨by omega, by omega, by omega, by omega, by omega⟩)⟩
theorem invM_n {u : uS} (hM : invM u) {x : Int} (h0 : 0 ≤ x) (h2 : x < 2) : 1 ≤ u.1 301 x ∧ u.1 301 x ≤ 40 := by
  obtain ⟨n, n1, n2, m1, m2, m3, m4⟩ := invM_at hM h0 h2
  have ex : ((x.toNat : Nat) : Int) = x := by omega
  rw [ex] at m2
  omega
theorem st_isLast {d : Nat} {u : uS} {x y : Int} (hx : rI x) (hy : rI y) (hM : invM u) : cI (d + 2) 129 [.ref 0, iV x, iV y] u (fun r u1 => cI (d + 2) 263 [.ref 271, iV x, iV y] u1 (fun r' u2 => r' = r ∧ u2 = u)) := by
  refine cI.mono (c_129 hx hy hM) (Nat.le_refl _) (fun r u1 h1 => ?_)
  rw [h1.1]
  exact cI.mono (c_263 hx hy hM) (Nat.le_refl _) (fun r' u2 h2 => ⟨isLst_eq (fun h0 h3 => (invM_n hM h0 h3).1) h1.2 h2.2, h2.1⟩)
/-! has: the state behind a word -/
def run2 (u : uS) (x : Int) : Nat → Int → Int → Int
  | 0, s, _ => s
  | m + 1, s, i => run2 u x m (u.1 302 (400 * x + 10 * s + u.1 273 i)) (i + 1)
theorem l_130 {d : Nat} {u : uS} {x : Int} {n k : Nat} {Q : Int → uS → Prop} (h0 : 0 ≤ x) (h2 : x < 2) (n2 : n ≤ 40) (m3 : ∀ s c : Int, 0 ≤ s → s < n → 0 ≤ c → c < 10 → u.1 302 (400 * x + 10 * s + c) = u.1 (59 + 2 * x.toNat + 1) (s * 10 + c) ∧ 0 ≤ u.1 (59 + 2 * x.toNat + 1) (s * 10 + c) ∧ u.1 (59 + 2 * x.toNat + 1) (s * 10 + c) < n) (m4 : ∀ s : Int, 0 ≤ s → s < n → u.1 303 (40 * x + s) = b2 (bt (u.1 (59 + 2 * x.toNat) 1) s.toNat)) (hk : k ≤ 40) (hw : u.1 0 2 = k) (hw2 : ∀ i : Int, 0 ≤ i → i < k → u.1 273 i = u.1 5 i ∧ 0 ≤ u.1 5 i ∧ u.1 5 i ≤ 9) : ∀ (m : Nat) (s i : Int), 0 ≤ i → i + m = k → 0 ≤ s → s < n → (0 ≤ run2 u x m s i → run2 u x m s i < n → Q (u.1 303 (40 * x + run2 u x m s i)) u) → K_130 (d + 1) 21 [.ref 0, .retAddr 0, .ref (59 + 2 * x.toNat), iV s, iV i] [] u Q := by
  intro m
  induction m with
  | zero =>
    intro s i hi he hs hs2 hQ
    refine k_130_21 (sr_58 h0 h2) ⟨⟨by omega, by omega⟩, by rw [hw]; exact ⟨by omega, by omega⟩, ?_⟩
    rw [hw, if_neg (by omega), bit_l hs (by omega)]
    have hb := m4 s hs hs2
    have hQ := hQ hs hs2
    simp only [run2] at hQ
    rw [hb] at hQ
    cases hbt : bt (u.1 (59 + 2 * x.toNat) 1) s.toNat with
    | true =>
      rw [hbt] at hQ
      rw [if_pos rfl, if_neg (by decide)]
      exact hQ
    | false =>
      rw [hbt] at hQ
      rw [if_pos (by decide)]
      exact hQ
  | succ m ih =>
    intro s i hi he hs hs2 hQ
    obtain ⟨q1, q2, q3⟩ := hw2 i hi (by omega)
    obtain ⟨g1, g2, g3⟩ := m3 s (u.1 5 i) hs hs2 q2 (by omega)
    refine k_130_21 (sr_58 h0 h2) ⟨⟨by omega, by omega⟩, by rw [hw]; exact ⟨by omega, by omega⟩, ?_⟩
    rw [hw, if_pos (by omega)]
    refine ⟨hi, by omega, by omega, by omega, ?_⟩
    refine ih _ (i + 1) (by omega) (by omega) g2 g3 ?_
    simp only [run2, q1, g1] at hQ
    exact hQ
theorem l_264 {d : Nat} {u : uS} {x : Int} {n k : Nat} {Q : Int → uS → Prop} (h0 : 0 ≤ x) (h2 : x < 2) (n2 : n ≤ 40) (m3 : ∀ s c : Int, 0 ≤ s → s < n → 0 ≤ c → c < 10 → u.1 302 (400 * x + 10 * s + c) = u.1 (59 + 2 * x.toNat + 1) (s * 10 + c) ∧ 0 ≤ u.1 (59 + 2 * x.toNat + 1) (s * 10 + c) ∧ u.1 (59 + 2 * x.toNat + 1) (s * 10 + c) < n) (m4 : ∀ s : Int, 0 ≤ s → s < n → u.1 303 (40 * x + s) = b2 (bt (u.1 (59 + 2 * x.toNat) 1) s.toNat)) (hk : k ≤ 40) (hw : u.1 271 3 = k) (hw2 : ∀ i : Int, 0 ≤ i → i < k → u.1 273 i = u.1 5 i ∧ 0 ≤ u.1 5 i ∧ u.1 5 i ≤ 9) : ∀ (m : Nat) (s i : Int), 0 ≤ i → i + m = k → 0 ≤ s → s < n → (0 ≤ run2 u x m s i → run2 u x m s i < n → Q (u.1 303 (40 * x + run2 u x m s i)) u) → K_264 (d + 1) 16 [.ref 271, iV x, iV s, iV i] [] u Q := by
  intro m
  induction m with
  | zero =>
    intro s i hi he hs hs2 hQ
    have hb := m4 s hs hs2
    have hr := b2_r (bt (u.1 (59 + 2 * x.toNat) 1) s.toNat)
    rw [← hb] at hr
    have hQ := hQ hs hs2
    simp only [run2] at hQ
    refine k_264_16 ⟨⟨by omega, by omega⟩, by rw [hw]; exact ⟨by omega, by omega⟩, ?_⟩
    rw [hw, if_neg (by omega)]
    refine ⟨by omega, by omega, ⟨by omega, by omega⟩, ?_⟩
    split
    · next h => rw [h] at hQ; exact hQ
    · next h =>
      have h1 : u.1 303 (40 * x + s) = 1 := by omega
      rw [h1] at hQ
      exact hQ
  | succ m ih =>
    intro s i hi he hs hs2 hQ
    obtain ⟨q1, q2, q3⟩ := hw2 i hi (by omega)
    obtain ⟨g1, g2, g3⟩ := m3 s (u.1 5 i) hs hs2 q2 (by omega)
    refine k_264_16 ⟨⟨by omega, by omega⟩, by rw [hw]; exact ⟨by omega, by omega⟩, ?_⟩
    rw [hw, if_pos (by omega), q1, g1]
    refine ⟨hi, by omega, by omega, by omega, ?_⟩
    refine ih _ (i + 1) (by omega) (by omega) g2 g3 ?_
    simp only [run2, q1, g1] at hQ
    exact hQ
theorem st_has {d : Nat} {u : uS} {x : Int} (hx : rI x) (hM : invM u) (hW : invW u) : cI (d + 2) 130 [.ref 0, iV x] u (fun r u1 => cI (d + 2) 264 [.ref 271, iV x] u1 (fun r' u2 => r' = r ∧ u2 = u)) := by
  refine e_130 ⟨hx, ?_⟩
  by_cases h1 : x < 0
  · rw [if_pos h1]
    refine e_264 ⟨hx, ?_⟩
    rw [if_pos h1]
    exact ⟨rfl, rfl⟩
  · rw [if_neg h1]
    by_cases h2 : x < 2
    · rw [if_pos h2]
      obtain ⟨n, n1, n2, m1, m2, m3, m4⟩ := invM_at hM (show 0 ≤ x by omega) h2
      obtain ⟨k, hk, w1, w2, w3⟩ := hW
      have ex : ((x.toNat : Nat) : Int) = x := by omega
      rw [ex] at m2 m3 m4
      have hw2 : ∀ i : Int, 0 ≤ i → i < k → u.1 273 i = u.1 5 i ∧ 0 ≤ u.1 5 i ∧ u.1 5 i ≤ 9 := by
        intro i hi hik
        obtain ⟨j, rfl⟩ : ∃ j : Nat, i = (j : Int) := ⟨i.toNat, by omega⟩
        exact w3 j (by omega)
      refine l_130 (by omega) h2 n2 m3 m4 hk w1 hw2 k 0 0 (Int.le_refl 0) (by omega) (Int.le_refl 0) (by omega) (fun q1 q2 => ?_)
      refine e_264 ⟨hx, ?_⟩
      rw [if_neg h1, if_neg (by omega)]
      exact l_264 (by omega) h2 n2 m3 m4 hk w2 hw2 k 0 0 (Int.le_refl 0) (by omega) (Int.le_refl 0) (by omega) (fun _ _ => ⟨rfl, rfl⟩)
    · rw [if_neg h2]
      refine e_264 ⟨hx, ?_⟩
      rw [if_neg h1, if_pos (by omega)]
      exact ⟨rfl, rfl⟩
