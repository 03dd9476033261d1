/-! Signs.take, and word of the one side -/
theorem l_18 {d : Nat} {Q : uS → Prop} {f : Int → Int} {n : Nat} {u0 : uS} (hn : n ≤ 300) (hr : ∀ j : Nat, j < n → rI (f j)) (hQ : ∀ u', txt u' f n → u'.1 1 4 = 0 → sb u0 u' [1, 3, 4] → Q u') : ∀ (m i : Nat) (u : uS), i + m = n → sb u0 u [1, 3, 4] → u.1 2 = f → u.1 1 4 = n → u.1 1 5 = cnt f i → (∀ j : Nat, j < i → f j ≠ 32 → u.1 3 (cnt f j) = f j ∧ u.1 4 (cnt f j) = j) → K_18 d 7 [.ref 1, iV i] [] u Q := by
  intro m
  induction m with
  | zero =>
    intro i u hi hs hf h4 h5 hT
    have e : i = n := by omega
    subst e
    refine k_18_7 ⟨⟨by omega, by omega⟩, by rw [h4]; exact ⟨by omega, by omega⟩, ?_⟩
    rw [h4, if_neg (by omega)]
    intro u1 e1 u2 e2
    subst e1 e2
    refine hQ _ ⟨?_, ?_, fun j hj hb => ?_⟩ ?_ (sb_wr (sb_wr hs (by decide)) (by decide))
    · simp [wr_1, h5]
    · simp [wr_1]
    · simp [wr_1]
      exact hT j hj hb
    · simp [wr_1]
  | succ m ih =>
    intro i u hi hs hf h4 h5 hT
    have hc := cnt_r f i
    have hri := hr i (by omega)
    refine k_18_7 ⟨⟨by omega, by omega⟩, by rw [h4]; exact ⟨by omega, by omega⟩, ?_⟩
    rw [h4, if_pos (by omega), hf]
    refine ⟨by omega, by omega, hri, ?_⟩
    split
    · next hb =>
      exact ih (i + 1) u (by omega) hs hf h4 (by rw [cnt_s, if_pos hb]; exact h5) (fun j hj hnb => by
        rcases Nat.lt_or_ge j i with h | h
        · exact hT j h hnb
        · have : j = i := by omega
          subst this
          exact absurd hb hnb)
    · next hb =>
      rw [h5]
      refine ⟨by omega, by omega, ?_⟩
      intro u1 e1
      have g5 : u1.1 1 5 = cnt f i := by subst e1; simp [wr_1, h5]
      rw [g5]
      refine ⟨by omega, by omega, ?_⟩
      intro u2 e2 u3 e3
      refine ih (i + 1) u3 (by omega) ?_ ?_ ?_ ?_ ?_
      · subst e3 e2 e1
        exact sb_wr (sb_wr (sb_wr hs (by decide)) (by decide)) (by decide)
      · subst e3 e2 e1
        rw [wr_ne (by decide), wr_ne (by decide), wr_ne (by decide)]
        exact hf
      · subst e3 e2 e1
        simp [wr_1, h4]
      · subst e3 e2 e1
        rw [cnt_s, if_neg hb]
        simp [wr_1, h5]
      · intro j hj hnb
        subst e3 e2 e1
        rcases Nat.lt_or_ge j i with h | h
        · have hlt := cnt_lt f h hnb
          have hne : ¬ (cnt f j = cnt f i) := by omega
          have := hT j h hnb
          simp [wr_1, hne]
          exact this
        · have : j = i := by omega
          subst this
          simp [wr_1]
theorem c_18 {d n : Nat} {u : uS} (hn : n ≤ 300) (h4 : u.1 1 4 = n) (hr : ∀ j : Nat, j < n → rI (u.1 2 j)) : cV (d + 1) 18 [.ref 1] u (fun u' => txt u' (u.1 2) n ∧ u'.1 1 4 = 0 ∧ sb u u' [1, 3, 4]) := by
  refine e_18 ?_
  intro u1 e1
  refine l_18 (f := u.1 2) (u0 := u) hn hr (fun u' a b c => ⟨a, b, c⟩) n 0 u1 (by omega) ?_ ?_ ?_ ?_ ?_
  · subst e1
    exact sb_wr (sb_refl u _) (by decide)
  · subst e1
    exact wr_ne (by decide)
  · subst e1
    simp [wr_1, h4]
  · subst e1
    simp [wr_1, cnt]
  · intro j hj
    omega
/-- a sign at which a word breaks off -/
def wbad (f : Int → Int) (j : Nat) : Prop := f j ≠ 32 ∧ (cnt f j = 40 ∨ f j < 97 ∨ 107 ≤ f j)
theorem l_19 {d : Nat} {Q : Int → uS → Prop} {f : Int → Int} {n : Nat} {u : uS} (hn : n ≤ 300) (hr : ∀ j : Nat, j < n → rI (f j)) (ht : txt u f n) (hQ : ∀ j : Nat, j < n → wbad f j → (∀ i, i < j → ¬ wbad f i) → Q j u) (hN : (∀ i, i < n → ¬ wbad f i) → Q (-1) u) : ∀ (m j : Nat), j + m = n → (∀ i, i < j → ¬ wbad f i) → K_19 (d + 1) 2 [.ref 0, iV (cnt f j)] [] u Q := by
  intro m
  have hcn := cnt_r f n
  induction m with
  | zero =>
    intro j hj hb
    have e : j = n := by omega
    subst e
    have h5 := ht.1
    refine k_19_2 ⟨⟨by omega, by omega⟩, by rw [h5]; exact ⟨by omega, by omega⟩, ?_⟩
    rw [h5, if_neg (by omega)]
    exact hN hb
  | succ m ih =>
    intro j hj hb
    by_cases h32 : f j = 32
    · have := ih (j + 1) (by omega) (fun i hi => by
        rcases Nat.lt_or_ge i j with h | h
        · exact hb i h
        · have : i = j := by omega
          subst this
          exact fun q => q.1 h32)
      rw [cnt_s, if_pos h32] at this
      exact this
    · have h5 := ht.1
      have hlt := cnt_lt f (show j < n by omega) h32
      have hc := cnt_r f j
      obtain ⟨t3, t4⟩ := ht.2.2 j (by omega) h32
      refine k_19_2 ⟨⟨by omega, by omega⟩, by rw [h5]; exact ⟨by omega, by omega⟩, ?_⟩
      rw [h5, if_pos hlt]
      split
      · next h40 =>
        refine ⟨by omega, by omega, ?_⟩
        rw [t4]
        exact hQ j (by omega) ⟨h32, Or.inl h40⟩ hb
      · next h40 =>
        rw [t3, t4]
        refine ⟨by omega, by omega, hr j (by omega), ?_⟩
        split
        · next h97 => exact hQ j (by omega) ⟨h32, Or.inr (Or.inl h97)⟩ hb
        · next h97 =>
          split
          · next h107 =>
            have := ih (j + 1) (by omega) (fun i hi => by
              rcases Nat.lt_or_ge i j with h | h
              · exact hb i h
              · have : i = j := by omega
                subst this
                intro q
                rcases q.2 with q | q | q <;> omega)
            rw [cnt_s, if_neg h32] at this
            exact this
          · next h107 => exact hQ j (by omega) ⟨h32, Or.inr (Or.inr (by omega))⟩ hb
theorem c_19 {d n : Nat} {f : Int → Int} {u : uS} (hn : n ≤ 300) (hr : ∀ j : Nat, j < n → rI (f j)) (ht : txt u f n) : cI (d + 2) 19 [.ref 0] u (fun r u' => u' = u ∧ ((r = -1 ∧ ∀ i, i < n → ¬ wbad f i) ∨ ∃ j : Nat, r = j ∧ j < n ∧ wbad f j ∧ ∀ i, i < j → ¬ wbad f i)) := by
  refine e_19 ?_
  exact l_19 (f := f) hn hr ht (fun j hj hb hl => ⟨rfl, Or.inr ⟨j, rfl, hj, hb, hl⟩⟩) (fun hl => ⟨rfl, Or.inl ⟨rfl, hl⟩⟩) n 0 (by omega) (fun i hi => by omega)
theorem wb_le {f : Int → Int} {n : Nat} (hb : ∀ i, i < n → ¬ wbad f i) : ∀ k : Nat, k ≤ n → cnt f k ≤ 40 := by
  intro k
  induction k with
  | zero =>
    intro _
    simp [cnt]
  | succ k ih =>
    intro hk
    have h1 := ih (by omega)
    rw [cnt_s]
    split
    · exact h1
    · next h32 =>
      have h2 : ¬ cnt f k = 40 := fun q => hb k (by omega) ⟨h32, Or.inl q⟩
      omega
theorem wb_40 {f : Int → Int} {n j : Nat} (hb : ∀ i, i < n → ¬ wbad f i) (hj : j < n) (h32 : f j ≠ 32) : cnt f j < 40 := by
  have h1 := wb_le hb j (by omega)
  have h2 : ¬ cnt f j = 40 := fun q => hb j hj ⟨h32, Or.inl q⟩
  omega
/-- the places that a call of word changes -/
abbrev wps : List Nat := [0, 1, 3, 4, 5, 36]
theorem l_17 {d : Nat} {Q : Int → uS → Prop} {f : Int → Int} {n : Nat} {u0 : uS} (hn : n ≤ 300) (hb : ∀ i, i < n → ¬ wbad f i) (hQ : ∀ u', sb u0 u' wps → u'.1 1 4 = 0 → u'.1 0 2 = cnt f n → (∀ j : Nat, j < n → f j ≠ 32 → u'.1 5 (cnt f j) = f j - 97) → u'.1 36 = (wr u0 36 16 0).1 36 → Q (cnt f n) u') : ∀ (m j : Nat) (u : uS), j + m = n → sb u0 u wps → txt u f n → u.1 1 4 = 0 → u.1 36 = u0.1 36 → (∀ i : Nat, i < j → f i ≠ 32 → u.1 5 (cnt f i) = f i - 97) → K_17 (d + 2) 24 [.ref 0, .retAddr 0, iV (cnt f j)] [] u Q := by
  intro m
  have hcn := cnt_r f n
  induction m with
  | zero =>
    intro j u hj hs ht h4 h36 hw
    have e : j = n := by omega
    subst e
    have h5 := ht.1
    refine k_17_24 ⟨⟨by omega, by omega⟩, by rw [h5]; exact ⟨by omega, by omega⟩, ?_⟩
    rw [h5, if_neg (by omega)]
    intro u1 e1 u2 e2
    subst e2 e1
    refine hQ _ (sb_wr (sb_wr hs (by decide)) (by decide)) ?_ ?_ ?_ ?_
    · simp [wr_1, h4]
    · simp [wr_1]
    · intro i hi hnb
      simp [wr_1]
      exact hw i hi hnb
    · funext k
      have := congrFun h36 k
      simp [wr_1, this]
  | succ m ih =>
    intro j u hj hs ht h4 h36 hw
    by_cases h32 : f j = 32
    · have := ih (j + 1) u (by omega) hs ht h4 h36 (fun i hi hnb => by
        rcases Nat.lt_or_ge i j with h | h
        · exact hw i h hnb
        · have : i = j := by omega
          subst this
          exact absurd h32 hnb)
      rw [cnt_s, if_pos h32] at this
      exact this
    · have h5 := ht.1
      have hlt := cnt_lt f (show j < n by omega) h32
      have hc := cnt_r f j
      have h40 : cnt f j < 40 := wb_40 hb (by omega) h32
      obtain ⟨t3, t4⟩ := ht.2.2 j (by omega) h32
      refine k_17_24 ⟨⟨by omega, by omega⟩, by rw [h5]; exact ⟨by omega, by omega⟩, ?_⟩
      rw [h5, if_pos hlt]
      refine ⟨by omega, by omega, h40, fun u1 e1 => ?_⟩
      have := ih (j + 1) u1 (by omega) (by subst e1; exact sb_wr hs (by decide)) (by
        subst e1
        refine ⟨?_, ?_, fun i hi hnb => ?_⟩
        · simp [wr_1, h5]
        · simp [wr_1, ht.2.1]
        · have := ht.2.2 i hi hnb
          simp [wr_1]
          exact this) (by subst e1; simp [wr_1, h4]) (by subst e1; rw [wr_ne (by decide)]; exact h36) (fun i hi hnb => by
        subst e1
        rcases Nat.lt_or_ge i j with h | h
        · have hlt := cnt_lt f h hnb
          have hne : ¬ (cnt f i = cnt f j) := by omega
          have := hw i h hnb
          simp [wr_1, hne]
          exact this
        · have : i = j := by omega
          subst this
          simp [wr_1, t3])
      rw [cnt_s, if_neg h32] at this
      exact this
theorem c_17 {d n : Nat} {u : uS} (hn : n ≤ 300) (h4 : u.1 1 4 = n) (hr : ∀ j : Nat, j < n → rI (u.1 2 j)) : cI (d + 3) 17 [.ref 0] u (fun r u' => (∃ j : Nat, r = -2 - j ∧ j < n ∧ wbad (u.1 2) j ∧ (∀ i, i < j → ¬ wbad (u.1 2) i) ∧ sb u u' [1, 3, 4] ∧ u'.1 1 4 = 0) ∨ (r = cnt (u.1 2) n ∧ (∀ i, i < n → ¬ wbad (u.1 2) i) ∧ sb u u' wps ∧ u'.1 1 4 = 0 ∧ u'.1 0 2 = cnt (u.1 2) n ∧ (∀ j : Nat, j < n → u.1 2 j ≠ 32 → u'.1 5 (cnt (u.1 2) j) = u.1 2 j - 97) ∧ u'.1 36 = (wr u 36 16 0).1 36)) := by
  refine e_17 ?_
  refine cV.mono (c_18 (d := d + 1) hn h4 hr) (Nat.le_refl _) (fun u1 h1 => ?_)
  obtain ⟨ht, h14, hs⟩ := h1
  refine cI.mono (c_19 (d := d) hn hr ht) (Nat.le_refl _) (fun r u2 h2 => ?_)
  obtain ⟨eu, h2⟩ := h2
  rw [eu]
  rcases h2 with ⟨rfl, hb⟩ | ⟨j, rfl, hj, hb, hl⟩
  · refine ⟨by decide, ?_⟩
    rw [if_pos rfl]
    refine l_17 (f := u.1 2) (u0 := u) hn hb (fun u' g1 g2 g3 g4 g5 => Or.inr ⟨rfl, hb, g1, g2, g3, g4, g5⟩) n 0 u1 (by omega) (sb_mono hs (by decide)) ht h14 (hs.2 36 (by decide)) (fun i hi => by omega)
  · refine ⟨⟨by omega, by omega⟩, ?_⟩
    rw [if_neg (by omega)]
    exact Or.inl ⟨j, rfl, hj, hb, hl, hs, h14⟩
/-! word of the other side -/
theorem l_204w {d : Nat} {Q : Int → uS → Prop} {u : uS} {a j k : Int} (hj : 0 ≤ j) (hj2 : j < 300) (hk : rI k) (h1 : rI (u.1 271 1)) (hQ : Q (-2 - j) (wr u 271 1 0)) : K_204 (d + 1) 7 [.ref 271, iV a, iV j, iV k] [] u Q := by
  refine k_204_7 ⟨hk, h1, ?_⟩
  split
  · refine ⟨⟨by omega, by omega⟩, ?_⟩
    rw [if_neg (by omega)]
    intro u1 e1
    subst e1
    exact hQ
  · refine ⟨⟨by omega, by omega⟩, ?_⟩
    rw [if_neg (by omega)]
    intro u1 e1
    subst e1
    exact hQ
theorem l_204b {d : Nat} {Q : Int → uS → Prop} {f : Int → Int} {n : Nat} {u0 : uS} (hn : n ≤ 300) (hr : ∀ j : Nat, j < n → rI (f j)) (hb : ∀ i, i < n → ¬ wbad f i) (hQ : ∀ u', sb u0 u' [271, 273] → u'.1 271 = (wr (wr u0 271 3 (cnt f n)) 271 1 0).1 271 → (∀ j : Nat, j < n → f j ≠ 32 → u'.1 273 (cnt f j) = f j - 97) → Q (cnt f n) u') : ∀ (m j : Nat) (u : uS), j + m = n → sb u0 u [271, 273] → u.1 272 = f → u.1 271 = (wr u0 271 3 (cnt f j)).1 271 → u0.1 271 1 = n → (∀ i : Nat, i < j → f i ≠ 32 → u.1 273 (cnt f i) = f i - 97) → K_204 (d + 1) 79 [.ref 271, iV (cnt f n), iV (-2), iV j] [] u Q := by
  intro m
  have hcn := cnt_r f n
  induction m with
  | zero =>
    intro j u hj hs hf h271 h1 hw
    have e : j = n := by omega
    subst e
    have g1 : u.1 271 1 = j := by rw [h271]; simp [wr_1, h1]
    refine k_204_79 ⟨⟨by omega, by omega⟩, by rw [g1]; exact ⟨by omega, by omega⟩, ?_⟩
    rw [g1, if_neg (by omega)]
    intro u1 e1
    subst e1
    refine ⟨by decide, ?_⟩
    rw [if_pos rfl]
    refine hQ _ (sb_wr hs (by decide)) ?_ ?_
    · funext k
      simp only [wr_1, h271]
    · intro i hi hnb
      simp [wr_1]
      exact hw i hi hnb
  | succ m ih =>
    intro j u hj hs hf h271 h1 hw
    have hc := cnt_r f j
    have g1 : u.1 271 1 = n := by rw [h271]; simp [wr_1, h1]
    have g3 : u.1 271 3 = cnt f j := by rw [h271]; simp [wr_1]
    refine k_204_79 ⟨⟨by omega, by omega⟩, by rw [g1]; exact ⟨by omega, by omega⟩, ?_⟩
    rw [g1, if_pos (by omega), hf]
    refine ⟨by omega, by omega, hr j (by omega), ?_⟩
    split
    · next h32 =>
      exact ih (j + 1) u (by omega) hs hf (by rw [cnt_s, if_pos h32]; exact h271) h1 (fun i hi hnb => by
        rcases Nat.lt_or_ge i j with h | h
        · exact hw i h hnb
        · have : i = j := by omega
          subst this
          exact absurd h32 hnb)
    · next h32 =>
      have h40 := wb_40 hb (show j < n by omega) h32
      rw [g3]
      refine ⟨hc.1, h40, fun u1 e1 u2 e2 => ?_⟩
      have g13 : u1.1 271 3 = cnt f j := by subst e1; simp [wr_1, g3]
      rw [g13] at e2
      refine ih (j + 1) u2 (by omega) (by subst e2 e1; exact sb_wr (sb_wr hs (by decide)) (by decide)) ?_ ?_ h1 ?_
      · subst e2 e1
        rw [wr_ne (by decide), wr_ne (by decide)]
        exact hf
      · subst e2 e1
        rw [cnt_s, if_neg h32]
        funext k
        have := congrFun h271 k
        simp only [wr_1] at this ⊢
        by_cases hk : k = 3
        · simp [hk]
        · simp [hk] at this ⊢
          exact this
      · intro i hi hnb
        subst e2 e1
        rcases Nat.lt_or_ge i j with h | h
        · have hlt := cnt_lt f h hnb
          have hne : ¬ (cnt f i = cnt f j) := by omega
          have := hw i h hnb
          simp [wr_1, hne]
          exact this
        · have : i = j := by omega
          subst this
          simp [wr_1]
theorem l_204a {d : Nat} {Q : Int → uS → Prop} {f : Int → Int} {n : Nat} {u : uS} (hn : n ≤ 300) (hf : u.1 272 = f) (h1 : u.1 271 1 = n) (hr : ∀ j : Nat, j < n → rI (f j)) (hQ : ∀ j : Nat, j < n → wbad f j → (∀ i, i < j → ¬ wbad f i) → Q (-2 - j) (wr u 271 1 0)) (hN : (∀ i, i < n → ¬ wbad f i) → K_204 (d + 1) 79 [.ref 271, iV (cnt f n), iV (-2), iV 0] [] (wr u 271 3 0) Q) : ∀ (m j : Nat), j + m = n → (∀ i, i < j → ¬ wbad f i) → K_204 (d + 1) 7 [.ref 271, iV (cnt f j), iV (-2), iV j] [] u Q := by
  intro m
  induction m with
  | zero =>
    intro j hj hb
    have e : j = n := by omega
    subst e
    refine k_204_7 ⟨⟨by omega, by omega⟩, by rw [h1]; exact ⟨by omega, by omega⟩, ?_⟩
    rw [h1, if_neg (by omega)]
    refine ⟨by decide, ?_⟩
    rw [if_pos rfl]
    intro u1 e1
    subst e1
    exact hN hb
  | succ m ih =>
    intro j hj hb
    have hc := cnt_r f j
    have hw : wbad f j → K_204 (d + 1) 7 [.ref 271, iV (cnt f j + 1), iV j, iV (j + 1)] [] u Q := fun hw => l_204w (by omega) (by omega) ⟨by omega, by omega⟩ (by rw [h1]; exact ⟨by omega, by omega⟩) (hQ j (by omega) hw hb)
    have hg : ¬ wbad f j → K_204 (d + 1) 7 [.ref 271, iV (cnt f (j + 1)), iV (-2), iV (j + 1)] [] u Q := fun hw => ih (j + 1) (by omega) (fun i hi => by
      rcases Nat.lt_or_ge i j with h | h
      · exact hb i h
      · have : i = j := by omega
        subst this
        exact hw)
    refine k_204_7 ⟨⟨by omega, by omega⟩, by rw [h1]; exact ⟨by omega, by omega⟩, ?_⟩
    rw [h1, if_pos (by omega)]
    refine ⟨by decide, ?_⟩
    rw [if_pos rfl, hf]
    refine ⟨by omega, by omega, hr j (by omega), ?_⟩
    split
    · next h32 =>
      have := hg (fun q => q.1 h32)
      rw [cnt_s, if_pos h32] at this
      exact this
    · next h32 =>
      split
      · next h97 => exact hw ⟨h32, Or.inr (Or.inl h97)⟩
      · next h97 =>
        split
        · next h106 => exact hw ⟨h32, Or.inr (Or.inr (by omega))⟩
        · next h106 =>
          refine ⟨⟨by omega, by omega⟩, ?_⟩
          split
          · next h40 => exact hw ⟨h32, Or.inl h40⟩
          · next h40 =>
            have := hg (fun q => by rcases q.2 with q | q | q <;> omega)
            rw [cnt_s, if_neg h32] at this
            exact this
theorem c_204 {d n : Nat} {u : uS} (hn : n ≤ 300) (h1 : u.1 271 1 = n) (hr : ∀ j : Nat, j < n → rI (u.1 272 j)) : cI (d + 2) 204 [.ref 271] u (fun r u' => (∃ j : Nat, r = -2 - j ∧ j < n ∧ wbad (u.1 272) j ∧ (∀ i, i < j → ¬ wbad (u.1 272) i) ∧ u' = wr u 271 1 0) ∨ (r = cnt (u.1 272) n ∧ (∀ i, i < n → ¬ wbad (u.1 272) i) ∧ sb u u' [271, 273] ∧ u'.1 271 = (wr (wr u 271 3 (cnt (u.1 272) n)) 271 1 0).1 271 ∧ (∀ j : Nat, j < n → u.1 272 j ≠ 32 → u'.1 273 (cnt (u.1 272) j) = u.1 272 j - 97))) := by
  refine e_204 ?_
  refine l_204a (f := u.1 272) hn rfl h1 hr (fun j hj hb hl => Or.inl ⟨j, rfl, hj, hb, hl, rfl⟩) (fun hb => ?_) n 0 (by omega) (fun i hi => by omega)
  refine l_204b (f := u.1 272) (u0 := u) hn hr hb (fun u' g1 g2 g3 => Or.inr ⟨rfl, hb, g1, g2, g3⟩) n 0 _ (by omega) (sb_wr (sb_refl u _) (by decide)) (wr_ne (by decide)) ?_ h1 (fun i hi => by omega)
  simp [cnt]
