/-! A run that knows fewer locals is a run that knows more -/
def ev_sub (lv lv' : ev_L) : Prop := lv.length = lv'.length ∧ ∀ (i : Nat) (v : Value), lv[i]? = some v → v ≠ .retAddr 0 → lv'[i]? = some v
theorem ev_kill_len (j : Nat) (lv : ev_L) : (ev_kill j lv).length = lv.length := by
  unfold ev_kill
  split
  · rfl
  · split
    · rw [List.length_set]
    · rw [List.length_set]
    · rfl
theorem ev_kill_keep {i j : Nat} {lv : ev_L} {v : Value} (h : lv[i]? = some v) (hn : ¬ (i + 1 = j ∧ v.category = 2)) : (ev_kill j lv)[i]? = some v := by
  unfold ev_kill
  split
  · exact h
  · next j =>
    split
    · next x hj =>
      rw [List.getElem?_set_ne]
      · exact h
      · intro e
        subst e
        rw [hj] at h
        cases h
        exact hn ⟨rfl, rfl⟩
    · next x hj =>
      rw [List.getElem?_set_ne]
      · exact h
      · intro e
        subst e
        rw [hj] at h
        cases h
        exact hn ⟨rfl, rfl⟩
    · exact h
theorem ev_put1_mono {j : Nat} {v : Value} {lv lv' : ev_L} (h : ev_sub lv lv') : ev_sub (ev_put1 j v lv) (ev_put1 j v lv') := by
  refine ⟨by simp [ev_put1, ev_kill_len, h.1], fun i u hu hn => ?_⟩
  unfold ev_put1 at hu ⊢
  rw [List.getElem?_set] at hu ⊢
  rw [ev_kill_len] at hu ⊢
  rw [← h.1]
  by_cases hij : j = i
  · simp only [hij, if_true] at hu ⊢
    exact hu
  · simp only [hij, if_false] at hu ⊢
    obtain ⟨h1, h2⟩ := ev_kill_get hu hn
    exact ev_kill_keep (h.2 i u h1 hn) h2
theorem ev_put2_mono {j : Nat} {v : Value} {lv lv' : ev_L} (h : ev_sub lv lv') : ev_sub (ev_put2 j v lv) (ev_put2 j v lv') := by
  have h0 := ev_put1_mono (j := j) (v := v) h
  refine ⟨by simp [ev_put2, ev_kill_len, h.1], fun i u hu hn => ?_⟩
  have e1 : ev_put2 j v lv = (ev_put1 j v lv).set (j + 1) (.retAddr 0) := rfl
  have e2 : ev_put2 j v lv' = (ev_put1 j v lv').set (j + 1) (.retAddr 0) := rfl
  rw [e1] at hu
  rw [e2]
  by_cases hij : j + 1 = i
  · subst hij
    rw [List.getElem?_set] at hu
    simp at hu
    exact absurd hu.2.symm hn
  · rw [List.getElem?_set_ne hij] at hu ⊢
    exact h0.2 i u hu hn
theorem ev_p_weak {own nL : Nat} {i : Instr} {len : Nat} {lv lv' l1 : ev_L} {st st1 : List Value} (h : ev_sub lv lv') (hp : ev_p own nL i len lv st = some (l1, st1)) : ∃ l2, ev_p own nL i len lv' st = some (l2, st1) ∧ ev_sub l1 l2 := by
  have ldi : ∀ j, ev_ldi j lv st = some (l1, st1) → ∃ l2, ev_ldi j lv' st = some (l2, st1) ∧ ev_sub l1 l2 := by
    intro j hj
    unfold ev_ldi at hj
    split at hj
    · next x hx => cases hj; exact ⟨lv', by simp [ev_ldi, h.2 j _ hx (by intro q; cases q)], h⟩
    · cases hj
  have ldl : ∀ j, ev_ldl j lv st = some (l1, st1) → ∃ l2, ev_ldl j lv' st = some (l2, st1) ∧ ev_sub l1 l2 := by
    intro j hj
    unfold ev_ldl at hj
    split at hj
    · next x hx => cases hj; exact ⟨lv', by simp [ev_ldl, h.2 j _ hx (by intro q; cases q)], h⟩
    · cases hj
  have lda : ∀ j, ev_lda j lv st = some (l1, st1) → ∃ l2, ev_lda j lv' st = some (l2, st1) ∧ ev_sub l1 l2 := by
    intro j hj
    unfold ev_lda at hj
    split at hj
    · next x hx => cases hj; exact ⟨lv', by simp [ev_lda, h.2 j _ hx (by intro q; cases q)], h⟩
    · cases hj
  have sti : ∀ j, ev_sti nL j lv st = some (l1, st1) → ∃ l2, ev_sti nL j lv' st = some (l2, st1) ∧ ev_sub l1 l2 := by
    intro j hj
    unfold ev_sti at hj ⊢
    split at hj
    · split at hj
      · next hl => cases hj; exact ⟨_, by simp [hl], ev_put1_mono h⟩
      · cases hj
    · cases hj
  have stl : ∀ j, ev_stl nL j lv st = some (l1, st1) → ∃ l2, ev_stl nL j lv' st = some (l2, st1) ∧ ev_sub l1 l2 := by
    intro j hj
    unfold ev_stl at hj ⊢
    split at hj
    · split at hj
      · next hl => cases hj; exact ⟨_, by simp [hl], ev_put2_mono h⟩
      · cases hj
    · cases hj
  have sta : ∀ j, ev_sta nL j lv st = some (l1, st1) → ∃ l2, ev_sta nL j lv' st = some (l2, st1) ∧ ev_sub l1 l2 := by
    intro j hj
    unfold ev_sta at hj ⊢
    split at hj
    · split at hj
      · next hl => cases hj; exact ⟨_, by simp [hl], ev_put1_mono h⟩
      · cases hj
    · cases hj
  have inc : ∀ j z, ev_inc nL j z lv st = some (l1, st1) → ∃ l2, ev_inc nL j z lv' st = some (l2, st1) ∧ ev_sub l1 l2 := by
    intro j z hj
    unfold ev_inc at hj
    split at hj
    · next x hx =>
      split at hj
      · next hl => cases hj; exact ⟨_, by simp [ev_inc, h.2 j _ hx (by intro q; cases q), hl], ev_put1_mono h⟩
      · cases hj
    · cases hj
  have bin : ∀ i, ev_bin i lv st = some (l1, st1) → ∃ l2, ev_bin i lv' st = some (l2, st1) ∧ ev_sub l1 l2 := by
    intro i hj
    unfold ev_bin at hj ⊢
    split at hj
    · obtain ⟨z, hz, e⟩ := ev_opt hj; cases e; exact ⟨lv', by simp [hz], h⟩
    · obtain ⟨z, hz, e⟩ := ev_opt hj; cases e; exact ⟨lv', by simp [hz], h⟩
    · obtain ⟨z, hz, e⟩ := ev_opt hj; cases e; exact ⟨lv', by simp [hz], h⟩
    · cases hj
  unfold ev_p at hp ⊢
  split at hp
  all_goals (split at hp)
  all_goals first
    | (cases hp; done)
    | (next hl => simp only [hl, if_true]; first | exact ldi _ hp | exact ldl _ hp | exact lda _ hp | exact sti _ hp | exact stl _ hp | exact sta _ hp | exact inc _ _ hp | exact bin _ hp | (cases hp; exact ⟨lv', rfl, h⟩))
    | (next hl =>
        simp only [hl, if_true]
        split at hp
        · first
            | (cases hp; exact ⟨lv', rfl, h⟩)
            | (split at hp
               · next hc => cases hp; exact ⟨lv', by simp [hc], h⟩
               · cases hp)
        · cases hp)
theorem ev_go_weak {K : ev_K} {own nL : Nat} {ini : Bool} {ret : Option FieldType} {cc : ByteArray} : ∀ (f pc : Nat) (lv lv' : ev_L) (st : List Value) (w : ev_W) (k n : Nat) (r : ev_R), ev_sub lv lv' → ev_go K own nL ini ret cc f (pc, lv, st, w, k, n) = some r → ev_go K own nL ini ret cc f (pc, lv', st, w, k, n) = some r := by
  intro f
  induction f with
  | zero => intro pc lv lv' st w k n r _ h; cases h
  | succ f ih =>
    intro pc lv lv' st w k n r hs h
    obtain ⟨i, len, hd, h | h⟩ := ev_go_inv h
    · obtain ⟨g', hg, h⟩ := h
      have hd' : decode cc pc = .ok (i, len) := hd
      rcases ev_step_inv hg with ⟨q, hq, e⟩ | ⟨q, hq, e⟩ | ⟨q, hq, e⟩ | ⟨v, hv, e⟩
      · obtain ⟨l1, st1⟩ := q
        cases e
        obtain ⟨l2, h2, hs2⟩ := ev_p_weak hs hq
        have h3 := ih _ _ _ _ _ _ _ _ hs2 h
        have e3 : ev_step K own nL ini ret i len (pc, lv', st, w, k, n) = some (.inl (pc + len, l2, st1, w, k, n)) := by
          unfold ev_step
          simp only [h2]
        unfold ev_go
        simp only [hd', e3]
        exact h3
      · cases e
        have h3 := ih _ _ _ _ _ _ _ _ hs h
        have e3 : ev_step K own nL ini ret i len (pc, lv', st, w, k, n) = some (.inl (q.1, lv', q.2, w, k, n)) := by
          unfold ev_step
          simp only [ev_b_p (own := own) (nL := nL) (lv := lv') hq, hq]
        unfold ev_go
        simp only [hd', e3]
        exact h3
      · cases e
        have h3 := ih _ _ _ _ _ _ _ _ hs h
        have e3 : ev_step K own nL ini ret i len (pc, lv', st, w, k, n) = some (.inl (pc + len, lv', q.1, q.2.1, k + q.2.2.1, n + q.2.2.2)) := by
          unfold ev_step
          simp only [ev_h_p (nL := nL) (lv := lv') hq, ev_h_b (pc := pc) hq, hq]
        unfold ev_go
        simp only [hd', e3]
        exact h3
      · cases e
    · have hd' : decode cc pc = .ok (i, len) := hd
      rcases ev_step_inv h with ⟨q, hq, e⟩ | ⟨q, hq, e⟩ | ⟨q, hq, e⟩ | ⟨v, hv, e⟩
      · cases e
      · cases e
      · cases e
      · cases e
        have e3 : ev_step K own nL ini ret i len (pc, lv', st, w, k, n) = some (.inr (v, w, k, n)) := by
          unfold ev_step
          simp only [ev_ret_p (own := own) (nL := nL) (lv := lv') hv, ev_ret_b (pc := pc) hv, ev_ret_h hv, hv]
        unfold ev_go
        simp only [hd', e3]
/-- at a loop's head: forget locals -/
theorem ok_weak {d own nL : Nat} {ini : Bool} {ret : Option FieldType} {cc : ByteArray} {Q : Option Value → ev_W → Prop} {pc : Nat} {lv lv' : ev_L} {st : List Value} {w : ev_W} (hs : ev_sub lv lv') (h : ok d own nL ini ret cc Q pc lv st w) : ok d own nL ini ret cc Q pc lv' st w := by
  obtain ⟨f, v, w', h1, h2⟩ := h
  exact ⟨f, v, w', fun k n => ev_go_weak f pc lv lv' st w k n _ hs (h1 k n), h2⟩
