/-! word, once more: a word that is refused leaves the old one -/
theorem st_wordx {d : Nat} {u : uS} (hS : invS u) (hW : invW u) : cI (d + 3) 17 [.ref 0] u (fun r u1 => cI (d + 3) 204 [.ref 271] u1 (fun r' u2 => r' = r ∧ invS u2 ∧ invW u2 ∧ fr wdP u u2 ∧ ((r < 0 ∧ u2.1 36 = u.1 36 ∧ u2.1 0 = u.1 0 ∧ u2.1 5 = u.1 5) ∨ u2.1 36 16 = 0))) := by
  obtain ⟨n, hn, h1, h2, h3⟩ := hS
  have hr : ∀ j : Nat, j < n → rI (u.1 2 j) := fun j hj => by
    have := h3 j hj
    constructor <;> omega
  refine cI.mono (c_17 (d := d) hn h1 hr) (Nat.le_refl _) (fun r u1 hq => ?_)
  have k1 : sb u u1 wps := by
    rcases hq with ⟨j, _, _, _, _, q, _⟩ | ⟨_, _, q, _⟩
    · exact sb_mono q (by decide)
    · exact q
  have e271 : u1.1 271 = u.1 271 := k1.2 271 (by decide)
  have e272 : u1.1 272 = u.1 272 := k1.2 272 (by decide)
  have e273 : u1.1 273 = u.1 273 := k1.2 273 (by decide)
  have hfg : ∀ i : Nat, i < n → u1.1 272 i = u.1 2 i := fun i hi => by rw [e272]; exact (h3 i hi).1
  have hr1 : ∀ j : Nat, j < n → rI (u1.1 272 j) := fun j hj => by rw [hfg j hj]; exact hr j hj
  refine cI.mono (c_204 (d := d + 1) hn (by rw [e271]; exact h2) hr1) (Nat.le_refl _) (fun r' u2 hq2 => ?_)
  have hcn := cnt_congr hfg n (Nat.le_refl n)
  have k2 : sb u1 u2 [271, 273] := by
    rcases hq2 with ⟨j, _, _, _, _, q⟩ | ⟨_, _, q, _⟩
    · rw [q]
      exact sb_wr (sb_refl u1 _) (by decide)
    · exact q
  rcases hq with ⟨j, hr0, hj, hb, hl, hs, h14⟩ | ⟨hr0, hb, hs, h14, h02, hw, h36⟩
  · rcases hq2 with ⟨j', hr2, hj', hb', hl', hu2⟩ | ⟨hr2, hb', _⟩
    · have ejj : j' = j := by
        rcases Nat.lt_trichotomy j' j with h | h | h
        · exact absurd ((wbad_congr hfg hj').mp hb') (hl j' h)
        · exact h
        · exact absurd ((wbad_congr hfg hj).mpr hb) (hl' j h)
      refine ⟨by rw [hr2, hr0, ejj], ⟨0, by omega, ?_, ?_, fun i hi => by omega⟩, ?_, ?_, Or.inl ⟨by omega, ?_, ?_, ?_⟩⟩
      · rw [hu2]
        simp [wr_1, h14]
      · rw [hu2]
        simp [wr_1]
      · obtain ⟨k, q0, q1, q2, q3⟩ := hW
        refine ⟨k, q0, ?_, ?_, fun i hi => ?_⟩
        · rw [k2.2 0 (by decide), hs.2 0 (by decide)]
          exact q1
        · rw [hu2]
          simp [wr_1, e271, q2]
        · rw [k2.2 5 (by decide), hs.2 5 (by decide), hu2, wr_ne (by decide), e273]
          exact q3 i hi
      · rw [hu2]
        exact fr_wr (fr_sb hs (fun b i hm => Or.inr (Or.inl (by simp at hm ⊢; omega)))) (Or.inr (Or.inl ⟨rfl, Or.inl rfl⟩))
      · rw [k2.2 36 (by decide), hs.2 36 (by decide)]
      · rw [k2.2 0 (by decide), hs.2 0 (by decide)]
      · rw [k2.2 5 (by decide), hs.2 5 (by decide)]
    · exact absurd ((wbad_congr hfg hj).mpr hb) (hb' j hj)
  · rcases hq2 with ⟨j', hr2, hj', hb', hl', hu2⟩ | ⟨hr2, hb', hs2, h271, hw2⟩
    · exact absurd ((wbad_congr hfg hj').mp hb') (hb j' hj')
    · have hle := wb_le hb n (Nat.le_refl n)
      have hc0 := cnt_r (u.1 2) n
      have g271 : ∀ k, u2.1 271 k = if k = 1 then 0 else if k = 3 then cnt (u.1 2) n else u.1 271 k := by
        intro k
        rw [h271, ← hcn, ← e271]
        simp only [wr_1, true_and]
      refine ⟨by rw [hr2, hr0, hcn], ⟨0, by omega, ?_, ?_, fun i hi => by omega⟩, ⟨(cnt (u.1 2) n).toNat, by omega, ?_, ?_, fun i hi => ?_⟩, ?_, Or.inr ?_⟩
      · rw [hs2.2 1 (by decide), h14]
        rfl
      · rw [g271]
        rfl
      · rw [hs2.2 0 (by decide), h02]
        omega
      · rw [g271]
        simp
        omega
      · obtain ⟨j, hj, hnb, hcj⟩ := cnt_surj (u.1 2) n i (by omega) (by omega)
        have hwj := hw j hj hnb
        have hwj2 := hw2 j hj (by rw [hfg j hj]; exact hnb)
        rw [cnt_congr hfg j (by omega), hfg j hj] at hwj2
        rw [hcj] at hwj hwj2
        have hnw := hb j hj
        have h97 : ¬ u.1 2 j < 97 := fun q => hnw ⟨hnb, Or.inr (Or.inl q)⟩
        have h107 : ¬ 107 ≤ u.1 2 j := fun q => hnw ⟨hnb, Or.inr (Or.inr q)⟩
        rw [hs2.2 5 (by decide), hwj, hwj2]
        omega
      · refine fr_trans (fr_sb (P := wdP) hs (fun b i hm => ?_)) (fr_sb (P := wdP) hs2 (fun b i hm => ?_))
        · by_cases hb36 : b = 36
          · subst hb36
            by_cases hi : i = 16
            · exact Or.inr (Or.inr (Or.inr ⟨rfl, hi⟩))
            · left
              rw [h36]
              simp [wr_1, hi]
          · refine Or.inr (Or.inl ?_)
            simp at hm ⊢
            omega
        · by_cases hb2 : b = 271
          · subst hb2
            by_cases hi : i = 1 ∨ i = 3
            · exact Or.inr (Or.inr (Or.inl ⟨rfl, hi⟩))
            · left
              rw [g271, e271, if_neg (fun q => hi (Or.inl q)), if_neg (fun q => hi (Or.inr q))]
          · refine Or.inr (Or.inl ?_)
            simp at hm ⊢
            omega
      · rw [hs2.2 36 (by decide), h36]
        simp [wr_1]
