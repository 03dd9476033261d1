/-! What both sides hold alike: signs and the word -/
/-- all but what P names is as it was -/
def fr (P : Nat → Int → Prop) (u u' : uS) : Prop := u'.2 = u.2 ∧ ∀ b j, ¬ P b j → u'.1 b j = u.1 b j
theorem fr_refl (P : Nat → Int → Prop) (u : uS) : fr P u u := ⟨rfl, fun _ _ _ => rfl⟩
theorem fr_trans {P : Nat → Int → Prop} {u u1 u2 : uS} (h : fr P u u1) (h2 : fr P u1 u2) : fr P u u2 := ⟨h2.1.trans h.1, fun b j hb => (h2.2 b j hb).trans (h.2 b j hb)⟩
theorem fr_mono {P P' : Nat → Int → Prop} {u u1 : uS} (h : fr P u u1) (hp : ∀ b j, P b j → P' b j) : fr P' u u1 := ⟨h.1, fun b j hb => h.2 b j (fun q => hb (hp b j q))⟩
theorem fr_wr {P : Nat → Int → Prop} {u u1 : uS} {a : Nat} {i x : Int} (h : fr P u u1) (ha : P a i) : fr P u (wr u1 a i x) := ⟨h.1, fun b j hb => by
  rw [wr_1, if_neg]
  · exact h.2 b j hb
  · rintro ⟨rfl, rfl⟩
    exact hb ha⟩
theorem fr_sb {P : Nat → Int → Prop} {u u1 : uS} {ps : List Nat} (h : sb u u1 ps) (hp : ∀ b j, b ∈ ps → u1.1 b j = u.1 b j ∨ P b j) : fr P u u1 := ⟨h.1, fun b j hb => by
  by_cases hm : b ∈ ps
  · rcases hp b j hm with q | q
    · exact q
    · exact absurd q hb
  · rw [h.2 b hm]⟩
/-- the signs told so far are the same -/
def invS (u : uS) : Prop := ∃ n : Nat, n ≤ 300 ∧ u.1 1 4 = n ∧ u.1 271 1 = n ∧ ∀ j : Nat, j < n → u.1 272 j = u.1 2 j ∧ 32 ≤ u.1 2 j ∧ u.1 2 j ≤ 126
/-- the word is the same -/
def invW (u : uS) : Prop := ∃ k : Nat, k ≤ 40 ∧ u.1 0 2 = k ∧ u.1 271 3 = k ∧ ∀ i : Nat, i < k → u.1 273 i = u.1 5 i ∧ 0 ≤ u.1 5 i ∧ u.1 5 i ≤ 9
abbrev sgP (b : Nat) (j : Int) : Prop := b ∈ [1, 2, 3, 4, 272] ∨ (b = 271 ∧ j = 1)
set_option maxRecDepth 4000 in
theorem st_ask {d : Nat} {u : uS} {x : Int} (hx : rI x) (hS : invS u) : cI (d + 2) 15 [.ref 0, iV x] u (fun r u1 => cI (d + 2) 202 [.ref 271, iV x] u1 (fun r' u2 => r' = r ∧ invS u2 ∧ fr sgP u u2)) := by
  obtain ⟨n, hn, h1, h2, h3⟩ := hS
  have hS : invS u := ⟨n, hn, h1, h2, h3⟩
  refine e_15 ⟨hx, ?_⟩
  by_cases ha : x < 32
  · rw [if_pos ha]
    refine e_202 ⟨hx, ?_⟩
    rw [if_pos ha]
    exact ⟨rfl, hS, fr_refl _ u⟩
  · rw [if_neg ha]
    by_cases hb : 126 < x
    · rw [if_pos hb]
      refine e_202 ⟨hx, ?_⟩
      rw [if_neg ha, if_pos hb]
      exact ⟨rfl, hS, fr_refl _ u⟩
    · rw [if_neg hb, h1]
      refine ⟨⟨by omega, by omega⟩, ?_⟩
      rcases Int.lt_or_le (n : Int) 300 with hc | hc
      · rw [if_pos hc]
        refine ⟨by omega, ?_⟩
        intro u1 e1 u2 e2
        have g1 : u2.1 1 4 = n + 1 := by subst e2 e1; simp [wr_1, h1]
        have g2 : u2.1 271 1 = n := by subst e2 e1; simp [wr_1, h2]
        rw [g1]
        refine e_202 ⟨hx, ?_⟩
        rw [if_neg ha, if_neg hb, g2]
        refine ⟨⟨by omega, by omega⟩, ?_⟩
        rw [if_neg (by omega)]
        refine ⟨by omega, by omega, ?_⟩
        intro u3 e3 u4 e4
        have g3 : u4.1 271 1 = n + 1 := by subst e4 e3; simp [wr_1, g2]
        refine ⟨g3, ⟨n + 1, by omega, ?_, ?_, ?_⟩, ?_⟩
        · subst e4 e3
          simp [wr_1, g1]
        · rw [g3]
          rfl
        · intro j hj
          rcases Nat.lt_or_ge j n with h | h
          · have hne : ¬ ((j : Int) = (n : Int)) := by omega
            obtain ⟨q1, q2, q3⟩ := h3 j h
            subst e4 e3 e2 e1
            simp [wr_1, hne, q1, q2, q3]
          · have : j = n := by omega
            subst this
            subst e4 e3 e2 e1
            simp [wr_1]
            omega
        · subst e4 e3 e2 e1
          exact fr_wr (fr_wr (fr_wr (fr_wr (fr_refl _ u) (Or.inl (by decide))) (Or.inl (by decide))) (Or.inl (by decide))) (Or.inr ⟨rfl, rfl⟩)
      · rw [if_neg (by omega)]
        refine e_202 ⟨hx, ?_⟩
        rw [if_neg ha, if_neg hb, h2]
        refine ⟨⟨by omega, by omega⟩, ?_⟩
        rw [if_pos (by omega)]
        exact ⟨rfl, hS, fr_refl _ u⟩
theorem wbad_congr {f g : Int → Int} {n : Nat} (h : ∀ i : Nat, i < n → f i = g i) {j : Nat} (hj : j < n) : wbad f j ↔ wbad g j := by
  unfold wbad
  rw [h j hj, cnt_congr h j (by omega)]
abbrev wdP (b : Nat) (j : Int) : Prop := b ∈ [0, 1, 2, 3, 4, 5, 272, 273] ∨ (b = 271 ∧ (j = 1 ∨ j = 3)) ∨ (b = 36 ∧ j = 16)
theorem st_word {d : Nat} {u : uS} (hS : invS u) (hW : invW u) : cI (d + 3) 17 [.ref 0] u (fun r u1 => cI (d + 3) 204 [.ref 271] u1 (fun r' u2 => r' = r ∧ invS u2 ∧ invW u2 ∧ fr wdP u u2 ∧ ((r < 0 ∧ u2.1 36 = u.1 36) ∨ u2.1 36 16 = 0))) := by
  obtain ⟨n, hn, h1, h2, h3⟩ := hS
  have hr : ∀ j : Nat, j < n → rI (u.1 2 j) := fun j hj => by
    have := h3 j hj
    constructor <;> omega
  refine cI.mono (c_17 (d := d) hn h1 hr) (Nat.le_refl _) (fun r u1 hq => ?_)
  have k1 : sb u u1 wps := by
    rcases hq with ⟨j, _, _, _, _, q, _⟩ | ⟨_, _, q, _⟩
    · exact sb_mono q (by decide)
    · exact q
  have e271 : u1.1 271 = u.1 271 := k1.2 271 (by decide)
  have e272 : u1.1 272 = u.1 272 := k1.2 272 (by decide)
  have e273 : u1.1 273 = u.1 273 := k1.2 273 (by decide)
  have hfg : ∀ i : Nat, i < n → u1.1 272 i = u.1 2 i := fun i hi => by rw [e272]; exact (h3 i hi).1
  have hr1 : ∀ j : Nat, j < n → rI (u1.1 272 j) := fun j hj => by rw [hfg j hj]; exact hr j hj
  refine cI.mono (c_204 (d := d + 1) hn (by rw [e271]; exact h2) hr1) (Nat.le_refl _) (fun r' u2 hq2 => ?_)
  have hcn := cnt_congr hfg n (Nat.le_refl n)
  have k2 : sb u1 u2 [271, 273] := by
    rcases hq2 with ⟨j, _, _, _, _, q⟩ | ⟨_, _, q, _⟩
    · rw [q]
      exact sb_wr (sb_refl u1 _) (by decide)
    · exact q
  rcases hq with ⟨j, hr0, hj, hb, hl, hs, h14⟩ | ⟨hr0, hb, hs, h14, h02, hw, h36⟩
  · rcases hq2 with ⟨j', hr2, hj', hb', hl', hu2⟩ | ⟨hr2, hb', _⟩
    · have ejj : j' = j := by
        rcases Nat.lt_trichotomy j' j with h | h | h
        · exact absurd ((wbad_congr hfg hj').mp hb') (hl j' h)
        · exact h
        · exact absurd ((wbad_congr hfg hj).mpr hb) (hl' j h)
      refine ⟨by rw [hr2, hr0, ejj], ⟨0, by omega, ?_, ?_, fun i hi => by omega⟩, ?_, ?_, Or.inl ⟨by omega, ?_⟩⟩
      · rw [hu2]
        simp [wr_1, h14]
      · rw [hu2]
        simp [wr_1]
      · obtain ⟨k, q0, q1, q2, q3⟩ := hW
        refine ⟨k, q0, ?_, ?_, fun i hi => ?_⟩
        · rw [k2.2 0 (by decide), hs.2 0 (by decide)]
          exact q1
        · rw [hu2]
          simp [wr_1, e271, q2]
        · rw [k2.2 5 (by decide), hs.2 5 (by decide), hu2, wr_ne (by decide), e273]
          exact q3 i hi
      · rw [hu2]
        exact fr_wr (fr_sb hs (fun b i hm => Or.inr (Or.inl (by simp at hm ⊢; omega)))) (Or.inr (Or.inl ⟨rfl, Or.inl rfl⟩))
      · rw [k2.2 36 (by decide), hs.2 36 (by decide)]
    · exact absurd ((wbad_congr hfg hj).mpr hb) (hb' j hj)
  · rcases hq2 with ⟨j', hr2, hj', hb', hl', hu2⟩ | ⟨hr2, hb', hs2, h271, hw2⟩
    · exact absurd ((wbad_congr hfg hj').mp hb') (hb j' hj')
    · have hle := wb_le hb n (Nat.le_refl n)
      have hc0 := cnt_r (u.1 2) n
      have g271 : ∀ k, u2.1 271 k = if k = 1 then 0 else if k = 3 then cnt (u.1 2) n else u.1 271 k := by
        intro k
        rw [h271, ← hcn, ← e271]
        simp only [wr_1, true_and]
      refine ⟨by rw [hr2, hr0, hcn], ⟨0, by omega, ?_, ?_, fun i hi => by omega⟩, ⟨(cnt (u.1 2) n).toNat, by omega, ?_, ?_, fun i hi => ?_⟩, ?_, Or.inr ?_⟩
      · rw [hs2.2 1 (by decide), h14]
        rfl
      · rw [g271]
        rfl
      · rw [hs2.2 0 (by decide), h02]
        omega
      · rw [g271]
        simp
        omega
      · obtain ⟨j, hj, hnb, hcj⟩ := cnt_surj (u.1 2) n i (by omega) (by omega)
        have hwj := hw j hj hnb
        have hwj2 := hw2 j hj (by rw [hfg j hj]; exact hnb)
        rw [cnt_congr hfg j (by omega), hfg j hj] at hwj2
        rw [hcj] at hwj hwj2
        have hnw := hb j hj
        have h97 : ¬ u.1 2 j < 97 := fun q => hnw ⟨hnb, Or.inr (Or.inl q)⟩
        have h107 : ¬ 107 ≤ u.1 2 j := fun q => hnw ⟨hnb, Or.inr (Or.inr q)⟩
        rw [hs2.2 5 (by decide), hwj, hwj2]
        omega
      · refine fr_trans (fr_sb (P := wdP) hs (fun b i hm => ?_)) (fr_sb (P := wdP) hs2 (fun b i hm => ?_))
        · by_cases hb36 : b = 36
          · subst hb36
            by_cases hi : i = 16
            · exact Or.inr (Or.inr (Or.inr ⟨rfl, hi⟩))
            · left
              rw [h36]
              simp [wr_1, hi]
          · refine Or.inr (Or.inl ?_)
            simp at hm ⊢
            omega
        · by_cases hb2 : b = 271
          · subst hb2
            by_cases hi : i = 1 ∨ i = 3
            · exact Or.inr (Or.inr (Or.inl ⟨rfl, hi⟩))
            · left
              rw [g271, e271, if_neg (fun q => hi (Or.inl q)), if_neg (fun q => hi (Or.inr q))]
          · refine Or.inr (Or.inl ?_)
            simp at hm ⊢
            omega
      · rw [hs2.2 36 (by decide), h36]
        simp [wr_1]
