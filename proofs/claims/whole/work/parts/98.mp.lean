/-! The text of an expression: which signs may come -/
/-- open brackets, behind an item, behind a not -/
abbrev aSt := Nat × Bool × Bool
abbrev atm (c : Int) : Prop := c = 46 ∨ c = 48 ∨ (97 ≤ c ∧ c ≤ 106)
def auS (s : aSt) (c : Int) : Option aSt := if c = 32 then some s else if c = 42 ∨ c = 43 ∨ c = 63 then (if s.2.1 = true then some s else none) else if c = 40 then (if s.1 < 15 then some (s.1 + 1, false, false) else none) else if c = 41 then (if 0 < s.1 ∧ s.2.2 = false then some (s.1 - 1, true, false) else none) else if c = 124 ∨ c = 38 then (if s.2.2 = false then some (s.1, false, false) else none) else if c = 33 then some (s.1, false, true) else if atm c then some (s.1, true, false) else none
def auR (f : Int → Int) : Nat → Option aSt
  | 0 => some (0, false, false)
  | j + 1 => (auR f j).bind (fun s => auS s (f j))
theorem auR_s {f : Int → Int} {j : Nat} {s : aSt} (h : auR f j = some s) : auR f (j + 1) = auS s (f j) := by
  show (auR f j).bind _ = _
  rw [h]
  rfl
theorem auR_congr {f g : Int → Int} {n : Nat} (h : ∀ j : Nat, j < n → g j = f j) : ∀ j : Nat, j ≤ n → auR g j = auR f j
  | 0, _ => rfl
  | j + 1, hj => by
    show (auR g j).bind _ = (auR f j).bind _
    rw [auR_congr h j (by omega), h j (by omega)]
theorem auR_15 {f : Int → Int} : ∀ (j : Nat) {s : aSt}, auR f j = some s → s.1 ≤ 15
  | 0, s, h => by
    have h : some ((0, false, false) : aSt) = some s := h
    injection h with h
    rw [← h]
    show 0 ≤ 15
    omega
  | j + 1, s, h => by
    cases hj : auR f j with
    | none =>
      have h : (auR f j).bind (fun s => auS s (f j)) = some s := h
      rw [hj] at h
      cases h
    | some s0 =>
      have ih := auR_15 j hj
      rw [auR_s hj] at h
      unfold auS at h
      split at h
      · injection h with h; rw [← h]; exact ih
      · split at h
        · split at h
          · injection h with h; rw [← h]; exact ih
          · cases h
        · split at h
          · split at h
            · next hh => injection h with h; rw [← h]; show s0.1 + 1 ≤ 15; omega
            · cases h
          · split at h
            · split at h
              · injection h with h; rw [← h]; show s0.1 - 1 ≤ 15; omega
              · cases h
            · split at h
              · split at h
                · injection h with h; rw [← h]; exact ih
                · cases h
              · split at h
                · injection h with h; rw [← h]; exact ih
                · split at h
                  · injection h with h; rw [← h]; exact ih
                  · cases h
/-- where the fault of a text lies: e is told for none -/
def auF (f : Int → Int) (n : Nat) (e r : Int) : Prop := (∃ (j : Nat) (s : aSt), j < n ∧ auR f j = some s ∧ auS s (f j) = none ∧ r = (j : Nat)) ∨ (∃ s : aSt, auR f n = some s ∧ ((0 < s.1 ∨ s.2.2 = true) ∧ r = (n : Nat))) ∨ (∃ b : Bool, auR f n = some (0, b, false) ∧ r = e)
theorem auR_none {f : Int → Int} {j : Nat} (h : auR f j = none) : ∀ m : Nat, auR f (j + m) = none
  | 0 => h
  | m + 1 => by
    show (auR f (j + m)).bind _ = none
    rw [auR_none h m]
    rfl
theorem auF_uniq {f g : Int → Int} {n : Nat} {e e' r r' : Int} (hfg : ∀ j : Nat, j < n → g j = f j) (h : auF f n e r) (h' : auF g n e' r') : (r = r' ∧ 0 ≤ r ∧ r ≤ n) ∨ (r = e ∧ r' = e' ∧ ∃ b : Bool, auR f n = some (0, b, false)) := by
  have hc := auR_congr hfg
  have stop : ∀ {j : Nat} {s : aSt}, auR f j = some s → auS s (f j) = none → ∀ k : Nat, j < k → auR f k = none := by
    intro j s h1 h2 k hk
    obtain ⟨m, e⟩ : ∃ m : Nat, k = (j + 1) + m := ⟨k - (j + 1), by omega⟩
    rw [e]
    exact auR_none (by rw [auR_s h1, h2]) m
  have h' : auF f n e' r' := by
    rcases h' with ⟨j, s, a, b, c, d⟩ | ⟨s, a, b⟩ | ⟨b, a, c⟩
    · exact Or.inl ⟨j, s, a, by rw [← hc j (by omega)]; exact b, by rw [← hfg j a]; exact c, d⟩
    · exact Or.inr (Or.inl ⟨s, by rw [← hc n (Nat.le_refl n)]; exact a, b⟩)
    · exact Or.inr (Or.inr ⟨b, by rw [← hc n (Nat.le_refl n)]; exact a, c⟩)
  rcases h with ⟨j, s, a1, a2, a3, a4⟩ | ⟨s, a2, a3, a4⟩ | ⟨b, a2, a4⟩
  · rcases h' with ⟨j', s', b1, b2, b3, b4⟩ | ⟨s', b2, b3, b4⟩ | ⟨b', b2, b4⟩
    · left
      have : j = j' := by
        by_cases c1 : j < j'
        · have := stop a2 a3 j' c1
          rw [b2] at this
          cases this
        · by_cases c2 : j' < j
          · have := stop b2 b3 j c2
            rw [a2] at this
            cases this
          · omega
      rw [a4, b4, this]
      exact ⟨rfl, by omega, by omega⟩
    · have := stop a2 a3 n a1
      rw [b2] at this
      cases this
    · have := stop a2 a3 n a1
      rw [b2] at this
      cases this
  · rcases h' with ⟨j', s', b1, b2, b3, b4⟩ | ⟨s', b2, b3, b4⟩ | ⟨b', b2, b4⟩
    · have := stop b2 b3 n b1
      rw [a2] at this
      cases this
    · left
      rw [a4, b4]
      exact ⟨rfl, by omega, by omega⟩
    · rw [a2] at b2
      injection b2 with b2
      rw [b2] at a3
      rcases a3 with a3 | a3
      · exact absurd a3 (Nat.lt_irrefl 0)
      · cases a3
  · rcases h' with ⟨j', s', b1, b2, b3, b4⟩ | ⟨s', b2, b3, b4⟩ | ⟨b', b2, b4⟩
    · have := stop b2 b3 n b1
      rw [a2] at this
      cases this
    · rw [a2] at b2
      injection b2 with b2
      rw [← b2] at b3
      rcases b3 with b3 | b3
      · exact absurd b3 (Nat.lt_irrefl 0)
      · cases b3
    · exact Or.inr ⟨a4, b4, b, a2⟩
/-- one side's eye on the text -/
def mcS (u : uS) (s : aSt) : Prop := u.1 63 0 = (s.1 : Nat) ∧ u.1 63 1 = b2 s.2.1 ∧ u.1 63 2 = b2 s.2.2
def mcF (u u' : uS) : Prop := u'.2 = u.2 ∧ ∀ (b : Nat) (j : Int), (b = 63 → j ≠ 0 ∧ j ≠ 1 ∧ j ≠ 2) → u'.1 b j = u.1 b j
theorem mcF_refl (u : uS) : mcF u u := ⟨rfl, fun _ _ _ => rfl⟩
theorem mcF_trans {u v w : uS} (h : mcF u v) (h' : mcF v w) : mcF u w := ⟨h'.1.trans h.1, fun b j hb => (h'.2 b j hb).trans (h.2 b j hb)⟩
theorem mcF_wr {u v : uS} {i y : Int} (hi : i = 0 ∨ i = 1 ∨ i = 2) (h : mcF u v) : mcF u (wr v 63 i y) := ⟨h.1, fun b j hb => by
  rw [wr_1, if_neg (fun e => by have := hb e.1; omega)]
  exact h.2 b j hb⟩
theorem j_65 {d : Nat} {u : uS} {c a : Int} {Q : Int → uS → Prop} (hc : rI c) (ha : a = 0 ∨ a = 1) (H : ∀ u' : uS, mcF u u' → u'.1 63 0 = u.1 63 0 → u'.1 63 1 = b2 (decide (c = 41 ∨ atm c)) → u'.1 63 2 = b2 (decide (c = 33)) → Q a u') : K_65 (d + 2) 169 [.ref 63, iV c, iV a] [] u Q := by
  have fin : ∀ (y z : Int) (u3 u6 : uS), u3 = wr u 63 1 y → u6 = wr u3 63 2 z → y = b2 (decide (c = 41 ∨ atm c)) → z = b2 (decide (c = 33)) → (a = 0 ∨ a = 1) ∧ Q a u6 := by
    intro y z u3 u6 e3 e6 ey ez
    refine ⟨ha, H u6 (by rw [e6, e3]; exact mcF_wr (by omega) (mcF_wr (by omega) (mcF_refl u))) ?_ ?_ ?_⟩
    · rw [e6, wr_1, if_neg (by decide), e3, wr_1, if_neg (by decide)]
    · rw [e6, wr_1, if_neg (by decide), e3, wr_self]; exact ey
    · rw [e6, wr_self]; exact ez
  have t : ∀ (p : Prop) [Decidable p], p → (1 : Int) = b2 (decide p) := fun p _ hp => by rw [decide_eq_true hp]; rfl
  have f : ∀ (p : Prop) [Decidable p], ¬ p → (0 : Int) = b2 (decide p) := fun p _ hp => by rw [decide_eq_false hp]; rfl
  refine k_65_169 ⟨hc, ?_⟩
  by_cases c1 : c = 41
  · rw [if_pos c1]
    intro u3 e3
    rw [if_neg (by omega)]
    exact fun u9 e9 => fin 1 0 u3 u9 e3 e9 (t _ (Or.inl c1)) (f _ (by omega))
  · rw [if_neg c1]
    by_cases c2 : c = 46
    · rw [if_pos c2]
      intro u3 e3
      rw [if_neg (by omega)]
      exact fun u9 e9 => fin 1 0 u3 u9 e3 e9 (t _ (Or.inr (Or.inl c2))) (f _ (by omega))
    · rw [if_neg c2]
      by_cases c3 : c = 48
      · rw [if_pos c3]
        intro u3 e3
        rw [if_neg (by omega)]
        exact fun u9 e9 => fin 1 0 u3 u9 e3 e9 (t _ (Or.inr (Or.inr (Or.inl c3)))) (f _ (by omega))
      · rw [if_neg c3]
        by_cases c4 : c < 97
        · rw [if_pos c4]
          intro u3 e3
          have hn : ¬ (c = 41 ∨ atm c) := by unfold atm; omega
          by_cases c5 : c = 33
          · rw [if_pos c5]
            exact fun u9 e9 => fin 0 1 u3 u9 e3 e9 (f _ hn) (t _ c5)
          · rw [if_neg c5]
            exact fun u9 e9 => fin 0 0 u3 u9 e3 e9 (f _ hn) (f _ c5)
        · rw [if_neg c4]
          by_cases c6 : c < 107
          · rw [if_pos c6]
            intro u3 e3
            rw [if_neg (by omega)]
            exact fun u9 e9 => fin 1 0 u3 u9 e3 e9 (t _ (Or.inr (Or.inr (Or.inr ⟨by omega, by omega⟩)))) (f _ (by omega))
          · rw [if_neg c6]
            intro u3 e3
            rw [if_neg (by omega)]
            exact fun u9 e9 => fin 0 0 u3 u9 e3 e9 (f _ (by unfold atm; omega)) (f _ (by omega))
def MC (s : aSt) (c : Int) (u : uS) (r : Int) (u' : uS) : Prop := mcF u u' ∧ ((r = 1 ∧ ∃ s', auS s c = some s' ∧ mcS u' s') ∨ (r = 0 ∧ auS s c = none))
set_option maxRecDepth 4000 in
theorem p_65 {d : Nat} {u : uS} {c : Int} {s : aSt} (hc : rI c) (h32 : c ≠ 32) (h15 : s.1 ≤ 15) (hs : mcS u s) : cI (d + 3) 65 [.ref 63, iV c] u (MC s c u) := by
  obtain ⟨s0, s1, s2⟩ := hs
  have hb1 := b2_r s.2.1
  have hb2 := b2_r s.2.2
  -- the last part of each way
  have yes : ∀ (u8 : uS) (dp : Nat) (ba bn : Bool), mcF u u8 → u8.1 63 0 = (dp : Nat) → auS s c = some (dp, ba, bn) → ba = decide (c = 41 ∨ atm c) → bn = decide (c = 33) → K_65 (d + 2) 169 [.ref 63, iV c, iV 1] [] u8 (MC s c u) := by
    intro u8 dp ba bn m8 h8 ha e1 e2
    refine j_65 hc (Or.inr rfl) (fun u' m' a b g => ⟨mcF_trans m8 m', Or.inl ⟨rfl, (dp, ba, bn), ha, ?_, ?_, ?_⟩⟩)
    · rw [a]; exact h8
    · rw [b, ← e1]
    · rw [g, ← e2]
  have no : ∀ (u8 : uS), mcF u u8 → auS s c = none → K_65 (d + 2) 169 [.ref 63, iV c, iV 0] [] u8 (MC s c u) := by
    intro u8 m8 ha
    exact j_65 hc (Or.inl rfl) (fun u' m' a b g => ⟨mcF_trans m8 m', Or.inr ⟨rfl, ha⟩⟩)
  have ds : ∀ (p q : Prop) [Decidable p], (¬ p) → false = decide p := fun p _ _ hp => (decide_eq_false hp).symm
  refine e_65 ⟨hc, ?_⟩
  by_cases c1 : c = 38
  · have ea : auS s c = if s.2.2 = false then some (s.1, false, false) else none := by
      unfold auS
      rw [if_neg h32, if_neg (by omega), if_neg (by omega), if_neg (by omega), if_pos (Or.inr c1)]
    rw [if_pos c1, s2]
    refine ⟨⟨by omega, by omega⟩, ?_⟩
    cases hn : s.2.2 with
    | false =>
      rw [if_pos b2f]
      exact yes u s.1 false false (mcF_refl u) s0 (by rw [ea, if_pos hn]) (decide_eq_false (by unfold atm; omega)).symm (decide_eq_false (by omega)).symm
    | true =>
      rw [if_neg (by decide)]
      exact no u (mcF_refl u) (by rw [ea, if_neg (by rw [hn]; decide)])
  · rw [if_neg c1]
    by_cases c2 : c = 40
    · have ea : auS s c = if s.1 < 15 then some (s.1 + 1, false, false) else none := by
        unfold auS
        rw [if_neg h32, if_neg (by omega), if_pos c2]
      rw [if_pos c2, s0]
      refine ⟨⟨by omega, by omega⟩, ?_⟩
      by_cases c15 : ((s.1 : Nat) : Int) < 15
      · rw [if_pos c15]
        intro u8 e8
        exact yes u8 (s.1 + 1) false false (by rw [e8]; exact mcF_wr (by omega) (mcF_refl u)) (by rw [e8, wr_self]; omega) (by rw [ea, if_pos (by omega)]) (decide_eq_false (by unfold atm; omega)).symm (decide_eq_false (by omega)).symm
      · rw [if_neg c15]
        intro u8 e8
        exact no u8 (by rw [e8]; exact mcF_wr (by omega) (mcF_refl u)) (by rw [ea, if_neg (by omega)])
    · rw [if_neg c2]
      by_cases c3 : c = 41
      · have ea : auS s c = if 0 < s.1 ∧ s.2.2 = false then some (s.1 - 1, true, false) else none := by
          unfold auS
          rw [if_neg h32, if_neg (by omega), if_neg c2, if_pos c3]
        rw [if_pos c3, s0, s2]
        refine ⟨⟨by omega, by omega⟩, ?_⟩
        by_cases c0 : (0 : Int) < ((s.1 : Nat) : Int)
        · rw [if_pos c0]
          refine ⟨⟨by omega, by omega⟩, ?_⟩
          cases hn : s.2.2 with
          | false =>
            rw [if_pos b2f]
            intro u8 e8
            exact yes u8 (s.1 - 1) true false (by rw [e8]; exact mcF_wr (by omega) (mcF_refl u)) (by rw [e8, wr_self]; omega) (by rw [ea, if_pos ⟨by omega, hn⟩]) (decide_eq_true (Or.inl c3)).symm (decide_eq_false (by omega)).symm
          | true =>
            rw [if_neg (by decide)]
            intro u8 e8
            exact no u8 (by rw [e8]; exact mcF_wr (by omega) (mcF_refl u)) (by rw [ea, if_neg (fun hh => by rw [hn] at hh; exact absurd hh.2 (by decide))])
        · rw [if_neg c0]
          intro u8 e8
          exact no u8 (by rw [e8]; exact mcF_wr (by omega) (mcF_refl u)) (by rw [ea, if_neg (fun hh => by have := hh.1; omega)])
      · rw [if_neg c3]
        -- signs that say how often
        have often : (c = 42 ∨ c = 43 ∨ c = 63) → (u.1 63 1 = 0 ∨ u.1 63 1 = 1) ∧ MC s c u (u.1 63 1) u := by
          intro hh
          have ea : auS s c = if s.2.1 = true then some s else none := by
            unfold auS
            rw [if_neg h32, if_pos hh]
          rw [s1]
          refine ⟨hb1, mcF_refl u, ?_⟩
          cases hn : s.2.1 with
          | true => exact Or.inl ⟨rfl, s, by rw [ea, if_pos hn], s0, s1, s2⟩
          | false => exact Or.inr ⟨rfl, by rw [ea, if_neg (by rw [hn]; decide)]⟩
        by_cases c4 : c = 42
        · rw [if_pos c4]
          exact often (Or.inl c4)
        · rw [if_neg c4]
          by_cases c5 : c = 43
          · rw [if_pos c5]
            exact often (Or.inr (Or.inl c5))
          · rw [if_neg c5]
            by_cases c6 : c = 63
            · rw [if_pos c6]
              exact often (Or.inr (Or.inr c6))
            · rw [if_neg c6]
              by_cases c7 : c = 124
              · have ea : auS s c = if s.2.2 = false then some (s.1, false, false) else none := by
                  unfold auS
                  rw [if_neg h32, if_neg (by omega), if_neg (by omega), if_neg (by omega), if_pos (Or.inl c7)]
                rw [if_pos c7, s2]
                refine ⟨⟨by omega, by omega⟩, ?_⟩
                cases hn : s.2.2 with
                | false =>
                  rw [if_pos b2f]
                  exact yes u s.1 false false (mcF_refl u) s0 (by rw [ea, if_pos hn]) (decide_eq_false (by unfold atm; omega)).symm (decide_eq_false (by omega)).symm
                | true =>
                  rw [if_neg (by decide)]
                  exact no u (mcF_refl u) (by rw [ea, if_neg (by rw [hn]; decide)])
              · rw [if_neg c7]
                by_cases c8 : c = 33
                · have ea : auS s c = some (s.1, false, true) := by
                    unfold auS
                    rw [if_neg h32, if_neg (by omega), if_neg (by omega), if_neg (by omega), if_neg (by omega), if_pos c8]
                  rw [if_pos c8]
                  exact yes u s.1 false true (mcF_refl u) s0 ea (decide_eq_false (by unfold atm; omega)).symm (decide_eq_true c8).symm
                · rw [if_neg c8]
                  have ea : auS s c = if atm c then some (s.1, true, false) else none := by
                    unfold auS
                    rw [if_neg h32, if_neg (by omega), if_neg (by omega), if_neg (by omega), if_neg (by omega), if_neg c8]
                  have atom : atm c → K_65 (d + 2) 169 [.ref 63, iV c, iV 1] [] u (MC s c u) := fun hh => yes u s.1 true false (mcF_refl u) s0 (by rw [ea, if_pos hh]) (decide_eq_true (Or.inr hh)).symm (decide_eq_false (by omega)).symm
                  have natom : ¬ atm c → K_65 (d + 2) 169 [.ref 63, iV c, iV 0] [] u (MC s c u) := fun hh => no u (mcF_refl u) (by rw [ea, if_neg hh])
                  by_cases d1 : c = 46
                  · rw [if_pos d1]; exact atom (Or.inl d1)
                  · rw [if_neg d1]
                    by_cases d2 : c = 48
                    · rw [if_pos d2]; exact atom (Or.inr (Or.inl d2))
                    · rw [if_neg d2]
                      by_cases d3 : c < 97
                      · rw [if_pos d3]; exact natom (by unfold atm; omega)
                      · rw [if_neg d3]
                        by_cases d4 : c < 107
                        · rw [if_pos d4]; exact atom (Or.inr (Or.inr ⟨by omega, by omega⟩))
                        · rw [if_neg d4]; exact natom (by unfold atm; omega)
