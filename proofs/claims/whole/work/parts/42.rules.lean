/-! Rules of a grammar: what is asked of one row of symbols -/
def rowF (f : Int → Int) : Nat → Int → List Int
  | 0, _ => []
  | m + 1, i => f i :: rowF f m (i + 1)
/-- the symbols of rule r of the grammar at a -/
abbrev row (u : uS) (a : Nat) (r : Int) : List Int := rowF (fun d => u.1 (a + 4) (r * 6 + d)) (u.1 (a + 3) r).toNat 0
/-- rule r of the grammar at a keeps within its bounds -/
def gR (u : uS) (a : Nat) (r : Int) : Prop := 0 ≤ r ∧ r < 30 ∧ 0 ≤ u.1 (a + 3) r ∧ u.1 (a + 3) r ≤ 6 ∧ ∀ d, 0 ≤ d → d < u.1 (a + 3) r → 0 ≤ u.1 (a + 4) (r * 6 + d) ∧ u.1 (a + 4) (r * 6 + d) < 110
def b2 (b : Bool) : Int := if b = true then 1 else 0
theorem b2_r (b : Bool) : b2 b = 0 ∨ b2 b = 1 := by cases b <;> simp [b2]
/-- all variables of a row are of a set -/
def wth (al : Int) : List Int → Bool
  | [] => true
  | s :: l => (decide (s < 100) || bi al (s - 100).toNat) && wth al l
theorem p_46 {d : Nat} {u : uS} {a : Nat} {r al : Int} (hO : isO a 2) (hg : gR u a r) : cI (d + 2) 46 [.ref a, iV r, iV al] u (fun x u' => x = b2 (wth al (row u a r)) ∧ u' = u) := by
  obtain ⟨h0, h1, h2, h3, h4⟩ := hg
  have loop : ∀ (m : Nat) (i : Int) (Q : Int → uS → Prop), 0 ≤ i → i + m = u.1 (a + 3) r → Q (b2 (wth al (rowF (fun d => u.1 (a + 4) (r * 6 + d)) m i))) u → K_46 (d + 1) 2 [.ref a, iV r, iV al, iV i, .retAddr 0] [] u Q := by
    intro m
    induction m with
    | zero =>
      intro i Q hi he hQ
      refine k_46_2 hO ⟨h0, h1, ⟨by omega, by omega⟩, ⟨by omega, by omega⟩, ?_⟩
      rw [if_neg (by omega)]
      exact hQ
    | succ m ih =>
      intro i Q hi he hQ
      have hs := h4 i hi (by omega)
      refine k_46_2 hO ⟨h0, h1, ⟨by omega, by omega⟩, ⟨by omega, by omega⟩, ?_⟩
      rw [if_pos (by omega)]
      refine ⟨by omega, by omega, ⟨by omega, by omega⟩, ?_⟩
      simp only [rowF, wth] at hQ
      by_cases hc : u.1 (a + 4) (r * 6 + i) < 100
      · rw [if_pos hc]
        refine ih (i + 1) Q (by omega) (by omega) ?_
        simpa [hc] using hQ
      · rw [if_neg hc, bit_i (by omega) (by omega)]
        by_cases hb : bi al (u.1 (a + 4) (r * 6 + i) - 100).toNat = true
        · rw [if_pos hb, if_neg (by decide)]
          refine ih (i + 1) Q (by omega) (by omega) ?_
          simpa [hc, hb] using hQ
        · rw [if_neg hb, if_pos rfl]
          simpa [hc, hb, b2] using hQ
  exact e_46 hO (loop _ 0 _ (Int.le_refl 0) (by omega) ⟨rfl, rfl⟩)
/-- the variables of a row, added to a set -/
def vrs : Int → List Int → Int
  | x, [] => x
  | x, s :: l => if s < 100 then vrs x l else vrs (ior x (ishl 1 (s - 100))) l
theorem p_54 {d : Nat} {u : uS} {a : Nat} {r : Int} (hO : isO a 2) (hg : gR u a r) : cI (d + 2) 54 [.ref a, iV r] u (fun x u' => x = vrs 0 (row u a r) ∧ u' = u) := by
  obtain ⟨h0, h1, h2, h3, h4⟩ := hg
  have loop : ∀ (m : Nat) (i x : Int) (Q : Int → uS → Prop), 0 ≤ i → i + m = u.1 (a + 3) r → Q (vrs x (rowF (fun d => u.1 (a + 4) (r * 6 + d)) m i)) u → K_54 (d + 1) 4 [.ref a, iV r, iV x, iV i, .retAddr 0] [] u Q := by
    intro m
    induction m with
    | zero =>
      intro i x Q hi he hQ
      refine k_54_4 hO ⟨h0, h1, ⟨by omega, by omega⟩, ⟨by omega, by omega⟩, ?_⟩
      rw [if_neg (by omega)]
      exact hQ
    | succ m ih =>
      intro i x Q hi he hQ
      have hs := h4 i hi (by omega)
      refine k_54_4 hO ⟨h0, h1, ⟨by omega, by omega⟩, ⟨by omega, by omega⟩, ?_⟩
      rw [if_pos (by omega)]
      refine ⟨by omega, by omega, ⟨by omega, by omega⟩, ?_⟩
      simp only [rowF, vrs] at hQ
      by_cases hc : u.1 (a + 4) (r * 6 + i) < 100
      · rw [if_pos hc] at hQ ⊢
        exact ih (i + 1) x Q (by omega) (by omega) hQ
      · rw [if_neg hc] at hQ ⊢
        exact ih (i + 1) _ Q (by omega) (by omega) hQ
  exact e_54 hO (loop _ 0 0 _ (Int.le_refl 0) (by omega) ⟨rfl, rfl⟩)
/-- the symbols of a row that can give a letter -/
def isl (lt s : Int) : Bool := decide (s < 100) || bi lt (s - 100).toNat
def lts (lt : Int) : Int → List Int → Int
  | x, [] => x
  | x, s :: l => lts lt (if isl lt s = true then x + 1 else x) l
theorem p_57 {d : Nat} {u : uS} {a : Nat} {r lt : Int} (hO : isO a 2) (hg : gR u a r) : cI (d + 3) 57 [.ref a, iV r, iV lt] u (fun x u' => x = lts lt 0 (row u a r) ∧ u' = u) := by
  obtain ⟨h0, h1, h2, h3, h4⟩ := hg
  have loop : ∀ (m : Nat) (i x : Int) (Q : Int → uS → Prop), 0 ≤ i → i + m = u.1 (a + 3) r → Q (lts lt x (rowF (fun d => u.1 (a + 4) (r * 6 + d)) m i)) u → K_57 (d + 2) 5 [.ref a, iV r, iV lt, iV x, iV i] [] u Q := by
    intro m
    induction m with
    | zero =>
      intro i x Q hi he hQ
      refine k_57_5 hO ⟨h0, h1, ⟨by omega, by omega⟩, ⟨by omega, by omega⟩, ?_⟩
      rw [if_neg (by omega)]
      exact hQ
    | succ m ih =>
      intro i x Q hi he hQ
      have hs := h4 i hi (by omega)
      refine k_57_5 hO ⟨h0, h1, ⟨by omega, by omega⟩, ⟨by omega, by omega⟩, ?_⟩
      rw [if_pos (by omega)]
      refine ⟨by omega, by omega, ⟨by omega, by omega⟩, ?_⟩
      simp only [rowF, lts, isl] at hQ
      by_cases hc : u.1 (a + 4) (r * 6 + i) < 100
      · rw [if_pos hc]
        refine ih (i + 1) _ Q (by omega) (by omega) ?_
        simpa [hc] using hQ
      · rw [if_neg hc, bit_i (by omega) (by omega)]
        by_cases hb : bi lt (u.1 (a + 4) (r * 6 + i) - 100).toNat = true
        · rw [if_pos hb, if_pos rfl]
          refine ih (i + 1) _ Q (by omega) (by omega) ?_
          simpa [hc, hb] using hQ
        · rw [if_neg hb, if_neg (by decide)]
          refine ih (i + 1) _ Q (by omega) (by omega) ?_
          simpa [hc, hb] using hQ
  exact e_57 hO (loop _ 0 0 _ (Int.le_refl 0) (by omega) ⟨rfl, rfl⟩)
theorem lts_r (lt : Int) : ∀ (l : List Int) (x : Int), x ≤ lts lt x l ∧ lts lt x l ≤ x + l.length
  | [], x => by simp [lts]
  | s :: l, x => by
    simp only [lts, List.length_cons]
    by_cases h : isl lt s = true
    · rw [if_pos h]
      have := lts_r lt l (x + 1)
      omega
    · rw [if_neg h]
      have := lts_r lt l x
      omega
theorem rowF_len (f : Int → Int) : ∀ (m : Nat) (i : Int), (rowF f m i).length = m
  | 0, _ => rfl
  | m + 1, i => by simp [rowF, rowF_len f m]
/-- the variables of a row beside which another symbol can give a letter -/
def grw (lt all : Int) : Int → List Int → Int
  | x, [] => x
  | x, s :: l => grw lt all (if s < 100 then x else if 0 < (if isl lt s = true then all - 1 else all) then ior x (ishl 1 (s - 100)) else x) l
theorem p_59 {d : Nat} {u : uS} {a : Nat} {r lt : Int} (hO : isO a 2) (hg : gR u a r) : cI (d + 4) 59 [.ref a, iV r, iV lt] u (fun x u' => x = grw lt (lts lt 0 (row u a r)) 0 (row u a r) ∧ u' = u) := by
  refine e_59 hO ?_
  refine cI.mono (p_57 (d := d) hO hg) (by omega) (fun all u1 h1 => ?_)
  obtain ⟨h0, h1', h2, h3, h4⟩ := hg
  rw [h1.1, h1.2]
  have hall := lts_r lt (row u a r) 0
  rw [rowF_len] at hall
  have loop : ∀ (m : Nat) (i x : Int) (Q : Int → uS → Prop), 0 ≤ i → i + m = u.1 (a + 3) r → Q (grw lt (lts lt 0 (row u a r)) x (rowF (fun d => u.1 (a + 4) (r * 6 + d)) m i)) u → K_59 (d + 3) 13 [.ref a, iV r, iV lt, iV (lts lt 0 (row u a r)), iV x, iV i, .retAddr 0, .retAddr 0] [] u Q := by
    intro m
    induction m with
    | zero =>
      intro i x Q hi he hQ
      refine k_59_13 hO ⟨h0, h1', ⟨by omega, by omega⟩, ⟨by omega, by omega⟩, ?_⟩
      rw [if_neg (by omega)]
      exact hQ
    | succ m ih =>
      intro i x Q hi he hQ
      have hs := h4 i hi (by omega)
      refine k_59_13 hO ⟨h0, h1', ⟨by omega, by omega⟩, ⟨by omega, by omega⟩, ?_⟩
      rw [if_pos (by omega)]
      refine ⟨by omega, by omega, ⟨by omega, by omega⟩, ?_⟩
      simp only [rowF, grw, isl] at hQ
      by_cases hc : u.1 (a + 4) (r * 6 + i) < 100
      · rw [if_pos hc]
        refine ih (i + 1) _ Q (by omega) (by omega) ?_
        simpa [hc] using hQ
      · rw [if_neg hc, bit_i (by omega) (by omega)]
        by_cases hb : bi lt (u.1 (a + 4) (r * 6 + i) - 100).toNat = true
        · rw [if_pos hb, if_pos rfl]
          refine ⟨⟨by omega, by omega⟩, ?_⟩
          split
          · next hp =>
            have hp2 : 1 < lts lt 0 (row u a r) := by omega
            refine ih (i + 1) _ Q (by omega) (by omega) ?_
            simpa [hc, hb, hp2] using hQ
          · next hp =>
            have hp2 : ¬ 1 < lts lt 0 (row u a r) := by omega
            refine ih (i + 1) _ Q (by omega) (by omega) ?_
            simpa [hc, hb, hp2] using hQ
        · rw [if_neg hb, if_neg (by decide)]
          refine ⟨⟨by omega, by omega⟩, ?_⟩
          split
          · next hp =>
            refine ih (i + 1) _ Q (by omega) (by omega) ?_
            simpa [hc, hb, hp] using hQ
          · next hp =>
            refine ih (i + 1) _ Q (by omega) (by omega) ?_
            simpa [hc, hb, hp] using hQ
  exact loop _ 0 0 _ (Int.le_refl 0) (by omega) ⟨rfl, rfl⟩
