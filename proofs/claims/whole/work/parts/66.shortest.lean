/-! shortestOf -/
def sho (u : uS) (a : Nat) : Int → List Int → Int
  | x, [] => x
  | x, s :: l => sho u a (pl 9000000000000000000 x (if s < 100 then 1 else u.1 (a + 5) (s - 100))) l
theorem p_50 {d : Nat} {u : uS} {a : Nat} {r : Int} (hO : isO a 2) (hg : gR u a r) (hc : ∀ y : Int, 0 ≤ y → y < 10 → cn 9000000000000000000 (u.1 (a + 5) y)) : cL (d + 2) 50 [.ref a, iV r] u (fun x u' => x = sho u a 0 (row u a r) ∧ u' = u) := by
  obtain ⟨h0, h1, h2, h3, h4⟩ := hg
  have loop : ∀ (m : Nat) (i x : Int) (Q : Int → uS → Prop), 0 ≤ i → i + m = u.1 (a + 3) r → cn 9000000000000000000 x → Q (sho u a x (rowF (fun d => u.1 (a + 4) (r * 6 + d)) m i)) u → K_50 (d + 1) 5 [.ref a, iV r, lV x, .retAddr 0, iV i, .retAddr 0] [] u Q := by
    intro m
    induction m with
    | zero =>
      intro i x Q hi he hx hQ
      refine k_50_5 hO ⟨h0, h1, ⟨by omega, by omega⟩, ⟨by omega, by omega⟩, ?_⟩
      rw [if_neg (by omega)]
      exact hQ
    | succ m ih =>
      intro i x Q hi he hx hQ
      have hs := h4 i hi (by omega)
      refine k_50_5 hO ⟨h0, h1, ⟨by omega, by omega⟩, ⟨by omega, by omega⟩, ?_⟩
      rw [if_pos (by omega)]
      refine ⟨by omega, by omega, ⟨by omega, by omega⟩, ?_⟩
      simp only [rowF, sho] at hQ
      have c1 : cn 9000000000000000000 1 := Or.inr (by omega)
      by_cases hl : u.1 (a + 4) (r * 6 + i) < 100
      · rw [if_pos hl] at hQ ⊢
        exact ⟨hx, c1, ih (i + 1) _ Q (by omega) (by omega) (cn_pl hx c1) hQ⟩
      · rw [if_neg hl] at hQ ⊢
        have c2 := hc (u.1 (a + 4) (r * 6 + i) - 100) (by omega) (by omega)
        exact ⟨by omega, by omega, hx, c2, ih (i + 1) _ Q (by omega) (by omega) (cn_pl hx c2) hQ⟩
  exact e_50 hO (loop _ 0 0 _ (Int.le_refl 0) (by omega) (Or.inr (by omega)) ⟨rfl, rfl⟩)
theorem cn_sho {u : uS} {a : Nat} (hc : ∀ y : Int, 0 ≤ y → y < 10 → cn 9000000000000000000 (u.1 (a + 5) y)) : ∀ (l : List Int) (x : Int), cn 9000000000000000000 x → (∀ s ∈ l, s < 110) → cn 9000000000000000000 (sho u a x l)
  | [], x, hx, _ => hx
  | s :: l, x, hx, hs => by
    have h1 := hs s (List.mem_cons_self)
    refine cn_sho hc l _ (cn_pl hx ?_) (fun q hq => hs q (List.mem_cons_of_mem _ hq))
    split
    · exact Or.inr (by omega)
    · exact hc _ (by omega) (by omega)
