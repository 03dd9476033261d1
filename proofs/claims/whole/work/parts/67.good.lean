/-! The other side's rows of rules; isGood -/
abbrev rowM (u : uS) (r : Int) : List Int := rowF (fun d => u.1 277 (6 * r + d)) (u.1 276 r).toNat 0
def gM (u : uS) (r : Int) : Prop := 0 ≤ r ∧ r < 30 ∧ 0 ≤ u.1 276 r ∧ u.1 276 r ≤ 6 ∧ ∀ d, 0 ≤ d → d < u.1 276 r → 0 ≤ u.1 277 (6 * r + d) ∧ u.1 277 (6 * r + d) < 110
/-- all variables of a row have trees -/
def goo (f : Int → Int) : List Int → Bool
  | [] => true
  | s :: l => (decide (s < 100) || decide (f (s - 100) ≠ 0)) && goo f l
theorem p_216 {d : Nat} {u : uS} {r : Int} (hg : gM u r) (hf : ∀ y : Int, 0 ≤ y → y < 10 → rI (u.1 283 y)) : cI (d + 1) 216 [.ref 271, iV r] u (fun x u' => x = b2 (goo (u.1 283) (rowM u r)) ∧ u' = u) := by
  obtain ⟨h0, h1, h2, h3, h4⟩ := hg
  have loop : ∀ (m : Nat) (i : Int) (g : Bool) (Q : Int → uS → Prop), 0 ≤ i → i + m = u.1 276 r → Q (b2 (g && goo (u.1 283) (rowF (fun d => u.1 277 (6 * r + d)) m i))) u → K_216 d 4 [.ref 271, iV r, iV (b2 g), iV i, .retAddr 0] [] u Q := by
    intro m
    induction m with
    | zero =>
      intro i g Q hi he hQ
      refine k_216_4 ⟨h0, h1, ⟨by omega, by omega⟩, ⟨by omega, by omega⟩, ?_⟩
      rw [if_neg (by omega)]
      simp only [rowF, goo, Bool.and_true] at hQ
      exact ⟨b2_r g, hQ⟩
    | succ m ih =>
      intro i g Q hi he hQ
      have hs := h4 i hi (by omega)
      refine k_216_4 ⟨h0, h1, ⟨by omega, by omega⟩, ⟨by omega, by omega⟩, ?_⟩
      rw [if_pos (by omega)]
      refine ⟨by omega, by omega, ri_b2 g, ?_⟩
      simp only [rowF, goo] at hQ
      cases g with
      | false =>
        rw [if_pos (by decide)]
        refine ih (i + 1) false Q (by omega) (by omega) ?_
        simpa using hQ
      | true =>
        rw [if_neg (by decide)]
        refine ⟨⟨by omega, by omega⟩, ?_⟩
        by_cases hl : u.1 277 (6 * r + i) < 100
        · rw [if_pos hl]
          refine ih (i + 1) true Q (by omega) (by omega) ?_
          simpa [hl] using hQ
        · rw [if_neg hl]
          refine ⟨by omega, by omega, hf _ (by omega) (by omega), ?_⟩
          by_cases hz : u.1 283 (u.1 277 (6 * r + i) - 100) = 0
          · rw [if_pos hz]
            refine ih (i + 1) false Q (by omega) (by omega) ?_
            simpa [hl, hz] using hQ
          · rw [if_neg hz]
            refine ih (i + 1) true Q (by omega) (by omega) ?_
            simpa [hl, hz] using hQ
  refine e_216 (loop (u.1 276 r).toNat 0 true _ (Int.le_refl 0) (by omega) ?_)
  exact ⟨by rw [Bool.true_and], rfl⟩
