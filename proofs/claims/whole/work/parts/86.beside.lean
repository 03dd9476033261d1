/-! The other side: letters beside a symbol; ways of steps -/
theorem rowF_get (f : Int → Int) : ∀ (m : Nat) (i : Int) (k : Nat), (rowF f m i)[k]? = if k < m then some (f (i + k)) else none
  | 0, _, k => by simp [rowF]
  | m + 1, i, 0 => by simp [rowF]
  | m + 1, i, k + 1 => by
    have ih := rowF_get f m (i + 1) k
    simp only [rowF, List.getElem?_cons_succ]
    rw [ih]
    by_cases h : k < m
    · rw [if_pos h, if_pos (by omega), show i + 1 + (k : Int) = i + ((k + 1 : Nat) : Int) by omega]
    · rw [if_neg h, if_neg (by omega)]
def bsP (l : List Int) (lt : Int → Prop) (k : Nat) : Prop := ∃ (k' : Nat) (s' : Int), k' ≠ k ∧ l[k']? = some s' ∧ (s' < 100 ∨ lt (s' - 100))
theorem p_219 {d : Nat} {u : uS} {r : Int} {k : Nat} (hg : gM u r) (hs : ∀ s ∈ rowM u r, symR 10 s) (hk : k < 6) (hL : ∀ y : Int, 0 ≤ y → y < 10 → rI (u.1 286 y)) : cI (d + 1) 219 [.ref 271, iV r, iV k] u (fun x u' => (x = 0 ∨ x = 1) ∧ (x ≠ 0 ↔ bsP (rowM u r) (fun y => u.1 286 y ≠ 0) k) ∧ u' = u) := by
  obtain ⟨g0, g1, g2, g3, g4⟩ := hg
  have hget : ∀ j : Nat, (rowM u r)[j]? = if j < (u.1 276 r).toNat then some (u.1 277 (6 * r + j)) else none := fun j => by
    have := rowF_get (fun d => u.1 277 (6 * r + d)) (u.1 276 r).toNat 0 j
    rw [show (0 : Int) + (j : Int) = j by omega] at this
    exact this
  have loop : ∀ (m i : Nat) (x : Int), (i : Int) + m = u.1 276 r → (x = 0 ∨ x = 1) → (x ≠ 0 ↔ ∃ (k' : Nat) (s' : Int), k' < i ∧ k' ≠ k ∧ (rowM u r)[k']? = some s' ∧ (s' < 100 ∨ u.1 286 (s' - 100) ≠ 0)) → K_219 d 5 [.ref 271, iV r, iV k, iV x, iV i, .retAddr 0] [] u (fun x u' => (x = 0 ∨ x = 1) ∧ (x ≠ 0 ↔ bsP (rowM u r) (fun y => u.1 286 y ≠ 0) k) ∧ u' = u) := by
    intro m
    induction m with
    | zero =>
      intro i x he hx hi
      refine k_219_5 ⟨g0, g1, ⟨by omega, by omega⟩, ⟨by omega, by omega⟩, ?_⟩
      rw [if_neg (by omega)]
      refine ⟨hx, hx, ?_, rfl⟩
      rw [hi]
      constructor
      · rintro ⟨k', s', h1, h2, h3, h4⟩; exact ⟨k', s', h2, h3, h4⟩
      · rintro ⟨k', s', h2, h3, h4⟩
        refine ⟨k', s', ?_, h2, h3, h4⟩
        rw [hget] at h3
        split at h3
        · omega
        · cases h3
    | succ m ih =>
      intro i x he hx hi
      have hgi : (rowM u r)[i]? = some (u.1 277 (6 * r + i)) := by rw [hget, if_pos (by omega)]
      have hsy := hs _ (List.mem_of_getElem? hgi)
      unfold symR at hsy
      have step : ∀ x' : Int, (x' = 0 ∨ x' = 1) → (x' ≠ 0 ↔ x ≠ 0 ∨ (i ≠ k ∧ (u.1 277 (6 * r + i) < 100 ∨ u.1 286 (u.1 277 (6 * r + i) - 100) ≠ 0))) → K_219 d 5 [.ref 271, iV r, iV k, iV x', iV ((i : Int) + 1), .retAddr 0] [] u (fun x u' => (x = 0 ∨ x = 1) ∧ (x ≠ 0 ↔ bsP (rowM u r) (fun y => u.1 286 y ≠ 0) k) ∧ u' = u) := by
        intro x' hx' hi'
        refine ih (i + 1) x' (by omega) hx' ?_
        rw [hi', hi]
        constructor
        · rintro (⟨k', s', h1, h2⟩ | ⟨h1, h2⟩)
          · exact ⟨k', s', by omega, h2⟩
          · exact ⟨i, _, by omega, h1, hgi, h2⟩
        · rintro ⟨k', s', h1, h2, h3, h4⟩
          by_cases e : k' = i
          · rw [e, hgi] at h3
            have e2 := Option.some.inj h3
            rw [← e2] at h4
            rw [e] at h2
            exact Or.inr ⟨h2, h4⟩
          · exact Or.inl ⟨k', s', by omega, h2, h3, h4⟩
      refine k_219_5 ⟨g0, g1, ⟨by omega, by omega⟩, ⟨by omega, by omega⟩, ?_⟩
      rw [if_pos (by omega)]
      have hxr : rI x := by rcases hx with q | q <;> rw [q] <;> decide
      refine ⟨by omega, by omega, hxr, ?_⟩
      by_cases h0 : x = 0
      · rw [if_pos h0]
        refine ⟨⟨by omega, by omega⟩, ?_⟩
        by_cases hik : (i : Int) = k
        · rw [if_pos hik]
          refine step 0 (Or.inl rfl) ⟨fun q => absurd rfl q, fun q => ?_⟩
          rcases q with q | q
          · exact absurd h0 q
          · omega
        · rw [if_neg hik]
          refine ⟨⟨by omega, by omega⟩, ?_⟩
          by_cases hl : u.1 277 (6 * r + i) < 100
          · rw [if_pos hl]
            exact step 1 (Or.inr rfl) ⟨fun _ => Or.inr ⟨by omega, Or.inl hl⟩, fun _ => by decide⟩
          · rw [if_neg hl]
            refine ⟨by omega, by omega, hL _ (by omega) (by omega), ?_⟩
            by_cases hz : u.1 286 (u.1 277 (6 * r + i) - 100) = 0
            · rw [if_pos hz]
              refine step 0 (Or.inl rfl) ⟨fun q => absurd rfl q, fun q => ?_⟩
              rcases q with q | ⟨-, q | q⟩
              · exact absurd h0 q
              · exact absurd q hl
              · exact absurd hz q
            · rw [if_neg hz]
              exact step 1 (Or.inr rfl) ⟨fun _ => Or.inr ⟨by omega, Or.inr hz⟩, fun _ => by decide⟩
      · rw [if_neg h0]
        exact step 1 (Or.inr rfl) ⟨fun _ => Or.inl h0, fun _ => by decide⟩
  refine e_219 (loop (u.1 276 r).toNat 0 0 (by omega) (Or.inl rfl) ⟨fun q => absurd rfl q, fun q => ?_⟩)
  obtain ⟨k', s', h1, -⟩ := q
  omega
/-- the arrays of ways -/
def sF (u : uS) (A G N : Int → Int) : uS := (fun b j => if b = 290 then A j else if b = 291 then G j else if b = 287 then N j else u.1 b j, u.2)
section SF
variable {u : uS} {A G N : Int → Int}
theorem sF_A : (sF u A G N).1 290 = A := by funext j; simp [sF]
theorem sF_G : (sF u A G N).1 291 = G := by funext j; simp [sF]
theorem sF_N : (sF u A G N).1 287 = N := by funext j; simp [sF]
theorem sF_o {b : Nat} (h1 : b ≠ 290) (h2 : b ≠ 291) (h3 : b ≠ 287) : (sF u A G N).1 b = u.1 b := by funext j; simp [sF, h1, h2, h3]
theorem sF_wA {x v : Int} : wr (sF u A G N) 290 x v = sF u (uf A x v) G N := by
  refine Prod.ext ?_ rfl
  funext b j
  simp only [wr, sF, uf]
  by_cases h1 : b = 290
  · simp [h1]
  · simp [h1]
theorem sF_wG {x v : Int} : wr (sF u A G N) 291 x v = sF u A (uf G x v) N := by
  refine Prod.ext ?_ rfl
  funext b j
  simp only [wr, sF, uf]
  by_cases h1 : b = 291
  · simp [h1]
  · simp [h1]
theorem sF_wN {x v : Int} : wr (sF u A G N) 287 x v = sF u A G (uf N x v) := by
  refine Prod.ext ?_ rfl
  funext b j
  simp only [wr, sF, uf]
  by_cases h1 : b = 287
  · simp [h1]
  · simp [h1]
theorem sF_id : sF u (u.1 290) (u.1 291) (u.1 287) = u := by
  refine Prod.ext ?_ rfl
  funext b j
  simp only [sF]
  split
  · next h => rw [h]
  · split
    · next h => rw [h]
    · split
      · next h => rw [h]
      · rfl
theorem rowM_sF {r : Int} : rowM (sF u A G N) r = rowM u r := by
  unfold rowM
  rw [sF_o (b := 277) (by decide) (by decide) (by decide), sF_o (b := 276) (by decide) (by decide) (by decide)]
theorem gM_sF {r : Int} (h : gM u r) : gM (sF u A G N) r := by
  unfold gM at h ⊢
  rw [sF_o (b := 277) (by decide) (by decide) (by decide), sF_o (b := 276) (by decide) (by decide) (by decide)]
  exact h
end SF
def bH (A : Int → Int) : Prop := ∀ j : Int, 0 ≤ j → j < 100 → A j = 0 ∨ A j = 1
theorem bH_uf {A : Int → Int} {x v : Int} (h : bH A) (hv : v = 0 ∨ v = 1) : bH (uf A x v) := fun y a b => by
  by_cases e : y = x
  · rw [e, uf_eq]; exact hv
  · rw [uf_ne e]; exact h y a b
theorem bH_r {A : Int → Int} {j : Int} (h : bH A) (h0 : 0 ≤ j) (h1 : j < 100) : rI (A j) := by
  rcases h j h0 h1 with q | q <;> exact ⟨by omega, by omega⟩
/-- entries of a square of ten -/
theorem sq_eq {x y x' y' : Int} (hx : iR 10 x) (hy : iR 10 y) (hx' : iR 10 x') (hy' : iR 10 y') : 10 * x' + y' = 10 * x + y ↔ x' = x ∧ y' = y := by
  obtain ⟨a1, a2⟩ := hx
  obtain ⟨b1, b2⟩ := hy
  obtain ⟨c1, c2⟩ := hx'
  obtain ⟨d1, d2⟩ := hy'
  constructor
  · intro h; omega
  · rintro ⟨h1, h2⟩; omega
theorem uf_sq {A : Int → Int} {x y x' y' v : Int} (hx : iR 10 x) (hy : iR 10 y) (hx' : iR 10 x') (hy' : iR 10 y') : uf A (10 * x + y) v (10 * x' + y') = if x' = x ∧ y' = y then v else A (10 * x' + y') := by
  by_cases h : x' = x ∧ y' = y
  · rw [if_pos h, h.1, h.2, uf_eq]
  · rw [if_neg h, uf_ne (fun q => h ((sq_eq hx hy hx' hy').mp q))]
