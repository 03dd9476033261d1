/-! Sets closed under steps: closeSets -/
def clo1 (via : Int) : Nat → Int → (Int → Int) → (Int → Int)
  | 0, _, g => g
  | m + 1, i, g => clo1 via m (i + 1) (if bi (g i) via.toNat = true then (fun j => if j = i then ior (g i) (g via) else g j) else g)
def clo2 (n : Nat) : Nat → Int → (Int → Int) → (Int → Int)
  | 0, _, g => g
  | m + 1, v, g => clo2 n m (v + 1) (clo1 v n 0 g)
theorem q_60 {d : Nat} {u : uS} {a N n : Nat} (hA : isA a 0 N) (h1 : n ≤ N) (h2 : n ≤ 32) : cV (d + 2) 60 [.ref a, iV n] u (fun u' => sb u u' [a] ∧ u'.1 a = clo2 n n 0 (u.1 a)) := by
  have inner : ∀ (m : Nat) (v i : Int) (u1 : uS) (Q : uS → Prop), 0 ≤ v → v < n → 0 ≤ i → i + m = n → (∀ u2 : uS, sb u1 u2 [a] → u2.1 a = clo1 v m i (u1.1 a) → K_60 (d + 1) 2 [.ref a, iV n, iV (v + 1), .retAddr 0] [] u2 Q) → K_60 (d + 1) 9 [.ref a, iV n, iV v, iV i] [] u1 Q := by
    intro m
    induction m with
    | zero =>
      intro v i u1 Q hv hvn hi he hQ
      refine k_60_9 hA ⟨⟨by omega, by omega⟩, ⟨by omega, by omega⟩, ?_⟩
      rw [if_neg (by omega)]
      exact hQ u1 (sb_refl u1 _) rfl
    | succ m ih =>
      intro v i u1 Q hv hvn hi he hQ
      refine k_60_9 hA ⟨⟨by omega, by omega⟩, ⟨by omega, by omega⟩, ?_⟩
      rw [if_pos (by omega)]
      refine ⟨hi, by omega, ?_⟩
      rw [bit_i hv (by omega)]
      simp only [clo1] at hQ
      by_cases hb : bi (u1.1 a i) v.toNat = true
      · rw [if_pos hb, if_pos rfl]
        rw [if_pos hb] at hQ
        refine ⟨hv, by omega, fun u2 e2 => ?_⟩
        refine ih v (i + 1) u2 Q hv hvn (by omega) (by omega) (fun u3 s3 e3 => hQ u3 ?_ ?_)
        · rw [e2] at s3
          exact sb_trans (sb_wr (sb_refl u1 _) (by simp)) s3
        · rw [e3, e2]
          congr 1
          funext j
          simp [wr_1]
      · rw [if_neg hb, if_neg (by decide)]
        rw [if_neg hb] at hQ
        exact ih v (i + 1) u1 Q hv hvn (by omega) (by omega) hQ
  have outer : ∀ (m : Nat) (v : Int) (u1 : uS) (Q : uS → Prop), 0 ≤ v → v + m = n → (∀ u2 : uS, sb u1 u2 [a] → u2.1 a = clo2 n m v (u1.1 a) → Q u2) → K_60 (d + 1) 2 [.ref a, iV n, iV v, .retAddr 0] [] u1 Q := by
    intro m
    induction m with
    | zero =>
      intro v u1 Q hv he hQ
      refine k_60_2 hA ⟨⟨by omega, by omega⟩, ⟨by omega, by omega⟩, ?_⟩
      rw [if_neg (by omega)]
      exact hQ u1 (sb_refl u1 _) rfl
    | succ m ih =>
      intro v u1 Q hv he hQ
      refine k_60_2 hA ⟨⟨by omega, by omega⟩, ⟨by omega, by omega⟩, ?_⟩
      rw [if_pos (by omega)]
      refine inner n v 0 u1 Q hv (by omega) (Int.le_refl 0) (by omega) (fun u2 s2 e2 => ?_)
      refine ih (v + 1) u2 Q (by omega) (by omega) (fun u3 s3 e3 => hQ u3 (sb_trans s2 s3) ?_)
      rw [e3, e2]
      rfl
  exact e_60 hA (outer n 0 u _ (Int.le_refl 0) (by omega) (fun u2 s e => ⟨s, e⟩))
