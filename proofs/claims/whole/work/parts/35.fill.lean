/-! Arrays.fill -/
def fil (u : uS) (a : Nat) (lo hi x : Int) : uS := (fun b j => if b = a ∧ lo ≤ j ∧ j < hi then x else u.1 b j, u.2)
theorem fil_1 {u : uS} {a b : Nat} {lo hi x j : Int} : (fil u a lo hi x).1 b j = if b = a ∧ lo ≤ j ∧ j < hi then x else u.1 b j := rfl
theorem fil_2 {u : uS} {a : Nat} {lo hi x : Int} : (fil u a lo hi x).2 = u.2 := rfl
theorem fil_ne {u : uS} {a b : Nat} {lo hi x : Int} (h : b ≠ a) : (fil u a lo hi x).1 b = u.1 b := by
  funext j
  simp [fil, h]
theorem fil_0 {u : uS} {a : Nat} {lo x : Int} : fil u a lo lo x = u := by
  refine Prod.ext ?_ rfl
  funext b j
  simp only [fil]
  rw [if_neg (by omega)]
theorem fil_s {u : uS} {a : Nat} {lo i x : Int} (h : lo ≤ i) : wr (fil u a lo i x) a i x = fil u a lo (i + 1) x := by
  refine Prod.ext ?_ rfl
  funext b j
  simp only [fil, wr]
  by_cases hb : b = a
  · by_cases hj : j = i
    · rw [if_pos ⟨hb, hj⟩, if_pos ⟨hb, by omega, by omega⟩]
    · rw [if_neg (fun q => hj q.2)]
      by_cases hl : lo ≤ j ∧ j < i
      · rw [if_pos ⟨hb, hl⟩, if_pos ⟨hb, by omega, by omega⟩]
      · rw [if_neg (fun q => hl q.2), if_neg (fun q => hl ⟨q.2.1, by omega⟩)]
  · rw [if_neg (fun q => hb q.1), if_neg (fun q => hb q.1), if_neg (fun q => hb q.1)]
theorem sb_fil {u u1 : uS} {ps : List Nat} {a : Nat} {lo hi x : Int} (h : sb u u1 ps) (ha : a ∈ ps) : sb u (fil u1 a lo hi x) ps := ⟨h.1, fun b hb => (fil_ne (fun e : b = _ => hb (by rw [e]; exact ha))).trans (h.2 b hb)⟩
theorem q_30 {d : Nat} {u : uS} {a n : Nat} {x : Int} (hA : isA a 0 n) : cV (d + 1) 30 [.ref a, iV x] u (fun u' => u' = fil u a 0 n x) := by
  have hn : n < 2 ^ 31 := sh_n hA
  refine e_30 hA ?_
  have loop : ∀ (m : Nat) (i : Int) (u1 : uS), 0 ≤ i → i + m = n → u1 = fil u a 0 i x → K_30 d 5 [.ref a, iV x, iV i, iV n] [] u1 (fun u' => u' = fil u a 0 n x) := by
    intro m
    induction m with
    | zero =>
      intro i u1 h0 hi e
      refine k_30_5 hA ⟨⟨by omega, by omega⟩, ⟨by omega, by omega⟩, ?_⟩
      rw [if_neg (by omega)]
      rw [e, show i = (n : Int) by omega]
    | succ m ih =>
      intro i u1 h0 hi e
      refine k_30_5 hA ⟨⟨by omega, by omega⟩, ⟨by omega, by omega⟩, ?_⟩
      rw [if_pos (by omega)]
      refine ⟨h0, by omega, fun u2 e2 => ?_⟩
      exact ih (i + 1) u2 (by omega) (by omega) (by rw [e2, e, fil_s h0])
  exact loop n 0 u (Int.le_refl 0) (by omega) fil_0.symm
theorem q_49 {d : Nat} {u : uS} {a n : Nat} {x : Int} (hA : isA a 1 n) : cV (d + 1) 49 [.ref a, lV x] u (fun u' => u' = fil u a 0 n x) := by
  have hn : n < 2 ^ 31 := sh_n hA
  refine e_49 hA ?_
  have loop : ∀ (m : Nat) (i : Int) (u1 : uS), 0 ≤ i → i + m = n → u1 = fil u a 0 i x → K_49 d 6 [.ref a, lV x, .retAddr 0, iV i, iV n] [] u1 (fun u' => u' = fil u a 0 n x) := by
    intro m
    induction m with
    | zero =>
      intro i u1 h0 hi e
      refine k_49_6 hA ⟨⟨by omega, by omega⟩, ⟨by omega, by omega⟩, ?_⟩
      rw [if_neg (by omega)]
      rw [e, show i = (n : Int) by omega]
    | succ m ih =>
      intro i u1 h0 hi e
      refine k_49_6 hA ⟨⟨by omega, by omega⟩, ⟨by omega, by omega⟩, ?_⟩
      rw [if_pos (by omega)]
      refine ⟨h0, by omega, fun u2 e2 => ?_⟩
      exact ih (i + 1) u2 (by omega) (by omega) (by rw [e2, e, fil_s h0])
  exact loop n 0 u (Int.le_refl 0) (by omega) fil_0.symm
theorem q_83 {d : Nat} {u : uS} {a n : Nat} {lo hi x : Int} (hA : isA a 0 n) (h0 : 0 ≤ lo) (h1 : lo ≤ hi) (h2 : hi ≤ n) : cV (d + 2) 83 [.ref a, iV lo, iV hi, iV x] u (fun u' => u' = fil u a lo hi x) := by
  have hn : n < 2 ^ 31 := sh_n hA
  refine e_83 hA ⟨⟨by omega, by omega⟩, ⟨by omega, by omega⟩, ?_⟩
  rw [if_neg (by omega), if_neg (by omega)]
  refine ⟨⟨by omega, by omega⟩, ?_⟩
  rw [if_neg (by omega)]
  have loop : ∀ (m : Nat) (i : Int) (u1 : uS), lo ≤ i → i + m = hi → u1 = fil u a lo i x → K_83 (d + 1) 10 [.ref a, .retAddr 0, iV hi, iV x, iV i] [] u1 (fun u' => u' = fil u a lo hi x) := by
    intro m
    induction m with
    | zero =>
      intro i u1 hl hq e
      refine k_83_10 hA ⟨⟨by omega, by omega⟩, ⟨by omega, by omega⟩, ?_⟩
      rw [if_neg (by omega)]
      rw [e, show i = hi by omega]
    | succ m ih =>
      intro i u1 hl hq e
      refine k_83_10 hA ⟨⟨by omega, by omega⟩, ⟨by omega, by omega⟩, ?_⟩
      rw [if_pos (by omega)]
      refine ⟨by omega, by omega, fun u2 e2 => ?_⟩
      exact ih (i + 1) u2 (by omega) (by omega) (by rw [e2, e, fil_s hl])
  exact loop (hi - lo).toNat lo u (Int.le_refl lo) (by omega) fil_0.symm
theorem q_145 {d : Nat} {u : uS} {a n : Nat} {lo hi x : Int} (hA : isA a 1 n) (h0 : 0 ≤ lo) (h1 : lo ≤ hi) (h2 : hi ≤ n) : cV (d + 2) 145 [.ref a, iV lo, iV hi, lV x] u (fun u' => u' = fil u a lo hi x) := by
  have hn : n < 2 ^ 31 := sh_n hA
  refine e_145 hA ⟨⟨by omega, by omega⟩, ⟨by omega, by omega⟩, ?_⟩
  rw [if_neg (by omega), if_neg (by omega)]
  refine ⟨⟨by omega, by omega⟩, ?_⟩
  rw [if_neg (by omega)]
  have loop : ∀ (m : Nat) (i : Int) (u1 : uS), lo ≤ i → i + m = hi → u1 = fil u a lo i x → K_145 (d + 1) 10 [.ref a, .retAddr 0, iV hi, lV x, .retAddr 0, iV i] [] u1 (fun u' => u' = fil u a lo hi x) := by
    intro m
    induction m with
    | zero =>
      intro i u1 hl hq e
      refine k_145_10 hA ⟨⟨by omega, by omega⟩, ⟨by omega, by omega⟩, ?_⟩
      rw [if_neg (by omega)]
      rw [e, show i = hi by omega]
    | succ m ih =>
      intro i u1 hl hq e
      refine k_145_10 hA ⟨⟨by omega, by omega⟩, ⟨by omega, by omega⟩, ?_⟩
      rw [if_pos (by omega)]
      refine ⟨by omega, by omega, fun u2 e2 => ?_⟩
      exact ih (i + 1) u2 (by omega) (by omega) (by rw [e2, e, fil_s hl])
  exact loop (hi - lo).toNat lo u (Int.le_refl lo) (by omega) fil_0.symm
