/-! apart: both walk through the pairs alike -/
def sb1 (u u' : uS) (ps : List Nat) : Prop := ∀ b, b ∉ ps → u'.1 b = u.1 b
theorem sb1_refl (u : uS) (ps : List Nat) : sb1 u u ps := fun _ _ => rfl
theorem sb1_wr {u u1 : uS} {ps : List Nat} {a : Nat} {i x : Int} (h : sb1 u u1 ps) (ha : a ∈ ps) : sb1 u (wr u1 a i x) ps := fun b hb => (wr_ne (fun e : b = _ => hb (by rw [e]; exact ha))).trans (h b hb)
def uf (f : Int → Int) (k v : Int) : Int → Int := fun j => if j = k then v else f j
theorem uf_eq (f : Int → Int) (k v : Int) : uf f k v k = v := if_pos rfl
theorem uf_ne {f : Int → Int} {k v j : Int} (h : j ≠ k) : uf f k v j = f j := if_neg h
theorem wr_uf (u : uS) (a : Nat) (i x : Int) : (wr u a i x).1 a = uf (u.1 a) i x := by
  funext j
  rw [wr_1]
  simp [uf]
/-- how many are seen -/
def cP (P : Int → Int) : Nat → Nat
  | 0 => 0
  | n + 1 => cP P n + (if P n = -9 then 0 else 1)
theorem cP_le (P : Int → Int) (n : Nat) : cP P n ≤ n := by
  induction n with
  | zero => exact Nat.le_refl 0
  | succ n ih =>
    simp only [cP]
    split <;> omega
theorem cP_ge {P : Int → Int} {t v : Int} : ∀ n : Nat, (n : Int) ≤ t → cP (uf P t v) n = cP P n := by
  intro n
  induction n with
  | zero => intro _; rfl
  | succ n ih =>
    intro h
    simp only [cP]
    rw [ih (by omega), uf_ne (by omega)]
theorem cP_up {P : Int → Int} {t v : Int} (h0 : P t = -9) (hv : v ≠ -9) (ht : 0 ≤ t) : ∀ n : Nat, t < n → cP (uf P t v) n = cP P n + 1 := by
  intro n
  induction n with
  | zero => intro h; omega
  | succ n ih =>
    intro h
    simp only [cP]
    by_cases e : (n : Int) = t
    · rw [cP_ge n (by omega), e, uf_eq, if_neg hv, if_pos h0]
    · rw [ih (by omega), uf_ne e]
      omega
/-- the walk: queue, where each came from, by which letter, how deep -/
abbrev aA := List Int × (Int → Int) × (Int → Int) × (Int → Nat)
def tgt (f g : Int → Int → Int) (p c : Int) : Int := f (p.tdiv 40) c * 40 + g (p.tmod 40) c
def aw1 (f g : Int → Int → Int) (p c : Int) (a : aA) : aA := if a.2.1 (tgt f g p c) = -9 then (a.1 ++ [tgt f g p c], uf a.2.1 (tgt f g p c) p, uf a.2.2.1 (tgt f g p c) c, fun t => if t = tgt f g p c then a.2.2.2 p + 1 else a.2.2.2 t) else a
def awN (f g : Int → Int → Int) (p : Int) (a : aA) : Nat → aA
  | 0 => a
  | n + 1 => aw1 f g p n (awN f g p a n)
def aS (f g : Int → Int → Int) : Nat → aA
  | 0 => ([0], uf (fun _ => -9) 0 (-1), fun _ => 0, fun _ => 0)
  | i + 1 => match (aS f g i).1[i]? with
    | some p => awN f g p (aS f g i) 10
    | none => aS f g i
def inP (n0 n1 : Nat) (p : Int) : Prop := 0 ≤ p ∧ p < 1600 ∧ 0 ≤ p.tdiv 40 ∧ p.tdiv 40 < n0 ∧ 0 ≤ p.tmod 40 ∧ p.tmod 40 < n1
theorem inP_mk {n0 n1 : Nat} {a b : Int} (h0 : n0 ≤ 40) (h1 : n1 ≤ 40) (ha : 0 ≤ a) (ha2 : a < n0) (hb : 0 ≤ b) (hb2 : b < n1) : inP n0 n1 (a * 40 + b) := by
  have e1 : (a * 40 + b).tdiv 40 = a := by rw [Int.tdiv_eq_ediv_of_nonneg (by omega)]; omega
  have e2 : (a * 40 + b).tmod 40 = b := by rw [Int.tmod_eq_emod_of_nonneg (by omega)]; omega
  exact ⟨by omega, by omega, by rw [e1]; exact ha, by rw [e1]; exact ha2, by rw [e2]; exact hb, by rw [e2]; exact hb2⟩
def okT (n0 n1 : Nat) (f g : Int → Int → Int) : Prop := ∀ p c, inP n0 n1 p → 0 ≤ c → c < 10 → inP n0 n1 (tgt f g p c)
def jA (n0 n1 : Nat) (a : aA) : Prop := (∀ k t, a.1[k]? = some t → inP n0 n1 t ∧ a.2.1 t ≠ -9 ∧ a.2.2.2 t ≤ k) ∧ a.1.length = cP a.2.1 1600 ∧ (∀ t, 0 ≤ t → t < 1600 → a.2.1 t ≠ -9 → (t = 0 ∧ a.2.1 t = -1 ∧ a.2.2.2 t = 0) ∨ (t ≠ 0 ∧ 0 ≤ a.2.1 t ∧ a.2.1 t < 1600 ∧ a.2.1 (a.2.1 t) ≠ -9 ∧ a.2.2.2 t = a.2.2.2 (a.2.1 t) + 1 ∧ 0 ≤ a.2.2.1 t ∧ a.2.2.1 t ≤ 9)) ∧ a.2.1 0 ≠ -9
theorem jA_len {n0 n1 : Nat} {a : aA} (h : jA n0 n1 a) : a.1.length ≤ 1600 := by
  rw [h.2.1]
  exact cP_le _ _
theorem aw1_some {f g : Int → Int → Int} {p c : Int} {a : aA} {k : Nat} {t : Int} (h : a.1[k]? = some t) : (aw1 f g p c a).1[k]? = some t := by
  unfold aw1
  split
  · show (a.1 ++ [tgt f g p c])[k]? = some t
    rw [List.getElem?_append_left (List.getElem?_eq_some_iff.mp h).1]
    exact h
  · exact h
theorem jA_aw1 {n0 n1 : Nat} {f g : Int → Int → Int} {p c : Int} {a : aA} {i : Nat} (hT : okT n0 n1 f g) (hJ : jA n0 n1 a) (hp : a.1[i]? = some p) (h0 : 0 ≤ c) (h1 : c < 10) : jA n0 n1 (aw1 f g p c a) := by
  obtain ⟨j1, j2, j3, j4⟩ := hJ
  obtain ⟨hP, hp9, hpd⟩ := j1 i p hp
  have hi := (List.getElem?_eq_some_iff.mp hp).1
  have hI := hT p c hP h0 h1
  unfold aw1
  split
  · next h9 =>
    generalize tgt f g p c = t at hI h9
    obtain ⟨Q, P, E, D⟩ := a
    dsimp only at j1 j2 j3 j4 hp9 hpd hi h9 ⊢
    have ht0 : t ≠ 0 := fun e => j4 (by rw [← e]; exact h9)
    have hpt : p ≠ t := fun e => hp9 (by rw [e]; exact h9)
    have hp9' : p ≠ -9 := by have := hP.1; omega
    refine ⟨fun k t' hk => ?_, ?_, fun t' a1 a2 a3 => ?_, ?_⟩
    · dsimp only at hk ⊢
      by_cases hl : k < Q.length
      · rw [List.getElem?_append_left hl] at hk
        obtain ⟨b1, b2, b3⟩ := j1 k t' hk
        have hne : t' ≠ t := fun e => b2 (by rw [e]; exact h9)
        rw [uf_ne hne, if_neg hne]
        exact ⟨b1, b2, b3⟩
      · rw [List.getElem?_append_right (by omega)] at hk
        have hz : k - Q.length < 1 := (List.getElem?_eq_some_iff.mp hk).1
        rw [show k - Q.length = 0 by omega] at hk
        have e : t = t' := Option.some.inj hk
        rw [← e, uf_eq, if_pos rfl]
        exact ⟨hI, hp9', by omega⟩
    · dsimp only
      rw [List.length_append, cP_up h9 hp9' hI.1 1600 hI.2.1, j2]
      rfl
    · dsimp only at a3 ⊢
      by_cases e : t' = t
      · rw [e, uf_eq, uf_eq, if_pos rfl, uf_ne hpt, if_neg hpt]
        exact Or.inr ⟨ht0, hP.1, hP.2.1, hp9, rfl, h0, by omega⟩
      · rw [uf_ne e] at a3
        rw [uf_ne e, uf_ne e, if_neg e]
        rcases j3 t' a1 a2 a3 with q | ⟨q1, q2, q3, q4, q5, q6, q7⟩
        · exact Or.inl q
        · have hne : P t' ≠ t := fun e => q4 (by rw [e]; exact h9)
          rw [uf_ne hne, if_neg hne]
          exact Or.inr ⟨q1, q2, q3, q4, q5, q6, q7⟩
    · dsimp only
      rw [uf_ne (fun e => ht0 e.symm)]
      exact j4
  · exact ⟨j1, j2, j3, j4⟩
theorem jA_awN {n0 n1 : Nat} {f g : Int → Int → Int} {p : Int} {a : aA} {i : Nat} (hT : okT n0 n1 f g) (hJ : jA n0 n1 a) (hp : a.1[i]? = some p) : ∀ n : Nat, n ≤ 10 → jA n0 n1 (awN f g p a n) ∧ (awN f g p a n).1[i]? = some p := by
  intro n
  induction n with
  | zero => intro _; exact ⟨hJ, hp⟩
  | succ n ih =>
    intro hn
    obtain ⟨g1, g2⟩ := ih (by omega)
    exact ⟨jA_aw1 hT g1 g2 (by omega) (by omega), aw1_some g2⟩
theorem aS_some {f g : Int → Int → Int} {i : Nat} {p : Int} (h : (aS f g i).1[i]? = some p) : aS f g (i + 1) = awN f g p (aS f g i) 10 := by
  show (match (aS f g i).1[i]? with
    | some p => awN f g p (aS f g i) 10
    | none => aS f g i) = _
  rw [h]
theorem aS_none {f g : Int → Int → Int} {i : Nat} (h : (aS f g i).1[i]? = none) : aS f g (i + 1) = aS f g i := by
  show (match (aS f g i).1[i]? with
    | some p => awN f g p (aS f g i) 10
    | none => aS f g i) = _
  rw [h]
theorem jA_0 {n0 n1 : Nat} (h0 : 1 ≤ n0) (h1 : 1 ≤ n1) {f g : Int → Int → Int} : jA n0 n1 (aS f g 0) := by
  have hc : ∀ n : Nat, 1 ≤ n → cP (uf (fun _ => -9) 0 (-1)) n = 1 := by
    intro n hn
    rw [cP_up (t := 0) rfl (by decide) (Int.le_refl 0) n (by omega)]
    have : ∀ k : Nat, cP (fun _ => -9) k = 0 := by
      intro k
      induction k with
      | zero => rfl
      | succ k ih => simp only [cP, ih]; rfl
    rw [this]
  refine ⟨fun k t hk => ?_, ?_, fun t a1 a2 a3 => ?_, ?_⟩
  · have hz : k < 1 := (List.getElem?_eq_some_iff.mp hk).1
    have hz : k = 0 := by omega
    subst hz
    have e : (0 : Int) = t := Option.some.inj hk
    rw [← e]
    refine ⟨⟨by omega, by omega, by decide, ?_, by decide, ?_⟩, ?_, Nat.le_refl 0⟩
    · show (0 : Int) < n0
      omega
    · show (0 : Int) < n1
      omega
    · show uf (fun _ => -9) 0 (-1) 0 ≠ -9
      rw [uf_eq]
      decide
  · show 1 = cP (uf (fun _ => -9) 0 (-1)) 1600
    rw [hc 1600 (by decide)]
  · have a3 : uf (fun _ => -9) 0 (-1) t ≠ -9 := a3
    by_cases e : t = 0
    · refine Or.inl ⟨e, ?_, rfl⟩
      show uf (fun _ => -9) 0 (-1) t = -1
      rw [e, uf_eq]
    · rw [uf_ne e] at a3
      exact absurd rfl a3
  · show uf (fun _ => -9) 0 (-1) 0 ≠ -9
    rw [uf_eq]
    decide
theorem jA_S {n0 n1 : Nat} (h0 : 1 ≤ n0) (h1 : 1 ≤ n1) {f g : Int → Int → Int} (hT : okT n0 n1 f g) : ∀ i : Nat, jA n0 n1 (aS f g i) := by
  intro i
  induction i with
  | zero => exact jA_0 h0 h1
  | succ i ih =>
    cases h : (aS f g i).1[i]? with
    | none => rw [aS_none h]; exact ih
    | some p => rw [aS_some h]; exact (jA_awN hT ih h 10 (Nat.le_refl 10)).1
/-- what is wanted of a pair -/
def W2 (w x y : Int) : Int := if w = 0 then (if x = 0 then 0 else (if y = 0 then 1 else 0)) else (if w = 1 then (if y = 0 then 0 else (if x = 0 then 1 else 0)) else (if w = 2 then (if x = 0 then 0 else (if y = 0 then 0 else 1)) else (if x = 0 then (if y = 0 then 1 else 0) else 0)))
/-- the walk's end: the i-th pair is wanted, or there is none -/
def aE (f g : Int → Int → Int) (wn : Int → Int) (i : Nat) : Prop := (∀ j, j < i → ∃ p, (aS f g j).1[j]? = some p ∧ wn p = 0) ∧ (∀ p, (aS f g i).1[i]? = some p → wn p ≠ 0)
theorem aE_eq {f g : Int → Int → Int} {wn : Int → Int} {i j : Nat} (h : aE f g wn i) (h2 : aE f g wn j) : j = i := by
  rcases Nat.lt_trichotomy i j with q | q | q
  · obtain ⟨p, a1, a2⟩ := h2.1 i q
    exact absurd a2 (h.2 p a1)
  · exact q.symm
  · obtain ⟨p, a1, a2⟩ := h.1 j q
    exact absurd a2 (h2.2 p a1)
/-- the word of a way back -/
def wlF (P E : Int → Int) : Nat → Int → (Int → Int) → (Int → Int)
  | 0, _, f => f
  | n + 1, t, f => wlF P E n (P t) (uf f n (E t))
theorem wlF_ge {P E : Int → Int} : ∀ (n : Nat) (t : Int) (f : Int → Int) (i : Int), (n : Int) ≤ i → wlF P E n t f i = f i := by
  intro n
  induction n with
  | zero => intro t f i _; rfl
  | succ n ih =>
    intro t f i h
    show wlF P E n (P t) (uf f n (E t)) i = f i
    rw [ih _ _ _ (by omega), uf_ne (by omega)]
theorem wlF_lt {P E : Int → Int} : ∀ (n : Nat) (t : Int) (f f' : Int → Int) (i : Int), 0 ≤ i → i < n → wlF P E n t f i = wlF P E n t f' i := by
  intro n
  induction n with
  | zero => intro t f f' i _ h; omega
  | succ n ih =>
    intro t f f' i h0 h
    show wlF P E n (P t) (uf f n (E t)) i = wlF P E n (P t) (uf f' n (E t)) i
    by_cases e : i = n
    · rw [wlF_ge _ _ _ _ (by omega), wlF_ge _ _ _ _ (by omega), e, uf_eq, uf_eq]
    · exact ih _ _ _ _ h0 (by omega)
theorem wlF_r {n0 n1 : Nat} {a : aA} (hJ : jA n0 n1 a) : ∀ (n : Nat) (t : Int) (f : Int → Int) (i : Int), 0 ≤ t → t < 1600 → a.2.1 t ≠ -9 → a.2.2.2 t = n → 0 ≤ i → i < n → 0 ≤ wlF a.2.1 a.2.2.1 n t f i ∧ wlF a.2.1 a.2.2.1 n t f i ≤ 9 := by
  intro n
  induction n with
  | zero => intro t f i _ _ _ _ _ h; omega
  | succ n ih =>
    intro t f i h0 h1 h9 hd hi0 hi
    rcases hJ.2.2.1 t h0 h1 h9 with ⟨-, -, q⟩ | ⟨q1, q2, q3, q4, q5, q6, q7⟩
    · omega
    · show 0 ≤ wlF a.2.1 a.2.2.1 n (a.2.1 t) (uf f n (a.2.2.1 t)) i ∧ wlF a.2.1 a.2.2.1 n (a.2.1 t) (uf f n (a.2.2.1 t)) i ≤ 9
      by_cases e : i = n
      · rw [wlF_ge _ _ _ _ (by omega), e, uf_eq]
        exact ⟨q6, q7⟩
      · exact ih _ _ _ q2 q3 q4 (by omega) hi0 (by omega)
