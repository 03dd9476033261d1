/-! One side reads a grammar: variables without a part, numbers for names, the whole -/
def noN (s : rS) (c : Int) : Prop := ∀ x, 0 ≤ x → x < s 0 2 → s 1 x ≠ c
/-- a symbol that is a variable without a part -/
def ud (s : rS) (r d : Int) : Prop := oc s r d ∧ 100 ≤ s 4 (6 * r + d) ∧ noN s (s 4 (6 * r + d) - 35)
def udf (s : rS) (p : Int) : Prop := (∃ r d, ud s r d ∧ s 5 (6 * r + d) = p) ∧ ∀ r d, ud s r d → p ≤ s 5 (6 * r + d)
theorem udf_eq {s : rS} {p q : Int} (h : udf s p) (h' : udf s q) : q = p := by
  obtain ⟨⟨r, d, a1, a2⟩, a3⟩ := h
  obtain ⟨⟨r', d', b1, b2⟩, b3⟩ := h'
  have := a3 r' d' b1
  have := b3 r d a1
  omega
theorem q_40 {d : Nat} {u0 u : uS} {s : rS} {j : Int} (hJ : JS s j) (j3 : j ≤ 300) (R : Rk u0 u s) : cI (d + 1) 40 [.ref 24] u (fun x u' => u' = u ∧ ((x = -1 ∧ ∀ r d, ¬ ud s r d) ∨ (0 ≤ x ∧ x < j ∧ udf s x))) := by
  obtain ⟨r1, r2, r3, r4, r5, r6, r7, r8, r9, r10⟩ := id R
  obtain ⟨a1, a2, a3, a4, a5, a6, a7, a8, a9, a10, a11⟩ := id hJ
  have hsy : ∀ r d, oc s r d → syC (s 4 (6 * r + d)) ∧ 0 ≤ s 5 (6 * r + d) ∧ s 5 (6 * r + d) < j := fun r d h => (a10 r h.1 h.2.1).2.2.2.2 d h.2.2.1 h.2.2.2
  have loop : ∀ (m : Nat) (k l : Int), 0 ≤ k → k + m = 26 → ((l = -1 ∧ ∀ r d, ud s r d → ¬ s 4 (6 * r + d) - 100 < k) ∨ (0 ≤ l ∧ l < j ∧ (∃ r d, ud s r d ∧ s 4 (6 * r + d) - 100 < k ∧ s 5 (6 * r + d) = l) ∧ ∀ r d, ud s r d → s 4 (6 * r + d) - 100 < k → l ≤ s 5 (6 * r + d))) → K_40 d 4 [.ref 24, iV l, iV k, .retAddr 0] [] u (fun x u' => u' = u ∧ ((x = -1 ∧ ∀ r d, ¬ ud s r d) ∨ (0 ≤ x ∧ x < j ∧ udf s x))) := by
    intro m
    induction m with
    | zero =>
      intro k l hk he hl
      refine k_40_4 ⟨⟨by omega, by omega⟩, ?_⟩
      rw [if_neg (by omega)]
      have hall : ∀ r d, ud s r d → s 4 (6 * r + d) - 100 < k := fun r d h => by
        have := (hsy r d h.1).1
        have := h.2.1
        unfold syC at *
        omega
      refine ⟨rfl, ?_⟩
      rcases hl with ⟨q1, q2⟩ | ⟨q1, q2, ⟨r, d, q3, q4, q5⟩, q6⟩
      · exact Or.inl ⟨q1, fun r d h => q2 r d h (hall r d h)⟩
      · exact Or.inr ⟨q1, q2, ⟨r, d, q3, q5⟩, fun r d h => q6 r d h (hall r d h)⟩
    | succ m ih =>
      intro k l hk he hl
      have hlr : rI l := by rcases hl with q | q <;> exact ⟨by omega, by omega⟩
      have hu := r10 k hk (by omega)
      have hn := r9 k hk (by omega)
      have hur : rI (u.1 26 k) := by
        rcases hu with q | ⟨q1, ⟨r, d, q2, q3, q4⟩, -⟩
        · exact ⟨by omega, by omega⟩
        · have := hsy r d q2
          exact ⟨by omega, by omega⟩
      -- nothing new of this name
      have skip : (∀ r d, ud s r d → s 4 (6 * r + d) - 100 ≠ k) → K_40 d 4 [.ref 24, iV l, iV (k + 1), .retAddr 0] [] u (fun x u' => u' = u ∧ ((x = -1 ∧ ∀ r d, ¬ ud s r d) ∨ (0 ≤ x ∧ x < j ∧ udf s x))) := by
        intro hno
        refine ih (k + 1) l (by omega) (by omega) ?_
        rcases hl with ⟨q1, q2⟩ | ⟨q1, q2, ⟨r, d, q3, q4, q5⟩, q6⟩
        · refine Or.inl ⟨q1, fun r d h hlt => ?_⟩
          have := hno r d h
          exact q2 r d h (by omega)
        · refine Or.inr ⟨q1, q2, ⟨r, d, q3, by omega, q5⟩, fun r d h hlt => ?_⟩
          have := hno r d h
          exact q6 r d h (by omega)
      refine k_40_4 ⟨⟨by omega, by omega⟩, ?_⟩
      rw [if_pos (by omega)]
      refine ⟨hk, hur, ?_⟩
      by_cases c1 : u.1 26 k = -1
      · rw [if_pos c1]
        refine skip (fun r d h q => ?_)
        rcases hu with z | z
        · exact z.2 r d h.1 (by omega)
        · omega
      rw [if_neg c1]
      have hnr : rI (u.1 25 k) := by rcases hn with q | q <;> exact ⟨by omega, by omega⟩
      refine ⟨hnr, ?_⟩
      obtain ⟨u1, ⟨r', d', u2, u3, u4⟩, u5⟩ : 0 ≤ u.1 26 k ∧ (∃ r d, oc s r d ∧ s 4 (6 * r + d) = 100 + k ∧ s 5 (6 * r + d) = u.1 26 k) ∧ ∀ r d, oc s r d → s 4 (6 * r + d) = 100 + k → u.1 26 k ≤ s 5 (6 * r + d) := by
        rcases hu with z | z
        · exact absurd z.1 c1
        · exact z
      by_cases c2 : u.1 25 k = -1
      · rw [if_pos c2]
        have hno : noN s (65 + k) := by
          rcases hn with q | q
          · exact q.2
          · omega
        have hud : ud s r' d' := ⟨u2, by omega, by rw [u3, show 100 + k - 35 = 65 + k by omega]; exact hno⟩
        have hpl := (hsy r' d' u2).2
        have hk5 : ∀ r d, ud s r d → s 4 (6 * r + d) - 100 = k → u.1 26 k ≤ s 5 (6 * r + d) := fun r d h q => u5 r d h.1 (by omega)
        have take : (l = -1 ∨ u.1 26 k < l) → K_40 d 4 [.ref 24, iV (u.1 26 k), iV (k + 1), .retAddr 0] [] u (fun x u' => u' = u ∧ ((x = -1 ∧ ∀ r d, ¬ ud s r d) ∨ (0 ≤ x ∧ x < j ∧ udf s x))) := by
          intro hle
          refine ih (k + 1) _ (by omega) (by omega) (Or.inr ⟨u1, by omega, ⟨r', d', hud, by omega, u4⟩, fun r d h hlt => ?_⟩)
          by_cases e : s 4 (6 * r + d) - 100 = k
          · exact hk5 r d h e
          · rcases hl with ⟨q1, q2⟩ | ⟨q1, q2, -, q6⟩
            · exact absurd (by omega) (q2 r d h)
            · have := q6 r d h (by omega)
              omega
        refine ⟨hlr, ?_⟩
        by_cases c3 : l = -1
        · rw [if_pos c3]
          exact take (Or.inl c3)
        · rw [if_neg c3]
          by_cases c4 : u.1 26 k < l
          · rw [if_pos c4]
            exact take (Or.inr c4)
          · rw [if_neg c4]
            refine ih (k + 1) l (by omega) (by omega) ?_
            rcases hl with ⟨q1, q2⟩ | ⟨q1, q2, ⟨r, d, q3, q4, q5⟩, q6⟩
            · exact absurd q1 c3
            · refine Or.inr ⟨q1, q2, ⟨r, d, q3, by omega, q5⟩, fun r d h hlt => ?_⟩
              by_cases e : s 4 (6 * r + d) - 100 = k
              · have := hk5 r d h e
                omega
              · exact q6 r d h (by omega)
      · rw [if_neg c2]
        refine skip (fun r d h q => ?_)
        rcases hn with z | z
        · exact c2 z.1
        · exact h.2.2 (u.1 25 k) z.1 z.2.1 (by omega)
  exact e_40 (loop 26 0 (-1) (Int.le_refl 0) (by omega) (Or.inl ⟨rfl, fun r d h => by have := h.2.1; omega⟩))
/-- what a symbol becomes -/
def fnS (s : rS) (x y : Int) : Prop := (x < 100 ∧ y = x) ∨ (100 ≤ x ∧ ∃ z, 0 ≤ z ∧ z < s 0 2 ∧ s 1 z = x - 35 ∧ y = 100 + z)
theorem fnS_eq {s : rS} {j x y y' : Int} (hJ : JS s j) (h : fnS s x y) (h' : fnS s x y') : y' = y := by
  rcases h with ⟨a1, a2⟩ | ⟨a1, z, a2, a3, a4, a5⟩
  · rcases h' with ⟨b1, b2⟩ | ⟨b1, -⟩ <;> omega
  · rcases h' with ⟨b1, b2⟩ | ⟨b1, z', b2, b3, b4, b5⟩
    · omega
    · have := hJ.2.2.2.2.2.2.2.2.1 z z' a2 a3 b2 b3 (by omega)
      omega
def GC (u : uS) (s : rS) : Prop := u.1 15 0 = s 0 2 ∧ u.1 15 1 = s 0 3 ∧ (∀ x, 0 ≤ x → x < s 0 2 → u.1 16 x = s 1 x) ∧ (∀ r, 0 ≤ r → r < s 0 3 → u.1 17 r = s 2 r ∧ u.1 18 r = s 3 r ∧ ∀ d, 0 ≤ d → d < s 3 r → fnS s (s 4 (6 * r + d)) (u.1 19 (r * 6 + d)))
theorem q_41 {d : Nat} {u0 u : uS} {s : rS} {j : Int} (hJ : JS s j) (R : Rk u0 u s) (hno : ∀ r d, ¬ ud s r d) : cV (d + 2) 41 [.ref 24] u (fun u' => Rf u0 u' ∧ GC u' s) := by
  obtain ⟨r1, r2, r3, r4, r5, r6, r7, r8, r9, r10⟩ := id R
  obtain ⟨a1, a2, a3, a4, a5, a6, a7, a8, a9, a10, a11⟩ := id hJ
  -- what is written where, up to a place
  have rules : ∀ (m : Nat) (r : Int) (f : Int → Int), 0 ≤ r → r + m = s 0 3 → (∀ r' d', 0 ≤ r' → r' < s 0 3 → 0 ≤ d' → d' < s 3 r' → (r' < r → fnS s (s 4 (6 * r' + d')) (f (r' * 6 + d'))) ∧ (r ≤ r' → f (r' * 6 + d') = s 4 (6 * r' + d'))) → K_41 (d + 1) 2 [.ref 24, iV r, .retAddr 0, .retAddr 0] [] (sS u 19 f) (fun u' => Rf u0 u' ∧ GC u' s) := by
    intro m
    induction m with
    | zero =>
      intro r f hr he hf
      refine k_41_2 ?_
      have g2 : (sS u 19 f).2 24 2 = 15 := r2
      rw [g2, sS_o (b := 15) (by decide), r7]
      refine ⟨sx_15, ⟨by omega, by omega⟩, ⟨by omega, by omega⟩, ?_⟩
      rw [if_neg (by omega)]
      refine ⟨⟨fun b hb => ?_, r3⟩, ?_⟩
      · rw [sS_o (fun q => hb (by rw [q]; decide))]
        exact r1 b hb
      · unfold GC
        rw [sS_o (b := 15) (by decide), sS_o (b := 16) (by decide), sS_o (b := 17) (by decide), sS_o (b := 18) (by decide), sS_f]
        exact ⟨r6, r7, r8.1, fun r' r0 r1 => ⟨(r8.2 r' r0 r1).1, (r8.2 r' r0 r1).2.1, fun d' d0 d1 => (hf r' d' r0 r1 d0 d1).1 (by omega)⟩⟩
    | succ m ih =>
      intro r f hr he hf
      have hlen := a10 r hr (by omega)
      have e18 : u.1 18 r = s 3 r := (r8.2 r hr (by omega)).2.1
      refine k_41_2 ?_
      have g2 : (sS u 19 f).2 24 2 = 15 := r2
      rw [g2, sS_o (b := 15) (by decide), r7]
      refine ⟨sx_15, ⟨by omega, by omega⟩, ⟨by omega, by omega⟩, ?_⟩
      rw [if_pos (by omega)]
      have syms : ∀ (m' : Nat) (k : Int) (f : Int → Int), 0 ≤ k → k + m' = s 3 r → (∀ r' d', 0 ≤ r' → r' < s 0 3 → 0 ≤ d' → d' < s 3 r' → ((r' < r ∨ (r' = r ∧ d' < k)) → fnS s (s 4 (6 * r' + d')) (f (r' * 6 + d'))) ∧ (¬ (r' < r ∨ (r' = r ∧ d' < k)) → f (r' * 6 + d') = s 4 (6 * r' + d'))) → K_41 (d + 1) 15 [.ref 24, iV r, iV k, .retAddr 0] [] (sS u 19 f) (fun u' => Rf u0 u' ∧ GC u' s) := by
        intro m'
        induction m' with
        | zero =>
          intro k f hk hke hf
          refine k_41_15 ?_
          have g2 : (sS u 19 f).2 24 2 = 15 := r2
          have g18 : (sS u 19 f).1 (15 + 3) r = s 3 r := by
            show (sS u 19 f).1 18 r = _
            rw [sS_o (by decide)]
            exact e18
          rw [g2, g18]
          refine ⟨sx_15, hr, by omega, ⟨by omega, by omega⟩, ⟨by omega, by omega⟩, ?_⟩
          rw [if_neg (by omega)]
          refine ih (r + 1) f (by omega) (by omega) (fun r' d' r0 r1 d0 d1 => ⟨fun q => (hf r' d' r0 r1 d0 d1).1 ?_, fun q => (hf r' d' r0 r1 d0 d1).2 ?_⟩)
          · by_cases e : r' = r
            · rw [e] at d1
              exact Or.inr ⟨e, by omega⟩
            · exact Or.inl (by omega)
          · omega
        | succ m' ih' =>
          intro k f hk hke hf
          have hoc : oc s r k := ⟨hr, by omega, hk, by omega⟩
          have hval : f (r * 6 + k) = s 4 (6 * r + k) := (hf r k hr (by omega) hk (by omega)).2 (fun q => by omega)
          have hsy := (hlen.2.2.2.2 k hk (by omega)).1
          unfold syC at hsy
          refine k_41_15 ?_
          have g2 : (sS u 19 f).2 24 2 = 15 := r2
          have g18 : (sS u 19 f).1 (15 + 3) r = s 3 r := by
            show (sS u 19 f).1 18 r = _
            rw [sS_o (by decide)]
            exact e18
          have g19 : (sS u 19 f).1 (15 + 4) (r * 6 + k) = s 4 (6 * r + k) := by
            show (sS u 19 f).1 19 (r * 6 + k) = _
            rw [sS_f]
            exact hval
          rw [g2, g18, g19]
          refine ⟨sx_15, hr, by omega, ⟨by omega, by omega⟩, ⟨by omega, by omega⟩, ?_⟩
          rw [if_pos (by omega)]
          refine ⟨by omega, by omega, ⟨by omega, by omega⟩, ?_⟩
          by_cases hl : s 4 (6 * r + k) < 100
          · rw [if_pos hl]
            refine ih' (k + 1) f (by omega) (by omega) (fun r' d' r0 r1 d0 d1 => ⟨fun q => ?_, fun q => (hf r' d' r0 r1 d0 d1).2 (fun z => q (by omega))⟩)
            by_cases e : r' = r ∧ d' = k
            · rw [e.1, e.2, hval]
              exact Or.inl ⟨hl, rfl⟩
            · exact (hf r' d' r0 r1 d0 d1).1 (by omega)
          · rw [if_neg hl]
            refine ⟨by omega, by omega, fun u13 e13 => ?_⟩
            have e13 : u13 = wr (sS u 19 f) 19 (r * 6 + k) (100 + (sS u 19 f).1 25 (s 4 (6 * r + k) - 100)) := e13
            rw [sS_o (b := 25) (by decide), sS_w] at e13
            rw [e13]
            have hz : 0 ≤ u.1 25 (s 4 (6 * r + k) - 100) ∧ u.1 25 (s 4 (6 * r + k) - 100) < s 0 2 ∧ s 1 (u.1 25 (s 4 (6 * r + k) - 100)) = s 4 (6 * r + k) - 35 := by
              rcases r9 (s 4 (6 * r + k) - 100) (by omega) (by omega) with q | q
              · refine absurd ⟨hoc, by omega, fun x x0 x1 z => ?_⟩ (hno r k)
                exact q.2 x x0 x1 (by omega)
              · exact ⟨q.1, q.2.1, by omega⟩
            refine ih' (k + 1) _ (by omega) (by omega) (fun r' d' r0 r1 d0 d1 => ⟨fun q => ?_, fun q => ?_⟩)
            · by_cases e : r' = r ∧ d' = k
              · rw [e.1, e.2, uf_eq]
                exact Or.inr ⟨by omega, _, hz.1, hz.2.1, hz.2.2, rfl⟩
              · have hd6 := (a10 r' r0 r1).2.2.2.1
                rw [uf_ne (by omega)]
                exact (hf r' d' r0 r1 d0 d1).1 (by omega)
            · have hd6 := (a10 r' r0 r1).2.2.2.1
              rw [uf_ne (by omega)]
              exact (hf r' d' r0 r1 d0 d1).2 (fun z => q (by omega))
      refine syms (s 3 r).toNat 0 f (Int.le_refl 0) (by omega) (fun r' d' r0 r1 d0 d1 => ⟨fun q => (hf r' d' r0 r1 d0 d1).1 (by omega), fun q => (hf r' d' r0 r1 d0 d1).2 (by omega)⟩)
  refine e_41 ?_
  have hid : sS u 19 (u.1 19) = u := by
    refine Prod.ext ?_ rfl
    funext b j
    simp only [sS]
    split
    · next h => rw [h]
    · rfl
  have := rules (s 0 3).toNat 0 (u.1 19) (Int.le_refl 0) (by omega) (fun r' d' r0 r1 d0 d1 => ⟨fun q => by omega, fun _ => (r8.2 r' r0 r1).2.2 d' d0 d1⟩)
  rw [hid] at this
  exact this
/-- reading: the fault's place, or all rules -/
def gRes (f : Int → Int) (n : Nat) (x : Int) (P : rS → Prop) : Prop := (∃ j : Nat, flt f n j ∧ x = j) ∨ ∃ s, gdE f n s ∧ ((0 ≤ x ∧ x < n ∧ udf s x) ∨ (x = -1 ∧ (∀ r d, ¬ ud s r d) ∧ P s))
theorem q_28 {d n : Nat} {u : uS} {f : Int → Int} (hn : n ≤ 300) (hr : ∀ j : Nat, j < n → rI (f j)) (ht : txt u f n) : cI (d + 6) 28 [.ref 24, .ref 1, .ref 15] u (fun x u' => Rf u u' ∧ gRes f n x (fun s => GC u' s)) := by
  have loop : ∀ (m j : Nat) (u1 : uS) (s : rS), j + m = n → rd f j = some s → Rk u u1 s → K_28 (d + 5) 40 [.ref 24, .ref 1, .retAddr 0, iV (cnt f j)] [] u1 (fun x u' => Rf u u' ∧ gRes f n x (fun s => GC u' s)) := by
    intro m
    induction m with
    | zero =>
      intro j u1 s he hs R
      have ej : j = n := by omega
      rw [ej] at hs ⊢
      have hJ := rd_J n s hs
      obtain ⟨r1, r2, r3, r4, r5, r6, r7, r8, r9, r10⟩ := id R
      obtain ⟨a1, a2, a3, a4, a5, a6, a7, a8, a9, a10, a11⟩ := id hJ
      have t5 : u1.1 1 5 = cnt f n := by rw [r1 1 (by decide)]; exact ht.1
      have t3 : u1.1 1 3 = n := by rw [r1 1 (by decide)]; exact ht.2.1
      have hcn := cnt_r f n
      refine k_28_40 ⟨⟨by omega, by omega⟩, ?_⟩
      rw [t5, t3]
      refine ⟨⟨by omega, by omega⟩, ?_⟩
      rw [if_neg (by omega), r4]
      refine ⟨by rcases a1 with q | q | q <;> rw [q] <;> decide, ?_⟩
      by_cases h0 : s 0 0 = 0
      · rw [if_pos h0, r2, r6]
        refine ⟨sx_15, ⟨by omega, by omega⟩, ?_⟩
        by_cases h2 : s 0 2 = 0
        · rw [if_pos h2, if_neg (by omega)]
          exact ⟨Rk_f R, Or.inl ⟨n, Or.inr ⟨rfl, s, hs, Or.inr h2⟩, rfl⟩⟩
        · rw [if_neg h2]
          refine cI.mono (q_40 (d := d + 4) hJ (by omega) R) (Nat.le_refl _) (fun x u22 hx => ?_)
          obtain ⟨eu, hx⟩ := hx
          rw [eu]
          rcases hx with ⟨q1, q2⟩ | ⟨q1, q2, q3⟩
          · rw [q1]
            refine ⟨by decide, ?_⟩
            rw [if_pos rfl]
            exact cV.mono (q_41 (d := d + 3) hJ R q2) (Nat.le_refl _) (fun u26 h26 => ⟨h26.1, Or.inr ⟨s, ⟨hs, h0, h2⟩, Or.inr ⟨rfl, q2, h26.2⟩⟩⟩)
          · refine ⟨⟨by omega, by omega⟩, ?_⟩
            rw [if_neg (by omega)]
            exact ⟨Rk_f R, Or.inr ⟨s, ⟨hs, h0, h2⟩, Or.inl ⟨q1, q2, q3⟩⟩⟩
      · rw [if_neg h0, if_neg (by omega)]
        exact ⟨Rk_f R, Or.inl ⟨n, Or.inr ⟨rfl, s, hs, Or.inl h0⟩, rfl⟩⟩
    | succ m ih =>
      intro j u1 s he hs R
      by_cases h32 : f j = 32
      · have := ih (j + 1) u1 s (by omega) (rd_b hs h32) R
        rw [cnt_s, if_pos h32] at this
        exact this
      · have hJ := rd_J j s hs
        obtain ⟨r1, r2, r3, r4, r5, r6, r7, r8, r9, r10⟩ := id R
        have t5 : u1.1 1 5 = cnt f n := by rw [r1 1 (by decide)]; exact ht.1
        have hlt := cnt_lt f (show j < n by omega) h32
        have hc := cnt_r f j
        have hcn := cnt_r f n
        obtain ⟨t3, t4⟩ := ht.2.2 j (by omega) h32
        refine k_28_40 ⟨⟨by omega, by omega⟩, ?_⟩
        rw [t5]
        refine ⟨⟨by omega, by omega⟩, ?_⟩
        rw [if_pos hlt, r1 3 (by decide), r1 4 (by decide), t3, t4]
        refine ⟨by omega, by omega, ?_⟩
        refine cI.mono (q_31 (d := d) hJ R (hr j (by omega)) (by omega) (by omega)) (Nat.le_refl _) (fun x u8 hx => ?_)
        rcases hx with ⟨q1, q2, q3⟩ | ⟨q1, s', q2, q3⟩
        · rw [q1]
          refine ⟨by decide, ?_⟩
          rw [if_pos rfl, q3.1 1 (by decide), ht.1, q3.1 4 (by decide), t4]
          refine ⟨⟨by omega, by omega⟩, ?_⟩
          rw [if_pos hlt]
          exact ⟨q3, Or.inl ⟨j, Or.inl ⟨by omega, s, hs, h32, q2⟩, rfl⟩⟩
        · rw [q1]
          refine ⟨by decide, ?_⟩
          rw [if_neg (by decide)]
          have := ih (j + 1) u8 s' (by omega) (by rw [rd_s hs h32]; exact q2) q3
          rw [cnt_s, if_neg h32] at this
          exact this
  refine e_28 (d := d + 4) sx_15 (fun u1 e1 => ?_)
  have g2 : u1.2 24 2 = 15 := by rw [e1, wq_2, if_pos (by decide)]
  rw [g2]
  refine ⟨sx_15, fun u4 e4 u6 e6 u8 e8 u10 e10 u12 e12 u14 e14 => ?_⟩
  refine loop n 0 u14 (fun _ _ => 0) (by omega) rfl ?_
  have f25 : u14.1 25 = fun j => if 0 ≤ j ∧ j < 26 then -1 else u10.1 25 j := by
    rw [e14, fil_ne (by decide), e12]
    funext j
    simp [fil]
  have f26 : u14.1 26 = fun j => if 0 ≤ j ∧ j < 26 then -1 else u12.1 26 j := by
    rw [e14]
    funext j
    simp [fil]
  refine ⟨fun b hb => ?_, ?_, fun b hb => ?_, ?_, ?_, ?_, ?_, ?_, ?_, ?_⟩
  · have hb1 : b ≠ 26 := fun q => hb (by rw [q]; decide)
    have hb2 : b ≠ 25 := fun q => hb (by rw [q]; decide)
    have hb3 : b ≠ 24 := fun q => hb (by rw [q]; decide)
    have hb4 : b ≠ 15 := fun q => hb (by rw [q]; decide)
    rw [e14, fil_ne hb1, e12, fil_ne hb2, e10, wr_ne hb3, e8, wr_ne hb3, e6, wr_ne hb4, e4, wr_ne hb4, e1]
    rfl
  · rw [e14, e12, e10, e8, e6, e4]
    exact g2
  · rw [e14, e12, e10, e8, e6, e4]
    show u1.2 b = u.2 b
    rw [e1, wq_ne hb]
  · rw [e14, fil_ne (by decide), e12, fil_ne (by decide), e10, wr_1, if_neg (by decide), e8, wr_self]
  · rw [e14, fil_ne (by decide), e12, fil_ne (by decide), e10, wr_self]
  · rw [e14, fil_ne (by decide), e12, fil_ne (by decide), e10, wr_ne (by decide), e8, wr_ne (by decide), e6, wr_1, if_neg (by decide), e4, wr_self]
  · rw [e14, fil_ne (by decide), e12, fil_ne (by decide), e10, wr_ne (by decide), e8, wr_ne (by decide), e6, wr_self]
  · exact ⟨fun x x0 x1 => by have x1 : x < 0 := x1; omega, fun r r0 r1 => by have r1 : r < 0 := r1; omega⟩
  · intro m m0 m1
    rw [f25]
    exact Or.inl ⟨if_pos ⟨m0, m1⟩, fun x x0 x1 => by have x1 : x < 0 := x1; omega⟩
  · intro m m0 m1
    rw [f26]
    exact Or.inl ⟨if_pos ⟨m0, m1⟩, fun r d h => by have := h.1; have h2 : r < 0 := h.2.1; omega⟩
