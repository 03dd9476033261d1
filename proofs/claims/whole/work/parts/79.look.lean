/-! The other side: lookAtRule -/
def mxH (H : Int → Int) : Int → List Int → Int
  | x, [] => x
  | x, s :: l => mxH H (if s < 100 then x else if x < H (s - 100) then H (s - 100) else x) l
def emR (E : Int → Int) : List Int → Bool
  | [] => true
  | s :: l => (!decide (s < 100) && decide (E (s - 100) ≠ 0)) && emR E l
def leR (E : Int → Int) : List Int → Bool
  | [] => false
  | s :: l => (decide (s < 100) || decide (E (s - 100) ≠ 0)) || leR E l
def sh5 (f : Int → Int) : Int → List Int → Int
  | x, [] => x
  | x, s :: l => sh5 f (pl 5000000000000000000 x (if s < 100 then 1 else f (s - 100))) l
def lk (u : uS) (x n h : Int) (em le : Bool) : uS := wr (wr (wr (wr (wr u 283 x 1) 288 x (if n < u.1 288 x then n else u.1 288 x)) 289 x (if h + 1 < u.1 289 x then h + 1 else u.1 289 x)) 285 x (b2 (decide (u.1 285 x ≠ 0) || em))) 286 x (b2 (decide (u.1 286 x ≠ 0) || le))
def nws (u : uS) (x n h : Int) (em le : Bool) : Bool := decide (u.1 283 x = 0) || decide (n < u.1 288 x) || decide (h + 1 < u.1 289 x) || (em && decide (u.1 285 x = 0)) || (le && decide (u.1 286 x = 0))
theorem l_215_151 {d : Nat} {Q : Int → uS → Prop} {u : uS} {r x n h i s : Int} {le : Bool} (hs : symR 10 s) (hL : ∀ y : Int, 0 ≤ y → y < 10 → rI (u.1 286 y)) (hK : K_215 (d + 1) 31 [.ref 271, iV r, iV x, lV n, .retAddr 0, lV h, .retAddr 0, iV 0, iV (b2 (le || (decide (s < 100) || decide (u.1 286 (s - 100) ≠ 0)))), iV (i + 1), .retAddr 0] [] u Q) : K_215 (d + 1) 151 [.ref 271, iV r, iV x, lV n, .retAddr 0, lV h, .retAddr 0, .retAddr 0, iV (b2 le), iV i, iV s] [] u Q := by
  refine k_215_151 ⟨ri_b2 le, ?_⟩
  unfold symR at hs
  cases le with
  | true =>
    rw [if_neg (by decide)]
    exact hK
  | false =>
    rw [if_pos (by decide)]
    refine ⟨⟨by omega, by omega⟩, ?_⟩
    by_cases h1 : s < 100
    · rw [if_pos h1]
      simpa [h1, b2] using hK
    · rw [if_neg h1]
      refine ⟨by omega, by omega, hL _ (by omega) (by omega), ?_⟩
      by_cases h2 : u.1 286 (s - 100) = 0
      · rw [if_pos h2]
        simpa [h1, h2, b2] using hK
      · rw [if_neg h2]
        simpa [h1, h2, b2] using hK
theorem l_215_120 {d : Nat} {Q : Int → uS → Prop} {u : uS} {r x n h i s : Int} {em le : Bool} (hs : symR 10 s) (hE : ∀ y : Int, 0 ≤ y → y < 10 → rI (u.1 285 y)) (hL : ∀ y : Int, 0 ≤ y → y < 10 → rI (u.1 286 y)) (hK : K_215 (d + 1) 31 [.ref 271, iV r, iV x, lV n, .retAddr 0, lV h, .retAddr 0, iV (b2 (em && (!decide (s < 100) && decide (u.1 285 (s - 100) ≠ 0)))), iV (b2 (le || (decide (s < 100) || decide (u.1 286 (s - 100) ≠ 0)))), iV (i + 1), .retAddr 0] [] u Q) : K_215 (d + 1) 120 [.ref 271, iV r, iV x, lV n, .retAddr 0, .retAddr 0, .retAddr 0, iV (b2 em), iV (b2 le), iV i, iV s] [lV h] u Q := by
  refine k_215_120 ⟨ri_b2 em, ?_⟩
  have hs2 := hs
  unfold symR at hs2
  cases em with
  | false =>
    rw [if_pos (by decide)]
    exact l_215_151 hs hL hK
  | true =>
    rw [if_neg (by decide)]
    refine ⟨⟨by omega, by omega⟩, ?_⟩
    by_cases h1 : s < 100
    · rw [if_pos h1]
      refine l_215_151 hs hL ?_
      simpa [h1, b2] using hK
    · rw [if_neg h1]
      refine ⟨by omega, by omega, hE _ (by omega) (by omega), ?_⟩
      by_cases h2 : u.1 285 (s - 100) = 0
      · rw [if_pos h2]
        refine l_215_151 hs hL ?_
        simpa [h1, h2, b2] using hK
      · rw [if_neg h2]
        refine ⟨ri_b2 le, ?_⟩
        cases le with
        | true =>
          rw [if_neg (by decide)]
          simpa [h1, h2, b2] using hK
        | false =>
          rw [if_pos (by decide)]
          refine ⟨hL _ (by omega) (by omega), ?_⟩
          by_cases h3 : u.1 286 (s - 100) = 0
          · rw [if_pos h3]
            simpa [h1, h2, h3, b2] using hK
          · rw [if_neg h3]
            simpa [h1, h2, h3, b2] using hK
theorem l_215_327 {d : Nat} {Q : Int → uS → Prop} {u : uS} {x v : Int} {em le nw : Bool} (x0 : 0 ≤ x) (x1 : x < 10) (hE : rI (u.1 285 x)) (hL : rI (u.1 286 x)) (hQ : Q (b2 nw) (wr (wr (wr u 289 x v) 285 x (b2 (decide (u.1 285 x ≠ 0) || em))) 286 x (b2 (decide (u.1 286 x ≠ 0) || le)))) : K_215 (d + 1) 327 [.ref 271, .retAddr 0, iV x, .retAddr 0, .retAddr 0, .retAddr 0, .retAddr 0, iV (b2 em), iV (b2 le), iV (b2 nw), .retAddr 0] [lV v, iV x, .ref 289] u Q := by
  refine k_215_327 sx_289 ⟨x0, by omega, fun u3 e3 => ⟨x0, x1, ?_⟩⟩
  have e5 : u3.1 285 x = u.1 285 x := by rw [e3, wr_ne (by decide)]
  have e6 : ∀ w, (wr u3 285 x w).1 286 x = u.1 286 x := fun w => by rw [wr_ne (by decide), e3, wr_ne (by decide)]
  rw [e5]
  refine ⟨hE, ?_⟩
  have tail : ∀ w : Int, w = b2 (decide (u.1 285 x ≠ 0) || em) → ∀ u11 : uS, u11 = wr u3 285 x w → (rI (u11.1 286 x)) ∧ (if u11.1 286 x = 0 then ((rI (b2 le)) ∧ (if b2 le = 0 then (∀ u17 : uS, u17 = wr u11 286 x 0 → ((b2 nw = 0 ∨ b2 nw = 1) ∧ (Q (b2 nw) u17))) else (∀ u20 : uS, u20 = wr u11 286 x 1 → ((b2 nw = 0 ∨ b2 nw = 1) ∧ (Q (b2 nw) u20))))) else (∀ u23 : uS, u23 = wr u11 286 x 1 → ((b2 nw = 0 ∨ b2 nw = 1) ∧ (Q (b2 nw) u23)))) := by
    intro w hw u11 e11
    have e7 : u11.1 286 x = u.1 286 x := by rw [e11]; exact e6 w
    rw [e7]
    refine ⟨hL, ?_⟩
    rw [← hw, ← e3] at hQ
    rw [← e11] at hQ
    by_cases h3 : u.1 286 x = 0
    · rw [if_pos h3]
      refine ⟨ri_b2 le, ?_⟩
      cases le with
      | true =>
        rw [if_neg (by decide)]
        intro u20 e20
        refine ⟨b2_r nw, ?_⟩
        rw [e20]
        simpa [h3, b2] using hQ
      | false =>
        rw [if_pos (by decide)]
        intro u20 e20
        refine ⟨b2_r nw, ?_⟩
        rw [e20]
        simpa [h3, b2] using hQ
    · rw [if_neg h3]
      intro u20 e20
      refine ⟨b2_r nw, ?_⟩
      rw [e20]
      simpa [h3, b2] using hQ
  by_cases h2 : u.1 285 x = 0
  · rw [if_pos h2]
    refine ⟨ri_b2 em, ?_⟩
    cases em with
    | false =>
      rw [if_pos (by decide)]
      exact tail 0 (by simp [h2, b2])
    | true =>
      rw [if_neg (by decide)]
      exact tail 1 (by simp [h2, b2])
  · rw [if_neg h2]
    exact tail 1 (by simp [h2, b2])
theorem l_215_259 {d : Nat} {Q : Int → uS → Prop} {u : uS} {x n h : Int} {em le nw : Bool} (x0 : 0 ≤ x) (x1 : x < 10) (hE : rI (u.1 285 x)) (hL : rI (u.1 286 x)) (hN : rL (u.1 288 x)) (hH : rL (u.1 289 x)) (hn : rL n) (hh : rL (h + 1)) (hQ : Q (b2 nw) (lk u x n h em le)) : K_215 (d + 1) 259 [.ref 271, .retAddr 0, iV x, lV n, .retAddr 0, lV h, .retAddr 0, iV (b2 em), iV (b2 le), .retAddr 0, .retAddr 0] [iV (b2 nw)] u Q := by
  refine k_215_259 ⟨x0, x1, fun u3 e3 => ⟨hn, ?_⟩⟩
  have e8 : u3.1 288 x = u.1 288 x := by rw [e3, wr_ne (by decide)]
  rw [e8]
  refine ⟨hN, ?_⟩
  have tail : ∀ w : Int, w = (if n < u.1 288 x then n else u.1 288 x) → ∀ u8 : uS, u8 = wr u3 288 x w → (rL (h + 1)) ∧ ((rL (u8.1 289 x)) ∧ (if h + 1 < u8.1 289 x then (K_215 (d + 1) 327 [.ref 271, .retAddr 0, iV x, .retAddr 0, .retAddr 0, .retAddr 0, .retAddr 0, iV (b2 em), iV (b2 le), iV (b2 nw), .retAddr 0] [lV (h + 1), iV x, .ref 289] u8 Q) else (K_215 (d + 1) 327 [.ref 271, .retAddr 0, iV x, .retAddr 0, .retAddr 0, .retAddr 0, .retAddr 0, iV (b2 em), iV (b2 le), iV (b2 nw), .retAddr 0] [lV (u8.1 289 x), iV x, .ref 289] u8 Q))) := by
    intro w hw u8 e
    have e9 : u8.1 289 x = u.1 289 x := by rw [e, wr_ne (by decide), e3, wr_ne (by decide)]
    have e5 : u8.1 285 x = u.1 285 x := by rw [e, wr_ne (by decide), e3, wr_ne (by decide)]
    have e6 : u8.1 286 x = u.1 286 x := by rw [e, wr_ne (by decide), e3, wr_ne (by decide)]
    rw [e9]
    refine ⟨hh, hH, ?_⟩
    unfold lk at hQ
    rw [← hw, ← e3, ← e, ← e5, ← e6] at hQ
    by_cases h1 : h + 1 < u.1 289 x
    · rw [if_pos h1]
      rw [if_pos h1] at hQ
      exact l_215_327 x0 x1 (by rw [e5]; exact hE) (by rw [e6]; exact hL) hQ
    · rw [if_neg h1]
      rw [if_neg h1] at hQ
      exact l_215_327 x0 x1 (by rw [e5]; exact hE) (by rw [e6]; exact hL) hQ
  by_cases h1 : n < u.1 288 x
  · rw [if_pos h1]
    exact tail n (by rw [if_pos h1])
  · rw [if_neg h1]
    exact tail (u.1 288 x) (by rw [if_neg h1])
theorem rl_cn {e x : Int} (he : rL e) (h : cn e x) : rL x := by
  rcases h with h | h
  · rw [h]; exact he
  · exact ⟨by omega, by omega⟩
/-- what the other side's variables are like, as numbers -/
def rgM (u : uS) : Prop := ∀ y : Int, 0 ≤ y → y < 10 → (u.1 283 y = 0 ∨ u.1 283 y = 1) ∧ (u.1 285 y = 0 ∨ u.1 285 y = 1) ∧ (u.1 286 y = 0 ∨ u.1 286 y = 1) ∧ (u.1 283 y = 0 → u.1 288 y = 4000000000000000001 ∧ u.1 289 y = 4000000000000000001) ∧ (u.1 283 y ≠ 0 → 0 ≤ u.1 288 y ∧ u.1 288 y ≤ 4000000000000000000 ∧ 0 ≤ u.1 289 y ∧ u.1 289 y ≤ 10)
theorem p_215 {d : Nat} {u : uS} {r : Int} (hg : gM u r) (hs : ∀ s ∈ rowM u r, symR 10 s) (h0 : 0 ≤ u.1 275 r) (h1 : u.1 275 r < 10) (hr : rgM u) : cI (d + 2) 215 [.ref 271, iV r] u (fun x u' => (goo (u.1 283) (rowM u r) = false ∧ x = 0 ∧ u' = u) ∨ (goo (u.1 283) (rowM u r) = true ∧ x = b2 (nws u (u.1 275 r) (sh5 (u.1 288) 0 (rowM u r)) (mxH (u.1 289) 0 (rowM u r)) (emR (u.1 285) (rowM u r)) (leR (u.1 286) (rowM u r))) ∧ u' = lk u (u.1 275 r) (sh5 (u.1 288) 0 (rowM u r)) (mxH (u.1 289) 0 (rowM u r)) (emR (u.1 285) (rowM u r)) (leR (u.1 286) (rowM u r)))) := by
  have rT : ∀ y : Int, 0 ≤ y → y < 10 → rI (u.1 283 y) := fun y a b => by
    rcases (hr y a b).1 with q | q <;> exact ⟨by omega, by omega⟩
  have rE : ∀ y : Int, 0 ≤ y → y < 10 → rI (u.1 285 y) := fun y a b => by
    rcases (hr y a b).2.1 with q | q <;> exact ⟨by omega, by omega⟩
  have rLe : ∀ y : Int, 0 ≤ y → y < 10 → rI (u.1 286 y) := fun y a b => by
    rcases (hr y a b).2.2.1 with q | q <;> exact ⟨by omega, by omega⟩
  have rN : ∀ y : Int, 0 ≤ y → y < 10 → rL (u.1 288 y) ∧ rL (u.1 289 y) := fun y a b => by
    obtain ⟨c1, c2, c3, c4, c5⟩ := hr y a b
    by_cases q : u.1 283 y = 0
    · have := c4 q
      exact ⟨⟨by omega, by omega⟩, ⟨by omega, by omega⟩⟩
    · have := c5 q
      exact ⟨⟨by omega, by omega⟩, ⟨by omega, by omega⟩⟩
  refine e_215 (cI.mono (p_216 (d := d) hg rT) (Nat.le_refl _) (fun x u1 hx => ?_))
  obtain ⟨ex, eu⟩ := hx
  rw [eu, ex]
  refine ⟨ri_b2 _, ?_⟩
  cases hgo : goo (u.1 283) (rowM u r) with
  | false =>
    rw [if_pos (by decide)]
    exact Or.inl ⟨rfl, rfl, rfl⟩
  | true =>
    rw [if_neg (by decide)]
    obtain ⟨g0, g1, g2, g3, g4⟩ := hg
    refine ⟨g0, g1, ?_⟩
    have loop : ∀ (m : Nat) (i n h : Int) (em le : Bool) (Q : Int → uS → Prop), 0 ≤ i → i + m = u.1 276 r → cn 5000000000000000000 n → 0 ≤ h → h ≤ 10 → goo (u.1 283) (rowF (fun d => u.1 277 (6 * r + d)) m i) = true → (∀ s ∈ rowF (fun d => u.1 277 (6 * r + d)) m i, symR 10 s) → (Q (b2 (nws u (u.1 275 r) (sh5 (u.1 288) n (rowF (fun d => u.1 277 (6 * r + d)) m i)) (mxH (u.1 289) h (rowF (fun d => u.1 277 (6 * r + d)) m i)) (em && emR (u.1 285) (rowF (fun d => u.1 277 (6 * r + d)) m i)) (le || leR (u.1 286) (rowF (fun d => u.1 277 (6 * r + d)) m i)))) (lk u (u.1 275 r) (sh5 (u.1 288) n (rowF (fun d => u.1 277 (6 * r + d)) m i)) (mxH (u.1 289) h (rowF (fun d => u.1 277 (6 * r + d)) m i)) (em && emR (u.1 285) (rowF (fun d => u.1 277 (6 * r + d)) m i)) (le || leR (u.1 286) (rowF (fun d => u.1 277 (6 * r + d)) m i)))) → K_215 (d + 1) 31 [.ref 271, iV r, iV (u.1 275 r), lV n, .retAddr 0, lV h, .retAddr 0, iV (b2 em), iV (b2 le), iV i, .retAddr 0] [] u Q := by
      intro m
      induction m with
      | zero =>
        intro i n h em le Q hi he hn hh0 hh1 hgo hsy hQ
        simp only [rowF, sh5, mxH, emR, leR, Bool.and_true, Bool.or_false] at hQ
        refine k_215_31 ⟨g0, g1, ⟨by omega, by omega⟩, ⟨by omega, by omega⟩, ?_⟩
        rw [if_neg (by omega)]
        refine ⟨h0, h1, rT _ h0 h1, ?_⟩
        have hnL : rL n := rl_cn ⟨by omega, by omega⟩ hn
        have go : ∀ nw : Bool, nw = nws u (u.1 275 r) n h em le → K_215 (d + 1) 259 [.ref 271, .retAddr 0, iV (u.1 275 r), lV n, .retAddr 0, lV h, .retAddr 0, iV (b2 em), iV (b2 le), .retAddr 0, .retAddr 0] [iV (b2 nw)] u Q := fun nw enw => l_215_259 h0 h1 (rE _ h0 h1) (rLe _ h0 h1) (rN _ h0 h1).1 (rN _ h0 h1).2 hnL ⟨by omega, by omega⟩ (by rw [enw]; exact hQ)
        by_cases c1 : u.1 283 (u.1 275 r) = 0
        · rw [if_pos c1]
          exact go true (by simp [nws, c1])
        · rw [if_neg c1]
          refine ⟨hnL, (rN _ h0 h1).1, ?_⟩
          by_cases c2 : n < u.1 288 (u.1 275 r)
          · rw [if_pos c2]
            exact go true (by simp [nws, c2])
          · rw [if_neg c2]
            refine ⟨⟨by omega, by omega⟩, (rN _ h0 h1).2, ?_⟩
            by_cases c3 : h + 1 < u.1 289 (u.1 275 r)
            · rw [if_pos c3]
              exact go true (by simp [nws, c3])
            · rw [if_neg c3]
              refine ⟨ri_b2 em, ?_⟩
              have fin : ∀ {w : Bool}, w = (em && decide (u.1 285 (u.1 275 r) = 0)) → w = false → (rI (b2 le)) ∧ (if b2 le = 0 then (K_215 (d + 1) 259 [.ref 271, .retAddr 0, iV (u.1 275 r), lV n, .retAddr 0, lV h, .retAddr 0, iV (b2 em), iV (b2 le), .retAddr 0, .retAddr 0] [iV 0] u Q) else ((rI (u.1 286 (u.1 275 r))) ∧ (if u.1 286 (u.1 275 r) = 0 then (K_215 (d + 1) 259 [.ref 271, .retAddr 0, iV (u.1 275 r), lV n, .retAddr 0, lV h, .retAddr 0, iV (b2 em), iV (b2 le), .retAddr 0, .retAddr 0] [iV 1] u Q) else (K_215 (d + 1) 259 [.ref 271, .retAddr 0, iV (u.1 275 r), lV n, .retAddr 0, lV h, .retAddr 0, iV (b2 em), iV (b2 le), .retAddr 0, .retAddr 0] [iV 0] u Q)))) := by
                intro w ew hw
                have hw2 : (em && decide (u.1 285 (u.1 275 r) = 0)) = false := ew.symm.trans hw
                have hnw : nws u (u.1 275 r) n h em le = (le && decide (u.1 286 (u.1 275 r) = 0)) := by
                  unfold nws
                  rw [hw2]
                  simp [c1, c2, c3]
                refine ⟨ri_b2 le, ?_⟩
                cases hle : le with
                | false =>
                  rw [if_pos (by decide)]
                  have := go false (by rw [hnw, hle]; rfl)
                  rw [hle] at this
                  exact this
                | true =>
                  rw [if_neg (by decide)]
                  refine ⟨rLe _ h0 h1, ?_⟩
                  by_cases c6 : u.1 286 (u.1 275 r) = 0
                  · rw [if_pos c6]
                    have := go true (by rw [hnw, hle, c6]; rfl)
                    rw [hle] at this
                    exact this
                  · rw [if_neg c6]
                    have := go false (by rw [hnw, hle, decide_eq_false c6]; rfl)
                    rw [hle] at this
                    exact this
              cases hem : em with
              | false =>
                rw [if_pos (by decide)]
                have := fin rfl (by rw [hem]; rfl)
                rw [hem] at this
                exact this
              | true =>
                rw [if_neg (by decide)]
                refine ⟨rE _ h0 h1, ?_⟩
                by_cases c5 : u.1 285 (u.1 275 r) = 0
                · rw [if_pos c5]
                  have := go true (by simp [nws, hem, c5])
                  rw [hem] at this
                  exact this
                · rw [if_neg c5]
                  have := fin rfl (by rw [hem, decide_eq_false c5]; rfl)
                  rw [hem] at this
                  exact this
      | succ m ih =>
        intro i n h em le Q hi he hn hh0 hh1 hgo hsy hQ
        have hss := hsy (u.1 277 (6 * r + i)) List.mem_cons_self
        have hs2 := hss
        unfold symR at hs2
        simp only [rowF, goo, Bool.and_eq_true, Bool.or_eq_true, decide_eq_true_eq] at hgo
        simp only [rowF, sh5, mxH, emR, leR] at hQ
        rw [← Bool.and_assoc, ← Bool.or_assoc] at hQ
        have hsy2 : ∀ s ∈ rowF (fun d => u.1 277 (6 * r + d)) m (i + 1), symR 10 s := fun s q => hsy s (List.mem_cons_of_mem _ q)
        refine k_215_31 ⟨g0, g1, ⟨by omega, by omega⟩, ⟨by omega, by omega⟩, ?_⟩
        rw [if_pos (by omega)]
        refine ⟨by omega, by omega, ⟨by omega, by omega⟩, ?_⟩
        have c1 : cn 5000000000000000000 1 := Or.inr (by omega)
        by_cases hl : u.1 277 (6 * r + i) < 100
        · rw [if_pos hl]
          rw [if_pos hl, if_pos hl] at hQ
          refine ⟨hn, c1, ?_⟩
          exact l_215_120 hss rE rLe (ih (i + 1) _ h _ _ Q (by omega) (by omega) (cn_pl hn c1) hh0 hh1 hgo.2 hsy2 hQ)
        · rw [if_neg hl]
          rw [if_neg hl, if_neg hl] at hQ
          have hv : u.1 283 (u.1 277 (6 * r + i) - 100) ≠ 0 := by
            rcases hgo.1 with q | q
            · exact absurd q hl
            · exact q
          obtain ⟨k1, k2, k3, k4⟩ := (hr (u.1 277 (6 * r + i) - 100) (by omega) (by omega)).2.2.2.2 hv
          have c2 : cn 5000000000000000000 (u.1 288 (u.1 277 (6 * r + i) - 100)) := Or.inr ⟨k1, k2⟩
          refine ⟨by omega, by omega, hn, c2, ⟨by omega, by omega⟩, ⟨by omega, by omega⟩, ?_⟩
          by_cases hx : h < u.1 289 (u.1 277 (6 * r + i) - 100)
          · rw [if_pos hx]
            rw [if_pos hx] at hQ
            exact l_215_120 hss rE rLe (ih (i + 1) _ _ _ _ Q (by omega) (by omega) (cn_pl hn c2) k3 k4 hgo.2 hsy2 hQ)
          · rw [if_neg hx]
            rw [if_neg hx] at hQ
            exact l_215_120 hss rE rLe (ih (i + 1) _ _ _ _ Q (by omega) (by omega) (cn_pl hn c2) hh0 hh1 hgo.2 hsy2 hQ)
    refine loop (u.1 276 r).toNat 0 0 0 true false _ (Int.le_refl 0) (by omega) (Or.inr (by omega)) (Int.le_refl 0) (by omega) hgo hs ?_
    refine Or.inr ⟨rfl, ?_, ?_⟩
    · rw [Bool.true_and, Bool.false_or]
    · rw [Bool.true_and, Bool.false_or]
