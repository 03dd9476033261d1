/-! One side reads a grammar: symbols, rows, all signs -/
theorem q_37 {d : Nat} {u0 u : uS} {s : rS} {c j : Int} (hJ : JS s j) (R : Rk u0 u s) (hc : rI c) (j0 : 0 ≤ j) (j3 : j ≤ 300) (hn : 1 ≤ s 0 3) : cI (d + 3) 37 [.ref 24, iV c, iV j] u (fun x u' => (x = 0 ∧ ¬ (((65 ≤ c ∧ c ≤ 90) ∨ (97 ≤ c ∧ c ≤ 106)) ∧ s 3 (s 0 3 - 1) < 6) ∧ Rf u0 u') ∨ (x = 1 ∧ (((65 ≤ c ∧ c ≤ 90) ∨ (97 ≤ c ∧ c ≤ 106)) ∧ s 3 (s 0 3 - 1) < 6) ∧ Rk u0 u' (sym1 s c j))) := by
  obtain ⟨r1, r2, r3, r4, r5, r6, r7, r8, r9, r10⟩ := id R
  obtain ⟨a1, a2, a3, a4, a5, a6, a7, a8, a9, a10, a11⟩ := id hJ
  have hlen := a10 (s 0 3 - 1) (by omega) (by omega)
  have e18 : u.1 18 (s 0 3 - 1) = s 3 (s 0 3 - 1) := (r8.2 _ (by omega) (by omega)).2.1
  have main : ∀ l3 : Int, ((l3 = 0 ∧ 97 ≤ c ∧ c ≤ 106) ∨ (l3 = 1 ∧ 65 ≤ c ∧ c ≤ 90)) → K_37 (d + 2) 16 [.ref 24, iV c, iV j, iV l3] [] u (fun x u' => (x = 0 ∧ ¬ (((65 ≤ c ∧ c ≤ 90) ∨ (97 ≤ c ∧ c ≤ 106)) ∧ s 3 (s 0 3 - 1) < 6) ∧ Rf u0 u') ∨ (x = 1 ∧ (((65 ≤ c ∧ c ≤ 90) ∨ (97 ≤ c ∧ c ≤ 106)) ∧ s 3 (s 0 3 - 1) < 6) ∧ Rk u0 u' (sym1 s c j))) := by
    intro l3 hl3
    have hcs : (65 ≤ c ∧ c ≤ 90) ∨ (97 ≤ c ∧ c ≤ 106) := by omega
    refine k_37_16 ?_
    rw [r2, r7]
    have e18' : u.1 (15 + 3) (s 0 3 - 1) = s 3 (s 0 3 - 1) := e18
    rw [e18']
    refine ⟨sx_15, by omega, by omega, ⟨by omega, by omega⟩, ?_⟩
    by_cases h6 : s 3 (s 0 3 - 1) < 6
    · rw [if_pos h6]
      refine ⟨by rcases hl3 with q | q <;> rw [q.1] <;> decide, ?_⟩
      rcases hl3 with ⟨q1, q2, q3⟩ | ⟨q1, q2, q3⟩
      · rw [if_pos q1]
        refine ⟨by omega, by omega, fun u11 e11 u13 e13 => ?_⟩
        have e11 : u11 = wr u 19 ((s 0 3 - 1) * 6 + s 3 (s 0 3 - 1)) (c - 97) := e11
        have f18 : u11.1 (15 + 3) (s 0 3 - 1) = s 3 (s 0 3 - 1) := by
          show u11.1 18 (s 0 3 - 1) = _
          rw [e11, wr_ne (by decide)]
          exact e18
        rw [f18] at e13
        have e13 : u13 = wr u11 18 (s 0 3 - 1) (s 3 (s 0 3 - 1) + 1) := e13
        refine Or.inr ⟨rfl, ⟨hcs, h6⟩, ?_⟩
        have hR := Rk_sym (c := c) (j := j) hJ R hn h6 hcs j0 (u1 := u) (fun _ _ => rfl) rfl rfl ⟨fun q => by omega, fun _ => rfl⟩
        rw [if_neg (by omega)] at hR
        rw [e13, e11]
        exact hR
      · rw [if_neg (by omega)]
        have hu := r10 (c - 65) (by omega) (by omega)
        refine ⟨by omega, by omega, ?_, ?_⟩
        · rcases hu with z | ⟨z1, ⟨r', d', z2, z3, z4⟩, -⟩
          · exact ⟨by omega, by omega⟩
          · have := (a10 r' z2.1 z2.2.1).2.2.2.2 d' z2.2.2.1 z2.2.2.2
            exact ⟨by omega, by omega⟩
        by_cases h26 : u.1 26 (c - 65) = -1
        · rw [if_pos h26]
          intro u19 e19
          have g2 : u19.2 24 2 = 15 := by rw [e19]; exact r2
          have g1 : u19.1 15 1 = s 0 3 := by rw [e19, wr_ne (by decide)]; exact r7
          rw [g2, g1]
          have g18 : u19.1 (15 + 3) (s 0 3 - 1) = s 3 (s 0 3 - 1) := by
            show u19.1 18 (s 0 3 - 1) = _
            rw [e19, wr_ne (by decide)]
            exact e18
          rw [g18]
          refine ⟨sx_15, by omega, by omega, by omega, by omega, fun u27 e27 u29 e29 => ?_⟩
          have e27 : u27 = wr u19 19 ((s 0 3 - 1) * 6 + s 3 (s 0 3 - 1)) (100 + c - 65) := e27
          have f18 : u27.1 (15 + 3) (s 0 3 - 1) = s 3 (s 0 3 - 1) := by
            show u27.1 18 (s 0 3 - 1) = _
            rw [e27, wr_ne (by decide)]
            exact g18
          rw [f18] at e29
          have e29 : u29 = wr u27 18 (s 0 3 - 1) (s 3 (s 0 3 - 1) + 1) := e29
          refine Or.inr ⟨rfl, ⟨hcs, h6⟩, ?_⟩
          have hR := Rk_sym (c := c) (j := j) hJ R hn h6 hcs j0 (u1 := u19) (f26 := uf (u.1 26) (c - 65) j) (fun b hb => by rw [e19, wr_ne hb]) (by rw [e19, wr_2]) (by rw [e19, wr_uf]) ⟨fun _ => Or.inl ⟨h26, rfl⟩, fun q => by omega⟩
          rw [if_pos (by omega)] at hR
          rw [e29, e27]
          exact hR
        · rw [if_neg h26]
          refine ⟨by omega, by omega, fun u34 e34 u36 e36 => ?_⟩
          have e34 : u34 = wr u 19 ((s 0 3 - 1) * 6 + s 3 (s 0 3 - 1)) (100 + c - 65) := e34
          have f18 : u34.1 (15 + 3) (s 0 3 - 1) = s 3 (s 0 3 - 1) := by
            show u34.1 18 (s 0 3 - 1) = _
            rw [e34, wr_ne (by decide)]
            exact e18
          rw [f18] at e36
          have e36 : u36 = wr u34 18 (s 0 3 - 1) (s 3 (s 0 3 - 1) + 1) := e36
          refine Or.inr ⟨rfl, ⟨hcs, h6⟩, ?_⟩
          have hR := Rk_sym (c := c) (j := j) hJ R hn h6 hcs j0 (u1 := u) (fun _ _ => rfl) rfl rfl ⟨fun _ => Or.inr ⟨h26, rfl⟩, fun q => by omega⟩
          rw [if_pos (by omega)] at hR
          rw [e36, e34]
          exact hR
    · rw [if_neg h6]
      exact Or.inl ⟨rfl, fun q => h6 q.2, Rk_f R⟩
  refine e_37 ⟨hc, ?_⟩
  by_cases c1 : c < 65
  · rw [if_pos c1, if_pos (by omega)]
    exact Or.inl ⟨rfl, fun q => by omega, Rk_f R⟩
  rw [if_neg c1]
  by_cases c2 : 90 < c
  · rw [if_pos c2]
    by_cases c3 : c < 97
    · rw [if_pos c3]
      exact Or.inl ⟨rfl, fun q => by omega, Rk_f R⟩
    · rw [if_neg c3]
      by_cases c4 : c < 107
      · rw [if_pos c4]
        exact main 0 (Or.inl ⟨rfl, by omega, by omega⟩)
      · rw [if_neg c4]
        exact Or.inl ⟨rfl, fun q => by omega, Rk_f R⟩
  · rw [if_neg c2]
    exact main 1 (Or.inr ⟨rfl, by omega, by omega⟩)
theorem q_35 {d : Nat} {u0 u : uS} {s : rS} {c j : Int} (hJ : JS s j) (R : Rk u0 u s) (hc : rI c) (j0 : 0 ≤ j) (j3 : j ≤ 300) (h2 : s 0 0 = 2) : cI (d + 4) 35 [.ref 24, iV c, iV j] u (fun x u' => (x = 0 ∧ stp s c j = none ∧ Rf u0 u') ∨ (x = 1 ∧ ∃ s', stp s c j = some s' ∧ Rk u0 u' s')) := by
  obtain ⟨r1, r2, r3, r4, r5, r6, r7, r8, r9, r10⟩ := id R
  obtain ⟨a1, a2, a3, a4, a5, a6, a7, a8, a9, a10, a11⟩ := id hJ
  have hst : stp s c j = if s 0 1 = 0 ∧ 30 ≤ s 0 3 then none else if c = 124 then some (sw (opn s) 0 1 0) else if c = 59 then some (sw (opn s) 0 0 0) else if ((65 ≤ c ∧ c ≤ 90) ∨ (97 ≤ c ∧ c ≤ 106)) ∧ opn s 3 (opn s 0 3 - 1) < 6 then some (sym1 (opn s) c j) else none := by
    unfold stp
    rw [if_neg (by omega), if_neg (by omega)]
  have tail : ∀ u1 : uS, Rk u0 u1 (opn s) → ¬ (s 0 1 = 0 ∧ 30 ≤ s 0 3) → (rI c) ∧ (if c = 124 then (∀ u19 : uS, u19 = wr u1 24 4 0 → (((1 : Int) = 0 ∧ stp s c j = none ∧ Rf u0 u19) ∨ ((1 : Int) = 1 ∧ ∃ s', stp s c j = some s' ∧ Rk u0 u19 s'))) else (if c = 59 then (∀ u22 : uS, u22 = wr u1 24 3 0 → (((1 : Int) = 0 ∧ stp s c j = none ∧ Rf u0 u22) ∨ ((1 : Int) = 1 ∧ ∃ s', stp s c j = some s' ∧ Rk u0 u22 s'))) else (cI (d + 3) 37 [.ref 24, iV c, iV j] u1 (fun r25 u24 => (r25 = 0 ∨ r25 = 1) ∧ ((r25 = 0 ∧ stp s c j = none ∧ Rf u0 u24) ∨ (r25 = 1 ∧ ∃ s', stp s c j = some s' ∧ Rk u0 u24 s')))))) := by
    intro u1 R1 hno
    obtain ⟨o1, o2, o3⟩ := JS_opn hJ h2 hno
    refine ⟨hc, ?_⟩
    by_cases c1 : c = 124
    · rw [if_pos c1]
      intro u19 e19
      rw [e19]
      refine Or.inr ⟨rfl, _, by rw [hst, if_neg hno, if_pos c1], (Rk_aw R1).2⟩
    rw [if_neg c1]
    by_cases c2 : c = 59
    · rw [if_pos c2]
      intro u19 e19
      rw [e19]
      refine Or.inr ⟨rfl, _, by rw [hst, if_neg hno, if_neg c1, if_pos c2], (Rk_aw R1).1⟩
    rw [if_neg c2]
    refine cI.mono (q_37 (d := d) o1 R1 hc j0 j3 o3) (Nat.le_refl _) (fun x u' hx => ?_)
    rcases hx with ⟨q1, q2, q3⟩ | ⟨q1, q2, q3⟩
    · exact ⟨Or.inl q1, Or.inl ⟨q1, by rw [hst, if_neg hno, if_neg c1, if_neg c2, if_neg q2], q3⟩⟩
    · exact ⟨Or.inr q1, Or.inr ⟨q1, _, by rw [hst, if_neg hno, if_neg c1, if_neg c2, if_pos q2], q3⟩⟩
  refine e_35 (d := d + 2) ?_
  rw [r5]
  refine ⟨by rcases a2 with q | q <;> rw [q] <;> decide, ?_⟩
  by_cases h0 : s 0 1 = 0
  · rw [if_pos h0, r2, r7]
    refine ⟨sx_15, ⟨by omega, by omega⟩, ?_⟩
    by_cases h30 : s 0 3 < 30
    · rw [if_pos h30]
      refine ⟨by omega, fun u7 e7 => ?_⟩
      rw [r6] at e7
      have e7 : u7 = wr u 17 (s 0 3) (s 0 2 - 1) := e7
      have f7 : u7.1 15 1 = s 0 3 := by rw [e7, wr_ne (by decide)]; exact r7
      rw [f7]
      refine ⟨by omega, h30, fun u11 e11 u13 e13 u15 e15 => ?_⟩
      have e11 : u11 = wr u7 18 (s 0 3) 0 := e11
      have f11 : u11.1 15 1 = s 0 3 := by rw [e11, wr_ne (by decide)]; exact f7
      rw [f11] at e13
      have hR := Rk_opn R h0
      rw [← e7, ← e11, ← e13, ← e15] at hR
      exact tail u15 hR (fun q => by omega)
    · rw [if_neg h30]
      exact Or.inl ⟨rfl, by rw [hst, if_pos ⟨h0, by omega⟩], Rk_f R⟩
  · rw [if_neg h0]
    have hR : Rk u0 u (opn s) := by rw [opn_1 h0]; exact R
    exact tail u hR (fun q => h0 q.1)
theorem q_31 {d : Nat} {u0 u : uS} {s : rS} {c j : Int} (hJ : JS s j) (R : Rk u0 u s) (hc : rI c) (j0 : 0 ≤ j) (j3 : j ≤ 300) : cI (d + 5) 31 [.ref 24, iV c, iV j] u (fun x u' => (x = 0 ∧ stp s c j = none ∧ Rf u0 u') ∨ (x = 1 ∧ ∃ s', stp s c j = some s' ∧ Rk u0 u' s')) := by
  obtain ⟨r1, r2, r3, r4, r5, r6, r7, r8, r9, r10⟩ := id R
  obtain ⟨a1, a2, a3, a4, a5, a6, a7, a8, a9, a10, a11⟩ := id hJ
  have post : ∀ {x : Int} {u' : uS}, ((x = 0 ∧ stp s c j = none ∧ Rf u0 u') ∨ (x = 1 ∧ ∃ s', stp s c j = some s' ∧ Rk u0 u' s')) → (x = 0 ∨ x = 1) := fun h => by
    rcases h with h | h
    · exact Or.inl h.1
    · exact Or.inr h.1
  refine e_31 ?_
  rw [r4]
  refine ⟨by rcases a1 with q | q | q <;> rw [q] <;> decide, ?_⟩
  by_cases h0 : s 0 0 = 0
  · rw [if_pos h0]
    exact cI.mono (q_32 (d := d + 2) hJ R hc h0) (Nat.le_refl _) (fun x u' hx => ⟨post hx, hx⟩)
  rw [if_neg h0]
  by_cases h1 : s 0 0 = 1
  · rw [if_pos h1]
    intro u7 e7 u9 e9
    have hst : stp s c j = if c = 61 then some (sw (sw s 0 0 2) 0 1 0) else none := by
      unfold stp
      rw [if_neg h0, if_pos h1]
    have hR := (Rk_aw (v := 0) (Rk_aw (v := 2) R).1).2
    rw [← e7, ← e9] at hR
    refine ⟨hc, ?_⟩
    by_cases c1 : c = 61
    · rw [if_pos c1]
      exact Or.inr ⟨rfl, _, by rw [hst, if_pos c1], hR⟩
    · rw [if_neg c1]
      exact Or.inl ⟨rfl, by rw [hst, if_neg c1], Rk_f hR⟩
  · rw [if_neg h1]
    exact cI.mono (q_35 (d := d) hJ R hc j0 j3 (by omega)) (Nat.le_refl _) (fun x u' hx => ⟨post hx, hx⟩)
