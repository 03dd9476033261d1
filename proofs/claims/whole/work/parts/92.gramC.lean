/-! One side reads a grammar: sign by sign -/
abbrev grL : List Nat := [15, 16, 17, 18, 19, 24, 25, 26]
def oc (s : rS) (r d : Int) : Prop := 0 ≤ r ∧ r < s 0 3 ∧ 0 ≤ d ∧ d < s 3 r
def agC (u : uS) (s : rS) : Prop := (∀ x, 0 ≤ x → x < s 0 2 → u.1 16 x = s 1 x) ∧ (∀ r, 0 ≤ r → r < s 0 3 → u.1 17 r = s 2 r ∧ u.1 18 r = s 3 r ∧ ∀ d, 0 ≤ d → d < s 3 r → u.1 19 (r * 6 + d) = s 4 (6 * r + d))
def nuC (s : rS) (g : Int → Int) : Prop := ∀ m, 0 ≤ m → m < 26 → (g m = -1 ∧ ∀ x, 0 ≤ x → x < s 0 2 → s 1 x ≠ 65 + m) ∨ (0 ≤ g m ∧ g m < s 0 2 ∧ s 1 (g m) = 65 + m)
def usF (s : rS) (g : Int → Int) : Prop := ∀ m, 0 ≤ m → m < 26 → (g m = -1 ∧ ∀ r d, oc s r d → s 4 (6 * r + d) ≠ 100 + m) ∨ (0 ≤ g m ∧ (∃ r d, oc s r d ∧ s 4 (6 * r + d) = 100 + m ∧ s 5 (6 * r + d) = g m) ∧ ∀ r d, oc s r d → s 4 (6 * r + d) = 100 + m → g m ≤ s 5 (6 * r + d))
def Rk (u0 u : uS) (s : rS) : Prop := sb1 u0 u grL ∧ u.2 24 2 = 15 ∧ (∀ b, b ≠ 24 → u.2 b = u0.2 b) ∧ u.1 24 3 = s 0 0 ∧ u.1 24 4 = s 0 1 ∧ u.1 15 0 = s 0 2 ∧ u.1 15 1 = s 0 3 ∧ agC u s ∧ nuC s (u.1 25) ∧ usF s (u.1 26)
def Rf (u0 u : uS) : Prop := sb1 u0 u grL ∧ (∀ b, b ≠ 24 → u.2 b = u0.2 b)
theorem Rk_f {u0 u : uS} {s : rS} (h : Rk u0 u s) : Rf u0 u := ⟨h.1, h.2.2.1⟩
theorem q_32 {d : Nat} {u0 u : uS} {s : rS} {c j : Int} (hJ : JS s j) (R : Rk u0 u s) (hc : rI c) (h0 : s 0 0 = 0) : cI (d + 2) 32 [.ref 24, iV c] u (fun x u' => (x = 0 ∧ stp s c j = none ∧ Rf u0 u') ∨ (x = 1 ∧ ∃ s', stp s c j = some s' ∧ Rk u0 u' s')) := by
  obtain ⟨r1, r2, r3, r4, r5, r6, r7, r8, r9, r10⟩ := id R
  obtain ⟨a1, a2, a3, a4, a5, a6, a7, a8, a9, a10, a11⟩ := id hJ
  have hst : stp s c j = if (65 ≤ c ∧ c ≤ 90) ∧ s 0 2 < 10 ∧ hN (s 1) c (s 0 2).toNat = false then some (sw (sw (sw s 1 (s 0 2) c) 0 2 (s 0 2 + 1)) 0 0 1) else none := by
    unfold stp
    rw [if_pos h0]
  refine e_32 ⟨hc, ?_⟩
  by_cases c1 : c < 65
  · rw [if_pos c1]
    exact Or.inl ⟨rfl, by rw [hst, if_neg (by omega)], Rk_f R⟩
  rw [if_neg c1]
  by_cases c2 : 90 < c
  · rw [if_pos c2]
    exact Or.inl ⟨rfl, by rw [hst, if_neg (by omega)], Rk_f R⟩
  rw [if_neg c2]
  have hn := r9 (c - 65) (by omega) (by omega)
  refine ⟨by omega, by omega, ?_, ?_⟩
  · rcases hn with q | q
    · exact ⟨by omega, by omega⟩
    · exact ⟨by omega, by omega⟩
  by_cases c3 : u.1 25 (c - 65) = -1
  · rw [if_pos c3, r2, r6]
    refine ⟨sx_15, ⟨by omega, by omega⟩, ?_⟩
    have hno : hN (s 1) c (s 0 2).toNat = false := by
      cases hh : hN (s 1) c (s 0 2).toNat with
      | false => rfl
      | true =>
        obtain ⟨x, x0, x1, x2⟩ := (hN_iff _).mp hh
        rcases hn with q | q
        · exact absurd (by omega) (q.2 x x0 (by omega))
        · omega
    by_cases c4 : s 0 2 < 10
    · rw [if_pos c4]
      intro u11 e11
      have e11' : u11.2 24 2 = 15 := by rw [e11, wr_2]; exact r2
      have e15 : u11.1 15 0 = s 0 2 := by rw [e11, wr_ne (by decide)]; exact r6
      rw [e11', e15]
      refine ⟨sx_15, by omega, c4, fun u16 e16 u18 e18 u20 e20 => ?_⟩
      have f16 : u16.1 15 0 = s 0 2 := by rw [e16, wr_ne (by decide)]; exact e15
      rw [f16] at e18
      refine Or.inr ⟨rfl, _, by rw [hst, if_pos ⟨⟨by omega, by omega⟩, c4, hno⟩], ?_⟩
      have g25 : u20.1 25 = uf (u.1 25) (c - 65) (s 0 2) := by rw [e20, e18, e16, e11, wr_ne (by decide), wr_ne (by decide), wr_ne (by decide), wr_uf]
      have g16 : u20.1 16 = uf (u.1 16) (s 0 2) c := by rw [e20, e18, e16, e11, wr_ne (by decide), wr_ne (by decide), wr_uf, wr_ne (by decide)]
      have gk : ∀ b, b ≠ 25 → b ≠ 16 → b ≠ 15 → b ≠ 24 → u20.1 b = u.1 b := fun b b1 b2 b3 b4 => by rw [e20, e18, e16, e11, wr_ne b4, wr_ne b3, wr_ne b2, wr_ne b1]
      refine ⟨?_, ?_, ?_, ?_, ?_, ?_, ?_, ?_, ?_, ?_⟩
      · rw [e20, e18, e16, e11]
        exact sb1_wr (sb1_wr (sb1_wr (sb1_wr r1 (by decide)) (by decide)) (by decide)) (by decide)
      · rw [e20, e18, e16, e11]; exact r2
      · rw [e20, e18, e16, e11]; exact r3
      · rw [e20, wr_self]; simp [sw]
      · rw [e20, wr_1, if_neg (by decide), e18, wr_ne (by decide), e16, wr_ne (by decide), e11, wr_ne (by decide), r5]; simp [sw]
      · rw [e20, wr_ne (by decide), e18, wr_self]; simp [sw]
      · rw [e20, wr_ne (by decide), e18, wr_1, if_neg (by decide), e16, wr_ne (by decide), e11, wr_ne (by decide), r7]; simp [sw]
      · have z2 : sw (sw (sw s 1 (s 0 2) c) 0 2 (s 0 2 + 1)) 0 0 1 0 2 = s 0 2 + 1 := by simp [sw]
        have z3 : sw (sw (sw s 1 (s 0 2) c) 0 2 (s 0 2 + 1)) 0 0 1 0 3 = s 0 3 := by simp [sw]
        have z1 : sw (sw (sw s 1 (s 0 2) c) 0 2 (s 0 2 + 1)) 0 0 1 1 = uf (s 1) (s 0 2) c := by rw [sw_ne (by decide), sw_ne (by decide), sw_uf]
        have zk : ∀ k, k ≠ 0 → k ≠ 1 → sw (sw (sw s 1 (s 0 2) c) 0 2 (s 0 2 + 1)) 0 0 1 k = s k := fun k k0 k1 => by rw [sw_ne k0, sw_ne k0, sw_ne k1]
        unfold agC
        rw [z1, z2, z3, zk 2 (by decide) (by decide), zk 3 (by decide) (by decide), zk 4 (by decide) (by decide), g16, gk 17 (by decide) (by decide) (by decide) (by decide), gk 18 (by decide) (by decide) (by decide) (by decide), gk 19 (by decide) (by decide) (by decide) (by decide)]
        refine ⟨fun x x0 x1 => ?_, r8.2⟩
        by_cases e : x = s 0 2
        · rw [e, uf_eq, uf_eq]
        · rw [uf_ne e, uf_ne e]
          exact r8.1 x x0 (by omega)
      · have z2 : sw (sw (sw s 1 (s 0 2) c) 0 2 (s 0 2 + 1)) 0 0 1 0 2 = s 0 2 + 1 := by simp [sw]
        have z1 : sw (sw (sw s 1 (s 0 2) c) 0 2 (s 0 2 + 1)) 0 0 1 1 = uf (s 1) (s 0 2) c := by rw [sw_ne (by decide), sw_ne (by decide), sw_uf]
        unfold nuC
        rw [z1, z2, g25]
        intro m m0 m1
        by_cases e : m = c - 65
        · rw [e, uf_eq, uf_eq]
          exact Or.inr ⟨by omega, by omega, by omega⟩
        · rw [uf_ne e]
          rcases r9 m m0 m1 with q | q
          · refine Or.inl ⟨q.1, fun x x0 x1 => ?_⟩
            by_cases ex : x = s 0 2
            · rw [ex, uf_eq]; omega
            · rw [uf_ne ex]; exact q.2 x x0 (by omega)
          · refine Or.inr ⟨q.1, by omega, ?_⟩
            rw [uf_ne (by omega)]
            exact q.2.2
      · have z3 : sw (sw (sw s 1 (s 0 2) c) 0 2 (s 0 2 + 1)) 0 0 1 0 3 = s 0 3 := by simp [sw]
        have zk : ∀ k, k ≠ 0 → k ≠ 1 → sw (sw (sw s 1 (s 0 2) c) 0 2 (s 0 2 + 1)) 0 0 1 k = s k := fun k k0 k1 => by rw [sw_ne k0, sw_ne k0, sw_ne k1]
        unfold usF oc
        rw [z3, zk 3 (by decide) (by decide), zk 4 (by decide) (by decide), zk 5 (by decide) (by decide), gk 26 (by decide) (by decide) (by decide) (by decide)]
        exact r10
    · rw [if_neg c4]
      exact Or.inl ⟨rfl, by rw [hst, if_neg (by omega)], Rk_f R⟩
  · rw [if_neg c3]
    refine Or.inl ⟨rfl, ?_, Rk_f R⟩
    rw [hst, if_neg]
    rintro ⟨-, -, q⟩
    rcases hn with z | z
    · exact c3 z.1
    · have := (hN_iff (nm := s 1) (c := c) (s 0 2).toNat).mpr ⟨u.1 25 (c - 65), z.1, by omega, by rw [z.2.2]; omega⟩
      rw [q] at this
      cases this
/-- a rule is opened -/
theorem Rk_opn {u0 u : uS} {s : rS} (R : Rk u0 u s) (h0 : s 0 1 = 0) : Rk u0 (wr (wr (wr (wr u 17 (s 0 3) (s 0 2 - 1)) 18 (s 0 3) 0) 15 1 (s 0 3 + 1)) 24 4 1) (opn s) := by
  obtain ⟨r1, r2, r3, r4, r5, r6, r7, r8, r9, r10⟩ := id R
  obtain ⟨o1, o2, o3, o4⟩ := opn_0 h0
  have g17 : (wr (wr (wr (wr u 17 (s 0 3) (s 0 2 - 1)) 18 (s 0 3) 0) 15 1 (s 0 3 + 1)) 24 4 1).1 17 = uf (u.1 17) (s 0 3) (s 0 2 - 1) := by rw [wr_ne (by decide), wr_ne (by decide), wr_ne (by decide), wr_uf]
  have g18 : (wr (wr (wr (wr u 17 (s 0 3) (s 0 2 - 1)) 18 (s 0 3) 0) 15 1 (s 0 3 + 1)) 24 4 1).1 18 = uf (u.1 18) (s 0 3) 0 := by rw [wr_ne (by decide), wr_ne (by decide), wr_uf, wr_ne (by decide)]
  have gk : ∀ b, b ≠ 17 → b ≠ 18 → b ≠ 15 → b ≠ 24 → (wr (wr (wr (wr u 17 (s 0 3) (s 0 2 - 1)) 18 (s 0 3) 0) 15 1 (s 0 3 + 1)) 24 4 1).1 b = u.1 b := fun b b1 b2 b3 b4 => by rw [wr_ne b4, wr_ne b3, wr_ne b2, wr_ne b1]
  have hoc : ∀ r d, oc (opn s) r d ↔ oc s r d := fun r d => by
    unfold oc
    rw [o2, o4]
    by_cases e : r = s 0 3
    · rw [e, uf_eq]
      constructor
      · intro q; omega
      · intro q; omega
    · rw [uf_ne e]
      constructor
      · intro q; exact ⟨q.1, by omega, q.2.2⟩
      · intro q; exact ⟨q.1, by omega, q.2.2⟩
  refine ⟨sb1_wr (sb1_wr (sb1_wr (sb1_wr r1 (by decide)) (by decide)) (by decide)) (by decide), r2, r3, ?_, ?_, ?_, ?_, ?_, ?_, ?_⟩
  · rw [wr_1, if_neg (by decide), wr_ne (by decide), wr_ne (by decide), wr_ne (by decide), opn_00]; exact r4
  · rw [wr_self]; exact o1.symm
  · rw [wr_ne (by decide), wr_1, if_neg (by decide), wr_ne (by decide), wr_ne (by decide), opn_02]; exact r6
  · rw [wr_ne (by decide), wr_self]; exact o2.symm
  · unfold agC
    rw [g17, g18, gk 16 (by decide) (by decide) (by decide) (by decide), gk 19 (by decide) (by decide) (by decide) (by decide), opn_02, opn_n, o2, o3, o4, opn_4.1]
    refine ⟨r8.1, fun r r0 r1 => ?_⟩
    by_cases e : r = s 0 3
    · rw [e, uf_eq, uf_eq, uf_eq, uf_eq]
      exact ⟨rfl, rfl, fun d d0 d1 => by omega⟩
    · rw [uf_ne e, uf_ne e, uf_ne e, uf_ne e]
      exact r8.2 r r0 (by omega)
  · unfold nuC
    rw [gk 25 (by decide) (by decide) (by decide) (by decide), opn_02, opn_n]
    exact r9
  · unfold usF
    rw [gk 26 (by decide) (by decide) (by decide) (by decide), opn_4.1, opn_4.2]
    intro m m0 m1
    rcases r10 m m0 m1 with q | ⟨q1, ⟨r, d, q2, q3⟩, q4⟩
    · exact Or.inl ⟨q.1, fun r d h => q.2 r d ((hoc r d).mp h)⟩
    · exact Or.inr ⟨q1, ⟨r, d, (hoc r d).mpr q2, q3⟩, fun r d h => q4 r d ((hoc r d).mp h)⟩
/-- the state of reading alone changes -/
theorem Rk_aw {u0 u : uS} {s : rS} {v : Int} (R : Rk u0 u s) : Rk u0 (wr u 24 3 v) (sw s 0 0 v) ∧ Rk u0 (wr u 24 4 v) (sw s 0 1 v) := by
  obtain ⟨r1, r2, r3, r4, r5, r6, r7, r8, r9, r10⟩ := id R
  constructor
  · have zk : ∀ k, k ≠ 0 → sw s 0 0 v k = s k := fun k hk => sw_ne hk
    have z1 : sw s 0 0 v 0 1 = s 0 1 := by simp [sw]
    have z2 : sw s 0 0 v 0 2 = s 0 2 := by simp [sw]
    have z3 : sw s 0 0 v 0 3 = s 0 3 := by simp [sw]
    refine ⟨sb1_wr r1 (by decide), r2, r3, by rw [wr_self]; simp [sw], by rw [wr_1, if_neg (by decide), z1]; exact r5, by rw [wr_ne (by decide), z2]; exact r6, by rw [wr_ne (by decide), z3]; exact r7, ?_, ?_, ?_⟩
    · unfold agC
      rw [wr_ne (by decide), wr_ne (by decide), wr_ne (by decide), wr_ne (by decide), z2, z3, zk 1 (by decide), zk 2 (by decide), zk 3 (by decide), zk 4 (by decide)]
      exact r8
    · unfold nuC
      rw [wr_ne (by decide), z2, zk 1 (by decide)]
      exact r9
    · unfold usF oc
      rw [wr_ne (by decide), z3, zk 3 (by decide), zk 4 (by decide), zk 5 (by decide)]
      exact r10
  · have zk : ∀ k, k ≠ 0 → sw s 0 1 v k = s k := fun k hk => sw_ne hk
    have z1 : sw s 0 1 v 0 0 = s 0 0 := by simp [sw]
    have z2 : sw s 0 1 v 0 2 = s 0 2 := by simp [sw]
    have z3 : sw s 0 1 v 0 3 = s 0 3 := by simp [sw]
    refine ⟨sb1_wr r1 (by decide), r2, r3, by rw [wr_1, if_neg (by decide), z1]; exact r4, by rw [wr_self]; simp [sw], by rw [wr_ne (by decide), z2]; exact r6, by rw [wr_ne (by decide), z3]; exact r7, ?_, ?_, ?_⟩
    · unfold agC
      rw [wr_ne (by decide), wr_ne (by decide), wr_ne (by decide), wr_ne (by decide), z2, z3, zk 1 (by decide), zk 2 (by decide), zk 3 (by decide), zk 4 (by decide)]
      exact r8
    · unfold nuC
      rw [wr_ne (by decide), z2, zk 1 (by decide)]
      exact r9
    · unfold usF oc
      rw [wr_ne (by decide), z3, zk 3 (by decide), zk 4 (by decide), zk 5 (by decide)]
      exact r10
/-- a symbol is written -/
theorem Rk_sym {u0 u : uS} {s : rS} {c j : Int} {f26 : Int → Int} (hJ : JS s j) (R : Rk u0 u s) (hn : 1 ≤ s 0 3) (h6 : s 3 (s 0 3 - 1) < 6) (hc : (65 ≤ c ∧ c ≤ 90) ∨ (97 ≤ c ∧ c ≤ 106)) (j0 : 0 ≤ j) {u1 : uS} (hu1 : ∀ b, b ≠ 26 → u1.1 b = u.1 b) (hu2 : u1.2 = u.2) (h26 : u1.1 26 = f26) (hf : (c < 97 → (u.1 26 (c - 65) = -1 ∧ f26 = uf (u.1 26) (c - 65) j) ∨ (u.1 26 (c - 65) ≠ -1 ∧ f26 = u.1 26)) ∧ (¬ c < 97 → f26 = u.1 26)) : Rk u0 (wr (wr u1 19 ((s 0 3 - 1) * 6 + s 3 (s 0 3 - 1)) (if c < 97 then 100 + c - 65 else c - 97)) 18 (s 0 3 - 1) (s 3 (s 0 3 - 1) + 1)) (sym1 s c j) := by
  obtain ⟨r1, r2, r3, r4, r5, r6, r7, r8, r9, r10⟩ := id R
  obtain ⟨a1, a2, a3, a4, a5, a6, a7, a8, a9, a10, a11⟩ := id hJ
  have e0 : sym1 s c j 0 = s 0 := by
    unfold sym1
    rw [sw_ne (by decide), sw_ne (by decide), sw_ne (by decide)]
  have e1 : sym1 s c j 1 = s 1 := by
    unfold sym1
    rw [sw_ne (by decide), sw_ne (by decide), sw_ne (by decide)]
  have e2 : sym1 s c j 2 = s 2 := by
    unfold sym1
    rw [sw_ne (by decide), sw_ne (by decide), sw_ne (by decide)]
  have e3 : sym1 s c j 3 = uf (s 3) (s 0 3 - 1) (s 3 (s 0 3 - 1) + 1) := by
    unfold sym1
    rw [sw_uf, sw_ne (by decide), sw_ne (by decide)]
  have e4 : sym1 s c j 4 = uf (s 4) (6 * (s 0 3 - 1) + s 3 (s 0 3 - 1)) (if c < 97 then 100 + c - 65 else c - 97) := by
    unfold sym1
    rw [sw_ne (by decide), sw_ne (by decide), sw_uf]
  have e5 : sym1 s c j 5 = uf (s 5) (6 * (s 0 3 - 1) + s 3 (s 0 3 - 1)) j := by
    unfold sym1
    rw [sw_ne (by decide), sw_uf, sw_ne (by decide)]
  have hin : ∀ r d, oc (sym1 s c j) r d → (6 * r + d = 6 * (s 0 3 - 1) + s 3 (s 0 3 - 1) ∧ r = s 0 3 - 1 ∧ d = s 3 (s 0 3 - 1)) ∨ (6 * r + d ≠ 6 * (s 0 3 - 1) + s 3 (s 0 3 - 1) ∧ oc s r d) := by
    intro r d h
    unfold oc at h
    rw [e0, e3] at h
    obtain ⟨r0, r1, d0, d1⟩ := h
    by_cases e : r = s 0 3 - 1
    · rw [e, uf_eq] at d1
      by_cases e2 : d = s 3 (s 0 3 - 1)
      · exact Or.inl ⟨by rw [e, e2], e, e2⟩
      · exact Or.inr ⟨by rw [e]; omega, r0, r1, d0, by rw [e]; omega⟩
    · rw [uf_ne e] at d1
      have := a10 r r0 r1
      have := a10 (s 0 3 - 1) (by omega) (by omega)
      exact Or.inr ⟨by omega, r0, r1, d0, d1⟩
  have hold : ∀ r d, oc s r d → oc (sym1 s c j) r d ∧ 6 * r + d ≠ 6 * (s 0 3 - 1) + s 3 (s 0 3 - 1) := by
    rintro r d ⟨r0, r1, d0, d1⟩
    unfold oc
    rw [e0, e3]
    have := a10 r r0 r1
    have := a10 (s 0 3 - 1) (by omega) (by omega)
    by_cases e : r = s 0 3 - 1
    · rw [e, uf_eq]
      rw [e] at d1
      exact ⟨⟨by omega, by omega, d0, by omega⟩, by omega⟩
    · rw [uf_ne e]
      exact ⟨⟨r0, r1, d0, d1⟩, by omega⟩
  have hnew : oc (sym1 s c j) (s 0 3 - 1) (s 3 (s 0 3 - 1)) := by
    unfold oc
    rw [e0, e3, uf_eq]
    have := a10 (s 0 3 - 1) (by omega) (by omega)
    exact ⟨by omega, by omega, by omega, by omega⟩
  generalize hv : (if c < 97 then 100 + c - 65 else c - 97) = v at *
  refine ⟨?_, ?_, ?_, ?_, ?_, ?_, ?_, ?_, ?_, ?_⟩
  · refine sb1_wr (sb1_wr (fun b hb => ?_) (by decide)) (by decide)
    rw [hu1 b (fun q => hb (by rw [q]; decide))]
    exact r1 b hb
  · show u1.2 24 2 = 15
    rw [hu2]; exact r2
  · show ∀ b, b ≠ 24 → u1.2 b = u0.2 b
    rw [hu2]; exact r3
  · rw [wr_ne (by decide), wr_ne (by decide), hu1 24 (by decide), e0]; exact r4
  · rw [wr_ne (by decide), wr_ne (by decide), hu1 24 (by decide), e0]; exact r5
  · rw [wr_ne (by decide), wr_ne (by decide), hu1 15 (by decide), e0]; exact r6
  · rw [wr_ne (by decide), wr_ne (by decide), hu1 15 (by decide), e0]; exact r7
  · unfold agC
    rw [wr_ne (b := 16) (by decide), wr_ne (b := 16) (by decide), hu1 16 (by decide), wr_ne (b := 17) (by decide), wr_ne (b := 17) (by decide), hu1 17 (by decide), wr_uf, wr_ne (b := 18) (by decide), hu1 18 (by decide), wr_ne (b := 19) (by decide), wr_uf, hu1 19 (by decide), e0, e1, e2, e3, e4]
    refine ⟨r8.1, fun r r0 r1 => ⟨(r8.2 r r0 r1).1, ?_, fun d d0 d1 => ?_⟩⟩
    · by_cases e : r = s 0 3 - 1
      · rw [e, uf_eq, uf_eq]
      · rw [uf_ne e, uf_ne e]
        exact (r8.2 r r0 r1).2.1
    · have hoc : oc (sym1 s c j) r d := by
        unfold oc
        rw [e0, e3]
        exact ⟨r0, r1, d0, d1⟩
      rcases hin r d hoc with ⟨h1, h2, h3⟩ | ⟨h1, h2⟩
      · rw [h1, uf_eq, h2, h3, uf_eq]
      · rw [uf_ne h1, uf_ne (by omega)]
        exact (r8.2 r r0 r1).2.2 d d0 h2.2.2.2
  · unfold nuC
    rw [wr_ne (by decide), wr_ne (by decide), hu1 25 (by decide), e0, e1]
    exact r9
  · unfold usF
    rw [wr_ne (by decide), wr_ne (by decide), h26, e4, e5]
    intro m m0 m1
    by_cases hm : v = 100 + m
    · have hc97 : c < 97 := by
        refine Classical.byContradiction (fun q => ?_)
        rw [if_neg q] at hv
        omega
      have hmc : m = c - 65 := by
        rw [if_pos hc97] at hv
        omega
      rcases hf.1 hc97 with ⟨q1, q2⟩ | ⟨q1, q2⟩
      · rw [q2, hmc, uf_eq]
        refine Or.inr ⟨j0, ⟨s 0 3 - 1, s 3 (s 0 3 - 1), hnew, by rw [uf_eq]; omega, by rw [uf_eq]⟩, fun r d h hs => ?_⟩
        rcases hin r d h with ⟨h1, h2, h3⟩ | ⟨h1, h2⟩
        · rw [h1, uf_eq]
          exact Int.le_refl j
        · rw [uf_ne h1] at hs
          rcases r10 m m0 m1 with z | z
          · exact absurd (by omega) (z.2 r d h2)
          · rw [hmc] at z
            omega
      · rw [q2]
        rcases r10 m m0 m1 with z | ⟨z1, ⟨r', d', z2, z3, z4⟩, z5⟩
        · rw [hmc] at z
          exact absurd z.1 q1
        · refine Or.inr ⟨z1, ⟨r', d', (hold r' d' z2).1, by rw [uf_ne (hold r' d' z2).2]; exact z3, by rw [uf_ne (hold r' d' z2).2]; exact z4⟩, fun r d h hs => ?_⟩
          rcases hin r d h with ⟨h1, h2, h3⟩ | ⟨h1, h2⟩
          · rw [h1, uf_eq]
            have := (a10 r' z2.1 z2.2.1).2.2.2.2 d' z2.2.2.1 z2.2.2.2
            omega
          · rw [uf_ne h1] at hs ⊢
            exact z5 r d h2 hs
    · have hf26 : f26 m = u.1 26 m := by
        by_cases hc97 : c < 97
        · have hmc : m ≠ c - 65 := fun q => by
            rw [if_pos hc97] at hv
            omega
          rcases hf.1 hc97 with ⟨q1, q2⟩ | ⟨q1, q2⟩
          · rw [q2, uf_ne hmc]
          · rw [q2]
        · rw [hf.2 hc97]
      rw [hf26]
      rcases r10 m m0 m1 with z | ⟨z1, ⟨r', d', z2, z3, z4⟩, z5⟩
      · refine Or.inl ⟨z.1, fun r d h => ?_⟩
        rcases hin r d h with ⟨h1, h2, h3⟩ | ⟨h1, h2⟩
        · rw [h1, uf_eq]; exact hm
        · rw [uf_ne h1]; exact z.2 r d h2
      · refine Or.inr ⟨z1, ⟨r', d', (hold r' d' z2).1, by rw [uf_ne (hold r' d' z2).2]; exact z3, by rw [uf_ne (hold r' d' z2).2]; exact z4⟩, fun r d h hs => ?_⟩
        rcases hin r d h with ⟨h1, h2, h3⟩ | ⟨h1, h2⟩
        · rw [h1, uf_eq] at hs; exact absurd hs hm
        · rw [uf_ne h1] at hs ⊢
          exact z5 r d h2 hs
