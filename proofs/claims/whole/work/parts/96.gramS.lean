/-! The other side reads a grammar: alternatives, parts, all -/
def AltR (f : Int → Int) (n : Nat) (v0 v : uS) (s : rS) (j : Nat) : Prop := rd f j = some s ∧ s 0 0 = 2 ∧ ¬ (s 0 1 = 0 ∧ 30 ≤ s 0 3) ∧ RvD v0 v (opn s) j ∧ j ≤ n ∧ (j = n ∨ (j < n ∧ f j ≠ 32 ∧ ¬ ((65 ≤ f j ∧ f j ≤ 90) ∨ (97 ≤ f j ∧ f j ≤ 106))))
section GR
variable {d n : Nat} {f : Int → Int} {v0 v : uS} {s : rS} {j : Nat}
theorem flt_end (h : rd f n = some s) (h0 : s 0 0 ≠ 0 ∨ s 0 2 = 0) : flt f n n := Or.inr ⟨rfl, s, h, h0⟩
theorem q_212 (hn : n ≤ 300) (hr : ∀ j : Nat, j < n → 32 ≤ f j ∧ f j ≤ 126) (h1 : v0.1 271 1 = n) (h2 : v0.1 272 = f) (hs : rd f j = some s) (hj : j ≤ n) (h00 : s 0 0 = 2) (h01 : s 0 1 = 0) (R : RvD v0 v s j) : cV (d + 3) 212 [.ref 271, iV (s 0 2 - 1)] v (fun v' => FvK 0 f n v0 v' ∨ ∃ s' j', j ≤ j' ∧ AltR f n v0 v' s' j' ∧ s' 0 2 = s 0 2) := by
  have hrI : ∀ j : Nat, j < n → rI (f j) := fun j hj => by have := hr j hj; exact ⟨by omega, by omega⟩
  have loop : ∀ (m j1 : Nat) (s1 : rS) (v1 : uS) (c : Int), n ≤ j1 + m → j ≤ j1 → j1 ≤ n → rd f j1 = some s1 → s1 0 0 = 2 → s1 0 2 = s 0 2 → ¬ (s1 0 1 = 0 ∧ 30 ≤ s1 0 3) → RvD v0 v1 (opn s1) j1 → ((j1 < n ∧ f j1 ≠ 32 ∧ c = f j1) ∨ (j1 = n ∧ c = 0)) → K_212 (d + 2) 48 [.ref 271, .retAddr 0, iV c, iV (opn s1 0 3 - 1)] [] v1 (fun v' => FvK 0 f n v0 v' ∨ ∃ s' j', j ≤ j' ∧ AltR f n v0 v' s' j' ∧ s' 0 2 = s 0 2) := by
    intro m
    induction m with
    | zero =>
      intro j1 s1 v1 c hm hj1 hj2 hs1 a0 a2 a3 R1 hc
      have ej : j1 = n := by omega
      have ec : c = 0 := by
        rcases hc with q | q
        · omega
        · exact q.2
      refine k_212_48 ⟨by rw [ec]; decide, ?_⟩
      rw [if_pos (by omega), if_pos (by omega)]
      exact Or.inr ⟨s1, j1, hj1, ⟨hs1, a0, a3, R1, hj2, Or.inl ej⟩, a2⟩
    | succ m ih =>
      intro j1 s1 v1 c hm hj1 hj2 hs1 a0 a2 a3 R1 hc
      have hcr : rI c := by
        rcases hc with q | q
        · rw [q.2.2]; exact hrI j1 q.1
        · rw [q.2]; decide
      have out : ¬ ((65 ≤ c ∧ c ≤ 90) ∨ (97 ≤ c ∧ c ≤ 106)) → (FvK 0 f n v0 v1 ∨ ∃ s' j', j ≤ j' ∧ AltR f n v0 v1 s' j' ∧ s' 0 2 = s 0 2) := by
        intro hno
        refine Or.inr ⟨s1, j1, hj1, ⟨hs1, a0, a3, R1, hj2, ?_⟩, a2⟩
        rcases hc with q | q
        · refine Or.inr ⟨q.1, q.2.1, ?_⟩
          rw [← q.2.2]
          exact hno
        · exact Or.inl q.1
      have hJ1 := rd_J j1 s1 hs1
      obtain ⟨o1, o2, o3⟩ := JS_opn hJ1 a0 a3
      obtain ⟨x1, x2, x3, x4, x5, x6⟩ := id R1
      have hb := o1.2.2.2.1
      have hlen := o1.2.2.2.2.2.2.2.2.2.1 (opn s1 0 3 - 1) (by omega) (by omega)
      have e280 : v1.1 280 (opn s1 0 3 - 1) = opn s1 3 (opn s1 0 3 - 1) := (x6.2 _ (by omega) (by omega)).2.1
      have sym : ((65 ≤ c ∧ c ≤ 90) ∨ (97 ≤ c ∧ c ≤ 106)) → K_212 (d + 2) 62 [.ref 271, .retAddr 0, iV c, iV (opn s1 0 3 - 1)] [] v1 (fun v' => FvK 0 f n v0 v' ∨ ∃ s' j', j ≤ j' ∧ AltR f n v0 v' s' j' ∧ s' 0 2 = s 0 2) := by
        intro hsym
        obtain ⟨hlt, hb32, ec⟩ : j1 < n ∧ f j1 ≠ 32 ∧ c = f j1 := by
          rcases hc with q | q
          · exact q
          · omega
        have hst : stp s1 c j1 = if opn s1 3 (opn s1 0 3 - 1) < 6 then some (sym1 (opn s1) c j1) else none := by
          unfold stp
          rw [if_neg (by omega), if_neg (by omega), if_neg a3, if_neg (by omega), if_neg (by omega)]
          by_cases h6 : opn s1 3 (opn s1 0 3 - 1) < 6
          · rw [if_pos ⟨hsym, h6⟩, if_pos h6]
          · rw [if_neg (fun q => h6 q.2), if_neg h6]
        refine k_212_62 ?_
        rw [x3, e280]
        refine ⟨by decide, ?_⟩
        rw [if_pos rfl]
        refine ⟨by omega, by omega, ⟨by omega, by omega⟩, ?_⟩
        by_cases h6 : opn s1 3 (opn s1 0 3 - 1) = 6
        · rw [if_pos h6]
          intro u8 e8
          refine Or.inl (RvD_flK R1 (Or.inl ⟨hlt, s1, hs1, hb32, ?_⟩) e8)
          rw [← ec, hst, if_neg (by omega)]
        · rw [if_neg h6]
          have h6' : opn s1 3 (opn s1 0 3 - 1) < 6 := by omega
          have hrd : rd f (j1 + 1) = some (sym1 (opn s1) c j1) := by
            rw [rd_s hs1 hb32, ← ec, hst, if_pos h6']
          have hnew : RvD v0 (wr (wr (wr v1 281 (6 * (opn s1 0 3 - 1) + opn s1 3 (opn s1 0 3 - 1)) (if c < 97 then 1000 + c else c - 97)) 282 (6 * (opn s1 0 3 - 1) + opn s1 3 (opn s1 0 3 - 1)) j1) 280 (opn s1 0 3 - 1) (opn s1 3 (opn s1 0 3 - 1) + 1)) (sym1 (opn s1) c j1) j1 := by
            rcases RvD_sym (c := c) o1 o3 h6' R1 with q | q
            · exact q
            · exact absurd hsym q
          have t0 : sym1 (opn s1) c j1 0 = opn s1 0 := by
            unfold sym1
            rw [sw_ne (by decide), sw_ne (by decide), sw_ne (by decide)]
          have topn : opn (sym1 (opn s1) c j1) = sym1 (opn s1) c j1 := opn_1 (by rw [t0, o2]; decide)
          -- the way on, behind the symbol
          have fin : ∀ (w : Int) (u14 : uS), w = (if c < 97 then 1000 + c else c - 97) → u14 = wr v1 281 (6 * (opn s1 0 3 - 1) + opn s1 3 (opn s1 0 3 - 1)) w → ((0 ≤ (6 * (opn s1 0 3 - 1)) + (u14.1 280 (opn s1 0 3 - 1))) ∧ (((6 * (opn s1 0 3 - 1)) + (u14.1 280 (opn s1 0 3 - 1)) < 180) ∧ (∀ u18 : uS, u18 = wr u14 282 ((6 * (opn s1 0 3 - 1)) + (u14.1 280 (opn s1 0 3 - 1))) (u14.1 271 4) → (∀ u20 : uS, u20 = wr u18 280 (opn s1 0 3 - 1) ((u18.1 280 (opn s1 0 3 - 1)) + 1) → (∀ u22 : uS, u22 = wr u20 271 4 ((u20.1 271 4) + 1) → (cI (d + 2) 208 [.ref 271] u22 (fun r25 u24 => K_212 (d + 2) 48 [.ref 271, .retAddr 0, iV r25, iV (opn s1 0 3 - 1)] [] u24 (fun v' => FvK 0 f n v0 v' ∨ ∃ s' j', j ≤ j' ∧ AltR f n v0 v' s' j' ∧ s' 0 2 = s 0 2)))))))) := by
            intro w u14 hw e14
            have k1 : u14.1 280 (opn s1 0 3 - 1) = opn s1 3 (opn s1 0 3 - 1) := by rw [e14, wr_ne (by decide)]; exact e280
            have k2 : u14.1 271 4 = j1 := by rw [e14, wr_ne (by decide)]; exact x2
            rw [k1, k2]
            refine ⟨by omega, by omega, fun u18 e18 u20 e20 u22 e22 => ?_⟩
            have k3 : u18.1 280 (opn s1 0 3 - 1) = opn s1 3 (opn s1 0 3 - 1) := by rw [e18, wr_ne (by decide)]; exact k1
            rw [k3] at e20
            have R20 : RvD v0 u20 (sym1 (opn s1) c j1) j1 := by
              rw [e20, e18, e14, hw]
              exact hnew
            have R22 := RvD_inc R20 e22
            refine cI.mono (p_208 (d := d) hn hrI h1 h2 hrd (by omega) R22) (Nat.le_refl _) (fun c' u24 h24 => ?_)
            obtain ⟨j', g1, g2, g3, g4, g5, g6⟩ := h24
            have key := ih j' (sym1 (opn s1) c j1) u24 c' (by omega) (by omega) g2 g3 (by rw [t0, opn_00]; exact a0) (by rw [t0, opn_02]; exact a2) (by rw [t0, o2]; rintro ⟨q, -⟩; exact absurd q (by decide)) (by rw [topn]; exact g4) g5
            rw [topn, t0] at key
            exact key
          refine ⟨hcr, ?_⟩
          by_cases q97 : c < 97
          · rw [if_pos q97]
            refine ⟨by omega, by omega, fun u14 e14 => ?_⟩
            exact fin (1000 + c) u14 (by rw [if_pos q97]) e14
          · rw [if_neg q97, if_neg (by omega)]
            refine ⟨by omega, by omega, fun u14 e14 => ?_⟩
            exact fin (c - 97) u14 (by rw [if_neg q97]) e14
      refine k_212_48 ⟨hcr, ?_⟩
      by_cases q97 : c < 97
      · rw [if_pos q97]
        by_cases q65 : c < 65
        · rw [if_pos q65]
          exact out (by omega)
        · rw [if_neg q65]
          by_cases q90 : 90 < c
          · rw [if_pos q90]
            exact out (by omega)
          · rw [if_neg q90]
            exact sym (Or.inl ⟨by omega, by omega⟩)
      · rw [if_neg q97]
        by_cases q106 : 106 < c
        · rw [if_pos q106, if_neg (by omega), if_pos (by omega)]
          exact out (by omega)
        · rw [if_neg q106]
          exact sym (Or.inr ⟨by omega, by omega⟩)
  refine e_212 (d := d + 1) (cI.mono (p_208 (d := d) hn hrI h1 h2 hs hj R) (Nat.le_refl _) (fun c u1 h => ?_))
  obtain ⟨j', g1, g2, g3, g4, g5, g6⟩ := h
  obtain ⟨x1, x2, x3, x4, x5, x6⟩ := id g4
  have hJ := rd_J j' s g3
  have hb := hJ.2.2.2.1
  rw [x5]
  refine ⟨⟨by omega, by omega⟩, ?_⟩
  by_cases h30 : s 0 3 = 30
  · rw [if_pos h30, x3]
    refine ⟨by decide, ?_⟩
    rw [if_pos rfl]
    intro u7 e7
    refine Or.inl (RvD_flK g4 ?_ e7)
    rcases g5 with ⟨b1, b2, b3⟩ | ⟨b1, b2⟩
    · refine Or.inl ⟨b1, s, g3, b2, ?_⟩
      unfold stp
      rw [if_neg (by omega), if_neg (by omega), if_pos ⟨h01, by omega⟩]
    · rw [b1] at g3 ⊢
      exact flt_end g3 (Or.inl (by omega))
  · rw [if_neg h30]
    intro u11 e11
    refine ⟨by omega, by omega, fun u15 e15 u17 e17 => ?_⟩
    have hR := RvD_opn g4 h01
    rw [← e11, ← e15, ← e17] at hR
    have key := loop n j' s u17 c (by omega) g1 g2 g3 h00 rfl (by rintro ⟨-, q⟩; omega) hR g5
    rw [(opn_0 h01).2.1, show s 0 3 + 1 - 1 = s 0 3 by omega] at key
    exact key
/-- behind a part: its fault, or the state at a head -/
def PartR (f : Int → Int) (n : Nat) (v0 v : uS) (j : Nat) : Prop := FvK 1 f n v0 v ∨ ∃ s' j', j < j' ∧ j' ≤ n ∧ rd f j' = some s' ∧ s' 0 0 = 0 ∧ 1 ≤ s' 0 2 ∧ RvD v0 v s' j'
theorem l_207 (hn : n ≤ 300) (hr : ∀ j : Nat, j < n → 32 ≤ f j ∧ f j ≤ 126) (h1 : v0.1 271 1 = n) (h2 : v0.1 272 = f) : ∀ (m j1 : Nat) (s1 : rS) (v1 : uS) (x : Int), n ≤ j1 + m → j ≤ j1 → x = s1 0 2 - 1 → AltR f n v0 v1 s1 j1 → K_207 (d + 3) 129 [.ref 271, .retAddr 0, .retAddr 0, iV x] [] v1 (fun v' => PartR f n v0 v' j) := by
  have hrI : ∀ j : Nat, j < n → rI (f j) := fun j hj => by have := hr j hj; exact ⟨by omega, by omega⟩
  intro m
  induction m with
  | zero =>
    intro j1 s1 v1 x hm hj1 hx hA
    obtain ⟨b1, b2, b3, b4, b5, b6⟩ := hA
    have ej : j1 = n := by omega
    refine k_207_129 ?_
    rw [b4.2.2.1]
    refine ⟨by decide, ?_⟩
    rw [if_pos rfl]
    refine cI.mono (p_208 (d := d + 1) hn hrI h1 h2 b1 b5 b4) (Nat.le_refl _) (fun c u3 h => ?_)
    obtain ⟨j', g1, g2, g3, g4, g5, g6⟩ := h
    have ec : c = 0 := by
      rcases g5 with q | q
      · omega
      · exact q.2
    rw [ec]
    refine ⟨by decide, ?_⟩
    rw [if_neg (by decide), g4.2.2.1]
    refine ⟨by decide, ?_⟩
    rw [if_pos rfl]
    refine cI.mono (p_208 (d := d + 1) hn hrI h1 h2 g3 g2 g4) (Nat.le_refl _) (fun c u12 h => ?_)
    obtain ⟨j'', k1, k2, k3, k4, k5, k6⟩ := h
    have ec : c = 0 := by
      rcases k5 with q | q
      · omega
      · exact q.2
    rw [ec]
    refine ⟨by decide, ?_⟩
    rw [if_neg (by decide), k4.2.2.1]
    refine ⟨by decide, ?_⟩
    rw [if_pos rfl]
    intro u20 e20 u22 e22
    refine Or.inl (FvK_inc (RvD_flK k4 ?_ e20) e22)
    have ej2 : j'' = n := by omega
    rw [ej2] at k3 ⊢
    exact flt_end k3 (Or.inl (by omega))
  | succ m ih =>
    intro j1 s1 v1 x hm hj1 hx hA
    obtain ⟨b1, b2, b3, b4, b5, b6⟩ := hA
    have hJ1 := rd_J j1 s1 b1
    obtain ⟨o1, o2, o3⟩ := JS_opn hJ1 b2 b3
    refine k_207_129 ?_
    rw [b4.2.2.1]
    refine ⟨by decide, ?_⟩
    rw [if_pos rfl]
    refine cI.mono (p_208 (d := d + 1) hn hrI h1 h2 b1 b5 b4) (Nat.le_refl _) (fun c u3 h => ?_)
    obtain ⟨j', g1, g2, g3, g4, g5, g6⟩ := h
    have ej : j' = j1 := by
      rcases b6 with q | q
      · omega
      · exact g6 q.1 q.2.1
    rw [ej] at g3 g4 g5
    have hcr : rI c := by
      rcases g5 with q | q
      · rw [q.2.2]; exact hrI _ q.1
      · rw [q.2]; decide
    refine ⟨hcr, ?_⟩
    by_cases c1 : c = 124
    · rw [if_pos c1]
      obtain ⟨hlt, hb32, ec⟩ : j1 < n ∧ f j1 ≠ 32 ∧ c = f j1 := by
        rcases g5 with q | q
        · exact q
        · omega
      have hst : stp s1 (f j1) j1 = some (sw (opn s1) 0 1 0) := by
        unfold stp
        rw [if_neg (by omega), if_neg (by omega), if_neg b3, if_pos (by omega)]
      have hrd : rd f (j1 + 1) = some (sw (opn s1) 0 1 0) := by rw [rd_s b1 hb32, hst]
      intro u7 e7
      have R7 := RvD_aw (k := 1) (x := 0) (Or.inr rfl) (RvD_inc g4 e7)
      have z00 : sw (opn s1) 0 1 0 0 0 = 2 := by
        have : sw (opn s1) 0 1 0 0 0 = opn s1 0 0 := by simp [sw]
        rw [this, opn_00]; exact b2
      have z01 : sw (opn s1) 0 1 0 0 1 = 0 := by simp [sw]
      have z02 : sw (opn s1) 0 1 0 0 2 = s1 0 2 := by
        have : sw (opn s1) 0 1 0 0 2 = opn s1 0 2 := by simp [sw]
        rw [this, opn_02]
      have hq := q_212 (d := d) (j := j1 + 1) hn hr h1 h2 hrd (by omega) z00 z01 R7
      rw [z02, ← hx] at hq
      refine cV.mono hq (Nat.le_refl _) (fun u9 h9 => ?_)
      rcases h9 with h9 | ⟨s', j2, y1, y2, y3⟩
      · refine k_207_129 ?_
        obtain ⟨w1, jj, w2, w3⟩ := id h9.1
        rw [w3]
        have := flt_le w2
        refine ⟨⟨by omega, by omega⟩, ?_⟩
        rw [if_neg (by omega)]
        intro u31 e31
        exact Or.inl (FvK_inc h9 e31)
      · exact ih j2 s' u9 x (by omega) (by omega) (by omega) y2
    · rw [if_neg c1, g4.2.2.1]
      refine ⟨by decide, ?_⟩
      rw [if_pos rfl]
      refine cI.mono (p_208 (d := d + 1) hn hrI h1 h2 g3 b5 g4) (Nat.le_refl _) (fun c' u12 h => ?_)
      obtain ⟨j'', k1, k2, k3, k4, k5, k6⟩ := h
      have ej2 : j'' = j1 := by
        rcases b6 with q | q
        · omega
        · exact k6 q.1 q.2.1
      rw [ej2] at k3 k4 k5
      have ecc : c' = c := by
        rcases g5 with q | q
        · rcases k5 with q2 | q2
          · rw [q2.2.2, q.2.2]
          · omega
        · rcases k5 with q2 | q2
          · omega
          · rw [q2.2, q.2]
      rw [ecc]
      refine ⟨hcr, ?_⟩
      by_cases c2 : c = 59
      · rw [if_pos c2]
        obtain ⟨hlt, hb32, ec⟩ : j1 < n ∧ f j1 ≠ 32 ∧ c = f j1 := by
          rcases g5 with q | q
          · exact q
          · omega
        have hst : stp s1 (f j1) j1 = some (sw (opn s1) 0 0 0) := by
          unfold stp
          rw [if_neg (by omega), if_neg (by omega), if_neg b3, if_neg (by omega), if_pos (by omega)]
        have hrd : rd f (j1 + 1) = some (sw (opn s1) 0 0 0) := by rw [rd_s b1 hb32, hst]
        intro u16 e16
        have R16 := RvD_aw (k := 0) (x := 0) (Or.inl rfl) (RvD_inc k4 e16)
        refine Or.inr ⟨_, j1 + 1, by omega, by omega, hrd, by simp [sw], ?_, R16⟩
        have : sw (opn s1) 0 0 0 0 2 = opn s1 0 2 := by simp [sw]
        rw [this, opn_02]
        exact hJ1.2.2.2.2.1 (by omega)
      · rw [if_neg c2, k4.2.2.1]
        refine ⟨by decide, ?_⟩
        rw [if_pos rfl]
        intro u20 e20 u22 e22
        refine Or.inl (FvK_inc (RvD_flK k4 ?_ e20) e22)
        rcases g5 with ⟨q1, q2, q3⟩ | ⟨q1, q2⟩
        · refine Or.inl ⟨q1, s1, b1, q2, ?_⟩
          have hns : ¬ ((65 ≤ f j1 ∧ f j1 ≤ 90) ∨ (97 ≤ f j1 ∧ f j1 ≤ 106)) := by
            rcases b6 with z | z
            · omega
            · exact z.2.2
          unfold stp
          rw [if_neg (by omega), if_neg (by omega), if_neg b3, if_neg (by omega), if_neg (by omega), if_neg (fun z => hns z.1)]
        · rw [q1] at b1 ⊢
          exact flt_end b1 (Or.inl (by omega))
theorem q_207 (hn : n ≤ 300) (hr : ∀ j : Nat, j < n → 32 ≤ f j ∧ f j ≤ 126) (h1 : v0.1 271 1 = n) (h2 : v0.1 272 = f) (hs : rd f j = some s) (hj : j ≤ n) (h00 : s 0 0 = 0) (hp : s 0 2 = 0 ∨ (j < n ∧ f j ≠ 32)) (R : RvD v0 v s j) : cV (d + 4) 207 [.ref 271] v (fun v' => PartR f n v0 v' j) := by
  have hrI : ∀ j : Nat, j < n → rI (f j) := fun j hj => by have := hr j hj; exact ⟨by omega, by omega⟩
  refine e_207 (d := d + 2) (cI.mono (p_208 (d := d + 1) hn hrI h1 h2 hs hj R) (Nat.le_refl _) (fun c u1 h => ?_))
  obtain ⟨j', g1, g2, g3, g4, g5, g6⟩ := h
  obtain ⟨x1, x2, x3, x4, x5, x6⟩ := id g4
  have hJ := rd_J j' s g3
  obtain ⟨a1, a2, a3, a4, a5, a6, a7, a8, a9, a10, a11⟩ := id hJ
  have hcr : rI c := by
    rcases g5 with q | q
    · rw [q.2.2]; exact hrI _ q.1
    · rw [q.2]; decide
  have hst : stp s c j' = if (65 ≤ c ∧ c ≤ 90) ∧ s 0 2 < 10 ∧ hN (s 1) c (s 0 2).toNat = false then some (sw (sw (sw s 1 (s 0 2) c) 0 2 (s 0 2 + 1)) 0 0 1) else none := by
    unfold stp
    rw [if_pos h00]
  -- a fault here
  have bad : stp s c j' = none → ∀ u15 : uS, u15 = wr u1 271 19 (u1.1 271 4) → PartR f n v0 u15 j := by
    intro hno u15 e15
    refine Or.inl (FvK_up (RvD_flK g4 ?_ e15))
    rcases g5 with ⟨q1, q2, q3⟩ | ⟨q1, q2⟩
    · exact Or.inl ⟨q1, s, g3, q2, by rw [← q3]; exact hno⟩
    · rcases hp with z | z
      · rw [q1] at g3 ⊢
        exact flt_end g3 (Or.inr z)
      · have := g6 z.1 z.2
        omega
  have loop : ∀ (m : Nat) (k : Int) (b : Bool), 0 ≤ k → k + m = s 0 2 → b = hN (s 1) c k.toNat → K_207 (d + 3) 9 [.ref 271, iV c, iV (b2 b), iV k] [] u1 (fun v' => PartR f n v0 v' j) := by
    intro m
    induction m with
    | zero =>
      intro k b hk hke hbk
      have ek : k.toNat = (s 0 2).toNat := by omega
      rw [ek] at hbk
      refine k_207_9 ⟨⟨by omega, by omega⟩, ?_⟩
      rw [x4]
      refine ⟨⟨by omega, by omega⟩, ?_⟩
      rw [if_neg (by omega), x3]
      refine ⟨hcr, ?_⟩
      by_cases c1 : c < 65
      · rw [if_pos c1]
        refine ⟨by decide, ?_⟩
        rw [if_pos rfl]
        exact bad (by rw [hst, if_neg (by omega)])
      rw [if_neg c1]
      by_cases c2 : 90 < c
      · rw [if_pos c2]
        refine ⟨by decide, ?_⟩
        rw [if_pos rfl]
        exact bad (by rw [hst, if_neg (by omega)])
      rw [if_neg c2]
      refine ⟨ri_b2 b, ?_⟩
      cases b with
      | true =>
        rw [if_neg (by decide)]
        refine ⟨by decide, ?_⟩
        rw [if_pos rfl]
        exact bad (by rw [hst, if_neg (fun q => by rw [← hbk] at q; exact absurd q.2.2 (by decide))])
      | false =>
        rw [if_pos (by decide)]
        by_cases c3 : s 0 2 = 10
        · rw [if_pos c3]
          refine ⟨by decide, ?_⟩
          rw [if_pos rfl]
          exact bad (by rw [hst, if_neg (by omega)])
        · rw [if_neg c3]
          refine ⟨by omega, by omega, fun u37 e37 u39 e39 u41 e41 => ?_⟩
          obtain ⟨hlt, hb32, ec⟩ : j' < n ∧ f j' ≠ 32 ∧ c = f j' := by
            rcases g5 with q | q
            · exact q
            · omega
          have hst2 : stp s c j' = some (sw (sw (sw s 1 (s 0 2) c) 0 2 (s 0 2 + 1)) 0 0 1) := by rw [hst, if_pos ⟨⟨by omega, by omega⟩, by omega, hbk.symm⟩]
          have hrd : rd f (j' + 1) = some (sw (sw (sw s 1 (s 0 2) c) 0 2 (s 0 2 + 1)) 0 0 1) := by rw [rd_s g3 hb32, ← ec, hst2]
          have k12 : u37.1 271 12 = s 0 2 := by rw [e37, wr_ne (by decide)]; exact x4
          rw [k12] at e39
          have z2 : sw (sw (sw s 1 (s 0 2) c) 0 2 (s 0 2 + 1)) 0 0 1 0 2 = s 0 2 + 1 := by simp [sw]
          have z3 : sw (sw (sw s 1 (s 0 2) c) 0 2 (s 0 2 + 1)) 0 0 1 0 3 = s 0 3 := by simp [sw]
          have z0 : sw (sw (sw s 1 (s 0 2) c) 0 2 (s 0 2 + 1)) 0 0 1 0 0 = 1 := by simp [sw]
          have z1 : sw (sw (sw s 1 (s 0 2) c) 0 2 (s 0 2 + 1)) 0 0 1 1 = uf (s 1) (s 0 2) c := by rw [sw_ne (by decide), sw_ne (by decide), sw_uf]
          have zk : ∀ k, k ≠ 0 → k ≠ 1 → sw (sw (sw s 1 (s 0 2) c) 0 2 (s 0 2 + 1)) 0 0 1 k = s k := fun k k0 k1 => by rw [sw_ne k0, sw_ne k0, sw_ne k1]
          generalize ht : sw (sw (sw s 1 (s 0 2) c) 0 2 (s 0 2 + 1)) 0 0 1 = t at hrd z2 z3 z0 z1 zk
          have R39 : RvD v0 u39 t j' := by
            refine ⟨?_, ?_, ?_, ?_, ?_, ?_⟩
            · rw [e39, e37]; exact Vf_wr (Vf_wr2 x1 (by decide)) (Or.inr (Or.inl rfl))
            · rw [e39, e37, wr_1, if_neg (by decide), wr_ne (by decide)]; exact x2
            · rw [e39, e37, wr_1, if_neg (by decide), wr_ne (by decide)]; exact x3
            · rw [e39, wr_self]; exact z2.symm
            · rw [e39, e37, wr_1, if_neg (by decide), wr_ne (by decide), z3]; exact x5
            · unfold agR
              rw [e39, e37, wr_ne (b := 278) (by decide), wr_uf, wr_ne (b := 279) (by decide), wr_ne (b := 279) (by decide), wr_ne (b := 280) (by decide), wr_ne (b := 280) (by decide), wr_ne (b := 281) (by decide), wr_ne (b := 281) (by decide), wr_ne (b := 282) (by decide), wr_ne (b := 282) (by decide), z1, z2, z3, zk 2 (by decide) (by decide), zk 3 (by decide) (by decide), zk 4 (by decide) (by decide), zk 5 (by decide) (by decide)]
              refine ⟨fun y y0 y1 => ?_, x6.2⟩
              by_cases e : y = s 0 2
              · rw [e, uf_eq, uf_eq]
              · rw [uf_ne e, uf_ne e]
                exact x6.1 y y0 (by omega)
          have R41 := RvD_inc R39 e41
          refine cI.mono (p_208 (d := d + 1) hn hrI h1 h2 hrd (by omega) R41) (Nat.le_refl _) (fun c' u43 h => ?_)
          obtain ⟨j2, k1, k2, k3, k4, k5, k6⟩ := h
          have hcr' : rI c' := by
            rcases k5 with q | q
            · rw [q.2.2]; exact hrI _ q.1
            · rw [q.2]; decide
          refine ⟨hcr', ?_⟩
          by_cases c4 : c' = 61
          · rw [if_pos c4]
            obtain ⟨hlt2, hb322, ec2⟩ : j2 < n ∧ f j2 ≠ 32 ∧ c' = f j2 := by
              rcases k5 with q | q
              · exact q
              · omega
            have hst3 : stp t (f j2) j2 = some (sw (sw t 0 0 2) 0 1 0) := by
              unfold stp
              rw [if_neg (by omega), if_pos z0, if_pos (by omega)]
            have hrd2 : rd f (j2 + 1) = some (sw (sw t 0 0 2) 0 1 0) := by rw [rd_s k3 hb322, hst3]
            intro u47 e47
            have R47 := RvD_aw (k := 1) (x := 0) (Or.inr rfl) (RvD_aw (k := 0) (x := 2) (Or.inl rfl) (RvD_inc k4 e47))
            have y0 : sw (sw t 0 0 2) 0 1 0 0 0 = 2 := by simp [sw]
            have y1 : sw (sw t 0 0 2) 0 1 0 0 1 = 0 := by simp [sw]
            have y2 : sw (sw t 0 0 2) 0 1 0 0 2 = t 0 2 := by simp [sw]
            have hq := q_212 (d := d) (j := j2 + 1) hn hr h1 h2 hrd2 (by omega) y0 y1 R47
            rw [y2, z2, show s 0 2 + 1 - 1 = s 0 2 by omega] at hq
            refine cV.mono hq (Nat.le_refl _) (fun u9 h9 => ?_)
            rcases h9 with h9 | ⟨s', j3, w1, w2, w3⟩
            · refine k_207_129 ?_
              obtain ⟨w1, jj, w2, w3⟩ := id h9.1
              rw [w3]
              have := flt_le w2
              refine ⟨⟨by omega, by omega⟩, ?_⟩
              rw [if_neg (by omega)]
              intro u31 e31
              exact Or.inl (FvK_inc h9 e31)
            · exact l_207 (j := j) hn hr h1 h2 n j3 s' u9 (s 0 2) (by omega) (by omega) (by omega) w2
          · rw [if_neg c4, k4.2.2.1]
            refine ⟨by decide, ?_⟩
            rw [if_pos rfl]
            intro u52 e52
            refine Or.inl (FvK_up (RvD_flK k4 ?_ e52))
            rcases k5 with ⟨q1, q2, q3⟩ | ⟨q1, q2⟩
            · refine Or.inl ⟨q1, t, k3, q2, ?_⟩
              unfold stp
              rw [if_neg (by omega), if_pos z0, if_neg (by omega)]
            · rw [q1] at k3 ⊢
              exact flt_end k3 (Or.inl (by omega))
    | succ m ih =>
      intro k b hk hke hbk
      refine k_207_9 ⟨⟨by omega, by omega⟩, ?_⟩
      rw [x4]
      refine ⟨⟨by omega, by omega⟩, ?_⟩
      rw [if_pos (by omega), x6.1 k hk (by omega)]
      refine ⟨ri_b2 b, ?_⟩
      have ek : (k + 1).toNat = k.toNat + 1 := by omega
      have ek2 : ((k.toNat : Nat) : Int) = k := by omega
      have hnm := a8 k hk (by omega)
      cases hb : b with
      | true =>
        rw [if_neg (by decide)]
        refine ih (k + 1) true (by omega) (by omega) ?_
        rw [ek]
        simp only [hN]
        rw [← hbk, hb]
        rfl
      | false =>
        rw [if_pos (by decide)]
        refine ⟨hk, by omega, ⟨by omega, by omega⟩, hcr, ?_⟩
        by_cases e : s 1 k = c
        · rw [if_pos e]
          refine ih (k + 1) true (by omega) (by omega) ?_
          rw [ek]
          simp only [hN]
          rw [ek2, e]
          simp
        · rw [if_neg e]
          refine ih (k + 1) false (by omega) (by omega) ?_
          rw [ek]
          simp only [hN]
          rw [ek2, ← hbk, hb]
          simp [e]
  exact loop (s 0 2).toNat 0 false (Int.le_refl 0) (by omega) rfl
/-- a sign is asked for also behind a fault -/
theorem p_208f {v1 : uS} (hn : n ≤ 300) (hr : ∀ j : Nat, j < n → 32 ≤ f j ∧ f j ≤ 126) (h1 : v0.1 271 1 = n) (h2 : v0.1 272 = f) (hF : FvR f n v0 v1) (ha : 0 ≤ v1.1 271 4 ∧ v1.1 271 4 ≤ 1000) : cI (d + 2) 208 [.ref 271] v1 (fun c v' => rI c ∧ FvR f n v0 v') := by
  have loop : ∀ (m : Nat) (v2 : uS) (Q : uS → Prop), v2.1 271 4 + m = 1000 → 0 ≤ v2.1 271 4 → FvR f n v0 v2 → (∀ v', FvR f n v0 v' → 0 ≤ v'.1 271 4 → v'.1 271 4 ≤ 1000 → Q v') → K_209 d 0 [.ref 271] [] v2 Q := by
    intro m
    induction m with
    | zero =>
      intro v2 Q hm h0 hF2 hQ
      have e1 : v2.1 271 1 = n := by rw [hF2.1.2.2 1 (by decide) (by decide) (by decide) (by decide)]; exact h1
      refine k_209_0 ⟨⟨by omega, by omega⟩, ?_⟩
      rw [e1]
      refine ⟨⟨by omega, by omega⟩, ?_⟩
      rw [if_neg (by omega)]
      exact hQ v2 hF2 h0 (by omega)
    | succ m ih =>
      intro v2 Q hm h0 hF2 hQ
      have e1 : v2.1 271 1 = n := by rw [hF2.1.2.2 1 (by decide) (by decide) (by decide) (by decide)]; exact h1
      have e2 : v2.1 272 = f := by rw [hF2.1.1 272 (by decide)]; exact h2
      refine k_209_0 ⟨⟨by omega, by omega⟩, ?_⟩
      rw [e1, e2]
      refine ⟨⟨by omega, by omega⟩, ?_⟩
      by_cases hlt : v2.1 271 4 < n
      · rw [if_pos hlt]
        have hs := hr (v2.1 271 4).toNat (by omega)
        rw [show (((v2.1 271 4).toNat : Nat) : Int) = v2.1 271 4 by omega] at hs
        refine ⟨h0, by omega, ⟨by omega, by omega⟩, ?_⟩
        by_cases hb : f (v2.1 271 4) = 32
        · rw [if_pos hb]
          intro u8 e8
          refine ih u8 Q ?_ ?_ (by rw [e8]; exact FvR_at hF2) hQ
          · rw [e8, wr_self]; omega
          · rw [e8, wr_self]; omega
        · rw [if_neg hb]
          exact hQ v2 hF2 h0 (by omega)
      · rw [if_neg hlt]
        exact hQ v2 hF2 h0 (by omega)
  refine e_208 (e_209 (loop (1000 - v1.1 271 4).toNat v1 _ (by omega) ha.1 hF (fun v' hF' b0 b1 => ?_)))
  have e1 : v'.1 271 1 = n := by rw [hF'.1.2.2 1 (by decide) (by decide) (by decide) (by decide)]; exact h1
  have e2 : v'.1 272 = f := by rw [hF'.1.1 272 (by decide)]; exact h2
  rw [e1, e2]
  refine ⟨⟨by omega, by omega⟩, ⟨by omega, by omega⟩, ?_⟩
  by_cases hlt : v'.1 271 4 < n
  · rw [if_pos hlt]
    have hs := hr (v'.1 271 4).toNat (by omega)
    rw [show (((v'.1 271 4).toNat : Nat) : Int) = v'.1 271 4 by omega] at hs
    exact ⟨b0, by omega, ⟨by omega, by omega⟩, hF'⟩
  · rw [if_neg hlt]
    exact ⟨by decide, hF'⟩
theorem l_206f {Q : Int → uS → Prop} (hn : n ≤ 300) (hr : ∀ j : Nat, j < n → 32 ≤ f j ∧ f j ≤ 126) (h1 : v0.1 271 1 = n) (h2 : v0.1 272 = f) (hF : ∀ v', FvR f n v0 v' → K_206 (d + 4) 56 [.ref 271, .retAddr 0, .retAddr 0, .retAddr 0] [] v' Q) {u5 : uS} (h5 : FvK 1 f n v0 u5) : cI (d + 4) 208 [.ref 271] u5 (fun r7 u6 => (rI r7) ∧ (if r7 = 0 then (K_206 (d + 4) 23 [.ref 271, iV 0, .retAddr 0, .retAddr 0] [] u6 Q) else (K_206 (d + 4) 23 [.ref 271, iV 1, .retAddr 0, .retAddr 0] [] u6 Q))) := by
  refine cI.mono (p_208f (d := d + 2) hn hr h1 h2 h5.1 ⟨h5.2.1, by have := h5.2.2; omega⟩) (Nat.le_refl _) (fun c u6 h => ?_)
  obtain ⟨hc, h6⟩ := h
  refine ⟨hc, ?_⟩
  by_cases c0 : c = 0
  · rw [if_pos c0]
    refine k_206_23 ⟨by decide, ?_⟩
    rw [if_pos rfl]
    exact hF u6 h6
  · rw [if_neg c0]
    refine k_206_23 ⟨by decide, ?_⟩
    obtain ⟨w1, jj, w2, w3⟩ := id h6
    have := flt_le w2
    rw [if_neg (by decide), w3]
    refine ⟨⟨by omega, by omega⟩, ?_⟩
    rw [if_neg (by omega)]
    exact hF u6 h6
/-- all parts -/
theorem l_206 {Q : Int → uS → Prop} (hn : n ≤ 300) (hr : ∀ j : Nat, j < n → 32 ≤ f j ∧ f j ≤ 126) (h1 : v0.1 271 1 = n) (h2 : v0.1 272 = f) (hF : ∀ v', FvR f n v0 v' → K_206 (d + 4) 56 [.ref 271, .retAddr 0, .retAddr 0, .retAddr 0] [] v' Q) (hG : ∀ v' s', gdE f n s' → RvD v0 v' s' n → K_206 (d + 4) 56 [.ref 271, .retAddr 0, .retAddr 0, .retAddr 0] [] v' Q) : ∀ (m j1 : Nat) (s1 : rS) (v1 : uS), n ≤ j1 + m → j1 ≤ n → rd f j1 = some s1 → s1 0 0 = 0 → (s1 0 2 = 0 ∨ (j1 < n ∧ f j1 ≠ 32)) → RvD v0 v1 s1 j1 → K_206 (d + 4) 23 [.ref 271, iV 1, .retAddr 0, .retAddr 0] [] v1 Q := by
  have hrI : ∀ j : Nat, j < n → rI (f j) := fun j hj => by have := hr j hj; exact ⟨by omega, by omega⟩
  intro m
  induction m with
  | zero =>
    intro j1 s1 v1 hm hj1 hs1 h00 hp R1
    refine k_206_23 ⟨by decide, ?_⟩
    rw [if_neg (by decide), R1.2.2.1]
    refine ⟨by decide, ?_⟩
    rw [if_pos rfl]
    refine cV.mono (q_207 (d := d) hn hr h1 h2 hs1 hj1 h00 hp R1) (Nat.le_refl _) (fun u5 h5 => ?_)
    rcases h5 with h5 | ⟨s', j', w1, w2, -⟩
    · exact (l_206f hn hr h1 h2 hF h5)
    · omega
  | succ m ih =>
    intro j1 s1 v1 hm hj1 hs1 h00 hp R1
    refine k_206_23 ⟨by decide, ?_⟩
    rw [if_neg (by decide), R1.2.2.1]
    refine ⟨by decide, ?_⟩
    rw [if_pos rfl]
    refine cV.mono (q_207 (d := d) hn hr h1 h2 hs1 hj1 h00 hp R1) (Nat.le_refl _) (fun u5 h5 => ?_)
    rcases h5 with h5 | ⟨s', j', w1, w2, w3, w4, w5, w6⟩
    · exact (l_206f hn hr h1 h2 hF h5)
    · refine cI.mono (p_208 (d := d + 2) hn hrI h1 h2 w3 w2 w6) (Nat.le_refl _) (fun c u6 h => ?_)
      obtain ⟨j2, g1, g2, g3, g4, g5, g6⟩ := h
      rcases g5 with ⟨q1, q2, q3⟩ | ⟨q1, q2⟩
      · have := hr j2 q1
        rw [q3]
        refine ⟨hrI j2 q1, ?_⟩
        rw [if_neg (by omega)]
        exact ih j2 s' u6 (by omega) g2 g3 w4 (Or.inr ⟨q1, q2⟩) g4
      · rw [q2]
        refine ⟨by decide, ?_⟩
        rw [if_pos rfl]
        refine k_206_23 ⟨by decide, ?_⟩
        rw [if_pos rfl]
        rw [q1] at g3 g4
        exact hG u6 s' ⟨g3, w4, by omega⟩ g4
end GR
