/-! The other side: findEndless as a whole -/
section FE2
variable {d : Nat} {Q : uS → Prop} {u : uS}
theorem l_240 {A G N : Int → Int} {x y z s2 : Int} {th : Bool} (hG : bH G) (hx : iR 10 x) (hy : iR 10 y) (hz : iR 10 z) (hs : s2 = 0 ∨ s2 = 1) (hK : K_218 d 165 [.ref 271, iV y, iV x, iV (z + 1), .retAddr 0, .retAddr 0, .retAddr 0] [] (sF u (uf A (10 * x + z) s2) (uf G (10 * x + z) (b2 (decide (G (10 * x + z) ≠ 0) || (th && (decide (G (10 * x + y) ≠ 0) || decide (G (10 * y + z) ≠ 0)))))) N) Q) : K_218 d 240 [.ref 271, iV y, iV x, iV z, iV (b2 th), .retAddr 0, .retAddr 0] [iV s2, iV (10 * x + z), .ref 290] (sF u A G N) Q := by
  obtain ⟨x0, x1⟩ := hx
  obtain ⟨y0, y1⟩ := hy
  obtain ⟨z0, z1⟩ := hz
  refine k_218_240 sx_290 ⟨by omega, by omega, hs, fun u4 e4 => ?_⟩
  rw [sF_wA] at e4
  rw [e4, sF_G]
  refine ⟨by omega, by omega, bH_r hG (by omega) (by omega), ?_⟩
  by_cases c1 : G (10 * x + z) = 0
  · rw [if_pos c1]
    refine ⟨ri_b2 th, ?_⟩
    cases th with
    | false =>
      rw [if_pos (by decide)]
      intro u7 e7
      rw [sF_wG] at e7
      rw [e7]
      simpa [c1, b2] using hK
    | true =>
      rw [if_neg (by decide)]
      refine ⟨by omega, by omega, bH_r hG (by omega) (by omega), ?_⟩
      by_cases c3 : G (10 * x + y) = 0
      · rw [if_pos c3]
        refine ⟨by omega, by omega, bH_r hG (by omega) (by omega), ?_⟩
        by_cases c4 : G (10 * y + z) = 0
        · rw [if_pos c4]
          intro u7 e7
          rw [sF_wG] at e7
          rw [e7]
          simpa [c1, c3, c4, b2] using hK
        · rw [if_neg c4]
          intro u7 e7
          rw [sF_wG] at e7
          rw [e7]
          simpa [c1, c3, c4, b2] using hK
      · rw [if_neg c3]
        intro u7 e7
        rw [sF_wG] at e7
        rw [e7]
        simpa [c1, c3, b2] using hK
  · rw [if_neg c1]
    intro u7 e7
    rw [sF_wG] at e7
    rw [e7]
    simpa [c1, b2] using hK
theorem l_149 {E g : Int → Int → Prop} {N : Int → Int} (hQ : ∀ A G : Int → Int, PS E g A G → trA A → K_218 d 324 [.ref 271, iV 0, .retAddr 0, .retAddr 0, .retAddr 0, .retAddr 0, .retAddr 0] [] (sF u A G N) Q) : ∀ (m : Nat) (y : Int) (A G : Int → Int), 0 ≤ y → y + m = 10 → PS E g A G → (∀ w x z, 0 ≤ w → w < y → iR 10 x → iR 10 z → A (10 * x + w) ≠ 0 → A (10 * w + z) ≠ 0 → A (10 * x + z) ≠ 0) → K_218 d 149 [.ref 271, iV y, .retAddr 0, .retAddr 0, .retAddr 0, .retAddr 0, .retAddr 0] [] (sF u A G N) Q := by
  intro m
  induction m with
  | zero =>
    intro y A G hy he hP ht
    refine k_218_149 ⟨⟨by omega, by omega⟩, ?_⟩
    rw [if_neg (by omega)]
    exact hQ A G hP (fun x w z hx hw hz => ht w x z hw.1 (by have := hw.2; omega) hx hz)
  | succ m ih =>
    intro y A G hy he hP ht
    have hY : iR 10 y := ⟨hy, by omega⟩
    refine k_218_149 ⟨⟨by omega, by omega⟩, ?_⟩
    rw [if_pos (by omega)]
    have xs : ∀ (mx : Nat) (x : Int) (A' G' : Int → Int), 0 ≤ x → x + mx = 10 → PS E g A' G' → (∀ p q, iR 10 p → iR 10 q → (A' (10 * p + q) ≠ 0 ↔ A (10 * p + q) ≠ 0 ∨ (p < x ∧ A (10 * p + y) ≠ 0 ∧ A (10 * y + q) ≠ 0))) → K_218 d 157 [.ref 271, iV y, iV x, .retAddr 0, .retAddr 0, .retAddr 0, .retAddr 0] [] (sF u A' G' N) Q := by
      intro mx
      induction mx with
      | zero =>
        intro x A' G' hx hxe hP' hA'
        refine k_218_157 ⟨⟨by omega, by omega⟩, ?_⟩
        rw [if_neg (by omega)]
        have hb : ∀ p q, iR 10 p → iR 10 q → (A' (10 * p + q) ≠ 0 ↔ A (10 * p + q) ≠ 0 ∨ (A (10 * p + y) ≠ 0 ∧ A (10 * y + q) ≠ 0)) := fun p q hp hq => by
          rw [hA' p q hp hq]
          constructor
          · rintro (z | z)
            · exact Or.inl z
            · exact Or.inr z.2
          · rintro (z | z)
            · exact Or.inl z
            · exact Or.inr ⟨by have := hp.2; omega, z⟩
        refine ih (y + 1) A' G' (by omega) (by omega) hP' (fun w x z w0 w1 hx hz h1 h2 => ?_)
        have hw : iR 10 w := ⟨w0, by omega⟩
        rw [hb x w hx hw] at h1
        rw [hb w z hw hz] at h2
        rw [hb x z hx hz]
        by_cases e : w = y
        · rw [e] at h1 h2
          have a1 : A (10 * x + y) ≠ 0 := by
            rcases h1 with q | q
            · exact q
            · exact q.1
          have a2 : A (10 * y + z) ≠ 0 := by
            rcases h2 with q | q
            · exact q
            · exact q.2
          exact Or.inr ⟨a1, a2⟩
        · have hwv : w < y := by omega
          rcases h1 with h1 | h1
          · rcases h2 with h2 | h2
            · exact Or.inl (ht w x z w0 hwv hx hz h1 h2)
            · exact Or.inr ⟨ht w x y w0 hwv hx hY h1 h2.1, h2.2⟩
          · rcases h2 with h2 | h2
            · exact Or.inr ⟨h1.1, ht w y z w0 hwv hY hz h1.2 h2⟩
            · exact Or.inr ⟨h1.1, h2.2⟩
      | succ mx ihx =>
        intro x A' G' hx hxe hP' hA'
        have hX : iR 10 x := ⟨hx, by omega⟩
        refine k_218_157 ⟨⟨by omega, by omega⟩, ?_⟩
        rw [if_pos (by omega)]
        have zs : ∀ (mz : Nat) (z : Int) (A' G' : Int → Int), 0 ≤ z → z + mz = 10 → PS E g A' G' → (∀ p q, iR 10 p → iR 10 q → (A' (10 * p + q) ≠ 0 ↔ A (10 * p + q) ≠ 0 ∨ ((p < x ∨ (p = x ∧ q < z)) ∧ A (10 * p + y) ≠ 0 ∧ A (10 * y + q) ≠ 0))) → K_218 d 165 [.ref 271, iV y, iV x, iV z, .retAddr 0, .retAddr 0, .retAddr 0] [] (sF u A' G' N) Q := by
          intro mz
          induction mz with
          | zero =>
            intro z A' G' hz hze hP' hA'
            refine k_218_165 ⟨⟨by omega, by omega⟩, ?_⟩
            rw [if_neg (by omega)]
            refine ihx (x + 1) A' G' (by omega) (by omega) hP' (fun p q hp hq => ?_)
            rw [hA' p q hp hq]
            constructor
            · rintro (w | ⟨w1, w2⟩)
              · exact Or.inl w
              · exact Or.inr ⟨by omega, w2⟩
            · rintro (w | ⟨w1, w2⟩)
              · exact Or.inl w
              · exact Or.inr ⟨by have := hq.2; omega, w2⟩
          | succ mz ihz =>
            intro z A' G' hz hze hP' hA'
            have hZ : iR 10 z := ⟨hz, by omega⟩
            have r1 : A' (10 * x + y) ≠ 0 ↔ A (10 * x + y) ≠ 0 := by
              rw [hA' x y hX hY]
              constructor
              · rintro (w | w)
                · exact w
                · exact w.2.1
              · exact fun w => Or.inl w
            have r2 : A' (10 * y + z) ≠ 0 ↔ A (10 * y + z) ≠ 0 := by
              rw [hA' y z hY hZ]
              constructor
              · rintro (w | w)
                · exact w
                · exact w.2.2
              · exact fun w => Or.inl w
            have go : ∀ (th : Bool) (s2 : Int), (th = true ↔ A' (10 * x + y) ≠ 0 ∧ A' (10 * y + z) ≠ 0) → (s2 = 0 ∨ s2 = 1) → (s2 ≠ 0 ↔ A' (10 * x + z) ≠ 0 ∨ th = true) → K_218 d 240 [.ref 271, iV y, iV x, iV z, iV (b2 th), .retAddr 0, .retAddr 0] [iV s2, iV (10 * x + z), .ref 290] (sF u A' G' N) Q := by
              intro th s2 hth hs hs2
              obtain ⟨p1, p2, p3⟩ := grow_upd (th := th) hX hY hZ hP' hth.mp
              have hPA : PS E g (uf A' (10 * x + z) s2) (uf G' (10 * x + z) (b2 (decide (G' (10 * x + z) ≠ 0) || (th && (decide (G' (10 * x + y) ≠ 0) || decide (G' (10 * y + z) ≠ 0)))))) := by
                rcases hs with q | q
                · have h0 : A' (10 * x + z) = 0 := Classical.byContradiction (fun w => (hs2.mpr (Or.inl w)) q)
                  rw [uf_same (h0.trans q.symm)]
                  exact p1
                · rw [q]
                  rcases hs2.mp (by omega) with w | w
                  · have h1 : A' (10 * x + z) = 1 := by
                      rcases hP'.1 (10 * x + z) (by omega) (by omega) with v | v
                      · exact absurd v w
                      · exact v
                    rw [uf_same h1]
                    exact p1
                  · exact PS_A hX hY hZ p1 (hth.mp w).1 (hth.mp w).2
              refine l_240 hP'.2.1 hX hY hZ hs (ihz (z + 1) _ _ (by omega) (by omega) hPA (fun p q hp hq => ?_))
              rw [uf_sq hX hZ hp hq]
              by_cases e : p = x ∧ q = z
              · rw [if_pos e, hs2, hth, r1, r2, hA' x z hX hZ, e.1, e.2]
                constructor
                · rintro ((w | w) | w)
                  · exact Or.inl w
                  · exact Or.inr ⟨by omega, w.2⟩
                  · exact Or.inr ⟨by omega, w⟩
                · rintro (w | w)
                  · exact Or.inl (Or.inl w)
                  · exact Or.inr w.2
              · rw [if_neg e, hA' p q hp hq]
                constructor
                · rintro (w | ⟨w1, w2⟩)
                  · exact Or.inl w
                  · exact Or.inr ⟨by omega, w2⟩
                · rintro (w | ⟨w1, w2⟩)
                  · exact Or.inl w
                  · exact Or.inr ⟨by omega, w2⟩
            refine k_218_165 ⟨⟨by omega, by omega⟩, ?_⟩
            rw [if_pos (by omega), sF_A]
            refine ⟨by omega, by omega, bH_r hP'.1 (by omega) (by omega), ?_⟩
            by_cases c1 : A' (10 * x + y) = 0
            · rw [if_pos c1]
              refine ⟨by omega, by omega, bH_r hP'.1 (by omega) (by omega), ?_⟩
              by_cases c3 : A' (10 * x + z) = 0
              · rw [if_pos c3]
                exact go false 0 ⟨fun q => absurd q (by decide), fun q => absurd c1 q.1⟩ (Or.inl rfl) ⟨fun q => absurd rfl q, fun q => by
                  rcases q with q | q
                  · exact absurd c3 q
                  · exact absurd q (by decide)⟩
              · rw [if_neg c3]
                exact go false 1 ⟨fun q => absurd q (by decide), fun q => absurd c1 q.1⟩ (Or.inr rfl) ⟨fun _ => Or.inl c3, fun _ => by decide⟩
            · rw [if_neg c1]
              refine ⟨by omega, by omega, bH_r hP'.1 (by omega) (by omega), ?_⟩
              by_cases c2 : A' (10 * y + z) = 0
              · rw [if_pos c2]
                refine ⟨by omega, by omega, bH_r hP'.1 (by omega) (by omega), ?_⟩
                by_cases c3 : A' (10 * x + z) = 0
                · rw [if_pos c3]
                  exact go false 0 ⟨fun q => absurd q (by decide), fun q => absurd c2 q.2⟩ (Or.inl rfl) ⟨fun q => absurd rfl q, fun q => by
                    rcases q with q | q
                    · exact absurd c3 q
                    · exact absurd q (by decide)⟩
                · rw [if_neg c3]
                  exact go false 1 ⟨fun q => absurd q (by decide), fun q => absurd c2 q.2⟩ (Or.inr rfl) ⟨fun _ => Or.inl c3, fun _ => by decide⟩
              · rw [if_neg c2]
                refine ⟨by omega, by omega, bH_r hP'.1 (by omega) (by omega), ?_⟩
                have fin := go true 1 ⟨fun _ => ⟨c1, c2⟩, fun _ => rfl⟩ (Or.inr rfl) ⟨fun _ => Or.inr rfl, fun _ => by decide⟩
                by_cases c3 : A' (10 * x + z) = 0
                · rw [if_pos c3]; exact fin
                · rw [if_neg c3]; exact fin
        refine zs 10 0 A' G' (Int.le_refl 0) (by omega) hP' (fun p q hp hq => ?_)
        rw [hA' p q hp hq]
        constructor
        · rintro (w | ⟨w1, w2⟩)
          · exact Or.inl w
          · exact Or.inr ⟨by omega, w2⟩
        · rintro (w | ⟨w1, w2⟩)
          · exact Or.inl w
          · exact Or.inr ⟨by have := hq.1; omega, w2⟩
    refine xs 10 0 A G (Int.le_refl 0) (by omega) hP (fun p q hp hq => ?_)
    constructor
    · exact fun w => Or.inl w
    · rintro (w | ⟨w1, w2⟩)
      · exact w
      · have := hp.1
        omega
/-- steps of the rules before r, and of the first k symbols of r -/
def eP (nr : Nat) (hd : Int → Int) (rw : Int → List Int) (gd : List Int → Prop) (b : List Int → Nat → Prop) (r : Int) (k : Nat) (x y : Int) : Prop := ∃ (r' : Int) (j : Nat) (s : Int), 0 ≤ r' ∧ r' < nr ∧ (r' < r ∨ (r' = r ∧ j < k)) ∧ hd r' = x ∧ gd (rw r') ∧ (rw r')[j]? = some s ∧ 100 ≤ s ∧ s - 100 = y ∧ b (rw r') j
theorem eP_s {nr : Nat} {hd : Int → Int} {rw : Int → List Int} {gd : List Int → Prop} {b : List Int → Nat → Prop} {r : Int} {k : Nat} {s x y : Int} (h0 : 0 ≤ r) (h1 : r < nr) (hgd : gd (rw r)) (hk : (rw r)[k]? = some s) : eP nr hd rw gd b r (k + 1) x y ↔ eP nr hd rw gd b r k x y ∨ (hd r = x ∧ 100 ≤ s ∧ s - 100 = y ∧ b (rw r) k) := by
  constructor
  · rintro ⟨r', j, s', a1, a2, a3, a4, a5, a6, a7, a8, a9⟩
    by_cases e : r' = r ∧ j = k
    · obtain ⟨e1, e2⟩ := e
      rw [e1, e2, hk] at a6
      have e3 := Option.some.inj a6
      rw [e1] at a4 a9
      rw [e2] at a9
      rw [← e3] at a7 a8
      exact Or.inr ⟨a4, a7, a8, a9⟩
    · exact Or.inl ⟨r', j, s', a1, a2, by omega, a4, a5, a6, a7, a8, a9⟩
  · rintro (⟨r', j, s', a1, a2, a3, a4⟩ | ⟨a1, a2, a3, a4⟩)
    · exact ⟨r', j, s', a1, a2, by omega, a4⟩
    · exact ⟨r, k, s, h0, h1, Or.inr ⟨rfl, by omega⟩, a1, hgd, hk, a2, a3, a4⟩
theorem eP_n {nr : Nat} {hd : Int → Int} {rw : Int → List Int} {gd : List Int → Prop} {b : List Int → Nat → Prop} {r : Int} {k : Nat} {x y : Int} (hk : ¬ gd (rw r) ∨ (rw r)[k]? = none) : eP nr hd rw gd b (r + 1) 0 x y ↔ eP nr hd rw gd b r k x y := by
  constructor
  · rintro ⟨r', j, s', a1, a2, a3, a4, a5, a6, a7⟩
    refine ⟨r', j, s', a1, a2, ?_, a4, a5, a6, a7⟩
    by_cases e : r' = r
    · refine Or.inr ⟨e, ?_⟩
      rw [e] at a5 a6
      rcases hk with hk | hk
      · exact absurd a5 hk
      · have h1 := List.getElem?_eq_none_iff.mp hk
        have h2 := (List.getElem?_eq_some_iff.mp a6).1
        omega
    · omega
  · rintro ⟨r', j, s', a1, a2, a3, a4⟩
    exact ⟨r', j, s', a1, a2, by omega, a4⟩
theorem eP_0 {nr : Nat} {hd : Int → Int} {rw : Int → List Int} {gd : List Int → Prop} {b : List Int → Nat → Prop} {x y : Int} : ¬ eP nr hd rw gd b 0 0 x y := by
  rintro ⟨r', j, s', a1, a2, a3, a4⟩
  omega
theorem q_218 {nv nr : Nat} (hv : nv ≤ 10) (hnr : nr ≤ 30) (h6 : u.1 271 6 = nr) (hM : ∀ r : Int, 0 ≤ r → r < nr → gM u r) (hg : gOK nv nr (u.1 275) (rowM u)) (hT : ∀ y : Int, 0 ≤ y → y < 10 → rI (u.1 283 y)) (hL : ∀ y : Int, 0 ≤ y → y < 10 → rI (u.1 286 y)) : cV (d + 2) 218 [.ref 271] u (fun u' => ∃ A G N, u' = sF u A G N ∧ PS (eG nr (u.1 275) (rowM u) (gdT (u.1 283))) (gG nr (u.1 275) (rowM u) (gdT (u.1 283)) (fun y => u.1 286 y ≠ 0)) A G ∧ trA A ∧ (∀ x z, iR 10 x → iR 10 z → gs (gG nr (u.1 275) (rowM u) (gdT (u.1 283)) (fun y => u.1 286 y ≠ 0)) (fun x y => A (10 * x + y) ≠ 0) x z → G (10 * x + z) ≠ 0) ∧ ∀ x, iR 10 x → (N x = 0 ∨ N x = 1) ∧ (N x ≠ 0 ↔ enR A G x)) := by
  generalize hE : eG nr (u.1 275) (rowM u) (gdT (u.1 283)) = E
  generalize hgg : gG nr (u.1 275) (rowM u) (gdT (u.1 283)) (fun y => u.1 286 y ≠ 0) = g
  have hE' : ∀ x y, E x y ↔ eP nr (u.1 275) (rowM u) (gdT (u.1 283)) (fun _ _ => True) nr 0 x y := fun x y => by
    rw [← hE]
    constructor
    · rintro ⟨r, a1, a2, a3, a4, s, a5, a6, a7⟩
      obtain ⟨j, hj⟩ := List.getElem?_of_mem a5
      exact ⟨r, j, s, a1, a2, Or.inl a2, a3, a4, hj, a6, a7, trivial⟩
    · rintro ⟨r, j, s, a1, a2, a3, a4, a5, a6, a7, a8, -⟩
      exact ⟨r, a1, a2, a4, a5, s, List.mem_of_getElem? a6, a7, a8⟩
  have hg' : ∀ x y, g x y ↔ eP nr (u.1 275) (rowM u) (gdT (u.1 283)) (fun l j => bsP l (fun y => u.1 286 y ≠ 0) j) nr 0 x y := fun x y => by
    rw [← hgg]
    constructor
    · rintro ⟨r, a1, a2, a3, a4, j, s, a5, a6, a7, a8⟩
      exact ⟨r, j, s, a1, a2, Or.inl a2, a3, a4, a5, a6, a7, a8⟩
    · rintro ⟨r, j, s, a1, a2, a3, a4, a5, a6, a7, a8, a9⟩
      exact ⟨r, a1, a2, a4, a5, j, s, a6, a7, a8, a9⟩
  have hgE : ∀ a b, iR 10 a → iR 10 b → g a b → E a b := fun a b _ _ h => by
    rw [hE']
    obtain ⟨r, j, s, a1, a2, a3, a4, a5, a6, a7, a8, -⟩ := (hg' a b).mp h
    exact ⟨r, j, s, a1, a2, a3, a4, a5, a6, a7, a8, trivial⟩
  have hget : ∀ (r : Int) (j : Nat), (rowM u r)[j]? = if j < (u.1 276 r).toNat then some (u.1 277 (6 * r + j)) else none := fun r j => by
    have := rowF_get (fun d => u.1 277 (6 * r + d)) (u.1 276 r).toNat 0 j
    rw [show (0 : Int) + (j : Int) = j by omega] at this
    exact this
  have tail : ∀ (A G N : Int → Int), PS E g A G → K_218 (d + 1) 149 [.ref 271, iV 0, .retAddr 0, .retAddr 0, .retAddr 0, .retAddr 0, .retAddr 0] [] (sF u A G N) (fun u' => ∃ A G N, u' = sF u A G N ∧ PS E g A G ∧ trA A ∧ (∀ x z, iR 10 x → iR 10 z → gs g (fun x y => A (10 * x + y) ≠ 0) x z → G (10 * x + z) ≠ 0) ∧ ∀ x, iR 10 x → (N x = 0 ∨ N x = 1) ∧ (N x ≠ 0 ↔ enR A G x)) := by
    intro A G N hP
    refine l_149 (fun A G hP hTr => ?_) 10 0 A G (Int.le_refl 0) (by omega) hP (fun w x z w0 w1 => by omega)
    refine l_324 (fun G hP hgs => ?_) hgE hTr 10 0 G rfl hP (fun q => by omega) (fun q => by omega)
    exact l_479 hP.1 hP.2.1 (fun N hN => ⟨A, G, N, rfl, hP, hTr, hgs, hN⟩) 10 0 N (Int.le_refl 0) (by omega) (fun z z0 z1 => by omega)
  have rules : ∀ (m : Nat) (r : Int) (A G N : Int → Int), 0 ≤ r → r + m = nr → bH A → bH G → (∀ x y, iR 10 x → iR 10 y → (A (10 * x + y) ≠ 0 ↔ eP nr (u.1 275) (rowM u) (gdT (u.1 283)) (fun _ _ => True) r 0 x y)) → (∀ x y, iR 10 x → iR 10 y → (G (10 * x + y) ≠ 0 ↔ eP nr (u.1 275) (rowM u) (gdT (u.1 283)) (fun l j => bsP l (fun y => u.1 286 y ≠ 0) j) r 0 x y)) → K_218 (d + 1) 30 [.ref 271, iV r, .retAddr 0, .retAddr 0, .retAddr 0, .retAddr 0, .retAddr 0] [] (sF u A G N) (fun u' => ∃ A G N, u' = sF u A G N ∧ PS E g A G ∧ trA A ∧ (∀ x z, iR 10 x → iR 10 z → gs g (fun x y => A (10 * x + y) ≠ 0) x z → G (10 * x + z) ≠ 0) ∧ ∀ x, iR 10 x → (N x = 0 ∨ N x = 1) ∧ (N x ≠ 0 ↔ enR A G x)) := by
    intro m
    induction m with
    | zero =>
      intro r A G N hr he hA hG iA iG
      refine k_218_30 ⟨⟨by omega, by omega⟩, ?_⟩
      rw [sF_o (b := 271) (by decide) (by decide) (by decide), h6]
      refine ⟨⟨by omega, by omega⟩, ?_⟩
      rw [if_neg (by omega)]
      have er : r = nr := by omega
      rw [er] at iA iG
      refine tail A G N ⟨hA, hG, fun x y hx hy h => (iA x y hx hy).mpr ((hE' x y).mp h), fun x y hx hy h => (iG x y hx hy).mpr ((hg' x y).mp h), fun T hTe => ⟨fun x y hx hy h => hTe.1 x y hx hy ((hE' x y).mpr ((iA x y hx hy).mp h)), fun x y hx hy h => ⟨x, y, hx, hy, (hg' x y).mpr ((iG x y hx hy).mp h), Or.inl rfl, Or.inl rfl⟩⟩⟩
    | succ m ih =>
      intro r A G N hr he hA hG iA iG
      obtain ⟨g0, g1, g2, g3, g4⟩ := hM r hr (by omega)
      obtain ⟨b1, b2', b3⟩ := hg r hr (by omega)
      refine k_218_30 ⟨⟨by omega, by omega⟩, ?_⟩
      rw [sF_o (b := 271) (by decide) (by decide) (by decide), h6]
      refine ⟨⟨by omega, by omega⟩, ?_⟩
      rw [if_pos (by omega)]
      have syms : ∀ (m' k : Nat) (A G : Int → Int), (k : Int) + m' = u.1 276 r → bH A → bH G → (∀ x y, iR 10 x → iR 10 y → (A (10 * x + y) ≠ 0 ↔ eP nr (u.1 275) (rowM u) (gdT (u.1 283)) (fun _ _ => True) r k x y)) → (∀ x y, iR 10 x → iR 10 y → (G (10 * x + y) ≠ 0 ↔ eP nr (u.1 275) (rowM u) (gdT (u.1 283)) (fun l j => bsP l (fun y => u.1 286 y ≠ 0) j) r k x y)) → K_218 (d + 1) 40 [.ref 271, iV r, iV k, .retAddr 0, .retAddr 0, .retAddr 0, .retAddr 0] [] (sF u A G N) (fun u' => ∃ A G N, u' = sF u A G N ∧ PS E g A G ∧ trA A ∧ (∀ x z, iR 10 x → iR 10 z → gs g (fun x y => A (10 * x + y) ≠ 0) x z → G (10 * x + z) ≠ 0) ∧ ∀ x, iR 10 x → (N x = 0 ∨ N x = 1) ∧ (N x ≠ 0 ↔ enR A G x)) := by
        intro m'
        induction m' with
        | zero =>
          intro k A G hk hA hG iA iG
          have hnone : (rowM u r)[k]? = none := by rw [hget, if_neg (by omega)]
          refine k_218_40 ⟨g0, g1, ⟨by omega, by omega⟩, ?_⟩
          rw [sF_o (b := 276) (by decide) (by decide) (by decide)]
          refine ⟨⟨by omega, by omega⟩, ?_⟩
          rw [if_neg (by omega)]
          exact ih (r + 1) A G N (by omega) (by omega) hA hG (fun x y hx hy => (iA x y hx hy).trans (eP_n (Or.inr hnone)).symm) (fun x y hx hy => (iG x y hx hy).trans (eP_n (Or.inr hnone)).symm)
        | succ m' ih' =>
          intro k A G hk hA hG iA iG
          have hsome : (rowM u r)[k]? = some (u.1 277 (6 * r + k)) := by rw [hget, if_pos (by omega)]
          have hsy := b3 _ (List.mem_of_getElem? hsome)
          unfold symR at hsy
          refine k_218_40 ⟨g0, g1, ⟨by omega, by omega⟩, ?_⟩
          rw [sF_o (b := 276) (by decide) (by decide) (by decide)]
          refine ⟨⟨by omega, by omega⟩, ?_⟩
          rw [if_pos (by omega)]
          have hp := p_216 (d := d) (u := sF u A G N) (r := r) (gM_sF (hM r hr (by omega))) (fun y y0 y1 => by rw [sF_o (by decide) (by decide) (by decide)]; exact hT y y0 y1)
          refine cI.mono hp (Nat.le_refl _) (fun x u6 hx => ?_)
          obtain ⟨ex, eu⟩ := hx
          rw [rowM_sF, sF_o (b := 283) (by decide) (by decide) (by decide)] at ex
          rw [eu, ex]
          refine ⟨ri_b2 _, ?_⟩
          by_cases hgo : goo (u.1 283) (rowM u r) = true
          · have hgd : gdT (u.1 283) (rowM u r) := goo_iff.mp hgo
            rw [hgo, if_neg (by decide), sF_o (b := 277) (by decide) (by decide) (by decide), sF_o (b := 275) (by decide) (by decide) (by decide)]
            refine ⟨by omega, by omega, ⟨by omega, by omega⟩, ?_⟩
            by_cases hl : u.1 277 (6 * r + k) < 100
            · rw [if_pos hl]
              refine ih' (k + 1) A G (by omega) hA hG (fun x y hx hy => ?_) (fun x y hx hy => ?_)
              · rw [iA x y hx hy, eP_s hr (by omega) hgd hsome]
                constructor
                · exact fun q => Or.inl q
                · rintro (q | q)
                  · exact q
                  · omega
              · rw [iG x y hx hy, eP_s hr (by omega) hgd hsome]
                constructor
                · exact fun q => Or.inl q
                · rintro (q | q)
                  · exact q
                  · omega
            · rw [if_neg hl]
              have hXr : iR 10 (u.1 275 r) := ⟨b1, by omega⟩
              have hYr : iR 10 (u.1 277 (6 * r + k) - 100) := ⟨by omega, by omega⟩
              have ej : 10 * u.1 275 r + u.1 277 (6 * r + k) - 100 = 10 * u.1 275 r + (u.1 277 (6 * r + k) - 100) := by omega
              rw [ej]
              refine ⟨by omega, by omega, fun u16 e16 => ?_⟩
              rw [sF_wA] at e16
              rw [e16, sF_G]
              have hA2 : bH (uf A (10 * u.1 275 r + (u.1 277 (6 * r + k) - 100)) 1) := bH_uf hA (Or.inr rfl)
              have iA2 : ∀ x y, iR 10 x → iR 10 y → (uf A (10 * u.1 275 r + (u.1 277 (6 * r + k) - 100)) 1 (10 * x + y) ≠ 0 ↔ eP nr (u.1 275) (rowM u) (gdT (u.1 283)) (fun _ _ => True) r (k + 1) x y) := fun x y hx hy => by
                rw [uf_sq hXr hYr hx hy, eP_s hr (by omega) hgd hsome, ← iA x y hx hy]
                by_cases e : x = u.1 275 r ∧ y = u.1 277 (6 * r + k) - 100
                · rw [if_pos e]
                  exact ⟨fun _ => Or.inr ⟨e.1.symm, by omega, e.2.symm, trivial⟩, fun _ => by decide⟩
                · rw [if_neg e]
                  constructor
                  · exact fun q => Or.inl q
                  · rintro (q | ⟨q1, q2, q3, -⟩)
                    · exact q
                    · exact absurd ⟨q1.symm, q3.symm⟩ e
              have next : ∀ v : Int, (v = 0 ∨ v = 1) → (v ≠ 0 ↔ G (10 * u.1 275 r + (u.1 277 (6 * r + k) - 100)) ≠ 0 ∨ bsP (rowM u r) (fun y => u.1 286 y ≠ 0) k) → K_218 (d + 1) 40 [.ref 271, iV r, iV ((k : Int) + 1), .retAddr 0, .retAddr 0, .retAddr 0, .retAddr 0] [] (sF u (uf A (10 * u.1 275 r + (u.1 277 (6 * r + k) - 100)) 1) (uf G (10 * u.1 275 r + (u.1 277 (6 * r + k) - 100)) v) N) (fun u' => ∃ A G N, u' = sF u A G N ∧ PS E g A G ∧ trA A ∧ (∀ x z, iR 10 x → iR 10 z → gs g (fun x y => A (10 * x + y) ≠ 0) x z → G (10 * x + z) ≠ 0) ∧ ∀ x, iR 10 x → (N x = 0 ∨ N x = 1) ∧ (N x ≠ 0 ↔ enR A G x)) := by
                intro v hv01 hvi
                refine ih' (k + 1) _ _ (by omega) hA2 (bH_uf hG hv01) iA2 (fun x y hx hy => ?_)
                rw [uf_sq hXr hYr hx hy, eP_s hr (by omega) hgd hsome, ← iG x y hx hy]
                by_cases e : x = u.1 275 r ∧ y = u.1 277 (6 * r + k) - 100
                · rw [if_pos e, hvi, e.1, e.2]
                  constructor
                  · rintro (q | q)
                    · exact Or.inl q
                    · exact Or.inr ⟨rfl, by omega, rfl, q⟩
                  · rintro (q | q)
                    · exact Or.inl q
                    · exact Or.inr q.2.2.2
                · rw [if_neg e]
                  constructor
                  · exact fun q => Or.inl q
                  · rintro (q | ⟨q1, q2, q3, -⟩)
                    · exact q
                    · exact absurd ⟨q1.symm, q3.symm⟩ e
              refine ⟨bH_r hG (by omega) (by omega), ?_⟩
              by_cases c1 : G (10 * u.1 275 r + (u.1 277 (6 * r + k) - 100)) = 0
              · rw [if_pos c1]
                have hp2 := p_219 (d := d) (u := sF u (uf A (10 * u.1 275 r + (u.1 277 (6 * r + k) - 100)) 1) G N) (r := r) (k := k) (gM_sF (hM r hr (by omega))) (fun s hs => by
                  rw [rowM_sF] at hs
                  have := b3 s hs
                  unfold symR at this ⊢
                  omega) (by omega) (fun y y0 y1 => by rw [sF_o (by decide) (by decide) (by decide)]; exact hL y y0 y1)
                refine cI.mono hp2 (Nat.le_refl _) (fun x u20 hx => ?_)
                obtain ⟨x1, x2, x3⟩ := hx
                rw [rowM_sF, sF_o (b := 286) (by decide) (by decide) (by decide)] at x2
                rw [x3]
                refine ⟨by rcases x1 with q | q <;> rw [q] <;> decide, ?_⟩
                by_cases c2 : x = 0
                · rw [if_pos c2]
                  intro u24 e24
                  rw [sF_wG] at e24
                  rw [e24]
                  refine next 0 (Or.inl rfl) ⟨fun q => absurd rfl q, fun q => ?_⟩
                  rcases q with q | q
                  · exact absurd c1 q
                  · exact absurd c2 (x2.mpr q)
                · rw [if_neg c2]
                  intro u24 e24
                  rw [sF_wG] at e24
                  rw [e24]
                  exact next 1 (Or.inr rfl) ⟨fun _ => Or.inr (x2.mp c2), fun _ => by decide⟩
              · rw [if_neg c1]
                intro u28 e28
                rw [sF_wG] at e28
                rw [e28]
                exact next 1 (Or.inr rfl) ⟨fun _ => Or.inl c1, fun _ => by decide⟩
          · have hgo2 : goo (u.1 283) (rowM u r) = false := by simpa using hgo
            have hngd : ¬ gdT (u.1 283) (rowM u r) := fun q => hgo (goo_iff.mpr q)
            rw [hgo2, if_pos (by decide)]
            exact ih (r + 1) A G N (by omega) (by omega) hA hG (fun x y hx hy => (iA x y hx hy).trans (eP_n (Or.inl hngd)).symm) (fun x y hx hy => (iG x y hx hy).trans (eP_n (Or.inl hngd)).symm)
      exact syms (u.1 276 r).toNat 0 A G (by omega) hA hG iA iG
  have zero : ∀ (m : Nat) (k : Int) (A G : Int → Int), 0 ≤ k → k + m = 100 → (∀ j, 0 ≤ j → j < k → A j = 0 ∧ G j = 0) → K_218 (d + 1) 2 [.ref 271, iV k, .retAddr 0, .retAddr 0, .retAddr 0, .retAddr 0, .retAddr 0] [] (sF u A G (u.1 287)) (fun u' => ∃ A G N, u' = sF u A G N ∧ PS E g A G ∧ trA A ∧ (∀ x z, iR 10 x → iR 10 z → gs g (fun x y => A (10 * x + y) ≠ 0) x z → G (10 * x + z) ≠ 0) ∧ ∀ x, iR 10 x → (N x = 0 ∨ N x = 1) ∧ (N x ≠ 0 ↔ enR A G x)) := by
    intro m
    induction m with
    | zero =>
      intro k A G hk hke hz
      refine k_218_2 ⟨⟨by omega, by omega⟩, ?_⟩
      rw [if_neg (by omega)]
      have hz0 : ∀ x y, iR 10 x → iR 10 y → A (10 * x + y) = 0 ∧ G (10 * x + y) = 0 := fun x y hx hy => hz _ (by have := hx.1; have := hy.1; omega) (by have := hx.2; have := hy.2; omega)
      refine rules nr 0 A G _ (Int.le_refl 0) (by omega) (fun j j0 j1 => Or.inl (hz j j0 (by omega)).1) (fun j j0 j1 => Or.inl (hz j j0 (by omega)).2) (fun x y hx hy => ?_) (fun x y hx hy => ?_)
      · exact ⟨fun q => absurd (hz0 x y hx hy).1 q, fun q => absurd q eP_0⟩
      · exact ⟨fun q => absurd (hz0 x y hx hy).2 q, fun q => absurd q eP_0⟩
    | succ m ih =>
      intro k A G hk hke hz
      refine k_218_2 ⟨⟨by omega, by omega⟩, ?_⟩
      rw [if_pos (by omega)]
      refine ⟨hk, fun u4 e4 u6 e6 => ?_⟩
      rw [sF_wA] at e4
      rw [e4, sF_wG] at e6
      rw [e6]
      refine ih (k + 1) _ _ (by omega) (by omega) (fun j j0 j1 => ?_)
      by_cases e : j = k
      · rw [e, uf_eq, uf_eq]
        exact ⟨rfl, rfl⟩
      · rw [uf_ne e, uf_ne e]
        exact hz j j0 (by omega)
  refine e_218 ?_
  have := zero 100 0 (u.1 290) (u.1 291) (Int.le_refl 0) (by omega) (fun j j0 j1 => by omega)
  rw [sF_id] at this
  exact this
end FE2
