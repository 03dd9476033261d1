/-! The other side: rules of blank ones, an order without circles -/
def rA (u : uS) (g : Gm) : Prop := u.1 271 5 = gv g ∧ u.1 271 6 = gr g ∧ (∀ r : Int, 0 ≤ r → r < gr g → u.1 275 r = gh g r ∧ u.1 276 r = gl g r ∧ ∀ k, 0 ≤ k → k < gl g r → u.1 277 (6 * r + k) = gy g r k) ∧ ∀ x, iR (gv g) x → (u.1 285 x = 0 ∨ u.1 285 x = 1) ∧ (u.1 285 x ≠ 0 ↔ gb g x)
theorem rA_of {u u' : uS} {g : Gm} (h : rA u g) (h5 : u'.1 271 5 = u.1 271 5) (h6 : u'.1 271 6 = u.1 271 6) (h1 : u'.1 275 = u.1 275) (h2 : u'.1 276 = u.1 276) (h3 : u'.1 277 = u.1 277) (h4 : u'.1 285 = u.1 285) : rA u' g := by
  unfold rA at h ⊢
  rw [h5, h6, h1, h2, h3, h4]
  exact h
theorem q_225 {d : Nat} {u : uS} {g : Gm} {r : Int} (hg : gK g) (hA : rA u g) (r0 : 0 ≤ r) (r1 : r < gr g) : cI (d + 1) 225 [.ref 271, iV r] u (fun c u' => u' = u ∧ ((c = 1 ∧ bR g r) ∨ (c = 0 ∧ ¬ bR g r))) := by
  obtain ⟨g1, g2, g3, g4⟩ := id hg
  obtain ⟨a1, a2, a3, a4⟩ := id hA
  obtain ⟨x1, x2, x3, x4⟩ := g3 r r0 r1
  obtain ⟨y1, y2, y3⟩ := a3 r r0 r1
  have loop : ∀ (m : Nat) (k l : Int), 0 ≤ k → k + m = gl g r → ((l = 1 ∧ ∀ k', 0 ≤ k' → k' < k → 100 ≤ gy g r k' ∧ gb g (gy g r k' - 100)) ∨ (l = 0 ∧ ∃ k', 0 ≤ k' ∧ k' < k ∧ ¬ (100 ≤ gy g r k' ∧ gb g (gy g r k' - 100)))) → K_225 d 4 [.ref 271, iV r, iV l, iV k, .retAddr 0] [] u (fun c u' => u' = u ∧ ((c = 1 ∧ bR g r) ∨ (c = 0 ∧ ¬ bR g r))) := by
    intro m
    induction m with
    | zero =>
      intro k l k0 ke hl
      refine k_225_4 ⟨r0, by omega, ⟨by omega, by omega⟩, ?_⟩
      rw [y2]
      refine ⟨⟨by omega, by omega⟩, ?_⟩
      rw [if_neg (by omega)]
      refine ⟨by omega, rfl, ?_⟩
      rcases hl with ⟨e, h⟩ | ⟨e, k', h1, h2, h3⟩
      · exact Or.inl ⟨e, fun k' z0 z1 => h k' z0 (by omega)⟩
      · exact Or.inr ⟨e, fun h => h3 (h k' h1 (by omega))⟩
    | succ m ih =>
      intro k l k0 ke hl
      refine k_225_4 ⟨r0, by omega, ⟨by omega, by omega⟩, ?_⟩
      rw [y2]
      refine ⟨⟨by omega, by omega⟩, ?_⟩
      rw [if_pos (by omega), y3 k k0 (by omega)]
      have hs := x4 k k0 (by omega)
      refine ⟨by omega, by omega, by rcases hl with z | z <;> rw [z.1] <;> decide, ?_⟩
      rcases hl with ⟨e, h⟩ | ⟨e, k', h1, h2, h3⟩
      · rw [e, if_neg (by decide)]
        refine ⟨by rcases hs with z | z <;> exact ⟨by omega, by omega⟩, ?_⟩
        by_cases hlt : gy g r k < 100
        · rw [if_pos hlt]
          exact ih (k + 1) 0 (by omega) (by omega) (Or.inr ⟨rfl, k, k0, by omega, fun z => by omega⟩)
        · rw [if_neg hlt]
          have hs' : 100 ≤ gy g r k ∧ gy g r k < 100 + gv g := by rcases hs with z | z <;> omega
          obtain ⟨b1, b2⟩ := a4 (gy g r k - 100) ⟨by omega, by omega⟩
          refine ⟨by omega, by omega, by rcases b1 with z | z <;> rw [z] <;> decide, ?_⟩
          by_cases hb : u.1 285 (gy g r k - 100) = 0
          · rw [if_pos hb]
            exact ih (k + 1) 0 (by omega) (by omega) (Or.inr ⟨rfl, k, k0, by omega, fun z => (b2.mpr z.2) hb⟩)
          · rw [if_neg hb]
            refine ih (k + 1) 1 (by omega) (by omega) (Or.inl ⟨rfl, fun k' z0 z1 => ?_⟩)
            by_cases ek : k' = k
            · rw [ek]; exact ⟨hs'.1, b2.mp hb⟩
            · exact h k' z0 (by omega)
      · rw [e, if_pos rfl]
        exact ih (k + 1) 0 (by omega) (by omega) (Or.inr ⟨rfl, k', h1, by omega, h3⟩)
  exact e_225 (loop (gl g r).toNat 0 1 (Int.le_refl 0) (by omega) (Or.inl ⟨rfl, fun k' z0 z1 => by omega⟩))
/-- what putInOrder leaves: an order, each behind all it leads to; what stays leads to what stays -/
def ordP (nv : Nat) (E : Int → Int → Prop) (T : Int → Prop) (m : Nat) (ord : Int → Int) : Prop := (∀ i : Nat, i < m → iR nv (ord i) ∧ T (ord i) ∧ ∀ y, iR nv y → E (ord i) y → T y → ∃ j : Nat, j < i ∧ ord j = y) ∧ ∀ x, iR nv x → T x → (∀ i : Nat, i < m → ord i ≠ x) → ∃ y, iR nv y ∧ E x y ∧ T y ∧ ∀ i : Nat, i < m → ord i ≠ y
theorem q_226 {d nv a : Nat} {u : uS} (hA : isA a 2 10) (ha : a = 285 ∨ a = 300) (hv : nv ≤ 10) (h5 : u.1 271 5 = nv) (h01 : ∀ x, iR nv x → u.1 a x = 0 ∨ u.1 a x = 1) (hE : ∀ j : Int, 0 ≤ j → j < 100 → u.1 293 j = 0 ∨ u.1 293 j = 1) : cV (d + 1) 226 [.ref 271, .ref a] u (fun u' => u'.2 = u.2 ∧ sb1 u u' [271, 294, 295] ∧ (∀ i : Int, i ≠ 33 → u'.1 271 i = u.1 271 i) ∧ ∃ m : Nat, m ≤ nv ∧ u'.1 271 33 = m ∧ ordP nv (fun x y => u.1 293 (10 * x + y) ≠ 0) (fun x => u.1 a x ≠ 0) m (u'.1 295)) := by
  generalize hQQ : (fun u' : uS => u'.2 = u.2 ∧ sb1 u u' [271, 294, 295] ∧ (∀ i : Int, i ≠ 33 → u'.1 271 i = u.1 271 i) ∧ ∃ m : Nat, m ≤ nv ∧ u'.1 271 33 = m ∧ ordP nv (fun x y => u.1 293 (10 * x + y) ≠ 0) (fun x => u.1 a x ≠ 0) m (u'.1 295)) = Q
  let Fr : uS → Prop := fun v => v.2 = u.2 ∧ sb1 u v [271, 294, 295] ∧ ∀ i : Int, i ≠ 33 → v.1 271 i = u.1 271 i
  let dn : uS → Nat → Bool := fun v i => decide (v.1 294 (i : Int) ≠ 0)
  -- the state between sweeps
  let I : uS → Nat → Prop := fun v m => Fr v ∧ v.1 271 33 = m ∧ m ≤ ct (dn v) nv ∧ (∀ x, iR nv x → v.1 294 x = 0 ∨ v.1 294 x = 1) ∧ (∀ x, iR nv x → (v.1 294 x = 1 ↔ u.1 a x = 0 ∨ ∃ i : Nat, i < m ∧ v.1 295 i = x)) ∧ (∀ i : Nat, i < m → iR nv (v.1 295 i) ∧ u.1 a (v.1 295 i) ≠ 0 ∧ ∀ y, iR nv y → u.1 293 (10 * v.1 295 i + y) ≠ 0 → u.1 a y ≠ 0 → ∃ j : Nat, j < i ∧ v.1 295 j = y)
  have sweep : ∀ (N : Nat) (v : uS) (m : Nat), nv < N + m → I v m → K_226 d 40 [.ref 271, .retAddr 0, iV 1, .retAddr 0, .retAddr 0, .retAddr 0] [] v Q := by
    intro N
    induction N with
    | zero =>
      intro v m hN hI
      have := ct_le (dn v) nv
      have := hI.2.2.1
      omega
    | succ N ih =>
      intro v0 m0 hN hI0
      refine k_226_40 ⟨by decide, ?_⟩
      rw [if_neg (by decide)]
      have xs : ∀ (k : Nat) (x l : Int) (v : uS) (m : Nat), 0 ≤ x → x + k = nv → I v m → m0 ≤ m → ((l = 0 ∧ m = m0 ∧ ∀ x', 0 ≤ x' → x' < x → v.1 294 x' = 0 → ∃ y, iR nv y ∧ u.1 293 (10 * x' + y) ≠ 0 ∧ v.1 294 y = 0) ∨ (l = 1 ∧ m0 < m)) → K_226 d 48 [.ref 271, .retAddr 0, iV l, iV x, .retAddr 0, .retAddr 0] [] v Q := by
        intro k
        induction k with
        | zero =>
          intro x l v m x0 xe hI hm hl
          obtain ⟨i1, i2, i3, i4, i5, i6⟩ := id hI
          refine k_226_48 ⟨⟨by omega, by omega⟩, ?_⟩
          rw [i1.2.2 5 (by decide), h5]
          refine ⟨⟨by omega, by omega⟩, ?_⟩
          rw [if_neg (by omega)]
          rcases hl with ⟨e, em, hn⟩ | ⟨e, hm'⟩
          · rw [e]
            refine k_226_40 ⟨by decide, ?_⟩
            rw [if_pos rfl, ← hQQ]
            have hle := ct_le (dn v) nv
            refine ⟨i1.1, i1.2.1, i1.2.2, m, by omega, i2, fun i hi => i6 i hi, fun z hz hT hno => ?_⟩
            have hz0 := hz.1
            have hz1 := hz.2
            have hd0 : v.1 294 z = 0 := by
              rcases i4 z hz with e' | e'
              · exact e'
              · rcases (i5 z hz).mp e' with h | ⟨i, hi, h⟩
                · exact absurd h hT
                · exact absurd h (hno i hi)
            obtain ⟨y, hy, hE', hy0⟩ := hn z hz0 (by omega) hd0
            refine ⟨y, hy, hE', ?_, ?_⟩
            · intro h
              have := (i5 y hy).mpr (Or.inl h)
              omega
            · intro i hi h
              have := (i5 y hy).mpr (Or.inr ⟨i, hi, h⟩)
              omega
          · rw [e]
            exact ih v m (by omega) hI
        | succ k ihk =>
          intro x l v m x0 xe hI hm hl
          obtain ⟨i1, i2, i3, i4, i5, i6⟩ := id hI
          have hxR : iR nv x := ⟨x0, by omega⟩
          refine k_226_48 ⟨⟨by omega, by omega⟩, ?_⟩
          rw [i1.2.2 5 (by decide), h5]
          refine ⟨⟨by omega, by omega⟩, ?_⟩
          rw [if_pos (by omega)]
          refine ⟨x0, by omega, by rcases i4 x hxR with z | z <;> rw [z] <;> decide, ?_⟩
          have e293 : v.1 293 = u.1 293 := i1.2.1 _ (by decide)
          -- not ready: on with the next
          have skip : (v.1 294 x = 0 → ∃ y, iR nv y ∧ u.1 293 (10 * x + y) ≠ 0 ∧ v.1 294 y = 0) → K_226 d 48 [.ref 271, .retAddr 0, iV l, iV (x + 1), .retAddr 0, .retAddr 0] [] v Q := by
            intro hnr
            refine ihk (x + 1) l v m (by omega) (by omega) hI hm ?_
            rcases hl with ⟨e, em, hn⟩ | h
            · refine Or.inl ⟨e, em, fun x' z0 z1 hz => ?_⟩
              by_cases ex : x' = x
              · rw [ex] at hz ⊢; exact hnr hz
              · exact hn x' z0 (by omega) hz
            · exact Or.inr h
          have ys : ∀ (k' : Nat) (y b : Int), 0 ≤ y → y + k' = nv → ((b = 1 ∧ v.1 294 x = 0 ∧ ∀ y', 0 ≤ y' → y' < y → u.1 293 (10 * x + y') ≠ 0 → v.1 294 y' = 1) ∨ (b = 0 ∧ (v.1 294 x = 0 → ∃ y, iR nv y ∧ u.1 293 (10 * x + y) ≠ 0 ∧ v.1 294 y = 0))) → K_226 d 75 [.ref 271, .retAddr 0, iV l, iV x, iV b, iV y] [] v Q := by
            intro k'
            induction k' with
            | zero =>
              intro y b y0 ye hb
              refine k_226_75 ⟨⟨by omega, by omega⟩, ?_⟩
              rw [i1.2.2 5 (by decide), h5]
              refine ⟨⟨by omega, by omega⟩, ?_⟩
              rw [if_neg (by omega)]
              rcases hb with ⟨e, hx0', hall⟩ | ⟨e, hnr⟩
              · rw [e]
                refine ⟨by decide, ?_⟩
                rw [if_neg (by decide)]
                refine ⟨x0, by omega, fun v1 e1 => ?_⟩
                have w33 : v1.1 271 33 = m := by rw [e1, wr_ne (by omega)]; exact i2
                rw [w33]
                have hup := ct_upd (p := dn v) (p' := dn v1) (j := x.toNat) nv (by omega) (fun i hi hne => by
                  show decide (v1.1 294 (i : Int) ≠ 0) = decide (v.1 294 (i : Int) ≠ 0)
                  rw [e1, wr_uf, uf_ne (by omega)]) (by
                  show decide (v.1 294 ((x.toNat : Nat) : Int) ≠ 0) = false
                  rw [show ((x.toNat : Nat) : Int) = x by omega, hx0']
                  decide) (by
                  show decide (v1.1 294 ((x.toNat : Nat) : Int) ≠ 0) = true
                  rw [show ((x.toNat : Nat) : Int) = x by omega, e1, wr_uf, uf_eq]
                  decide)
                have hle := ct_le (dn v1) nv
                refine ⟨by omega, by omega, fun v2 e2 v3 e3 => ?_⟩
                have w33' : v2.1 271 33 = m := by rw [e2, wr_ne (by omega)]; exact w33
                rw [w33'] at e3
                have f94 : v3.1 294 = uf (v.1 294) x 1 := by rw [e3, wr_ne (by omega), e2, wr_ne (by omega), e1, wr_uf]
                have f95 : v3.1 295 = uf (v.1 295) m x := by rw [e3, wr_ne (by omega), e2, wr_uf, e1, wr_ne (by omega)]
                have f71 : v3.1 271 = uf (v.1 271) 33 ((m : Int) + 1) := by rw [e3, wr_uf, e2, wr_ne (by omega), e1, wr_ne (by omega)]
                refine ihk (x + 1) 1 v3 (m + 1) (by omega) (by omega) ⟨⟨?_, ?_, fun i hi => ?_⟩, ?_, ?_, fun z hz => ?_, fun z hz => ?_, fun i hi => ?_⟩ (by omega) (Or.inr ⟨rfl, by omega⟩)
                · rw [e3, wr_2, e2, wr_2, e1, wr_2]; exact i1.1
                · rw [e3]
                  refine sb1_wr ?_ (by decide)
                  rw [e2]
                  refine sb1_wr ?_ (by decide)
                  rw [e1]
                  exact sb1_wr i1.2.1 (by decide)
                · rw [f71, uf_ne hi]; exact i1.2.2 i hi
                · rw [f71, uf_eq]; omega
                · have : ct (dn v3) nv = ct (dn v1) nv := ct_ext nv (fun i hi => by
                    show (decide (v3.1 294 (i : Int) ≠ 0) = true ↔ decide (v1.1 294 (i : Int) ≠ 0) = true)
                    rw [f94, e1, wr_uf])
                  omega
                · rw [f94]
                  by_cases ez : z = x
                  · rw [ez, uf_eq]; exact Or.inr rfl
                  · rw [uf_ne ez]; exact i4 z hz
                · rw [f94, f95]
                  by_cases ez : z = x
                  · rw [ez, uf_eq]
                    exact ⟨fun _ => Or.inr ⟨m, by omega, by rw [uf_eq]⟩, fun _ => rfl⟩
                  · rw [uf_ne ez, i5 z hz]
                    constructor
                    · rintro (h | ⟨i, hi, h⟩)
                      · exact Or.inl h
                      · exact Or.inr ⟨i, by omega, by rw [uf_ne (by omega)]; exact h⟩
                    · rintro (h | ⟨i, hi, h⟩)
                      · exact Or.inl h
                      · by_cases ei : i = m
                        · rw [ei, uf_eq] at h
                          exact absurd h.symm ez
                        · rw [uf_ne (by omega)] at h
                          exact Or.inr ⟨i, by omega, h⟩
                · rw [f95]
                  by_cases ei : i = m
                  · rw [ei, uf_eq]
                    refine ⟨hxR, fun h => ?_, fun y hy hE' hT => ?_⟩
                    · have := (i5 x hxR).mpr (Or.inl h)
                      omega
                    · have h1 := hall y hy.1 (by have := hy.2; omega) hE'
                      rcases (i5 y hy).mp h1 with h | ⟨j, hj, h⟩
                      · exact absurd h hT
                      · exact ⟨j, hj, by rw [uf_ne (by omega)]; exact h⟩
                  · rw [uf_ne (by omega)]
                    obtain ⟨k1, k2, k3⟩ := i6 i (by omega)
                    refine ⟨k1, k2, fun y hy hE' hT => ?_⟩
                    obtain ⟨j, hj, h⟩ := k3 y hy hE' hT
                    exact ⟨j, hj, by rw [uf_ne (by omega)]; exact h⟩
              · rw [e]
                refine ⟨by decide, ?_⟩
                rw [if_pos rfl]
                exact skip hnr
            | succ k' ihk' =>
              intro y b y0 ye hb
              refine k_226_75 ⟨⟨by omega, by omega⟩, ?_⟩
              rw [i1.2.2 5 (by decide), h5]
              refine ⟨⟨by omega, by omega⟩, ?_⟩
              rw [if_pos (by omega)]
              rcases hb with ⟨e, hx0', hall⟩ | ⟨e, hnr⟩
              · rw [e]
                refine ⟨by decide, ?_⟩
                rw [if_neg (by decide), e293]
                refine ⟨by omega, by omega, by rcases hE (10 * x + y) (by omega) (by omega) with z | z <;> rw [z] <;> decide, ?_⟩
                have hyR : iR nv y := ⟨y0, by omega⟩
                by_cases h0 : u.1 293 (10 * x + y) = 0
                · rw [if_pos h0]
                  refine ihk' (y + 1) 1 (by omega) (by omega) (Or.inl ⟨rfl, hx0', fun y' z0 z1 hz => ?_⟩)
                  by_cases ey : y' = y
                  · rw [ey] at hz; exact absurd h0 hz
                  · exact hall y' z0 (by omega) hz
                · rw [if_neg h0]
                  refine ⟨y0, by omega, by rcases i4 y hyR with z | z <;> rw [z] <;> decide, ?_⟩
                  by_cases h1 : v.1 294 y = 0
                  · rw [if_pos h1]
                    exact ihk' (y + 1) 0 (by omega) (by omega) (Or.inr ⟨rfl, fun _ => ⟨y, hyR, h0, h1⟩⟩)
                  · rw [if_neg h1]
                    refine ihk' (y + 1) 1 (by omega) (by omega) (Or.inl ⟨rfl, hx0', fun y' z0 z1 hz => ?_⟩)
                    by_cases ey : y' = y
                    · rw [ey]
                      rcases i4 y hyR with z | z
                      · exact absurd z h1
                      · exact z
                    · exact hall y' z0 (by omega) hz
              · rw [e]
                refine ⟨by decide, ?_⟩
                rw [if_pos rfl]
                exact skip hnr
          by_cases hd0 : v.1 294 x = 0
          · rw [if_pos hd0]
            exact ys nv 0 1 (Int.le_refl 0) (by omega) (Or.inl ⟨rfl, hd0, fun y' z0 z1 => by omega⟩)
          · rw [if_neg hd0]
            exact ys nv 0 0 (Int.le_refl 0) (by omega) (Or.inr ⟨rfl, fun h => absurd h hd0⟩)
      exact xs nv 0 0 v0 m0 (Int.le_refl 0) (by omega) hI0 (Nat.le_refl _) (Or.inl ⟨rfl, rfl, fun x' z0 z1 => by omega⟩)
  have start : ∀ (k : Nat) (x : Int) (v : uS), 0 ≤ x → x + k = nv → Fr v → v.1 271 33 = 0 → (∀ x', 0 ≤ x' → x' < x → v.1 294 x' = (if u.1 a x' = 0 then 1 else 0)) → K_226 d 7 [.ref 271, .ref a, iV x, .retAddr 0, .retAddr 0, .retAddr 0] [] v Q := by
    intro k
    induction k with
    | zero =>
      intro x v x0 xe hF h33 hd
      refine k_226_7 hA ⟨⟨by omega, by omega⟩, ?_⟩
      rw [hF.2.2 5 (by decide), h5]
      refine ⟨⟨by omega, by omega⟩, ?_⟩
      rw [if_neg (by omega)]
      refine sweep (nv + 1) v 0 (by omega) ⟨hF, by rw [h33]; rfl, by omega, fun z hz => ?_, fun z hz => ?_, fun i hi => by omega⟩
      · rw [hd z hz.1 (by have := hz.2; omega)]
        split
        · exact Or.inr rfl
        · exact Or.inl rfl
      · rw [hd z hz.1 (by have := hz.2; omega)]
        constructor
        · intro h
          by_cases e : u.1 a z = 0
          · exact Or.inl e
          · rw [if_neg e] at h
            exact absurd h (by decide)
        · rintro (h | ⟨i, hi, -⟩)
          · rw [if_pos h]
          · omega
    | succ k ih =>
      intro x v x0 xe hF h33 hd
      have ea : v.1 a = u.1 a := hF.2.1 _ (by simp only [List.mem_cons, List.not_mem_nil, or_false]; omega)
      refine k_226_7 hA ⟨⟨by omega, by omega⟩, ?_⟩
      rw [hF.2.2 5 (by decide), h5, ea]
      refine ⟨⟨by omega, by omega⟩, ?_⟩
      rw [if_pos (by omega)]
      refine ⟨x0, by omega, by rcases h01 x ⟨x0, by omega⟩ with z | z <;> rw [z] <;> decide, ?_⟩
      have go : ∀ (c : Int), c = (if u.1 a x = 0 then 1 else 0) → ∀ v1 : uS, v1 = wr v 294 x c → K_226 d 7 [.ref 271, .ref a, iV (x + 1), .retAddr 0, .retAddr 0, .retAddr 0] [] v1 Q := by
        intro c hc v1 e1
        refine ih (x + 1) v1 (by omega) (by omega) ⟨by rw [e1, wr_2]; exact hF.1, by rw [e1]; exact sb1_wr hF.2.1 (by decide), fun i hi => by rw [e1, wr_ne (by omega)]; exact hF.2.2 i hi⟩ (by rw [e1, wr_ne (by omega)]; exact h33) (fun x' z0 z1 => ?_)
        rw [e1, wr_uf]
        by_cases ex : x' = x
        · rw [ex, uf_eq]; exact hc
        · rw [uf_ne ex]; exact hd x' z0 (by omega)
      by_cases h0 : u.1 a x = 0
      · rw [if_pos h0]
        exact ⟨by omega, go 1 (by rw [if_pos h0])⟩
      · rw [if_neg h0]
        exact ⟨by omega, go 0 (by rw [if_neg h0])⟩
  refine e_226 hA (fun u1 e1 => start nv 0 u1 (Int.le_refl 0) (by omega) ⟨by rw [e1, wr_2], by rw [e1]; exact sb1_wr (sb1_refl _ _) (by decide), fun i hi => by rw [e1, wr_uf, uf_ne hi]⟩ (by rw [e1, wr_uf, uf_eq]) (fun x' z0 z1 => by omega))
