/-! The other side: trees of the word, trees of a length -/
def tld (a : Int) : Int := if a = 5000000000000000000 then -2 else a
def fQ : List Nat := [271, 292, 293, 294, 295, 296, 297, 298, 299, 300]
def ltW (w : Int → Int) (q s : Int) : Prop := w (q - 1) = s
theorem cix_inj {y p P x i N : Int} (hp : 0 ≤ p ∧ p ≤ 40) (hP : 0 ≤ P ∧ P ≤ 40) (hi : 0 ≤ i ∧ i ≤ 40) (hN : 0 ≤ N ∧ N ≤ 40) (h : (y * 41 + p) * 41 + P = (x * 41 + i) * 41 + N) : y = x ∧ p = i ∧ P = N := by
  have h1 : y * 41 + p = x * 41 + i := by
    generalize y * 41 + p = A at *
    generalize x * 41 + i = B at *
    omega
  omega
theorem q_223 {d k : Nat} {u : uS} {g : Gm} {x : Int} {lt : Int → Int → Prop} (hg : gK g) (hA : rA u g) (hlt : ∀ q s : Int, 1 ≤ q → q ≤ k → (lt q s ↔ u.1 273 (q - 1) = s)) (hx : iR (gv g) x) (hk : k ≤ 40) (h3 : u.1 271 3 = k) (hw : ∀ q : Int, 0 ≤ q → q < k → rI (u.1 273 q)) : cL (d + 7) 223 [.ref 271, iV x] u (fun c u' => u'.2 = u.2 ∧ sb1 u u' fQ ∧ (∀ i : Int, i ≠ 33 → u'.1 271 i = u.1 271 i) ∧ c = tld (if k = 0 then em g x else tT g lt (fun p => p) k x 0)) := by
  obtain ⟨g1, g2, g3, g4⟩ := id hg
  obtain ⟨a1, a2, a3, a4⟩ := id hA
  have x0 := hx.1
  have x1 := hx.2
  generalize hT : tT g lt (fun p => p) = T
  have Tcv : ∀ m y p, cv (T m y p) := fun m y p => by rw [← hT]; exact tT_cv m y p
  generalize hQQ : (fun (c : Int) (u' : uS) => u'.2 = u.2 ∧ sb1 u u' fQ ∧ (∀ i : Int, i ≠ 33 → u'.1 271 i = u.1 271 i) ∧ c = tld (if k = 0 then em g x else T k x 0)) = Q
  let Fr : uS → Prop := fun v => v.2 = u.2 ∧ sb1 u v fQ ∧ ∀ i : Int, i ≠ 33 → v.1 271 i = u.1 271 i
  have frA : ∀ v, Fr v → rA v g := fun v hv => rA_of hA (hv.2.2 5 (by decide)) (hv.2.2 6 (by decide)) (hv.2.1 _ (by decide)) (hv.2.1 _ (by decide)) (hv.2.1 _ (by decide)) (hv.2.1 _ (by decide))
  let Tab : uS → Nat → Int → Prop := fun v n i => ∀ (m : Nat) (y p : Int), 1 ≤ m → iR (gv g) y → 0 ≤ p → p + m ≤ k → (m < n ∨ m = n ∧ p < i) → v.1 296 ((y * 41 + p) * 41 + p + m) = T m y p
  have lens : ∀ (M n : Nat) (v : uS), n + M = k + 1 → 1 ≤ n → Fr v → (∀ x, iR (gv g) x → v.1 292 x = em g x) → Tab v n 0 → K_223 (d + 6) 26 [.ref 271, iV x, iV (n : Int), .retAddr 0] [] v Q := by
    intro M
    induction M with
    | zero =>
      intro n v hn hn1 hF hem hTab
      refine k_223_26 ⟨⟨by omega, by omega⟩, ?_⟩
      rw [hF.2.2 3 (by decide), h3]
      refine ⟨⟨by omega, by omega⟩, ?_⟩
      rw [if_pos (by omega)]
      have fin : ∀ a c : Int, a = (if k = 0 then em g x else T k x 0) → c = tld a → Q c v := by
        intro a c ha hc
        rw [← hQQ]
        exact ⟨hF.1, hF.2.1, hF.2.2, by rw [hc, ha]⟩
      by_cases hk0 : (k : Int) = 0
      · rw [if_pos hk0, hem x hx]
        refine ⟨x0, by omega, cv_L (em_cv g x), ?_⟩
        have := fin (em g x)
        rw [if_pos (by omega)] at this
        split
        · next h => exact this _ rfl (by unfold tld; rw [if_pos h])
        · next h => exact this _ rfl (by unfold tld; rw [if_neg h])
      · rw [if_neg hk0]
        have hv := hTab k x 0 (by omega) hx (Int.le_refl 0) (by omega) (Or.inl (by omega))
        rw [show (x * 41 + 0) * 41 + 0 + (k : Int) = (x * 41 + 0) * 41 + k by omega] at hv
        rw [hv]
        refine ⟨by omega, by omega, cv_L (Tcv _ _ _), ?_⟩
        have := fin (T k x 0)
        rw [if_neg (by omega)] at this
        split
        · next h => exact this _ rfl (by unfold tld; rw [if_pos h])
        · next h => exact this _ rfl (by unfold tld; rw [if_neg h])
    | succ M ih =>
      intro n v hn hn1 hF hem hTab
      refine k_223_26 ⟨⟨by omega, by omega⟩, ?_⟩
      rw [hF.2.2 3 (by decide), h3]
      refine ⟨⟨by omega, by omega⟩, ?_⟩
      rw [if_neg (by omega)]
      have inner : ∀ (M' : Nat) (i : Nat) (w : uS), i + n + M' = k + 1 → Fr w → (∀ x, iR (gv g) x → w.1 292 x = em g x) → Tab w n i → K_223 (d + 6) 36 [.ref 271, iV x, iV (n : Int), iV (i : Int)] [] w Q := by
        intro M'
        induction M' with
        | zero =>
          intro i w hi hFw hemw hTw
          refine k_223_36 ⟨⟨by omega, by omega⟩, ?_⟩
          rw [hFw.2.2 3 (by decide), h3]
          refine ⟨⟨by omega, by omega⟩, ?_⟩
          rw [if_pos (by omega)]
          have := ih (n + 1) w (by omega) (by omega) hFw hemw (fun m y p q1 q2 q3 q4 q5 => hTw m y p q1 q2 q3 q4 (by omega))
          rw [Int.natCast_succ] at this
          exact this
        | succ M' ih' =>
          intro i w hi hFw hemw hTw
          refine k_223_36 ⟨⟨by omega, by omega⟩, ?_⟩
          rw [hFw.2.2 3 (by decide), h3]
          refine ⟨⟨by omega, by omega⟩, ?_⟩
          rw [if_neg (by omega)]
          have e73 : w.1 273 = u.1 273 := hFw.2.1 _ (by decide)
          refine cV.mono (q_228 (d := d + 1) (N := n) (g := g) (i := (i : Int)) (b := 0) (lt := lt) (pi := fun p => p) hg (frA w hFw) (by omega) hn1 (by omega) (Or.inl rfl) rfl (fun t s t0 t1 => ?_) (fun _ q q0 q1 => by rw [e73]; exact hw q q0 (by omega)) (fun p => by rw [if_pos rfl]) hemw (fun m y p q1 q2 q3 q4 q5 => ?_)) (Nat.le_refl _) (fun z ⟨z1, z2, z3, z4, z5⟩ => ?_)
          · rw [hlt _ _ (by omega) (by omega), e73]
            exact ⟨fun h => Or.inr h, fun h => by rcases h with h | h; exact absurd rfl h; exact h⟩
          · rw [hT]
            exact hTw m y p q1 q3 (by omega) (by omega) (Or.inl q2)
          · rw [hT] at z5
            have := ih' (i + 1) z (by omega) ⟨z1.trans hFw.1, fun b hb => (z2 b (fun hh => hb (by simp only [fQ, List.mem_cons, List.not_mem_nil, or_false] at hh ⊢; omega))).trans (hFw.2.1 b hb), fun j hj => (z3 j hj).trans (hFw.2.2 j hj)⟩ (by rw [z2 292 (by decide)]; exact hemw) (fun m y p q1 q2 q3 q4 q5 => ?_)
            · rw [Int.natCast_succ] at this
              rw [show (i : Int) + 1 = (i : Int) + 1 from rfl]
              exact this
            · have q20 := q2.1
              have q21 := q2.2
              by_cases e : m = n ∧ p = i
              · rw [e.1, e.2]
                exact z5 y q2
              · rw [z4 _ (fun x' p0 p1 h => e (by
                  have := cix_inj (y := y) (p := p) (P := p + m) (x := x') (i := i) (N := (i : Int) + n) ⟨by omega, by omega⟩ ⟨by omega, by omega⟩ ⟨by omega, by omega⟩ ⟨by omega, by omega⟩ (by omega)
                  omega))]
                exact hTw m y p q1 q2 q3 q4 (by omega)
      have := inner (k + 1 - n) 0 v (by omega) hF hem (fun m y p q1 q2 q3 q4 q5 => hTab m y p q1 q2 q3 q4 (by omega))
      exact this
  refine e_223 ⟨⟨by omega, by omega⟩, ?_⟩
  rw [a1]
  refine ⟨⟨by omega, by omega⟩, ?_⟩
  rw [if_neg (by omega), if_neg (by omega)]
  refine cV.mono (q_224 (d := d + 4) hg hA) (by omega) (fun v ⟨v1, v2, v3, v4⟩ => ?_)
  exact lens k 1 v (by omega) (Nat.le_refl _) ⟨v1, fun b hb => v2 b (fun hh => hb (by simp only [fQ, List.mem_cons, List.not_mem_nil, or_false] at hh ⊢; omega)), v3⟩ v4 (fun m y p q1 q2 q3 q4 q5 => by omega)
theorem q_234 {d k : Nat} {u : uS} {g : Gm} (hg : gK g) (hA : rA u g) (hv : 1 ≤ gv g) (h11 : u.1 271 11 = 1) (hk : k ≤ 40) : cL (d + 7) 234 [.ref 271, iV (k : Int)] u (fun c u' => u'.2 = u.2 ∧ sb1 u u' fQ ∧ (∀ i : Int, i ≠ 33 → u'.1 271 i = u.1 271 i) ∧ c = tld (if k = 0 then em g 0 else tT g (fun _ _ => True) (fun _ => 0) k 0 0)) := by
  obtain ⟨g1, g2, g3, g4⟩ := id hg
  obtain ⟨a1, a2, a3, a4⟩ := id hA
  have hx : iR (gv g) 0 := ⟨by omega, by omega⟩
  generalize hT : tT g (fun _ _ => True) (fun _ => 0) = T
  have Tcv : ∀ m y p, cv (T m y p) := fun m y p => by rw [← hT]; exact tT_cv m y p
  generalize hQQ : (fun (c : Int) (u' : uS) => u'.2 = u.2 ∧ sb1 u u' fQ ∧ (∀ i : Int, i ≠ 33 → u'.1 271 i = u.1 271 i) ∧ c = tld (if k = 0 then em g 0 else T k 0 0)) = Q
  let Fr : uS → Prop := fun v => v.2 = u.2 ∧ sb1 u v fQ ∧ ∀ i : Int, i ≠ 33 → v.1 271 i = u.1 271 i
  have frA : ∀ v, Fr v → rA v g := fun v hv => rA_of hA (hv.2.2 5 (by decide)) (hv.2.2 6 (by decide)) (hv.2.1 _ (by decide)) (hv.2.1 _ (by decide)) (hv.2.1 _ (by decide)) (hv.2.1 _ (by decide))
  let Tab : uS → Nat → Prop := fun v n => ∀ (m : Nat) (y : Int), 1 ≤ m → iR (gv g) y → m < n → v.1 296 ((y * 41 + 0) * 41 + 0 + m) = T m y 0
  have lens : ∀ (M n : Nat) (v : uS), n + M = k + 1 → 1 ≤ n → Fr v → (∀ x, iR (gv g) x → v.1 292 x = em g x) → Tab v n → K_234 (d + 6) 29 [.ref 271, iV (k : Int), iV (n : Int)] [] v Q := by
    intro M
    induction M with
    | zero =>
      intro n v hn hn1 hF hem hTab
      refine k_234_29 ⟨⟨by omega, by omega⟩, ⟨by omega, by omega⟩, ?_⟩
      rw [if_pos (by omega)]
      have fin : ∀ a c : Int, a = (if k = 0 then em g 0 else T k 0 0) → c = tld a → Q c v := by
        intro a c ha hc
        rw [← hQQ]
        exact ⟨hF.1, hF.2.1, hF.2.2, by rw [hc, ha]⟩
      by_cases hk0 : (k : Int) = 0
      · rw [if_pos hk0, hem 0 hx]
        refine ⟨cv_L (em_cv g 0), ?_⟩
        have := fin (em g 0)
        rw [if_pos (by omega)] at this
        split
        · next h => exact this _ rfl (by unfold tld; rw [if_pos h])
        · next h => exact this _ rfl (by unfold tld; rw [if_neg h])
      · rw [if_neg hk0]
        have hv' := hTab k 0 (by omega) hx (by omega)
        rw [show ((0 : Int) * 41 + 0) * 41 + 0 + (k : Int) = (0 * 41 + 0) * 41 + k by omega] at hv'
        rw [hv']
        refine ⟨by omega, by omega, cv_L (Tcv _ _ _), ?_⟩
        have := fin (T k 0 0)
        rw [if_neg (by omega)] at this
        split
        · next h => exact this _ rfl (by unfold tld; rw [if_pos h])
        · next h => exact this _ rfl (by unfold tld; rw [if_neg h])
    | succ M ih =>
      intro n v hn hn1 hF hem hTab
      refine k_234_29 ⟨⟨by omega, by omega⟩, ⟨by omega, by omega⟩, ?_⟩
      rw [if_neg (by omega)]
      have q28 := q_228 (d := d + 1) (N := n) (u := v) (g := g) (i := 0) (b := 1) (lt := fun _ _ => True) (pi := fun _ => 0) hg (frA v hF) (Int.le_refl 0) hn1 (by omega) (Or.inr rfl) rfl (fun t s t0 t1 => ⟨fun _ => Or.inl (by decide), fun _ => trivial⟩) (fun h => absurd h (by decide)) (fun p => by rw [if_neg (by decide)]) hem (fun m y p q1 q2 q3 q4 q5 => by rw [hT]; exact hTab m y q1 q3 q2)
      rw [show (0 : Int) + (n : Int) = n by omega, hT] at q28
      refine cV.mono q28 (Nat.le_refl _) (fun z ⟨z1, z2, z3, z4, z5⟩ => ?_)
      have := ih (n + 1) z (by omega) (by omega) ⟨z1.trans hF.1, fun b hb => (z2 b (fun hh => hb (by simp only [fQ, List.mem_cons, List.not_mem_nil, or_false] at hh ⊢; omega))).trans (hF.2.1 b hb), fun j hj => (z3 j hj).trans (hF.2.2 j hj)⟩ (by rw [z2 292 (by decide)]; exact hem) (fun m y q1 q2 q3 => ?_)
      · rw [Int.natCast_succ] at this
        exact this
      · have q20 := q2.1
        have q21 := q2.2
        by_cases e : m = n
        · rw [e]
          exact z5 y q2
        · rw [z4 _ (fun x' p0 p1 h => e (by omega))]
          exact hTab m y q1 q2 (by omega)
  refine e_234 ?_
  rw [h11]
  refine ⟨by decide, ?_⟩
  rw [if_neg (by decide)]
  refine ⟨⟨by omega, by omega⟩, ?_⟩
  rw [if_neg (by omega), if_neg (by omega)]
  refine cV.mono (q_224 (d := d + 4) hg hA) (by omega) (fun v ⟨v1, v2, v3, v4⟩ => ?_)
  exact lens k 1 v (by omega) (Nat.le_refl _) ⟨v1, fun b hb => v2 b (fun hh => hb (by simp only [fQ, List.mem_cons, List.not_mem_nil, or_false] at hh ⊢; omega)), v3⟩ v4 (fun m y q1 q2 q3 => by omega)
