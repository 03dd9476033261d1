/-! The other side: findEndless -/
def ext (E T : Int → Int → Prop) : Prop := (∀ x y, iR 10 x → iR 10 y → E x y → T x y) ∧ (∀ x y z, iR 10 x → iR 10 y → iR 10 z → T x y → T y z → T x z)
def gs (g T : Int → Int → Prop) (x z : Int) : Prop := ∃ a b, iR 10 a ∧ iR 10 b ∧ g a b ∧ (x = a ∨ T x a) ∧ (b = z ∨ T b z)
def PS (E g : Int → Int → Prop) (A G : Int → Int) : Prop := bH A ∧ bH G ∧ (∀ x y, iR 10 x → iR 10 y → E x y → A (10 * x + y) ≠ 0) ∧ (∀ x y, iR 10 x → iR 10 y → g x y → G (10 * x + y) ≠ 0) ∧ ∀ T, ext E T → (∀ x y, iR 10 x → iR 10 y → A (10 * x + y) ≠ 0 → T x y) ∧ (∀ x y, iR 10 x → iR 10 y → G (10 * x + y) ≠ 0 → gs g T x y)
theorem uf_same {A : Int → Int} {j v : Int} (h : A j = v) : uf A j v = A := by
  funext k
  by_cases e : k = j
  · rw [e, uf_eq, h]
  · rw [uf_ne e]
theorem PS_G {E g : Int → Int → Prop} {A G : Int → Int} {x y z : Int} (hx : iR 10 x) (hy : iR 10 y) (hz : iR 10 z) (h : PS E g A G) (h1 : A (10 * x + y) ≠ 0) (h2 : A (10 * y + z) ≠ 0) (h3 : G (10 * x + y) ≠ 0 ∨ G (10 * y + z) ≠ 0) : PS E g A (uf G (10 * x + z) 1) := by
  obtain ⟨a1, a2, a3, a4, a5⟩ := h
  refine ⟨a1, bH_uf a2 (Or.inr rfl), a3, fun p q hp hq hg => ?_, fun T hT => ⟨(a5 T hT).1, fun p q hp hq hn => ?_⟩⟩
  · rw [uf_sq hx hz hp hq]
    split
    · decide
    · exact a4 p q hp hq hg
  · rw [uf_sq hx hz hp hq] at hn
    split at hn
    · next e =>
      rw [e.1, e.2]
      have t1 := (a5 T hT).1 x y hx hy h1
      have t2 := (a5 T hT).1 y z hy hz h2
      rcases h3 with h3 | h3
      · obtain ⟨a, b, ha, hb, b1, b2, b3⟩ := (a5 T hT).2 x y hx hy h3
        refine ⟨a, b, ha, hb, b1, b2, Or.inr ?_⟩
        rcases b3 with e2 | b3
        · rw [e2]; exact t2
        · exact hT.2 b y z hb hy hz b3 t2
      · obtain ⟨a, b, ha, hb, b1, b2, b3⟩ := (a5 T hT).2 y z hy hz h3
        refine ⟨a, b, ha, hb, b1, Or.inr ?_, b3⟩
        rcases b2 with e2 | b2
        · rw [← e2]; exact t1
        · exact hT.2 x y a hx hy ha t1 b2
    · exact (a5 T hT).2 p q hp hq hn
theorem PS_A {E g : Int → Int → Prop} {A G : Int → Int} {x y z : Int} (hx : iR 10 x) (hy : iR 10 y) (hz : iR 10 z) (h : PS E g A G) (h1 : A (10 * x + y) ≠ 0) (h2 : A (10 * y + z) ≠ 0) : PS E g (uf A (10 * x + z) 1) G := by
  obtain ⟨a1, a2, a3, a4, a5⟩ := h
  refine ⟨bH_uf a1 (Or.inr rfl), a2, fun p q hp hq hg => ?_, a4, fun T hT => ⟨fun p q hp hq hn => ?_, (a5 T hT).2⟩⟩
  · rw [uf_sq hx hz hp hq]
    split
    · decide
    · exact a3 p q hp hq hg
  · rw [uf_sq hx hz hp hq] at hn
    split at hn
    · next e =>
      rw [e.1, e.2]
      exact hT.2 x y z hx hy hz ((a5 T hT).1 x y hx hy h1) ((a5 T hT).1 y z hy hz h2)
    · exact (a5 T hT).1 p q hp hq hn
section FE
variable {d : Nat} {Q : uS → Prop} {u : uS}
/-- the end: which have no longest word -/
def enR (A G : Int → Int) (x : Int) : Prop := ∃ y, iR 10 y ∧ G (11 * y) ≠ 0 ∧ (x = y ∨ A (10 * x + y) ≠ 0)
theorem l_479 {A G : Int → Int} (hA : bH A) (hG : bH G) (hQ : ∀ N : Int → Int, (∀ x, iR 10 x → (N x = 0 ∨ N x = 1) ∧ (N x ≠ 0 ↔ enR A G x)) → Q (sF u A G N)) : ∀ (m : Nat) (x : Int) (N : Int → Int), 0 ≤ x → x + m = 10 → (∀ z, 0 ≤ z → z < x → (N z = 0 ∨ N z = 1) ∧ (N z ≠ 0 ↔ enR A G z)) → K_218 d 479 [.ref 271, iV x, .retAddr 0, .retAddr 0, .retAddr 0, .retAddr 0, .retAddr 0] [] (sF u A G N) Q := by
  intro m
  induction m with
  | zero =>
    intro x N hx he hN
    refine k_218_479 ⟨⟨by omega, by omega⟩, ?_⟩
    rw [if_neg (by omega)]
    exact hQ N (fun z hz => hN z hz.1 (by have := hz.2; omega))
  | succ m ih =>
    intro x N hx he hN
    refine k_218_479 ⟨⟨by omega, by omega⟩, ?_⟩
    rw [if_pos (by omega)]
    refine ⟨hx, fun u4 e4 => ?_⟩
    rw [sF_wN] at e4
    rw [e4]
    have inner : ∀ (m' : Nat) (y : Int) (N' : Int → Int), 0 ≤ y → y + m' = 10 → (∀ z, 0 ≤ z → z < x → N' z = N z) → (N' x = 0 ∨ N' x = 1) → (N' x ≠ 0 ↔ ∃ y', 0 ≤ y' ∧ y' < y ∧ G (11 * y') ≠ 0 ∧ (x = y' ∨ A (10 * x + y') ≠ 0)) → K_218 d 494 [.ref 271, iV x, iV y, .retAddr 0, .retAddr 0, .retAddr 0, .retAddr 0] [] (sF u A G N') Q := by
      intro m'
      induction m' with
      | zero =>
        intro y N' hy hye h1 h2 h3
        refine k_218_494 ⟨⟨by omega, by omega⟩, ?_⟩
        rw [if_neg (by omega)]
        refine ih (x + 1) N' (by omega) (by omega) (fun z z0 z1 => ?_)
        by_cases e : z = x
        · rw [e]
          refine ⟨h2, h3.trans ?_⟩
          constructor
          · rintro ⟨y', q1, q2, q3⟩; exact ⟨y', ⟨q1, by omega⟩, q3⟩
          · rintro ⟨y', q1, q3⟩; exact ⟨y', q1.1, by have := q1.2; omega, q3⟩
        · rw [h1 z z0 (by omega)]
          exact hN z z0 (by omega)
      | succ m' ih' =>
        intro y N' hy hye h1 h2 h3
        have step : ∀ v : Int, (v = 0 ∨ v = 1) → (v ≠ 0 ↔ N' x ≠ 0 ∨ (G (11 * y) ≠ 0 ∧ (x = y ∨ A (10 * x + y) ≠ 0))) → K_218 d 494 [.ref 271, iV x, iV (y + 1), .retAddr 0, .retAddr 0, .retAddr 0, .retAddr 0] [] (sF u A G (uf N' x v)) Q := by
          intro v hv hvi
          refine ih' (y + 1) _ (by omega) (by omega) (fun z z0 z1 => ?_) ?_ ?_
          · rw [uf_ne (by omega)]; exact h1 z z0 z1
          · rw [uf_eq]; exact hv
          · rw [uf_eq, hvi, h3]
            constructor
            · rintro (⟨y', q1, q2, q3⟩ | q)
              · exact ⟨y', q1, by omega, q3⟩
              · exact ⟨y, hy, by omega, q⟩
            · rintro ⟨y', q1, q2, q3⟩
              by_cases e : y' = y
              · rw [e] at q3; exact Or.inr q3
              · exact Or.inl ⟨y', q1, by omega, q3⟩
        have hNr : rI (N' x) := by rcases h2 with q | q <;> rw [q] <;> decide
        refine k_218_494 ⟨⟨by omega, by omega⟩, ?_⟩
        rw [if_pos (by omega), sF_N, sF_G, sF_A]
        refine ⟨hx, by omega, hNr, ?_⟩
        by_cases c1 : N' x = 0
        · rw [if_pos c1]
          refine ⟨by omega, by omega, bH_r hG (by omega) (by omega), ?_⟩
          by_cases c2 : G (11 * y) = 0
          · rw [if_pos c2]
            intro u11 e11
            rw [sF_wN] at e11
            rw [e11]
            refine step 0 (Or.inl rfl) ⟨fun q => absurd rfl q, fun q => ?_⟩
            rcases q with q | q
            · exact absurd c1 q
            · exact absurd c2 q.1
          · rw [if_neg c2]
            refine ⟨⟨by omega, by omega⟩, ?_⟩
            by_cases c3 : x = y
            · rw [if_pos c3]
              intro u15 e15
              rw [sF_wN] at e15
              rw [e15]
              exact step 1 (Or.inr rfl) ⟨fun _ => Or.inr ⟨c2, Or.inl c3⟩, fun _ => by decide⟩
            · rw [if_neg c3]
              refine ⟨by omega, by omega, bH_r hA (by omega) (by omega), ?_⟩
              by_cases c4 : A (10 * x + y) = 0
              · rw [if_pos c4]
                intro u21 e21
                rw [sF_wN] at e21
                rw [e21]
                refine step 0 (Or.inl rfl) ⟨fun q => absurd rfl q, fun q => ?_⟩
                rcases q with q | ⟨-, q | q⟩
                · exact absurd c1 q
                · exact absurd q c3
                · exact absurd c4 q
              · rw [if_neg c4]
                intro u23 e23
                rw [sF_wN] at e23
                rw [e23]
                exact step 1 (Or.inr rfl) ⟨fun _ => Or.inr ⟨c2, Or.inr c4⟩, fun _ => by decide⟩
        · rw [if_neg c1]
          intro u25 e25
          rw [sF_wN] at e25
          rw [e25]
          exact step 1 (Or.inr rfl) ⟨fun _ => Or.inl c1, fun _ => by decide⟩
    refine inner 10 0 _ (Int.le_refl 0) (by omega) (fun z z0 z1 => uf_ne (by omega)) (Or.inl (uf_eq _ _ _)) ?_
    rw [uf_eq]
    constructor
    · intro q; exact absurd rfl q
    · rintro ⟨y', q1, q2, -⟩; omega
/-- one step of growing -/
theorem l_395 {A G N : Int → Int} {n k x y z s0 : Int} (hG : bH G) (hx : iR 10 x) (hy : iR 10 y) (hz : iR 10 z) (hs : s0 = 0 ∨ s0 = 1) (hK : K_218 d 332 [.ref 271, iV n, iV (k + 1), .retAddr 0, .retAddr 0, .retAddr 0, .retAddr 0] [] (sF u A (uf G (10 * x + z) (b2 (decide (G (10 * x + z) ≠ 0) || (decide (s0 ≠ 0) && (decide (G (10 * x + y) ≠ 0) || decide (G (10 * y + z) ≠ 0)))))) N) Q) : K_218 d 395 [.ref 271, iV n, iV k, iV x, iV y, iV z, .retAddr 0] [iV s0] (sF u A G N) Q := by
  obtain ⟨x0, x1⟩ := hx
  obtain ⟨y0, y1⟩ := hy
  obtain ⟨z0, z1⟩ := hz
  refine k_218_395 ⟨by omega, by omega, ?_⟩
  rw [sF_G]
  refine ⟨bH_r hG (by omega) (by omega), ?_⟩
  by_cases c1 : G (10 * x + z) = 0
  · rw [if_pos c1]
    refine ⟨by rcases hs with q | q <;> rw [q] <;> decide, ?_⟩
    by_cases c2 : s0 = 0
    · rw [if_pos c2]
      intro u7 e7
      rw [sF_wG] at e7
      rw [e7]
      simpa [c1, c2, b2] using hK
    · rw [if_neg c2]
      refine ⟨by omega, by omega, bH_r hG (by omega) (by omega), ?_⟩
      by_cases c3 : G (10 * x + y) = 0
      · rw [if_pos c3]
        refine ⟨by omega, by omega, bH_r hG (by omega) (by omega), ?_⟩
        by_cases c4 : G (10 * y + z) = 0
        · rw [if_pos c4]
          intro u7 e7
          rw [sF_wG] at e7
          rw [e7]
          simpa [c1, c2, c3, c4, b2] using hK
        · rw [if_neg c4]
          intro u7 e7
          rw [sF_wG] at e7
          rw [e7]
          simpa [c1, c2, c3, c4, b2] using hK
      · rw [if_neg c3]
        intro u7 e7
        rw [sF_wG] at e7
        rw [e7]
        simpa [c1, c2, c3, b2] using hK
  · rw [if_neg c1]
    intro u7 e7
    rw [sF_wG] at e7
    rw [e7]
    simpa [c1, b2] using hK
theorem grow_upd {E g : Int → Int → Prop} {A G : Int → Int} {x y z : Int} {th : Bool} (hx : iR 10 x) (hy : iR 10 y) (hz : iR 10 z) (h : PS E g A G) (hth : th = true → A (10 * x + y) ≠ 0 ∧ A (10 * y + z) ≠ 0) : PS E g A (uf G (10 * x + z) (b2 (decide (G (10 * x + z) ≠ 0) || (th && (decide (G (10 * x + y) ≠ 0) || decide (G (10 * y + z) ≠ 0)))))) ∧ (∀ p q, iR 10 p → iR 10 q → G (10 * p + q) ≠ 0 → uf G (10 * x + z) (b2 (decide (G (10 * x + z) ≠ 0) || (th && (decide (G (10 * x + y) ≠ 0) || decide (G (10 * y + z) ≠ 0))))) (10 * p + q) ≠ 0) ∧ (th = true → G (10 * x + y) ≠ 0 ∨ G (10 * y + z) ≠ 0 → uf G (10 * x + z) (b2 (decide (G (10 * x + z) ≠ 0) || (th && (decide (G (10 * x + y) ≠ 0) || decide (G (10 * y + z) ≠ 0))))) (10 * x + z) ≠ 0) := by
  refine ⟨?_, fun p q hp hq hn => ?_, fun h1 h2 => ?_⟩
  · cases hb : (decide (G (10 * x + z) ≠ 0) || (th && (decide (G (10 * x + y) ≠ 0) || decide (G (10 * y + z) ≠ 0)))) with
    | false =>
      rw [Bool.or_eq_false_iff, decide_eq_false_iff_not] at hb
      rw [uf_same (by simpa [b2] using hb.1)]
      exact h
    | true =>
      rw [Bool.or_eq_true, decide_eq_true_eq, Bool.and_eq_true, Bool.or_eq_true, decide_eq_true_eq, decide_eq_true_eq] at hb
      rcases hb with q | ⟨q1, q2⟩
      · have h01 := h.2.1 (10 * x + z) (by have := hx.1; have := hz.1; omega) (by have := hx.2; have := hz.2; omega)
        have hv : G (10 * x + z) = 1 := by
          rcases h01 with q3 | q3
          · exact absurd q3 q
          · exact q3
        rw [uf_same (by rw [hv]; rfl)]
        exact h
      · exact PS_G hx hy hz h (hth q1).1 (hth q1).2 q2
  · rw [uf_sq hx hz hp hq]
    split
    · next e =>
      rw [e.1, e.2] at hn
      simp [hn, b2]
    · exact hn
  · rw [uf_eq, h1]
    rcases h2 with h2 | h2
    · simp [h2, b2]
    · simp [h2, b2]
def trA (A : Int → Int) : Prop := ∀ x y z, iR 10 x → iR 10 y → iR 10 z → A (10 * x + y) ≠ 0 → A (10 * y + z) ≠ 0 → A (10 * x + z) ≠ 0
theorem l_324 {E g : Int → Int → Prop} {A N : Int → Int} (hQ : ∀ G : Int → Int, PS E g A G → (∀ x z, iR 10 x → iR 10 z → gs g (fun x y => A (10 * x + y) ≠ 0) x z → G (10 * x + z) ≠ 0) → K_218 d 479 [.ref 271, iV 0, .retAddr 0, .retAddr 0, .retAddr 0, .retAddr 0, .retAddr 0] [] (sF u A G N) Q) (hgE : ∀ a b, iR 10 a → iR 10 b → g a b → E a b) (hT : trA A) : ∀ (m n : Nat) (G : Int → Int), n + m = 10 → PS E g A G → (1 ≤ n → ∀ a b x, iR 10 a → iR 10 b → iR 10 x → g a b → (x = a ∨ A (10 * x + a) ≠ 0) → G (10 * x + b) ≠ 0) → (2 ≤ n → ∀ x z, iR 10 x → iR 10 z → gs g (fun x y => A (10 * x + y) ≠ 0) x z → G (10 * x + z) ≠ 0) → K_218 d 324 [.ref 271, iV n, .retAddr 0, .retAddr 0, .retAddr 0, .retAddr 0, .retAddr 0] [] (sF u A G N) Q := by
  intro m
  induction m with
  | zero =>
    intro n G he hP h1 h2
    refine k_218_324 ⟨⟨by omega, by omega⟩, ?_⟩
    rw [if_neg (by omega)]
    exact hQ G hP (h2 (by omega))
  | succ m ih =>
    intro n G he hP h1 h2
    refine k_218_324 ⟨⟨by omega, by omega⟩, ?_⟩
    rw [if_pos (by omega)]
    have round : ∀ (m' : Nat) (k : Int) (G' : Int → Int), 0 ≤ k → k + m' = 1000 → PS E g A G' → (∀ p q, iR 10 p → iR 10 q → G (10 * p + q) ≠ 0 → G' (10 * p + q) ≠ 0) → (∀ x y z, iR 10 x → iR 10 y → iR 10 z → 100 * x + 10 * y + z < k → A (10 * x + y) ≠ 0 → A (10 * y + z) ≠ 0 → G (10 * x + y) ≠ 0 ∨ G (10 * y + z) ≠ 0 → G' (10 * x + z) ≠ 0) → K_218 d 332 [.ref 271, iV n, iV k, .retAddr 0, .retAddr 0, .retAddr 0, .retAddr 0] [] (sF u A G' N) Q := by
      intro m'
      induction m' with
      | zero =>
        intro k G' hk hke hP' hm hc
        refine k_218_332 ⟨⟨by omega, by omega⟩, ?_⟩
        rw [if_neg (by omega)]
        have hc2 : ∀ x y z, iR 10 x → iR 10 y → iR 10 z → A (10 * x + y) ≠ 0 → A (10 * y + z) ≠ 0 → G (10 * x + y) ≠ 0 ∨ G (10 * y + z) ≠ 0 → G' (10 * x + z) ≠ 0 := fun x y z hx hy hz => hc x y z hx hy hz (by have := hx.2; have := hy.2; have := hz.2; omega)
        refine ih (n + 1) G' (by omega) hP' (fun _ a b x ha hb hx hg hxa => ?_) (fun hn x z hx hz hgs => ?_)
        · have hGab := hP.2.2.2.1 a b ha hb hg
          rcases hxa with e | hxa
          · rw [e]
            exact hm a b ha hb hGab
          · exact hc2 x a b hx ha hb hxa (hP.2.2.1 a b ha hb (hgE a b ha hb hg)) (Or.inr hGab)
        · obtain ⟨a, b, ha, hb, hg, hxa, hbz⟩ := hgs
          have hxb := h1 (by omega) a b x ha hb hx hg hxa
          rcases hbz with e | hbz
          · rw [← e]
            exact hm x b hx hb hxb
          · have hAab := hP.2.2.1 a b ha hb (hgE a b ha hb hg)
            have hAxb : A (10 * x + b) ≠ 0 := by
              rcases hxa with e | hxa
              · rw [e]; exact hAab
              · exact hT x a b hx ha hb hxa hAab
            exact hc2 x b z hx hb hz hAxb hbz (Or.inl hxb)
      | succ m' ih' =>
        intro k G' hk hke hP' hm hc
        refine k_218_332 ⟨⟨by omega, by omega⟩, ?_⟩
        rw [if_pos (by omega), sF_A]
        have hX : iR 10 (k.tdiv 100) := by rw [Int.tdiv_eq_ediv_of_nonneg hk]; constructor <;> omega
        have hY0 : 0 ≤ k.tdiv 10 := by rw [Int.tdiv_eq_ediv_of_nonneg hk]; omega
        have hY : iR 10 ((k.tdiv 10).tmod 10) := by rw [Int.tmod_eq_emod_of_nonneg hY0]; constructor <;> omega
        have hZ : iR 10 (k.tmod 10) := by rw [Int.tmod_eq_emod_of_nonneg hk]; constructor <;> omega
        have hkk : 100 * k.tdiv 100 + 10 * (k.tdiv 10).tmod 10 + k.tmod 10 = k := by
          rw [Int.tmod_eq_emod_of_nonneg hY0, Int.tdiv_eq_ediv_of_nonneg hk, Int.tdiv_eq_ediv_of_nonneg hk, Int.tmod_eq_emod_of_nonneg hk]
          omega
        have hk10 : rI (k.tdiv 10) := by rw [Int.tdiv_eq_ediv_of_nonneg hk]; constructor <;> omega
        generalize k.tdiv 100 = X at *
        generalize (k.tdiv 10).tmod 10 = Y at *
        generalize k.tmod 10 = Z at *
        obtain ⟨X0, X1⟩ := id hX
        obtain ⟨Y0, Y1⟩ := id hY
        obtain ⟨Z0, Z1⟩ := id hZ
        have go : ∀ th : Bool, (th = true ↔ A (10 * X + Y) ≠ 0 ∧ A (10 * Y + Z) ≠ 0) → K_218 d 395 [.ref 271, iV n, iV k, iV X, iV Y, iV Z, .retAddr 0] [iV (b2 th)] (sF u A G' N) Q := by
          intro th hth
          refine l_395 hP'.2.1 hX hY hZ (b2_r th) ?_
          have hb : decide (b2 th ≠ 0) = th := by cases th <;> rfl
          rw [hb]
          obtain ⟨p1, p2, p3⟩ := grow_upd (th := th) hX hY hZ hP' hth.mp
          refine ih' (k + 1) _ (by omega) (by omega) p1 (fun p q hp hq hn => p2 p q hp hq (hm p q hp hq hn)) (fun x y z hx hy hz hlt hxy hyz hgg => ?_)
          by_cases e : 100 * x + 10 * y + z < k
          · exact p2 x z hx hz (hc x y z hx hy hz e hxy hyz hgg)
          · have e1 : x = X ∧ y = Y ∧ z = Z := by
              have := hx.1
              have := hx.2
              have := hy.1
              have := hy.2
              have := hz.1
              have := hz.2
              omega
            obtain ⟨e1, e2, e3⟩ := e1
            rw [e1, e2] at hxy
            rw [e2, e3] at hyz
            rw [e1, e2, e3] at hgg
            rw [e1, e3]
            refine p3 (hth.mpr ⟨hxy, hyz⟩) ?_
            rcases hgg with q | q
            · exact Or.inl (hm _ _ hX hY q)
            · exact Or.inr (hm _ _ hY hZ q)
        refine ⟨hk10, by omega, by omega, bH_r hP'.1 (by omega) (by omega), ?_⟩
        by_cases c1 : A (10 * X + Y) = 0
        · rw [if_pos c1]
          exact go false ⟨fun q => absurd q (by decide), fun q => absurd c1 q.1⟩
        · rw [if_neg c1]
          refine ⟨by omega, by omega, bH_r hP'.1 (by omega) (by omega), ?_⟩
          by_cases c2 : A (10 * Y + Z) = 0
          · rw [if_pos c2]
            exact go false ⟨fun q => absurd q (by decide), fun q => absurd c2 q.2⟩
          · rw [if_neg c2]
            exact go true ⟨fun _ => ⟨c1, c2⟩, fun _ => rfl⟩
    exact round 1000 0 G (Int.le_refl 0) (by omega) hP (fun _ _ _ _ h => h) (fun x y z hx hy hz hlt => by have := hx.1; have := hy.1; have := hz.1; omega)
end FE
