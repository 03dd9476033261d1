/-! The other side: names become numbers; what is read becomes the grammar -/
def NfR (v0 v : uS) (s : rS) : Prop := Vf v0 v ∧ v.1 271 12 = s 0 2 ∧ v.1 271 13 = s 0 3 ∧ (∀ x, 0 ≤ x → x < s 0 2 → v.1 278 x = s 1 x) ∧ (∀ r, 0 ≤ r → r < s 0 3 → v.1 279 r = s 2 r ∧ v.1 280 r = s 3 r)
theorem NfR_sS {v0 v : uS} {s : rS} {g : Int → Int} (h : NfR v0 v s) : NfR v0 (sS v 281 g) s := by
  obtain ⟨⟨a1, a2, a3⟩, b, c, e, k⟩ := h
  refine ⟨⟨fun x hx => ?_, a2, ?_⟩, ?_, ?_, ?_, ?_⟩
  · rw [sS_o (fun q => hx (by rw [q]; decide))]; exact a1 x hx
  · rw [sS_o (by decide)]; exact a3
  · rw [sS_o (by decide)]; exact b
  · rw [sS_o (by decide)]; exact c
  · rw [sS_o (by decide)]; exact e
  · rw [sS_o (by decide), sS_o (by decide)]; exact k
theorem q_213 {d n : Nat} {v0 v : uS} {s : rS} (hn : n ≤ 300) (hJ : JS s n) (R : RvD v0 v s n) : cV (d + 1) 213 [.ref 271] v (fun v' => NfR v0 v' s ∧ ((∃ p : Int, v'.1 271 19 = p ∧ 0 ≤ p ∧ p < n ∧ udf s p) ∨ (v'.1 271 19 = -2 ∧ (∀ r d, ¬ ud s r d) ∧ ∀ r d, oc s r d → fnS s (s 4 (6 * r + d)) (v'.1 281 (6 * r + d))))) := by
  obtain ⟨x1, x2, x3, x4, x5, x6⟩ := id R
  obtain ⟨a1, a2, a3, a4, a5, a6, a7, a8, a9, a10, a11⟩ := id hJ
  have hN0 : NfR v0 v s := ⟨x1, x4, x5, x6.1, fun r r0 r1 => ⟨(x6.2 r r0 r1).1, (x6.2 r r0 r1).2.1⟩⟩
  have hsy : ∀ r d, oc s r d → syC (s 4 (6 * r + d)) ∧ 0 ≤ s 5 (6 * r + d) ∧ s 5 (6 * r + d) < n := fun r d h => (a10 r h.1 h.2.1).2.2.2.2 d h.2.2.1 h.2.2.2
  -- behind a fault nothing more is done
  have stopS : ∀ (v1 : uS) (p r k : Int), NfR v0 v1 s → v1.1 271 19 = p → 0 ≤ p → p < n → udf s p → 0 ≤ r → r < s 0 3 → 0 ≤ k → k ≤ 6 → K_213 d 21 [.ref 271, iV r, iV k, .retAddr 0, .retAddr 0, .retAddr 0] [] v1 (fun v' => NfR v0 v' s ∧ ((∃ p : Int, v'.1 271 19 = p ∧ 0 ≤ p ∧ p < n ∧ udf s p) ∨ (v'.1 271 19 = -2 ∧ (∀ r d, ¬ ud s r d) ∧ ∀ r d, oc s r d → fnS s (s 4 (6 * r + d)) (v'.1 281 (6 * r + d))))) := by
    intro v1 p r k hN h19 p0 p1 hp r0 r1 k0 k6
    have e280 := (hN.2.2.2.2 r r0 r1).2
    have hl := a10 r r0 r1
    have nxt : K_213 d 2 [.ref 271, iV (r + 1), .retAddr 0, .retAddr 0, .retAddr 0, .retAddr 0] [] v1 (fun v' => NfR v0 v' s ∧ ((∃ p : Int, v'.1 271 19 = p ∧ 0 ≤ p ∧ p < n ∧ udf s p) ∨ (v'.1 271 19 = -2 ∧ (∀ r d, ¬ ud s r d) ∧ ∀ r d, oc s r d → fnS s (s 4 (6 * r + d)) (v'.1 281 (6 * r + d))))) := by
      refine k_213_2 ⟨⟨by omega, by omega⟩, ?_⟩
      rw [hN.2.2.1, h19]
      refine ⟨⟨by omega, by omega⟩, ?_⟩
      by_cases q : r + 1 < s 0 3
      · rw [if_pos q]
        refine ⟨⟨by omega, by omega⟩, ?_⟩
        rw [if_neg (by omega)]
        exact ⟨hN, Or.inl ⟨p, rfl, p0, p1, hp⟩⟩
      · rw [if_neg q]
        exact ⟨hN, Or.inl ⟨p, rfl, p0, p1, hp⟩⟩
    refine k_213_21 ⟨r0, by omega, ⟨by omega, by omega⟩, ?_⟩
    rw [e280, h19]
    refine ⟨⟨by omega, by omega⟩, ?_⟩
    by_cases q : k < s 3 r
    · rw [if_pos q]
      refine ⟨⟨by omega, by omega⟩, ?_⟩
      rw [if_neg (by omega)]
      exact nxt
    · rw [if_neg q]
      exact nxt
  have rules : ∀ (m : Nat) (r : Int) (g : Int → Int), 0 ≤ r → r + m = s 0 3 → (∀ r' d', oc s r' d' → (r' < r → fnS s (s 4 (6 * r' + d')) (g (6 * r' + d'))) ∧ (r ≤ r' → g (6 * r' + d') = cvS (s 4 (6 * r' + d')))) → K_213 d 2 [.ref 271, iV r, .retAddr 0, .retAddr 0, .retAddr 0, .retAddr 0] [] (sS v 281 g) (fun v' => NfR v0 v' s ∧ ((∃ p : Int, v'.1 271 19 = p ∧ 0 ≤ p ∧ p < n ∧ udf s p) ∨ (v'.1 271 19 = -2 ∧ (∀ r d, ¬ ud s r d) ∧ ∀ r d, oc s r d → fnS s (s 4 (6 * r + d)) (v'.1 281 (6 * r + d))))) := by
    intro m
    induction m with
    | zero =>
      intro r g hr he hg
      refine k_213_2 ⟨⟨by omega, by omega⟩, ?_⟩
      rw [sS_o (b := 271) (by decide), x5]
      refine ⟨⟨by omega, by omega⟩, ?_⟩
      rw [if_neg (by omega)]
      refine ⟨NfR_sS hN0, Or.inr ⟨x3, fun r' d' h => ?_, fun r' d' h => ?_⟩⟩
      · rcases (hg r' d' h.1).1 (by have := h.1.2.1; omega) with q | ⟨q1, z, q2, q3, q4, -⟩
        · have := h.2.1; omega
        · exact h.2.2 z q2 q3 q4
      · rw [sS_f]
        exact (hg r' d' h).1 (by have := h.2.1; omega)
    | succ m ih =>
      intro r g hr he hg
      have hl := a10 r hr (by omega)
      have e280 : v.1 280 r = s 3 r := (x6.2 r hr (by omega)).2.1
      refine k_213_2 ⟨⟨by omega, by omega⟩, ?_⟩
      rw [sS_o (b := 271) (by decide), x5, x3]
      refine ⟨⟨by omega, by omega⟩, ?_⟩
      rw [if_pos (by omega)]
      refine ⟨by decide, ?_⟩
      rw [if_pos rfl]
      have syms : ∀ (m' : Nat) (k : Int) (g : Int → Int), 0 ≤ k → k + m' = s 3 r → (∀ r' d', oc s r' d' → ((r' < r ∨ (r' = r ∧ d' < k)) → fnS s (s 4 (6 * r' + d')) (g (6 * r' + d'))) ∧ (¬ (r' < r ∨ (r' = r ∧ d' < k)) → g (6 * r' + d') = cvS (s 4 (6 * r' + d')))) → K_213 d 21 [.ref 271, iV r, iV k, .retAddr 0, .retAddr 0, .retAddr 0] [] (sS v 281 g) (fun v' => NfR v0 v' s ∧ ((∃ p : Int, v'.1 271 19 = p ∧ 0 ≤ p ∧ p < n ∧ udf s p) ∨ (v'.1 271 19 = -2 ∧ (∀ r d, ¬ ud s r d) ∧ ∀ r d, oc s r d → fnS s (s 4 (6 * r + d)) (v'.1 281 (6 * r + d))))) := by
        intro m'
        induction m' with
        | zero =>
          intro k g hk hke hg
          refine k_213_21 ⟨hr, by omega, ⟨by omega, by omega⟩, ?_⟩
          rw [sS_o (b := 280) (by decide), e280]
          refine ⟨⟨by omega, by omega⟩, ?_⟩
          rw [if_neg (by omega)]
          refine ih (r + 1) g (by omega) (by omega) (fun r' d' h => ⟨fun q => (hg r' d' h).1 ?_, fun q => (hg r' d' h).2 (by omega)⟩)
          have h4 := h.2.2.2
          by_cases e : r' = r
          · rw [e] at h4
            exact Or.inr ⟨e, by omega⟩
          · exact Or.inl (by omega)
        | succ m' ih' =>
          intro k g hk hke hg
          have hoc : oc s r k := ⟨hr, by omega, hk, by omega⟩
          have hval : g (6 * r + k) = cvS (s 4 (6 * r + k)) := (hg r k hoc).2 (fun q => by omega)
          have hs4 := hsy r k hoc
          have hs5 := hs4.1
          unfold syC at hs5
          refine k_213_21 ⟨hr, by omega, ⟨by omega, by omega⟩, ?_⟩
          rw [sS_o (b := 280) (by decide), e280, sS_o (b := 271) (by decide), x3, sS_f, hval]
          refine ⟨⟨by omega, by omega⟩, ?_⟩
          rw [if_pos (by omega)]
          refine ⟨by decide, ?_⟩
          rw [if_pos rfl]
          by_cases hl4 : s 4 (6 * r + k) < 100
          · have ecv : cvS (s 4 (6 * r + k)) = s 4 (6 * r + k) := if_pos hl4
            rw [ecv]
            refine ⟨by omega, by omega, ⟨by omega, by omega⟩, ?_⟩
            rw [if_pos (by omega)]
            refine ih' (k + 1) g (by omega) (by omega) (fun r' d' h => ⟨fun q => ?_, fun q => (hg r' d' h).2 (fun z => q (by omega))⟩)
            by_cases e : r' = r ∧ d' = k
            · rw [e.1, e.2, hval, ecv]
              exact Or.inl ⟨hl4, rfl⟩
            · exact (hg r' d' h).1 (by omega)
          · have ecv : cvS (s 4 (6 * r + k)) = s 4 (6 * r + k) + 965 := if_neg hl4
            rw [ecv]
            refine ⟨by omega, by omega, ⟨by omega, by omega⟩, ?_⟩
            rw [if_neg (by omega)]
            -- the name is looked for
            have look : ∀ (m2 : Nat) (x fo : Int), 0 ≤ x → x + m2 = s 0 2 → ((fo = -2 ∧ ∀ y, 0 ≤ y → y < x → s 1 y ≠ s 4 (6 * r + k) - 35) ∨ (0 ≤ fo ∧ fo < x ∧ s 1 fo = s 4 (6 * r + k) - 35)) → K_213 d 66 [.ref 271, iV r, iV k, iV (s 4 (6 * r + k) + 965), iV fo, iV x] [] (sS v 281 g) (fun v' => NfR v0 v' s ∧ ((∃ p : Int, v'.1 271 19 = p ∧ 0 ≤ p ∧ p < n ∧ udf s p) ∨ (v'.1 271 19 = -2 ∧ (∀ r d, ¬ ud s r d) ∧ ∀ r d, oc s r d → fnS s (s 4 (6 * r + d)) (v'.1 281 (6 * r + d))))) := by
              intro m2
              induction m2 with
              | zero =>
                intro x fo hx hxe hfo
                refine k_213_66 ⟨⟨by omega, by omega⟩, ?_⟩
                rw [sS_o (b := 271) (by decide), x4]
                refine ⟨⟨by omega, by omega⟩, ?_⟩
                rw [if_neg (by omega)]
                refine ⟨by rcases hfo with q | q <;> exact ⟨by omega, by omega⟩, ?_⟩
                by_cases c1 : fo = -2
                · rw [if_pos c1]
                  have hno : noN s (s 4 (6 * r + k) - 35) := by
                    rcases hfo with q | q
                    · exact fun y y0 y1 => q.2 y y0 (by omega)
                    · omega
                  refine ⟨by omega, by omega, fun u13 e13 u15 e15 => ?_⟩
                  have e282 : (sS v 281 g).1 282 (6 * r + k) = s 5 (6 * r + k) := by
                    rw [sS_o (by decide)]
                    exact ((x6.2 r hr (by omega)).2.2 k hk (by omega)).2
                  rw [e282] at e13
                  have hN13 : NfR v0 u13 s := by
                    obtain ⟨b1, b2, b3, b4, b5⟩ := NfR_sS (g := g) hN0
                    rw [e13]
                    refine ⟨Vf_wr b1 (Or.inr (Or.inr (Or.inr rfl))), ?_, ?_, ?_, ?_⟩
                    · rw [wr_1, if_neg (by decide)]; exact b2
                    · rw [wr_1, if_neg (by decide)]; exact b3
                    · rw [wr_ne (by decide)]; exact b4
                    · rw [wr_ne (by decide), wr_ne (by decide)]; exact b5
                  have hN15 : NfR v0 u15 s := by
                    obtain ⟨b1, b2, b3, b4, b5⟩ := hN13
                    rw [e15]
                    refine ⟨Vf_wr2 b1 (by decide), ?_, ?_, ?_, ?_⟩
                    · rw [wr_ne (by decide)]; exact b2
                    · rw [wr_ne (by decide)]; exact b3
                    · rw [wr_ne (by decide)]; exact b4
                    · rw [wr_ne (by decide), wr_ne (by decide)]; exact b5
                  have h19 : u15.1 271 19 = s 5 (6 * r + k) := by rw [e15, wr_ne (by decide), e13, wr_self]
                  have hud : ud s r k := ⟨hoc, by omega, hno⟩
                  refine stopS u15 _ r (k + 1) hN15 h19 hs4.2.1 hs4.2.2 ⟨⟨r, k, hud, rfl⟩, fun r' d' h => ?_⟩ hr (by omega) (by omega) (by omega)
                  by_cases e : r' < r ∨ (r' = r ∧ d' < k)
                  · rcases (hg r' d' h.1).1 e with q | ⟨q1, z, q2, q3, q4, -⟩
                    · have := h.2.1; omega
                    · exact absurd q4 (h.2.2 z q2 q3)
                  · by_cases e2 : r' = r ∧ d' = k
                    · rw [e2.1, e2.2]; exact Int.le_refl _
                    · have hd6 := (a10 r' h.1.1 h.1.2.1).2.2.2.1
                      have h4 := h.1.2.2.2
                      have := a11 r k r' d' hr (by omega) hk (by omega) h.1.1 h.1.2.1 h.1.2.2.1 h4 (by have := h.1.2.2.1; omega)
                      omega
                · rw [if_neg c1]
                  obtain ⟨f0, f1, f2⟩ : 0 ≤ fo ∧ fo < x ∧ s 1 fo = s 4 (6 * r + k) - 35 := by
                    rcases hfo with q | q
                    · exact absurd q.1 c1
                    · exact q
                  refine ⟨by omega, by omega, fun u19 e19 => ?_⟩
                  rw [sS_w] at e19
                  rw [e19]
                  refine ih' (k + 1) _ (by omega) (by omega) (fun r' d' h => ⟨fun q => ?_, fun q => ?_⟩)
                  · by_cases e : r' = r ∧ d' = k
                    · rw [e.1, e.2, uf_eq]
                      exact Or.inr ⟨by omega, fo, f0, by omega, f2, rfl⟩
                    · have hd6 := (a10 r' h.1 h.2.1).2.2.2.1
                      have h4 := h.2.2.2
                      have h3 := h.2.2.1
                      rw [uf_ne (by omega)]
                      exact (hg r' d' h).1 (by omega)
                  · have hd6 := (a10 r' h.1 h.2.1).2.2.2.1
                    have h4 := h.2.2.2
                    have h3 := h.2.2.1
                    rw [uf_ne (by omega)]
                    exact (hg r' d' h).2 (fun z => q (by omega))
              | succ m2 ih2 =>
                intro x fo hx hxe hfo
                have hnm := a8 x hx (by omega)
                refine k_213_66 ⟨⟨by omega, by omega⟩, ?_⟩
                rw [sS_o (b := 271) (by decide), x4]
                refine ⟨⟨by omega, by omega⟩, ?_⟩
                rw [if_pos (by omega), sS_o (b := 278) (by decide), x6.1 x hx (by omega)]
                refine ⟨hx, by omega, ⟨by omega, by omega⟩, ⟨by omega, by omega⟩, ?_⟩
                by_cases c1 : s 1 x = s 4 (6 * r + k) + 965 - 1000
                · rw [if_pos c1]
                  exact ih2 (x + 1) x (by omega) (by omega) (Or.inr ⟨hx, by omega, by omega⟩)
                · rw [if_neg c1]
                  refine ih2 (x + 1) fo (by omega) (by omega) ?_
                  rcases hfo with q | q
                  · refine Or.inl ⟨q.1, fun y y0 y1 => ?_⟩
                    by_cases e : y = x
                    · rw [e]; omega
                    · exact q.2 y y0 (by omega)
                  · exact Or.inr ⟨q.1, by omega, q.2.2⟩
            exact look (s 0 2).toNat 0 (-2) (Int.le_refl 0) (by omega) (Or.inl ⟨rfl, fun y y0 y1 => by omega⟩)
      refine syms (s 3 r).toNat 0 g (Int.le_refl 0) (by omega) (fun r' d' h => ⟨fun q => (hg r' d' h).1 (by have := h.2.2.1; omega), fun q => (hg r' d' h).2 (by have := h.2.2.1; omega)⟩)
  refine e_213 ?_
  have hid : sS v 281 (v.1 281) = v := by
    refine Prod.ext ?_ rfl
    funext b j
    simp only [sS]
    split
    · next h => rw [h]
    · rfl
  have := rules (s 0 3).toNat 0 (v.1 281) (Int.le_refl 0) (by omega) (fun r' d' h => ⟨fun q => by have := h.1; omega, fun _ => ((x6.2 r' h.1 h.2.1).2.2 d' h.2.2.1 h.2.2.2).1⟩)
  rw [hid] at this
  exact this
abbrev guL : List Nat := [271, 274, 275, 276, 277, 278, 279, 280, 281, 282]
/-- what stays as it was -/
def Uf (v0 v : uS) : Prop := sb1 v0 v guL ∧ v.2 = v0.2 ∧ ∀ i : Int, i ≠ 1 → i ≠ 4 → i ≠ 5 → i ≠ 6 → i ≠ 11 → i ≠ 12 → i ≠ 13 → i ≠ 19 → v.1 271 i = v0.1 271 i
/-- the grammar that was read -/
def GR (v : uS) (s : rS) : Prop := v.1 271 5 = s 0 2 ∧ v.1 271 6 = s 0 3 ∧ v.1 271 11 = 1 ∧ v.1 271 1 = 0 ∧ (∀ x, 0 ≤ x → x < s 0 2 → v.1 274 x = s 1 x) ∧ (∀ r, 0 ≤ r → r < s 0 3 → v.1 275 r = s 2 r ∧ v.1 276 r = s 3 r ∧ ∀ d, 0 ≤ d → d < s 3 r → fnS s (s 4 (6 * r + d)) (v.1 277 (6 * r + d)))
theorem l_206c {d : Nat} {Q : Int → uS → Prop} {v0 v : uS} {s : rS} {j : Int} (hJ : JS s j) (hU : Uf v0 v) (e1 : v.1 271 1 = 0) (e5 : v.1 271 5 = s 0 2) (e6 : v.1 271 6 = s 0 3) (e11 : v.1 271 11 = 1) (hnm : ∀ x, 0 ≤ x → x < s 0 2 → v.1 278 x = s 1 x) (hrl : ∀ r, 0 ≤ r → r < s 0 3 → v.1 279 r = s 2 r ∧ v.1 280 r = s 3 r) (hsy : ∀ r d, oc s r d → fnS s (s 4 (6 * r + d)) (v.1 281 (6 * r + d))) (hS : ∀ v', Uf v0 v' → GR v' s → cV d 214 [.ref 271] v' (fun u10 => Q (u10.1 271 6) u10)) : K_206 d 114 [.ref 271, .retAddr 0, iV 0, .retAddr 0] [] v Q := by
  obtain ⟨a1, a2, a3, a4, a5, a6, a7, a8, a9, a10, a11⟩ := id hJ
  have hUs : ∀ {v1 : uS} {b : Nat} {i x : Int}, Uf v0 v1 → b ∈ [274, 275, 276, 277] → Uf v0 (wr v1 b i x) := fun {v1 b i x} h hb => by
    simp only [List.mem_cons, List.not_mem_nil, or_false] at hb
    refine ⟨sb1_wr h.1 (by
      simp only [List.mem_cons, List.not_mem_nil, or_false]
      omega), h.2.1, ?_⟩
    rw [wr_ne (by omega)]
    exact h.2.2
  -- the rules
  have rules : ∀ (m : Nat) (r : Int) (v1 : uS), 0 ≤ r → r + m = s 0 3 → Uf v0 v1 → v1.1 271 = v.1 271 → v1.1 279 = v.1 279 → v1.1 280 = v.1 280 → v1.1 281 = v.1 281 → (∀ x, 0 ≤ x → x < s 0 2 → v1.1 274 x = s 1 x) → (∀ r', 0 ≤ r' → r' < r → v1.1 275 r' = s 2 r' ∧ v1.1 276 r' = s 3 r' ∧ ∀ d', 0 ≤ d' → d' < s 3 r' → v1.1 277 (6 * r' + d') = v.1 281 (6 * r' + d')) → K_206 d 142 [.ref 271, .retAddr 0, iV r, .retAddr 0] [] v1 Q := by
    intro m
    induction m with
    | zero =>
      intro r v1 hr he hU1 g271 g279 g280 g281 hn1 hr1
      refine k_206_142 ⟨⟨by omega, by omega⟩, ?_⟩
      rw [g271, e6]
      refine ⟨⟨by omega, by omega⟩, ?_⟩
      rw [if_neg (by omega)]
      refine hS v1 hU1 ⟨by rw [g271]; exact e5, by rw [g271]; exact e6, by rw [g271]; exact e11, by rw [g271]; exact e1, hn1, fun r' r0 r1 => ?_⟩
      obtain ⟨b1, b2, b3⟩ := hr1 r' r0 (by omega)
      refine ⟨b1, b2, fun d' d0 d1 => ?_⟩
      rw [b3 d' d0 d1]
      exact hsy r' d' ⟨r0, r1, d0, d1⟩
    | succ m ih =>
      intro r v1 hr he hU1 g271 g279 g280 g281 hn1 hr1
      refine k_206_142 ⟨⟨by omega, by omega⟩, ?_⟩
      rw [g271, e6]
      refine ⟨⟨by omega, by omega⟩, ?_⟩
      rw [if_pos (by omega)]
      refine ⟨hr, by omega, fun u6 e6' u8 e8 => ?_⟩
      have k280 : u6.1 280 r = s 3 r := by rw [e6', wr_ne (by decide), g280]; exact (hrl r hr (by omega)).2
      rw [k280] at e8
      rw [g279, (hrl r hr (by omega)).1] at e6'
      have syms : ∀ (m' : Nat) (k : Int) (v2 : uS), 0 ≤ k → k + m' = 6 → Uf v0 v2 → v2.1 271 = v.1 271 → v2.1 279 = v.1 279 → v2.1 280 = v.1 280 → v2.1 281 = v.1 281 → v2.1 274 = v1.1 274 → v2.1 275 = uf (v1.1 275) r (s 2 r) → v2.1 276 = uf (v1.1 276) r (s 3 r) → (∀ i, i < 6 * r → v2.1 277 i = v1.1 277 i) → (∀ d', 0 ≤ d' → d' < k → v2.1 277 (6 * r + d') = v.1 281 (6 * r + d')) → K_206 d 176 [.ref 271, .retAddr 0, iV r, iV k] [] v2 Q := by
        intro m'
        induction m' with
        | zero =>
          intro k v2 hk hke hU2 h1 h2 h3 h4 h5 h6 h7 h8 h9
          refine k_206_176 ⟨⟨by omega, by omega⟩, ?_⟩
          rw [if_neg (by omega)]
          refine ih (r + 1) v2 (by omega) (by omega) hU2 h1 h2 h3 h4 (by rw [h5]; exact hn1) (fun r' r0 r1 => ?_)
          rw [h6, h7]
          by_cases e : r' = r
          · rw [e, uf_eq, uf_eq]
            refine ⟨rfl, rfl, fun d' d0 d1 => h9 d' d0 ?_⟩
            have := (a10 r hr (by omega)).2.2.2.1
            omega
          · rw [uf_ne e, uf_ne e]
            obtain ⟨b1, b2, b3⟩ := hr1 r' r0 (by omega)
            refine ⟨b1, b2, fun d' d0 d1 => ?_⟩
            have := (a10 r' r0 (by omega)).2.2.2.1
            rw [h8 _ (by omega)]
            exact b3 d' d0 d1
        | succ m' ih' =>
          intro k v2 hk hke hU2 h1 h2 h3 h4 h5 h6 h7 h8 h9
          refine k_206_176 ⟨⟨by omega, by omega⟩, ?_⟩
          rw [if_pos (by omega)]
          refine ⟨by omega, by omega, fun u5 e5' => ?_⟩
          rw [h4] at e5'
          refine ih' (k + 1) u5 (by omega) (by omega) (by rw [e5']; exact hUs hU2 (by decide)) (by rw [e5', wr_ne (by decide)]; exact h1) (by rw [e5', wr_ne (by decide)]; exact h2) (by rw [e5', wr_ne (by decide)]; exact h3) (by rw [e5', wr_ne (by decide)]; exact h4) (by rw [e5', wr_ne (by decide)]; exact h5) (by rw [e5', wr_ne (by decide)]; exact h6) (by rw [e5', wr_ne (by decide)]; exact h7) (fun i hi => ?_) (fun d' d0 d1 => ?_)
          · rw [e5', wr_uf, uf_ne (by omega)]
            exact h8 i hi
          · rw [e5', wr_uf]
            by_cases e : d' = k
            · rw [e, uf_eq]
            · rw [uf_ne (by omega)]
              exact h9 d' d0 (by omega)
      refine syms 6 0 u8 (Int.le_refl 0) (by omega) (by rw [e8, e6']; exact hUs (hUs hU1 (by decide)) (by decide)) ?_ ?_ ?_ ?_ ?_ ?_ ?_ (fun i hi => ?_) (fun d' d0 d1 => by omega)
      · rw [e8, e6', wr_ne (by decide), wr_ne (by decide)]; exact g271
      · rw [e8, e6', wr_ne (by decide), wr_ne (by decide)]; exact g279
      · rw [e8, e6', wr_ne (by decide), wr_ne (by decide)]; exact g280
      · rw [e8, e6', wr_ne (by decide), wr_ne (by decide)]; exact g281
      · rw [e8, e6', wr_ne (by decide), wr_ne (by decide)]
      · rw [e8, wr_ne (by decide), e6', wr_uf]
      · rw [e8, wr_uf, e6', wr_ne (by decide)]
      · rw [e8, e6', wr_ne (by decide), wr_ne (by decide)]
  have names : ∀ (m : Nat) (x : Int) (v1 : uS), 0 ≤ x → x + m = s 0 2 → Uf v0 v1 → v1.1 271 = v.1 271 → v1.1 278 = v.1 278 → v1.1 279 = v.1 279 → v1.1 280 = v.1 280 → v1.1 281 = v.1 281 → (∀ y, 0 ≤ y → y < x → v1.1 274 y = s 1 y) → K_206 d 114 [.ref 271, .retAddr 0, iV x, .retAddr 0] [] v1 Q := by
    intro m
    induction m with
    | zero =>
      intro x v1 hx he hU1 g271 g278 g279 g280 g281 hn1
      refine k_206_114 ⟨⟨by omega, by omega⟩, ?_⟩
      rw [g271, e5]
      refine ⟨⟨by omega, by omega⟩, ?_⟩
      rw [if_neg (by omega)]
      exact rules (s 0 3).toNat 0 v1 (Int.le_refl 0) (by omega) hU1 g271 g279 g280 g281 (fun y y0 y1 => hn1 y y0 (by omega)) (fun r' r0 r1 => by omega)
    | succ m ih =>
      intro x v1 hx he hU1 g271 g278 g279 g280 g281 hn1
      refine k_206_114 ⟨⟨by omega, by omega⟩, ?_⟩
      rw [g271, e5]
      refine ⟨⟨by omega, by omega⟩, ?_⟩
      rw [if_pos (by omega)]
      refine ⟨hx, by omega, fun u6 e6' => ?_⟩
      rw [g278, hnm x hx (by omega)] at e6'
      refine ih (x + 1) u6 (by omega) (by omega) (by rw [e6']; exact hUs hU1 (by decide)) (by rw [e6', wr_ne (by decide)]; exact g271) (by rw [e6', wr_ne (by decide)]; exact g278) (by rw [e6', wr_ne (by decide)]; exact g279) (by rw [e6', wr_ne (by decide)]; exact g280) (by rw [e6', wr_ne (by decide)]; exact g281) (fun y y0 y1 => ?_)
      rw [e6', wr_uf]
      by_cases e : y = x
      · rw [e, uf_eq]
      · rw [uf_ne e]
        exact hn1 y y0 (by omega)
  exact names (s 0 2).toNat 0 v (Int.le_refl 0) (by omega) hU rfl rfl rfl rfl rfl (fun y y0 y1 => by omega)
