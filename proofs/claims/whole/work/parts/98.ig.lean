/-! The other side: trees of a rule over a stretch -/
theorem fx_s {g : Gm} {lt : Int → Int → Prop} {pi : Int → Int} {tt : Nat → Int → Int → Int} {r i : Int} {N d t : Nat} : fx g lt pi tt r i N (d + 1) t = if gy g r d < 100 then (if pd (0 < t ∧ lt (i + t) (gy g r d)) = true then fx g lt pi tt r i N d (t - 1) else 0) else su (fun p => if p = 0 ∧ t = N then 0 else sT (fx g lt pi tt r i N d p) (svt g pi tt (gy g r d - 100) (i + p) (t - p))) (t + 1) := rfl
theorem q_229 {d N : Nat} {u : uS} {g : Gm} {r i b : Int} {lt : Int → Int → Prop} {pi : Int → Int} {tt : Nat → Int → Int → Int} (hg : gK g) (hA : rA u g) (r0 : 0 ≤ r) (r1 : r < gr g) (i0 : 0 ≤ i) (hN : 1 ≤ N) (hj : i + N ≤ 40) (hb : b = 0 ∨ b = 1) (hlt : ∀ (t : Nat) (s : Int), 0 < t → t ≤ N → (lt (i + t) s ↔ b ≠ 0 ∨ u.1 273 (i + t - 1) = s)) (h273 : b = 0 → ∀ q : Int, 0 ≤ q → q < i + N → rI (u.1 273 q)) (hpi : ∀ p, pi p = if b = 0 then p else 0) (ht : ∀ m y i, cv (tt m y i)) (hem : ∀ x, iR (gv g) x → u.1 292 x = em g x) (hT : ∀ (m : Nat) (y p : Int), 1 ≤ m → m < N → iR (gv g) y → i ≤ p → p + m ≤ i + N → u.1 296 ((y * 41 + pi p) * 41 + pi p + m) = tt m y (pi p)) : cL (d + 3) 229 [.ref 271, iV r, iV i, iV (i + N), iV b] u (fun c u' => u'.2 = u.2 ∧ sb1 u u' [297] ∧ c = fx g lt pi tt r i N (gl g r).toNat N) := by
  obtain ⟨g1, g2, g3, g4⟩ := id hg
  obtain ⟨a1, a2, a3, a4⟩ := id hA
  obtain ⟨x1, x2, x3, x4⟩ := g3 r r0 r1
  obtain ⟨y1, y2, y3⟩ := a3 r r0 r1
  generalize hQQ : (fun (c : Int) (u' : uS) => u'.2 = u.2 ∧ sb1 u u' [297] ∧ c = fx g lt pi tt r i N (gl g r).toNat N) = Q
  have fcv : ∀ k t : Nat, cv (fx g lt pi tt r i N k t) := fun k t => fx_cv ht k t
  let Fr : uS → Prop := fun v => v.2 = u.2 ∧ sb1 u v [297]
  let Row : uS → Nat → Nat → Prop := fun v k T => ∀ t : Nat, t < T → v.1 297 (41 * (k : Int) + i + t) = fx g lt pi tt r i N k t
  have frW : ∀ (v : uS) (j c : Int), Fr v → Fr (wr v 297 j c) := fun v j c hv => ⟨by rw [wr_2]; exact hv.1, sb1_wr hv.2 (by decide)⟩
  have rows : ∀ (m k : Nat) (v : uS), (k : Int) + m = gl g r → Fr v → Row v k (N + 1) → K_229 (d + 2) 44 [.ref 271, iV r, iV i, iV (i + N), iV b, iV (gl g r), iV ((k : Int) + 1), .retAddr 0, .retAddr 0, .retAddr 0, .retAddr 0, .retAddr 0, .retAddr 0, .retAddr 0] [] v Q := by
    intro m
    induction m with
    | zero =>
      intro k v hk hF hR
      refine k_229_44 ⟨⟨by omega, by omega⟩, ⟨by omega, by omega⟩, ?_⟩
      rw [if_pos (by omega), ← hQQ]
      refine ⟨by omega, by omega, hF.1, hF.2, ?_⟩
      have := hR N (by omega)
      rw [show (gl g r).toNat = k by omega, show 41 * gl g r + (i + (N : Int)) = 41 * (k : Int) + i + N by omega]
      exact this
    | succ m ih =>
      intro k v hk hF hR
      refine k_229_44 ⟨⟨by omega, by omega⟩, ⟨by omega, by omega⟩, ?_⟩
      rw [if_neg (by omega)]
      refine ⟨by omega, by omega, ?_⟩
      have e77 : v.1 277 = u.1 277 := hF.2 _ (by decide)
      rw [e77, show 6 * r + ((k : Int) + 1) - 1 = 6 * r + k by omega, y3 k (by omega) (by omega)]
      have hs := x4 k (by omega) (by omega)
      generalize hsy : gy g r k = s at hs
      have hsI : rI s := by rcases hs with z | z <;> exact ⟨by omega, by omega⟩
      have cells : ∀ (n t : Nat) (w : uS), t + n = N + 1 → Fr w → Row w k (N + 1) → Row w (k + 1) t → K_229 (d + 2) 70 [.ref 271, iV r, iV i, iV (i + N), iV b, iV (gl g r), iV ((k : Int) + 1), iV s, iV (i + t), .retAddr 0, .retAddr 0, .retAddr 0, .retAddr 0, .retAddr 0] [] w Q := by
        intro n
        induction n with
        | zero =>
          intro t w hn hFw hRw hRk
          refine k_229_70 ⟨⟨by omega, by omega⟩, ⟨by omega, by omega⟩, ?_⟩
          rw [if_pos (by omega)]
          have := ih (k + 1) w (by omega) hFw (by rw [show N + 1 = t by omega]; exact hRk)
          rw [Int.natCast_succ] at this
          exact this
        | succ n ihn =>
          intro t w hn hFw hRw hRk
          -- the cell is written
          have put : ∀ (c : Int), c = fx g lt pi tt r i N (k + 1) t → ∀ w' : uS, w' = wr w 297 (41 * ((k : Int) + 1) + (i + t)) c → K_229 (d + 2) 70 [.ref 271, iV r, iV i, iV (i + N), iV b, iV (gl g r), iV ((k : Int) + 1), iV s, iV (i + t + 1), .retAddr 0, .retAddr 0, .retAddr 0, .retAddr 0, .retAddr 0] [] w' Q := by
            intro c hc w' e
            have := ihn (t + 1) w' (by omega) (by rw [e]; exact frW w _ _ hFw) (fun t' ht' => ?_) (fun t' ht' => ?_)
            · rw [Int.natCast_succ, show i + ((t : Int) + 1) = i + t + 1 by omega] at this
              exact this
            · rw [e, wr_uf, uf_ne (by omega)]
              exact hRw t' ht'
            · rw [e, wr_uf]
              by_cases et : t' = t
              · rw [et, show 41 * ((k + 1 : Nat) : Int) + i + (t : Int) = 41 * ((k : Int) + 1) + (i + t) by omega, uf_eq]
                exact hc
              · rw [uf_ne (by omega)]
                exact hRk t' (by omega)
          refine k_229_70 ⟨⟨by omega, by omega⟩, ⟨by omega, by omega⟩, ?_⟩
          rw [if_neg (by omega)]
          refine ⟨hsI, ?_⟩
          by_cases hs1 : s < 100
          · rw [if_pos hs1]
            refine ⟨⟨by omega, by omega⟩, ?_⟩
            have e73 : w.1 273 = u.1 273 := hFw.2 _ (by decide)
            have one : lt (i + t) s → 0 < t → K_229 (d + 2) 116 [.ref 271, iV r, iV i, iV (i + N), iV b, iV (gl g r), iV ((k : Int) + 1), iV s, iV (i + t), .retAddr 0, .retAddr 0, .retAddr 0, .retAddr 0, .retAddr 0] [iV 1] w Q := by
              intro hl ht0
              refine k_229_116 ⟨by decide, ?_⟩
              rw [if_neg (by decide)]
              refine ⟨by omega, by omega, by omega, by omega, put _ ?_⟩
              rw [fx_s, hsy, if_pos hs1, if_pos (pd_t.mpr ⟨ht0, hl⟩)]
              have := hRw (t - 1) (by omega)
              rw [show 41 * ((k : Int) + 1 - 1) + (i + (t : Int)) - 1 = 41 * (k : Int) + i + ((t - 1 : Nat) : Int) by omega]
              exact this
            have zero : ¬ (0 < t ∧ lt (i + t) s) → K_229 (d + 2) 116 [.ref 271, iV r, iV i, iV (i + N), iV b, iV (gl g r), iV ((k : Int) + 1), iV s, iV (i + t), .retAddr 0, .retAddr 0, .retAddr 0, .retAddr 0, .retAddr 0] [iV 0] w Q := by
              intro hl
              refine k_229_116 ⟨by decide, ?_⟩
              rw [if_pos rfl]
              refine ⟨by omega, by omega, put 0 ?_⟩
              rw [fx_s, hsy, if_pos hs1, if_neg (fun h => hl (pd_t.mp h))]
            by_cases ht0 : i < i + t
            · rw [if_pos ht0]
              refine ⟨by rcases hb with z | z <;> rw [z] <;> decide, ?_⟩
              have hl := hlt t s (by omega) (by omega)
              by_cases hb0 : b = 0
              · rw [if_pos hb0, e73]
                refine ⟨by omega, by omega, h273 hb0 _ (by omega) (by omega), ?_⟩
                by_cases he : u.1 273 (i + t - 1) = s
                · rw [if_pos he]
                  exact one (hl.mpr (Or.inr he)) (by omega)
                · rw [if_neg he]
                  exact zero (fun h => by
                    rcases hl.mp h.2 with z | z
                    · exact z hb0
                    · exact he z)
              · rw [if_neg hb0]
                exact one (hl.mpr (Or.inl hb0)) (by omega)
            · rw [if_neg ht0]
              exact zero (fun h => by omega)
          · rw [if_neg hs1]
            have hs2 : iR (gv g) (s - 100) := by
              rcases hs with z | z
              · omega
              · exact ⟨by omega, by omega⟩
            have hs20 := hs2.1
            have hs21 := hs2.2
            generalize hf : (fun p : Nat => if p = 0 ∧ t = N then 0 else sT (fx g lt pi tt r i N k p) (svt g pi tt (s - 100) (i + p) (t - p))) = f
            have ffv : ∀ p, cv (f p) := fun p => by
              rw [← hf]
              show cv (if _ then _ else _)
              split
              · exact cv_0
              · exact cv_T (fcv _ _) (svt_cv ht _ _ _)
            have e92 : w.1 292 = u.1 292 := hFw.2 _ (by decide)
            have e96 : w.1 296 = u.1 296 := hFw.2 _ (by decide)
            have sums : ∀ (n' p : Nat), p + n' = t + 1 → K_229 (d + 2) 152 [.ref 271, iV r, iV i, iV (i + N), iV b, iV (gl g r), iV ((k : Int) + 1), iV s, iV (i + t), lV (su f p), .retAddr 0, iV (i + p), .retAddr 0, .retAddr 0] [] w Q := by
              intro n'
              induction n' with
              | zero =>
                intro p hp
                refine k_229_152 ⟨⟨by omega, by omega⟩, ⟨by omega, by omega⟩, ?_⟩
                rw [if_pos (by omega)]
                refine ⟨by omega, by omega, put _ ?_⟩
                rw [fx_s, hsy, if_neg hs1, hf, show p = t + 1 by omega]
              | succ n' ihn' =>
                intro p hp
                have on : ∀ c : Int, c = su f (p + 1) → K_229 (d + 2) 152 [.ref 271, iV r, iV i, iV (i + N), iV b, iV (gl g r), iV ((k : Int) + 1), iV s, iV (i + t), lV c, .retAddr 0, iV (i + p + 1), .retAddr 0, .retAddr 0] [] w Q := by
                  intro c hc
                  have := ihn' (p + 1) (by omega)
                  rw [← hc, Int.natCast_succ, show i + ((p : Int) + 1) = i + p + 1 by omega] at this
                  exact this
                have had : w.1 297 (41 * ((k : Int) + 1 - 1) + (i + p)) = fx g lt pi tt r i N k p := by
                  have := hRw p (by omega)
                  rw [show 41 * ((k : Int) + 1 - 1) + (i + (p : Int)) = 41 * (k : Int) + i + (p : Int) by omega]
                  exact this
                have go : ¬ (p = 0 ∧ t = N) → K_229 (d + 2) 176 [.ref 271, iV r, iV i, iV (i + N), iV b, iV (gl g r), iV ((k : Int) + 1), iV s, iV (i + t), lV (su f p), .retAddr 0, iV (i + p), .retAddr 0, .retAddr 0] [] w Q := by
                  intro hne
                  have hfp : f p = sT (fx g lt pi tt r i N k p) (svt g pi tt (s - 100) (i + p) (t - p)) := by
                    rw [← hf]
                    exact if_neg hne
                  have sucv : cv (su f p) := su_cv p (fun _ _ => ffv _)
                  refine k_229_176 ⟨by omega, by omega, ?_⟩
                  rw [had]
                  refine ⟨cv_L (fcv _ _), ?_⟩
                  by_cases h0 : fx g lt pi tt r i N k p = 0
                  · rw [if_pos h0]
                    refine on _ ?_
                    show su f p = sP (su f p) (f p)
                    rw [hfp, h0, sT_0l, sP_0 sucv]
                  · rw [if_neg h0]
                    refine ⟨⟨by omega, by omega⟩, ⟨by omega, by omega⟩, ?_⟩
                    by_cases hpt : i + (p : Int) = i + t
                    · rw [if_pos hpt, e92, hem _ hs2]
                      refine ⟨by omega, by omega, fcv _ _, em_cv g _, sucv, on _ ?_⟩
                      show _ = sP (su f p) (f p)
                      rw [hfp]
                      unfold svt
                      rw [if_pos (by omega)]
                    · rw [if_neg hpt]
                      have hval := hT (t - p) (s - 100) (i + p) (by omega) (by omega) hs2 (by omega) (by omega)
                      have hsv : svt g pi tt (s - 100) (i + p) (t - p) = tt (t - p) (s - 100) (pi (i + p)) := by
                        unfold svt
                        rw [if_neg (by omega)]
                      refine ⟨by rcases hb with z | z <;> rw [z] <;> decide, ?_⟩
                      by_cases hb0 : b = 0
                      · rw [if_pos hb0, e96]
                        have epi : pi (i + p) = i + p := by rw [hpi, if_pos hb0]
                        rw [epi] at hval hsv
                        have eix : ((s - 100) * 41 + (i + (p : Int))) * 41 + (i + p) + ((t - p : Nat) : Int) = ((s - 100) * 41 + (i + p)) * 41 + (i + t) := by omega
                        rw [eix] at hval
                        rw [hval]
                        refine ⟨by omega, by omega, fcv _ _, ht _ _ _, sucv, on _ ?_⟩
                        show _ = sP (su f p) (f p)
                        rw [hfp, hsv]
                      · rw [if_neg hb0, e96]
                        have epi : pi (i + p) = 0 := by rw [hpi, if_neg hb0]
                        rw [epi] at hval hsv
                        have eix : ((s - 100) * 41 + (0 : Int)) * 41 + 0 + ((t - p : Nat) : Int) = ((s - 100) * 41 + 0) * 41 + (i + t - (i + p)) := by omega
                        rw [eix] at hval
                        rw [hval]
                        refine ⟨by omega, by omega, fcv _ _, ht _ _ _, sucv, on _ ?_⟩
                        show _ = sP (su f p) (f p)
                        rw [hfp, hsv]
                refine k_229_152 ⟨⟨by omega, by omega⟩, ⟨by omega, by omega⟩, ?_⟩
                rw [if_neg (by omega)]
                refine ⟨⟨by omega, by omega⟩, ?_⟩
                by_cases hp0 : i + (p : Int) = i
                · rw [if_pos hp0]
                  refine ⟨⟨by omega, by omega⟩, ?_⟩
                  by_cases htN : i + (t : Int) = i + N
                  · rw [if_pos htN, if_pos (by omega)]
                    refine on _ ?_
                    show su f p = sP (su f p) (f p)
                    have : f p = 0 := by
                      rw [← hf]
                      exact if_pos ⟨by omega, by omega⟩
                    rw [this, sP_0 (su_cv p (fun _ _ => ffv _))]
                  · rw [if_neg htN]
                    exact go (fun h => by omega)
                · rw [if_neg hp0]
                  exact go (fun h => by omega)
            have := sums (t + 1) 0 (by omega)
            rw [show i + ((0 : Nat) : Int) = i by omega] at this
            exact this
      have := cells (N + 1) 0 v (by omega) hF hR (fun t ht => by omega)
      rw [show i + ((0 : Nat) : Int) = i by omega] at this
      exact this
  have first : ∀ (n t : Nat) (v : uS), t + n = N + 1 → Fr v → Row v 0 t → K_229 (d + 2) 11 [.ref 271, iV r, iV i, iV (i + N), iV b, iV (gl g r), iV (i + t), .retAddr 0, .retAddr 0, .retAddr 0, .retAddr 0, .retAddr 0, .retAddr 0, .retAddr 0] [] v Q := by
    intro n
    induction n with
    | zero =>
      intro t v hn hF hR
      refine k_229_11 ⟨⟨by omega, by omega⟩, ⟨by omega, by omega⟩, ?_⟩
      rw [if_pos (by omega)]
      exact rows (gl g r).toNat 0 v (by omega) hF (by rw [show N + 1 = t by omega]; exact hR)
    | succ n ih =>
      intro t v hn hF hR
      have put : ∀ (c : Int), c = fx g lt pi tt r i N 0 t → ∀ w' : uS, w' = wr v 297 (i + t) c → K_229 (d + 2) 11 [.ref 271, iV r, iV i, iV (i + N), iV b, iV (gl g r), iV (i + t + 1), .retAddr 0, .retAddr 0, .retAddr 0, .retAddr 0, .retAddr 0, .retAddr 0, .retAddr 0] [] w' Q := by
        intro c hc w' e
        have := ih (t + 1) w' (by omega) (by rw [e]; exact frW v _ _ hF) (fun t' ht' => ?_)
        · rw [Int.natCast_succ, show i + ((t : Int) + 1) = i + t + 1 by omega] at this
          exact this
        · rw [e, wr_uf]
          by_cases et : t' = t
          · rw [et, show 41 * ((0 : Nat) : Int) + i + (t : Int) = i + t by omega, uf_eq]
            exact hc
          · rw [uf_ne (by omega)]
            exact hR t' (by omega)
      refine k_229_11 ⟨⟨by omega, by omega⟩, ⟨by omega, by omega⟩, ?_⟩
      rw [if_neg (by omega)]
      refine ⟨⟨by omega, by omega⟩, ?_⟩
      by_cases ht0 : i + (t : Int) = i
      · rw [if_pos ht0]
        refine ⟨by omega, by omega, put 1 ?_⟩
        show 1 = if t = 0 then 1 else 0
        rw [if_pos (by omega)]
      · rw [if_neg ht0]
        refine ⟨by omega, by omega, put 0 ?_⟩
        show 0 = if t = 0 then 1 else 0
        rw [if_neg (by omega)]
  refine e_229 ⟨r0, by omega, ?_⟩
  rw [y2]
  have := first (N + 1) 0 u (by omega) ⟨rfl, sb1_refl _ _⟩ (fun t ht => by omega)
  rw [show i + ((0 : Nat) : Int) = i by omega] at this
  exact this
