/-! The first side: a span -/
theorem rLc {a : Int} (h : cv a) : rL (cl a) := by
  rcases cl_cn h with q | q
  · rw [q]; decide
  · exact ⟨by omega, by omega⟩
theorem q_117 {d N dd : Nat} {u : uS} {g : Gm} {lt : Int → Int → Prop} {pi : Int → Int} {T : Nat → Int → Int → Int} {r i b y R : Int} (hT : ∀ m y i, cv (T m y i)) (hy : iR (gv g) y) (hv : gv g ≤ 10) (i0 : 0 ≤ i) (hN : 1 ≤ N) (hj : i + N ≤ 40) (hR0 : 0 ≤ R) (hR1 : R + 40 < 8610) (hb : b = 0 ∨ b = 1) (h3 : u.1 36 3 = b) (hpi : ∀ p, pi p = if b = 0 then p else 0) (h52 : ∀ t : Nat, t < N → u.1 52 (R + (i + t)) = cl (ff g lt pi T r i dd t)) (h51 : ∀ p : Nat, 1 ≤ p → p < N → u.1 51 ((y * 41 + pi (i + p)) * 41 + pi (i + p) + ((N - p : Nat) : Int)) = cl (T (N - p) y (pi (i + p)))) : cL (d + 2) 117 [.ref 36, iV R, iV y, iV i, iV (i + N)] u (fun c u' => u' = u ∧ c = cl (su (fun p => sT (ff g lt pi T r i dd (p + 1)) (T (N - (p + 1)) y (pi (i + (p + 1 : Nat))))) (N - 1))) := by
  have y0 := hy.1
  have y1 := hy.2
  generalize hf : (fun p : Nat => sT (ff g lt pi T r i dd (p + 1)) (T (N - (p + 1)) y (pi (i + (p + 1 : Nat))))) = f
  have fcv : ∀ p, cv (f p) := fun p => by rw [← hf]; exact cv_T (ff_cv hT _ _) (hT _ _ _)
  have scv : ∀ p, cv (su f p) := fun p => su_cv p (fun i _ => fcv i)
  have loop : ∀ (m p : Nat), p + 1 + m = N → K_117 (d + 1) 8 [.ref 36, iV R, iV y, .retAddr 0, iV (i + N), lV (cl (su f p)), .retAddr 0, iV (i + (p + 1 : Nat)), .retAddr 0, .retAddr 0] [] u (fun c u' => u' = u ∧ c = cl (su f (N - 1))) := by
    intro m
    induction m with
    | zero =>
      intro p hp
      refine k_117_8 ⟨⟨by omega, by omega⟩, ⟨by omega, by omega⟩, ?_⟩
      rw [if_neg (by omega)]
      exact ⟨rfl, by rw [show N - 1 = p by omega]⟩
    | succ m ih =>
      intro p hp
      refine k_117_8 ⟨⟨by omega, by omega⟩, ⟨by omega, by omega⟩, ?_⟩
      rw [if_pos (by omega), h52 (p + 1) (by omega)]
      have ffc : cv (ff g lt pi T r i dd (p + 1)) := ff_cv hT _ _
      refine ⟨by omega, by omega, rLc ffc, ?_⟩
      have := ih (p + 1) (by omega)
      simp only [su] at this
      rw [show i + ((p + 1 + 1 : Nat) : Int) = i + ((p + 1 : Nat) : Int) + 1 by omega] at this
      have hfp : f p = sT (ff g lt pi T r i dd (p + 1)) (T (N - (p + 1)) y (pi (i + (p + 1 : Nat)))) := by rw [← hf]
      by_cases h0 : ff g lt pi T r i dd (p + 1) = 0
      · rw [if_pos (cl_z.mpr h0)]
        rw [hfp, h0, sT_0l, sP_0 (scv p)] at this
        exact this
      · rw [if_neg (fun h => h0 (cl_z.mp h)), h3]
        refine ⟨by rcases hb with q | q <;> rw [q] <;> decide, ?_⟩
        have hval := h51 (p + 1) (by omega) (by omega)
        rw [hfp, ← cl_P (scv p) (cv_T ffc (hT _ _ _)), ← cl_T ffc (hT _ _ _)] at this
        by_cases hb0 : b = 0
        · rw [if_pos hb0]
          have epi : pi (i + (p + 1 : Nat)) = i + (p + 1 : Nat) := by rw [hpi, if_pos hb0]
          rw [epi] at hval this
          rw [show (y * 41 + (i + ((p + 1 : Nat) : Int))) * 41 + (i + ((p + 1 : Nat) : Int)) + ((N - (p + 1) : Nat) : Int) = (y * 41 + (i + ((p + 1 : Nat) : Int)) - 0) * 41 + (i + N) - 0 by omega] at hval
          rw [hval]
          exact ⟨by omega, by omega, cl_cn ffc, cl_cn (hT _ _ _), cl_cn (scv p), this⟩
        · rw [if_neg hb0]
          have epi : pi (i + (p + 1 : Nat)) = 0 := by rw [hpi, if_neg hb0]
          rw [epi] at hval this
          rw [show (y * 41 + (0 : Int)) * 41 + 0 + ((N - (p + 1) : Nat) : Int) = (y * 41 + (i + ((p + 1 : Nat) : Int)) - (i + ((p + 1 : Nat) : Int))) * 41 + (i + N) - (i + ((p + 1 : Nat) : Int)) by omega] at hval
          rw [hval]
          exact ⟨by omega, by omega, cl_cn ffc, cl_cn (hT _ _ _), cl_cn (scv p), this⟩
  have := loop (N - 1) 0 (by omega)
  rw [show i + ((0 + 1 : Nat) : Int) = i + 1 by omega] at this
  exact e_117 this
theorem q_116 {d N L : Nat} {u : uS} {g : Gm} {lt : Int → Int → Prop} {pi : Int → Int} {T : Nat → Int → Int → Int} {i b : Int} (hg : gK g) (hA : cA u g) (hT : ∀ m y i, cv (T m y i)) (i0 : 0 ≤ i) (hN : 1 ≤ N) (hj : i + N ≤ 40) (hb : b = 0 ∨ b = 1) (h3 : u.1 36 3 = b) (hpi : ∀ p, pi p = if b = 0 then p else 0) (hL : u.2 36 1 = L) (hLA : isA L 0 40) (hL53 : L ≠ 53) (hlt : ∀ s, lt (i + N) s ↔ b ≠ 0 ∨ u.1 L (i + N - 1) = s) (hLI : b = 0 → rI (u.1 L (i + N - 1))) (h52 : ∀ r : Int, 0 ≤ r → r < gr g → ∀ k : Nat, (k : Int) ≤ gl g r → ∀ t : Nat, t < N → u.1 52 ((r * 7 + k) * 41 + (i + t)) = cl (ff g lt pi T r i k t)) (h51 : ∀ y, iR (gv g) y → ∀ p : Nat, 1 ≤ p → p < N → u.1 51 ((y * 41 + pi (i + p)) * 41 + pi (i + p) + ((N - p : Nat) : Int)) = cl (T (N - p) y (pi (i + p)))) : cV (d + 4) 116 [.ref 36, iV i, iV (i + N)] u (fun u' => u'.2 = u.2 ∧ sb1 u u' [53] ∧ ∀ r : Int, 0 ≤ r → r < gr g → ∀ k : Nat, (k : Int) < gl g r → u'.1 53 (r * 7 + (k + 1)) = cl (md g lt pi T r i k N)) := by
  obtain ⟨g1, g2, g3, g4⟩ := id hg
  obtain ⟨c0, c1, c2, c3, c4⟩ := id hA
  generalize hQQ : (fun u' : uS => u'.2 = u.2 ∧ sb1 u u' [53] ∧ ∀ r : Int, 0 ≤ r → r < gr g → ∀ k : Nat, (k : Int) < gl g r → u'.1 53 (r * 7 + (k + 1)) = cl (md g lt pi T r i k N)) = Q
  let Fr : uS → Prop := fun v => v.2 = u.2 ∧ sb1 u v [53]
  have frA : ∀ v, Fr v → cA v g := fun v hv => cA_of hA hv.1 (hv.2 _ (by decide)) (hv.2 _ (by decide)) (hv.2 _ (by decide)) (hv.2 _ (by decide)) (hv.2 _ (by decide))
  have rules : ∀ (m r : Nat) (v : uS), r + m = gr g → Fr v → (∀ r' : Int, 0 ≤ r' → r' < r → ∀ k : Nat, (k : Int) < gl g r' → v.1 53 (r' * 7 + (k + 1)) = cl (md g lt pi T r' i k N)) → K_116 (d + 3) 2 [.ref 36, iV i, iV (i + N), iV (r : Int), .retAddr 0, .retAddr 0, .retAddr 0, .retAddr 0] [] v Q := by
    intro m
    induction m with
    | zero =>
      intro r v hr hF h
      refine k_116_2 ?_
      rw [hF.1, c0, hF.2 6 (by decide), c2]
      refine ⟨sx_6, ⟨by omega, by omega⟩, ⟨by omega, by omega⟩, ?_⟩
      rw [if_neg (by omega), ← hQQ]
      exact ⟨hF.1, hF.2, fun r' r0 r1 k hk => h r' r0 (by omega) k hk⟩
    | succ m ih =>
      intro r v hr hF h
      obtain ⟨x1, x2, x3, x4⟩ := g3 r (by omega) (by omega)
      refine k_116_2 ?_
      rw [hF.1, c0, hF.2 6 (by decide), c2]
      refine ⟨sx_6, ⟨by omega, by omega⟩, ⟨by omega, by omega⟩, ?_⟩
      rw [if_pos (by omega)]
      have inner : ∀ (n k : Nat) (w : uS), (k : Int) + n = gl g r → Fr w → (∀ r' : Int, 0 ≤ r' → ∀ k' : Nat, (k' : Int) < gl g r' → (r' < r ∨ r' = r ∧ k' < k) → w.1 53 (r' * 7 + (k' + 1)) = cl (md g lt pi T r' i k' N)) → K_116 (d + 3) 16 [.ref 36, iV i, iV (i + N), iV (r : Int), iV ((k : Int) + 1), .retAddr 0, .retAddr 0, .retAddr 0] [] w Q := by
        intro n
        induction n with
        | zero =>
          intro k w hk hFw hw
          obtain ⟨y1, y2, y3⟩ := (frA w hFw).2.2.2.1 r (by omega) (by omega)
          refine k_116_16 ?_
          rw [hFw.1, c0, show w.1 (6 + 3) = w.1 9 from rfl, y2]
          refine ⟨sx_6, by omega, by omega, ⟨by omega, by omega⟩, ⟨by omega, by omega⟩, ?_⟩
          rw [if_pos (by omega)]
          have := ih (r + 1) w (by omega) hFw (fun r' r0 r1 k' hk' => hw r' r0 k' hk' (by
            by_cases e : r' = r
            · rw [e] at hk'; exact Or.inr ⟨e, by omega⟩
            · exact Or.inl (by omega)))
          rw [Int.natCast_succ] at this
          exact this
        | succ n ihn =>
          intro k w hk hFw hw
          obtain ⟨y1, y2, y3⟩ := (frA w hFw).2.2.2.1 r (by omega) (by omega)
          have hs := x4 k (by omega) (by omega)
          have hsI : rI (gy g r k) := by rcases hs with z | z <;> exact ⟨by omega, by omega⟩
          have put : ∀ c : Int, c = cl (md g lt pi T r i k N) → ∀ z : uS, z = wr w 53 ((r : Int) * 7 + ((k : Int) + 1)) c → K_116 (d + 3) 16 [.ref 36, iV i, iV (i + N), iV (r : Int), iV ((k : Int) + 1 + 1), .retAddr 0, .retAddr 0, .retAddr 0] [] z Q := by
            intro c hc z ez
            have := ihn (k + 1) z (by omega) ⟨by rw [ez, wr_2]; exact hFw.1, by rw [ez]; exact sb1_wr hFw.2 (by decide)⟩ (fun r' r0 k' hk' hlt' => ?_)
            · rw [Int.natCast_succ] at this
              exact this
            · rw [ez, wr_uf]
              by_cases e : r' = r ∧ k' = k
              · rw [e.1, e.2, uf_eq]
                exact hc
              · have := (g3 r' r0 (by omega)).2.2.1
                rw [uf_ne (by omega)]
                exact hw r' r0 k' hk' (by omega)
          refine k_116_16 ?_
          rw [hFw.1, c0, show w.1 (6 + 3) = w.1 9 from rfl, show w.1 (6 + 4) = w.1 10 from rfl, y2, show (k : Int) + 1 - 1 = k by omega]
          refine ⟨sx_6, by omega, by omega, ⟨by omega, by omega⟩, ⟨by omega, by omega⟩, ?_⟩
          rw [if_neg (by omega), y3 k (by omega) (by omega)]
          refine ⟨by omega, by omega, hsI, ?_⟩
          have h52' := h52 r (by omega) (by omega) k (by omega)
          by_cases hl : gy g r k < 100
          · rw [if_pos hl, hFw.2 36 (by decide), h3]
            refine ⟨by rcases hb with q | q <;> rw [q] <;> decide, ?_⟩
            have e52 : w.1 52 (((r : Int) * 7 + k) * 41 + (i + N - 1)) = cl (ff g lt pi T r i k (N - 1)) := by
              have := h52' (N - 1) (by omega)
              rw [hFw.2 52 (by decide), show ((r : Int) * 7 + k) * 41 + (i + N - 1) = ((r : Int) * 7 + k) * 41 + (i + ((N - 1 : Nat) : Int)) by omega]
              exact this
            have yes : lt (i + N) (gy g r k) → cl (ff g lt pi T r i k (N - 1)) = cl (md g lt pi T r i k N) := fun h => by
              unfold md
              rw [if_pos hl, if_pos (pd_t.mpr h)]
            have no : ¬ lt (i + N) (gy g r k) → (0 : Int) = cl (md g lt pi T r i k N) := fun h => by
              unfold md
              rw [if_pos hl, if_neg (fun h' => h (pd_t.mp h'))]
              rfl
            have hlt' := hlt (gy g r k)
            by_cases hb0 : b = 0
            · rw [if_pos hb0, hL, hFw.2 L (by simp only [List.mem_singleton]; exact hL53)]
              refine ⟨hLA, by omega, by omega, hLI hb0, ?_⟩
              by_cases he : u.1 L (i + N - 1) = gy g r k
              · rw [if_pos he, e52]
                exact ⟨by omega, by omega, by omega, by omega, put _ (yes (hlt'.mpr (Or.inr he)))⟩
              · rw [if_neg he]
                exact ⟨by omega, by omega, put 0 (no (fun h => by
                  rcases hlt'.mp h with q | q
                  · exact q hb0
                  · exact he q))⟩
            · rw [if_neg hb0, e52]
              exact ⟨by omega, by omega, by omega, by omega, put _ (yes (hlt'.mpr (Or.inl hb0)))⟩
          · rw [if_neg hl]
            have hy : iR (gv g) (gy g r k - 100) := by
              rcases hs with z | z
              · omega
              · exact ⟨by omega, by omega⟩
            have q17 := q_117 (d := d + 1) (dd := k) (u := w) (g := g) (lt := lt) (pi := pi) (T := T) (r := (r : Int)) (i := i) (b := b) (y := gy g r k - 100) (R := ((r : Int) * 7 + k) * 41 + 0) (N := N) hT hy g1 i0 hN hj (by omega) (by omega) hb (by rw [hFw.2 36 (by decide)]; exact h3) hpi (fun t ht => by
              have := h52' t ht
              rw [hFw.2 52 (by decide), show ((r : Int) * 7 + k) * 41 + 0 + (i + t) = ((r : Int) * 7 + k) * 41 + (i + t) by omega]
              exact this) (by rw [hFw.2 51 (by decide)]; exact h51 _ hy)
            refine cL.mono q17 (Nat.le_refl _) (fun c z ⟨ez, hc⟩ => ⟨by omega, by omega, ?_⟩)
            rw [ez]
            refine put c ?_
            rw [hc]
            unfold md
            rw [if_neg hl]
      exact inner (gl g r).toNat 0 v (by omega) hF (fun r' r0 k' hk' hlt => h r' r0 (by omega) k' hk')
  exact e_116 (rules (gr g) 0 u (by omega) ⟨rfl, sb1_refl _ _⟩ (fun r' r0 r1 => by omega))
theorem q_119 {d N : Nat} {u : uS} {g : Gm} {lt : Int → Int → Prop} {pi : Int → Int} {T : Nat → Int → Int → Int} {i : Int} (hg : gK g) (hA : cA u g) (hT : ∀ m y i, cv (T m y i)) (hN : 1 ≤ N) (h47 : ∀ x, iR (gv g) x → u.1 47 x = cl (em g x)) (h53 : ∀ r : Int, 0 ≤ r → r < gr g → ∀ k : Nat, (k : Int) < gl g r → u.1 53 (r * 7 + (k + 1)) = cl (md g lt pi T r i k N)) : cV (d + 2) 119 [.ref 36] u (fun u' => u'.2 = u.2 ∧ sb1 u u' [54] ∧ ∀ x, iR (gv g) x → u'.1 54 x = cl (bs g lt pi T N i x)) := by
  obtain ⟨g1, g2, g3, g4⟩ := id hg
  obtain ⟨c0, c1, c2, c3, c4⟩ := id hA
  generalize hQQ : (fun u' : uS => u'.2 = u.2 ∧ sb1 u u' [54] ∧ ∀ x, iR (gv g) x → u'.1 54 x = cl (bs g lt pi T N i x)) = Q
  generalize hbT : (fun (x : Int) (r : Nat) => if pd (gh g r = x) = true then fx g lt pi T r i N (gl g r).toNat N else 0) = bT
  have hbTcv : ∀ x r, cv (bT x r) := fun x r => by
    rw [← hbT]
    show cv (if _ then _ else _)
    split
    · exact fx_cv hT _ _
    · exact cv_0
  have hBeq : ∀ x, bs g lt pi T N i x = su (bT x) (gr g) := fun x => by rw [← hbT]; rfl
  have scv : ∀ x n, cv (su (bT x) n) := fun x n => su_cv n (fun _ _ => hbTcv _ _)
  let Fr : uS → Prop := fun v => v.2 = u.2 ∧ sb1 u v [54]
  have frA : ∀ v, Fr v → cA v g := fun v hv => cA_of hA hv.1 (hv.2 _ (by decide)) (hv.2 _ (by decide)) (hv.2 _ (by decide)) (hv.2 _ (by decide)) (hv.2 _ (by decide))
  have rules : ∀ (m r : Nat) (v : uS), r + m = gr g → Fr v → (∀ x, iR (gv g) x → v.1 54 x = cl (su (bT x) r)) → K_119 (d + 1) 10 [.ref 36, iV (r : Int), .retAddr 0, .retAddr 0, .retAddr 0] [] v Q := by
    intro m
    induction m with
    | zero =>
      intro r v hr hF h
      refine k_119_10 ?_
      rw [hF.1, c0, hF.2 6 (by decide), c2]
      refine ⟨sx_6, ⟨by omega, by omega⟩, ⟨by omega, by omega⟩, ?_⟩
      rw [if_neg (by omega), ← hQQ]
      refine ⟨hF.1, hF.2, fun x hx => ?_⟩
      rw [h x hx, hBeq, show r = gr g by omega]
    | succ m ih =>
      intro r v hr hF h
      obtain ⟨x1, x2, x3, x4⟩ := g3 r (by omega) (by omega)
      have h10 := x1.1
      have h11 := x1.2
      obtain ⟨y1, y2, y3⟩ := (frA v hF).2.2.2.1 r (by omega) (by omega)
      refine k_119_10 ?_
      rw [hF.1, c0, hF.2 6 (by decide), c2]
      refine ⟨sx_6, ⟨by omega, by omega⟩, ⟨by omega, by omega⟩, ?_⟩
      rw [if_pos (by omega)]
      have inner : ∀ (n k : Nat), (k : Int) + n = gl g r → K_119 (d + 1) 26 [.ref 36, iV (r : Int), lV (cl (fx g lt pi T r i N k N)), .retAddr 0, iV ((k : Int) + 1)] [] v Q := by
        intro n
        induction n with
        | zero =>
          intro k hk
          refine k_119_26 ?_
          rw [hF.1, c0, show v.1 (6 + 3) = v.1 9 from rfl, show v.1 (6 + 2) = v.1 8 from rfl, y1, y2]
          refine ⟨sx_6, by omega, by omega, ⟨by omega, by omega⟩, ⟨by omega, by omega⟩, ?_⟩
          rw [if_pos (by omega), h _ x1]
          refine ⟨h10, by omega, cl_cn (scv _ _), cl_cn (fx_cv hT _ _), fun w ew => ?_⟩
          rw [cl_P (scv _ _) (fx_cv hT _ _)] at ew
          have := ih (r + 1) w (by omega) ⟨by rw [ew, wr_2]; exact hF.1, by rw [ew]; exact sb1_wr hF.2 (by decide)⟩ (fun x hx => ?_)
          · rw [Int.natCast_succ] at this
            exact this
          · rw [ew, wr_uf]
            show _ = cl (sP (su (bT x) r) (bT x r))
            by_cases ex : x = gh g r
            · rw [ex, uf_eq]
              have : bT (gh g r) r = fx g lt pi T r i N k N := by
                rw [← hbT]
                show (if _ then _ else _) = _
                rw [if_pos (pd_t.mpr rfl), show (gl g r).toNat = k by omega]
              rw [this]
            · rw [uf_ne ex, h x hx]
              have : bT x r = 0 := by
                rw [← hbT]
                exact if_neg (fun h => ex (pd_t.mp h).symm)
              rw [this, sP_0 (scv _ _)]
        | succ n ihn =>
          intro k hk
          have hs := x4 k (by omega) (by omega)
          have hsI : rI (gy g r k) := by rcases hs with z | z <;> exact ⟨by omega, by omega⟩
          refine k_119_26 ?_
          rw [hF.1, c0, show v.1 (6 + 3) = v.1 9 from rfl, show v.1 (6 + 4) = v.1 10 from rfl, y2, show (k : Int) + 1 - 1 = k by omega]
          refine ⟨sx_6, by omega, by omega, ⟨by omega, by omega⟩, ⟨by omega, by omega⟩, ?_⟩
          rw [if_neg (by omega), y3 k (by omega) (by omega), hF.2 53 (by decide), h53 r (by omega) (by omega) k (by omega), hF.2 47 (by decide)]
          refine ⟨by omega, by omega, by omega, by omega, hsI, ?_⟩
          have := ihn (k + 1) (by omega)
          rw [fx_N hT (by omega), ← cl_P (md_cv hT _ _) (cv_T (fx_cv hT _ _) (eS_cv g _)), ← cl_T (fx_cv hT _ _) (eS_cv g _), Int.natCast_succ] at this
          by_cases hl : gy g r k < 100
          · rw [if_pos hl]
            have e0 : eS g (gy g r k) = 0 := if_pos hl
            rw [e0, cl_0] at this
            exact ⟨cl_cn (fx_cv hT _ _), Or.inr ⟨by omega, by omega⟩, cl_cn (md_cv hT _ _), this⟩
          · rw [if_neg hl]
            have hy : iR (gv g) (gy g r k - 100) := by
              rcases hs with z | z
              · omega
              · exact ⟨by omega, by omega⟩
            have e0 : eS g (gy g r k) = em g (gy g r k - 100) := if_neg hl
            rw [e0] at this
            rw [h47 _ hy]
            have hy0 := hy.1
            have hy1 := hy.2
            exact ⟨by omega, by omega, cl_cn (fx_cv hT _ _), cl_cn (em_cv g _), cl_cn (md_cv hT _ _), this⟩
      have := inner (gl g r).toNat 0 (by omega)
      have e0 : fx g lt pi T r i N 0 N = 0 := if_neg (by omega)
      rw [e0, cl_0] at this
      exact this
  refine e_119 (fun v ev => rules (gr g) 0 v (by omega) ⟨by rw [ev, fil_2], fun b hb => by rw [ev, fil_ne (fun e => hb (by rw [e]; exact List.mem_singleton.mpr rfl))]⟩ (fun x hx => ?_))
  rw [ev, fil_1, if_pos ⟨rfl, hx.1, by have := hx.2; omega⟩]
  rfl
theorem q_122 {d N : Nat} {u : uS} {g : Gm} {lt : Int → Int → Prop} {pi : Int → Int} {T : Nat → Int → Int → Int} {i : Int} (hg : gK g) (hA : cA u g) (hT : ∀ m y i, cv (T m y i)) (i0 : 0 ≤ i) (hN : 1 ≤ N) (hj : i + N ≤ 40) (h47 : ∀ x, iR (gv g) x → u.1 47 x = cl (em g x)) (h48 : ∀ r : Int, 0 ≤ r → r < gr g → ∀ k : Nat, (k : Int) ≤ gl g r → u.1 48 (r * 7 + k) = cl (pr (fun h => eS g (gy g r h)) k)) (h53 : ∀ r : Int, 0 ≤ r → r < gr g → ∀ k : Nat, (k : Int) < gl g r → u.1 53 (r * 7 + (k + 1)) = cl (md g lt pi T r i k N)) (h55 : ∀ x, iR (gv g) x → u.1 55 x = cl (T N x (pi i))) : cV (d + 2) 122 [.ref 36, iV (i + N)] u (fun u' => u'.2 = u.2 ∧ sb1 u u' [52] ∧ (∀ q j : Int, 0 ≤ j → j ≤ 40 → j ≠ i + N → u'.1 52 (q * 41 + j) = u.1 52 (q * 41 + j)) ∧ ∀ r : Int, 0 ≤ r → r < gr g → ∀ k : Nat, (k : Int) ≤ gl g r → u'.1 52 ((r * 7 + k) * 41 + (i + N)) = cl (ff g lt pi T r i k N)) := by
  obtain ⟨g1, g2, g3, g4⟩ := id hg
  obtain ⟨c0, c1, c2, c3, c4⟩ := id hA
  generalize hQQ : (fun u' : uS => u'.2 = u.2 ∧ sb1 u u' [52] ∧ (∀ q j : Int, 0 ≤ j → j ≤ 40 → j ≠ i + N → u'.1 52 (q * 41 + j) = u.1 52 (q * 41 + j)) ∧ ∀ r : Int, 0 ≤ r → r < gr g → ∀ k : Nat, (k : Int) ≤ gl g r → u'.1 52 ((r * 7 + k) * 41 + (i + N)) = cl (ff g lt pi T r i k N)) = Q
  let Fr : uS → Prop := fun v => v.2 = u.2 ∧ sb1 u v [52] ∧ ∀ q j : Int, 0 ≤ j → j ≤ 40 → j ≠ i + N → v.1 52 (q * 41 + j) = u.1 52 (q * 41 + j)
  have frA : ∀ v, Fr v → cA v g := fun v hv => cA_of hA hv.1 (hv.2.1 _ (by decide)) (hv.2.1 _ (by decide)) (hv.2.1 _ (by decide)) (hv.2.1 _ (by decide)) (hv.2.1 _ (by decide))
  have frW : ∀ (v : uS) (q c : Int), Fr v → Fr (wr v 52 (q * 41 + (i + N)) c) := fun v q c hv => ⟨by rw [wr_2]; exact hv.1, sb1_wr hv.2.1 (by decide), fun q' j j0 j1 hne => by
    rw [wr_uf, uf_ne (by omega)]
    exact hv.2.2 q' j j0 j1 hne⟩
  have rules : ∀ (m r : Nat) (v : uS), r + m = gr g → Fr v → (∀ r' : Int, 0 ≤ r' → r' < r → ∀ k : Nat, (k : Int) ≤ gl g r' → v.1 52 ((r' * 7 + k) * 41 + (i + N)) = cl (ff g lt pi T r' i k N)) → K_122 (d + 1) 2 [.ref 36, iV (i + N), iV (r : Int), .retAddr 0, .retAddr 0, .retAddr 0, .retAddr 0] [] v Q := by
    intro m
    induction m with
    | zero =>
      intro r v hr hF h
      refine k_122_2 ?_
      rw [hF.1, c0, hF.2.1 6 (by decide), c2]
      refine ⟨sx_6, ⟨by omega, by omega⟩, ⟨by omega, by omega⟩, ?_⟩
      rw [if_neg (by omega), ← hQQ]
      exact ⟨hF.1, hF.2.1, hF.2.2, fun r' r0 r1 k hk => h r' r0 (by omega) k hk⟩
    | succ m ih =>
      intro r v hr hF h
      obtain ⟨x1, x2, x3, x4⟩ := g3 r (by omega) (by omega)
      refine k_122_2 ?_
      rw [hF.1, c0, hF.2.1 6 (by decide), c2]
      refine ⟨sx_6, ⟨by omega, by omega⟩, ⟨by omega, by omega⟩, ?_⟩
      rw [if_pos (by omega)]
      refine ⟨by omega, by omega, fun v1 e1 => ?_⟩
      have inner : ∀ (n k : Nat) (w : uS), (k : Int) + n = gl g r → Fr w → (∀ r' : Int, 0 ≤ r' → ∀ k' : Nat, (k' : Int) ≤ gl g r' → (r' < r ∨ r' = r ∧ k' ≤ k) → w.1 52 ((r' * 7 + k') * 41 + (i + N)) = cl (ff g lt pi T r' i k' N)) → K_122 (d + 1) 27 [.ref 36, iV (i + N), iV (r : Int), iV ((k : Int) + 1), .retAddr 0, .retAddr 0, .retAddr 0] [] w Q := by
        intro n
        induction n with
        | zero =>
          intro k w hk hFw hw
          obtain ⟨y1, y2, y3⟩ := (frA w hFw).2.2.2.1 r (by omega) (by omega)
          refine k_122_27 ?_
          rw [hFw.1, c0, show w.1 (6 + 3) = w.1 9 from rfl, y2]
          refine ⟨sx_6, by omega, by omega, ⟨by omega, by omega⟩, ⟨by omega, by omega⟩, ?_⟩
          rw [if_pos (by omega)]
          have := ih (r + 1) w (by omega) hFw (fun r' r0 r1 k' hk' => hw r' r0 k' hk' (by
            by_cases e : r' = r
            · rw [e] at hk'; exact Or.inr ⟨e, by omega⟩
            · exact Or.inl (by omega)))
          rw [Int.natCast_succ] at this
          exact this
        | succ n ihn =>
          intro k w hk hFw hw
          obtain ⟨y1, y2, y3⟩ := (frA w hFw).2.2.2.1 r (by omega) (by omega)
          have hs := x4 k (by omega) (by omega)
          have hsI : rI (gy g r k) := by rcases hs with z | z <;> exact ⟨by omega, by omega⟩
          have put : ∀ c : Int, c = cl (ff g lt pi T r i (k + 1) N) → ∀ z : uS, z = wr w 52 (((r : Int) * 7 + ((k : Int) + 1)) * 41 + (i + N)) c → K_122 (d + 1) 27 [.ref 36, iV (i + N), iV (r : Int), iV ((k : Int) + 1 + 1), .retAddr 0, .retAddr 0, .retAddr 0] [] z Q := by
            intro c hc z ez
            have := ihn (k + 1) z (by omega) (by rw [ez]; exact frW w _ _ hFw) (fun r' r0 k' hk' hlt' => ?_)
            · rw [Int.natCast_succ] at this
              exact this
            · rw [ez, wr_uf]
              by_cases e : r' = r ∧ k' = k + 1
              · rw [e.1, e.2, Int.natCast_succ, uf_eq]
                exact hc
              · have := (g3 r' r0 (by omega)).2.2.1
                rw [uf_ne (by omega)]
                exact hw r' r0 k' hk' (by omega)
          have e53 : w.1 53 ((r : Int) * 7 + ((k : Int) + 1)) = cl (md g lt pi T r i k N) := by rw [hFw.2.1 53 (by decide)]; exact h53 r (by omega) (by omega) k (by omega)
          refine k_122_27 ?_
          rw [hFw.1, c0, show w.1 (6 + 3) = w.1 9 from rfl, show w.1 (6 + 4) = w.1 10 from rfl, y2, show (k : Int) + 1 - 1 = k by omega]
          refine ⟨sx_6, by omega, by omega, ⟨by omega, by omega⟩, ⟨by omega, by omega⟩, ?_⟩
          rw [if_neg (by omega), y3 k (by omega) (by omega), e53]
          refine ⟨by omega, by omega, by omega, by omega, hsI, ?_⟩
          have hff := ff_N (g := g) (lt := lt) (pi := pi) (tt := T) (r := (r : Int)) (i := i) (N := N) (d := k) hT (by omega)
          by_cases hl : gy g r k < 100
          · rw [if_pos hl]
            rw [if_pos hl] at hff
            exact ⟨by omega, by omega, put _ (by rw [hff])⟩
          · rw [if_neg hl]
            rw [if_neg hl] at hff
            have hy : iR (gv g) (gy g r k - 100) := by
              rcases hs with z | z
              · omega
              · exact ⟨by omega, by omega⟩
            have hy0 := hy.1
            have hy1 := hy.2
            have e48 : w.1 48 ((r : Int) * 7 + ((k : Int) + 1) - 1) = cl (ff g lt pi T r i k 0) := by
              rw [hFw.2.1 48 (by decide), show (r : Int) * 7 + ((k : Int) + 1) - 1 = (r : Int) * 7 + k by omega, h48 r (by omega) (by omega) k (by omega), ff_0 hT]
            have e52 := hw r (by omega) k (by omega) (Or.inr ⟨rfl, Nat.le_refl _⟩)
            have a1 : cv (ff g lt pi T r i k 0) := ff_cv hT _ _
            have a2 : cv (T N (gy g r k - 100) (pi i)) := hT _ _ _
            have a3 : cv (md g lt pi T r i k N) := md_cv hT _ _
            have a4 : cv (ff g lt pi T r i k N) := ff_cv hT _ _
            have a5 : cv (em g (gy g r k - 100)) := em_cv g _
            rw [e48, hFw.2.1 55 (by decide), h55 _ hy, e52, hFw.2.1 47 (by decide), h47 _ hy]
            refine ⟨by omega, by omega, by omega, by omega, cl_cn a1, cl_cn a2, cl_cn a3, by omega, by omega, cl_cn a4, cl_cn a5, by omega, by omega, put _ ?_⟩
            rw [hff, cl_T a1 a2, cl_T a4 a5, cl_P a3 (cv_T a1 a2), cl_P (cv_P a3 (cv_T a1 a2)) (cv_T a4 a5)]
      have := inner (gl g r).toNat 0 v1 (by omega) (by rw [e1]; exact frW v _ _ hF) (fun r' r0 k' hk' hlt => ?_)
      · exact this
      · rw [e1, wr_uf]
        by_cases e : r' = r ∧ k' = 0
        · rw [e.1, e.2, show ((r : Int) * 7 + ((0 : Nat) : Int)) * 41 + (i + N) = ((r : Int) * 7 + 0) * 41 + (i + N) by omega, uf_eq]
          show (0 : Int) = cl (if N = 0 then 1 else 0)
          rw [if_neg (by omega), cl_0]
        · have := (g3 r' r0 (by omega)).2.2.1
          rw [uf_ne (by omega)]
          exact h r' r0 (by omega) k' hk'
  exact e_122 (rules (gr g) 0 u (by omega) ⟨rfl, sb1_refl _ _, fun _ _ _ _ _ => rfl⟩ (fun r' r0 r1 => by omega))
