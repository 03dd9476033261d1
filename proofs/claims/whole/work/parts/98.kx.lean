/-! node: both sides answer alike -/
theorem st_node {d : Nat} {u : uS} {k wh : Int} (hkL : rL k) (hw : rI wh) (hX : invX u) : cL (d + 8) 183 [.ref 0, lV k, iV wh] u (fun r u1 => cL (d + 8) 284 [.ref 271, lV k, iV wh] u1 (fun r' u2 => r' = r ∧ F231 u u2 P9)) := by
  have same : F231 u u P9 := ⟨rfl, fun _ _ => rfl, fun _ _ => rfl⟩
  rcases hX.2 with ⟨h1, h2⟩ | ⟨h1, h2, M, L, H, s, b, hM, hS, hV, hO, hb, hk, h74, h75, hr, T, hT0, hT⟩
  · refine e_183 ?_
    rw [h1]
    refine ⟨⟨by omega, by omega⟩, ?_⟩
    rw [if_pos rfl]
    refine e_284 (d := d + 6) ?_
    rw [h2]
    refine ⟨⟨by omega, by omega⟩, ?_⟩
    rw [if_pos rfl]
    exact ⟨rfl, same⟩
  · obtain ⟨m1, m2, m3, m4, m5, m6⟩ := id hM
    obtain ⟨nb1, nb2, nb3, nb4⟩ := nn_b m1 m4
    have hW : WT M L H s T u := ⟨hV, hO, hr, hT⟩
    obtain ⟨hk0, r, S, c1, c2, c3, c4, c5, c6, c7⟩ := hT 0 0 b hT0
    have hbR := hk.2.2.1
    have b0 := hbR.1
    have b1 := hbR.2
    rw [tc0] at c4 c6 c7
    obtain ⟨hfe, v44, v45⟩ := hV.2.2.2.2 0 0 b hk
    obtain ⟨fb, fh1, fh2⟩ := Fe_b hS hfe
    have ht := Fe_t hM hfe
    -- the other side, at a state that differs in the held witness alone
    have ref : ∀ z : uS, F231 u z P9 → ∀ a : Int, ((k < 0 ∨ ¬ k < u.1 268 b) ∧ a = -2) ∨ (¬ k < 0 ∧ k < u.1 268 b ∧ ∃ h x' p' q' c', NA M L H (u.1 268) h 0 0 b k 0 x' p' q' c' ∧ T x' p' q' ∧ ((wh < 0 ∨ 6 < wh) → a = -1) ∧ (¬ (wh < 0 ∨ 6 < wh) → a = if wh = 0 then x' else if wh = 1 then u.1 266 (tcx (xn M) x' p' q') else if wh = 2 then p' else if wh = 3 then q' else if wh = 4 then u.1 268 (tcx (xn M) x' p' q') else if wh = 5 then L x' p' q' else c')) → cL (d + 8) 284 [.ref 271, lV k, iV wh] z (fun r' u2 => r' = a ∧ F231 u u2 P9) := fun z zF a ha => by
      refine e_284 (d := d + 6) ?_
      rw [zF.2.1 271 (by decide), zF.2.1 333 (by decide), h2, h74, ← c4]
      refine ⟨⟨by omega, by omega⟩, ?_⟩
      rw [if_neg (by omega)]
      refine ⟨hkL, ?_⟩
      by_cases i0 : k < 0
      · rw [if_pos i0]
        rcases ha with h | h
        · exact ⟨h.2.symm, zF⟩
        · exact absurd i0 h.1
      rw [if_neg i0]
      refine ⟨ht.1, ht.2, ⟨by omega, by omega⟩, ?_⟩
      by_cases i1 : k < u.1 268 b
      · rw [if_pos i1]
        refine ⟨hw, ?_⟩
        rcases ha with h | ⟨-, -, h, x', p', q', c', hna, hT', ab, aw⟩
        · exfalso
          rcases h.1 with z | z
          · exact i0 z
          · exact z i1
        by_cases w0 : wh < 0
        · rw [if_pos w0]; exact ⟨(ab (Or.inl w0)).symm, zF⟩
        rw [if_neg w0]
        by_cases w6 : 6 < wh
        · rw [if_pos w6]; exact ⟨(ab (Or.inr w6)).symm, zF⟩
        rw [if_neg w6]
        have aw := aw (by omega)
        have z68 : z.1 268 = u.1 268 := zF.2.1 268 (by decide)
        refine q_284l (e := d + 5) hM hS (WT_tr zF.2.1 hW) (H 0 0 b).toNat 0 0 b k 0 hT0 (by omega) (by omega) (by rw [z68, tc0]; exact i1) ⟨by omega, by omega⟩ (fun h2' x2 p2 q2 c2' hna2 hT2 => ?_)
        rw [z68] at hna2
        obtain ⟨e1, e2, e3, e4⟩ := NA_u h2' h 0 0 b k 0 x2 p2 q2 c2' x' p' q' c' hna2 hna
        rw [e1, e2, e3, e4]
        obtain ⟨gk, gr, gS, g1, g2, -, g4, -, g6, g7⟩ := hT x' p' q' hT'
        have gfe := (hV.2.2.2.2 x' p' q' gk).1
        have gt := Fe_t hM gfe
        have gx0 := gfe.1.1
        have gx1 := gfe.1.2
        have gp0 := gfe.2.1.1
        have gp1 := gfe.2.1.2
        have gq0 := gfe.2.2.1.1
        have gq1 := gfe.2.2.1.2
        have gr0 := g1.2.1.1
        have gr1 := g1.2.1.2.1
        have e66 : z.1 331 (tix p' x' q') = u.1 266 (tcx (xn M) x' p' q') := by rw [zF.2.1 331 (by decide), g2.1, g1.1]
        have e33 : z.1 333 (tix p' x' q') = u.1 268 (tcx (xn M) x' p' q') := by rw [zF.2.1 333 (by decide)]; exact g4.symm
        have e34 : z.1 334 (tix p' x' q') = L x' p' q' := by rw [zF.2.1 334 (by decide)]; exact g2.2.2.2.1
        have t1 : (tix p' x' q').tmod 40 = q' := by
          rw [Int.tmod_eq_emod_of_nonneg gt.1]
          unfold tix
          omega
        have t2 : (tix p' x' q').tdiv 40 = 10 * p' + x' := by
          rw [Int.tdiv_eq_ediv_of_nonneg gt.1]
          unfold tix
          omega
        have t3 : (10 * p' + x').tmod 10 = x' := by
          rw [Int.tmod_eq_emod_of_nonneg (by omega)]
          omega
        have t4 : (10 * p' + x').tdiv 10 = p' := by
          rw [Int.tdiv_eq_ediv_of_nonneg (by omega)]
          omega
        have hr66 : rI (u.1 266 (tcx (xn M) x' p' q')) := by rw [g1.1]; exact ⟨by omega, by omega⟩
        refine k_284_59 ⟨⟨by omega, by omega⟩, ?_⟩
        rw [if_neg (by omega), t1, t2, t3, t4, e66, e33, e34]
        refine ⟨hw, ?_⟩
        by_cases x0 : wh = 0
        · rw [if_pos x0] at aw ⊢
          exact ⟨⟨by omega, by omega⟩, ⟨by omega, by omega⟩, ⟨by omega, by omega⟩, aw.symm, zF⟩
        rw [if_neg x0] at aw ⊢
        by_cases x1 : wh = 1
        · rw [if_pos x1] at aw ⊢
          exact ⟨gt.1, gt.2, hr66, aw.symm, zF⟩
        rw [if_neg x1] at aw ⊢
        by_cases x2 : wh = 2
        · rw [if_pos x2] at aw ⊢
          exact ⟨⟨by omega, by omega⟩, ⟨by omega, by omega⟩, ⟨by omega, by omega⟩, aw.symm, zF⟩
        rw [if_neg x2] at aw ⊢
        by_cases x3 : wh = 3
        · rw [if_pos x3] at aw ⊢
          exact ⟨⟨by omega, by omega⟩, ⟨by omega, by omega⟩, aw.symm, zF⟩
        rw [if_neg x3] at aw ⊢
        by_cases x4 : wh = 4
        · rw [if_pos x4] at aw ⊢
          exact ⟨gt.1, gt.2, aw.symm, zF⟩
        rw [if_neg x4] at aw ⊢
        by_cases x5 : wh = 5
        · rw [if_pos x5] at aw ⊢
          exact ⟨gt.1, gt.2, aw.symm, zF⟩
        rw [if_neg x5] at aw ⊢
        exact ⟨aw.symm, zF⟩
      · rw [if_neg i1]
        rcases ha with h | h
        · exact ⟨h.2.symm, zF⟩
        · exact absurd h.2.1 i1
    refine e_183 ?_
    rw [h1]
    refine ⟨⟨by omega, by omega⟩, ?_⟩
    rw [if_neg (by omega)]
    refine e_184 (d := d + 5) ?_
    rw [hb]
    refine ⟨hkL, ?_⟩
    by_cases i0 : k < 0
    · rw [if_pos i0]
      exact ref u same (-2) (Or.inl ⟨Or.inl i0, rfl⟩)
    rw [if_neg i0]
    refine ⟨b0, by omega, ⟨by omega, by omega⟩, ?_⟩
    by_cases i1 : ¬ k < u.1 268 b
    · rw [if_neg i1]
      exact ref u same (-2) (Or.inl ⟨Or.inr i1, rfl⟩)
    have i1 : k < u.1 268 b := by omega
    rw [if_pos i1]
    refine e_185 (d := d + 5) (fun y ey o eo => ?_)
    have oF : F231 u o P9 := by rw [eo, ey]; exact F231_wr (F231_wr same (Or.inl rfl)) (Or.inr rfl)
    have o9 : o.1 231 9 = k := by rw [eo, wr_1, if_neg (by decide), ey, wr_self]
    have o10 : o.1 231 10 = 0 := by rw [eo, wr_self]
    obtain ⟨idx, x0, x1, x2⟩ := hO.2.2.2.1 0 0 b hk
    generalize hQQ : (fun (r8 : Int) (u7 : uS) => (rI wh) ∧ (if wh = 0 then ((rI r8) ∧ ((rI (u7.1 232 2)) ∧ (((u7.1 232 2) ≠ 0) ∧ ((rI (r8.tdiv (u7.1 232 2))) ∧ ((rI ((r8.tdiv (u7.1 232 2)).tdiv (u7.1 232 2))) ∧ (cL (d + 8) 284 [.ref 271, lV k, iV wh] u7 (fun r' u2 => r' = (r8.tdiv (u7.1 232 2)).tdiv (u7.1 232 2) ∧ F231 u u2 P9))))))) else (if wh = 1 then ((0 ≤ r8) ∧ ((r8 < 16000) ∧ ((rI (u7.1 266 r8)) ∧ (cL (d + 8) 284 [.ref 271, lV k, iV wh] u7 (fun r' u2 => r' = u7.1 266 r8 ∧ F231 u u2 P9))))) else (if wh = 2 then ((rI r8) ∧ ((rI (u7.1 232 2)) ∧ (((u7.1 232 2) ≠ 0) ∧ ((rI (r8.tdiv (u7.1 232 2))) ∧ ((rI ((r8.tdiv (u7.1 232 2)).tmod (u7.1 232 2))) ∧ (cL (d + 8) 284 [.ref 271, lV k, iV wh] u7 (fun r' u2 => r' = (r8.tdiv (u7.1 232 2)).tmod (u7.1 232 2) ∧ F231 u u2 P9))))))) else (if wh = 3 then ((rI r8) ∧ ((rI (u7.1 232 2)) ∧ (((u7.1 232 2) ≠ 0) ∧ ((rI (r8.tmod (u7.1 232 2))) ∧ (cL (d + 8) 284 [.ref 271, lV k, iV wh] u7 (fun r' u2 => r' = r8.tmod (u7.1 232 2) ∧ F231 u u2 P9)))))) else (if wh = 4 then ((0 ≤ r8) ∧ ((r8 < 16000) ∧ (cL (d + 8) 284 [.ref 271, lV k, iV wh] u7 (fun r' u2 => r' = u7.1 268 r8 ∧ F231 u u2 P9)))) else (if wh = 5 then ((0 ≤ r8) ∧ ((r8 < 16000) ∧ (cL (d + 8) 284 [.ref 271, lV k, iV wh] u7 (fun r' u2 => r' = u7.1 244 r8 ∧ F231 u u2 P9)))) else (if wh = 6 then (cL (d + 8) 284 [.ref 271, lV k, iV wh] u7 (fun r' u2 => r' = u7.1 231 10 ∧ F231 u u2 P9)) else (cL (d + 8) 284 [.ref 271, lV k, iV wh] u7 (fun r' u2 => r' = -1 ∧ F231 u u2 P9)))))))))) = Q
    have hq := q_185l (e := d) (Q := Q) hM hS hW (idx.toNat + 1) 0 0 b k 0 idx 0 o hT0 x0 (by omega) x2 (Int.le_refl 0) (by omega) oF o9 o10 (by omega) (by rw [tc0]; exact i1) ⟨by omega, by omega⟩ (fun h x' p' q' c' z hna hT' zF z10 => ?_)
    · rw [tc0] at hq
      rw [oF.2.1 232 (by decide), hb]
      exact hq
    · rw [← hQQ]
      obtain ⟨gk, gr, gS, g1, g2, -, g4, -, g6, g7⟩ := hT x' p' q' hT'
      obtain ⟨gfe, g44, g45⟩ := hV.2.2.2.2 x' p' q' gk
      obtain ⟨a1, a2, a3, a4⟩ := tcx_b gk.1 gk.2.1 gk.2.2.1
      obtain ⟨d1, d2, d3, d4⟩ := tcx_d (x := x') gk.2.1 gk.2.2.1
      have gx0 := gfe.1.1
      have gx1 := gfe.1.2
      have gp0 := gfe.2.1.1
      have gp1 := gfe.2.1.2
      have gq0 := gfe.2.2.1.1
      have gq1 := gfe.2.2.1.2
      have gr0 := g1.2.1.1
      have gr1 := g1.2.1.2.1
      have hr66 : rI (u.1 266 (tcx (xn M) x' p' q')) := by rw [g1.1]; exact ⟨by omega, by omega⟩
      have zn : z.1 232 2 = xn M := by rw [zF.2.1 232 (by decide)]; exact hV.2.2.1
      have go : ∀ a : Int, ((wh < 0 ∨ 6 < wh) → a = -1) → (¬ (wh < 0 ∨ 6 < wh) → a = if wh = 0 then x' else if wh = 1 then u.1 266 (tcx (xn M) x' p' q') else if wh = 2 then p' else if wh = 3 then q' else if wh = 4 then u.1 268 (tcx (xn M) x' p' q') else if wh = 5 then L x' p' q' else c') → cL (d + 8) 284 [.ref 271, lV k, iV wh] z (fun r' u2 => r' = a ∧ F231 u u2 P9) := fun a q1 q2 => ref z zF a (Or.inr ⟨i0, i1, h, x', p', q', c', hna, hT', q1, q2⟩)
      rw [zn, zF.2.1 266 (by decide), zF.2.1 268 (by decide), zF.2.1 244 (by decide), g44, z10, Int.tdiv_eq_ediv_of_nonneg a3, d1, Int.tdiv_eq_ediv_of_nonneg a1, d3, Int.tmod_eq_emod_of_nonneg a1, d4, Int.tmod_eq_emod_of_nonneg a3, d2]
      refine ⟨hw, ?_⟩
      by_cases y0 : wh = 0
      · rw [if_pos y0]
        exact ⟨⟨by omega, by omega⟩, ⟨by omega, by omega⟩, by omega, ⟨by omega, by omega⟩, ⟨by omega, by omega⟩, go _ (fun hh => by omega) (fun _ => by rw [if_pos y0])⟩
      rw [if_neg y0]
      by_cases y1 : wh = 1
      · rw [if_pos y1]
        exact ⟨a3, by omega, hr66, go _ (fun hh => by omega) (fun _ => by rw [if_neg y0, if_pos y1])⟩
      rw [if_neg y1]
      by_cases y2 : wh = 2
      · rw [if_pos y2]
        exact ⟨⟨by omega, by omega⟩, ⟨by omega, by omega⟩, by omega, ⟨by omega, by omega⟩, ⟨by omega, by omega⟩, go _ (fun hh => by omega) (fun _ => by rw [if_neg y0, if_neg y1, if_pos y2])⟩
      rw [if_neg y2]
      by_cases y3 : wh = 3
      · rw [if_pos y3]
        exact ⟨⟨by omega, by omega⟩, ⟨by omega, by omega⟩, by omega, ⟨by omega, by omega⟩, go _ (fun hh => by omega) (fun _ => by rw [if_neg y0, if_neg y1, if_neg y2, if_pos y3])⟩
      rw [if_neg y3]
      by_cases y4 : wh = 4
      · rw [if_pos y4]
        exact ⟨a3, by omega, go _ (fun hh => by omega) (fun _ => by rw [if_neg y0, if_neg y1, if_neg y2, if_neg y3, if_pos y4])⟩
      rw [if_neg y4]
      by_cases y5 : wh = 5
      · rw [if_pos y5]
        exact ⟨a3, by omega, go _ (fun hh => by omega) (fun _ => by rw [if_neg y0, if_neg y1, if_neg y2, if_neg y3, if_neg y4, if_pos y5])⟩
      rw [if_neg y5]
      by_cases y6 : wh = 6
      · rw [if_pos y6]
        exact go _ (fun hh => by omega) (fun _ => by rw [if_neg y0, if_neg y1, if_neg y2, if_neg y3, if_neg y4, if_neg y5])
      rw [if_neg y6]
      exact go _ (fun _ => rfl) (fun hh => absurd (by omega) hh)
