/-! The first side: leads and units -/
theorem q_112 {d : Nat} {u : uS} {g : Gm} (hg : gK g) (hA : cA u g) (h47 : ∀ x, iR (gv g) x → u.1 47 x = cl (em g x)) : cV (d + 3) 112 [.ref 36] u (fun u' => u'.2 = u.2 ∧ sb1 u u' [48] ∧ ∀ r : Int, 0 ≤ r → r < gr g → ∀ k : Nat, (k : Int) ≤ gl g r → u'.1 48 (r * 7 + k) = cl (pr (fun h => eS g (gy g r h)) k)) := by
  obtain ⟨g1, g2, g3, g4⟩ := id hg
  obtain ⟨c0, c1, c2, c3, c4⟩ := id hA
  generalize hQQ : (fun u' : uS => u'.2 = u.2 ∧ sb1 u u' [48] ∧ ∀ r : Int, 0 ≤ r → r < gr g → ∀ k : Nat, (k : Int) ≤ gl g r → u'.1 48 (r * 7 + k) = cl (pr (fun h => eS g (gy g r h)) k)) = Q
  let Fr : uS → Prop := fun v => v.2 = u.2 ∧ sb1 u v [48]
  have frA : ∀ v, Fr v → cA v g := fun v hv => cA_of hA hv.1 (hv.2 _ (by decide)) (hv.2 _ (by decide)) (hv.2 _ (by decide)) (hv.2 _ (by decide)) (hv.2 _ (by decide))
  have rules : ∀ (m r : Nat) (v : uS), r + m = gr g → Fr v → (∀ r' : Int, 0 ≤ r' → r' < r → ∀ k : Nat, (k : Int) ≤ gl g r' → v.1 48 (r' * 7 + k) = cl (pr (fun h => eS g (gy g r' h)) k)) → K_112 (d + 2) 2 [.ref 36, iV (r : Int), .retAddr 0] [] v Q := by
    intro m
    induction m with
    | zero =>
      intro r v hr hF h
      refine k_112_2 ?_
      rw [hF.1, c0, hF.2 6 (by decide), c2]
      refine ⟨sx_6, ⟨by omega, by omega⟩, ⟨by omega, by omega⟩, ?_⟩
      rw [if_neg (by omega), ← hQQ]
      exact ⟨hF.1, hF.2, fun r' r0 r1 k hk => h r' r0 (by omega) k hk⟩
    | succ m ih =>
      intro r v hr hF h
      obtain ⟨x1, x2, x3, x4⟩ := g3 r (by omega) (by omega)
      refine k_112_2 ?_
      rw [hF.1, c0, hF.2 6 (by decide), c2]
      refine ⟨sx_6, ⟨by omega, by omega⟩, ⟨by omega, by omega⟩, ?_⟩
      rw [if_pos (by omega)]
      have inner : ∀ (n k : Nat) (w : uS), (k : Int) + n = gl g r + 1 → Fr w → (∀ r' : Int, 0 ≤ r' → ∀ k' : Nat, (k' : Int) ≤ gl g r' → (r' < r ∨ r' = r ∧ k' < k) → w.1 48 (r' * 7 + k') = cl (pr (fun h => eS g (gy g r' h)) k')) → K_112 (d + 2) 15 [.ref 36, iV (r : Int), iV (k : Int)] [] w Q := by
        intro n
        induction n with
        | zero =>
          intro k w hk hFw hw
          obtain ⟨y1, y2, y3⟩ := (frA w hFw).2.2.2.1 r (by omega) (by omega)
          refine k_112_15 ?_
          rw [hFw.1, c0, show w.1 (6 + 3) = w.1 9 from rfl, y2]
          refine ⟨sx_6, by omega, by omega, ⟨by omega, by omega⟩, ⟨by omega, by omega⟩, ?_⟩
          rw [if_pos (by omega)]
          have := ih (r + 1) w (by omega) hFw (fun r' r0 r1 k' hk' => hw r' r0 k' hk' (by
            by_cases e : r' = r
            · rw [e] at hk'; exact Or.inr ⟨e, by omega⟩
            · exact Or.inl (by omega)))
          rw [Int.natCast_succ] at this
          exact this
        | succ n ihn =>
          intro k w hk hFw hw
          obtain ⟨y1, y2, y3⟩ := (frA w hFw).2.2.2.1 r (by omega) (by omega)
          refine k_112_15 ?_
          rw [hFw.1, c0, show w.1 (6 + 3) = w.1 9 from rfl, y2]
          refine ⟨sx_6, by omega, by omega, ⟨by omega, by omega⟩, ⟨by omega, by omega⟩, ?_⟩
          rw [if_neg (by omega)]
          refine cL.mono (q_109 (d := d) (e := em g) (r := (r : Int)) (a := 0) (b := (k : Int)) hg (frA w hFw) (em_cv g) (by rw [hFw.2 47 (by decide)]; exact h47) (by omega) (by omega) (Int.le_refl 0) (by omega) (by omega)) (Nat.le_refl _) (fun c z ⟨ez, hc⟩ => ?_)
          refine ⟨by omega, by omega, fun z' ez' => ?_⟩
          rw [ez] at ez'
          have hc' : c = cl (pr (fun h => eS g (gy g r h)) k) := by
            rw [hc, show ((k : Int) - 0).toNat = k by omega]
            congr 1
            refine pr_congr _ (fun i _ => ?_)
            rw [show (0 : Int) + (i : Int) = i by omega]
            rfl
          have := ihn (k + 1) z' (by omega) ⟨by rw [ez', wr_2]; exact hFw.1, by rw [ez']; exact sb1_wr hFw.2 (by decide)⟩ (fun r' r0 k' hk' hlt => ?_)
          · rw [Int.natCast_succ] at this
            exact this
          · rw [ez', wr_uf]
            by_cases e : r' = r ∧ k' = k
            · rw [e.1, e.2, uf_eq]
              exact hc'
            · have hr' : r' < gr g := by omega
              have := (g3 r' r0 hr').2.2.1
              rw [uf_ne (by omega)]
              exact hw r' r0 k' hk' (by omega)
      exact inner (gl g r + 1).toNat 0 v (by omega) hF (fun r' r0 k' hk' hlt => h r' r0 (by omega) k' hk')
  exact e_112 (rules (gr g) 0 u (by omega) ⟨rfl, sb1_refl _ _⟩ (fun r' r0 r1 => by omega))
theorem prB_len {f : Nat → Int} {k n : Nat} (hf : ∀ i, cv (f i)) (hk : k < n) : prB f k n = sT (pr f k) (pr (fun i => f (k + 1 + i)) (n - k - 1)) := by
  have := prB_gt (k := k) hf (n - k - 1)
  rw [show k + 1 + (n - k - 1) = n by omega] at this
  exact this
set_option maxHeartbeats 1000000 in
theorem q_113 {d : Nat} {u : uS} {g : Gm} (hg : gK g) (hA : cA u g) (h47 : ∀ x, iR (gv g) x → u.1 47 x = cl (em g x)) (h48 : ∀ r : Int, 0 ≤ r → r < gr g → ∀ k : Nat, (k : Int) ≤ gl g r → u.1 48 (r * 7 + k) = cl (pr (fun h => eS g (gy g r h)) k)) : cV (d + 5) 113 [.ref 36] u (fun u' => u'.2 = u.2 ∧ sb1 u u' [36, 49, 50] ∧ (∀ i : Int, i ≠ 8 → u'.1 36 i = u.1 36 i) ∧ (∀ x y, iR (gv g) x → iR (gv g) y → u'.1 49 (x * 10 + y) = cl (al g x y)) ∧ (∀ x y, iR (gv g) x → iR (gv g) y → (bi (u'.1 50 x) y.toNat = true ↔ tcl (gv g) (uR g) x y)) ∧ (∀ x : Int, 0 ≤ x → x < 10 → rI (u'.1 50 x)) ∧ ∀ i : Nat, bi (u'.1 36 8) i = true ↔ i < gv g ∧ bi (u'.1 50 (i : Int)) i = true) := by
  obtain ⟨g1, g2, g3, g4⟩ := id hg
  obtain ⟨c0, c1, c2, c3, c4⟩ := id hA
  generalize hQQ : (fun u' : uS => u'.2 = u.2 ∧ sb1 u u' [36, 49, 50] ∧ (∀ i : Int, i ≠ 8 → u'.1 36 i = u.1 36 i) ∧ (∀ x y, iR (gv g) x → iR (gv g) y → u'.1 49 (x * 10 + y) = cl (al g x y)) ∧ (∀ x y, iR (gv g) x → iR (gv g) y → (bi (u'.1 50 x) y.toNat = true ↔ tcl (gv g) (uR g) x y)) ∧ (∀ x : Int, 0 ≤ x → x < 10 → rI (u'.1 50 x)) ∧ ∀ i : Nat, bi (u'.1 36 8) i = true ↔ i < gv g ∧ bi (u'.1 50 (i : Int)) i = true) = Q
  let Fr : uS → Prop := fun v => v.2 = u.2 ∧ sb1 u v [49, 50]
  have frA : ∀ v, Fr v → cA v g := fun v hv => cA_of hA hv.1 (hv.2 _ (by decide)) (hv.2 _ (by decide)) (hv.2 _ (by decide)) (hv.2 _ (by decide)) (hv.2 _ (by decide))
  generalize hU : (fun (x y : Int) (r k : Nat) => sP (su (alR g x y) r) (su (alT g x y r) k)) = U
  have Ucv : ∀ x y r k, cv (U x y r k) := fun x y r k => by
    rw [← hU]
    exact cv_P (su_cv _ (fun _ _ => alR_cv g _ _ _)) (su_cv _ (fun _ _ => alT_cv g _ _ _ _))
  have Us : ∀ x y r k, U x y r (k + 1) = sP (U x y r k) (alT g x y r k) := fun x y r k => by
    rw [← hU]
    exact (sP_assoc (su_cv _ (fun _ _ => alR_cv g _ _ _)) (su_cv _ (fun _ _ => alT_cv g _ _ _ _)) (alT_cv g _ _ _ _)).symm
  have U0 : ∀ x y r, U x y r 0 = su (alR g x y) r := fun x y r => by
    rw [← hU]
    exact sP_0 (su_cv _ (fun _ _ => alR_cv g _ _ _))
  have Ul : ∀ x y r, U x y r (gl g r).toNat = U x y (r + 1) 0 := fun x y r => by
    rw [U0, ← hU]
    rfl
  let I : uS → Nat → Nat → Prop := fun v r k => ∀ x y : Int, 0 ≤ x → x < 10 → 0 ≤ y → y < 10 → v.1 49 (x * 10 + y) = cl (U x y r k) ∧ (bi (v.1 50 x) y.toNat = true ↔ U x y r k ≠ 0)
  let J : uS → Prop := fun v => ∀ x : Int, 0 ≤ x → x < 10 → rI (v.1 50 x)
  have rules : ∀ (m r : Nat) (v : uS), r + m = gr g → Fr v → I v r 0 → J v → K_113 (d + 4) 18 [.ref 36, iV (r : Int), .retAddr 0, .retAddr 0, .retAddr 0, .retAddr 0, .retAddr 0] [] v Q := by
    intro m
    induction m with
    | zero =>
      intro r v hr hF hI hJ
      refine k_113_18 ?_
      rw [hF.1, c0, hF.2 6 (by decide), c2]
      refine ⟨sx_6, ⟨by omega, by omega⟩, ⟨by omega, by omega⟩, ?_⟩
      rw [if_neg (by omega)]
      refine cI.mono (q_107 (d := d + 1) (nv := gv g) (by rw [hF.1]; exact c0) (by rw [hF.2 6 (by decide)]; exact c1) g1) (Nat.le_refl _) (fun C z ⟨z1, z2, z3, z5, z4⟩ z' ez' => ?_)
      have hal : ∀ x y, al g x y = U x y r 0 := fun x y => by rw [U0, show r = gr g by omega]; rfl
      have hE : ∀ x y, iR (gv g) x → iR (gv g) y → (bi (v.1 50 x) y.toNat = true ↔ uR g x y) := fun x y hx hy => by
        rw [(hI x y hx.1 (by have := hx.2; omega) hy.1 (by have := hy.2; omega)).2, ← hal]
        rfl
      have e50 : z'.1 50 = z.1 50 := by rw [ez', wr_ne (by omega)]
      rw [← hQQ]
      refine ⟨by rw [ez', wr_2]; exact z1.trans hF.1, ?_, fun i hi => ?_, fun x y hx hy => ?_, fun x y hx hy => ?_, ?_, fun i => ?_⟩
      · rw [ez']
        refine sb1_wr (fun b hb => (z2 b (fun hh => hb ?_)).trans (hF.2 b (fun hh => hb ?_))) (by decide) <;> simp only [List.mem_cons, List.not_mem_nil, or_false] at hh ⊢ <;> omega
      · rw [ez', wr_uf, uf_ne hi, z2 36 (by decide), hF.2 36 (by decide)]
      · rw [ez', wr_ne (by omega), z2 49 (by decide), (hI x y hx.1 (by have := hx.2; omega) hy.1 (by have := hy.2; omega)).1, hal]
      · rw [e50]
        exact tcR_eq hE z3 (tcl_tc _ _) hx hy
      · rw [e50]
        exact z5 hJ
      · rw [e50, ez', wr_uf, uf_eq]
        exact z4 i
    | succ m ih =>
      intro r v hr hF hI hJ
      obtain ⟨x1, x2, x3, x4⟩ := g3 r (by omega) (by omega)
      have h10 := x1.1
      have h11 := x1.2
      refine k_113_18 ?_
      rw [hF.1, c0, hF.2 6 (by decide), c2]
      refine ⟨sx_6, ⟨by omega, by omega⟩, ⟨by omega, by omega⟩, ?_⟩
      rw [if_pos (by omega)]
      have syms : ∀ (n k : Nat) (w : uS), (k : Int) + n = gl g r → Fr w → I w r k → J w → K_113 (d + 4) 31 [.ref 36, iV (r : Int), iV (k : Int), .retAddr 0, .retAddr 0, .retAddr 0, .retAddr 0] [] w Q := by
        intro n
        induction n with
        | zero =>
          intro k w hk hFw hIw hJw
          obtain ⟨y1, y2, y3⟩ := (frA w hFw).2.2.2.1 r (by omega) (by omega)
          refine k_113_31 ?_
          rw [hFw.1, c0, show w.1 (6 + 3) = w.1 9 from rfl, y2]
          refine ⟨sx_6, by omega, by omega, ⟨by omega, by omega⟩, ⟨by omega, by omega⟩, ?_⟩
          rw [if_neg (by omega)]
          have := ih (r + 1) w (by omega) hFw (fun x y p1 p2 p3 p4 => by
            have h := hIw x y p1 p2 p3 p4
            rw [show k = (gl g r).toNat by omega, Ul] at h
            exact h) hJw
          rw [Int.natCast_succ] at this
          exact this
        | succ n ihn =>
          intro k w hk hFw hIw hJw
          obtain ⟨y1, y2, y3⟩ := (frA w hFw).2.2.2.1 r (by omega) (by omega)
          have hs := x4 k (by omega) (by omega)
          have hsI : rI (gy g r k) := by rcases hs with z | z <;> exact ⟨by omega, by omega⟩
          have skip : (∀ x y : Int, 0 ≤ y → alT g x y r k = 0) → K_113 (d + 4) 31 [.ref 36, iV (r : Int), iV ((k : Int) + 1), .retAddr 0, .retAddr 0, .retAddr 0, .retAddr 0] [] w Q := by
            intro h0
            have := ihn (k + 1) w (by omega) hFw (fun x y p1 p2 p3 p4 => by
              rw [Us, h0 x y p3, sP_0 (Ucv _ _ _ _)]
              exact hIw x y p1 p2 p3 p4) hJw
            rw [Int.natCast_succ] at this
            exact this
          refine k_113_31 ?_
          rw [hFw.1, c0, show w.1 (6 + 3) = w.1 9 from rfl, show w.1 (6 + 4) = w.1 10 from rfl, y2]
          refine ⟨sx_6, by omega, by omega, ⟨by omega, by omega⟩, ⟨by omega, by omega⟩, ?_⟩
          rw [if_pos (by omega), y3 k (by omega) (by omega)]
          refine ⟨by omega, by omega, hsI, ?_⟩
          by_cases hl : gy g r k < 100
          · rw [if_pos hl]
            refine k_113_95 ⟨by decide, ?_⟩
            rw [if_pos rfl]
            exact skip (fun x y y0 => if_neg (fun h => by have := (pd_t.mp h).2; omega))
          · rw [if_neg hl]
            have hs2 : 100 ≤ gy g r k ∧ gy g r k < 100 + gv g := by rcases hs with z | z <;> omega
            refine ⟨by omega, by omega, ?_⟩
            refine cL.mono (q_109 (d := d + 2) (e := em g) (r := (r : Int)) (a := (k : Int) + 1) (b := gl g r) hg (frA w hFw) (em_cv g) (by rw [hFw.2 47 (by decide)]; exact h47) (by omega) (by omega) (by omega) (by omega) (Int.le_refl _)) (by omega) (fun c z ⟨ez, hc⟩ => ?_)
            have hw48 : w.1 48 ((r : Int) * 7 + k) = cl (pr (fun h => eS g (gy g r h)) k) := by rw [hFw.2 48 (by decide)]; exact h48 r (by omega) (by omega) k (by omega)
            have hc' : c = cl (pr (fun i => eS g (gy g r ((k + 1 + i : Nat) : Int))) ((gl g r).toNat - k - 1)) := by
              rw [hc, show (gl g r - ((k : Int) + 1)).toNat = (gl g r).toNat - k - 1 by omega]
              congr 1
            have fcv : ∀ i : Nat, cv ((fun h : Nat => eS g (gy g r h)) i) := fun i => eS_cv g _
            have pc1 : cv (pr (fun h : Nat => eS g (gy g r h)) k) := pr_cv _ (fun i _ => fcv i)
            have pc2 : cv (pr (fun i : Nat => eS g (gy g r ((k + 1 + i : Nat) : Int))) ((gl g r).toNat - k - 1)) := pr_cv _ (fun i _ => eS_cv g _)
            rw [hw48, hc']
            refine ⟨cl_cn pc1, cl_cn pc2, ?_⟩
            have ways : sT (pr (fun h : Nat => eS g (gy g r h)) k) (pr (fun i : Nat => eS g (gy g r ((k + 1 + i : Nat) : Int))) ((gl g r).toNat - k - 1)) = prB (fun h : Nat => eS g (gy g r h)) k (gl g r).toNat := (prB_len (f := fun h : Nat => eS g (gy g r h)) fcv (by omega)).symm
            rw [cl_T pc1 pc2, ways, ez]
            have wcv : cv (prB (fun h : Nat => eS g (gy g r h)) k (gl g r).toNat) := prB_cv fcv _
            have hal1 : alT g (gh g r) (gy g r k - 100) r k = prB (fun h : Nat => eS g (gy g r h)) k (gl g r).toNat := if_pos (pd_t.mpr ⟨rfl, by omega⟩)
            have hal0 : ∀ x y : Int, ¬ (x = gh g r ∧ y = gy g r k - 100) → alT g x y r k = 0 := fun x y hn => if_neg (fun h => hn (by have := pd_t.mp h; exact ⟨this.1.symm, by omega⟩))
            generalize prB (fun h : Nat => eS g (gy g r h)) k (gl g r).toNat = W at wcv hal1
            refine k_113_95 ⟨?_, ?_⟩
            · have := cl_cn wcv
              rcases this with q | q
              · rw [q]; decide
              · exact ⟨by omega, by omega⟩
            · by_cases hW : W = 0
              · rw [if_pos (cl_z.mpr hW)]
                refine skip (fun x y y0 => ?_)
                by_cases exy : x = gh g r ∧ y = gy g r k - 100
                · rw [exy.1, exy.2, hal1, hW]
                · exact hal0 x y exy
              · rw [if_neg (fun h => hW (cl_z.mp h)), hFw.1, c0, show w.1 (6 + 2) = w.1 8 from rfl, y1]
                have eix : gh g r * 10 + gy g r k - 100 = gh g r * 10 + (gy g r k - 100) := by omega
                have hI1 := hIw (gh g r) (gy g r k - 100) h10 (by omega) (by omega) (by omega)
                rw [eix, hI1.1]
                refine ⟨sx_6, by omega, by omega, by omega, by omega, cl_cn (Ucv _ _ _ _), cl_cn wcv, fun w1 e1 => ?_⟩
                rw [cl_P (Ucv _ _ _ _) wcv] at e1
                have f1 : w1.2 = u.2 := by rw [e1, wr_2]; exact hFw.1
                have f8 : w1.1 8 = w.1 8 := by rw [e1, wr_ne (by omega)]
                have f50 : w1.1 50 = w.1 50 := by rw [e1, wr_ne (by omega)]
                rw [f1, c0, show w1.1 (6 + 2) = w1.1 8 from rfl, f8, y1, f50]
                refine ⟨sx_6, h10, by omega, fun w2 e2 => ?_⟩
                have g49 : w2.1 49 = uf (w.1 49) (gh g r * 10 + (gy g r k - 100)) (cl (sP (U (gh g r) (gy g r k - 100) r k) W)) := by rw [e2, wr_ne (by omega), e1, wr_uf]
                have g50 : w2.1 50 = uf (w.1 50) (gh g r) (ior (w.1 50 (gh g r)) (ishl 1 (gy g r k - 100))) := by rw [e2, wr_uf, f50]
                have := ihn (k + 1) w2 (by omega) ⟨by rw [e2, wr_2]; exact f1, by rw [e2, e1]; exact sb1_wr (sb1_wr hFw.2 (by decide)) (by decide)⟩ (fun x y p1 p2 p3 p4 => ?_) (fun x p1 p2 => ?_)
                · rw [Int.natCast_succ] at this
                  exact this
                · rw [g49, g50, Us]
                  have hI2 := hIw x y p1 p2 p3 p4
                  by_cases exy : x = gh g r ∧ y = gy g r k - 100
                  · rw [exy.1, exy.2, uf_eq, uf_eq, hal1]
                    refine ⟨rfl, ?_⟩
                    rw [bi_ior, bi_bit (by omega) (by omega), Bool.or_eq_true, decide_eq_true_eq]
                    refine ⟨fun _ h => ?_, fun _ => Or.inr rfl⟩
                    exact hW ((sP_z (Ucv _ _ _ _) wcv).mp h).2
                  · rw [hal0 x y exy, sP_0 (Ucv _ _ _ _), uf_ne (fun h => exy (by omega))]
                    refine ⟨hI2.1, ?_⟩
                    by_cases ex : x = gh g r
                    · rw [ex] at hI2 ⊢
                      rw [uf_eq, bi_ior, bi_bit (by omega) (by omega), Bool.or_eq_true, decide_eq_true_eq, hI2.2]
                      refine ⟨fun h => ?_, fun h => Or.inl h⟩
                      rcases h with h | h
                      · exact h
                      · exact absurd ⟨ex, by omega⟩ exy
                    · rw [uf_ne ex]
                      exact hI2.2
                · rw [g50]
                  by_cases ex : x = gh g r
                  · rw [ex, uf_eq]; exact ri_ior _ _
                  · rw [uf_ne ex]; exact hJw x p1 p2
      exact syms (gl g r).toNat 0 v (by omega) hF hI hJ
  refine e_113 (fun v1 e1 v2 e2 => rules (gr g) 0 v2 (by omega) ⟨by rw [e2, fil_2, e1, fil_2], fun b hb => ?_⟩ (fun x y p1 p2 p3 p4 => ?_) (fun x p1 p2 => ?_))
  · simp only [List.mem_cons, List.not_mem_nil, or_false, not_or] at hb
    rw [e2, fil_ne hb.2, e1, fil_ne hb.1]
  · rw [U0]
    refine ⟨?_, ?_⟩
    · rw [e2, fil_ne (by omega), e1, fil_1, if_pos ⟨rfl, by omega, by omega⟩]
      rfl
    · rw [e2, fil_1, if_pos ⟨rfl, p1, p2⟩, bi_0]
      exact ⟨fun h => (by cases h), fun h => absurd rfl h⟩
  · rw [e2, fil_1, if_pos ⟨rfl, p1, p2⟩]
    decide
