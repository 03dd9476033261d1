/-! The first side: all spans from a place; what is made ready -/
def cPr (u : uS) (g : Gm) : Prop := (∀ x, iR (gv g) x → u.1 47 x = cl (em g x)) ∧ (∀ r : Int, 0 ≤ r → r < gr g → ∀ k : Nat, (k : Int) ≤ gl g r → u.1 48 (r * 7 + k) = cl (pr (fun h => eS g (gy g r h)) k)) ∧ (∀ x y, iR (gv g) x → iR (gv g) y → u.1 49 (x * 10 + y) = cl (al g x y)) ∧ (∀ x y, iR (gv g) x → iR (gv g) y → (bi (u.1 50 x) y.toNat = true ↔ tcl (gv g) (uR g) x y)) ∧ (∀ x : Int, 0 ≤ x → x < 10 → rI (u.1 50 x)) ∧ ∀ i : Nat, bi (u.1 36 8) i = true ↔ i < gv g ∧ bi (u.1 50 (i : Int)) i = true
theorem cPr_of {u u' : uS} {g : Gm} (h : cPr u g) (h7 : u'.1 47 = u.1 47) (h8 : u'.1 48 = u.1 48) (h9 : u'.1 49 = u.1 49) (h0 : u'.1 50 = u.1 50) (h36 : u'.1 36 8 = u.1 36 8) : cPr u' g := by
  unfold cPr at h ⊢
  rw [h7, h8, h9, h0, h36]
  exact h
theorem q_104 {d L : Nat} {u : uS} {g : Gm} {k b : Int} {nl : Nat} (hg : gK g) (hLA : isA L 0 nl) (hb : b = 0 ∨ b = 1) (hA : ∀ v : uS, v.1 = (wr (wr u 36 2 k) 36 3 b).1 → v.2 36 0 = 6 → cA v g) : cV (d + 9) 104 [.ref 36, .ref 6, .ref L, iV k, iV b] u (fun u' => u'.2 = (wq (wq u 36 0 6) 36 1 L).2 ∧ sb1 u u' [36, 47, 48, 49, 50, 55] ∧ (∀ i : Int, i ≠ 2 → i ≠ 3 → i ≠ 8 → u'.1 36 i = u.1 36 i) ∧ u'.1 36 2 = k ∧ u'.1 36 3 = b ∧ cA u' g ∧ cPr u' g) := by
  refine e_104 sx_6 hLA (fun u1 e1 u2 e2 u3 e3 => ⟨hb, fun u4 e4 => ?_⟩)
  have e42 : u4.2 = (wq (wq u 36 0 6) 36 1 L).2 := by rw [e4, wr_2, e3, wr_2, e2, e1]
  have h0 : u4.2 36 0 = 6 := by
    rw [e42, wq_2, if_neg (by omega), wq_2, if_pos ⟨rfl, rfl⟩]
  have e41 : u4.1 = (wr (wr u 36 2 k) 36 3 b).1 := by
    funext c j
    rw [e4, wr_1, e3, wr_1, wr_1, wr_1, e2, wq_1, e1, wq_1]
  have hA4 : cA u4 g := hA u4 e41 h0
  have o : ∀ c, c ≠ 36 → u4.1 c = u.1 c := fun c hc => by rw [e41, wr_ne hc, wr_ne hc]
  have o36 : u4.1 36 = uf (uf (u.1 36) 2 k) 3 b := by rw [e41, wr_uf, wr_uf]
  refine cV.mono (q_105 (d := d) hg hA4) (Nat.le_refl _) (fun v ⟨v1, v2, v3⟩ => ?_)
  have hAv : cA v g := cA_of hA4 v1 (v2 _ (by decide)) (v2 _ (by decide)) (v2 _ (by decide)) (v2 _ (by decide)) (v2 _ (by decide))
  refine cV.mono (q_112 (d := d + 5) hg hAv v3) (by omega) (fun w ⟨w1, w2, w3⟩ => ?_)
  have hAw : cA w g := cA_of hAv w1 (w2 _ (by decide)) (w2 _ (by decide)) (w2 _ (by decide)) (w2 _ (by decide)) (w2 _ (by decide))
  have w47 : ∀ x, iR (gv g) x → w.1 47 x = cl (em g x) := by rw [w2 47 (by decide)]; exact v3
  refine cV.mono (q_113 (d := d + 3) hg hAw w47 w3) (by omega) (fun z ⟨z1, z2, z3, z4, z5, z6, z7⟩ => ?_)
  have hz36 : ∀ i : Int, i ≠ 8 → z.1 36 i = uf (uf (u.1 36) 2 k) 3 b i := fun i hi => by rw [z3 i hi, w2 36 (by decide), v2 36 (by decide), o36]
  refine ⟨by rw [z1, w1, v1, e42], fun c hc => ?_, fun i i2 i3 i8 => ?_, ?_, ?_, cA_of hAw z1 (z2 _ (by decide)) (z2 _ (by decide)) (z2 _ (by decide)) (z2 _ (by decide)) (z2 _ (by decide)), by rw [z2 47 (by decide)]; exact w47, by rw [z2 48 (by decide)]; exact w3, z4, z5, z6, z7⟩
  · simp only [List.mem_cons, List.not_mem_nil, or_false, not_or] at hc
    rw [z2 c (by simp only [List.mem_cons, List.not_mem_nil, or_false]; omega), w2 c (by simp only [List.mem_cons, List.not_mem_nil, or_false]; omega), v2 c (by simp only [List.mem_cons, List.not_mem_nil, or_false]; omega), o c hc.1]
  · rw [hz36 i i8, uf_ne i3, uf_ne i2]
  · rw [hz36 2 (by decide), uf_ne (by decide), uf_eq]
  · rw [hz36 3 (by decide), uf_eq]
theorem q_114 {d len L : Nat} {u : uS} {g : Gm} {lt : Int → Int → Prop} {pi : Int → Int} {i b : Int} (hg : gK g) (hA : cA u g) (hP : cPr u g) (i0 : 0 ≤ i) (hi : i < len) (hlen : len ≤ 40) (h2 : u.1 36 2 = len) (hb : b = 0 ∨ b = 1) (h3 : u.1 36 3 = b) (hpi : ∀ p, pi p = if b = 0 then p else 0) (hpii : pi i = i) (hL : u.2 36 1 = L) (hLA : isA L 0 40) (hLn : L < 47) (hlt : ∀ q s : Int, 1 ≤ q → q ≤ len → (lt q s ↔ b ≠ 0 ∨ u.1 L (q - 1) = s)) (hLI : b = 0 → ∀ q : Int, 0 ≤ q → q < len → rI (u.1 L q)) (hTab : b = 0 → ∀ (m : Nat) (y p : Int), 1 ≤ m → iR (gv g) y → i < p → p + m ≤ len → u.1 51 ((y * 41 + p) * 41 + p + m) = cl (tT g lt pi m y p)) : cV (d + 6) 114 [.ref 36, iV i] u (fun u' => u'.2 = u.2 ∧ sb1 u u' [51, 52, 53, 54, 55] ∧ ∀ (m : Nat) (y p : Int), 1 ≤ m → iR (gv g) y → (b = 0 ∧ i < p ∨ p = i) → p + m ≤ len → u'.1 51 ((y * 41 + p) * 41 + p + m) = cl (tT g lt pi m y p)) := by
  obtain ⟨g1, g2, g3, g4⟩ := id hg
  obtain ⟨c0, c1, c2, c3, c4⟩ := id hA
  obtain ⟨p1, p2, p3, p4, p5, p6⟩ := id hP
  generalize hQQ : (fun u' : uS => u'.2 = u.2 ∧ sb1 u u' [51, 52, 53, 54, 55] ∧ ∀ (m : Nat) (y p : Int), 1 ≤ m → iR (gv g) y → (b = 0 ∧ i < p ∨ p = i) → p + m ≤ len → u'.1 51 ((y * 41 + p) * 41 + p + m) = cl (tT g lt pi m y p)) = Q
  generalize hT : tT g lt pi = T at *
  have Tcv : ∀ m y p, cv (T m y p) := fun m y p => by rw [← hT]; exact tT_cv m y p
  let Fr : uS → Prop := fun v => v.2 = u.2 ∧ sb1 u v [51, 52, 53, 54, 55]
  have frA : ∀ v, Fr v → cA v g := fun v hv => cA_of hA hv.1 (hv.2 _ (by decide)) (hv.2 _ (by decide)) (hv.2 _ (by decide)) (hv.2 _ (by decide)) (hv.2 _ (by decide))
  have frP : ∀ v, Fr v → cPr v g := fun v hv => cPr_of hP (hv.2 _ (by decide)) (hv.2 _ (by decide)) (hv.2 _ (by decide)) (hv.2 _ (by decide)) (by rw [hv.2 36 (by decide)])
  have frT : ∀ (v w : uS) (ps : List Nat), Fr v → w.2 = v.2 → sb1 v w ps → (∀ c, c ∈ ps → c ∈ [51, 52, 53, 54, 55]) → Fr w := fun v w ps hv h1 h2 h3 => ⟨h1.trans hv.1, fun c hc => (h2 c (fun hh => hc (h3 c hh))).trans (hv.2 c hc)⟩
  let Tb : uS → Nat → Prop := fun v N => ∀ (m : Nat) (y p : Int), 1 ≤ m → iR (gv g) y → (b = 0 ∧ i < p ∧ p + m ≤ len ∨ p = i ∧ m < N) → v.1 51 ((y * 41 + p) * 41 + p + m) = cl (T m y p)
  let Px : uS → Nat → Prop := fun v N => ∀ r : Int, 0 ≤ r → r < gr g → ∀ k : Nat, (k : Int) ≤ gl g r → ∀ t : Nat, t < N → v.1 52 ((r * 7 + k) * 41 + (i + t)) = cl (ff g lt pi T r i k t)
  have ends : ∀ (M N : Nat) (v : uS), 1 ≤ N → i + N + M = len + 1 → Fr v → Tb v N → Px v N → K_114 (d + 5) 66 [.ref 36, iV i, iV (i + N), .retAddr 0] [] v Q := by
    intro M
    induction M with
    | zero =>
      intro N v hN hM hF hTb hPx
      refine k_114_66 ⟨⟨by omega, by omega⟩, ?_⟩
      rw [hF.2 36 (by decide), h2]
      refine ⟨⟨by omega, by omega⟩, ?_⟩
      rw [if_pos (by omega), ← hQQ]
      refine ⟨hF.1, hF.2, fun m y p q1 q2 q3 q4 => hTb m y p q1 q2 ?_⟩
      rcases q3 with q | q
      · exact Or.inl ⟨q.1, q.2, q4⟩
      · exact Or.inr ⟨q, by omega⟩
    | succ M ih =>
      intro N v hN hM hF hTb hPx
      refine k_114_66 ⟨⟨by omega, by omega⟩, ?_⟩
      rw [hF.2 36 (by decide), h2]
      refine ⟨⟨by omega, by omega⟩, ?_⟩
      rw [if_neg (by omega)]
      have vL : v.1 L = u.1 L := hF.2 L (by simp only [List.mem_cons, List.not_mem_nil, or_false]; omega)
      refine cV.mono (q_116 (d := d + 1) (N := N) (L := L) (lt := lt) (pi := pi) (T := T) (i := i) (b := b) hg (frA v hF) Tcv i0 hN (by omega) hb (by rw [hF.2 36 (by decide)]; exact h3) hpi (by rw [hF.1]; exact hL) hLA (by omega) (fun s => by rw [vL]; exact hlt (i + N) s (by omega) (by omega)) (fun hb0 => by rw [vL]; exact hLI hb0 _ (by omega) (by omega)) hPx (fun y hy p q1 q2 => ?_)) (Nat.le_refl _) (fun w ⟨w1, w2, w3⟩ => ?_)
      · rw [hpi]
        by_cases hb0 : b = 0
        · rw [if_pos hb0]
          exact hTb (N - p) y (i + p) (by omega) hy (Or.inl ⟨hb0, by omega, by omega⟩)
        · rw [if_neg hb0]
          have hi0 : i = 0 := by rw [hpi, if_neg hb0] at hpii; exact hpii.symm
          exact hTb (N - p) y 0 (by omega) hy (Or.inr ⟨hi0.symm, by omega⟩)
      have hFw : Fr w := frT v w [53] hF w1 w2 (by decide)
      refine cV.mono (q_119 (d := d + 3) (N := N) (lt := lt) (pi := pi) (T := T) (i := i) hg (frA w hFw) Tcv hN (frP w hFw).1 w3) (by omega) (fun z ⟨z1, z2, z3⟩ => ?_)
      have hFz : Fr z := frT w z [54] hFw z1 z2 (by decide)
      have hBcv : ∀ x, cv (bs g lt pi T N i x) := fun x => bs_cv Tcv x
      obtain ⟨s1, s2, s3, s4, s5, s6⟩ := frP z hFz
      refine cV.mono (q_120 (d := d + 1) (B := bs g lt pi T N i) hg (frA z hFz) hBcv z3 s3 s4 s5 s6) (Nat.le_refl _) (fun y ⟨y1, y2, y3⟩ => ?_)
      have hFy : Fr y := frT z y [55] hFz y1 y2 (by decide)
      have hval : ∀ x, iR (gv g) x → y.1 55 x = cl (T N x i) := fun x hx => by
        rw [y3 x hx, ← hT, tT_eq]
      -- the spans are kept
      have keep : ∀ (n x : Nat) (q : uS), x + n = gv g → Fr q → q.1 55 = y.1 55 → q.1 52 = y.1 52 → q.1 53 = y.1 53 → Tb q N → (∀ x' : Int, 0 ≤ x' → x' < x → q.1 51 ((x' * 41 + i) * 41 + i + N) = cl (T N x' i)) → K_114 (d + 5) 90 [.ref 36, iV i, iV (i + N), iV (x : Int)] [] q Q := by
        intro n
        induction n with
        | zero =>
          intro x q hx hFq q55 q52 q53 qT qN
          refine k_114_90 ?_
          rw [hFq.1, c0, hFq.2 6 (by decide), c1]
          refine ⟨sx_6, ⟨by omega, by omega⟩, ⟨by omega, by omega⟩, ?_⟩
          rw [if_neg (by omega)]
          have q53' : ∀ r : Int, 0 ≤ r → r < gr g → ∀ k : Nat, (k : Int) < gl g r → q.1 53 (r * 7 + (k + 1)) = cl (md g lt pi T r i k N) := by rw [q53, y2 53 (by decide), z2 53 (by decide)]; exact w3
          refine cV.mono (q_122 (d := d + 3) (N := N) (lt := lt) (pi := pi) (T := T) (i := i) hg (frA q hFq) Tcv i0 hN (by omega) (frP q hFq).1 (frP q hFq).2.1 q53' (by rw [q55, hpii]; exact hval)) (by omega) (fun o ⟨o1, o2, o3, o4⟩ => ?_)
          have e52 : q.1 52 = v.1 52 := by rw [q52, y2 52 (by decide), z2 52 (by decide), w2 52 (by decide)]
          have := ih (N + 1) o (by omega) (by omega) (frT q o [52] hFq o1 o2 (by decide)) (fun m yy p r1 r2 r3 => ?_) (fun r r0 r1 k hk t ht => ?_)
          · rw [Int.natCast_succ, show i + ((N : Int) + 1) = i + N + 1 by omega] at this
            exact this
          · rw [o2 51 (by decide)]
            by_cases e : p = i ∧ m = N
            · rw [e.1, e.2]
              exact qN yy r2.1 (by have := r2.2; omega)
            · refine qT m yy p r1 r2 ?_
              rcases r3 with r3 | r3
              · exact Or.inl r3
              · exact Or.inr ⟨r3.1, by omega⟩
          · by_cases e : t = N
            · rw [e]
              exact o4 r r0 r1 k hk
            · rw [o3 _ _ (by omega) (by omega) (by omega), e52]
              exact hPx r r0 r1 k hk t (by omega)
        | succ n ihn =>
          intro x q hx hFq q55 q52 q53 qT qN
          have hxR : iR (gv g) (x : Int) := ⟨by omega, by omega⟩
          refine k_114_90 ?_
          rw [hFq.1, c0, hFq.2 6 (by decide), c1]
          refine ⟨sx_6, ⟨by omega, by omega⟩, ⟨by omega, by omega⟩, ?_⟩
          rw [if_pos (by omega), hFq.2 36 (by decide), h3]
          refine ⟨by rcases hb with e | e <;> rw [e] <;> decide, ?_⟩
          have put : ∀ (ix : Int), ix = ((x : Int) * 41 + i) * 41 + i + N → ∀ o : uS, o = wr q 51 ix (q.1 55 x) → K_114 (d + 5) 90 [.ref 36, iV i, iV (i + N), iV ((x : Int) + 1)] [] o Q := by
            intro ix hix o eo
            have o51 : o.1 51 = uf (q.1 51) (((x : Int) * 41 + i) * 41 + i + N) (cl (T N x i)) := by rw [eo, wr_uf, hix, q55, hval x hxR]
            have := ihn (x + 1) o (by omega) ⟨by rw [eo, wr_2]; exact hFq.1, by rw [eo]; exact sb1_wr hFq.2 (by decide)⟩ (by rw [eo, wr_ne (by omega)]; exact q55) (by rw [eo, wr_ne (by omega)]; exact q52) (by rw [eo, wr_ne (by omega)]; exact q53) (fun m yy p r1 r2 r3 => ?_) (fun x' z0 z1 => ?_)
            · rw [Int.natCast_succ] at this
              exact this
            · have r20 := r2.1
              have r21 := r2.2
              have hne : (yy * 41 + p) * 41 + p + (m : Int) ≠ ((x : Int) * 41 + i) * 41 + i + N := fun h => by
                have hb1 : 0 ≤ p ∧ p + m ≤ 40 := by
                  rcases r3 with r3 | r3
                  · exact ⟨by omega, by omega⟩
                  · exact ⟨by omega, by omega⟩
                have := cix_inj (y := yy) (p := p) (P := p + m) (x := (x : Int)) (i := i) (N := i + N) ⟨by omega, by omega⟩ ⟨by omega, by omega⟩ ⟨by omega, by omega⟩ ⟨by omega, by omega⟩ (by omega)
                rcases r3 with r3 | r3
                · omega
                · omega
              rw [o51, uf_ne hne]
              exact qT m yy p r1 r2 r3
            · rw [o51]
              by_cases e : x' = x
              · rw [e, uf_eq]
              · rw [uf_ne (by omega)]
                exact qN x' z0 (by omega)
          by_cases hb0 : b = 0
          · rw [if_pos hb0]
            exact ⟨by omega, by omega, by omega, by omega, put _ (by omega)⟩
          · rw [if_neg hb0]
            have hi0 : i = 0 := by rw [hpi, if_neg hb0] at hpii; exact hpii.symm
            exact ⟨by omega, by omega, by omega, by omega, put _ (by omega)⟩
      have e51 : y.1 51 = v.1 51 := by rw [y2 51 (by decide), z2 51 (by decide), w2 51 (by decide)]
      exact keep (gv g) 0 y (by omega) hFy rfl rfl rfl (fun m yy p r1 r2 r3 => by rw [e51]; exact hTb m yy p r1 r2 r3) (fun x' z0 z1 => by omega)
  have rules : ∀ (m r : Nat) (v : uS), r + m = gr g → Fr v → v.1 51 = u.1 51 → (∀ r' : Int, 0 ≤ r' → r' < r → ∀ k : Nat, (k : Int) ≤ gl g r' → v.1 52 ((r' * 7 + k) * 41 + i) = cl (ff g lt pi T r' i k 0)) → K_114 (d + 5) 2 [.ref 36, iV i, iV (r : Int), .retAddr 0] [] v Q := by
    intro m
    induction m with
    | zero =>
      intro r v hr hF h51 h
      refine k_114_2 ?_
      rw [hF.1, c0, hF.2 6 (by decide), c2]
      refine ⟨sx_6, ⟨by omega, by omega⟩, ⟨by omega, by omega⟩, ?_⟩
      rw [if_neg (by omega)]
      have := ends (len - i.toNat) 1 v (Nat.le_refl _) (by omega) hF (fun m y p q1 q2 q3 => ?_) (fun r' r0 r1 k hk t ht => ?_)
      · exact this
      · rw [h51]
        rcases q3 with q | q
        · exact hTab q.1 m y p q1 q2 q.2.1 q.2.2
        · omega
      · have et : t = 0 := by omega
        rw [et, show i + ((0 : Nat) : Int) = i by omega]
        exact h r' r0 (by omega) k hk
    | succ m ih =>
      intro r v hr hF h51 h
      obtain ⟨x1, x2, x3, x4⟩ := g3 r (by omega) (by omega)
      refine k_114_2 ?_
      rw [hF.1, c0, hF.2 6 (by decide), c2]
      refine ⟨sx_6, ⟨by omega, by omega⟩, ⟨by omega, by omega⟩, ?_⟩
      rw [if_pos (by omega)]
      have inner : ∀ (n k : Nat) (w : uS), (k : Int) + n = gl g r + 1 → Fr w → w.1 51 = u.1 51 → (∀ r' : Int, 0 ≤ r' → ∀ k' : Nat, (k' : Int) ≤ gl g r' → (r' < r ∨ r' = r ∧ k' < k) → w.1 52 ((r' * 7 + k') * 41 + i) = cl (ff g lt pi T r' i k' 0)) → K_114 (d + 5) 15 [.ref 36, iV i, iV (r : Int), iV (k : Int)] [] w Q := by
        intro n
        induction n with
        | zero =>
          intro k w hk hFw w51 hw
          obtain ⟨y1, y2, y3⟩ := (frA w hFw).2.2.2.1 r (by omega) (by omega)
          refine k_114_15 ?_
          rw [hFw.1, c0, show w.1 (6 + 3) = w.1 9 from rfl, y2]
          refine ⟨sx_6, by omega, by omega, ⟨by omega, by omega⟩, ⟨by omega, by omega⟩, ?_⟩
          rw [if_pos (by omega)]
          have := ih (r + 1) w (by omega) hFw w51 (fun r' r0 r1 k' hk' => hw r' r0 k' hk' (by
            by_cases e : r' = r
            · rw [e] at hk'; exact Or.inr ⟨e, by omega⟩
            · exact Or.inl (by omega)))
          rw [Int.natCast_succ] at this
          exact this
        | succ n ihn =>
          intro k w hk hFw w51 hw
          obtain ⟨y1, y2, y3⟩ := (frA w hFw).2.2.2.1 r (by omega) (by omega)
          refine k_114_15 ?_
          rw [hFw.1, c0, show w.1 (6 + 3) = w.1 9 from rfl, y2]
          refine ⟨sx_6, by omega, by omega, ⟨by omega, by omega⟩, ⟨by omega, by omega⟩, ?_⟩
          rw [if_neg (by omega)]
          refine ⟨by omega, by omega, by omega, by omega, fun z ez => ?_⟩
          have e48 := (frP w hFw).2.1 r (by omega) (by omega) k (by omega)
          have := ihn (k + 1) z (by omega) ⟨by rw [ez, wr_2]; exact hFw.1, by rw [ez]; exact sb1_wr hFw.2 (by decide)⟩ (by rw [ez, wr_ne (by omega)]; exact w51) (fun r' r0 k' hk' hlt' => ?_)
          · rw [Int.natCast_succ] at this
            exact this
          · rw [ez, wr_uf]
            by_cases e : r' = r ∧ k' = k
            · rw [e.1, e.2, uf_eq, e48, ff_0 Tcv]
            · have := (g3 r' r0 (by omega)).2.2.1
              rw [uf_ne (by omega)]
              exact hw r' r0 k' hk' (by omega)
      exact inner (gl g r + 1).toNat 0 v (by omega) hF h51 (fun r' r0 k' hk' hlt' => h r' r0 (by omega) k' hk')
  exact e_114 (rules (gr g) 0 u (by omega) ⟨rfl, sb1_refl _ _⟩ rfl (fun r' r0 r1 => by omega))
