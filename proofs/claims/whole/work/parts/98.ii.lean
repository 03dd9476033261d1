/-! The other side: a stretch -/
theorem su_0 {f : Nat → Int} : ∀ k : Nat, (∀ i, i < k → f i = 0) → su f k = 0
  | 0, _ => rfl
  | k + 1, h => by
    simp only [su]
    rw [su_0 k (fun i hi => h i (by omega)), h k (by omega), sP_0 cv_0]
noncomputable def alT (g : Gm) (x y : Int) (r k : Nat) : Int := if pd (gh g r = x ∧ gy g r k = 100 + y) = true then prB (fun h => eS g (gy g r h)) k (gl g r).toNat else 0
theorem alT_cv (g : Gm) (x y : Int) (r k : Nat) : cv (alT g x y r k) := by
  unfold alT
  split
  · exact prB_cv (fun h => eS_cv g _) _
  · exact cv_0
noncomputable def alR (g : Gm) (x y : Int) (r : Nat) : Int := su (alT g x y r) (gl g r).toNat
theorem alR_cv (g : Gm) (x y : Int) (r : Nat) : cv (alR g x y r) := su_cv _ (fun _ _ => alT_cv g x y r _)
theorem al_eq (g : Gm) (x y : Int) : al g x y = su (alR g x y) (gr g) := rfl
set_option maxHeartbeats 1000000 in
theorem q_228 {d N : Nat} {u : uS} {g : Gm} {i b : Int} {lt : Int → Int → Prop} {pi : Int → Int} (hg : gK g) (hA : rA u g) (i0 : 0 ≤ i) (hN : 1 ≤ N) (hj : i + N ≤ 40) (hb : b = 0 ∨ b = 1) (hpii : pi i = i) (hlt : ∀ (t : Nat) (s : Int), 0 < t → t ≤ N → (lt (i + t) s ↔ b ≠ 0 ∨ u.1 273 (i + t - 1) = s)) (h273 : b = 0 → ∀ q : Int, 0 ≤ q → q < i + N → rI (u.1 273 q)) (hpi : ∀ p, pi p = if b = 0 then p else 0) (hem : ∀ x, iR (gv g) x → u.1 292 x = em g x) (hT : ∀ (m : Nat) (y p : Int), 1 ≤ m → m < N → iR (gv g) y → i ≤ p → p + m ≤ i + N → u.1 296 ((y * 41 + pi p) * 41 + pi p + m) = tT g lt pi m y (pi p)) : cV (d + 5) 228 [.ref 271, iV i, iV (i + N), iV b] u (fun u' => u'.2 = u.2 ∧ sb1 u u' [271, 293, 294, 295, 296, 297, 298, 299, 300] ∧ (∀ k : Int, k ≠ 33 → u'.1 271 k = u.1 271 k) ∧ (∀ k : Int, (∀ x : Int, 0 ≤ x → x < 10 → k ≠ (x * 41 + i) * 41 + i + N) → u'.1 296 k = u.1 296 k) ∧ ∀ x, iR (gv g) x → u'.1 296 ((x * 41 + i) * 41 + i + N) = tT g lt pi N x i) := by
  obtain ⟨g1, g2, g3, g4⟩ := id hg
  obtain ⟨a1, a2, a3, a4⟩ := id hA
  generalize hQQ : (fun u' : uS => u'.2 = u.2 ∧ sb1 u u' [271, 293, 294, 295, 296, 297, 298, 299, 300] ∧ (∀ k : Int, k ≠ 33 → u'.1 271 k = u.1 271 k) ∧ (∀ k : Int, (∀ x : Int, 0 ≤ x → x < 10 → k ≠ (x * 41 + i) * 41 + i + N) → u'.1 296 k = u.1 296 k) ∧ ∀ x, iR (gv g) x → u'.1 296 ((x * 41 + i) * 41 + i + N) = tT g lt pi N x i) = Q
  generalize hB : bs g lt pi (tT g lt pi) N i = B
  have hBcv : ∀ x, cv (B x) := fun x => by rw [← hB]; exact bs_cv tT_cv x
  generalize hbT : (fun (x : Int) (r : Nat) => if pd (gh g r = x) = true then fx g lt pi (tT g lt pi) r i N (gl g r).toNat N else 0) = bT
  have hbTcv : ∀ x r, cv (bT x r) := fun x r => by
    rw [← hbT]
    show cv (if _ then _ else _)
    split
    · exact fx_cv tT_cv _ _
    · exact cv_0
  have hBeq : ∀ x, B x = su (bT x) (gr g) := fun x => by rw [← hB, ← hbT]; rfl
  let Fr : uS → Prop := fun v => v.2 = u.2 ∧ sb1 u v [297, 298, 299, 300]
  have frA : ∀ v, Fr v → rA v g := fun v hv => rA_of hA (by rw [hv.2 271 (by decide)]) (by rw [hv.2 271 (by decide)]) (hv.2 _ (by decide)) (hv.2 _ (by decide)) (hv.2 _ (by decide)) (hv.2 _ (by decide))
  have frW : ∀ (v : uS) (b : Nat) (i c : Int), Fr v → b ∈ [297, 298, 299, 300] → Fr (wr v b i c) := fun v b i c hv hb => ⟨by rw [wr_2]; exact hv.1, sb1_wr hv.2 hb⟩
  -- which variables have trees there
  have there : ∀ (M : Nat) (v : uS), Fr v → (∀ x y, iR (gv g) x → iR (gv g) y → v.1 298 (10 * x + y) = al g x y) → (∀ k : Int, 0 ≤ k → k < 100 → cv (v.1 298 k)) → (∀ x, iR (gv g) x → v.1 299 x = B x) → (∀ x : Int, 0 ≤ x → x < 10 → v.1 300 x = 0 ∨ v.1 300 x = 1) → (∀ x, iR (gv g) x → v.1 300 x ≠ 0 → th g B x) → gv g < ct (fun x => decide (v.1 300 (x : Int) ≠ 0)) (gv g) + M → K_228 (d + 4) 273 [.ref 271, iV i, iV (i + N), iV b, iV 1, .retAddr 0, .retAddr 0, .retAddr 0, .retAddr 0, .retAddr 0, .retAddr 0] [] v Q := by
    intro M
    induction M with
    | zero =>
      intro v _ _ _ _ _ _ h
      have := ct_le (fun x => decide (v.1 300 (x : Int) ≠ 0)) (gv g)
      omega
    | succ M ih =>
      intro v0 hF0 h98 h98c h99 h010 hsnd0 hM
      refine k_228_273 ⟨by decide, ?_⟩
      rw [if_neg (by decide)]
      -- one sweep
      have sweep : ∀ (n : Nat) (x l : Int) (v : uS), 0 ≤ x → x + n = gv g → Fr v → v.1 298 = v0.1 298 → v.1 299 = v0.1 299 → (∀ x : Int, 0 ≤ x → x < 10 → v.1 300 x = 0 ∨ v.1 300 x = 1) → (∀ x, iR (gv g) x → v.1 300 x ≠ 0 → th g B x) → ((l = 0 ∧ v.1 300 = v0.1 300 ∧ ∀ x', 0 ≤ x' → x' < x → (B x' ≠ 0 ∨ ∃ y, iR (gv g) y ∧ al g x' y ≠ 0 ∧ v.1 300 y ≠ 0) → v.1 300 x' ≠ 0) ∨ (l = 1 ∧ ct (fun x => decide (v0.1 300 (x : Int) ≠ 0)) (gv g) < ct (fun x => decide (v.1 300 (x : Int) ≠ 0)) (gv g))) → K_228 (d + 4) 284 [.ref 271, iV i, iV (i + N), iV b, iV l, iV x, .retAddr 0, .retAddr 0, .retAddr 0, .retAddr 0, .retAddr 0] [] v Q := by
        intro n
        induction n with
        | zero =>
          intro x l v x0 xe hF e98 e99 h01 hsnd hl
          obtain ⟨b1, b2, b3, b4⟩ := frA v hF
          refine k_228_284 ⟨⟨by omega, by omega⟩, ?_⟩
          rw [b1]
          refine ⟨⟨by omega, by omega⟩, ?_⟩
          rw [if_neg (by omega)]
          rcases hl with ⟨el, e300, hcl⟩ | ⟨el, hct⟩
          · rw [el]
            refine k_228_273 ⟨by decide, ?_⟩
            rw [if_pos rfl]
            have hth : ∀ x, iR (gv g) x → (v.1 300 x ≠ 0 ↔ th g B x) := fun z hz => by
              refine ⟨hsnd z hz, fun ⟨c, hc, h1, h2⟩ => ?_⟩
              have hc0 : v.1 300 c ≠ 0 := hcl c hc.1 (by have := hc.2; omega) (Or.inl h2)
              rcases h1 with e | e
              · rw [← e]; exact hc0
              · refine (tcl_tc (gv g) (uR g)).2.2 (fun x y => v.1 300 y ≠ 0 → v.1 300 x ≠ 0) (fun x y hx hy h hy' => hcl x hx.1 (by have := hx.2; omega) (Or.inr ⟨y, hy, h, hy'⟩)) (fun x y z _ _ _ h1 h2 h3 => h1 (h2 h3)) z c hz hc e hc0
            have eA : i = if b = 0 then i else 0 := by rw [← hpi i]; exact hpii.symm
            have eC : i + N = if b = 0 then i + N else i + N - i := by
              split
              · rfl
              · next hb0 =>
                rw [if_neg hb0] at eA
                omega
            refine cV.mono (q_232 (d := d + 2) (A := i) (C := i + N) (B := B) hg (frA v hF) hBcv hb eA eC i0 (by omega) (by omega) hj (by rw [e98]; exact h98) (by rw [e98]; exact h98c) (by rw [e99]; exact h99) hth h01) (by omega) (fun w ⟨w1, w2, w3, w4, w5⟩ => ?_)
            rw [← hQQ]
            refine ⟨w1.trans hF.1, fun c hc => ?_, fun k hk => ?_, fun k hk => ?_, fun x hx => ?_⟩
            · simp only [List.mem_cons, List.not_mem_nil, or_false, not_or] at hc
              refine (w2 c ?_).trans (hF.2 c ?_) <;> simp only [List.mem_cons, List.not_mem_nil, or_false] <;> omega
            · rw [w3 k hk, hF.2 271 (by decide)]
            · rw [w4 k (fun x x0 x1 => by have := hk x x0 x1; omega), hF.2 296 (by decide)]
            · have := w5 x hx
              rw [show (x * 41 + i) * 41 + i + N = (x * 41 + i) * 41 + (i + N) by omega, this, tT_eq, hB]
          · rw [el]
            refine ih v hF (by rw [e98]; exact h98) (by rw [e98]; exact h98c) (by rw [e99]; exact h99) h01 hsnd (by omega)
        | succ n ihn =>
          intro x l v x0 xe hF e98 e99 h01 hsnd hl
          obtain ⟨b1, b2, b3, b4⟩ := frA v hF
          have hxR : iR (gv g) x := ⟨x0, by omega⟩
          have hl01 : l = 0 ∨ l = 1 := by rcases hl with z | z; exact Or.inl z.1; exact Or.inr z.1
          refine k_228_284 ⟨⟨by omega, by omega⟩, ?_⟩
          rw [b1]
          refine ⟨⟨by omega, by omega⟩, ?_⟩
          rw [if_pos (by omega), e99, h99 x hxR]
          refine ⟨x0, by omega, cv_L (hBcv x), ?_⟩
          have hBn := cv_n (hBcv x)
          -- the flag is written
          have fin : ∀ c : Int, (c = 0 ∨ c = 1) → (c ≠ 0 → th g B x) → (c = 0 → ¬ (B x ≠ 0 ∨ ∃ y, iR (gv g) y ∧ al g x y ≠ 0 ∧ v.1 300 y ≠ 0)) → ∀ l' f' : Int, f' = (if v.1 300 x = 0 then c else 1) → l' = (if l = 1 ∨ (c = 1 ∧ v.1 300 x = 0) then 1 else 0) → ∀ w : uS, w = wr v 300 x f' → K_228 (d + 4) 284 [.ref 271, iV i, iV (i + N), iV b, iV l', iV (x + 1), .retAddr 0, .retAddr 0, .retAddr 0, .retAddr 0, .retAddr 0] [] w Q := by
            intro c hc01 hcs hcc l' f' hf' hl' w ew
            have w300 : w.1 300 = uf (v.1 300) x f' := by rw [ew, wr_uf]
            have f01 : f' = 0 ∨ f' = 1 := by rw [hf']; split; exact hc01; exact Or.inr rfl
            refine ihn (x + 1) l' w (by omega) (by omega) (by rw [ew]; exact frW v 300 _ _ hF (by decide)) (by rw [ew, wr_ne (by omega)]; exact e98) (by rw [ew, wr_ne (by omega)]; exact e99) (fun z z0 z1 => ?_) (fun z hz hne => ?_) ?_
            · rw [w300]
              by_cases ez : z = x
              · rw [ez, uf_eq]; exact f01
              · rw [uf_ne ez]; exact h01 z z0 z1
            · rw [w300] at hne
              by_cases ez : z = x
              · rw [ez, uf_eq, hf'] at hne
                rw [ez]
                split at hne
                · exact hcs hne
                · next h => exact hsnd x hxR h
              · rw [uf_ne ez] at hne; exact hsnd z hz hne
            · by_cases hnew : c = 1 ∧ v.1 300 x = 0
              · rw [if_pos (Or.inr hnew)] at hl'
                have hup := ct_upd (p := fun x => decide (v.1 300 (x : Int) ≠ 0)) (p' := fun x => decide (w.1 300 (x : Int) ≠ 0)) (j := x.toNat) (gv g) (by omega) (fun i hi hne => by
                  show decide (w.1 300 (i : Int) ≠ 0) = decide (v.1 300 (i : Int) ≠ 0)
                  rw [w300, uf_ne (by omega)]) (by
                  show decide (v.1 300 ((x.toNat : Nat) : Int) ≠ 0) = false
                  rw [show ((x.toNat : Nat) : Int) = x by omega, hnew.2]
                  decide) (by
                  show decide (w.1 300 ((x.toNat : Nat) : Int) ≠ 0) = true
                  rw [show ((x.toNat : Nat) : Int) = x by omega, w300, uf_eq, hf', if_pos hnew.2, hnew.1]
                  decide)
                refine Or.inr ⟨hl', ?_⟩
                rcases hl with ⟨-, e300, -⟩ | ⟨-, hct⟩
                · rw [← e300]; omega
                · omega
              · have hsame : w.1 300 = v.1 300 := by
                  rw [w300]
                  funext z
                  by_cases ez : z = x
                  · rw [ez, uf_eq, hf']
                    split
                    · next h => rcases hc01 with e | e
                                · rw [e, h]
                                · exact absurd ⟨e, h⟩ hnew
                    · next h => rcases h01 x x0 (by omega) with e | e
                                · exact absurd e h
                                · exact e.symm
                  · rw [uf_ne ez]
                rcases hl with ⟨el, e300, hcl⟩ | ⟨el, hct⟩
                · rw [if_neg (fun h => by rcases h with h | h; omega; exact hnew h)] at hl'
                  refine Or.inl ⟨hl', hsame.trans e300, fun x' z0 z1 h => ?_⟩
                  rw [hsame] at h ⊢
                  by_cases ex : x' = x
                  · rw [ex] at h ⊢
                    intro h0
                    rcases hc01 with e | e
                    · exact hcc e h
                    · exact hnew ⟨e, h0⟩
                  · exact hcl x' z0 (by omega) h
                · rw [if_pos (Or.inl el)] at hl'
                  exact Or.inr ⟨hl', by rw [hsame]; exact hct⟩
          have ys : ∀ (n' : Nat) (y c : Int), 0 ≤ y → y + n' = gv g → (c = 0 ∨ c = 1) → (c ≠ 0 → th g B x) → (c = 0 → ¬ (B x ≠ 0 ∨ ∃ y', iR (gv g) y' ∧ y' < y ∧ al g x y' ≠ 0 ∧ v.1 300 y' ≠ 0)) → K_228 (d + 4) 315 [.ref 271, iV i, iV (i + N), iV b, iV l, iV x, iV c, iV y, .retAddr 0, .retAddr 0, .retAddr 0] [] v Q := by
            intro n'
            induction n' with
            | zero =>
              intro y c y0 ye hc01 hcs hcc
              have fin' := fin c hc01 hcs (fun h0 h => hcc h0 (by
                rcases h with h | ⟨y', q1, q2, q3⟩
                · exact Or.inl h
                · exact Or.inr ⟨y', q1, by have := q1.2; omega, q2, q3⟩))
              have hr := h01 x x0 (by omega)
              have hrI : rI (v.1 300 x) := by rcases hr with z | z <;> rw [z] <;> decide
              have hcI : rI c := by rcases hc01 with z | z <;> rw [z] <;> decide
              refine k_228_315 ⟨⟨by omega, by omega⟩, ?_⟩
              rw [b1]
              refine ⟨⟨by omega, by omega⟩, ?_⟩
              rw [if_neg (by omega)]
              refine ⟨by rcases hl01 with z | z <;> rw [z] <;> decide, ?_⟩
              by_cases hl0 : l = 0
              · rw [if_pos hl0]
                refine ⟨hcI, ?_⟩
                by_cases hc0 : c = 0
                · rw [if_pos hc0]
                  refine ⟨x0, by omega, hrI, ?_⟩
                  by_cases h0 : v.1 300 x = 0
                  · rw [if_pos h0]
                    exact fin' 0 0 (by rw [if_pos h0, hc0]) (by rw [if_neg (by omega)])
                  · rw [if_neg h0]
                    exact fin' 0 1 (by rw [if_neg h0]) (by rw [if_neg (by omega)])
                · rw [if_neg hc0]
                  have hc1 : c = 1 := by omega
                  refine ⟨x0, by omega, hrI, ?_⟩
                  by_cases h0 : v.1 300 x = 0
                  · rw [if_pos h0]
                    exact fin' 1 1 (by rw [if_pos h0, hc1]) (by rw [if_pos (Or.inr ⟨hc1, h0⟩)])
                  · rw [if_neg h0]
                    exact fin' 0 1 (by rw [if_neg h0]) (by rw [if_neg (by omega)])
              · rw [if_neg hl0]
                have hl1 : l = 1 := by omega
                refine ⟨x0, by omega, hrI, ?_⟩
                by_cases h0 : v.1 300 x = 0
                · rw [if_pos h0]
                  refine ⟨hcI, ?_⟩
                  by_cases hc0 : c = 0
                  · rw [if_pos hc0]
                    exact fin' 1 0 (by rw [if_pos h0, hc0]) (by rw [if_pos (Or.inl hl1)])
                  · rw [if_neg hc0]
                    exact fin' 1 1 (by rw [if_pos h0]; omega) (by rw [if_pos (Or.inl hl1)])
                · rw [if_neg h0]
                  exact fin' 1 1 (by rw [if_neg h0]) (by rw [if_pos (Or.inl hl1)])
            | succ n' ihn' =>
              intro y c y0 ye hc01 hcs hcc
              have hyR : iR (gv g) y := ⟨y0, by omega⟩
              refine k_228_315 ⟨⟨by omega, by omega⟩, ?_⟩
              rw [b1]
              refine ⟨⟨by omega, by omega⟩, ?_⟩
              rw [if_pos (by omega)]
              refine ⟨by rcases hc01 with z | z <;> rw [z] <;> decide, ?_⟩
              by_cases hc0 : c = 0
              · rw [if_pos hc0, e98, h98 x y hxR hyR]
                have haln := cv_n (al_cv g x y)
                refine ⟨by omega, by omega, cv_L (al_cv g x y), ?_⟩
                have no : ¬ (al g x y ≠ 0 ∧ v.1 300 y ≠ 0) → K_228 (d + 4) 315 [.ref 271, iV i, iV (i + N), iV b, iV l, iV x, iV 0, iV (y + 1), .retAddr 0, .retAddr 0, .retAddr 0] [] v Q := by
                  intro hn
                  refine ihn' (y + 1) 0 (by omega) (by omega) (Or.inl rfl) (fun h => absurd rfl h) (fun _ h => hcc hc0 ?_)
                  rcases h with h | ⟨y', q1, q2, q3, q4⟩
                  · exact Or.inl h
                  · by_cases ey : y' = y
                    · rw [ey] at q3 q4; exact absurd ⟨q3, q4⟩ hn
                    · exact Or.inr ⟨y', q1, by omega, q3, q4⟩
                by_cases ha : 0 < al g x y
                · rw [if_pos ha]
                  refine ⟨y0, by omega, by rcases h01 y y0 (by omega) with z | z <;> rw [z] <;> decide, ?_⟩
                  by_cases h0 : v.1 300 y = 0
                  · rw [if_pos h0]
                    exact no (fun h => h.2 h0)
                  · rw [if_neg h0]
                    refine ihn' (y + 1) 1 (by omega) (by omega) (Or.inr rfl) (fun _ => ?_) (fun h => absurd h (by decide))
                    exact th_up hxR hyR ((tcl_tc _ _).1 x y hxR hyR (fun h => by omega)) (hsnd y hyR h0)
                · rw [if_neg ha]
                  exact no (fun h => by omega)
              · rw [if_neg hc0]
                exact ihn' (y + 1) 1 (by omega) (by omega) (Or.inr rfl) (fun _ => hcs hc0) (fun h => absurd h (by decide))
          by_cases hB0 : 0 < B x
          · rw [if_pos hB0]
            exact ys (gv g) 0 1 (Int.le_refl 0) (by omega) (Or.inr rfl) (fun _ => ⟨x, hxR, Or.inl rfl, by omega⟩) (fun h => absurd h (by decide))
          · rw [if_neg hB0]
            refine ys (gv g) 0 0 (Int.le_refl 0) (by omega) (Or.inl rfl) (fun h => absurd rfl h) (fun _ h => ?_)
            rcases h with h | ⟨y', q1, q2, -⟩
            · omega
            · have := q1.1
              omega
      exact sweep (gv g) 0 0 v0 (Int.le_refl 0) (by omega) hF0 rfl rfl h010 hsnd0 (Or.inl ⟨rfl, rfl, fun x' z0 z1 => by omega⟩)
  -- the rules
  have rules : ∀ (n : Nat) (r : Nat) (v : uS), r + n = gr g → Fr v → (∀ x y, 0 ≤ x → x < 10 → 0 ≤ y → y < 10 → v.1 298 (10 * x + y) = su (alR g x y) r) → (∀ x, 0 ≤ x → x < 10 → v.1 299 x = su (bT x) r) → (∀ x : Int, 0 ≤ x → x < 10 → v.1 300 x = 0) → K_228 (d + 4) 59 [.ref 271, iV i, iV (i + N), iV b, iV (r : Int), .retAddr 0, .retAddr 0, .retAddr 0, .retAddr 0, .retAddr 0, .retAddr 0] [] v Q := by
    intro n
    induction n with
    | zero =>
      intro r v hr hF h98 h99 h300
      obtain ⟨b1, b2, b3, b4⟩ := frA v hF
      refine k_228_59 ⟨⟨by omega, by omega⟩, ?_⟩
      rw [b2]
      refine ⟨⟨by omega, by omega⟩, ?_⟩
      rw [if_neg (by omega)]
      have er : r = gr g := by omega
      refine there (gv g + 1) v hF (fun x y hx hy => ?_) (fun k k0 k1 => ?_) (fun x hx => ?_) (fun x x0 x1 => Or.inl (h300 x x0 x1)) (fun x hx h => absurd (h300 x hx.1 (by have := hx.2; omega)) h) (by omega)
      · rw [h98 x y hx.1 (by have := hx.2; omega) hy.1 (by have := hy.2; omega), er]
        exact (al_eq g x y).symm
      · have := h98 (k / 10) (k % 10) (by omega) (by omega) (by omega) (by omega)
        rw [show 10 * (k / 10) + k % 10 = k by omega] at this
        rw [this]
        exact su_cv _ (fun _ _ => alR_cv g _ _ _)
      · rw [h99 x hx.1 (by have := hx.2; omega), er, ← hBeq]
    | succ n ih =>
      intro r v hr hF h98 h99 h300
      obtain ⟨b1, b2, b3, b4⟩ := frA v hF
      obtain ⟨x1, x2, x3, x4⟩ := g3 r (by omega) (by omega)
      obtain ⟨y1, y2, y3⟩ := b3 r (by omega) (by omega)
      have x10 := x1.1
      have x11 := x1.2
      refine k_228_59 ⟨⟨by omega, by omega⟩, ?_⟩
      rw [b2]
      refine ⟨⟨by omega, by omega⟩, ?_⟩
      rw [if_pos (by omega), y1]
      refine ⟨by omega, by omega, by omega, by omega, ?_⟩
      refine cL.mono (q_229 (d := d + 1) (g := g) (r := (r : Int)) (i := i) (b := b) (N := N) (lt := lt) (pi := pi) (tt := tT g lt pi) hg (frA v hF) (by omega) (by omega) i0 hN hj hb (by rw [hF.2 273 (by decide)]; exact hlt) (by rw [hF.2 273 (by decide)]; exact h273) hpi tT_cv (by rw [hF.2 292 (by decide)]; exact hem) (by rw [hF.2 296 (by decide)]; exact hT)) (by omega) (fun c w ⟨w1, w2, w3⟩ => ?_)
      have hw99 : w.1 299 = v.1 299 := w2 _ (by decide)
      have hccv : cv c := by rw [w3]; exact fx_cv tT_cv _ _
      have h9cv : cv (v.1 299 (gh g r)) := by rw [h99 _ x10 (by omega)]; exact su_cv _ (fun _ _ => hbTcv _ _)
      refine ⟨h9cv, hccv, fun w' ew => ?_⟩
      have hFw : Fr w := ⟨w1.trans hF.1, fun b hb => (w2 b (fun hh => hb (by simp only [List.mem_cons, List.not_mem_nil, or_false] at hh ⊢; omega))).trans (hF.2 b hb)⟩
      have hFw' : Fr w' := by rw [ew]; exact frW w 299 _ _ hFw (by decide)
      have w'99 : ∀ x, 0 ≤ x → x < 10 → w'.1 299 x = su (bT x) (r + 1) := fun x z0 z1 => by
        rw [ew, wr_uf, hw99]
        show _ = sP (su (bT x) r) (bT x r)
        by_cases ex : x = gh g r
        · rw [← ex, uf_eq, h99 x z0 z1, w3]
          congr 1
          rw [← hbT]
          show _ = if _ then _ else _
          rw [if_pos (pd_t.mpr ex.symm)]
        · rw [uf_ne ex, h99 x z0 z1]
          have : bT x r = 0 := by
            rw [← hbT]
            exact if_neg (fun h => ex (pd_t.mp h).symm)
          rw [this, sP_0 (su_cv _ (fun _ _ => hbTcv _ _))]
      have w'98 : w'.1 298 = v.1 298 := by rw [ew, wr_ne (by omega)]; exact w2 _ (by decide)
      have w'300 : w'.1 300 = v.1 300 := by rw [ew, wr_ne (by omega)]; exact w2 _ (by decide)
      -- the symbols
      have syms : ∀ (n' k : Nat) (z : uS), (k : Int) + n' = gl g r → Fr z → z.1 299 = w'.1 299 → z.1 300 = w'.1 300 → (∀ x y, 0 ≤ x → x < 10 → 0 ≤ y → y < 10 → z.1 298 (10 * x + y) = sP (su (alR g x y) r) (su (alT g x y r) k)) → K_228 (d + 4) 106 [.ref 271, iV i, iV (i + N), iV b, iV (r : Int), iV (gh g r), iV (k : Int), .retAddr 0, .retAddr 0, .retAddr 0, .retAddr 0] [] z Q := by
        intro n'
        induction n' with
        | zero =>
          intro k z hk hFz z99 z300 z98
          obtain ⟨c1, c2, c3, c4⟩ := frA z hFz
          obtain ⟨d1, d2, d3⟩ := c3 r (by omega) (by omega)
          refine k_228_106 ⟨by omega, by omega, ⟨by omega, by omega⟩, ?_⟩
          rw [d2]
          refine ⟨⟨by omega, by omega⟩, ?_⟩
          rw [if_neg (by omega)]
          have := ih (r + 1) z (by omega) hFz (fun x y p1 p2 p3 p4 => ?_) (fun x p1 p2 => by rw [z99]; exact w'99 x p1 p2) (fun x p1 p2 => by rw [z300, w'300]; exact h300 x p1 p2)
          · rw [Int.natCast_succ] at this
            exact this
          · rw [z98 x y p1 p2 p3 p4, show k = (gl g r).toNat by omega]
            rfl
        | succ n' ihn' =>
          intro k z hk hFz z99 z300 z98
          obtain ⟨c1, c2, c3, c4⟩ := frA z hFz
          obtain ⟨d1, d2, d3⟩ := c3 r (by omega) (by omega)
          refine k_228_106 ⟨by omega, by omega, ⟨by omega, by omega⟩, ?_⟩
          rw [d2]
          refine ⟨⟨by omega, by omega⟩, ?_⟩
          rw [if_pos (by omega), d3 k (by omega) (by omega)]
          have hs := x4 k (by omega) (by omega)
          have hsI : rI (gy g r k) := by rcases hs with q | q <;> exact ⟨by omega, by omega⟩
          refine ⟨by omega, by omega, hsI, ?_⟩
          have cvA : ∀ x y, cv (su (alR g x y) r) := fun x y => su_cv _ (fun _ _ => alR_cv g _ _ _)
          have cvT : ∀ x y (m : Nat), cv (su (alT g x y r) m) := fun x y m => su_cv _ (fun _ _ => alT_cv g _ _ _ _)
          by_cases hlt' : gy g r k < 100
          · rw [if_pos hlt']
            have := ihn' (k + 1) z (by omega) hFz z99 z300 (fun x y p1 p2 p3 p4 => ?_)
            · rw [Int.natCast_succ] at this
              exact this
            · have : alT g x y r k = 0 := if_neg (fun h => by have := (pd_t.mp h).2; omega)
              simp only [su]
              rw [this, sP_0 (cvT x y k)]
              exact z98 x y p1 p2 p3 p4
          · rw [if_neg hlt']
            have hs2 : 100 ≤ gy g r k ∧ gy g r k < 100 + gv g := by rcases hs with q | q <;> omega
            have prods : ∀ (n2 h : Nat), (h : Int) + n2 = gl g r → K_228 (d + 4) 142 [.ref 271, iV i, iV (i + N), iV b, iV (r : Int), iV (gh g r), iV (k : Int), lV (prB (fun h => eS g (gy g r h)) k h), .retAddr 0, iV (h : Int), .retAddr 0] [] z Q := by
              intro n2
              induction n2 with
              | zero =>
                intro h hh
                refine k_228_142 ⟨by omega, by omega, ⟨by omega, by omega⟩, ?_⟩
                rw [d2]
                refine ⟨⟨by omega, by omega⟩, ?_⟩
                rw [if_neg (by omega), d3 k (by omega) (by omega)]
                have eix : 10 * gh g r + gy g r k - 100 = 10 * gh g r + (gy g r k - 100) := by omega
                rw [eix, z98 (gh g r) (gy g r k - 100) x10 (by omega) (by omega) (by omega)]
                refine ⟨by omega, by omega, by omega, by omega, cv_P (cvA _ _) (cvT _ _ _), prB_cv (fun h => eS_cv g _) _, fun z' ez => ?_⟩
                have := ihn' (k + 1) z' (by omega) (by rw [ez]; exact frW z 298 _ _ hFz (by decide)) (by rw [ez, wr_ne (by omega)]; exact z99) (by rw [ez, wr_ne (by omega)]; exact z300) (fun x y p1 p2 p3 p4 => ?_)
                · rw [Int.natCast_succ] at this
                  exact this
                · rw [ez, wr_uf]
                  simp only [su]
                  by_cases exy : x = gh g r ∧ y = gy g r k - 100
                  · rw [exy.1, exy.2, uf_eq]
                    have : alT g (gh g r) (gy g r k - 100) r k = prB (fun h => eS g (gy g r h)) k h := by
                      unfold alT
                      rw [if_pos (pd_t.mpr ⟨rfl, by omega⟩), show (gl g r).toNat = h by omega]
                    rw [this, ← sP_assoc (cvA _ _) (cvT _ _ _) (prB_cv (fun h => eS_cv g _) _)]
                  · rw [uf_ne (fun h => exy (by omega))]
                    have : alT g x y r k = 0 := if_neg (fun h => by have := pd_t.mp h; omega)
                    rw [this, sP_0 (cvT x y k)]
                    exact z98 x y p1 p2 p3 p4
              | succ n2 ihn2 =>
                intro h hh
                refine k_228_142 ⟨by omega, by omega, ⟨by omega, by omega⟩, ?_⟩
                rw [d2]
                refine ⟨⟨by omega, by omega⟩, ?_⟩
                rw [if_pos (by omega), d3 h (by omega) (by omega)]
                have hs3 := x4 h (by omega) (by omega)
                refine ⟨by omega, by omega, ⟨by omega, by omega⟩, ?_⟩
                have := ihn2 (h + 1) (by omega)
                simp only [prB] at this
                rw [Int.natCast_succ] at this
                by_cases ehk : (h : Int) = k
                · rw [if_pos ehk]
                  rw [if_pos (by omega)] at this
                  exact this
                · rw [if_neg ehk]
                  rw [if_neg (by omega)] at this
                  refine ⟨by rcases hs3 with q | q <;> exact ⟨by omega, by omega⟩, ?_⟩
                  by_cases hl3 : gy g r h < 100
                  · rw [if_pos hl3]
                    have e0 : eS g (gy g r h) = 0 := if_pos hl3
                    rw [e0, sT_0] at this
                    exact this
                  · rw [if_neg hl3]
                    have hy3 : iR (gv g) (gy g r h - 100) := by
                      rcases hs3 with q | q
                      · omega
                      · exact ⟨by omega, by omega⟩
                    have e0 : eS g (gy g r h) = em g (gy g r h - 100) := if_neg hl3
                    rw [e0] at this
                    have e92 : z.1 292 (gy g r h - 100) = em g (gy g r h - 100) := by rw [hFz.2 292 (by decide)]; exact hem _ hy3
                    rw [e92]
                    have hq0 := hy3.1
                    have hq1 := hy3.2
                    exact ⟨by omega, by omega, prB_cv (fun h => eS_cv g _) _, em_cv g _, this⟩
            exact prods (gl g r).toNat 0 (by omega)
      refine syms (gl g r).toNat 0 w' (by omega) hFw' rfl rfl (fun x y p1 p2 p3 p4 => ?_)
      rw [w'98, h98 x y p1 p2 p3 p4]
      show _ = sP (su (alR g x y) r) 0
      rw [sP_0 (su_cv _ (fun _ _ => alR_cv g _ _ _))]
  have clear2 : ∀ (n : Nat) (x : Int) (v : uS), 0 ≤ x → x + n = 10 → Fr v → (∀ k : Int, 0 ≤ k → k < 100 → v.1 298 k = 0) → (∀ x' : Int, 0 ≤ x' → x' < x → v.1 299 x' = 0 ∧ v.1 300 x' = 0) → K_228 (d + 4) 27 [.ref 271, iV i, iV (i + N), iV b, iV x, .retAddr 0, .retAddr 0, .retAddr 0, .retAddr 0, .retAddr 0, .retAddr 0] [] v Q := by
    intro n
    induction n with
    | zero =>
      intro x v x0 xe hF h98 h9
      refine k_228_27 ⟨⟨by omega, by omega⟩, ?_⟩
      rw [if_neg (by omega)]
      refine rules (gr g) 0 v (by omega) hF (fun x y p1 p2 p3 p4 => ?_) (fun x p1 p2 => (h9 x p1 (by omega)).1) (fun x p1 p2 => (h9 x p1 (by omega)).2)
      rw [h98 _ (by omega) (by omega)]
      rfl
    | succ n ih =>
      intro x v x0 xe hF h98 h9
      refine k_228_27 ⟨⟨by omega, by omega⟩, ?_⟩
      rw [if_pos (by omega)]
      refine ⟨x0, fun w e w' e' => ih (x + 1) w' (by omega) (by omega) (by rw [e', e]; exact frW _ 300 _ _ (frW v 299 _ _ hF (by decide)) (by decide)) (by rw [e', wr_ne (by omega), e, wr_ne (by omega)]; exact h98) (fun x' z0 z1 => ?_)⟩
      rw [e', wr_ne (by omega), wr_uf, e, wr_uf, wr_ne (by omega)]
      by_cases ex : x' = x
      · rw [ex, uf_eq, uf_eq]; exact ⟨rfl, rfl⟩
      · rw [uf_ne ex, uf_ne ex]; exact h9 x' z0 (by omega)
  have clear1 : ∀ (n : Nat) (k : Int) (v : uS), 0 ≤ k → k + n = 100 → Fr v → (∀ k' : Int, 0 ≤ k' → k' < k → v.1 298 k' = 0) → K_228 (d + 4) 3 [.ref 271, iV i, iV (i + N), iV b, iV k, .retAddr 0, .retAddr 0, .retAddr 0, .retAddr 0, .retAddr 0, .retAddr 0] [] v Q := by
    intro n
    induction n with
    | zero =>
      intro k v k0 ke hF h98
      refine k_228_3 ⟨⟨by omega, by omega⟩, ?_⟩
      rw [if_neg (by omega)]
      exact clear2 10 0 v (Int.le_refl 0) (by omega) hF (fun k' z0 z1 => h98 k' z0 (by omega)) (fun x' z0 z1 => by omega)
    | succ n ih =>
      intro k v k0 ke hF h98
      refine k_228_3 ⟨⟨by omega, by omega⟩, ?_⟩
      rw [if_pos (by omega)]
      refine ⟨k0, fun w e => ih (k + 1) w (by omega) (by omega) (by rw [e]; exact frW v 298 _ _ hF (by decide)) (fun k' z0 z1 => ?_)⟩
      rw [e, wr_uf]
      by_cases ek : k' = k
      · rw [ek, uf_eq]
      · rw [uf_ne ek]; exact h98 k' z0 (by omega)
  exact e_228 (clear1 100 0 u (Int.le_refl 0) (by omega) ⟨rfl, sb1_refl _ _⟩ (fun k' z0 z1 => by omega))
