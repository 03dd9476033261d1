/-! goAlong: the ways through a rule from a state on -/
theorem p_272 {d : Nat} {u : uS} {i n h lo : Int} {W1 W2 : Int → Int → Prop} (i0 : 0 ≤ i) (i1 : i < 280) (b1 : Bst W1 (u.1 328 i) (u.1 329 i) (u.1 330 i)) (b2 : Bst W2 n h lo) (hn : n ≠ 6000000000000000000) : cV (d + 2) 272 [.ref 271, iV i, lV n, iV h, iV lo] u (fun u' => u'.2 = u.2 ∧ sb1 u u' [328, 329, 330] ∧ (∀ j, j ≠ i → u'.1 328 j = u.1 328 j ∧ u'.1 329 j = u.1 329 j ∧ u'.1 330 j = u.1 330 j) ∧ Bst (fun c g => W1 c g ∨ W2 c g) (u'.1 328 i) (u'.1 329 i) (u'.1 330 i)) := by
  have r1 := hR_I b1.2.2.2.1
  have r2 := hR_I b2.2.2.2.1
  have r3 := lR_L b1.2.1
  have r4 := lR_L b2.2.1
  have r5 := hR_I b1.2.2.1
  have r6 := hR_I b2.2.2.1
  have key : ∀ v : uS, v = wr u 330 i (min lo (u.1 330 i)) → ((rL n) ∧ ((rL (v.1 328 i)) ∧ (if n < v.1 328 i then (∀ u11 : uS, u11 = wr v 328 i n → (∀ u13 : uS, u13 = wr u11 329 i h → (u13.2 = u.2 ∧ sb1 u u13 [328, 329, 330] ∧ (∀ j, j ≠ i → u13.1 328 j = u.1 328 j ∧ u13.1 329 j = u.1 329 j ∧ u13.1 330 j = u.1 330 j) ∧ Bst (fun c g => W1 c g ∨ W2 c g) (u13.1 328 i) (u13.1 329 i) (u13.1 330 i)))) else (if n = v.1 328 i then ((rI h) ∧ ((rI (v.1 329 i)) ∧ (if h < v.1 329 i then (∀ u19 : uS, u19 = wr v 328 i n → (∀ u21 : uS, u21 = wr u19 329 i h → (u21.2 = u.2 ∧ sb1 u u21 [328, 329, 330] ∧ (∀ j, j ≠ i → u21.1 328 j = u.1 328 j ∧ u21.1 329 j = u.1 329 j ∧ u21.1 330 j = u.1 330 j) ∧ Bst (fun c g => W1 c g ∨ W2 c g) (u21.1 328 i) (u21.1 329 i) (u21.1 330 i)))) else (v.2 = u.2 ∧ sb1 u v [328, 329, 330] ∧ (∀ j, j ≠ i → v.1 328 j = u.1 328 j ∧ v.1 329 j = u.1 329 j ∧ v.1 330 j = u.1 330 j) ∧ Bst (fun c g => W1 c g ∨ W2 c g) (v.1 328 i) (v.1 329 i) (v.1 330 i))))) else (v.2 = u.2 ∧ sb1 u v [328, 329, 330] ∧ (∀ j, j ≠ i → v.1 328 j = u.1 328 j ∧ v.1 329 j = u.1 329 j ∧ v.1 330 j = u.1 330 j) ∧ Bst (fun c g => W1 c g ∨ W2 c g) (v.1 328 i) (v.1 329 i) (v.1 330 i)))))) := by
    intro v ev
    have v8 : v.1 328 = u.1 328 := by rw [ev, wr_ne (by omega)]
    have v9 : v.1 329 = u.1 329 := by rw [ev, wr_ne (by omega)]
    have v0 : v.1 330 = uf (u.1 330) i (min lo (u.1 330 i)) := by rw [ev, wr_uf]
    have sv : sb1 u v [328, 329, 330] := by rw [ev]; exact sb1_wr (sb1_refl _ _) (by simp)
    have rv : v.2 = u.2 := by rw [ev]; rfl
    have take : ∀ w1 : uS, w1 = wr v 328 i n → ∀ w : uS, w = wr w1 329 i h → (n < u.1 328 i ∨ n = u.1 328 i ∧ h < u.1 329 i) → (w.2 = u.2 ∧ sb1 u w [328, 329, 330] ∧ (∀ j, j ≠ i → w.1 328 j = u.1 328 j ∧ w.1 329 j = u.1 329 j ∧ w.1 330 j = u.1 330 j) ∧ Bst (fun c g => W1 c g ∨ W2 c g) (w.1 328 i) (w.1 329 i) (w.1 330 i)) := by
      intro w1 e1 w e hk
      have w8 : w.1 328 = uf (u.1 328) i n := by rw [e, wr_ne (by omega), e1, wr_uf, v8]
      have w9 : w.1 329 = uf (u.1 329) i h := by rw [e, wr_uf, e1, wr_ne (by omega), v9]
      have w0 : w.1 330 = uf (u.1 330) i (min lo (u.1 330 i)) := by rw [e, wr_ne (by omega), e1, wr_ne (by omega), v0]
      refine ⟨by rw [e, wr_2, e1, wr_2, rv], ?_, fun j hj => ?_, ?_⟩
      · rw [e]
        refine sb1_wr ?_ (by simp)
        rw [e1]
        exact sb1_wr sv (by simp)
      · rw [w8, w9, w0, uf_ne hj, uf_ne hj, uf_ne hj]
        exact ⟨rfl, rfl, rfl⟩
      · rw [w8, w9, w0, uf_eq, uf_eq, uf_eq]
        exact bst_join b1 b2 hn rfl (fun _ => ⟨rfl, rfl⟩) (fun q => absurd hk q)
    have keep : ¬ (n < u.1 328 i ∨ n = u.1 328 i ∧ h < u.1 329 i) → (v.2 = u.2 ∧ sb1 u v [328, 329, 330] ∧ (∀ j, j ≠ i → v.1 328 j = u.1 328 j ∧ v.1 329 j = u.1 329 j ∧ v.1 330 j = u.1 330 j) ∧ Bst (fun c g => W1 c g ∨ W2 c g) (v.1 328 i) (v.1 329 i) (v.1 330 i)) := by
      intro hk
      refine ⟨rv, sv, fun j hj => ?_, ?_⟩
      · rw [v8, v9, v0, uf_ne hj]
        exact ⟨rfl, rfl, rfl⟩
      · rw [v8, v9, v0, uf_eq]
        exact bst_join b1 b2 hn rfl (fun q => absurd q hk) (fun _ => ⟨rfl, rfl⟩)
    refine ⟨r4, by rw [v8]; exact r3, ?_⟩
    rw [v8, v9]
    split
    · next q => exact fun w1 e1 w e => take w1 e1 w e (Or.inl q)
    · next q =>
      split
      · next q2 =>
        refine ⟨r6, r5, ?_⟩
        split
        · next q3 => exact fun w1 e1 w e => take w1 e1 w e (Or.inr ⟨q2, q3⟩)
        · next q3 =>
          have hke := keep (by omega)
          rw [v8, v9] at hke
          exact hke
      · next q2 =>
        have hke := keep (by omega)
        rw [v8, v9] at hke
        exact hke
  refine e_272 ⟨i0, i1, r2, r1, ?_⟩
  split
  · next q =>
    intro v ev
    exact key v (by rw [ev, Int.min_eq_left (by omega)])
  · next q =>
    intro v ev
    exact key v (by rw [ev, Int.min_eq_right (by omega)])
abbrev dlR (u : uS) (m : Int) : Int → Int → Int := fun o c => u.1 302 (400 * m + 10 * o + c)
abbrev rwR (u : uS) (r : Int) : Int → Int := fun k => u.1 277 (6 * r + k)
def cg (v : uS) (k q : Int) (W : Int → Int → Prop) : Prop := Bst W (v.1 328 (40 * k + q)) (v.1 329 (40 * k + q)) (v.1 330 (40 * k + q))
/-- the grammar and machine m of the other side -/
def RGc (u : uS) (nv nr n : Nat) (m : Int) : Prop := nv ≤ 10 ∧ nr ≤ 30 ∧ u.1 271 6 = nr ∧ (∀ r : Int, 0 ≤ r → r < nr → iR nv (u.1 275 r) ∧ 0 ≤ u.1 276 r ∧ u.1 276 r ≤ 6 ∧ ∀ k, 0 ≤ k → k < u.1 276 r → symR nv (u.1 277 (6 * r + k))) ∧ 1 ≤ n ∧ n ≤ 40 ∧ u.1 301 m = n ∧ (m = 0 ∨ m = 1) ∧ (∀ s c, iR n s → 0 ≤ c → c < 10 → iR n (u.1 302 (400 * m + 10 * s + c)))
theorem RGc_of {u u' : uS} {nv nr n : Nat} {m : Int} (h : RGc u nv nr n m) (h6 : u'.1 271 6 = u.1 271 6) (h1 : u'.1 275 = u.1 275) (h2 : u'.1 276 = u.1 276) (h3 : u'.1 277 = u.1 277) (h4 : u'.1 301 = u.1 301) (h5 : u'.1 302 = u.1 302) : RGc u' nv nr n m := by
  unfold RGc at h ⊢
  rw [h6, h1, h2, h3, h4, h5]
  exact h
theorem cg_of {v w : uS} {k q : Int} {W W' : Int → Int → Prop} (h : cg v k q W) (e8 : w.1 328 (40 * k + q) = v.1 328 (40 * k + q)) (e9 : w.1 329 (40 * k + q) = v.1 329 (40 * k + q)) (e0 : w.1 330 (40 * k + q) = v.1 330 (40 * k + q)) (eW : ∀ c g, W c g ↔ W' c g) : cg w k q W' := by
  unfold cg at h ⊢
  rw [e8, e9, e0]
  exact bst_congr h eW
theorem symR10 {nv : Nat} (h : nv ≤ 10) {s : Int} (hs : symR nv s) : symR 10 s := by
  rcases hs with z | z
  · exact Or.inl z
  · exact Or.inr ⟨z.1, by omega⟩
theorem q_271 {d nv nr n : Nat} {u : uS} {m r p : Int} (hG : RGc u nv nr n m) (hr0 : 0 ≤ r) (hr1 : r < nr) (hp : iR n p) (hL : okL (u.1 324) (u.1 325)) : cV (d + 4) 271 [.ref 271, iV m, iV r, iV p] u (fun u' => u'.2 = u.2 ∧ sb1 u u' [328, 329, 330] ∧ ∀ k : Nat, (k : Int) ≤ u.1 276 r → ∀ q, iR n q → cg u' k q (wy (u.1 324) (u.1 325) (dlR u m) (rwR u r) n p k q)) := by
  obtain ⟨g1, g2, g3, g4, g5, g6, g7, g8, g9⟩ := id hG
  obtain ⟨x1, x2, x3, x4⟩ := g4 r hr0 hr1
  have x5 : ∀ k : Int, 0 ≤ k → k < u.1 276 r → symR 10 (rwR u r k) := fun k k0 k1 => symR10 g1 (x4 k k0 k1)
  have fin : ∀ (v : uS), v.2 = u.2 → sb1 u v [328, 329, 330] → (∀ k : Nat, (k : Int) ≤ u.1 276 r → ∀ q, iR n q → cg v k q (wy (u.1 324) (u.1 325) (dlR u m) (rwR u r) n p k q)) → (v.2 = u.2 ∧ sb1 u v [328, 329, 330] ∧ ∀ k : Nat, (k : Int) ≤ u.1 276 r → ∀ q, iR n q → cg v k q (wy (u.1 324) (u.1 325) (dlR u m) (rwR u r) n p k q)) := fun v a b c => ⟨a, b, c⟩
  generalize hQ : (fun u' : uS => u'.2 = u.2 ∧ sb1 u u' [328, 329, 330] ∧ ∀ k : Nat, (k : Int) ≤ u.1 276 r → ∀ q, iR n q → cg u' k q (wy (u.1 324) (u.1 325) (dlR u m) (rwR u r) n p k q)) = Q
  have finQ : ∀ (v : uS), v.2 = u.2 → sb1 u v [328, 329, 330] → (∀ k : Nat, (k : Int) ≤ u.1 276 r → ∀ q, iR n q → cg v k q (wy (u.1 324) (u.1 325) (dlR u m) (rwR u r) n p k q)) → Q v := fun v a b c => by rw [← hQ]; exact ⟨a, b, c⟩
  clear hQ fin
  -- the levels
  have levels : ∀ (m' k : Nat) (v : uS), (k : Int) + 1 + m' = u.1 276 r + 1 → v.2 = u.2 → sb1 u v [328, 329, 330] → (∀ k' : Nat, k' ≤ k → ∀ q, iR n q → cg v k' q (wy (u.1 324) (u.1 325) (dlR u m) (rwR u r) n p k' q)) → K_271 (d + 3) 75 [.ref 271, iV m, iV r, .retAddr 0, iV n, iV ((k : Int) + 1), .retAddr 0, .retAddr 0, .retAddr 0, .retAddr 0, .retAddr 0, .retAddr 0, .retAddr 0, .retAddr 0] [] v Q := by
    intro m'
    induction m' with
    | zero =>
      intro k v he h2 hs hg
      have v6 : v.1 276 = u.1 276 := hs _ (by simp)
      refine k_271_75 (d := d + 2) ⟨hr0, by omega, ⟨by omega, by omega⟩, ?_⟩
      rw [v6]
      refine ⟨⟨by omega, by omega⟩, ?_⟩
      rw [if_pos (by omega)]
      exact finQ v h2 hs (fun k' hk' => hg k' (by omega))
    | succ m' ih =>
      intro k v he h2 hs hg
      have v6 : v.1 276 = u.1 276 := hs _ (by simp)
      have v7 : v.1 277 = u.1 277 := hs _ (by simp)
      have hsym := x5 k (by omega) (by omega)
      refine k_271_75 (d := d + 2) ⟨hr0, by omega, ⟨by omega, by omega⟩, ?_⟩
      rw [v6]
      refine ⟨⟨by omega, by omega⟩, ?_⟩
      rw [if_neg (by omega)]
      refine ⟨by omega, by omega, ?_⟩
      have es : v.1 277 (6 * r + ((k : Int) + 1) - 1) = rwR u r k := by
        have e : 6 * r + ((k : Int) + 1) - 1 = 6 * r + k := by omega
        rw [v7, e]
      rw [es]
      have hsI : rI (rwR u r k) := by rcases hsym with z | z <;> exact ⟨by omega, by omega⟩
      generalize hss : rwR u r k = s at hsym hsI ⊢
      -- the next level, behind all states
      have overO : ∀ (m2 : Nat) (o : Int) (w : uS), 0 ≤ o → o + m2 = n → w.2 = u.2 → sb1 u w [328, 329, 330] → (∀ k' : Nat, k' ≤ k → ∀ q, iR n q → cg w k' q (wy (u.1 324) (u.1 325) (dlR u m) (rwR u r) n p k' q)) → (∀ q, iR n q → cg w ((k : Int) + 1) q (uptoW (wy (u.1 324) (u.1 325) (dlR u m) (rwR u r) n p k) (stT (u.1 324) (u.1 325) (dlR u m) s) o q)) → K_271 (d + 3) 167 [.ref 271, iV m, iV r, .retAddr 0, iV n, iV ((k : Int) + 1), iV s, iV o, .retAddr 0, .retAddr 0, .retAddr 0, .retAddr 0, .retAddr 0, .retAddr 0] [] w Q := by
        intro m2
        induction m2 with
        | zero =>
          intro o w ho hoe w2 ws wg wn
          refine k_271_167 (d := d + 2) ⟨⟨by omega, by omega⟩, ⟨by omega, by omega⟩, ?_⟩
          rw [if_neg (by omega)]
          have e1 : ((k : Int) + 1 + 1) = (((k + 1 : Nat) : Int) + 1) := by omega
          rw [e1]
          refine ih (k + 1) w (by omega) w2 ws (fun k' hk' q hq => ?_)
          by_cases e : k' = k + 1
          · rw [e]
            have e2 : (((k + 1 : Nat) : Int)) = (k : Int) + 1 := by omega
            rw [e2]
            have := wn q hq
            have e3 : o = n := by omega
            rw [e3, ← hss] at this
            exact this
          · exact wg k' (by omega) q hq
        | succ m2 ih2 =>
          intro o w ho hoe w2 ws wg wn
          have hoR : iR n o := ⟨ho, by omega⟩
          have ek : 40 * ((k : Int) + 1 - 1) + o = 40 * (k : Int) + o := by omega
          have hk6 : (k : Int) + 1 ≤ 6 := by omega
          have w02 : w.1 302 = u.1 302 := ws _ (by simp)
          have hold := wg k (Nat.le_refl k) o hoR
          unfold cg at hold
          refine k_271_167 (d := d + 2) ⟨⟨by omega, by omega⟩, ⟨by omega, by omega⟩, ?_⟩
          rw [if_pos (by omega), ek]
          refine ⟨by omega, by omega, lR_L hold.2.1, ?_⟩
          have step : ∀ (w' : uS), w'.2 = u.2 → sb1 u w' [328, 329, 330] → (∀ k' : Nat, k' ≤ k → ∀ q, iR n q → cg w' k' q (wy (u.1 324) (u.1 325) (dlR u m) (rwR u r) n p k' q)) → (∀ q, iR n q → cg w' ((k : Int) + 1) q (fun c g => uptoW (wy (u.1 324) (u.1 325) (dlR u m) (rwR u r) n p k) (stT (u.1 324) (u.1 325) (dlR u m) s) o q c g ∨ viaW (wy (u.1 324) (u.1 325) (dlR u m) (rwR u r) n p k) (stT (u.1 324) (u.1 325) (dlR u m) s) o q c g)) → K_271 (d + 3) 167 [.ref 271, iV m, iV r, .retAddr 0, iV n, iV ((k : Int) + 1), iV s, iV (o + 1), .retAddr 0, .retAddr 0, .retAddr 0, .retAddr 0, .retAddr 0, .retAddr 0] [] w' Q := by
            intro w' a1 a2 a3 a4
            exact ih2 (o + 1) w' (by omega) (by omega) a1 a2 a3 (fun q hq => cg_of (a4 q hq) rfl rfl rfl (fun c g => (uptoW_succ ho).symm))
          by_cases hfar : w.1 328 (40 * (k : Int) + o) = 6000000000000000000
          · rw [if_pos hfar]
            refine step w w2 ws wg (fun q hq => cg_of (wn q hq) rfl rfl rfl (fun c g => ?_))
            constructor
            · exact Or.inl
            · rintro (z | ⟨c', g', c1, g1, z, -⟩)
              · exact z
              · have hle := hold.2.2.2.2.1 c' g' z
                have hc := (hold.1 c' g' z).1
                unfold cB at hc
                omega
          · rw [if_neg hfar]
            refine ⟨hsI, ?_⟩
            -- one cell of the next level gets better
            have one : ∀ (q : Int) (w' : uS) (c1 g1 : Int) (A : Int → Int → Prop), iR n q → cB c1 → hR g1 → cg w' ((k : Int) + 1) q A → cV (d + 3) 272 [.ref 271, iV (40 * ((k : Int) + 1) + q), lV (sq (w.1 328 (40 * (k : Int) + o)) c1), iV (max (w.1 329 (40 * (k : Int) + o)) g1), iV (max (w.1 330 (40 * (k : Int) + o)) g1)] w' (fun w'' => w''.2 = w'.2 ∧ sb1 w' w'' [328, 329, 330] ∧ (∀ j, j ≠ 40 * ((k : Int) + 1) + q → w''.1 328 j = w'.1 328 j ∧ w''.1 329 j = w'.1 329 j ∧ w''.1 330 j = w'.1 330 j) ∧ cg w'' ((k : Int) + 1) q (fun c g => A c g ∨ ∃ c' g', wy (u.1 324) (u.1 325) (dlR u m) (rwR u r) n p k o c' g' ∧ c = sq c' c1 ∧ g = max g' g1)) := by
              intro q w' c1 g1 A hq hc1 hg1 hA
              have b2 := bst_step hold hfar hc1 hg1
              have hne : sq (w.1 328 (40 * (k : Int) + o)) c1 ≠ 6000000000000000000 := by
                have := sq_R (lR_c hold.2.1 hfar) hc1
                unfold cB at this
                omega
              have := hq.1
              have := hq.2
              exact p_272 (d := d + 1) (by omega) (by omega) hA b2 hne
            by_cases hs100 : s < 100
            · rw [if_pos hs100]
              have hs10 : 0 ≤ s ∧ s < 10 := by rcases hsym with z | z <;> omega
              have ho2 := hoR.2
              refine ⟨by rcases g8 with z | z <;> rw [z] <;> omega, by rcases g8 with z | z <;> rw [z] <;> omega, cB_cn (lR_c hold.2.1 hfar), cB_cn ⟨by omega, by omega⟩, ?_⟩
              rw [pl_sq (lR_c hold.2.1 hfar) ⟨by omega, by omega⟩, w02]
              have hdq : iR n (dlR u m o s) := g9 o s hoR hs10.1 hs10.2
              have eh : w.1 329 (40 * (k : Int) + o) = max (w.1 329 (40 * (k : Int) + o)) 0 := by
                have := hold.2.2.1.1
                omega
              have el : w.1 330 (40 * (k : Int) + o) = max (w.1 330 (40 * (k : Int) + o)) 0 := by
                have := hold.2.2.2.1.1
                omega
              have hone := one (dlR u m o s) w 1 0 _ hdq ⟨by omega, by omega⟩ ⟨by omega, by omega⟩ (wn _ hdq)
              rw [← eh, ← el] at hone
              refine cV.mono hone (Nat.le_refl _) (fun w' hw' => ?_)
              obtain ⟨y1, y2, y3, y4⟩ := hw'
              refine step w' (y1.trans w2) (fun b hb => (y2 b hb).trans (ws b hb)) (fun k' hk' q hq => ?_) (fun q hq => ?_)
              · have hq1 := hq.1
                have hq2 := hq.2
                have hd1 := hdq.1
                have := y3 (40 * (k' : Int) + q) (by omega)
                exact cg_of (wg k' hk' q hq) this.1 this.2.1 this.2.2 (fun _ _ => Iff.rfl)
              · by_cases e : q = dlR u m o s
                · rw [e]
                  refine cg_of y4 rfl rfl rfl (fun c g => ?_)
                  constructor
                  · rintro (z | ⟨c', g', z1, z2, z3⟩)
                    · exact Or.inl z
                    · refine Or.inr ⟨c', g', 1, 0, z1, ?_, z2, z3⟩
                      unfold stT
                      rw [if_pos hs100]
                      exact ⟨rfl, rfl, rfl⟩
                  · rintro (z | ⟨c', g', c1, g1, z1, z2, z3, z4⟩)
                    · exact Or.inl z
                    · unfold stT at z2
                      rw [if_pos hs100] at z2
                      rw [z2.2.1] at z3
                      rw [z2.2.2] at z4
                      exact Or.inr ⟨c', g', z1, z3, z4⟩
                · have hq1 := hq.1
                  have hq2 := hq.2
                  have := y3 (40 * ((k : Int) + 1) + q) (by omega)
                  refine cg_of (wn q hq) this.1 this.2.1 this.2.2 (fun c g => ?_)
                  constructor
                  · exact Or.inl
                  · rintro (z | ⟨c', g', c1, g1, z1, z2, z3, z4⟩)
                    · exact z
                    · unfold stT at z2
                      rw [if_pos hs100] at z2
                      exact absurd z2.1 e
            · rw [if_neg hs100]
              have hx10 : 0 ≤ s - 100 ∧ s - 100 < 10 := by rcases hsym with z | z <;> omega
              have ho2 := hoR.2
              -- all states behind the variable
              have overQ : ∀ (m3 : Nat) (q : Int) (w' : uS), 0 ≤ q → q + m3 = n → w'.2 = u.2 → sb1 u w' [328, 329, 330] → (∀ k' : Nat, k' ≤ k → ∀ q, iR n q → cg w' k' q (wy (u.1 324) (u.1 325) (dlR u m) (rwR u r) n p k' q)) → (∀ q', iR n q' → cg w' ((k : Int) + 1) q' (fun c g => uptoW (wy (u.1 324) (u.1 325) (dlR u m) (rwR u r) n p k) (stT (u.1 324) (u.1 325) (dlR u m) s) o q' c g ∨ (q' < q ∧ viaW (wy (u.1 324) (u.1 325) (dlR u m) (rwR u r) n p k) (stT (u.1 324) (u.1 325) (dlR u m) s) o q' c g))) → K_271 (d + 3) 289 [.ref 271, iV m, iV r, .retAddr 0, iV n, iV ((k : Int) + 1), iV s, iV o, lV (w.1 328 (40 * (k : Int) + o)), .retAddr 0, iV (w.1 329 (40 * (k : Int) + o)), iV (w.1 330 (40 * (k : Int) + o)), iV q, .retAddr 0] [] w' Q := by
                intro m3
                induction m3 with
                | zero =>
                  intro q w' hq hqe a1 a2 a3 a4
                  refine k_271_289 (d := d + 2) ⟨⟨by omega, by omega⟩, ⟨by omega, by omega⟩, ?_⟩
                  rw [if_neg (by omega)]
                  refine step w' a1 a2 a3 (fun q' hq' => cg_of (a4 q' hq') rfl rfl rfl (fun c g => ?_))
                  have := hq'.2
                  constructor
                  · rintro (z | ⟨-, z⟩)
                    · exact Or.inl z
                    · exact Or.inr z
                  · rintro (z | z)
                    · exact Or.inl z
                    · exact Or.inr ⟨by omega, z⟩
                | succ m3 ih3 =>
                  intro q w' hq hqe a1 a2 a3 a4
                  have hqR : iR n q := ⟨hq, by omega⟩
                  have a24 : w'.1 324 = u.1 324 := a2 _ (by simp)
                  have a25 : w'.1 325 = u.1 325 := a2 _ (by simp)
                  have ht := tix_R (o := o) (x := s - 100) (q := q) ⟨ho, by omega⟩ hx10 ⟨hq, by omega⟩
                  obtain ⟨t1, t2⟩ := hL _ ht.1 ht.2
                  refine k_271_289 (d := d + 2) ⟨⟨by omega, by omega⟩, ⟨by omega, by omega⟩, ?_⟩
                  rw [if_pos (by omega), a24, a25]
                  rw [show (10 * o + (s - 100)) * 40 + q = tix o (s - 100) q from rfl]
                  refine ⟨ht.1, ht.2, lR_L t1, ?_⟩
                  by_cases htf : u.1 324 (tix o (s - 100) q) = 6000000000000000000
                  · rw [if_pos htf]
                    refine ih3 (q + 1) w' (by omega) (by omega) a1 a2 a3 (fun q' hq' => cg_of (a4 q' hq') rfl rfl rfl (fun c g => ?_))
                    constructor
                    · rintro (z | ⟨z0, z⟩)
                      · exact Or.inl z
                      · exact Or.inr ⟨by omega, z⟩
                    · rintro (z | ⟨z0, z⟩)
                      · exact Or.inl z
                      · by_cases e : q' = q
                        · rw [e] at z
                          obtain ⟨c', g', c1, g1, z1, z2, z3, z4⟩ := z
                          unfold stT at z2
                          rw [if_neg hs100] at z2
                          exact absurd htf z2.1
                        · exact Or.inr ⟨by omega, z⟩
                  · rw [if_neg htf]
                    have tc := lR_c t1 htf
                    refine ⟨cB_cn (lR_c hold.2.1 hfar), cB_cn tc, hR_I t2, hR_I hold.2.2.1, ?_⟩
                    rw [pl_sq (lR_c hold.2.1 hfar) tc]
                    have hone := one q w' _ _ _ hqR tc t2 (a4 q hqR)
                    have next : ∀ w'' : uS, (w''.2 = w'.2 ∧ sb1 w' w'' [328, 329, 330] ∧ (∀ j, j ≠ 40 * ((k : Int) + 1) + q → w''.1 328 j = w'.1 328 j ∧ w''.1 329 j = w'.1 329 j ∧ w''.1 330 j = w'.1 330 j) ∧ cg w'' ((k : Int) + 1) q (fun c g => (uptoW (wy (u.1 324) (u.1 325) (dlR u m) (rwR u r) n p k) (stT (u.1 324) (u.1 325) (dlR u m) s) o q c g ∨ (q < q ∧ viaW (wy (u.1 324) (u.1 325) (dlR u m) (rwR u r) n p k) (stT (u.1 324) (u.1 325) (dlR u m) s) o q c g)) ∨ ∃ c' g', wy (u.1 324) (u.1 325) (dlR u m) (rwR u r) n p k o c' g' ∧ c = sq c' (u.1 324 (tix o (s - 100) q)) ∧ g = max g' (u.1 325 (tix o (s - 100) q)))) → K_271 (d + 3) 289 [.ref 271, iV m, iV r, .retAddr 0, iV n, iV ((k : Int) + 1), iV s, iV o, lV (w.1 328 (40 * (k : Int) + o)), .retAddr 0, iV (w.1 329 (40 * (k : Int) + o)), iV (w.1 330 (40 * (k : Int) + o)), iV (q + 1), .retAddr 0] [] w'' Q := by
                      intro w'' ⟨y1, y2, y3, y4⟩
                      refine ih3 (q + 1) w'' (by omega) (by omega) (y1.trans a1) (fun b hb => (y2 b hb).trans (a2 b hb)) (fun k' hk' q' hq' => ?_) (fun q' hq' => ?_)
                      · have hq1 := hq'.1
                        have hq2 := hq'.2
                        have := y3 (40 * (k' : Int) + q') (by omega)
                        exact cg_of (a3 k' hk' q' hq') this.1 this.2.1 this.2.2 (fun _ _ => Iff.rfl)
                      · by_cases e : q' = q
                        · rw [e]
                          refine cg_of y4 rfl rfl rfl (fun c g => ?_)
                          constructor
                          · rintro ((z | ⟨z0, z⟩) | ⟨c', g', z1, z2, z3⟩)
                            · exact Or.inl z
                            · omega
                            · refine Or.inr ⟨by omega, c', g', _, _, z1, ?_, z2, z3⟩
                              unfold stT
                              rw [if_neg hs100]
                              exact ⟨htf, rfl, rfl⟩
                          · rintro (z | ⟨z0, c', g', c1, g1, z1, z2, z3, z4⟩)
                            · exact Or.inl (Or.inl z)
                            · unfold stT at z2
                              rw [if_neg hs100] at z2
                              rw [z2.2.1] at z3
                              rw [z2.2.2] at z4
                              exact Or.inr ⟨c', g', z1, z3, z4⟩
                        · have hq1 := hq'.1
                          have hq2 := hq'.2
                          have := y3 (40 * ((k : Int) + 1) + q') (by omega)
                          refine cg_of (a4 q' hq') this.1 this.2.1 this.2.2 (fun c g => ?_)
                          constructor
                          · rintro (z | ⟨z0, z⟩)
                            · exact Or.inl z
                            · exact Or.inr ⟨by omega, z⟩
                          · rintro (z | ⟨z0, z⟩)
                            · exact Or.inl z
                            · exact Or.inr ⟨by omega, z⟩
                    split
                    · next z1 =>
                      rw [Int.max_eq_right (Int.le_of_lt z1)] at hone
                      refine ⟨hR_I hold.2.2.2.1, ?_⟩
                      split
                      · next z2 =>
                        rw [Int.max_eq_right (Int.le_of_lt z2)] at hone
                        exact cV.mono hone (Nat.le_refl _) next
                      · next z2 =>
                        rw [Int.max_eq_left (by omega)] at hone
                        exact cV.mono hone (Nat.le_refl _) next
                    · next z1 =>
                      rw [Int.max_eq_left (show u.1 325 (tix o (s - 100) q) ≤ w.1 329 (40 * (k : Int) + o) by omega)] at hone
                      refine ⟨hR_I hold.2.2.2.1, ?_⟩
                      split
                      · next z2 =>
                        rw [Int.max_eq_right (Int.le_of_lt z2)] at hone
                        exact cV.mono hone (Nat.le_refl _) next
                      · next z2 =>
                        rw [Int.max_eq_left (show u.1 325 (tix o (s - 100) q) ≤ w.1 330 (40 * (k : Int) + o) by omega)] at hone
                        exact cV.mono hone (Nat.le_refl _) next
              refine overQ n 0 w (Int.le_refl 0) (by omega) w2 ws wg (fun q' hq' => cg_of (wn q' hq') rfl rfl rfl (fun c g => ?_))
              have := hq'.1
              constructor
              · exact Or.inl
              · rintro (z | ⟨z0, z⟩)
                · exact z
                · omega
      -- the next level is cleared
      have clear : ∀ (m2 : Nat) (o : Int) (w : uS), 0 ≤ o → o + m2 = n → w.2 = u.2 → sb1 u w [328, 329, 330] → (∀ k' : Nat, k' ≤ k → ∀ q, iR n q → cg w k' q (wy (u.1 324) (u.1 325) (dlR u m) (rwR u r) n p k' q)) → (∀ q, iR n q → q < o → cg w ((k : Int) + 1) q (fun _ _ => False)) → K_271 (d + 3) 105 [.ref 271, iV m, iV r, .retAddr 0, iV n, iV ((k : Int) + 1), iV s, iV o, .retAddr 0, .retAddr 0, .retAddr 0, .retAddr 0, .retAddr 0, .retAddr 0] [] w Q := by
        intro m2
        induction m2 with
        | zero =>
          intro o w ho hoe w2 ws wg wn
          refine k_271_105 (d := d + 2) ⟨⟨by omega, by omega⟩, ⟨by omega, by omega⟩, ?_⟩
          rw [if_neg (by omega)]
          exact overO n 0 w (Int.le_refl 0) (by omega) w2 ws wg (fun q hq => cg_of (wn q hq (by have := hq.2; omega)) rfl rfl rfl (fun c g => uptoW_0.symm))
        | succ m2 ih2 =>
          intro o w ho hoe w2 ws wg wn
          refine k_271_105 (d := d + 2) ⟨⟨by omega, by omega⟩, ⟨by omega, by omega⟩, ?_⟩
          rw [if_pos (by omega)]
          refine ⟨by omega, by omega, fun w6 e6 w8 e8 w10 e10 => ?_⟩
          have y3 : ∀ j : Int, j ≠ 40 * ((k : Int) + 1) + o → w10.1 328 j = w.1 328 j ∧ w10.1 329 j = w.1 329 j ∧ w10.1 330 j = w.1 330 j := fun j hj => by
            rw [e10, e8, e6]
            simp only [wr_1]
            rw [if_neg (by omega), if_neg (by omega), if_neg (by omega), if_neg (by omega), if_neg (by omega), if_neg (by omega), if_neg (by omega), if_neg (by omega), if_neg (by omega)]
            exact ⟨rfl, rfl, rfl⟩
          have y4 : cg w10 ((k : Int) + 1) o (fun _ _ => False) := by
            have f1 : w10.1 328 (40 * ((k : Int) + 1) + o) = 6000000000000000000 := by rw [e10, wr_ne (by omega), e8, wr_ne (by omega), e6, wr_self]
            have f2 : w10.1 329 (40 * ((k : Int) + 1) + o) = 0 := by rw [e10, wr_ne (by omega), e8, wr_self]
            have f3 : w10.1 330 (40 * ((k : Int) + 1) + o) = 1000000 := by rw [e10, wr_self]
            unfold cg
            rw [f1, f2, f3]
            exact bst_emp
          refine ih2 (o + 1) w10 (by omega) (by omega) (by rw [e10, wr_2, e8, wr_2, e6, wr_2, w2]) ?_ (fun k' hk' q hq => ?_) (fun q hq hlt => ?_)
          · rw [e10]
            refine sb1_wr ?_ (by simp)
            rw [e8]
            refine sb1_wr ?_ (by simp)
            rw [e6]
            exact sb1_wr ws (by simp)
          · have hq1 := hq.1
            have hq2 := hq.2
            have := y3 (40 * (k' : Int) + q) (by omega)
            exact cg_of (wg k' hk' q hq) this.1 this.2.1 this.2.2 (fun _ _ => Iff.rfl)
          · by_cases e : q = o
            · rw [e]; exact y4
            · have := y3 (40 * ((k : Int) + 1) + q) (by omega)
              exact cg_of (wn q hq (by omega)) this.1 this.2.1 this.2.2 (fun _ _ => Iff.rfl)
      exact clear n 0 v (Int.le_refl 0) (by omega) h2 hs hg (fun q hq hlt => by have := hq.1; omega)
  -- the start
  have start : ∀ (m2 : Nat) (o : Int) (w : uS), 0 ≤ o → o + m2 = n → w.2 = u.2 → sb1 u w [328, 329, 330] → (∀ q, iR n q → q < o → cg w 0 q (wy (u.1 324) (u.1 325) (dlR u m) (rwR u r) n p 0 q)) → K_271 (d + 3) 11 [.ref 271, iV m, iV r, iV p, iV n, iV o, .retAddr 0, .retAddr 0, .retAddr 0, .retAddr 0, .retAddr 0, .retAddr 0, .retAddr 0, .retAddr 0] [] w Q := by
    intro m2
    induction m2 with
    | zero =>
      intro o w ho hoe w2 ws wn
      refine k_271_11 (d := d + 2) ⟨⟨by omega, by omega⟩, ⟨by omega, by omega⟩, ?_⟩
      rw [if_neg (by omega)]
      refine levels (u.1 276 r).toNat 0 w (by omega) w2 ws (fun k' hk' q hq => ?_)
      have e : k' = 0 := by omega
      rw [e]
      exact wn q hq (by have := hq.2; omega)
    | succ m2 ih2 =>
      intro o w ho hoe w2 ws wn
      have hp0 := hp.1
      have hp1 := hp.2
      refine k_271_11 (d := d + 2) ⟨⟨by omega, by omega⟩, ⟨by omega, by omega⟩, ?_⟩
      rw [if_pos (by omega)]
      refine ⟨⟨by omega, by omega⟩, ?_⟩
      have put : ∀ (c g : Int) (w6 : uS), w6 = wr w 328 o c → ∀ w8 : uS, w8 = wr w6 329 o 0 → ∀ w10 : uS, w10 = wr w8 330 o g → Bst (wy (u.1 324) (u.1 325) (dlR u m) (rwR u r) n p 0 o) c 0 g → K_271 (d + 3) 11 [.ref 271, iV m, iV r, iV p, iV n, iV (o + 1), .retAddr 0, .retAddr 0, .retAddr 0, .retAddr 0, .retAddr 0, .retAddr 0, .retAddr 0, .retAddr 0] [] w10 Q := by
        intro c g w6 e6 w8 e8 w10 e10 hb
        have y3 : ∀ j : Int, j ≠ o → w10.1 328 j = w.1 328 j ∧ w10.1 329 j = w.1 329 j ∧ w10.1 330 j = w.1 330 j := fun j hj => by
          rw [e10, e8, e6]
          simp only [wr_1]
          rw [if_neg (by omega), if_neg (by omega), if_neg (by omega), if_neg (by omega), if_neg (by omega), if_neg (by omega), if_neg (by omega), if_neg (by omega), if_neg (by omega)]
          exact ⟨rfl, rfl, rfl⟩
        have e0 : 40 * (0 : Int) + o = o := by omega
        refine ih2 (o + 1) w10 (by omega) (by omega) (by rw [e10, wr_2, e8, wr_2, e6, wr_2, w2]) ?_ (fun q hq hlt => ?_)
        · rw [e10]
          refine sb1_wr ?_ (by simp)
          rw [e8]
          refine sb1_wr ?_ (by simp)
          rw [e6]
          exact sb1_wr ws (by simp)
        · by_cases e : q = o
          · rw [e]
            have f1 : w10.1 328 o = c := by rw [e10, wr_ne (by omega), e8, wr_ne (by omega), e6, wr_self]
            have f2 : w10.1 329 o = 0 := by rw [e10, wr_ne (by omega), e8, wr_self]
            have f3 : w10.1 330 o = g := by rw [e10, wr_self]
            unfold cg
            rw [e0, f1, f2, f3]
            exact hb
          · have := y3 (40 * (0 : Int) + q) (by omega)
            exact cg_of (wn q hq (by omega)) this.1 this.2.1 this.2.2 (fun _ _ => Iff.rfl)
      by_cases e : o = p
      · rw [if_pos e]
        refine ⟨ho, by omega, fun w6 e6 w8 e8 w10 e10 => put 0 0 w6 e6 w8 e8 w10 e10 (bst_congr bst_one (fun c g => ?_))⟩
        exact ⟨fun h => ⟨e, h⟩, fun h => h.2⟩
      · rw [if_neg e]
        refine ⟨ho, by omega, fun w6 e6 w8 e8 w10 e10 => put _ _ w6 e6 w8 e8 w10 e10 (bst_congr bst_emp (fun c g => ?_))⟩
        exact ⟨fun h => h.elim, fun h => e h.1⟩
  have hm0 : 0 ≤ m ∧ m < 100 := by rcases g8 with z | z <;> rw [z] <;> omega
  refine e_271 (d := d + 2) ⟨hm0.1, hm0.2, ?_⟩
  rw [g7]
  exact start n 0 u (Int.le_refl 0) (by omega) rfl (sb1_refl _ _) (fun q hq hlt => by have := hq.1; omega)
