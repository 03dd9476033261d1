/-! The other side: the loop until nothing is new; what it comes to -/
abbrev lkL : List Nat := [283, 284, 285, 286, 288, 289]
theorem rowM_sb {u0 u : uS} (hs : sb1 u0 u lkL) (r : Int) : rowM u r = rowM u0 r := by
  unfold rowM
  rw [hs 277 (by decide), hs 276 (by decide)]
theorem gM_sb {u0 u : uS} (hs : sb1 u0 u lkL) {r : Int} (h : gM u0 r) : gM u r := by
  unfold gM at h ⊢
  rw [hs 277 (by decide), hs 276 (by decide)]
  exact h
def clN (u : uS) (hd : Int → Int) (rw : Int → List Int) (r : Int) : Prop := goo (u.1 283) (rw r) = true → nws u (hd r) (sh5 (u.1 288) 0 (rw r)) (mxH (u.1 289) 0 (rw r)) (emR (u.1 285) (rw r)) (leR (u.1 286) (rw r)) = false
theorem lk_284 {u : uS} {x n h : Int} {em le : Bool} : (lk u x n h em le).1 284 = u.1 284 := by
  unfold lk
  rw [wr_ne (by decide), wr_ne (by decide), wr_ne (by decide), wr_ne (by decide), wr_ne (by decide)]
theorem l_214a {d : Nat} {Q : uS → Prop} {u0 : uS} {U0 : Int → Int} {nv nr : Nat} {F : Int} {lw : Int → Int} {lt : Int → Prop} (hv : nv ≤ 10) (hnr : nr ≤ 30) (h6 : u0.1 271 6 = nr) (hM : ∀ r : Int, 0 ≤ r → r < nr → gM u0 r) (hg : gOK nv nr (u0.1 275) (rowM u0)) (hF : HF nv nr (u0.1 275) (rowM u0) F lw) (hlt : ltC nr (u0.1 275) (rowM u0) lw lt) (hQ : ∀ u, sb1 u0 u lkL → (u.2 = u0.2 ∧ u.1 284 = U0) → RI nv nr (u0.1 275) (rowM u0) lw lt u → (∀ r : Int, 0 ≤ r → r < nr → clN u (u0.1 275) (rowM u0) r) → K_214 (d + 2) 119 [.ref 271, .retAddr 0, iV 0, .retAddr 0, .retAddr 0, .retAddr 0] [] (wr u 284 0 (u.1 283 0)) Q) : ∀ (M : Nat) (u : uS), mu u ≤ M → sb1 u0 u lkL → (u.2 = u0.2 ∧ u.1 284 = U0) → RI nv nr (u0.1 275) (rowM u0) lw lt u → K_214 (d + 2) 62 [.ref 271, iV 1, .retAddr 0, .retAddr 0, .retAddr 0, .retAddr 0] [] u Q := by
  intro M
  induction M with
  | zero =>
    intro u hm hs h2 hI
    refine k_214_62 ⟨⟨by omega, by omega⟩, ?_⟩
    rw [if_neg (by decide)]
    have inner : ∀ (m : Nat) (r : Int), 0 ≤ r → r + m = nr → (∀ r' : Int, 0 ≤ r' → r' < r → clN u (u0.1 275) (rowM u0) r') → K_214 (d + 2) 70 [.ref 271, iV 0, iV r, .retAddr 0, .retAddr 0, .retAddr 0] [] u Q := by
      intro m
      induction m with
      | zero =>
        intro r hr he hc
        refine k_214_70 ⟨⟨by omega, by omega⟩, by rw [hs 271 (by decide), h6]; exact ⟨by omega, by omega⟩, ?_⟩
        rw [hs 271 (by decide), h6, if_neg (by omega)]
        refine k_214_62 ⟨⟨by omega, by omega⟩, ?_⟩
        rw [if_pos rfl]
        refine ⟨(hI.1 0 (by omega) (by omega)).1, fun u4 e4 => ?_⟩
        rw [e4]
        exact hQ u hs h2 hI (fun r' r0 r1 => hc r' r0 (by omega))
      | succ m ih =>
        intro r hr he hc
        obtain ⟨b1, b2', b3⟩ := hg r hr (by omega)
        refine k_214_70 ⟨⟨by omega, by omega⟩, by rw [hs 271 (by decide), h6]; exact ⟨by omega, by omega⟩, ?_⟩
        rw [hs 271 (by decide), h6, if_pos (by omega)]
        have hp := p_215 (d := d) (u := u) (r := r) (gM_sb hs (hM r hr (by omega))) (fun s hs' => by
          rw [rowM_sb hs] at hs'
          have := b3 s hs'
          unfold symR at this ⊢
          omega) (by rw [hs 275 (by decide)]; exact b1) (by rw [hs 275 (by decide)]; omega) hI.1
        refine cI.mono hp (Nat.le_refl _) (fun x u4 hx => ?_)
        rw [rowM_sb hs, hs 275 (by decide)] at hx
        rcases hx with ⟨q1, q2, q3⟩ | ⟨q1, q2, q3⟩
        · rw [q2, q3]
          refine ⟨⟨by omega, by omega⟩, ?_⟩
          rw [if_pos rfl]
          refine ⟨⟨by omega, by omega⟩, ?_⟩
          rw [if_pos rfl]
          refine ih (r + 1) (by omega) (by omega) (fun r' r0 r1 => ?_)
          by_cases e : r' = r
          · rw [e]
            intro q
            rw [q1] at q
            cases q
          · exact hc r' r0 (by omega)
        · obtain ⟨k1, k2, k3⟩ := RI_lk hv hg hF hlt hr (by omega) q1 hI
          obtain ⟨x1, x2, x3, x4, x5⟩ := hI.1 (u0.1 275 r) b1 (by omega)
          have hN0 : 0 ≤ u.1 288 (u0.1 275 r) ∧ 0 ≤ u.1 289 (u0.1 275 r) := by
            by_cases q : u.1 283 (u0.1 275 r) = 0
            · have := x4 q
              exact ⟨by omega, by omega⟩
            · have := x5 q
              exact ⟨by omega, by omega⟩
          cases hnw : nws u (u0.1 275 r) (sh5 (u.1 288) 0 (rowM u0 r)) (mxH (u.1 289) 0 (rowM u0 r)) (emR (u.1 285) (rowM u0 r)) (leR (u.1 286) (rowM u0 r)) with
          | true =>
            have := lk_mu b1 (by omega) x1 x2 x3 hN0.1 hN0.2 k1 k2 hnw
            omega
          | false =>
            rw [hnw] at q2
            rw [q2, q3, lk_same x1 x2 x3 hnw]
            refine ⟨ri_b2 _, ?_⟩
            rw [if_pos (by decide)]
            refine ⟨⟨by omega, by omega⟩, ?_⟩
            rw [if_pos rfl]
            refine ih (r + 1) (by omega) (by omega) (fun r' r0 r1 => ?_)
            by_cases e : r' = r
            · rw [e]
              exact fun _ => hnw
            · exact hc r' r0 (by omega)
    exact inner nr 0 (Int.le_refl 0) (by omega) (fun r' r0 r1 => by omega)
  | succ M IH =>
    intro u hm hs h2 hI
    refine k_214_62 ⟨⟨by omega, by omega⟩, ?_⟩
    rw [if_neg (by decide)]
    have inner : ∀ (m : Nat) (r : Int) (mo : Bool) (u1 : uS), 0 ≤ r → r + m = nr → sb1 u0 u1 lkL → (u1.2 = u0.2 ∧ u1.1 284 = U0) → RI nv nr (u0.1 275) (rowM u0) lw lt u1 → ((mo = false ∧ ∀ r' : Int, 0 ≤ r' → r' < r → clN u1 (u0.1 275) (rowM u0) r') ∨ mo = true) → (mo = false → mu u1 ≤ M + 1) → (mo = true → mu u1 ≤ M) → K_214 (d + 2) 70 [.ref 271, iV (b2 mo), iV r, .retAddr 0, .retAddr 0, .retAddr 0] [] u1 Q := by
      intro m
      induction m with
      | zero =>
        intro r mo u1 hr he hs1 h21 hI1 hc m1 m2
        refine k_214_70 ⟨⟨by omega, by omega⟩, by rw [hs1 271 (by decide), h6]; exact ⟨by omega, by omega⟩, ?_⟩
        rw [hs1 271 (by decide), h6, if_neg (by omega)]
        cases mo with
        | false =>
          refine k_214_62 ⟨ri_b2 _, ?_⟩
          rw [if_pos (by decide)]
          refine ⟨(hI1.1 0 (by omega) (by omega)).1, fun u4 e4 => ?_⟩
          rw [e4]
          rcases hc with ⟨-, hc⟩ | hc
          · exact hQ u1 hs1 h21 hI1 (fun r' r0 r1 => hc r' r0 (by omega))
          · cases hc
        | true => exact IH u1 (m2 rfl) hs1 h21 hI1
      | succ m ih =>
        intro r mo u1 hr he hs1 h21 hI1 hc m1 m2
        obtain ⟨b1, b2', b3⟩ := hg r hr (by omega)
        refine k_214_70 ⟨⟨by omega, by omega⟩, by rw [hs1 271 (by decide), h6]; exact ⟨by omega, by omega⟩, ?_⟩
        rw [hs1 271 (by decide), h6, if_pos (by omega)]
        have hp := p_215 (d := d) (u := u1) (r := r) (gM_sb hs1 (hM r hr (by omega))) (fun s hs' => by
          rw [rowM_sb hs1] at hs'
          have := b3 s hs'
          unfold symR at this ⊢
          omega) (by rw [hs1 275 (by decide)]; exact b1) (by rw [hs1 275 (by decide)]; omega) hI1.1
        refine cI.mono hp (Nat.le_refl _) (fun x u4 hx => ?_)
        rw [rowM_sb hs1, hs1 275 (by decide)] at hx
        have stay : clN u1 (u0.1 275) (rowM u0) r → (rI (b2 mo)) ∧ (if b2 mo = 0 then (K_214 (d + 2) 70 [.ref 271, iV 0, iV (r + 1), .retAddr 0, .retAddr 0, .retAddr 0] [] u1 Q) else (K_214 (d + 2) 70 [.ref 271, iV 1, iV (r + 1), .retAddr 0, .retAddr 0, .retAddr 0] [] u1 Q)) := by
          intro hcl
          refine ⟨ri_b2 _, ?_⟩
          have hc2 : (mo = false ∧ ∀ r' : Int, 0 ≤ r' → r' < r + 1 → clN u1 (u0.1 275) (rowM u0) r') ∨ mo = true := by
            rcases hc with ⟨h1, hc⟩ | hc
            · refine Or.inl ⟨h1, fun r' r0 r1 => ?_⟩
              by_cases e : r' = r
              · rw [e]; exact hcl
              · exact hc r' r0 (by omega)
            · exact Or.inr hc
          have := ih (r + 1) mo u1 (by omega) (by omega) hs1 h21 hI1 hc2 m1 m2
          cases mo with
          | false => rw [if_pos (by decide)]; exact this
          | true => rw [if_neg (by decide)]; exact this
        rcases hx with ⟨q1, q2, q3⟩ | ⟨q1, q2, q3⟩
        · rw [q2, q3]
          refine ⟨⟨by omega, by omega⟩, ?_⟩
          rw [if_pos rfl]
          exact stay (fun q => by rw [q1] at q; cases q)
        · obtain ⟨k1, k2, k3⟩ := RI_lk hv hg hF hlt hr (by omega) q1 hI1
          obtain ⟨x1, x2, x3, x4, x5⟩ := hI1.1 (u0.1 275 r) b1 (by omega)
          have hN0 : 0 ≤ u1.1 288 (u0.1 275 r) ∧ 0 ≤ u1.1 289 (u0.1 275 r) := by
            by_cases q : u1.1 283 (u0.1 275 r) = 0
            · have := x4 q
              exact ⟨by omega, by omega⟩
            · have := x5 q
              exact ⟨by omega, by omega⟩
          cases hnw : nws u1 (u0.1 275 r) (sh5 (u1.1 288) 0 (rowM u0 r)) (mxH (u1.1 289) 0 (rowM u0 r)) (emR (u1.1 285) (rowM u0 r)) (leR (u1.1 286) (rowM u0 r)) with
          | true =>
            have hmu := lk_mu b1 (by omega) x1 x2 x3 hN0.1 hN0.2 k1 k2 hnw
            have hm3 : mu u1 ≤ M + 1 := by
              cases mo with
              | false => exact m1 rfl
              | true => have := m2 rfl; omega
            rw [hnw] at q2
            rw [q2, q3]
            refine ⟨ri_b2 _, ?_⟩
            rw [if_neg (by decide)]
            exact ih (r + 1) true _ (by omega) (by omega) (lk_sb hs1) ⟨h21.1, lk_284.trans h21.2⟩ k3 (Or.inr rfl) (fun q => by cases q) (fun _ => by omega)
          | false =>
            rw [hnw] at q2
            rw [q2, q3, lk_same x1 x2 x3 hnw]
            refine ⟨ri_b2 _, ?_⟩
            rw [if_pos (by decide)]
            exact stay (fun _ => hnw)
    exact inner nr 0 false u (Int.le_refl 0) (by omega) hs h2 hI (Or.inl ⟨rfl, fun r' r0 r1 => by omega⟩) (fun _ => hm) (fun q => by cases q)
/-- what the other side knows of its variables, when nothing is new -/
def LF (nv nr : Nat) (hd : Int → Int) (rw : Int → List Int) (lw : Int → Int) (lt : Int → Prop) (u : uS) : Prop :=
  (∀ y : Int, 0 ≤ y → y < nv → ((u.1 283 y = 0 ∧ lw y = 0) ∨ (u.1 283 y = 1 ∧ lw y ≠ 0 ∧ u.1 289 y = lw y)) ∧ (u.1 285 y = if vN u y = 0 then 1 else 0) ∧ (u.1 286 y = 0 ∨ u.1 286 y = 1) ∧ (u.1 286 y ≠ 0 → lt y)) ∧
  GF nv nr hd rw (vN u) ∧
  (∀ r : Int, 0 ≤ r → r < nr → vr (fun y => lw y ≠ 0) (rw r) → (∃ s, s ∈ rw r ∧ (s < 100 ∨ u.1 286 (s - 100) ≠ 0)) → u.1 286 (hd r) ≠ 0)
theorem LF_of {nv nr : Nat} {hd : Int → Int} {rw : Int → List Int} {F : Int} {lw : Int → Int} {lt : Int → Prop} {u : uS} (hv : nv ≤ 10) (hg : gOK nv nr hd rw) (hF : HF nv nr hd rw F lw) (hI : RI nv nr hd rw lw lt u) (hc : ∀ r : Int, 0 ≤ r → r < nr → clN u hd rw r) : LF nv nr hd rw lw lt u := by
  obtain ⟨i1, i2, i3⟩ := hI
  have cl : ∀ r : Int, 0 ≤ r → r < nr → goo (u.1 283) (rw r) = true → u.1 283 (hd r) ≠ 0 ∧ u.1 288 (hd r) ≤ shS (u.1 288) 0 (rw r) ∧ u.1 289 (hd r) ≤ mxH (u.1 289) 0 (rw r) + 1 ∧ (leR (u.1 286) (rw r) = true → u.1 286 (hd r) ≠ 0) := fun r r0 r1 hgo => by
    have hn := hc r r0 r1 hgo
    have hT := goo_iff.mp hgo
    have vN1 : vr (fun y => 0 ≤ u.1 288 y ∧ u.1 288 y ≤ 4000000000000000000) (rw r) := fun s hs h2 => by
      have hy := gOK_v hg r0 r1 hs h2
      have := (i1 (s - 100) hy.1 (by omega)).2.2.2.2 (hT s hs h2)
      exact ⟨this.1, this.2.1⟩
    rw [(sh5_eq (f := u.1 288) (rw r) 0 vN1 ⟨Int.le_refl 0, by omega⟩).1] at hn
    unfold nws at hn
    simp only [Bool.or_eq_false_iff, decide_eq_false_iff_not, Bool.and_eq_false_iff] at hn
    obtain ⟨⟨⟨⟨n1, n2⟩, n3⟩, n4⟩, n5⟩ := hn
    refine ⟨n1, by omega, by omega, fun q => ?_⟩
    rcases n5 with q2 | q2
    · rw [q] at q2; cases q2
    · exact q2
  have up : ∀ (k : Nat) (y : Int), 0 ≤ y → y < nv → lw y ≠ 0 → lw y ≤ k → u.1 283 y ≠ 0 ∧ u.1 289 y ≤ lw y := by
    intro k
    induction k with
    | zero =>
      intro y y0 y1 hy hk
      have := (hF.1 y y0 y1).1
      omega
    | succ k ih =>
      intro y y0 y1 hy hk
      obtain ⟨r, r0, r1, r2, r3⟩ := hF.2.1 y y0 y1 hy
      have hgo : goo (u.1 283) (rw r) = true := goo_iff.mpr (fun s hs h2 => by
        have hz := gOK_v hg r0 r1 hs h2
        have h3 := r3 s hs h2
        exact (ih _ hz.1 hz.2 h3.1 (by omega)).1)
      obtain ⟨c1, c2, c3, c4⟩ := cl r r0 r1 hgo
      have h5 := mxH_p (H := u.1 289) (b := lw y - 1) (rw r) 0 (fun s hs h2 => by
        have hz := gOK_v hg r0 r1 hs h2
        have h3 := r3 s hs h2
        have h4 := (ih _ hz.1 hz.2 h3.1 (by omega)).2
        show u.1 289 (s - 100) ≤ _
        omega) (by have := (hF.1 y y0 y1).1; omega)
      rw [r2] at c1 c3
      exact ⟨c1, by omega⟩
  have hTl : ∀ y : Int, 0 ≤ y → y < nv → ((u.1 283 y = 0 ∧ lw y = 0) ∨ (u.1 283 y = 1 ∧ lw y ≠ 0 ∧ u.1 289 y = lw y)) := fun y y0 y1 => by
    by_cases q : lw y = 0
    · refine Or.inl ⟨?_, q⟩
      refine Classical.byContradiction (fun z => ?_)
      exact (i3 y y0 (by omega) z).2.1 q
    · obtain ⟨a1, a2⟩ := up (lw y).toNat y y0 y1 q (by have := (hF.1 y y0 y1).1; omega)
      have h3 := (i3 y y0 (by omega) a1).2.2.1
      refine Or.inr ⟨?_, q, by omega⟩
      rcases (i1 y y0 (by omega)).1 with z | z
      · exact absurd z a1
      · exact z
  have hgw : ∀ r : Int, 0 ≤ r → r < nr → vr (fun y => lw y ≠ 0) (rw r) → goo (u.1 283) (rw r) = true := fun r r0 r1 h => goo_iff.mpr (fun s hs h2 => by
    have hz := gOK_v hg r0 r1 hs h2
    rcases hTl _ hz.1 hz.2 with q | q
    · exact absurd q.2 (h s hs h2)
    · show u.1 283 (s - 100) ≠ 0
      omega)
  have hvNc : cnA nv (vN u) := fun y y0 y1 => by
    unfold vN
    split
    · exact Or.inl rfl
    · next q =>
      have := (i1 y y0 (by omega)).2.2.2.2 q
      exact Or.inr ⟨this.1, this.2.1⟩
  refine ⟨fun y y0 y1 => ⟨hTl y y0 y1, ?_, (i1 y y0 (by omega)).2.2.1, fun q => ?_⟩, ⟨⟨hvNc, fun r r0 r1 => ?_⟩, fun w hw y y0 y1 => ?_⟩, fun r r0 r1 hvv hex => ?_⟩
  · by_cases q : u.1 283 y = 0
    · rw [(i2 y y0 (by omega) q).1]
      unfold vN
      rw [if_pos q, if_neg (by decide)]
    · have h3 := (i3 y y0 (by omega) q).2.2.2.2.2.1
      unfold vN
      rw [if_neg q]
      rcases (i1 y y0 (by omega)).2.1 with z | z
      · rw [z, if_neg (fun z2 => (h3.mpr z2) z)]
      · rw [z, if_pos (h3.mp (by omega))]
  · by_cases z : u.1 283 y = 0
    · exact absurd (i2 y y0 (by omega) z).2 q
    · exact (i3 y y0 (by omega) z).2.2.2.2.2.2.1 q
  · have hA := gOK_A hg r0 r1
    obtain ⟨b1, b2', b3⟩ := hg r r0 r1
    by_cases hgo : goo (u.1 283) (rw r) = true
    · obtain ⟨c1, c2, c3, c4⟩ := cl r r0 r1 hgo
      have h7 : shS (vN u) 0 (rw r) = shS (u.1 288) 0 (rw r) := shS_congr _ _ (fun s hs h2 => by
        show vN u (s - 100) = u.1 288 (s - 100)
        unfold vN
        exact if_neg (goo_iff.mp hgo s hs h2))
      rw [h7]
      unfold vN
      rw [if_neg c1]
      exact c2
    · obtain ⟨s, hs, h2, h3⟩ := vr_not (fun q => hgo (goo_iff.mpr q))
      have h4 := (shS_ge hvNc (rw r) 0 hA cn0).2 s hs h2
      have h5 : vN u (s - 100) = 9000000000000000000 := by
        unfold vN
        exact if_pos (Classical.byContradiction h3)
      have h6 : vN u (s - 100) ≤ shS (vN u) 0 (rw r) := h4
      rcases hvNc _ b1 b2' with q | q <;> omega
  · by_cases z : u.1 283 y = 0
    · unfold vN
      rw [if_pos z]
      rcases hw.1 y y0 y1 with q | q <;> omega
    · unfold vN
      rw [if_neg z]
      exact (i3 y y0 (by omega) z).2.2.2.2.2.2.2 w hw
  · obtain ⟨c1, c2, c3, c4⟩ := cl r r0 r1 (hgw r r0 r1 hvv)
    exact c4 (leR_iff.mpr hex)
