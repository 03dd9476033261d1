/-! learn, and looking at the variables: what both know -/
theorem gA_of {u u' : uS} {a nv nr : Nat} (h0 : u'.1 a 0 = u.1 a 0) (h1 : u'.1 a 1 = u.1 a 1) (h2 : u'.1 (a + 2) = u.1 (a + 2)) (h3 : u'.1 (a + 3) = u.1 (a + 3)) (h4 : u'.1 (a + 4) = u.1 (a + 4)) (h : gA u a nv nr) : gA u' a nv nr := by
  unfold gA gR at h ⊢
  rw [h0, h1, h2, h3, h4]
  exact h
theorem row_of {u u' : uS} {a : Nat} (h3 : u'.1 (a + 3) = u.1 (a + 3)) (h4 : u'.1 (a + 4) = u.1 (a + 4)) : row u' a = row u a := by
  funext r
  unfold row
  rw [h3, h4]
theorem gOK_mono {nv nv' nr : Nat} {hd : Int → Int} {rw : Int → List Int} (h : gOK nv nr hd rw) (hn : nv ≤ nv') : gOK nv' nr hd rw := fun r r0 r1 => by
  obtain ⟨b1, b2, b3⟩ := h r r0 r1
  refine ⟨b1, by omega, fun s hs => ?_⟩
  have := b3 s hs
  unfold symR at this ⊢
  omega
def usd (nv nr : Nat) (hd : Int → Int) (rw : Int → List Int) (gd : List Int → Prop) (st : Prop) (U : Int → Prop) : Prop := usC nr hd rw gd U ∧ (st → U 0) ∧ ∀ S : Int → Prop, usC nr hd rw gd S → (st → S 0) → ∀ y, iR nv y → U y → S y
def ltd (nv nr : Nat) (hd : Int → Int) (rw : Int → List Int) (gd : List Int → Prop) (lt : Int → Prop) : Prop := (∀ r : Int, 0 ≤ r → r < nr → gd (rw r) → (∃ s, s ∈ rw r ∧ (s < 100 ∨ lt (s - 100))) → lt (hd r)) ∧ ∀ S : Int → Prop, (∀ r : Int, 0 ≤ r → r < nr → gd (rw r) → (∃ s, s ∈ rw r ∧ (s < 100 ∨ S (s - 100))) → S (hd r)) → ∀ y, iR nv y → lt y → S y
/-- what one side has learned -/
def lfC (nv nr : Nat) (hd : Int → Int) (rw : Int → List Int) (F us en : Int) (lw sh : Int → Int) : Prop :=
  HF nv nr hd rw F lw ∧ (∀ v, GF nv nr hd rw v → ∀ x, iR nv x → sh x = v x) ∧ usd nv nr hd rw (gdF F) (bi F 0 = true) (fun y => bi us y.toNat = true) ∧ ∃ (lt : Int → Prop) (L : Int → Int → Prop), ltd nv nr hd rw (gdF F) lt ∧ tcR nv (eG nr hd rw (gdF F)) L ∧ ∀ x, iR nv x → (bi en x.toNat = true ↔ enL nv L (gG nr hd rw (gdF F) lt) x)
theorem q_44 {d : Nat} {u : uS} {a nv nr : Nat} (hO : isO a 2) (hg : gA u a nv nr) (hgk : gOK nv nr (u.1 (a + 2)) (row u a)) : cV (d + 6) 44 [.ref a] u (fun u' => sb1 u u' [a, a + 5, a + 6, a + 7, a + 8] ∧ u'.2 = u.2 ∧ (∀ j : Int, j ≠ 6 → j ≠ 7 → j ≠ 8 → u'.1 a j = u.1 a j) ∧ lfC nv nr (u.1 (a + 2)) (row u a) (u'.1 a 6) (u'.1 a 7) (u'.1 a 8) (u'.1 (a + 6)) (u'.1 (a + 5))) := by
  have hv := hg.1
  refine e_44 hO (cV.mono (q_45 (d := d + 2) hO hg) (Nat.le_refl _) (fun u1 e1 => ?_))
  generalize hp : hg2 (u.1 (a + 2)) (row u a) nr nv 1 (hg0 u a) = p at e1
  have hHI0 : HI nv nr (u.1 (a + 2)) (row u a) 1 (hg0 u a) := by
    have hz : ∀ x : Int, 0 ≤ x → x < nv → (hg0 u a).2 x = 0 := fun x x0 x1 => if_pos ⟨x0, by omega⟩
    refine ⟨fun x x0 x1 => ?_, fun x x0 x1 hx => absurd (hz x x0 x1) hx, fun r k r0 r1 k0 k1 => by omega⟩
    rw [hz x x0 x1]
    have h0 : (hg0 u a).1 = 0 := rfl
    rw [h0, bi_0]
    exact ⟨Int.le_refl 0, by omega, ⟨fun q => absurd q (by decide), fun q => absurd rfl q⟩⟩
  have hHF : HF nv nr (u.1 (a + 2)) (row u a) p.1 p.2 := by
    have h1 := HI_all hv hgk nv 1 _ (Int.le_refl 1) hHI0
    rw [hp, show (1 : Int) + (nv : Int) = nv + 1 by omega] at h1
    exact HF_of hgk h1
  have k1 : ∀ b, b ≠ a → b ≠ a + 6 → u1.1 b = u.1 b := fun b h1 h2 => by rw [e1]; exact sH_o h1 h2
  have k1a : ∀ j : Int, j ≠ 6 → u1.1 a j = u.1 a j := fun j hj => by rw [e1]; exact sH_a hj
  have r1 : row u1 a = row u a := row_of (k1 _ (by omega) (by omega)) (k1 _ (by omega) (by omega))
  have g1 : gA u1 a nv nr := gA_of (k1a 0 (by decide)) (k1a 1 (by decide)) (k1 _ (by omega) (by omega)) (k1 _ (by omega) (by omega)) (k1 _ (by omega) (by omega)) hg
  have hd1 : u1.1 (a + 2) = u.1 (a + 2) := k1 _ (by omega) (by omega)
  have o1 : gOK nv nr (u1.1 (a + 2)) (row u1 a) := by rw [hd1, r1]; exact hgk
  refine cV.mono (q_48 (d := d + 2) hO g1 (gOK_mono o1 hv)) (Nat.le_refl _) (fun u2 e2 => ?_)
  rw [hd1, r1] at e2
  generalize hsh : it (sh1 (u.1 (a + 2)) (row u a) nr 0) nv (sh0 u1 a) = sh at e2
  have hSH : ∀ v, GF nv nr (u.1 (a + 2)) (row u a) v → ∀ x, iR nv x → sh x = v x := fun v hvv x hx => by
    rw [← hsh]
    have hz : ∀ x : Int, 0 ≤ x → x < nv → sh0 u1 a x = 9000000000000000000 := fun x x0 x1 => if_pos ⟨x0, by omega⟩
    refine shr_all hgk hvv (fun x x0 x1 => by rw [hz x x0 x1]; exact Or.inl rfl) (fun x x0 x1 => ?_) x hx.1 hx.2
    rw [hz x x0 x1]
    rcases hvv.1.1 x x0 x1 with q | q <;> omega
  have k2 : ∀ b, b ≠ a + 5 → u2.1 b = u1.1 b := fun b h1 => by rw [e2]; exact sS_o h1
  have r2 : row u2 a = row u a := (row_of (k2 _ (by omega)) (k2 _ (by omega))).trans r1
  have g2 : gA u2 a nv nr := gA_of (by rw [k2 _ (by omega)]) (by rw [k2 _ (by omega)]) (k2 _ (by omega)) (k2 _ (by omega)) (k2 _ (by omega)) g1
  have hd2 : u2.1 (a + 2) = u.1 (a + 2) := (k2 _ (by omega)).trans hd1
  have f2 : u2.1 a 6 = p.1 := by rw [k2 _ (by omega), e1]; exact sH_6
  have o2 : gOK nv nr (u2.1 (a + 2)) (row u2 a) := by rw [hd2, r2]; exact hgk
  refine cV.mono (q_53 (d := d + 2) hO g2) (Nat.le_refl _) (fun u3 e3 => ?_)
  obtain ⟨us1, us2, us3⟩ := usd_all hv o2 (iand (u2.1 a 6) 1)
  generalize usd2 u2 a nr nv (iand (u2.1 a 6) 1) = us at e3 us1 us2 us3
  rw [hd2, r2, f2] at us1 us3
  have hUS : usd nv nr (u.1 (a + 2)) (row u a) (gdF p.1) (bi p.1 0 = true) (fun y => bi us y.toNat = true) := by
    refine ⟨us1, fun q => us2 0 (by rw [f2, bi_iand, q, bi_1]; rfl), fun S hS hst y hy hU => us3 S hS (fun z z0 z1 hz => ?_) y hy.1 hy.2 hU⟩
    rw [bi_iand, bi_1, Bool.and_eq_true, decide_eq_true_eq] at hz
    have e : z = 0 := by omega
    rw [e]
    refine hst ?_
    have := hz.1
    rw [hz.2] at this
    exact this
  have k3 : ∀ b, b ≠ a → u3.1 b = u2.1 b := fun b h1 => by rw [e3]; exact wr_ne h1
  have k3a : ∀ j : Int, j ≠ 7 → u3.1 a j = u2.1 a j := fun j hj => by rw [e3, wr_1, if_neg (fun q => hj q.2)]
  have r3 : row u3 a = row u a := (row_of (k3 _ (by omega)) (k3 _ (by omega))).trans r2
  have g3 : gA u3 a nv nr := gA_of (k3a 0 (by decide)) (k3a 1 (by decide)) (k3 _ (by omega)) (k3 _ (by omega)) (k3 _ (by omega)) g2
  have hd3 : u3.1 (a + 2) = u.1 (a + 2) := (k3 _ (by omega)).trans hd2
  have f3 : u3.1 a 6 = p.1 := (k3a 6 (by decide)).trans f2
  have o3 : gOK nv nr (u3.1 (a + 2)) (row u3 a) := by rw [hd3, r3]; exact hgk
  refine cV.mono (q_55 (d := d) hO g3 o3) (Nat.le_refl _) (fun u4 h4 => ?_)
  obtain ⟨B, G, en, e4, L, t1, t2⟩ := h4
  obtain ⟨l1, l2⟩ := fld_all hv o3
  rw [hd3, r3, f3] at t1 t2 l1 l2
  have k4 : ∀ b, b ≠ a → b ≠ a + 7 → b ≠ a + 8 → u4.1 b = u3.1 b := fun b h1 h2 h3 => by rw [e4]; exact sE_o h1 h2 h3
  have k4a : ∀ j : Int, j ≠ 8 → u4.1 a j = u3.1 a j := fun j hj => by rw [e4]; exact sE_a hj
  refine ⟨fun b hb => ?_, ?_, fun j j6 j7 j8 => ?_, ?_⟩
  · simp only [List.mem_cons, List.not_mem_nil, or_false, not_or] at hb
    rw [k4 b (by omega) (by omega) (by omega), k3 b (by omega), k2 b (by omega), k1 b (by omega) (by omega)]
  · rw [e4, e3, e2, e1]
    rfl
  · rw [k4a j j8, k3a j j7, k2 a (by omega), k1a j j6]
  · have w6 : u4.1 a 6 = p.1 := (k4a 6 (by decide)).trans f3
    have w7 : u4.1 a 7 = us := by rw [k4a 7 (by decide), e3]; exact wr_self
    have w8 : u4.1 a 8 = en := by rw [e4]; exact sE_8
    have wL : u4.1 (a + 6) = p.2 := by rw [k4 _ (by omega) (by omega) (by omega), k3 _ (by omega), k2 _ (by omega), e1]; exact sH_L
    have wS : u4.1 (a + 5) = sh := by rw [k4 _ (by omega) (by omega) (by omega), k3 _ (by omega), e2]; exact sS_f
    rw [w6, w7, w8, wL, wS]
    exact ⟨hHF, hSH, hUS, fun y => bi (fld2 u3 a nr nv 0) y.toNat = true, L, ⟨l1, fun S hS y hy => l2 S hS y hy.1 hy.2⟩, t1, t2⟩
/-- what the other side has learned -/
def lfR (nv nr : Nat) (hd : Int → Int) (rw : Int → List Int) (lw : Int → Int) (lt : Int → Prop) (u : uS) : Prop :=
  LF nv nr hd rw lw lt u ∧ bA (u.1 284) ∧ usd nv nr hd rw (gdT (u.1 283)) (u.1 283 0 ≠ 0) (fun y => u.1 284 y ≠ 0) ∧ ∃ A G, PS (eG nr hd rw (gdT (u.1 283))) (gG nr hd rw (gdT (u.1 283)) (fun y => u.1 286 y ≠ 0)) A G ∧ trA A ∧ (∀ x z, iR 10 x → iR 10 z → gs (gG nr hd rw (gdT (u.1 283)) (fun y => u.1 286 y ≠ 0)) (fun x y => A (10 * x + y) ≠ 0) x z → G (10 * x + z) ≠ 0) ∧ ∀ x, iR 10 x → (u.1 287 x = 0 ∨ u.1 287 x = 1) ∧ (u.1 287 x ≠ 0 ↔ enR A G x)
abbrev lrL : List Nat := [283, 284, 285, 286, 287, 288, 289, 290, 291]
theorem q_214 {d : Nat} {u : uS} {nv nr : Nat} {F : Int} {lw : Int → Int} {lt : Int → Prop} (hv : nv ≤ 10) (hnr : nr ≤ 30) (h6 : u.1 271 6 = nr) (hM : ∀ r : Int, 0 ≤ r → r < nr → gM u r) (hg : gOK nv nr (u.1 275) (rowM u)) (hF : HF nv nr (u.1 275) (rowM u) F lw) (hlt : ltC nr (u.1 275) (rowM u) lw lt) : cV (d + 3) 214 [.ref 271] u (fun u' => sb1 u u' lrL ∧ u'.2 = u.2 ∧ lfR nv nr (u.1 275) (rowM u) lw lt u') := by
  refine e_214 ?_
  have init : ∀ (m : Nat) (k : Int) (u1 : uS), 0 ≤ k → k + m = 10 → sb1 u u1 lkL → u1.2 = u.2 → (∀ y, 0 ≤ y → y < k → u1.1 283 y = 0 ∧ u1.1 284 y = 0 ∧ u1.1 285 y = 0 ∧ u1.1 286 y = 0 ∧ u1.1 288 y = 4000000000000000001 ∧ u1.1 289 y = 4000000000000000001) → K_214 (d + 2) 2 [.ref 271, iV k, .retAddr 0, .retAddr 0, .retAddr 0, .retAddr 0] [] u1 (fun u' => sb1 u u' lrL ∧ u'.2 = u.2 ∧ lfR nv nr (u.1 275) (rowM u) lw lt u') := by
    intro m
    induction m with
    | zero =>
      intro k u1 hk he hs h2 hz
      refine k_214_2 ⟨⟨by omega, by omega⟩, ?_⟩
      rw [if_neg (by omega)]
      have hz2 : ∀ y : Int, 0 ≤ y → y < 10 → u1.1 283 y = 0 ∧ u1.1 284 y = 0 ∧ u1.1 285 y = 0 ∧ u1.1 286 y = 0 ∧ u1.1 288 y = 4000000000000000001 ∧ u1.1 289 y = 4000000000000000001 := fun y y0 y1 => hz y y0 (by omega)
      have hRI : RI nv nr (u.1 275) (rowM u) lw lt u1 := by
        refine ⟨fun y y0 y1 => ?_, fun y y0 y1 _ => ⟨(hz2 y y0 y1).2.2.1, (hz2 y y0 y1).2.2.2.1⟩, fun y y0 y1 q => absurd (hz2 y y0 y1).1 q⟩
        obtain ⟨c1, c2, c3, c4, c5, c6⟩ := hz2 y y0 y1
        exact ⟨Or.inl c1, Or.inl c3, Or.inl c4, fun _ => ⟨c5, c6⟩, fun q => absurd c1 q⟩
      have h284 : ∀ y : Int, 0 ≤ y → y < 10 → u1.1 284 y = 0 := fun y y0 y1 => (hz2 y y0 y1).2.1
      refine l_214a (d := d) (u0 := u) (U0 := u1.1 284) (F := F) hv hnr h6 hM hg hF hlt (fun u2 hs2 h22' hI2 hc2 => ?_) (mu u1) u1 (Nat.le_refl _) hs ⟨h2, rfl⟩ hRI
      obtain ⟨h22, h284'⟩ := h22'
      have hLF := LF_of hv hg hF hI2 hc2
      have hA0 : bA (uf (u2.1 284) 0 (u2.1 283 0)) := fun y y0 y1 => by
        by_cases e : y = 0
        · rw [e, uf_eq]; exact (hI2.1 0 (by omega) (by omega)).1
        · rw [uf_ne e, h284']; exact Or.inl (h284 y y0 y1)
      have est : wr u2 284 0 (u2.1 283 0) = sS u2 284 (uf (u2.1 284) 0 (u2.1 283 0)) := by
        refine Prod.ext ?_ rfl
        funext b j
        simp only [wr, sS, uf]
        by_cases h1 : b = 284
        · simp [h1]
        · simp [h1]
      rw [est]
      have c6 : u2.1 271 6 = nr := by rw [hs2 271 (by decide)]; exact h6
      have c5 : u2.1 275 = u.1 275 := hs2 275 (by decide)
      have cr : rowM u2 = rowM u := by funext r; exact rowM_sb hs2 r
      have cM : ∀ r : Int, 0 ≤ r → r < nr → gM u2 r := fun r r0 r1 => gM_sb hs2 (hM r r0 r1)
      have cg : gOK nv nr (u2.1 275) (rowM u2) := by rw [c5, cr]; exact hg
      have cT : ∀ y : Int, 0 ≤ y → y < 10 → rI (u2.1 283 y) := fun y y0 y1 => by
        rcases (hI2.1 y y0 y1).1 with q | q <;> rw [q] <;> decide
      have cL : ∀ y : Int, 0 ≤ y → y < 10 → rI (u2.1 286 y) := fun y y0 y1 => by
        rcases (hI2.1 y y0 y1).2.2.1 with q | q <;> rw [q] <;> decide
      refine l_214u (d := d + 1) hv hnr c6 cM cg cT 10 0 _ (Int.le_refl 0) (by omega) hA0 ?_
      obtain ⟨v1, v2, v3⟩ := ur_all (T := u2.1 283) hv cg (uf (u2.1 284) 0 (u2.1 283 0))
      have hbA : ∀ (m : Nat) (A : Int → Int), bA A → bA (it (ur1 (u2.1 275) (rowM u2) (u2.1 283) nr 0) m A) := by
        intro m
        induction m with
        | zero => exact fun A h => h
        | succ m ih => exact fun A h => ih _ (ur1_b _ _ _ h)
      have hbU := hbA 10 _ hA0
      generalize it (ur1 (u2.1 275) (rowM u2) (u2.1 283) nr 0) 10 (uf (u2.1 284) 0 (u2.1 283 0)) = U at v1 v2 v3 hbU
      have p1 : (sS u2 284 U).1 283 = u2.1 283 := sS_o (by decide)
      have p2 : (sS u2 284 U).1 286 = u2.1 286 := sS_o (by decide)
      have p3 : (sS u2 284 U).1 275 = u2.1 275 := sS_o (by decide)
      have p4 : rowM (sS u2 284 U) = rowM u2 := by funext r; exact rowM_sS (by decide) (by decide) r
      have hq := q_218 (d := d) (u := sS u2 284 U) (nv := nv) (nr := nr) hv hnr (by rw [sS_o (by decide)]; exact c6) (fun r r0 r1 => gM_sS (by decide) (by decide) (cM r r0 r1)) (by rw [p3, p4]; exact cg) (by rw [p1]; exact cT) (by rw [p2]; exact cL)
      refine cV.mono hq (Nat.le_refl _) (fun u3 h3 => ?_)
      obtain ⟨A, G, N, e3, t1, t2, t3, t4⟩ := h3
      rw [p1, p2, p3, p4, c5, cr] at t1 t3
      rw [c5, cr] at v1 v3
      have w : ∀ b, b ≠ 290 → b ≠ 291 → b ≠ 287 → b ≠ 284 → u3.1 b = u2.1 b := fun b b1 b2 b3 b4 => by rw [e3, sF_o b1 b2 b3, sS_o b4]
      have w284 : u3.1 284 = U := by rw [e3, sF_o (by decide) (by decide) (by decide)]; exact sS_f
      have w287 : u3.1 287 = N := by rw [e3]; exact sF_N
      refine ⟨fun b hb => ?_, ?_, ?_, ?_, ?_, ?_⟩
      · simp only [List.mem_cons, List.not_mem_nil, or_false, not_or] at hb
        rw [w b (by omega) (by omega) (by omega) (by omega)]
        refine hs2 b (fun q => ?_)
        simp only [List.mem_cons, List.not_mem_nil, or_false] at q
        omega
      · rw [e3]
        exact h22
      · unfold LF vN at hLF ⊢
        rw [w 283 (by decide) (by decide) (by decide) (by decide), w 285 (by decide) (by decide) (by decide) (by decide), w 286 (by decide) (by decide) (by decide) (by decide), w 288 (by decide) (by decide) (by decide) (by decide), w 289 (by decide) (by decide) (by decide) (by decide)]
        exact hLF
      · rw [w284]; exact hbU
      · rw [w284, w 283 (by decide) (by decide) (by decide) (by decide)]
        refine ⟨v1, fun q => v2 0 (by rw [uf_eq]; exact q), fun S hS hst y hy hU => v3 S hS (fun z z0 z1 hz => ?_) y hy.1 hy.2 hU⟩
        by_cases e : z = 0
        · rw [e, uf_eq] at hz
          rw [e]
          exact hst hz
        · rw [uf_ne e, h284'] at hz
          exact absurd (h284 z z0 (by omega)) hz
      · refine ⟨A, G, ?_, t2, ?_, ?_⟩
        · rw [w 283 (by decide) (by decide) (by decide) (by decide), w 286 (by decide) (by decide) (by decide) (by decide)]
          exact t1
        · rw [w 283 (by decide) (by decide) (by decide) (by decide), w 286 (by decide) (by decide) (by decide) (by decide)]
          exact t3
        · rw [w287]; exact t4
    | succ m ih =>
      intro k u1 hk he hs h2 hz
      refine k_214_2 ⟨⟨by omega, by omega⟩, ?_⟩
      rw [if_pos (by omega)]
      refine ⟨hk, fun u4 e4 u6 e6 u8 e8 u10 e10 u12 e12 u14 e14 => ?_⟩
      have hs14 : sb1 u u14 lkL := by
        rw [e14, e12, e10, e8, e6, e4]
        exact sb1_wr (sb1_wr (sb1_wr (sb1_wr (sb1_wr (sb1_wr hs (by decide)) (by decide)) (by decide)) (by decide)) (by decide)) (by decide)
      refine ih (k + 1) u14 (by omega) (by omega) hs14 (by rw [e14, e12, e10, e8, e6, e4]; exact h2) (fun y y0 y1 => ?_)
      have f1 : u14.1 283 = uf (u1.1 283) k 0 := by rw [e14, e12, e10, e8, e6, e4, wr_ne (by decide), wr_ne (by decide), wr_ne (by decide), wr_ne (by decide), wr_ne (by decide), wr_uf]
      have f2 : u14.1 284 = uf (u1.1 284) k 0 := by rw [e14, e12, e10, e8, e6, e4, wr_ne (by decide), wr_ne (by decide), wr_ne (by decide), wr_ne (by decide), wr_uf, wr_ne (by decide)]
      have f3 : u14.1 285 = uf (u1.1 285) k 0 := by rw [e14, e12, e10, e8, e6, e4, wr_ne (by decide), wr_ne (by decide), wr_ne (by decide), wr_uf, wr_ne (by decide), wr_ne (by decide)]
      have f4 : u14.1 286 = uf (u1.1 286) k 0 := by rw [e14, e12, e10, e8, e6, e4, wr_ne (by decide), wr_ne (by decide), wr_uf, wr_ne (by decide), wr_ne (by decide), wr_ne (by decide)]
      have f5 : u14.1 288 = uf (u1.1 288) k 4000000000000000001 := by rw [e14, e12, e10, e8, e6, e4, wr_ne (by decide), wr_uf, wr_ne (by decide), wr_ne (by decide), wr_ne (by decide), wr_ne (by decide)]
      have f6 : u14.1 289 = uf (u1.1 289) k 4000000000000000001 := by rw [e14, e12, e10, e8, e6, e4, wr_uf, wr_ne (by decide), wr_ne (by decide), wr_ne (by decide), wr_ne (by decide), wr_ne (by decide)]
      rw [f1, f2, f3, f4, f5, f6]
      by_cases e : y = k
      · rw [e, uf_eq, uf_eq, uf_eq, uf_eq, uf_eq, uf_eq]
        exact ⟨rfl, rfl, rfl, rfl, rfl, rfl⟩
      · rw [uf_ne e, uf_ne e, uf_ne e, uf_ne e, uf_ne e, uf_ne e]
        exact hz y y0 (by omega)
  exact init 10 0 u (Int.le_refl 0) (by omega) (sb1_refl _ _) rfl (fun y y0 y1 => by omega)
