/-! The search from its beginning -/
theorem cV_ex {d j : Nat} {As : List Value} {u : uS} {Q : uS → Prop} (h : cV d j As u Q) : ∃ w, Q w := by
  obtain ⟨f, v, w', -, u', -, -, hq⟩ := h
  exact ⟨u', hq⟩
def fF : List Nat := [232, 244, 245, 246, 247, 248, 249, 250, 251, 252, 253, 254]
theorem q_144 {d mk : Nat} {M : Mg} {L H : T3} {u : uS} (hmk : mk = 59 ∨ mk = 61) (hMO : isO mk 5) (hM : Mok M) (h0 : u.1 6 0 = xv M) (h1 : u.1 6 1 = xr M) (h8 : u.1 8 = xh M) (h9 : u.1 9 = xl M) (h10 : ∀ r k : Int, u.1 10 (r * 6 + k) = xy M r k) (hd : ∀ o s : Int, u.1 (mk + 1) (o * 10 + s) = xd M o s) (hn : u.1 mk 0 = xn M) : cV (d + 3) 144 [.ref 232, .ref 6, .ref mk] u (fun w => w.2 = (wq (wq u 232 0 6) 232 1 mk).2 ∧ sb1 u w fF ∧ RIv M mk L H w ∧ (∀ x o q, ¬ Kv M w x o q) ∧ w.1 232 11 = 0 ∧ w.1 232 3 = -1 ∧ w.1 232 7 = 0 ∧ ∀ (r : Int) (d : Nat) (p q : Int), Ent M r d p q → 1 ≤ d → w.1 250 (pcx M w r d p q) = 9000000000000000000) := by
  obtain ⟨m1, m2, m3, m4, m5, m6⟩ := id hM
  obtain ⟨nb1, nb2, nb3, nb4⟩ := nn_b m1 m4
  refine e_144 sx_6 hMO (fun u1 e1 u3 e3 => ?_)
  have r1 : u3.2 232 1 = mk := by rw [e3, wq_2, if_pos ⟨rfl, rfl⟩]
  have r0 : u3.2 232 0 = 6 := by rw [e3, wq_2, if_neg (by omega), e1, wq_2, if_pos ⟨rfl, rfl⟩]
  have f3 : u3.1 = u.1 := by rw [e3, wq_1, e1, wq_1]
  rw [r1, f3, hn]
  refine ⟨hMO, ⟨by omega, by omega⟩, fun u6 e6 u8 e8 u10 e10 u12 e12 => ?_⟩
  have g : ∀ b, b ≠ 232 → u12.1 b = u.1 b := fun b hb => by rw [e12, wr_ne hb, e10, wr_ne hb, e8, wr_ne hb, e6, wr_ne hb, f3]
  have g32 : u12.1 232 2 = xn M ∧ u12.1 232 3 = -1 ∧ u12.1 232 7 = 0 ∧ u12.1 232 11 = 0 := by
    rw [e12, wr_uf, e10, wr_uf, e8, wr_uf, e6, wr_uf]
    refine ⟨?_, ?_, ?_, ?_⟩
    · rw [uf_ne (by decide), uf_ne (by decide), uf_ne (by decide), uf_eq]
      omega
    · rw [uf_ne (by decide), uf_ne (by decide), uf_eq]
    · rw [uf_ne (by decide), uf_eq]
    · rw [uf_eq]
  have g2 : u12.2 = (wq (wq u 232 0 6) 232 1 mk).2 := by rw [e12, wr_2, e10, wr_2, e8, wr_2, e6, wr_2, e3, e1]
  rw [g32.1]
  generalize hQQ : (fun w : uS => w.2 = (wq (wq u 232 0 6) 232 1 mk).2 ∧ sb1 u w fF ∧ RIv M mk L H w ∧ (∀ x o q, ¬ Kv M w x o q) ∧ w.1 232 11 = 0 ∧ w.1 232 3 = -1 ∧ w.1 232 7 = 0 ∧ ∀ (r : Int) (d : Nat) (p q : Int), Ent M r d p q → 1 ≤ d → w.1 250 (pcx M w r d p q) = 9000000000000000000) = Q
  have stp : ∀ r : Int, 0 ≤ r → r < xr M → 0 ≤ max 0 (xl M r - 1) * ((xn M : Int) * xn M) ∧ max 0 (xl M r - 1) * ((xn M : Int) * xn M) ≤ 8000 := fun r q0 q1 => by
    have := (m5 r q0 q1).2.2.1
    have a1 : max 0 (xl M r - 1) * ((xn M : Int) * xn M) ≤ 5 * ((xn M : Int) * xn M) := Int.mul_le_mul_of_nonneg_right (by omega) nb1
    exact ⟨Int.mul_nonneg (by omega) nb1, by omega⟩
  have loop : ∀ (m r : Nat) (parts : Int) (w : uS), r + m = xr M → 0 ≤ parts → parts ≤ r * 8000 → w.2 = u12.2 → sb1 u12 w [252] → (∀ r' : Int, 0 ≤ r' → r' < r → 0 ≤ w.1 252 r' ∧ w.1 252 r' + max 0 (xl M r' - 1) * ((xn M : Int) * xn M) ≤ parts) → (∀ r1 r2 : Int, 0 ≤ r1 → r1 < r2 → r2 < r → w.1 252 r1 + max 0 (xl M r1 - 1) * ((xn M : Int) * xn M) ≤ w.1 252 r2) → K_144 (d + 2) 56 [.ref 232, .retAddr 0, .retAddr 0, iV ((xn M : Int) * xn M), iV parts, iV (r : Int)] [] w Q := by
    intro m
    induction m with
    | zero =>
      intro r parts w hr p0 p1 w2 ws wF wD
      have wg : ∀ b, b ≠ 232 → b ≠ 252 → w.1 b = u.1 b := fun b q1 q2 => (ws b (by simp only [List.mem_singleton]; exact q2)).trans (g b q1)
      have w32 : w.1 232 = u12.1 232 := ws _ (by decide)
      have hw0 : w.2 232 0 = 6 := by rw [w2, g2, wq_2, if_neg (by omega), wq_2, if_pos ⟨rfl, rfl⟩]
      have hw1 : w.2 232 1 = mk := by rw [w2, g2, wq_2, if_pos ⟨rfl, rfl⟩]
      refine k_144_56 ?_
      rw [hw0, wg 6 (by omega) (by omega), h1]
      refine ⟨sx_6, ⟨by omega, by omega⟩, ⟨by omega, by omega⟩, ?_⟩
      rw [if_neg (by omega)]
      refine ⟨p0, by omega, fun a ea => ?_⟩
      have a2 : a.2 232 0 = 6 := by rw [ea, fil_2]; exact hw0
      have a6 : a.1 6 0 = xv M := by rw [ea, fil_ne (by omega), wg 6 (by omega) (by omega)]; exact h0
      rw [a2, a6]
      refine ⟨sx_6, Int.mul_nonneg (by omega) nb1, nb3, fun b eb c ec => ?_⟩
      have f : ∀ k, k ≠ 247 → k ≠ 249 → k ≠ 250 → c.1 k = w.1 k := fun k q1 q2 q3 => by rw [ec, fil_ne q1, eb, fil_ne q2, ea, fil_ne q3]
      have c2 : c.2 = u12.2 := by rw [ec, fil_2, eb, fil_2, ea, fil_2]; exact w2
      have c47 : ∀ j : Int, 0 ≤ j → j < 400 → c.1 247 j = 0 := fun j j0 j1 => by rw [ec, fil_1, if_pos ⟨rfl, j0, j1⟩]
      have c49 : ∀ j : Int, 0 ≤ j → j < (xv M : Int) * ((xn M : Int) * xn M) → c.1 249 j = 0 := fun j j0 j1 => by rw [ec, fil_ne (by omega), eb, fil_1, if_pos ⟨rfl, j0, j1⟩]
      have c50 : ∀ j : Int, 0 ≤ j → j < parts → c.1 250 j = 9000000000000000000 := fun j j0 j1 => by rw [ec, fil_ne (by omega), eb, fil_ne (by omega), ea, fil_1, if_pos ⟨rfl, j0, j1⟩]
      have c32 : c.1 232 = u12.1 232 := (f _ (by omega) (by omega) (by omega)).trans w32
      have hnoK : ∀ x o q, ¬ Kv M c x o q := fun x o q ⟨hx, ho, hq, hb⟩ => by
        have := hx.1
        have := hx.2
        have := ho.1
        have := ho.2
        rw [c47 _ (by omega) (by omega), bt_0] at hb
        cases hb
      have hfOK : fOK M (c.1 252) := by
        rw [f 252 (by omega) (by omega) (by omega)]
        refine ⟨fun r' q0 q1 => ?_, fun a b q0 q1 q2 => wD a b q0 q1 (by omega)⟩
        obtain ⟨z1, z2⟩ := wF r' q0 (by omega)
        exact ⟨z1, by omega⟩
      have hparts : ∀ (r' : Int) (dd : Nat) (p q : Int), Ent M r' dd p q → 1 ≤ dd → c.1 250 (pcx M c r' dd p q) = 9000000000000000000 := fun r' dd p q ⟨q0, q1, q2, q3, q4⟩ hd1 => by
        obtain ⟨z1, z2, z3, -⟩ := pcx_b hM hfOK q0 q1 q3 q4 hd1 q2
        have := (wF r' q0 (by omega)).2
        rw [f 252 (by omega) (by omega) (by omega)] at z2
        exact c50 _ z3 (by omega)
      have elz : ∀ a, ¬ elH (c.1 248) (c.1 232 11) a := fun a ⟨i, i0, i1, _⟩ => by
        rw [c32, g32.2.2.2] at i1
        omega
      rw [← hQQ]
      refine ⟨by rw [c2]; exact g2, fun k hk => ?_, ⟨⟨by rw [c2, ← w2]; exact hw0, by rw [c2, ← w2]; exact hw1, ?_, ?_, ?_, ?_, fun r k => ?_, fun o s => ?_, by rw [c32]; exact g32.1⟩, fun x o hx ho => ?_, hfOK, fun x o q hk => absurd hk (hnoK x o q), ⟨by rw [c32, g32.2.2.2]; exact Int.le_refl 0, by rw [c32, g32.2.2.2]; omega, fun i i0 i1 => absurd ⟨i, i0, i1, rfl⟩ (elz (c.1 248 i)), fun i i0 i1 => absurd ⟨i, by omega, i1, rfl⟩ (elz (c.1 248 i))⟩, fun a ha => absurd ha (elz a), fun x o q hx ho hq _ => Or.inl ?_, fun x o q _ _ _ hel => absurd hel (elz _), fun r' p q q0 q1 q3 q4 dd d1 d2 => Or.inl (hparts r' dd p q ⟨q0, q1, d2, q3, q4⟩ d1)⟩, hnoK, by rw [c32]; exact g32.2.2.2, by rw [c32]; exact g32.2.1, by rw [c32]; exact g32.2.2.1, hparts⟩
      · simp only [fF, List.mem_cons, List.not_mem_nil, or_false, not_or] at hk
        rw [f k (by omega) (by omega) (by omega), wg k (by omega) (by omega)]
      · rw [f 6 (by omega) (by omega) (by omega), wg 6 (by omega) (by omega)]; exact h0
      · rw [f 6 (by omega) (by omega) (by omega), wg 6 (by omega) (by omega)]; exact h1
      · rw [f 8 (by omega) (by omega) (by omega), wg 8 (by omega) (by omega)]; exact h8
      · rw [f 9 (by omega) (by omega) (by omega), wg 9 (by omega) (by omega)]; exact h9
      · rw [f 10 (by omega) (by omega) (by omega), wg 10 (by omega) (by omega)]; exact h10 r k
      · rw [f (mk + 1) (by omega) (by omega) (by omega), wg (mk + 1) (by omega) (by omega)]; exact hd o s
      · have := hx.1
        have := hx.2
        have := ho.1
        have := ho.2
        rw [c47 _ (by omega) (by omega)]
        exact ⟨⟨by omega, by omega⟩, fun i hi => by rw [bt_0] at hi; cases hi⟩
      · obtain ⟨-, -, z3, z4⟩ := tcx_b hx ho hq
        exact c49 _ z3 z4
    | succ m ih =>
      intro r parts w hr p0 p1 w2 ws wF wD
      have wg : ∀ b, b ≠ 232 → b ≠ 252 → w.1 b = u.1 b := fun b q1 q2 => (ws b (by simp only [List.mem_singleton]; exact q2)).trans (g b q1)
      have hw0 : w.2 232 0 = 6 := by rw [w2, g2, wq_2, if_neg (by omega), wq_2, if_pos ⟨rfl, rfl⟩]
      obtain ⟨l1, l2, l3, l4⟩ := m5 r (by omega) (by omega)
      obtain ⟨t1, t2⟩ := stp r (by omega) (by omega)
      refine k_144_56 ?_
      rw [hw0, wg 6 (by omega) (by omega), h1]
      refine ⟨sx_6, ⟨by omega, by omega⟩, ⟨by omega, by omega⟩, ?_⟩
      rw [if_pos (by omega)]
      refine ⟨by omega, by omega, fun z ez => ?_⟩
      have z0 : z.2 232 0 = 6 := by rw [ez, wr_2]; exact hw0
      have z9 : z.1 (6 + 3) = xl M := by
        show z.1 9 = _
        rw [ez, wr_ne (by omega), wg 9 (by omega) (by omega)]
        exact h9
      rw [z0, z9]
      refine ⟨sx_6, ⟨by omega, by omega⟩, ?_⟩
      have z52 : z.1 252 = uf (w.1 252) r parts := by rw [ez, wr_uf]
      have := ih (r + 1) (parts + max 0 (xl M r - 1) * ((xn M : Int) * xn M)) z (by omega) (by omega) (by omega) (by rw [ez, wr_2]; exact w2) (by rw [ez]; exact sb1_wr ws (by decide)) (fun r' q0 q1 => ?_) (fun a b q0 q1 q2 => ?_)
      · rw [Int.natCast_succ] at this
        exact this
      · rw [z52]
        by_cases e : r' = r
        · rw [e, uf_eq]
          exact ⟨p0, Int.le_refl _⟩
        · rw [uf_ne e]
          obtain ⟨y1, y2⟩ := wF r' q0 (by omega)
          exact ⟨y1, by omega⟩
      · rw [z52, uf_ne (by omega)]
        by_cases e : b = r
        · rw [e, uf_eq]
          exact (wF a q0 (by omega)).2
        · rw [uf_ne e]
          exact wD a b q0 q1 (by omega)
  exact loop (xr M) 0 0 u12 (by omega) (Int.le_refl 0) (by omega) rfl (sb1_refl _ _) (fun r' q0 q1 => by omega) (fun a b q0 q1 q2 => by omega)
/-- of equals the first one -/
theorem pop_tie {M : Mg} {mk : Nat} {L H : T3} {v : uS} {y a b x o q : Int} (hM : Mok M) (hS : LHs M L H) (hR : RIv M mk L H v) (hC : ∀ (r : Int) (d : Nat) (p q : Int), Ent M r d p q → CI M L H v r d p q) (h0 : ∀ r p : Int, 0 ≤ r → r < xr M → xl M r = 0 → iR (xn M) p → rc M v r 0 p p 0 0) (hy : iR (xv M) y) (ha : iR (xn M) a) (hb : iR (xn M) b) (hel : elH (v.1 248) (v.1 232 11) (tcx (xn M) y a b)) (hmin : ∀ a', elH (v.1 248) (v.1 232 11) a' → ¬ ls v a' (tcx (xn M) y a b)) (hf : Fe M L x o q) (hK : ¬ Kv M v x o q) (eL : L y a b = L x o q) (eH : H y a b = H x o q) : tcx (xn M) y a b ≤ tcx (xn M) x o q := by
  obtain ⟨r1, r2, r3, r4, r5⟩ := pop_right hM hS hR hC h0 hy ha hb hel hmin
  obtain ⟨r, c, g, k0, k1, kx, hw, hc, hg⟩ := hS.2.2 x o q hf
  rcases wk_or hS (K := Kv M v) (fun _ _ _ h => h) _ _ _ _ hw with w | ⟨x', o', q', q1, q2, q3, q4⟩
  · have hl0 := (hM.2.2.2.2.1 r k0 k1).2.1
    have hrc := all_rc hS hR (fun r d p q e0 e1 e2 e3 e4 => hC r d p q ⟨e0, e1, e2, e3, e4⟩) h0 k0 k1 hf.2.1 (xl M r).toNat q c g (by omega) hf.2.2.1 (wk_mono (fun _ _ _ h => h.2) _ _ _ _ w) (by omega) (by omega)
    unfold rc at hrc
    rw [if_neg (by omega), kx] at hrc
    rcases hrc with e | ⟨e1, e2⟩
    · exact absurd e hK
    · have hn := hmin _ e1
      unfold ls at hn
      omega
  · have := r5 x' o' q' q1 q2
    omega
theorem k143_stop {d : Nat} {Q : Int → uS → Prop} {u : uS} {l3 b : Int} (h3 : rI l3) (h11 : rI (u.1 232 11)) (hb : u.1 232 3 = b) (hb0 : b ≠ -1) (hbr : rI b) (hend : K_143 (d + 2) 121 [.ref 232, .retAddr 0, .retAddr 0, .retAddr 0, .retAddr 0] [] u Q) : K_143 (d + 2) 57 [.ref 232, .retAddr 0, .retAddr 0, iV l3, .retAddr 0] [] u Q := by
  refine k_143_57 ⟨h3, ?_⟩
  split
  · refine ⟨h11, ?_⟩
    split
    · rw [hb]
      refine ⟨hbr, ?_⟩
      rw [if_neg hb0]
      exact hend
    · exact hend
  · exact hend

set_option maxRecDepth 8000 in
theorem q_143 {d mk : Nat} {M : Mg} {L H : T3} {u : uS} {b0 : Int} (hmk : mk = 59 ∨ mk = 61) (hMO : isO mk 5) (hM : Mok M) (hS : LHs M L H) (hv1 : 1 ≤ xv M) (h0 : u.1 6 0 = xv M) (h1 : u.1 6 1 = xr M) (h8 : u.1 8 = xh M) (h9 : u.1 9 = xl M) (h10 : ∀ r k : Int, u.1 10 (r * 6 + k) = xy M r k) (hd : ∀ o s : Int, u.1 (mk + 1) (o * 10 + s) = xd M o s) (hn : u.1 mk 0 = xn M) (hb0 : iR (xn M) b0) (hl0 : bt (u.1 mk 1) b0.toNat = false) (hf0 : Fe M L 0 0 b0) : cI (d + 17) 143 [.ref 232, .ref 6, .ref mk] u (fun c w => c = 1 ∧ w.2 = (wq (wq u 232 0 6) 232 1 mk).2 ∧ sb1 u w fF ∧ RES M mk L H w) := by
  obtain ⟨m1, m2, m3, m4, m5, m6⟩ := id hM
  obtain ⟨nb1, nb2, nb3, nb4⟩ := nn_b m1 m4
  have hz0 : iR (xv M) 0 := ⟨by omega, by omega⟩
  have hzn : iR (xn M) 0 := ⟨by omega, by omega⟩
  have hmF : mk ∉ fF := by simp only [fF, List.mem_cons, List.not_mem_nil, or_false]; omega
  generalize hQQ : (fun (c : Int) (w : uS) => c = 1 ∧ w.2 = (wq (wq u 232 0 6) 232 1 mk).2 ∧ sb1 u w fF ∧ RES M mk L H w) = Q
  refine e_143 sx_6 hMO (cV.mono (q_144 (d := d + 13) (L := L) (H := H) hmk hMO hM h0 h1 h8 h9 h10 hd hn) (by omega) (fun v ⟨v1, v2, v3, v4, v5, v6, v7, v8⟩ => ?_))
  -- the frame
  let Fr : uS → Prop := fun w => w.2 = v.2 ∧ sb1 u w fF
  -- the turns
  have last : ∀ (w : uS) (s : Nat), Fr w → FI M mk L H w s → w.1 232 3 = -1 → (∀ b, iR (xn M) b → bt (w.1 mk 1) b.toNat = false → ¬ Kv M w 0 0 b) → (∀ x o q, Fe M L x o q → L x o q < 4000000000000000000 → Kv M w x o q) → K_143 (d + 16) 121 [.ref 232, .retAddr 0, .retAddr 0, .retAddr 0, .retAddr 0] [] w Q := by
    intro w s wF wI wroot wno wall
    obtain ⟨i1, i2, i3, i4, i5, i6⟩ := id wI
    refine k_143_121 ?_
    rw [wroot]
    refine ⟨by decide, ?_⟩
    rw [if_pos rfl]
    refine cV.mono (q_162 (d := d + 7) (b0 := b0) hmk hMO hM hS hv1 i1.1 i1.2.1 i1.2.2.2.1 i4 i6 wall wroot wno hb0 (by rw [wF.2 mk hmF]; exact hl0) hf0) (by omega) (fun z ⟨z1, z2, z3⟩ => ?_)
    obtain ⟨s', b, y1, y2, y3, y4, y5, y6⟩ := id z3
    have yb := y5.2.2.1.1
    have yb2 := y5.2.2.1.2
    rw [y4]
    refine ⟨⟨by omega, by omega⟩, ?_⟩
    rw [if_neg (by omega), ← hQQ]
    refine ⟨rfl, z1.trans (wF.1.trans v1), fun c hc => (z2 c (fun hh => hc ?_)).trans (wF.2 c hc), z3⟩
    simp only [fG, fF, List.mem_cons, List.not_mem_nil, or_false] at hh ⊢
    omega
  have turns : ∀ (m s : Nat) (w : uS), s + m = 16000 → Fr w → FI M mk L H w s → w.1 232 3 = -1 → (∀ b, iR (xn M) b → bt (w.1 mk 1) b.toNat = false → ¬ Kv M w 0 0 b) → K_143 (d + 16) 57 [.ref 232, .retAddr 0, .retAddr 0, iV (s : Int), .retAddr 0] [] w Q := by
    intro m
    induction m with
    | zero =>
      intro s w hs wF wI wroot wno
      refine k_143_57 ⟨⟨by omega, by omega⟩, ?_⟩
      rw [if_neg (by omega)]
      refine last w s wF wI wroot wno (fun x o q hf _ => ?_)
      -- all are known
      have hct := wI.2.2.2.1.2.1
      obtain ⟨-, -, z3, z4⟩ := tcx_b hf.1 hf.2.1 hf.2.2.1
      have := ct_full (p := fun a => pd (∃ x o q, Kv M w x o q ∧ (a : Int) = tcx (xn M) x o q)) 16000 (by omega) (tcx (xn M) x o q).toNat (by omega)
      rw [pd_t] at this
      obtain ⟨x', o', q', k1, k2⟩ := this
      rw [show (((tcx (xn M) x o q).toNat : Nat) : Int) = tcx (xn M) x o q by omega] at k2
      obtain ⟨e1, e2, e3⟩ := tcx_i hf.2.1 hf.2.2.1 k1.2.1 k1.2.2.1 k2
      rw [e1, e2, e3]
      exact k1
    | succ m ih =>
      intro s w hs wF wI wroot wno
      obtain ⟨i1, i2, i3, i4, i5, i6⟩ := id wI
      obtain ⟨a1, a2, a3, a4, a5, a6, a7, a8, a9⟩ := id i1
      have hc16 := a5.2.1
      have hc0 := a5.1
      refine k_143_57 ⟨⟨by omega, by omega⟩, ?_⟩
      rw [if_pos (by omega)]
      refine ⟨⟨by omega, by omega⟩, ?_⟩
      by_cases hpos : 0 < w.1 232 11
      · rw [if_pos hpos, wroot]
        refine ⟨by decide, ?_⟩
        rw [if_pos rfl]
        refine cI.mono (q_157 (d := d + 13) a5 rfl (by omega)) (by omega) (fun c z ⟨z1, z2, z3, z4, z5, z6, z7, z8⟩ => ?_)
        have hel0 : elH (w.1 248) (w.1 232 11) c := ⟨0, Int.le_refl 0, hpos, z1.symm⟩
        obtain ⟨y, a, b, hy, ha, hb, hcy, hnk⟩ := a6 c hel0
        have hmin : ∀ a', elH (w.1 248) (w.1 232 11) a' → ¬ ls w a' (tcx (xn M) y a b) := fun a' ⟨i, j0, j1, j2⟩ => by
          rw [← j2, ← hcy, z1]
          exact HP_min a5 i.toNat i (by omega) j0 j1
        rw [hcy] at hel0 z7 ⊢
        obtain ⟨b1, b2, b3, b4⟩ := tcx_b hy ha hb
        obtain ⟨d1, d2, d3, d4⟩ := tcx_d (x := y) ha hb
        have y0 := hy.1
        have y1 := hy.2
        have p0 := ha.1
        have p1 := ha.2
        have q0 := hb.1
        have q1 := hb.2
        have zs7 : z.1 232 7 = s := by rw [z5 7 (by decide)]; exact i4.1
        rw [zs7]
        refine ⟨by omega, by omega, fun w1 e1 w2 e2 => ?_⟩
        have w1s : w1.1 232 7 = s := by rw [e1, wr_ne (by omega)]; exact zs7
        rw [w1s] at e2
        have w22 : w2.1 232 2 = xn M := by rw [e2, wr_uf, uf_ne (by decide), e1, wr_ne (by omega), z5 2 (by decide)]; exact a1.2.2.2.2.2.2.2.2
        rw [w22, Int.tdiv_eq_ediv_of_nonneg b3, Int.tmod_eq_emod_of_nonneg b3, d1, d2, Int.tdiv_eq_ediv_of_nonneg b1, Int.tmod_eq_emod_of_nonneg b1, d3, d4]
        refine ⟨⟨by omega, by omega⟩, ⟨by omega, by omega⟩, by omega, ⟨by omega, by omega⟩, by omega, by omega, fun w3 e3 => ?_⟩
        obtain ⟨t1, t2, t3, t4, t5, t6, t7, t8, t9, t10⟩ := settle1 hmk hM hS wI hy ha hb hel0 hmin z2 z3 z4 z5 z6 z7 z8 e1 e2 e3
        have w3F : Fr w3 := by
          refine ⟨by rw [e3, wr_2, e2, wr_2, e1, wr_2, z3]; exact wF.1, ?_⟩
          rw [e3, e2, e1]
          refine sb1_wr (sb1_wr (sb1_wr (fun c hc => (z4 c (fun hh => hc ?_)).trans (wF.2 c hc)) (by decide)) (by decide)) (by decide)
          simp only [fF, List.mem_cons, List.not_mem_nil, or_false] at hh ⊢
          omega
        have w32 : w3.1 232 2 = xn M := t1.1.2.2.2.2.2.2.2.2
        have w33 : w3.1 232 3 = -1 := by rw [e3, wr_ne (by omega), e2, wr_uf, uf_ne (by decide), e1, wr_ne (by omega), z5 3 (by decide)]; exact wroot
        have w3m : w3.1 mk = w.1 mk := (w3F.2 mk hmF).trans (wF.2 mk hmF).symm
        -- on with the others
        have spread : (∀ b', iR (xn M) b' → bt (w3.1 mk 1) b'.toNat = false → ¬ Kv M w3 0 0 b') → cV (d + 16) 160 [.ref 232, iV (tcx (xn M) y a b)] w3 (fun x => K_143 (d + 16) 57 [.ref 232, .retAddr 0, .retAddr 0, iV ((s : Int) + 1), .retAddr 0] [] x Q) := by
          intro hno3
          refine cV.mono (q_160 (dd := d + 1) (K := Kv M w) hmk hMO hM hS t1 ((t6 y a b).mpr (Or.inr ⟨rfl, rfl, rfl⟩)) t7 (fun x o q h => (t6 x o q).mp h) t2) (by omega) (fun x ⟨x1, x2, x3, x4⟩ => ?_)
          have eKx := (RF_K x2).1
          have := ih (s + 1) x (by omega) ⟨x2.1.trans w3F.1, fun c hc => (x2.2.1 c (fun hh => hc (by simp only [fF, List.mem_cons, List.not_mem_nil, or_false] at hh ⊢; omega))).trans (w3F.2 c hc)⟩ ⟨x1, x4, fun r p r0 r1 r2 hp => x3 r 0 p p 0 0 r0 r1 (by omega) (Or.inr r2) hp hp (t3 r p r0 r1 r2 hp), ?_, by rw [eKx]; exact t8, by rw [eKx]; exact t9⟩ (by rw [x2.2.2 3 (by decide)]; exact w33) (fun b' hb' hl' => ?_)
          · rw [Int.natCast_succ] at this
            exact this
          · unfold OD at t4 ⊢
            rw [eKx, x2.2.2 7 (by decide), x2.2.1 246 (by decide)]
            exact t4
          · rw [eKx]
            refine hno3 b' hb' ?_
            rw [← x2.2.1 mk (by simp only [List.mem_cons, List.not_mem_nil, or_false]; omega)]
            exact hl'
        rw [w32]
        refine ⟨⟨by omega, by omega⟩, ?_⟩
        have hxo : tcx (xn M) y a b < xn M ↔ y = 0 ∧ a = 0 := by
          constructor
          · intro hlt
            have h2 := Int.ediv_eq_zero_of_lt b3 hlt
            rw [d1] at h2
            rw [h2] at d3 d4
            have e1 : (0 : Int) / (xn M : Int) = 0 := Int.zero_ediv _
            have e2 : (0 : Int) % (xn M : Int) = 0 := Int.zero_emod _
            exact ⟨by rw [← d3, e1], by rw [← d4, e2]⟩
          · rintro ⟨ey, ea⟩
            rw [ey, ea]
            unfold tcx
            rw [Int.zero_mul, Int.add_zero, Int.zero_mul]
            omega
        by_cases hroot : tcx (xn M) y a b < xn M
        · rw [if_pos hroot]
          obtain ⟨ey, ea⟩ := hxo.mp hroot
          have etc : tcx (xn M) y a b = b := by
            rw [ey, ea]
            unfold tcx
            rw [Int.zero_mul, Int.add_zero, Int.zero_mul]
            omega
          have hw31 : w3.2 232 1 = mk := t1.1.2.1
          rw [hw31]
          refine ⟨hMO, ?_⟩
          rw [etc, bit_l q0 (by omega)]
          by_cases hl : bt (w3.1 mk 1) b.toNat = true
          · rw [if_pos hl, if_neg (by decide)]
            rw [← etc]
            refine spread (fun b' hb' hl' hk => ?_)
            rcases (t6 0 0 b').mp hk with k | ⟨-, -, k⟩
            · exact wno b' hb' (by rw [← w3m]; exact hl') k
            · rw [k, hl] at hl'
              cases hl'
          · rw [if_neg hl, if_pos rfl]
            intro w4 e4
            have hlf : bt (w3.1 mk 1) b.toNat = false := by
              cases hh : bt (w3.1 mk 1) b.toNat with
              | false => rfl
              | true => exact absurd hh hl
            have f4 : ∀ c, c ≠ 232 → w4.1 c = w3.1 c := fun c hc => by rw [e4, wr_ne hc]
            have f432 : w4.1 232 = uf (w3.1 232) 3 b := by rw [e4, wr_uf]
            have eK4 : Kv M w4 = Kv M w3 := by
              show Fg (xv M) (xn M) (w4.1 247) = Fg (xv M) (xn M) (w3.1 247)
              rw [f4 247 (by omega)]
            have hk3 : Kv M w3 0 0 b := (t6 0 0 b).mpr (Or.inr ⟨ey.symm, ea.symm, rfl⟩)
            have hres : RES M mk L H w4 := by
              refine ⟨s + 1, b, ?_, by rw [f4 247 (by omega)]; exact t1.2.1, by rw [f432, uf_ne (by decide)]; exact w32, by rw [f432, uf_eq], by rw [eK4]; exact hk3, by rw [f4 mk (by omega)]; exact hlf, fun x o q hk => by rw [eK4] at hk; rw [f4 244 (by omega), f4 245 (by omega)]; exact t1.2.2.2.1 x o q hk, fun k1 k2 k3 x o q hk hf hL hH => ?_, fun q hq hlq hf => ?_⟩
              · unfold OD at t4 ⊢
                rw [eK4, f432, uf_ne (by decide), f4 246 (by omega)]
                exact t4
              · rw [eK4] at hk ⊢
                by_cases hkk : Kv M w3 x o q
                · exact hkk
                · have := t8 k1 k2 k3 x o q hk hf hkk
                  omega
              · rw [f4 mk (by omega), w3m] at hlq
                have hnq := wno q hq hlq
                have h5 := t10 0 0 q hf hnq
                rw [ey, ea] at h5
                by_cases et : L 0 0 b = L 0 0 q ∧ H 0 0 b = H 0 0 q
                · have := pop_tie hM hS i1 i2 i3 hy ha hb hel0 hmin hf hnq (by rw [ey, ea]; exact et.1) (by rw [ey, ea]; exact et.2)
                  have eq : tcx (xn M) 0 0 q = q := by
                    unfold tcx
                    rw [Int.zero_mul, Int.add_zero, Int.zero_mul]
                    omega
                  rw [etc, eq] at this
                  exact Or.inr ⟨et.1, Or.inr ⟨et.2, this⟩⟩
                · omega
            have fin : Q 1 w4 := by
              rw [← hQQ]
              refine ⟨rfl, by rw [e4, wr_2]; exact w3F.1.trans v1, ?_, hres⟩
              rw [e4]
              exact sb1_wr w3F.2 (by decide)
            have hend : K_143 (d + 16) 121 [.ref 232, .retAddr 0, .retAddr 0, .retAddr 0, .retAddr 0] [] w4 Q := by
              refine k_143_121 ?_
              have e3' : w4.1 232 3 = b := by rw [f432, uf_eq]
              rw [e3']
              refine ⟨⟨by omega, by omega⟩, ?_⟩
              rw [if_neg (by omega)]
              exact fin
            have hhp := t1.2.2.2.2.1
            have e11 : w4.1 232 11 = w3.1 232 11 := by rw [f432, uf_ne (by decide)]
            have hr11 : rI (w4.1 232 11) := by
              rw [e11]
              have := hhp.1
              have := hhp.2.1
              exact ⟨by omega, by omega⟩
            have e3' : w4.1 232 3 = b := by rw [f432, uf_eq]
            exact k143_stop (d := d + 14) ⟨by omega, by omega⟩ hr11 e3' (by omega) ⟨by omega, by omega⟩ hend
        · rw [if_neg hroot]
          refine spread (fun b' hb' hl' hk => ?_)
          rcases (t6 0 0 b').mp hk with k | ⟨k1, k2, -⟩
          · exact wno b' hb' (by rw [← w3m]; exact hl') k
          · exact hroot (hxo.mpr ⟨k1.symm, k2.symm⟩)
      · rw [if_neg hpos]
        refine last w s wF wI wroot wno (fun x o q hf hL => ?_)
        by_cases hK : Kv M w x o q
        · exact hK
        · exfalso
          obtain ⟨x', o', q', f1, f2, f3, f4, r', c', g', k0, k1, kx, kw, kc, kg⟩ := wk_next hS (K := Kv M w) (H x o q).toNat x o q hf hK (by omega)
          have hl0' := (m5 r' k0 k1).2.1
          have hrc := all_rc hS i1 (fun r d p q e0 e1 e2 e3 e4 => i2 r d p q ⟨e0, e1, e2, e3, e4⟩) i3 k0 k1 f1.2.1 (xl M r').toNat q' c' g' (by omega) f1.2.2.1 (wk_mono (fun _ _ _ h => h.2) _ _ _ _ kw) (by omega) (by omega)
          unfold rc at hrc
          rw [if_neg (by omega), kx] at hrc
          rcases hrc with e | ⟨⟨i, j0, j1, -⟩, -⟩
          · exact f2 e
          · omega
  -- first, all rules from all states
  have rules : ∀ (m r : Nat) (w : uS), r + m = xr M → RIv M mk L H w → RF M v w → (∀ (r' : Int) (d : Nat) (p q : Int), Ent M r' d p q → 1 ≤ d ∨ r' < r ∨ q ≠ p → CI M L H w r' d p q) → (∀ r' p : Int, 0 ≤ r' → r' < r → xl M r' = 0 → iR (xn M) p → rc M w r' 0 p p 0 0) → K_143 (d + 16) 8 [.ref 232, .retAddr 0, .retAddr 0, iV (r : Int), .retAddr 0] [] w Q := by
    intro m
    induction m with
    | zero =>
      intro r w hr wR wF wC w0
      obtain ⟨s1, s2, s3, s4, -⟩ := wR.1
      have eK := (RF_K wF).1
      have nK : ∀ x o q, ¬ Kv M w x o q := fun x o q => by rw [eK]; exact v4 x o q
      refine k_143_8 ?_
      rw [s1, s4]
      refine ⟨sx_6, ⟨by omega, by omega⟩, ⟨by omega, by omega⟩, ?_⟩
      rw [if_neg (by omega)]
      refine turns 16000 0 w (by omega) ⟨wF.1, fun c hc => (wF.2.1 c (fun hh => hc (by simp only [fF, List.mem_cons, List.not_mem_nil, or_false] at hh ⊢; omega))).trans (v2 c hc)⟩ ⟨wR, fun r' d p q he => wC r' d p q he (Or.inr (Or.inl (by have := he.2.1; omega))), fun r' p r0 r1 => w0 r' p r0 (by omega), ⟨by rw [wF.2.2 7 (by decide)]; exact v7, ?_, fun i i0 i1 => by omega, fun x o q hk => absurd hk (nK x o q), fun i x o q x' o' q' i0 i1 => by omega⟩, fun k1 k2 k3 x o q hk => absurd hk (nK _ _ _), fun x o q hk => absurd hk (nK _ _ _)⟩ (by rw [wF.2.2 3 (by decide)]; exact v6) (fun b _ _ => nK 0 0 b)
      exact (ct_zero 16000 (fun i _ => by rw [pd_f]; rintro ⟨x, o, q, hk, -⟩; exact nK x o q hk)).symm
    | succ m ih =>
      intro r w hr wR wF wC w0
      obtain ⟨s1, s2, s3, s4, -⟩ := wR.1
      have r0 : (0 : Int) ≤ r := by omega
      have r1 : (r : Int) < xr M := by omega
      obtain ⟨l1, l2, l3, l4⟩ := m5 r r0 r1
      refine k_143_8 ?_
      rw [s1, s4]
      refine ⟨sx_6, ⟨by omega, by omega⟩, ⟨by omega, by omega⟩, ?_⟩
      rw [if_pos (by omega)]
      have states : ∀ (n' : Nat) (p : Int) (z : uS), 0 ≤ p → p + n' = xn M → RIv M mk L H z → RF M v z → (∀ (r' : Int) (d : Nat) (p' q : Int), Ent M r' d p' q → 1 ≤ d ∨ r' < r ∨ q ≠ p' ∨ (r' = r ∧ p' < p) → CI M L H z r' d p' q) → (∀ r' p' : Int, 0 ≤ r' → r' < r ∨ (r' = r ∧ p' < p) → xl M r' = 0 → iR (xn M) p' → rc M z r' 0 p' p' 0 0) → K_143 (d + 16) 22 [.ref 232, .retAddr 0, .retAddr 0, iV (r : Int), iV p] [] z Q := by
        intro n'
        induction n' with
        | zero =>
          intro p z p0 pe zR zF zC z0
          have z9 := zR.1.2.2.2.2.2.2.2.2
          refine k_143_22 ⟨⟨by omega, by omega⟩, ?_⟩
          rw [z9]
          refine ⟨⟨by omega, by omega⟩, ?_⟩
          rw [if_neg (by omega)]
          have := ih (r + 1) z (by omega) zR zF (fun r' d p' q he hh => zC r' d p' q he ?_) (fun r' p' q0 q1 q2 hp' => z0 r' p' q0 ?_ q2 hp')
          · rw [Int.natCast_succ] at this
            exact this
          · have h4 := he.2.2.2.1.2
            by_cases e : r' = r
            · exact Or.inr (Or.inr (Or.inr ⟨e, by omega⟩))
            · rcases hh with hh | hh | hh
              · exact Or.inl hh
              · exact Or.inr (Or.inl (by omega))
              · exact Or.inr (Or.inr (Or.inl hh))
          · have := hp'.2
            by_cases e : r' = r
            · exact Or.inr ⟨e, by omega⟩
            · exact Or.inl (by omega)
        | succ n' ihn =>
          intro p z p0 pe zR zF zC z0
          have hpR : iR (xn M) p := ⟨p0, by omega⟩
          have z9 := zR.1.2.2.2.2.2.2.2.2
          refine k_143_22 ⟨⟨by omega, by omega⟩, ?_⟩
          rw [z9]
          refine ⟨⟨by omega, by omega⟩, ?_⟩
          rw [if_pos (by omega)]
          have q46 := q_146 hmk hMO hM hS r0 r1 hpR (xl M r).toNat (d + 4) 0 z p 0 0 (by omega) zR hpR ⟨rfl, rfl, rfl⟩ (by omega)
          refine cV.mono q46 (by omega) (fun x ⟨x1, x2, x3, x4, x5, x6⟩ => ?_)
          obtain ⟨y1, y2⟩ := x6 (by omega)
          refine ihn (p + 1) x (by omega) (by omega) x1 (RF_tr zF x2) (fun r' d' p' q he hh => ?_) (fun r' p' q0 q1 q2 hp' => ?_)
          · obtain ⟨e0, e1, e2, e3, e4⟩ := id he
            by_cases e : r' = r ∧ d' = 0 ∧ p' = p ∧ q = p
            · obtain ⟨k1, k2, k3, k4⟩ := e
              rw [k1, k2, k3, k4]
              refine y1 rfl ?_
              rw [k1, k2] at e2
              omega
            · rcases x4 r' d' p' q e0 e1 e2 e3 e4 with s | s
              · refine CI_mono x2 x3 e0 e1 e2 e3 s (zC r' d' p' q he ?_)
                by_cases hd0 : 1 ≤ d'
                · exact Or.inl hd0
                · by_cases hq : q = p'
                  · rcases hh with hh | hh | hh | hh
                    · exact Or.inl hh
                    · exact Or.inr (Or.inl hh)
                    · exact absurd hq hh
                    · refine Or.inr (Or.inr (Or.inr ⟨hh.1, ?_⟩))
                      by_cases ep : p' = p
                      · exact absurd ⟨hh.1, by omega, ep, by rw [hq]; exact ep⟩ e
                      · omega
                  · exact Or.inr (Or.inr (Or.inl hq))
              · exact s
          · by_cases e : r' = r ∧ p' = p
            · rw [e.1, e.2]
              rw [e.1] at q2
              exact y2 (Or.inr q2)
            · exact x3 r' 0 p' p' 0 0 q0 (by omega) (by omega) (Or.inr q2) hp' hp' (z0 r' p' q0 (by omega) q2 hp')
      exact states (xn M) 0 w (Int.le_refl 0) (by omega) wR wF (fun r' d' p' q he hh => wC r' d' p' q he (by
        rcases hh with hh | hh | hh | hh
        · exact Or.inl hh
        · exact Or.inr (Or.inl hh)
        · exact Or.inr (Or.inr hh)
        · have := he.2.2.2.1.1
          omega)) (fun r' p' q0 q1 q2 hp' => w0 r' p' q0 (by have := hp'.1; omega) q2 hp')
  refine rules (xr M) 0 v (by omega) v3 (RF_refl v) (fun r' d' p q he hh => ?_) (fun r' p q0 q1 => by omega)
  intro c g hv
  unfold vl at hv
  by_cases e : d' = 0
  · rw [if_pos e] at hv
    have := he.1
    rcases hh with hh | hh | hh
    · omega
    · omega
    · exact absurd hv.1 hh
  · rw [if_neg e] at hv
    have := v8 r' d' p q he (by omega)
    exact absurd (hv.1.symm.trans this) hv.2.2
