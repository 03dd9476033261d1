/-! The other side's signs -/
def QS (x : Option bSt) (M T : Nat) (u u' : uS) : Prop := RX u u' ∧ B3 u' ∧ ((u'.1 271 43 = 0 ∧ ∃ (S' : bSt) (M' : Nat), x = some S' ∧ M' ≤ M ∧ RB u' S' M' T) ∨ (u'.1 271 43 = 1 ∧ x = none ∧ r42 u'))
theorem RB_T {u : uS} {S : bSt} {M T T' : Nat} (h : RB u S M T) (hT : T ≤ T') (hT' : T' ≤ 300) : RB u S M T' := by
  obtain ⟨r1, r2, r3, r4, -, r5, r6, r7, r8, r9⟩ := h
  refine ⟨r1, r2, r3, r4, hT', r5, r6, fun l hl => ?_, r8, fun m hm => ?_⟩
  · have := r7 l hl
    exact ⟨this.1, by omega⟩
  · have := r9 m hm
    exact ⟨this.1, by omega, this.2.2⟩
theorem QO_S {x : Option bSt} {M M' T T' : Nat} {u u' : uS} (h : QO x M T u u') (hM : M ≤ M') (hT : T ≤ T') (hT' : T' ≤ 300) : QS x M' T' u u' := by
  obtain ⟨h1, h2, h3⟩ := h
  refine ⟨h1, h2, ?_⟩
  rcases h3 with ⟨z, S', M1, a, b, c⟩ | ⟨z, a, -, b⟩
  · exact Or.inl ⟨z, S', M1, a, by omega, RB_T c hT hT'⟩
  · exact Or.inr ⟨z, a, b⟩
/-- an item set: its turns are taken from those that were told -/
theorem item_set {u w u12 u14 u16 : uS} {S : bSt} {M M' T T' : Nat} {k : Nat} {m : Ma} (hB : RB u S M T) (hn : S.2.1 3 S.1 = none) (hMM : M ≤ M') (hTT : T ≤ T') (hT' : T' ≤ 300) (w61 : w.1 271 61 = u.1 271 61) (w42 : w.1 271 42 = M') (w43 : w.1 271 43 = 0) (wB : B3 w) (wk : kpM u w M) (wro : ∀ b : Nat, 314 ≤ b → w.1 b = u.1 b) (k2 : 2 ≤ k) (kM : k < M') (okm : okM m) (mw : rMa w (k : Nat) m) (e12 : u12 = wr w 317 (S.1 : Nat) (k : Nat)) (e14 : u14 = wr u12 318 (S.1 : Nat) (u12.1 319 (S.1 : Nat))) (e16 : u16 = wr u14 319 (S.1 : Nat) 0) : RB u16 (S.1, oU S.2.1 3 S.1 (some m), S.2.2) M' T' ∧ u16.1 271 43 = 0 ∧ B3 u16 ∧ ∀ b : Nat, b ≠ 317 → b ≠ 318 → b ≠ 319 → u16.1 b = w.1 b := by
  obtain ⟨r1, r2, r3, r4, rT, r5, r6, r7, r8, r9⟩ := id hB
  have hne : ∀ b, b ≠ 317 → b ≠ 318 → b ≠ 319 → u16.1 b = w.1 b := fun b h1 h2 h3 => by rw [e16, wr_ne h3, e14, wr_ne h2, e12, wr_ne h1]
  have g317 : u16.1 317 = uf (w.1 317) (S.1 : Nat) (k : Nat) := by rw [e16, wr_ne (by decide), e14, wr_ne (by decide), e12, wr_uf]
  have g318 : u16.1 318 = uf (w.1 318) (S.1 : Nat) (w.1 319 (S.1 : Nat)) := by rw [e16, wr_ne (by decide), e14, wr_uf, e12, wr_ne (by decide), wr_ne (by decide)]
  have g319 : u16.1 319 = uf (w.1 319) (S.1 : Nat) 0 := by rw [e16, wr_uf, e14, wr_ne (by decide), e12, wr_ne (by decide)]
  have kp16 : kpM w u16 M' := by rw [e16, e14, e12]; exact kpM_wr (Or.inl (by omega)) (kpM_wr (Or.inl (by omega)) (kpM_wr (Or.inl (by omega)) (kpM_refl w M')))
  have B16 : B3 u16 := fun j => by rw [hne 303 (by decide) (by decide) (by decide)]; exact wB j
  refine ⟨RB_upd hB (by rw [hne 271 (by decide) (by decide) (by decide)]; exact w61) (by rw [hne 271 (by decide) (by decide) (by decide)]; exact w42) hMM hT' B16 (kpM_trans hMM wk kp16) _ _ (fun a l ha hl => ?_) ⟨fun l hl => ?_, fun l hl hh => ?_, fun m' hm' => ?_⟩, by rw [hne 271 (by decide) (by decide) (by decide)]; exact w43, B16, hne⟩
  · by_cases c1 : a = 3 ∧ l = S.1
    · right
      rw [c1.1, c1.2, oU_eq]
      exact Or.inr ⟨k, m, rfl, by show u16.1 317 (S.1 : Nat) = _; rw [g317, uf_eq], k2, kM, okm, kp16 k m k2 kM okm mw⟩
    · left
      rw [oU_ne c1]
      refine ⟨rfl, ?_⟩
      by_cases a3 : a = 3
      · rw [a3] at c1 ⊢
        show u16.1 317 (l : Nat) = u.1 317 (l : Nat)
        rw [g317, uf_ne (by omega), wro 317 (by omega)]
      · rw [hne (314 + a) (by omega) (by omega) (by omega)]
        rw [wro (314 + a) (by omega)]
  · rw [g319]
    by_cases e : l = S.1
    · rw [e, uf_eq]; exact ⟨by omega, by omega⟩
    · rw [uf_ne (by omega), wro 319 (by omega)]
      have := r7 l hl
      exact ⟨this.1, by omega⟩
  · by_cases e : l = S.1
    · rcases hh with hh | hh
      · omega
      · rw [e, oU_eq] at hh
        cases hh
    · rw [g319, uf_ne (by omega), wro 319 (by omega)]
      exact r8 l hl (Or.inl (by omega))
  · rw [g318, g319, uf_eq, uf_eq, wro 319 (by omega)]
    have := r7 S.1 (Nat.le_refl _)
    exact ⟨this.1, by omega, r8 S.1 (Nat.le_refl _) (Or.inr hn), rfl⟩
set_option maxRecDepth 4000 in
theorem q_240 {d M T : Nat} {u : uS} {S : bSt} {s s' : aSt} {c : Int} (hB : RB u S M T) (hM : M ≤ 80) (hT : T < 300) (z : u.1 271 43 = 0) (hc : rI c) (c32 : c ≠ 32) (hl : lkd S s) (has : auS s c = some s') : cV (d + 8) 240 [.ref 271, iV c] u (QS (sgn S c) (M + 6) (T + 1) u) := by
  obtain ⟨r1, r2, r3, r4, rT, r5, r6, r7, r8, r9⟩ := id hB
  have e61 : u.1 271 61 - 1 = (S.1 : Nat) := by omega
  unfold auS at has
  rw [if_neg c32] at has
  -- an atom
  have atom : ∀ (w : Int), (0 ≤ w ∧ w ≤ 11) → atm c → wOf c = w → cV (d + 7) 241 [.ref 271] u (fun u4 => (rI (u4.1 271 43)) ∧ (if u4.1 271 43 = 0 then (cI (d + 7) 253 [.ref 271, iV w] u4 (fun r9 u8 => (0 ≤ (u8.1 271 61) - 1) ∧ (((u8.1 271 61) - 1 < 17) ∧ (∀ u12 : uS, u12 = wr u8 317 ((u8.1 271 61) - 1) r9 → (∀ u14 : uS, u14 = wr u12 318 ((u8.1 271 61) - 1) (u12.1 319 ((u8.1 271 61) - 1)) → (∀ u16 : uS, u16 = wr u14 319 ((u8.1 271 61) - 1) 0 → (QS (sgn S c) (M + 6) (T + 1) u u16))))))) else ((0 ≤ (u4.1 271 61) - 1) ∧ (((u4.1 271 61) - 1 < 17) ∧ (∀ u20 : uS, u20 = wr u4 317 ((u4.1 271 61) - 1) 0 → (∀ u22 : uS, u22 = wr u20 318 ((u4.1 271 61) - 1) (u20.1 319 ((u4.1 271 61) - 1)) → (∀ u24 : uS, u24 = wr u22 319 ((u4.1 271 61) - 1) 0 → (QS (sgn S c) (M + 6) (T + 1) u u24)))))))) := by
    intro w hw hat ew
    have eg : sgn S c = (bdI S).map (sgB c) := by
      unfold atm at hat
      unfold sgn
      rw [if_neg (by omega), if_neg (by omega), if_neg (by omega), if_neg (by omega)]
    have eB : ∀ S1 : bSt, sgB c S1 = (S1.1, oU S1.2.1 3 S1.1 (some (sMp w)), S1.2.2) := fun S1 => by
      unfold atm at hat
      unfold sgB
      rw [if_neg (by omega), if_neg (by omega), ew]
    refine (q_241 (d := d + 2) hB (by omega) z).mono (Nat.le_refl _) (fun u4 h4 => ?_)
    obtain ⟨x4, y4, h4⟩ := h4
    rcases h4 with ⟨z4, S1, M1, b1, hM1, d1⟩ | ⟨z4, b1, w61, w42⟩
    · rw [z4]
      refine ⟨⟨by omega, by omega⟩, ?_⟩
      rw [if_pos rfl]
      refine (q_253 (d := d + 3) (M := M1) (Or.inr hw) (by omega) d1.2.2.1 z4).mono (Nat.le_refl _) (fun r9' u8 h8 => ?_)
      obtain ⟨g1, g2, g3, g4, g5⟩ := h8
      have k61 : u8.1 271 61 = (S1.1 : Int) + 1 := by rw [RF_61 g2]; exact d1.1
      have k61' : u8.1 271 61 - 1 = (S1.1 : Nat) := by omega
      have hD15 := d1.2.1
      rw [k61', g1]
      refine ⟨by omega, by omega, fun u12 e12 u14 e14 u16 e16 => ?_⟩
      obtain ⟨q1, q2, q3, q4⟩ := item_set (T' := T + 1) (m := sMp w) d1 (bdI_1 b1).2 (show M1 ≤ M1 + 1 by omega) (by omega) (by omega) (RF_61 g2) (by rw [g3]; omega) g4 (g2.2.2 y4) (kpM_RF g2) (fun b hb => RF_row g2 hb) (by have := d1.2.2.2.1; omega) (by omega) (sMp_ok w) g5 e12 e14 e16
      refine ⟨?_, q3, Or.inl ⟨q2, _, M1 + 1, ?_, by omega, q1⟩⟩
      · rw [e16, e14, e12]
        exact RX_wr (by omega) (by omega) (RX_wr (by omega) (by omega) (RX_wr (by omega) (by omega) (RX_trans x4 (RX_RF (by have := d1.2.2.2.1; omega) g2))))
      · rw [eg, b1]
        show some (sgB c S1) = _
        rw [eB S1]
    · rw [z4]
      refine ⟨⟨by omega, by omega⟩, ?_⟩
      rw [if_neg (by decide), w61, e61]
      refine ⟨by omega, by omega, fun u20 e20 u22 e22 u24 e24 => ?_⟩
      have hne : ∀ b, b ≠ 317 → b ≠ 318 → b ≠ 319 → u24.1 b = u4.1 b := fun b h1 h2 h3 => by rw [e24, wr_ne h3, e22, wr_ne h2, e20, wr_ne h1]
      refine ⟨by rw [e24, e22, e20]; exact RX_wr (by omega) (by omega) (RX_wr (by omega) (by omega) (RX_wr (by omega) (by omega) x4)), fun j => by rw [hne 303 (by decide) (by decide) (by decide)]; exact y4 j, Or.inr ⟨by rw [hne 271 (by decide) (by decide) (by decide)]; exact z4, by rw [eg, b1]; rfl, by unfold r42; rw [hne 271 (by decide) (by decide) (by decide)]; exact w42⟩⟩
  -- how often
  have oftenE : (c = 42 ∨ c = 43 ∨ c = 63) → ∃ m k, S.2.1 3 S.1 = some m ∧ u.1 317 (S.1 : Nat) = ((k : Nat) : Int) ∧ 2 ≤ k ∧ k < M ∧ okM m ∧ rMa u (k : Nat) m := by
    intro hh
    rw [if_pos hh] at has
    split at has
    · next hb =>
      obtain ⟨m, hm⟩ := hl.2 hb
      have f3 := r6 3 S.1 (by omega) (Nat.le_refl _)
      rw [hm] at f3
      obtain ⟨k, x1, x2, x3, x4, x5⟩ := fRf_some f3
      exact ⟨m, k, hm, x1, x2, x3, x4, x5⟩
    · cases has
  have oftenF : ∀ (m : Ma) (x : Option Ma) (r : Int) (w u79 : uS) (M' : Nat), (c = 42 ∨ c = 43 ∨ c = 63) → S.2.1 3 S.1 = some m → sgO c m = x → r = (M' : Nat) → M ≤ M' → M' ≤ M + 1 → RX u w → B3 w → kpM u w M → w.1 271 61 = u.1 271 61 → w.1 271 42 = (M' : Int) + 1 → (∀ b : Nat, 314 ≤ b → w.1 b = u.1 b) → ((w.1 271 43 = 0 ∧ ∃ y : Ma, x = some y ∧ okM y ∧ rMa w (M' : Nat) y) ∨ (w.1 271 43 = 1 ∧ x = none)) → u79 = wr w 317 (S.1 : Nat) r → QS (sgn S c) (M + 6) (T + 1) u u79 := by
    intro m x r w u79 M' hc3 hm hx hr hMM hM1 wX wB wk w61 w42 wro wo e79
    have eg : sgn S c = (sgO c m).map (fun y => (S.1, oU S.2.1 3 S.1 (some y), S.2.2)) := by
      unfold sgn
      rw [if_pos hc3, hm]
    rw [hx] at eg
    have hne : ∀ b, b ≠ 317 → u79.1 b = w.1 b := fun b h1 => by rw [e79, wr_ne h1]
    have kp79 : kpM w u79 (M' + 1) := by rw [e79]; exact kpM_wr (Or.inl (by omega)) (kpM_refl w (M' + 1))
    refine ⟨by rw [e79]; exact RX_wr (by omega) (by omega) wX, fun j => by rw [hne 303 (by decide)]; exact wB j, ?_⟩
    rcases wo with ⟨a1, y, a2, a3, a4⟩ | ⟨a1, a2⟩
    · refine Or.inl ⟨by rw [hne 271 (by decide)]; exact a1, (S.1, oU S.2.1 3 S.1 (some y), S.2.2), M' + 1, by rw [eg, a2]; rfl, by omega, ?_⟩
      refine RB_upd hB (by rw [hne 271 (by decide)]; exact w61) (by rw [hne 271 (by decide), w42]; omega) (by omega) (by omega) (fun j => by rw [hne 303 (by decide)]; exact wB j) (kpM_trans (show M ≤ M' + 1 by omega) wk kp79) _ _ (fun a l ha hl' => ?_) ⟨fun l hl' => ?_, fun l hl' hh => ?_, fun m' hm' => ?_⟩
      · by_cases c1 : a = 3 ∧ l = S.1
        · right
          rw [c1.1, c1.2, oU_eq]
          exact Or.inr ⟨M', y, rfl, by show u79.1 317 (S.1 : Nat) = _; rw [e79, wr_self, hr], by omega, by omega, a3, kp79 M' y (by omega) (by omega) a3 a4⟩
        · left
          rw [oU_ne c1]
          refine ⟨rfl, ?_⟩
          by_cases a3' : a = 3
          · rw [a3'] at c1 ⊢
            show u79.1 317 (l : Nat) = u.1 317 (l : Nat)
            rw [e79, wr_uf, uf_ne (by omega), wro 317 (by omega)]
          · rw [hne (314 + a) (by omega)]
            rw [wro (314 + a) (by omega)]
      · rw [hne 319 (by decide), wro 319 (by omega)]
        have := r7 l hl'
        exact ⟨this.1, by omega⟩
      · rw [hne 319 (by decide), wro 319 (by omega)]
        refine r8 l hl' ?_
        rcases hh with hh | hh
        · exact Or.inl hh
        · by_cases e : l = S.1
          · rw [e, oU_eq] at hh
            cases hh
          · exact Or.inl (by omega)
      · rw [hne 318 (by decide), hne 319 (by decide), wro 318 (by omega), wro 319 (by omega)]
        have := r9 m hm
        exact ⟨this.1, by omega, this.2.2⟩
    · exact Or.inr ⟨by rw [hne 271 (by decide)]; exact a1, by rw [eg, a2]; rfl, by unfold r42; rw [hne 271 (by decide), w42]; omega⟩
  refine e_240 (d := d + 5) ⟨hc, ?_⟩
  by_cases c97 : c < 97
  · rw [if_pos c97]
    by_cases c46 : c = 46
    · rw [if_pos c46]
      exact atom 10 (by omega) (Or.inl c46) (by unfold wOf; rw [if_pos c46])
    · rw [if_neg c46]
      by_cases c48 : c = 48
      · rw [if_pos c48]
        exact atom 11 (by omega) (Or.inr (Or.inl c48)) (by unfold wOf; rw [if_neg c46, if_pos c48])
      · rw [if_neg c48]
        by_cases c33 : c = 33
        · rw [if_pos c33]
          have eg : sgn S c = (bdI S).map (sgB c) := by
            unfold sgn
            rw [if_neg (by omega), if_neg (by omega), if_neg (by omega), if_neg (by omega)]
          have eB : ∀ S1 : bSt, sgB c S1 = (S1.1, S1.2.1, tU S1.2.2 S1.1 (!S1.2.2 S1.1)) := fun S1 => by
            unfold sgB
            rw [if_pos c33]
          refine (q_241 (d := d + 2) hB (by omega) z).mono (Nat.le_refl _) (fun u51 h4 => ?_)
          obtain ⟨x4, y4, h4⟩ := h4
          rw [e61]
          refine ⟨by omega, by omega, fun u54 e54 => ?_⟩
          have hne : ∀ b, b ≠ 319 → u54.1 b = u51.1 b := fun b h1 => by rw [e54, wr_ne h1]
          refine ⟨by rw [e54]; exact RX_wr (by omega) (by omega) x4, fun j => by rw [hne 303 (by decide)]; exact y4 j, ?_⟩
          rcases h4 with ⟨z4, S1, M1, b1, hM1, d1⟩ | ⟨z4, b1, w61, w42⟩
          · obtain ⟨i1, i2⟩ := bdI_1 b1
            obtain ⟨p1, p2, p3, p4, pT, p5, p6, p7, p8, p9⟩ := id d1
            refine Or.inl ⟨by rw [hne 271 (by decide)]; exact z4, _, M1, by rw [eg, b1]; show some (sgB c S1) = _; rw [eB S1], by omega, ?_⟩
            have h319 : u54.1 319 = uf (u51.1 319) (S1.1 : Nat) (u51.1 319 (S1.1 : Nat) + 1) := by rw [e54, wr_uf, i1]
            refine RB_upd d1 (by rw [hne 271 (by decide)]) (by rw [hne 271 (by decide)]; exact p3) (Nat.le_refl _) (by omega) (fun j => by rw [hne 303 (by decide)]; exact y4 j) (by rw [e54]; exact kpM_wr (Or.inl (by omega)) (kpM_refl u51 M1)) _ _ (fun a l ha hl' => Or.inl ⟨rfl, by rw [hne (314 + a) (by omega)]⟩) ⟨fun l hl' => ?_, fun l hl' hh => ?_, fun m' hm' => ?_⟩
            · rw [h319]
              have := p7 l hl'
              by_cases e : l = S1.1
              · rw [e, uf_eq]
                rw [e] at this
                exact ⟨by omega, by omega⟩
              · rw [uf_ne (by omega)]
                exact ⟨this.1, by omega⟩
            · rw [h319]
              unfold tU
              by_cases e : l = S1.1
              · rw [if_pos e, e, uf_eq]
                have h8 := p8 S1.1 (Nat.le_refl _) (Or.inr i2)
                have h7 := p7 S1.1 (Nat.le_refl _)
                cases ht : S1.2.2 S1.1 with
                | false =>
                  rw [ht] at h8
                  have h8 : u51.1 319 (S1.1 : Nat) % 2 = 0 := h8
                  show _ = (1 : Int)
                  omega
                | true =>
                  rw [ht] at h8
                  have h8 : u51.1 319 (S1.1 : Nat) % 2 = 1 := h8
                  show _ = (0 : Int)
                  omega
              · rw [if_neg e, uf_ne (by omega)]
                exact p8 l hl' (Or.inl (by omega))
            · rw [i2] at hm'
              cases hm'
          · exact Or.inr ⟨by rw [hne 271 (by decide)]; exact z4, by rw [eg, b1]; rfl, by unfold r42; rw [hne 271 (by decide)]; exact w42⟩
        · rw [if_neg c33]
          by_cases c40 : c = 40
          · rw [if_pos c40]
            have eg : sgn S c = (bdI S).map (sgB c) := by
              unfold sgn
              rw [if_neg (by omega), if_neg (by omega), if_neg (by omega), if_neg (by omega)]
            have eB : ∀ S1 : bSt, sgB c S1 = (S1.1 + 1, fun a l => if l = S1.1 + 1 then none else S1.2.1 a l, tU S1.2.2 (S1.1 + 1) false) := fun S1 => by
              unfold sgB
              rw [if_neg c33, if_pos c40]
            have h15 : s.1 < 15 := by
              rw [if_neg (by omega), if_pos c40] at has
              split at has
              · next hh => exact hh
              · cases has
            have hl1 := hl.1
            refine (q_241 (d := d + 2) hB (by omega) z).mono (Nat.le_refl _) (fun u57 h4 => ?_)
            obtain ⟨x4, y4, h4⟩ := h4
            have k61 : u57.1 271 61 = ((S.1 + 1 : Nat) : Int) := by
              rcases h4 with ⟨z4, S1, M1, b1, hM1, d1⟩ | ⟨z4, b1, w61, w42⟩
              · have := (bdI_1 b1).1
                have := d1.1
                omega
              · omega
            refine e_239 (d := d + 6) ?_
            rw [k61]
            refine ⟨by omega, by omega, fun u3 e3 => ?_⟩
            have k3 : u3.1 271 61 = ((S.1 + 1 : Nat) : Int) := by rw [e3, wr_ne (by decide)]; exact k61
            rw [k3]
            refine ⟨by omega, by omega, fun u7 e7 => ?_⟩
            have k7 : u7.1 271 61 = ((S.1 + 1 : Nat) : Int) := by rw [e7, wr_ne (by decide)]; exact k3
            rw [k7]
            refine ⟨by omega, by omega, fun u11 e11 => ?_⟩
            have k11 : u11.1 271 61 = ((S.1 + 1 : Nat) : Int) := by rw [e11, wr_ne (by decide)]; exact k7
            rw [k11]
            refine ⟨by omega, by omega, fun u15 e15 => ?_⟩
            have k15 : u15.1 271 61 = ((S.1 + 1 : Nat) : Int) := by rw [e15, wr_ne (by decide)]; exact k11
            rw [k15]
            refine ⟨by omega, by omega, fun u19 e19 u21 e21 => ?_⟩
            have k19 : u19.1 271 61 = ((S.1 + 1 : Nat) : Int) := by rw [e19, wr_ne (by decide)]; exact k15
            rw [k19] at e21
            have hne : ∀ b, b ≠ 314 → b ≠ 315 → b ≠ 316 → b ≠ 317 → b ≠ 319 → b ≠ 271 → u21.1 b = u57.1 b := fun b h1 h2 h3 h4 h5 h6 => by rw [e21, wr_ne h6, e19, wr_ne h5, e15, wr_ne h4, e11, wr_ne h3, e7, wr_ne h2, e3, wr_ne h1]
            have h271 : ∀ j : Int, j ≠ 61 → u21.1 271 j = u57.1 271 j := fun j hj => by rw [e21, wr_1, if_neg (fun e => hj e.2), e19, wr_ne (by decide), e15, wr_ne (by decide), e11, wr_ne (by decide), e7, wr_ne (by decide), e3, wr_ne (by decide)]
            have X21 : RX u u21 := by
              rw [e21, e19, e15, e11, e7, e3]
              exact RX_w1 (by omega) (RX_wr (by omega) (by omega) (RX_wr (by omega) (by omega) (RX_wr (by omega) (by omega) (RX_wr (by omega) (by omega) (RX_wr (by omega) (by omega) x4)))))
            refine ⟨X21, fun j => by rw [hne 303 (by decide) (by decide) (by decide) (by decide) (by decide) (by decide)]; exact y4 j, ?_⟩
            rcases h4 with ⟨z4, S1, M1, b1, hM1, d1⟩ | ⟨z4, b1, w61, w42⟩
            · obtain ⟨i1, i2⟩ := bdI_1 b1
              obtain ⟨p1, p2, p3, p4, pT, p5, p6, p7, p8, p9⟩ := id d1
              have kp21 : kpM u57 u21 M1 := by rw [e21, e19, e15, e11, e7, e3]; exact kpM_wr (Or.inr rfl) (kpM_wr (Or.inl (by omega)) (kpM_wr (Or.inl (by omega)) (kpM_wr (Or.inl (by omega)) (kpM_wr (Or.inl (by omega)) (kpM_wr (Or.inl (by omega)) (kpM_refl u57 M1))))))
              have ga : ∀ a : Nat, a < 4 → u21.1 (314 + a) = uf (u57.1 (314 + a)) ((S.1 + 1 : Nat) : Int) (-2) := by
                intro a ha
                have ha4 : a = 0 ∨ a = 1 ∨ a = 2 ∨ a = 3 := by omega
                rcases ha4 with e | e | e | e
                · rw [e]
                  show u21.1 314 = uf (u57.1 314) _ _
                  rw [e21, wr_ne (by decide), e19, wr_ne (by decide), e15, wr_ne (by decide), e11, wr_ne (by decide), e7, wr_ne (by decide), e3, wr_uf]
                · rw [e]
                  show u21.1 315 = uf (u57.1 315) _ _
                  rw [e21, wr_ne (by decide), e19, wr_ne (by decide), e15, wr_ne (by decide), e11, wr_ne (by decide), e7, wr_uf, e3, wr_ne (by decide)]
                · rw [e]
                  show u21.1 316 = uf (u57.1 316) _ _
                  rw [e21, wr_ne (by decide), e19, wr_ne (by decide), e15, wr_ne (by decide), e11, wr_uf, e7, wr_ne (by decide), e3, wr_ne (by decide)]
                · rw [e]
                  show u21.1 317 = uf (u57.1 317) _ _
                  rw [e21, wr_ne (by decide), e19, wr_ne (by decide), e15, wr_uf, e11, wr_ne (by decide), e7, wr_ne (by decide), e3, wr_ne (by decide)]
              have g319 : u21.1 319 = uf (u57.1 319) ((S.1 + 1 : Nat) : Int) 0 := by rw [e21, wr_ne (by decide), e19, wr_uf, e15, wr_ne (by decide), e11, wr_ne (by decide), e7, wr_ne (by decide), e3, wr_ne (by decide)]
              refine Or.inl ⟨by rw [h271 43 (by decide)]; exact z4, _, M1, by rw [eg, b1]; show some (sgB c S1) = _; rw [eB S1], by omega, ?_⟩
              refine ⟨?_, by show S1.1 + 1 ≤ 15; omega, by rw [h271 42 (by decide)]; exact p3, p4, by omega, fun j => by rw [hne 303 (by decide) (by decide) (by decide) (by decide) (by decide) (by decide)]; exact y4 j, fun a l ha hl' => ?_, fun l hl' => ?_, fun l hl' hh => ?_, fun m' hm' => ?_⟩
              · rw [e21, wr_self]
                show _ = ((S1.1 + 1 : Nat) : Int) + 1
                omega
              · have hl' : l ≤ S1.1 + 1 := hl'
                show fRf u21 M1 (u21.1 (314 + a) l) (if l = S1.1 + 1 then none else S1.2.1 a l)
                rw [ga a ha]
                by_cases e : l = S1.1 + 1
                · rw [if_pos e, show ((l : Nat) : Int) = ((S.1 + 1 : Nat) : Int) by omega, uf_eq]
                  exact Or.inl ⟨rfl, rfl⟩
                · rw [if_neg e, uf_ne (by omega)]
                  exact fRf_mono (p6 a l ha (by omega)) kp21 (Nat.le_refl _)
              · have hl' : l ≤ S1.1 + 1 := hl'
                rw [g319]
                by_cases e : l = S1.1 + 1
                · rw [show ((l : Nat) : Int) = ((S.1 + 1 : Nat) : Int) by omega, uf_eq]
                  exact ⟨by omega, by omega⟩
                · rw [uf_ne (by omega)]
                  have := p7 l (by omega)
                  exact ⟨this.1, by omega⟩
              · have hl' : l ≤ S1.1 + 1 := hl'
                rw [g319]
                show _ = b2 (tU S1.2.2 (S1.1 + 1) false l)
                unfold tU
                by_cases e : l = S1.1 + 1
                · rw [if_pos e, show ((l : Nat) : Int) = ((S.1 + 1 : Nat) : Int) by omega, uf_eq]
                  rfl
                · rw [if_neg e, uf_ne (by omega)]
                  refine p8 l (by omega) ?_
                  by_cases e2 : l = S1.1
                  · right
                    rw [e2]
                    exact i2
                  · left
                    omega
              · have hm' : (if S1.1 + 1 = S1.1 + 1 then none else S1.2.1 3 (S1.1 + 1)) = some m' := hm'
                rw [if_pos rfl] at hm'
                cases hm'
            · exact Or.inr ⟨by rw [h271 43 (by decide)]; exact z4, by rw [eg, b1]; rfl, by unfold r42; rw [h271 42 (by decide)]; exact w42⟩
          · rw [if_neg c40]
            by_cases c41 : c = 41
            · rw [if_pos c41]
              have eg : sgn S c = (((bdI S).bind bdR).bind bdE).map (fun S => (S.1 - 1, oU S.2.1 3 (S.1 - 1) (S.2.1 0 S.1), S.2.2)) := by
                unfold sgn
                rw [if_neg (by omega), if_neg (by omega), if_neg (by omega), if_pos c41]
              have hs1 : 0 < s.1 := by
                rw [if_neg (by omega), if_neg (by omega), if_pos c41] at has
                split at has
                · next hh => exact hh.1
                · cases has
              have hl1 := hl.1
              refine (q_255 (d := d) hB (by omega) z).mono (Nat.le_refl _) (fun u60 h4 => ?_)
              obtain ⟨x4, y4, h4⟩ := h4
              have k61 : u60.1 271 61 = (S.1 : Int) + 1 := by
                rcases h4 with ⟨z4, S1, M1, b1, hM1, d1⟩ | ⟨z4, b1, w61, w42⟩
                · obtain ⟨S3, c1, c2⟩ := bind_some b1
                  obtain ⟨S2, c3, c4⟩ := bind_some c1
                  have := (bdI_1 c3).1
                  have := (bdR_1 c4).1
                  have := (bdE_1 c2).1
                  have := d1.1
                  omega
                · omega
              rw [e61]
              refine ⟨by omega, by omega, fun u63 e63 => ?_⟩
              have k63 : u63.1 271 61 - 1 = ((S.1 - 1 : Nat) : Int) := by rw [e63, wr_self]; omega
              rw [k63]
              refine ⟨by omega, by omega, fun u67 e67 u69 e69 u71 e71 => ?_⟩
              have hne63 : ∀ b, b ≠ 271 → u63.1 b = u60.1 b := fun b hb => by rw [e63, wr_ne hb]
              have X71 : RX u u71 := by
                rw [e71, e69, e67, e63]
                exact RX_wr (by omega) (by omega) (RX_wr (by omega) (by omega) (RX_wr (by omega) (by omega) (RX_w1 (by omega) x4)))
              have hne : ∀ b, b ≠ 317 → b ≠ 318 → b ≠ 319 → b ≠ 271 → u71.1 b = u60.1 b := fun b h1 h2 h3 h5 => by rw [e71, wr_ne h3, e69, wr_ne h2, e67, wr_ne h1, hne63 b h5]
              have h271 : ∀ j : Int, j ≠ 61 → u71.1 271 j = u60.1 271 j := fun j hj => by rw [e71, wr_ne (by decide), e69, wr_ne (by decide), e67, wr_ne (by decide), e63, wr_1, if_neg (fun e => hj e.2)]
              have h27161 : u71.1 271 61 = (S.1 : Int) := by rw [e71, wr_ne (by decide), e69, wr_ne (by decide), e67, wr_ne (by decide), e63, wr_self]; omega
              refine ⟨X71, fun j => by rw [hne 303 (by decide) (by decide) (by decide) (by decide)]; exact y4 j, ?_⟩
              rcases h4 with ⟨z4, S1, M1, b1, hM1, d1⟩ | ⟨z4, b1, w61, w42⟩
              · obtain ⟨S3, c1, c2⟩ := bind_some b1
                obtain ⟨S2, c3, c4⟩ := bind_some c1
                have i1 := (bdI_1 c3).1
                have i2 := (bdR_1 c4).1
                obtain ⟨i3, -, y, hy⟩ := bdE_1 c2
                have hD : S1.1 = S.1 := by omega
                obtain ⟨p1, p2, p3, p4, pT, p5, p6, p7, p8, p9⟩ := id d1
                have f0 := p6 0 S1.1 (by omega) (Nat.le_refl _)
                have hx : fRf u60 M1 (u60.1 314 (S.1 : Nat)) (S1.2.1 0 S1.1) := by rw [← hD]; exact f0
                have kp71 : kpM u60 u71 M1 := by rw [e71, e69, e67, e63]; exact kpM_wr (Or.inl (by omega)) (kpM_wr (Or.inl (by omega)) (kpM_wr (Or.inl (by omega)) (kpM_wr (Or.inr rfl) (kpM_refl u60 M1))))
                have g317 : u71.1 317 = uf (u60.1 317) ((S.1 - 1 : Nat) : Int) (u60.1 314 (S.1 : Nat)) := by rw [e71, wr_ne (by decide), e69, wr_ne (by decide), e67, wr_uf, hne63 317 (by decide)]
                have g318 : u71.1 318 = uf (u60.1 318) ((S.1 - 1 : Nat) : Int) (u60.1 319 ((S.1 - 1 : Nat) : Int)) := by rw [e71, wr_ne (by decide), e69, wr_uf, e67, wr_ne (by decide), wr_ne (by decide), hne63 318 (by decide), hne63 319 (by decide)]
                have g319 : u71.1 319 = uf (u60.1 319) ((S.1 - 1 : Nat) : Int) 0 := by rw [e71, wr_uf, e69, wr_ne (by decide), e67, wr_ne (by decide), hne63 319 (by decide)]
                refine Or.inl ⟨by rw [h271 43 (by decide)]; exact z4, (S1.1 - 1, oU S1.2.1 3 (S1.1 - 1) (S1.2.1 0 S1.1), S1.2.2), M1, by rw [eg, b1]; rfl, by omega, ?_⟩
                refine ⟨?_, by show S1.1 - 1 ≤ 15; omega, by rw [h271 42 (by decide)]; exact p3, p4, by omega, fun j => by rw [hne 303 (by decide) (by decide) (by decide) (by decide)]; exact y4 j, fun a l ha hl' => ?_, fun l hl' => ?_, fun l hl' hh => ?_, fun m' hm' => ?_⟩
                · rw [h27161]
                  show _ = ((S1.1 - 1 : Nat) : Int) + 1
                  omega
                · have hl' : l ≤ S1.1 - 1 := hl'
                  show fRf u71 M1 (u71.1 (314 + a) l) (oU S1.2.1 3 (S1.1 - 1) (S1.2.1 0 S1.1) a l)
                  by_cases c5 : a = 3 ∧ l = S1.1 - 1
                  · rw [c5.1, c5.2, oU_eq]
                    show fRf u71 M1 (u71.1 317 ((S1.1 - 1 : Nat) : Int)) _
                    rw [g317, hD, uf_eq]
                    rw [hD] at hx
                    exact fRf_mono hx kp71 (Nat.le_refl _)
                  · rw [oU_ne c5]
                    have old := fRf_mono (p6 a l ha (by omega)) kp71 (Nat.le_refl _)
                    by_cases a3 : a = 3
                    · rw [a3] at c5 old ⊢
                      have old : fRf u71 M1 (u60.1 317 (l : Nat)) (S1.2.1 3 l) := old
                      show fRf u71 M1 (u71.1 317 (l : Nat)) (S1.2.1 3 l)
                      rw [g317, uf_ne (by omega)]
                      exact old
                    · rw [hne (314 + a) (by omega) (by omega) (by omega) (by omega)]
                      exact old
                · have hl' : l ≤ S1.1 - 1 := hl'
                  rw [g319]
                  by_cases e : l = S.1 - 1
                  · rw [e, uf_eq]
                    exact ⟨by omega, by omega⟩
                  · rw [uf_ne (by omega)]
                    have := p7 l (by omega)
                    exact ⟨this.1, by omega⟩
                · have hl' : l ≤ S1.1 - 1 := hl'
                  by_cases e : l = S1.1 - 1
                  · rcases hh with hh | hh
                    · have hh : l < S1.1 - 1 := hh
                      omega
                    · have hh : oU S1.2.1 3 (S1.1 - 1) (S1.2.1 0 S1.1) 3 l = none := hh
                      rw [e, oU_eq, hy] at hh
                      cases hh
                  · rw [g319, uf_ne (by omega)]
                    exact p8 l (by omega) (Or.inl (by omega))
                · show 0 ≤ u71.1 318 ((S1.1 - 1 : Nat) : Int) ∧ u71.1 318 ((S1.1 - 1 : Nat) : Int) ≤ ((T + 1 : Nat) : Int) ∧ u71.1 318 ((S1.1 - 1 : Nat) : Int) % 2 = b2 (S1.2.2 (S1.1 - 1)) ∧ u71.1 319 ((S1.1 - 1 : Nat) : Int) = 0
                  rw [g318, g319, hD, uf_eq, uf_eq, ← hD]
                  have h7 := p7 (S1.1 - 1) (by omega)
                  exact ⟨h7.1, by omega, p8 (S1.1 - 1) (by omega) (Or.inl (by omega)), rfl⟩
              · exact Or.inr ⟨by rw [h271 43 (by decide)]; exact z4, by rw [eg, b1]; rfl, by unfold r42; rw [h271 42 (by decide)]; exact w42⟩
            · rw [if_neg c41]
              by_cases c42 : c = 42
              · rw [if_pos c42, e61]
                obtain ⟨m, k, hm, k1, k2, k3, k4, k5⟩ := oftenE (Or.inl c42)
                rw [k1]
                refine ⟨by omega, by omega, ?_⟩
                refine (q_258 (d := d + 3) (M := M) (k := 4) (Or.inr rfl) (by omega) (by omega) r3 z k4 k5).mono (Nat.le_refl _) (fun r u77 h => fun u79 e79 => ?_)
                obtain ⟨g1, g2, g3, g4⟩ := h
                refine oftenF m (mkR 4 m m) r u77 u79 M (Or.inl c42) hm (by unfold sgO; rw [if_pos c42]) g1 (Nat.le_refl _) (by omega) (RX_RF (by omega) g2) (g2.2.2 r5) (kpM_RF g2) (RF_61 g2) g3 (fun b hb => RF_row g2 hb) ?_ e79
                rcases g4 with ⟨a1, y, a2, a3, a4⟩ | ⟨a1, a2⟩
                · exact Or.inl ⟨a1, y, mkR_some a2, a3, a4⟩
                · exact Or.inr ⟨a1, mkR_none a2⟩
              · rw [if_neg c42]
                by_cases c43 : c = 43
                · rw [if_pos c43, e61]
                  obtain ⟨m, k, hm, k1, k2, k3, k4, k5⟩ := oftenE (Or.inr (Or.inl c43))
                  rw [k1]
                  refine ⟨by omega, by omega, ?_⟩
                  refine (q_258 (d := d + 3) (M := M) (k := 3) (Or.inl rfl) (by omega) (by omega) r3 z k4 k5).mono (Nat.le_refl _) (fun r u77 h => fun u79 e79 => ?_)
                  obtain ⟨g1, g2, g3, g4⟩ := h
                  refine oftenF m (mkR 3 m m) r u77 u79 M (Or.inr (Or.inl c43)) hm (by unfold sgO; rw [if_neg c42, if_pos c43]) g1 (Nat.le_refl _) (by omega) (RX_RF (by omega) g2) (g2.2.2 r5) (kpM_RF g2) (RF_61 g2) g3 (fun b hb => RF_row g2 hb) ?_ e79
                  rcases g4 with ⟨a1, y, a2, a3, a4⟩ | ⟨a1, a2⟩
                  · exact Or.inl ⟨a1, y, mkR_some a2, a3, a4⟩
                  · exact Or.inr ⟨a1, mkR_none a2⟩
                · rw [if_neg c43]
                  by_cases c63 : c = 63
                  · rw [if_pos c63, e61]
                    obtain ⟨m, k, hm, k1, k2, k3, k4, k5⟩ := oftenE (Or.inr (Or.inr c63))
                    rw [k1]
                    refine ⟨by omega, by omega, ?_⟩
                    refine (q_253 (d := d + 3) (M := M) (Or.inl rfl) (by omega) r3 z).mono (Nat.le_refl _) (fun r93 u92 h => ?_)
                    obtain ⟨g1, g2, g3, g4, g5⟩ := h
                    rw [sMp_m1] at g5
                    rw [g1]
                    refine (q_257 (d := d + 3) (M := M + 1) (Or.inl rfl) (by omega) (by omega) (by omega) (by rw [g3]; omega) g4 k4 eMp_ok (kpM_RF g2 k m k2 k3 k4 k5) g5).mono (Nat.le_refl _) (fun r u77 h => fun u79 e79 => ?_)
                    obtain ⟨v1, v2, v3, v4⟩ := h
                    refine oftenF m (mkR 0 m eMp) r u77 u79 (M + 1) (Or.inr (Or.inr c63)) hm (by unfold sgO; rw [if_neg c42, if_neg c43]) v1 (by omega) (by omega) (RX_trans (RX_RF (by omega) g2) (RX_RF (by omega) v2)) (v2.2.2 (g2.2.2 r5)) (kpM_trans (show M ≤ M + 1 by omega) (kpM_RF g2) (kpM_RF v2)) (by rw [RF_61 v2]; exact RF_61 g2) v3 (fun b hb => by rw [RF_row v2 hb]; exact RF_row g2 hb) ?_ e79
                    rcases v4 with ⟨a1, y, a2, a3, a4⟩ | ⟨a1, a2⟩
                    · exact Or.inl ⟨a1, y, mkR_some a2, a3, a4⟩
                    · exact Or.inr ⟨a1, mkR_none a2⟩
                  · rw [if_neg c63, if_neg (by omega)]
                    have c38 : c = 38 := by
                      rw [if_neg (by omega), if_neg c40, if_neg c41] at has
                      by_cases h4 : c = 124 ∨ c = 38
                      · omega
                      · rw [if_neg h4, if_neg c33, if_neg (by unfold atm; omega)] at has
                        cases has
                    have eg : sgn S c = ((bdI S).bind bdR).bind bdE := by
                      unfold sgn
                      rw [if_neg (by omega), if_neg (by omega), if_pos c38]
                    refine (q_255 (d := d) hB (by omega) z).mono (Nat.le_refl _) (fun u100 h => ?_)
                    rw [eg]
                    exact QO_S h (by omega) (by omega) (by omega)
  · rw [if_neg c97]
    by_cases c106 : 106 < c
    · rw [if_pos c106, if_neg (by omega), if_neg (by omega), if_neg (by omega), if_neg (by omega), if_neg (by omega), if_neg (by omega), if_neg (by omega), if_neg (by omega)]
      have c124 : c = 124 := by
        rw [if_neg (by omega), if_neg (by omega), if_neg (by omega)] at has
        by_cases h4 : c = 124 ∨ c = 38
        · omega
        · rw [if_neg h4, if_neg (by omega), if_neg (by unfold atm; omega)] at has
          cases has
      rw [if_pos c124]
      have eg : sgn S c = (bdI S).bind bdR := by
        unfold sgn
        rw [if_neg (by omega), if_pos c124]
      refine (q_256 (d := d + 1) hB (by omega) z).mono (Nat.le_refl _) (fun u100 h => ?_)
      rw [eg]
      exact QO_S h (by omega) (by omega) (by omega)
    · rw [if_neg c106]
      refine (atom (c - 97) (by omega) (Or.inr (Or.inr ⟨by omega, by omega⟩)) (by unfold wOf; rw [if_neg (by omega), if_neg (by omega)])).mono (Nat.le_refl _) (fun u200 h => ⟨h.1, ?_⟩)
      have h2 := h.2
      by_cases hz : u200.1 271 43 = 0
      · rw [if_pos hz] at h2 ⊢
        rw [if_neg (by omega), if_neg (by omega)]
        exact h2
      · rw [if_neg hz] at h2 ⊢
        exact h2
