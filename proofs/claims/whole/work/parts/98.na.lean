/-! The other side's building: its state, its ends of items, rows and sums -/
def fRf (u : uS) (M : Nat) (x : Int) (o : Option Ma) : Prop := (o = none ∧ x = -2) ∨ ∃ (k : Nat) (m : Ma), o = some m ∧ x = (k : Nat) ∧ 2 ≤ k ∧ k < M ∧ okM m ∧ rMa u (k : Nat) m
def TRN (u : uS) (D : Nat) (o : Nat → Nat → Option Ma) (t : Nat → Bool) (T : Nat) : Prop := (∀ l : Nat, l ≤ D → 0 ≤ u.1 319 l ∧ u.1 319 l ≤ T) ∧ (∀ l : Nat, l ≤ D → (l < D ∨ o 3 l = none) → u.1 319 l % 2 = b2 (t l)) ∧ ∀ m : Ma, o 3 D = some m → 0 ≤ u.1 318 (D : Nat) ∧ u.1 318 (D : Nat) ≤ T ∧ u.1 318 (D : Nat) % 2 = b2 (t D) ∧ u.1 319 (D : Nat) = 0
def RB (u : uS) (S : bSt) (M T : Nat) : Prop := u.1 271 61 = (S.1 : Int) + 1 ∧ S.1 ≤ 15 ∧ u.1 271 42 = M ∧ 2 ≤ M ∧ T ≤ 300 ∧ B3 u ∧ (∀ a l : Nat, a < 4 → l ≤ S.1 → fRf u M (u.1 (314 + a) l) (S.2.1 a l)) ∧ TRN u S.1 S.2.1 S.2.2 T
def RX (u u' : uS) : Prop := u'.2 = u.2 ∧ (∀ (b : Nat) (j : Int), ¬ (301 ≤ b ∧ b ≤ 320) → (b = 271 → j ≠ 42 ∧ j ≠ 43 ∧ j ≠ 44 ∧ j ≠ 61) → u'.1 b j = u.1 b j) ∧ (∀ j : Int, j < 2 → u'.1 301 j = u.1 301 j) ∧ (∀ j : Int, j < 800 → u'.1 302 j = u.1 302 j) ∧ ∀ j : Int, j < 80 → u'.1 303 j = u.1 303 j
theorem RX_refl (u : uS) : RX u u := ⟨rfl, fun _ _ _ _ => rfl, fun _ _ => rfl, fun _ _ => rfl, fun _ _ => rfl⟩
theorem RX_trans {u v w : uS} (h : RX u v) (h' : RX v w) : RX u w := ⟨h'.1.trans h.1, fun b j hb hj => (h'.2.1 b j hb hj).trans (h.2.1 b j hb hj), fun j hj => (h'.2.2.1 j hj).trans (h.2.2.1 j hj), fun j hj => (h'.2.2.2.1 j hj).trans (h.2.2.2.1 j hj), fun j hj => (h'.2.2.2.2 j hj).trans (h.2.2.2.2 j hj)⟩
theorem RX_wr {u v : uS} {a : Nat} {i y : Int} (ha : 304 ≤ a) (ha' : a ≤ 320) (h : RX u v) : RX u (wr v a i y) := ⟨h.1, fun b j hb hj => by rw [wr_ne (by omega)]; exact h.2.1 b j hb hj, fun j hj => by rw [wr_ne (by omega)]; exact h.2.2.1 j hj, fun j hj => by rw [wr_ne (by omega)]; exact h.2.2.2.1 j hj, fun j hj => by rw [wr_ne (by omega)]; exact h.2.2.2.2 j hj⟩
theorem RX_w1 {u v : uS} {i y : Int} (hi : i = 42 ∨ i = 43 ∨ i = 44 ∨ i = 61) (h : RX u v) : RX u (wr v 271 i y) := ⟨h.1, fun b j hb hj => by rw [wr_1, if_neg (fun e => by have := hj e.1; omega)]; exact h.2.1 b j hb hj, fun j hj => by rw [wr_ne (by decide)]; exact h.2.2.1 j hj, fun j hj => by rw [wr_ne (by decide)]; exact h.2.2.2.1 j hj, fun j hj => by rw [wr_ne (by decide)]; exact h.2.2.2.2 j hj⟩
theorem RX_RF {u v : uS} {M : Nat} (hM : 2 ≤ M) (h : RFm (M : Nat) u v) : RX u v := ⟨h.1, fun b j hb hj => h.2.1 b j (by simp only [List.mem_cons, List.not_mem_nil, or_false, not_or]; omega) (fun e => by omega) (fun e => by omega) (fun e => by omega) (fun e => ⟨(hj e).1, (hj e).2.1, (hj e).2.2.1⟩), fun j hj => h.2.1 301 j (by decide) (fun _ => by omega) (fun e => absurd e (by decide)) (fun e => absurd e (by decide)) (fun e => absurd e (by decide)), fun j hj => h.2.1 302 j (by decide) (fun e => absurd e (by decide)) (fun _ => by omega) (fun e => absurd e (by decide)) (fun e => absurd e (by decide)), fun j hj => h.2.1 303 j (by decide) (fun e => absurd e (by decide)) (fun e => absurd e (by decide)) (fun _ => by omega) (fun e => absurd e (by decide))⟩
theorem RF_row {u v : uS} {M : Int} (h : RFm M u v) {b : Nat} (hb : 314 ≤ b) : v.1 b = u.1 b := funext (fun j => h.2.1 b j (by simp only [List.mem_cons, List.not_mem_nil, or_false, not_or]; omega) (fun e => by omega) (fun e => by omega) (fun e => by omega) (fun e => by omega))
theorem RF_61 {u v : uS} {M : Int} (h : RFm M u v) : v.1 271 61 = u.1 271 61 := h.2.1 271 61 (by decide) (fun e => absurd e (by decide)) (fun e => absurd e (by decide)) (fun e => absurd e (by decide)) (fun _ => ⟨by decide, by decide, by decide⟩)
def kpM (u u' : uS) (M : Nat) : Prop := ∀ (k : Nat) (m : Ma), 2 ≤ k → k < M → okM m → rMa u (k : Nat) m → rMa u' (k : Nat) m
theorem kpM_RF {u v : uS} {M : Nat} (h : RFm (M : Nat) u v) : kpM u v M := fun k m _ hk hm hu => rMa_RF hu hm h (by omega)
theorem kpM_wr {u v : uS} {M a : Nat} {i y : Int} (ha : 304 ≤ a ∨ a = 271) (h : kpM u v M) : kpM u (wr v a i y) M := fun k m h2 hk hm hu => rMa_of (h k m h2 hk hm hu) (by rw [wr_ne (by omega)]) (fun j _ _ => by rw [wr_ne (by omega)]) (fun j _ _ => by rw [wr_ne (by omega)]) hm
theorem kpM_refl (u : uS) (M : Nat) : kpM u u M := fun _ _ _ _ _ h => h
theorem kpM_trans {u v w : uS} {M M' : Nat} (hM : M ≤ M') (h : kpM u v M) (h' : kpM v w M') : kpM u w M := fun k m h2 hk hm hu => h' k m h2 (by omega) hm (h k m h2 hk hm hu)
theorem fRf_mono {u u' : uS} {M M' : Nat} {x : Int} {o : Option Ma} (h : fRf u M x o) (hk : kpM u u' M) (hM : M ≤ M') : fRf u' M' x o := by
  rcases h with h | ⟨k, m, h1, h2, h3, h4, h5, h6⟩
  · exact Or.inl h
  · exact Or.inr ⟨k, m, h1, h2, h3, by omega, h5, hk k m h3 h4 h5 h6⟩
theorem fRf_none {u : uS} {M : Nat} {x : Int} (h : fRf u M x none) : x = -2 := by
  rcases h with h | ⟨k, m, h1, -⟩
  · exact h.2
  · cases h1
theorem fRf_some {u : uS} {M : Nat} {x : Int} {m : Ma} (h : fRf u M x (some m)) : ∃ k : Nat, x = (k : Nat) ∧ 2 ≤ k ∧ k < M ∧ okM m ∧ rMa u (k : Nat) m := by
  rcases h with ⟨h, -⟩ | ⟨k, m', h1, h2, h3, h4, h5, h6⟩
  · cases h
  · injection h1 with h1
    rw [h1]
    exact ⟨k, h2, h3, h4, h5, h6⟩
theorem fRf_r {u : uS} {M : Nat} {x : Int} {o : Option Ma} (h : fRf u M x o) : -2 ≤ x ∧ (x = -2 ∨ (2 ≤ x ∧ x < M)) := by
  rcases h with h | ⟨k, m, h1, h2, h3, h4, -⟩
  · exact ⟨by omega, Or.inl h.2⟩
  · exact ⟨by omega, Or.inr ⟨by omega, by omega⟩⟩
theorem RB_upd {u u' : uS} {S : bSt} {M M' T T' : Nat} (h : RB u S M T) (hD : u'.1 271 61 = u.1 271 61) (h42 : u'.1 271 42 = M') (hMM : M ≤ M') (hT : T' ≤ 300) (hB : B3 u') (hk : kpM u u' M) (o' : Nat → Nat → Option Ma) (t' : Nat → Bool) (ho : ∀ a l : Nat, a < 4 → l ≤ S.1 → (o' a l = S.2.1 a l ∧ u'.1 (314 + a) l = u.1 (314 + a) l) ∨ fRf u' M' (u'.1 (314 + a) l) (o' a l)) (ht : TRN u' S.1 o' t' T') : RB u' (S.1, o', t') M' T' := by
  obtain ⟨r1, r2, r3, r4, -, r5, r6, r7⟩ := h
  refine ⟨by rw [hD]; exact r1, r2, h42, by omega, hT, hB, fun a l ha hl => ?_, ht⟩
  have hl : l ≤ S.1 := hl
  rcases ho a l ha hl with ⟨q1, q2⟩ | q
  · show fRf u' M' (u'.1 (314 + a) l) (o' a l)
    rw [q1, q2]
    exact fRf_mono (r6 a l ha hl) hk hMM
  · exact q
def r42 (u : uS) : Prop := 0 ≤ u.1 271 42 ∧ u.1 271 42 ≤ 200
/-- the outcome of the other side's step -/
def QO (x : Option bSt) (M T : Nat) (u u' : uS) : Prop := RX u u' ∧ B3 u' ∧ ((u'.1 271 43 = 0 ∧ ∃ (S' : bSt) (M' : Nat), x = some S' ∧ M' ≤ M ∧ RB u' S' M' T) ∨ (u'.1 271 43 = 1 ∧ x = none ∧ u'.1 271 61 = u.1 271 61 ∧ r42 u'))
set_option maxRecDepth 4000 in
theorem q_241 {d M T : Nat} {u : uS} {S : bSt} (hB : RB u S M T) (hM : M ≤ 95) (z : u.1 271 43 = 0) : cV (d + 5) 241 [.ref 271] u (QO (bdI S) (M + 2) T u) := by
  obtain ⟨r1, r2, r3, r4, rT, r5, r6, r7, r8, r9⟩ := id hB
  have e61 : u.1 271 61 - 1 = (S.1 : Nat) := by omega
  have f3 := r6 3 S.1 (by omega) (Nat.le_refl _)
  have f3r := fRf_r f3
  have f2 := r6 2 S.1 (by omega) (Nat.le_refl _)
  -- behind the turning
  have tail : ∀ (m m' : Ma) (w : uS) (k' M' : Nat) (l3 : Int), S.2.1 3 S.1 = some m → m' = (if S.2.2 S.1 = true then cMp m else m) → okM m' → rMa w (k' : Nat) m' → 2 ≤ k' → k' < M' → M ≤ M' → M' ≤ M + 1 → RX u w → B3 w → kpM u w M → w.1 271 61 = u.1 271 61 → w.1 271 42 = M' → w.1 271 43 = 0 → (∀ b : Nat, 314 ≤ b → w.1 b = u.1 b) → rI l3 → ¬ l3 < (u.1 318 (S.1 : Nat)).tmod 2 → K_241 (d + 4) 35 [.ref 271, iV (S.1 : Nat), iV (k' : Nat), iV l3] [] w (QO (bdI S) (M + 2) T u) := by
    intro m m' w k' M' l3 hs em ok' mw k2 kM hMM hM1 wX wB wk w61 w42 w43 wro hl3 hnl
    obtain ⟨t1, t2, t3, t4⟩ := r9 m hs
    have eI := bdI_some hs
    rw [← em] at eI
    have e316 : w.1 316 (S.1 : Nat) = u.1 316 (S.1 : Nat) := by rw [wro 316 (by omega)]
    have f2' : fRf w M' (w.1 316 (S.1 : Nat)) (S.2.1 2 S.1) := by rw [e316]; exact fRf_mono f2 wk hMM
    have f2r := fRf_r f2'
    have htm : (u.1 318 (S.1 : Nat)).tmod 2 = u.1 318 (S.1 : Nat) % 2 := Int.tmod_eq_emod_of_nonneg t1
    have hTR : ∀ (v : uS), v.1 318 = u.1 318 → v.1 319 = u.1 319 → ∀ y : Ma, TRN v S.1 (oU (oU S.2.1 3 S.1 none) 2 S.1 (some y)) (tU S.2.2 S.1 false) T := by
      intro v h1 h2 y
      refine ⟨fun l hl => by rw [h2]; exact r7 l hl, fun l hl _ => ?_, fun m' hm' => ?_⟩
      · rw [h2]
        unfold tU
        by_cases e : l = S.1
        · rw [if_pos e, e, t4]; rfl
        · rw [if_neg e]
          exact r8 l hl (Or.inl (by omega))
      · rw [oU_ne (by omega), oU_eq] at hm'
        cases hm'
    refine k_241_35 (d := d + 4) ⟨by omega, by omega, ?_⟩
    rw [wro 318 (by omega)]
    refine ⟨⟨by omega, by omega⟩, hl3, ⟨by rw [htm]; omega, by rw [htm]; omega⟩, ?_⟩
    rw [if_neg hnl]
    refine ⟨⟨by omega, by omega⟩, ?_⟩
    cases hr : S.2.1 2 S.1 with
    | none =>
      rw [hr] at f2' eI
      rw [mrg_none] at eI
      rw [if_pos (fRf_none f2')]
      intro u11 e11 u13 e13
      have hne : ∀ b, b ≠ 316 → b ≠ 317 → u13.1 b = w.1 b := fun b h1 h2 => by rw [e13, wr_ne h2, e11, wr_ne h1]
      have g316 : u13.1 316 = uf (w.1 316) (S.1 : Nat) (k' : Nat) := by rw [e13, wr_ne (by decide), e11, wr_uf]
      have g317 : u13.1 317 = uf (w.1 317) (S.1 : Nat) (-2) := by rw [e13, wr_uf, e11, wr_ne (by decide)]
      have kp13 : kpM w u13 M' := by rw [e13, e11]; exact kpM_wr (Or.inl (by omega)) (kpM_wr (Or.inl (by omega)) (kpM_refl w M'))
      refine ⟨by rw [e13, e11]; exact RX_wr (by omega) (by omega) (RX_wr (by omega) (by omega) wX), fun j => by rw [hne 303 (by decide) (by decide)]; exact wB j, Or.inl ⟨by rw [hne 271 (by decide) (by decide)]; exact w43, _, M', eI, by omega, ?_⟩⟩
      refine RB_upd hB (by rw [hne 271 (by decide) (by decide)]; exact w61) (by rw [hne 271 (by decide) (by decide)]; exact w42) hMM rT (fun j => by rw [hne 303 (by decide) (by decide)]; exact wB j) (kpM_trans hMM wk kp13) _ _ (fun a l ha hl => ?_) (hTR u13 (by rw [hne 318 (by decide) (by decide)]; exact wro 318 (by omega)) (by rw [hne 319 (by decide) (by decide)]; exact wro 319 (by omega)) m')
      by_cases e1 : a = 2 ∧ l = S.1
      · right
        rw [e1.1, e1.2, oU_eq]
        exact Or.inr ⟨k', m', rfl, by show u13.1 316 (S.1 : Nat) = _; rw [g316, uf_eq], k2, kM, ok', kp13 k' m' k2 kM ok' mw⟩
      · by_cases e2 : a = 3 ∧ l = S.1
        · right
          rw [e2.1, e2.2, oU_ne (by omega), oU_eq]
          exact Or.inl ⟨rfl, by show u13.1 317 (S.1 : Nat) = _; rw [g317, uf_eq]⟩
        · left
          rw [oU_ne e1, oU_ne e2]
          refine ⟨rfl, ?_⟩
          by_cases a2 : a = 2
          · rw [a2] at e1 ⊢
            show u13.1 316 (l : Nat) = u.1 316 (l : Nat)
            rw [g316, uf_ne (by omega), wro 316 (by omega)]
          · by_cases a3 : a = 3
            · rw [a3] at e2 ⊢
              show u13.1 317 (l : Nat) = u.1 317 (l : Nat)
              rw [g317, uf_ne (by omega), wro 317 (by omega)]
            · rw [hne (314 + a) (by omega) (by omega)]
              rw [wro (314 + a) (by omega)]
    | some r =>
      rw [hr] at f2' eI
      rw [mrg_some] at eI
      obtain ⟨kr, x1, x2, x3, x4, x5⟩ := fRf_some f2'
      rw [x1, if_neg (by omega)]
      refine (q_244 (d := d) (M := M') (by omega) (by omega) (by omega) w42 w43 x4 ok' x5 mw).mono (Nat.le_refl _) (fun r16 u15 h => ?_)
      obtain ⟨y1, y2, y3, y4⟩ := h
      intro u17 e17 u19 e19
      have hne : ∀ b, b ≠ 316 → b ≠ 317 → u19.1 b = u15.1 b := fun b h1 h2 => by rw [e19, wr_ne h2, e17, wr_ne h1]
      have g316 : u19.1 316 = uf (w.1 316) (S.1 : Nat) (M' : Nat) := by rw [e19, wr_ne (by decide), e17, wr_uf, RF_row y2 (by omega), y1]
      have g317 : u19.1 317 = uf (w.1 317) (S.1 : Nat) (-2) := by rw [e19, wr_uf, e17, wr_ne (by decide), RF_row y2 (by omega)]
      have kp15 : kpM w u15 M' := kpM_RF y2
      have kp19 : kpM w u19 M' := by rw [e19, e17]; exact kpM_wr (Or.inl (by omega)) (kpM_wr (Or.inl (by omega)) kp15)
      have X19 : RX u u19 := by rw [e19, e17]; exact RX_wr (by omega) (by omega) (RX_wr (by omega) (by omega) (RX_trans wX (RX_RF (by omega) y2)))
      have B19 : B3 u19 := fun j => by rw [hne 303 (by decide) (by decide)]; exact y2.2.2 wB j
      refine ⟨X19, B19, ?_⟩
      rcases y4 with ⟨a1, y, a2, a3, a4⟩ | ⟨a1, a2⟩
      · refine Or.inl ⟨by rw [hne 271 (by decide) (by decide)]; exact a1, (S.1, oU (oU S.2.1 3 S.1 none) 2 S.1 (some y), tU S.2.2 S.1 false), M' + 1, by rw [eI, mkR_some a2]; rfl, by omega, ?_⟩
        refine RB_upd hB (by rw [hne 271 (by decide) (by decide), RF_61 y2]; exact w61) (by rw [hne 271 (by decide) (by decide), y3]; omega) (by omega) rT B19 (kpM_trans hMM wk kp19) _ _ (fun a l ha hl => ?_) (hTR u19 (by rw [hne 318 (by decide) (by decide), RF_row y2 (by omega)]; exact wro 318 (by omega)) (by rw [hne 319 (by decide) (by decide), RF_row y2 (by omega)]; exact wro 319 (by omega)) y)
        by_cases e1 : a = 2 ∧ l = S.1
        · right
          rw [e1.1, e1.2, oU_eq]
          refine Or.inr ⟨M', y, rfl, by show u19.1 316 (S.1 : Nat) = _; rw [g316, uf_eq], by omega, by omega, a3, ?_⟩
          exact rMa_of a4 (by rw [hne 301 (by decide) (by decide)]) (fun j _ _ => by rw [hne 302 (by decide) (by decide)]) (fun j _ _ => by rw [hne 303 (by decide) (by decide)]) a3
        · by_cases e2 : a = 3 ∧ l = S.1
          · right
            rw [e2.1, e2.2, oU_ne (by omega), oU_eq]
            exact Or.inl ⟨rfl, by show u19.1 317 (S.1 : Nat) = _; rw [g317, uf_eq]⟩
          · left
            rw [oU_ne e1, oU_ne e2]
            refine ⟨rfl, ?_⟩
            by_cases b2' : a = 2
            · rw [b2'] at e1 ⊢
              show u19.1 316 (l : Nat) = u.1 316 (l : Nat)
              rw [g316, uf_ne (by omega), wro 316 (by omega)]
            · by_cases b3 : a = 3
              · rw [b3] at e2 ⊢
                show u19.1 317 (l : Nat) = u.1 317 (l : Nat)
                rw [g317, uf_ne (by omega), wro 317 (by omega)]
              · rw [hne (314 + a) (by omega) (by omega), RF_row y2 (by omega)]
                rw [wro (314 + a) (by omega)]
      · exact Or.inr ⟨by rw [hne 271 (by decide) (by decide)]; exact a1, by rw [eI, mkR_none a2]; rfl, by rw [hne 271 (by decide) (by decide), RF_61 y2]; exact w61, by unfold r42; rw [hne 271 (by decide) (by decide), y3]; omega⟩
  refine e_241 (d := d + 4) ?_
  rw [e61]
  have e317 : u.1 317 (S.1 : Nat) = u.1 (314 + 3) (S.1 : Nat) := rfl
  refine ⟨by omega, by omega, ⟨by omega, by omega⟩, ?_⟩
  cases hs : S.2.1 3 S.1 with
  | none =>
    rw [hs] at f3
    rw [if_pos (show u.1 317 (S.1 : Nat) = -2 from fRf_none f3)]
    exact ⟨RX_refl u, r5, Or.inl ⟨z, S, M, bdI_none hs, by omega, hB⟩⟩
  | some m =>
    rw [hs] at f3
    obtain ⟨k, x1, x2, x3, x4, x5⟩ := fRf_some f3
    have x1 : u.1 317 (S.1 : Nat) = (k : Nat) := x1
    rw [x1, if_neg (by omega), z]
    refine ⟨⟨by omega, by omega⟩, ?_⟩
    rw [if_pos rfl]
    obtain ⟨t1, t2, t3, t4⟩ := r9 m hs
    have htm : (u.1 318 (S.1 : Nat)).tmod 2 = u.1 318 (S.1 : Nat) % 2 := Int.tmod_eq_emod_of_nonneg t1
    cases ht : S.2.2 S.1 with
    | false =>
      have hz : u.1 318 (S.1 : Nat) % 2 = 0 := by rw [t3, ht]; rfl
      exact tail m m u k M 0 hs (by rw [ht]; rfl) x4 x5 x2 x3 (Nat.le_refl _) (by omega) (RX_refl u) r5 (kpM_refl u M) rfl r3 z (fun _ _ => rfl) ⟨by omega, by omega⟩ (by rw [htm, hz]; omega)
    | true =>
      have hz : u.1 318 (S.1 : Nat) % 2 = 1 := by rw [t3, ht]; rfl
      refine k_241_35 (d := d + 4) ⟨by omega, by omega, ⟨by omega, by omega⟩, ⟨by omega, by omega⟩, ⟨by rw [htm, hz]; omega, by rw [htm, hz]; omega⟩, ?_⟩
      rw [if_pos (by rw [htm, hz]; omega)]
      refine (q_242 (d := d + 2) x3 (by omega) r3 z x4 x5).mono (Nat.le_refl _) (fun r8 u7 h => ?_)
      obtain ⟨y1, y2, y3, y4, y5⟩ := h
      rw [y1]
      refine tail m (cMp m) u7 M (M + 1) (0 + 1) hs (by rw [ht]; rfl) (cMp_ok x4) y5 (by omega) (by omega) (by omega) (by omega) (RX_RF (by omega) y2) (y2.2.2 r5) (kpM_RF y2) (RF_61 y2) (by rw [y3]; omega) y4 (fun b hb => RF_row y2 hb) ⟨by omega, by omega⟩ (by rw [htm, hz]; omega)
