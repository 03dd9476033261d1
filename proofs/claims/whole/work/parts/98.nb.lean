/-! The other side's ends of rows and sums -/
theorem sMp_m1 : sMp (-1) = eMp := rfl
set_option maxRecDepth 4000 in
theorem q_256 {d M T : Nat} {u : uS} {S : bSt} (hB : RB u S M T) (hM : M ≤ 93) (z : u.1 271 43 = 0) : cV (d + 6) 256 [.ref 271] u (QO ((bdI S).bind bdR) (M + 4) T u) := by
  refine e_256 (d := d + 5) ((q_241 (d := d) hB (by omega) z).mono (Nat.le_refl _) (fun u1 h1 => ?_))
  obtain ⟨x1, y1, h1⟩ := h1
  rcases h1 with ⟨z1, S1, M1, b1, hM1, d1⟩ | ⟨z1, b1, w1⟩
  · rw [z1]
    refine ⟨⟨by omega, by omega⟩, ?_⟩
    rw [if_pos rfl]
    obtain ⟨r1, r2, r3, r4, rT, r5, r6, r7, r8, r9⟩ := id d1
    have e61 : u1.1 271 61 - 1 = (S1.1 : Nat) := by omega
    rw [e61]
    have f1 := r6 1 S1.1 (by omega) (Nat.le_refl _)
    have f2 := r6 2 S1.1 (by omega) (Nat.le_refl _)
    have f2r := fRf_r f2
    have hno : S1.2.1 3 S1.1 = none := (bdI_1 b1).2
    have ebind : (bdI S).bind bdR = bdR S1 := by rw [b1]; rfl
    have tail : ∀ (w : uS) (kr M2 : Nat) (mr : Ma), mr = (S1.2.1 2 S1.1).getD eMp → okM mr → rMa w (kr : Nat) mr → 2 ≤ kr → kr < M2 → M1 ≤ M2 → M2 ≤ M1 + 1 → RX u1 w → B3 w → kpM u1 w M1 → w.1 271 61 = u1.1 271 61 → w.1 271 42 = M2 → w.1 271 43 = 0 → (∀ b : Nat, 314 ≤ b → b ≠ 316 → w.1 b = u1.1 b) → w.1 316 = uf (u1.1 316) (S1.1 : Nat) (-2) → (rI (w.1 315 (S1.1 : Nat))) ∧ (if w.1 315 (S1.1 : Nat) = (-2) then (∀ u14 : uS, u14 = wr w 315 (S1.1 : Nat) (kr : Nat) → QO ((bdI S).bind bdR) (M + 4) T u u14) else (cI (d + 5) 257 [.ref 271, iV (w.1 315 (S1.1 : Nat)), iV (kr : Nat), iV 0] w (fun r17 u16 => ∀ u18 : uS, u18 = wr u16 315 (S1.1 : Nat) r17 → QO ((bdI S).bind bdR) (M + 4) T u u18))) := by
      intro w kr M2 mr em okm mw k2 kM hMM hM2 wX wB wk w61 w42 w43 wro w316
      have eR : bdR S1 = (mrg 0 (S1.2.1 1 S1.1) mr).map (fun y => (S1.1, oU (oU S1.2.1 2 S1.1 none) 1 S1.1 (some y), S1.2.2)) := by unfold bdR; rw [em]
      have e315 : w.1 315 (S1.1 : Nat) = u1.1 315 (S1.1 : Nat) := by rw [wro 315 (by omega) (by decide)]
      have f1' : fRf w M2 (w.1 315 (S1.1 : Nat)) (S1.2.1 1 S1.1) := by rw [e315]; exact fRf_mono f1 wk hMM
      have f1r := fRf_r f1'
      have hTR : ∀ (v : uS), v.1 318 = u1.1 318 → v.1 319 = u1.1 319 → ∀ y : Ma, TRN v S1.1 (oU (oU S1.2.1 2 S1.1 none) 1 S1.1 (some y)) S1.2.2 T := by
        intro v h1 h2 y
        refine ⟨fun l hl => by rw [h2]; exact r7 l hl, fun l hl hh => ?_, fun m' hm' => ?_⟩
        · rw [h2]
          rw [oU_ne (by omega), oU_ne (by omega)] at hh
          exact r8 l hl hh
        · rw [oU_ne (by omega), oU_ne (by omega), hno] at hm'
          cases hm'
      have rows : ∀ (v : uS) (y : Ma) (ky M3 : Nat), (∀ b : Nat, 314 ≤ b → b ≠ 315 → v.1 b = w.1 b) → v.1 315 = uf (w.1 315) (S1.1 : Nat) (ky : Nat) → fRf v M3 (ky : Nat) (some y) → ∀ a l : Nat, a < 4 → l ≤ S1.1 → (oU (oU S1.2.1 2 S1.1 none) 1 S1.1 (some y) a l = S1.2.1 a l ∧ v.1 (314 + a) l = u1.1 (314 + a) l) ∨ fRf v M3 (v.1 (314 + a) l) (oU (oU S1.2.1 2 S1.1 none) 1 S1.1 (some y) a l) := by
        intro v y ky M3 hv h315 hf a l ha hl
        by_cases c1 : a = 1 ∧ l = S1.1
        · right
          rw [c1.1, c1.2, oU_eq]
          show fRf v M3 (v.1 315 (S1.1 : Nat)) (some y)
          rw [h315, uf_eq]
          exact hf
        · by_cases c2 : a = 2 ∧ l = S1.1
          · right
            rw [c2.1, c2.2, oU_ne (by omega), oU_eq]
            exact Or.inl ⟨rfl, by show v.1 316 (S1.1 : Nat) = _; rw [hv 316 (by omega) (by decide), w316, uf_eq]⟩
          · left
            rw [oU_ne c1, oU_ne c2]
            refine ⟨rfl, ?_⟩
            by_cases a1 : a = 1
            · rw [a1] at c1 ⊢
              show v.1 315 (l : Nat) = u1.1 315 (l : Nat)
              rw [h315, uf_ne (by omega), wro 315 (by omega) (by decide)]
            · by_cases a2 : a = 2
              · rw [a2] at c2 ⊢
                show v.1 316 (l : Nat) = u1.1 316 (l : Nat)
                rw [hv 316 (by omega) (by decide), w316, uf_ne (by omega)]
              · rw [hv (314 + a) (by omega) (by omega)]
                rw [wro (314 + a) (by omega) (by omega)]
      refine ⟨⟨by omega, by omega⟩, ?_⟩
      cases hr : S1.2.1 1 S1.1 with
      | none =>
        rw [hr] at f1' eR
        rw [mrg_none] at eR
        rw [if_pos (fRf_none f1')]
        intro u14 e14
        have hne : ∀ b, b ≠ 315 → u14.1 b = w.1 b := fun b h1 => by rw [e14, wr_ne h1]
        have kp14 : kpM w u14 M2 := by rw [e14]; exact kpM_wr (Or.inl (by omega)) (kpM_refl w M2)
        refine ⟨by rw [e14]; exact RX_wr (by omega) (by omega) (RX_trans x1 wX), fun j => by rw [hne 303 (by decide)]; exact wB j, Or.inl ⟨by rw [hne 271 (by decide)]; exact w43, _, M2, by rw [ebind]; exact eR, by omega, ?_⟩⟩
        exact RB_upd d1 (by rw [hne 271 (by decide)]; exact w61) (by rw [hne 271 (by decide)]; exact w42) hMM rT (fun j => by rw [hne 303 (by decide)]; exact wB j) (kpM_trans hMM wk kp14) _ _ (rows u14 mr kr M2 (fun b _ h => hne b h) (by rw [e14, wr_uf]) (Or.inr ⟨kr, mr, rfl, rfl, k2, kM, okm, kp14 kr mr k2 kM okm mw⟩)) (hTR u14 (by rw [hne 318 (by decide)]; exact wro 318 (by omega) (by decide)) (by rw [hne 319 (by decide)]; exact wro 319 (by omega) (by decide)) mr)
      | some r =>
        rw [hr] at f1' eR
        rw [mrg_some] at eR
        obtain ⟨kk, v1, v2, v3, v4, v5⟩ := fRf_some f1'
        rw [v1, if_neg (by omega)]
        refine (q_257 (d := d + 1) (M := M2) (Or.inl rfl) (by omega) (by omega) (by omega) w42 w43 v4 okm v5 mw).mono (Nat.le_refl _) (fun r17 u16 h => ?_)
        obtain ⟨g1, g2, g3, g4⟩ := h
        intro u18 e18
        have hne : ∀ b, b ≠ 315 → u18.1 b = u16.1 b := fun b h1 => by rw [e18, wr_ne h1]
        have kp18 : kpM w u18 M2 := by rw [e18]; exact kpM_wr (Or.inl (by omega)) (kpM_RF g2)
        have X18 : RX u u18 := by rw [e18]; exact RX_wr (by omega) (by omega) (RX_trans x1 (RX_trans wX (RX_RF (by omega) g2)))
        have B18 : B3 u18 := fun j => by rw [hne 303 (by decide)]; exact g2.2.2 wB j
        refine ⟨X18, B18, ?_⟩
        rcases g4 with ⟨a1, y, a2, a3, a4⟩ | ⟨a1, a2⟩
        · refine Or.inl ⟨by rw [hne 271 (by decide)]; exact a1, (S1.1, oU (oU S1.2.1 2 S1.1 none) 1 S1.1 (some y), S1.2.2), M2 + 1, by rw [ebind, eR, mkR_some a2]; rfl, by omega, ?_⟩
          refine RB_upd d1 (by rw [hne 271 (by decide), RF_61 g2]; exact w61) (by rw [hne 271 (by decide), g3]; omega) (by omega) rT B18 (kpM_trans hMM wk kp18) _ _ (rows u18 y M2 (M2 + 1) (fun b hb h => by rw [hne b h]; exact RF_row g2 hb) (by rw [e18, wr_uf, RF_row g2 (by omega), g1]) (Or.inr ⟨M2, y, rfl, rfl, by omega, by omega, a3, rMa_of a4 (by rw [hne 301 (by decide)]) (fun j _ _ => by rw [hne 302 (by decide)]) (fun j _ _ => by rw [hne 303 (by decide)]) a3⟩)) (hTR u18 (by rw [hne 318 (by decide), RF_row g2 (by omega)]; exact wro 318 (by omega) (by decide)) (by rw [hne 319 (by decide), RF_row g2 (by omega)]; exact wro 319 (by omega) (by decide)) y)
        · exact Or.inr ⟨by rw [hne 271 (by decide)]; exact a1, by rw [ebind, eR, mkR_none a2]; rfl, by rw [hne 271 (by decide), RF_61 g2, w61]; have := (bdI_1 b1).1; have := hB.1; omega, by unfold r42; rw [hne 271 (by decide), g3]; omega⟩
    have e316 : u1.1 316 (S1.1 : Nat) = u1.1 (314 + 2) (S1.1 : Nat) := rfl
    refine ⟨by omega, by omega, ⟨by omega, by omega⟩, ?_⟩
    cases hr : S1.2.1 2 S1.1 with
    | none =>
      rw [hr] at f2
      rw [if_pos (show u1.1 316 (S1.1 : Nat) = -2 from fRf_none f2)]
      refine (q_253 (d := d + 1) (M := M1) (Or.inl rfl) (by omega) r3 z1).mono (Nat.le_refl _) (fun r9' u8 h => ?_)
      obtain ⟨g1, g2, g3, g4, g5⟩ := h
      rw [sMp_m1] at g5
      intro u10 e10
      rw [g1]
      have hne : ∀ b, b ≠ 316 → u10.1 b = u8.1 b := fun b h1 => by rw [e10, wr_ne h1]
      refine tail u10 M1 (M1 + 1) eMp (by rw [hr]; rfl) eMp_ok (rMa_of g5 (by rw [hne 301 (by decide)]) (fun j _ _ => by rw [hne 302 (by decide)]) (fun j _ _ => by rw [hne 303 (by decide)]) eMp_ok) (by omega) (by omega) (by omega) (by omega) (by rw [e10]; exact RX_wr (by omega) (by omega) (RX_RF (by omega) g2)) (fun j => by rw [hne 303 (by decide)]; exact g2.2.2 r5 j) (by rw [e10]; exact kpM_wr (Or.inl (by omega)) (kpM_RF g2)) (by rw [hne 271 (by decide)]; exact RF_61 g2) (by rw [hne 271 (by decide), g3]; omega) (by rw [hne 271 (by decide)]; exact g4) (fun b hb h => by rw [hne b h]; exact RF_row g2 hb) (by rw [e10, wr_uf, RF_row g2 (by omega)])
    | some r =>
      rw [hr] at f2
      obtain ⟨kk, v1, v2, v3, v4, v5⟩ := fRf_some f2
      have v1 : u1.1 316 (S1.1 : Nat) = (kk : Nat) := v1
      rw [v1, if_neg (by omega)]
      intro u20 e20
      have hne : ∀ b, b ≠ 316 → u20.1 b = u1.1 b := fun b h1 => by rw [e20, wr_ne h1]
      exact tail u20 kk M1 r (by rw [hr]; rfl) v4 (rMa_of v5 (by rw [hne 301 (by decide)]) (fun j _ _ => by rw [hne 302 (by decide)]) (fun j _ _ => by rw [hne 303 (by decide)]) v4) v2 v3 (Nat.le_refl _) (by omega) (by rw [e20]; exact RX_wr (by omega) (by omega) (RX_refl u1)) (fun j => by rw [hne 303 (by decide)]; exact r5 j) (by rw [e20]; exact kpM_wr (Or.inl (by omega)) (kpM_refl u1 M1)) (by rw [hne 271 (by decide)]) (by rw [hne 271 (by decide)]; exact r3) (by rw [hne 271 (by decide)]; exact z1) (fun b hb h => hne b h) (by rw [e20, wr_uf])
  · rw [z1]
    refine ⟨⟨by omega, by omega⟩, ?_⟩
    rw [if_neg (by decide)]
    exact ⟨x1, y1, Or.inr ⟨z1, by rw [b1]; rfl, w1⟩⟩
set_option maxRecDepth 4000 in
theorem q_255 {d M T : Nat} {u : uS} {S : bSt} (hB : RB u S M T) (hM : M ≤ 93) (z : u.1 271 43 = 0) : cV (d + 7) 255 [.ref 271] u (QO (((bdI S).bind bdR).bind bdE) (M + 5) T u) := by
  refine e_255 (d := d + 6) ((q_256 (d := d) hB hM z).mono (Nat.le_refl _) (fun u1 h1 => ?_))
  obtain ⟨x1, y1, h1⟩ := h1
  rcases h1 with ⟨z1, S1, M1, b1, hM1, d1⟩ | ⟨z1, b1, w1⟩
  · rw [z1]
    refine ⟨⟨by omega, by omega⟩, ?_⟩
    rw [if_pos rfl]
    obtain ⟨r1, r2, r3, r4, rT, r5, r6, r7, r8, r9⟩ := id d1
    have e61 : u1.1 271 61 - 1 = (S1.1 : Nat) := by omega
    rw [e61]
    have f0 := r6 0 S1.1 (by omega) (Nat.le_refl _)
    have f0 : fRf u1 M1 (u1.1 314 (S1.1 : Nat)) (S1.2.1 0 S1.1) := f0
    have f1 := r6 1 S1.1 (by omega) (Nat.le_refl _)
    have f1 : fRf u1 M1 (u1.1 315 (S1.1 : Nat)) (S1.2.1 1 S1.1) := f1
    have f0r := fRf_r f0
    obtain ⟨S0, b0, b0'⟩ := bind_some b1
    obtain ⟨-, hno, s, hs⟩ := bdR_1 b0'
    have hno : S1.2.1 3 S1.1 = none := by rw [hno]; exact (bdI_1 b0).2
    have eE := bdE_some hs
    rw [hs] at f1
    obtain ⟨ks, p1, p2, p3, p4, p5⟩ := fRf_some f1
    rw [p1]
    have ebind : ((bdI S).bind bdR).bind bdE = bdE S1 := by rw [b1]; rfl
    have hTR : ∀ (v : uS), v.1 318 = u1.1 318 → v.1 319 = u1.1 319 → ∀ y : Ma, TRN v S1.1 (oU (oU S1.2.1 1 S1.1 none) 0 S1.1 (some y)) S1.2.2 T := by
      intro v h1 h2 y
      refine ⟨fun l hl => by rw [h2]; exact r7 l hl, fun l hl hh => ?_, fun m' hm' => ?_⟩
      · rw [h2]
        rw [oU_ne (by omega), oU_ne (by omega)] at hh
        exact r8 l hl hh
      · rw [oU_ne (by omega), oU_ne (by omega), hno] at hm'
        cases hm'
    have rows : ∀ (v : uS) (y : Ma) (ky M3 : Nat), (∀ b : Nat, 314 ≤ b → b ≠ 314 → b ≠ 315 → v.1 b = u1.1 b) → v.1 314 = uf (u1.1 314) (S1.1 : Nat) (ky : Nat) → v.1 315 = uf (u1.1 315) (S1.1 : Nat) (-2) → fRf v M3 (ky : Nat) (some y) → ∀ a l : Nat, a < 4 → l ≤ S1.1 → (oU (oU S1.2.1 1 S1.1 none) 0 S1.1 (some y) a l = S1.2.1 a l ∧ v.1 (314 + a) l = u1.1 (314 + a) l) ∨ fRf v M3 (v.1 (314 + a) l) (oU (oU S1.2.1 1 S1.1 none) 0 S1.1 (some y) a l) := by
      intro v y ky M3 hv h314 h315 hf a l ha hl
      by_cases c1 : a = 0 ∧ l = S1.1
      · right
        rw [c1.1, c1.2, oU_eq]
        show fRf v M3 (v.1 314 (S1.1 : Nat)) (some y)
        rw [h314, uf_eq]
        exact hf
      · by_cases c2 : a = 1 ∧ l = S1.1
        · right
          rw [c2.1, c2.2, oU_ne (by omega), oU_eq]
          exact Or.inl ⟨rfl, by show v.1 315 (S1.1 : Nat) = _; rw [h315, uf_eq]⟩
        · left
          rw [oU_ne c1, oU_ne c2]
          refine ⟨rfl, ?_⟩
          by_cases a1 : a = 0
          · rw [a1] at c1 ⊢
            show v.1 314 (l : Nat) = u1.1 314 (l : Nat)
            rw [h314, uf_ne (by omega)]
          · by_cases a2 : a = 1
            · rw [a2] at c2 ⊢
              show v.1 315 (l : Nat) = u1.1 315 (l : Nat)
              rw [h315, uf_ne (by omega)]
            · exact congrFun (hv (314 + a) (by omega) (by omega) (by omega)) _
    refine ⟨by omega, by omega, ⟨by omega, by omega⟩, ?_⟩
    cases hr : S1.2.1 0 S1.1 with
    | none =>
      rw [hr] at f0 eE
      rw [mrg_none] at eE
      rw [if_pos (fRf_none f0)]
      intro u8 e8 u10 e10
      have hne : ∀ b, b ≠ 314 → b ≠ 315 → u10.1 b = u1.1 b := fun b h1 h2 => by rw [e10, wr_ne h2, e8, wr_ne h1]
      have kp10 : kpM u1 u10 M1 := by rw [e10, e8]; exact kpM_wr (Or.inl (by omega)) (kpM_wr (Or.inl (by omega)) (kpM_refl u1 M1))
      refine ⟨by rw [e10, e8]; exact RX_wr (by omega) (by omega) (RX_wr (by omega) (by omega) x1), fun j => by rw [hne 303 (by decide) (by decide)]; exact r5 j, Or.inl ⟨by rw [hne 271 (by decide) (by decide)]; exact z1, _, M1, by rw [ebind]; exact eE, by omega, ?_⟩⟩
      exact RB_upd d1 (by rw [hne 271 (by decide) (by decide)]) (by rw [hne 271 (by decide) (by decide)]; exact r3) (Nat.le_refl _) rT (fun j => by rw [hne 303 (by decide) (by decide)]; exact r5 j) kp10 _ _ (rows u10 s ks M1 (fun b _ h h' => hne b h h') (by rw [e10, wr_ne (by decide), e8, wr_uf]) (by rw [e10, wr_uf, e8, wr_ne (by decide)]) (Or.inr ⟨ks, s, rfl, rfl, p2, p3, p4, kp10 ks s p2 p3 p4 p5⟩)) (hTR u10 (hne 318 (by decide) (by decide)) (hne 319 (by decide) (by decide)) s)
    | some r =>
      rw [hr] at f0 eE
      rw [mrg_some] at eE
      obtain ⟨kk, v1, v2, v3, v4, v5⟩ := fRf_some f0
      rw [v1, if_neg (by omega)]
      refine (q_257 (d := d + 2) (M := M1) (Or.inr rfl) (by omega) (by omega) (by omega) r3 z1 v4 p4 v5 p5).mono (Nat.le_refl _) (fun r13 u12 h => ?_)
      obtain ⟨g1, g2, g3, g4⟩ := h
      intro u14 e14 u16 e16
      have hne : ∀ b, b ≠ 314 → b ≠ 315 → u16.1 b = u12.1 b := fun b h1 h2 => by rw [e16, wr_ne h2, e14, wr_ne h1]
      have kp16 : kpM u1 u16 M1 := by rw [e16, e14]; exact kpM_wr (Or.inl (by omega)) (kpM_wr (Or.inl (by omega)) (kpM_RF g2))
      have X16 : RX u u16 := by rw [e16, e14]; exact RX_wr (by omega) (by omega) (RX_wr (by omega) (by omega) (RX_trans x1 (RX_RF (by omega) g2)))
      have B16 : B3 u16 := fun j => by rw [hne 303 (by decide) (by decide)]; exact g2.2.2 r5 j
      refine ⟨X16, B16, ?_⟩
      rcases g4 with ⟨a1, y, a2, a3, a4⟩ | ⟨a1, a2⟩
      · refine Or.inl ⟨by rw [hne 271 (by decide) (by decide)]; exact a1, (S1.1, oU (oU S1.2.1 1 S1.1 none) 0 S1.1 (some y), S1.2.2), M1 + 1, by rw [ebind, eE, mkR_some a2]; rfl, by omega, ?_⟩
        exact RB_upd d1 (by rw [hne 271 (by decide) (by decide)]; exact RF_61 g2) (by rw [hne 271 (by decide) (by decide), g3]; omega) (by omega) rT B16 kp16 _ _ (rows u16 y M1 (M1 + 1) (fun b hb h h' => by rw [hne b h h']; exact RF_row g2 hb) (by rw [e16, wr_ne (by decide), e14, wr_uf, RF_row g2 (by omega), g1]) (by rw [e16, wr_uf, e14, wr_ne (by decide), RF_row g2 (by omega)]) (Or.inr ⟨M1, y, rfl, rfl, by omega, by omega, a3, rMa_of a4 (by rw [hne 301 (by decide) (by decide)]) (fun j _ _ => by rw [hne 302 (by decide) (by decide)]) (fun j _ _ => by rw [hne 303 (by decide) (by decide)]) a3⟩)) (hTR u16 (by rw [hne 318 (by decide) (by decide)]; exact RF_row g2 (by omega)) (by rw [hne 319 (by decide) (by decide)]; exact RF_row g2 (by omega)) y)
      · exact Or.inr ⟨by rw [hne 271 (by decide) (by decide)]; exact a1, by rw [ebind, eE, mkR_none a2]; rfl, by rw [hne 271 (by decide) (by decide), RF_61 g2]; have := (bdI_1 b0).1; have := (bdR_1 b0').1; have := hB.1; omega, by unfold r42; rw [hne 271 (by decide) (by decide), g3]; omega⟩
  · rw [z1]
    refine ⟨⟨by omega, by omega⟩, ?_⟩
    rw [if_neg (by decide)]
    exact ⟨x1, y1, Or.inr ⟨z1, by rw [b1]; rfl, w1⟩⟩
