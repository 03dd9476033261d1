/-! Triples that stand in trees: the other side's count -/
theorem sbR_of {u w : uS} {n : Nat} {m : Int} (h6 : w.1 276 = u.1 276) (h7 : w.1 277 = u.1 277) (h2 : w.1 302 = u.1 302) (h4 : w.1 324 = u.1 324) (h5 : w.1 325 = u.1 325) : sbR w n m = sbR u n m := by
  funext r p q y a b
  unfold sbR dlR rwR
  rw [h6, h7, h2, h4, h5]
def stR (w : uS) (nr n : Nat) (m : Int) (S : Int → Int → Int → Prop) : Prop := (∀ q, iR n q → w.1 324 (tix 0 0 q) ≠ 6000000000000000000 → S 0 0 q) ∧ ∀ r p q y a b : Int, 0 ≤ r → r < nr → iR n p → iR n q → S (w.1 275 r) p q → sbR w n m r p q y a b → S y a b
def Zr (w : uS) (nr n : Nat) (m : Int) (x p q : Int) : Prop := ∀ S, stR w nr n m S → S x p q
theorem Zr_cl {w : uS} {nr n : Nat} {m : Int} : stR w nr n m (Zr w nr n m) := ⟨fun q hq hF S hS => hS.1 q hq hF, fun r p q y o b r0 r1 hp hq hz hs S hS => hS.2 r p q y o b r0 r1 hp hq (hz S hS) hs⟩
theorem q_287 {d nv nr n : Nat} {w : uS} {m : Int} (hG : RGc w nv nr n m) (hv1 : 1 ≤ nv) (hL : okL (w.1 324) (w.1 325)) : cL (d + 8) 287 [.ref 271, iV m] w (fun c z => z.2 = w.2 ∧ sb1 w z fS ∧ ∃ p : Nat → Bool, c = (ct p 16000 : Int) ∧ ∀ t : Nat, t < 16000 → (p t = true ↔ ∃ x o q : Int, iR nv x ∧ iR n o ∧ iR n q ∧ (t : Int) = tix o x q ∧ Zr w nr n m x o q)) := by
  obtain ⟨g1, g2, g3, g4, g5, g6, g7, g8, g9⟩ := id hG
  have hz0 : iR nv 0 := ⟨by omega, by omega⟩
  have hzn : iR n 0 := ⟨by omega, by omega⟩
  generalize hQQ : (fun (c : Int) (z : uS) => z.2 = w.2 ∧ sb1 w z fS ∧ ∃ p : Nat → Bool, c = (ct p 16000 : Int) ∧ ∀ t : Nat, t < 16000 → (p t = true ↔ ∃ x o q : Int, iR nv x ∧ iR n o ∧ iR n q ∧ (t : Int) = tix o x q ∧ Zr w nr n m x o q)) = Q
  have fS1 : ∀ z : uS, sb1 w z fS → z.1 271 = w.1 271 ∧ z.1 275 = w.1 275 ∧ z.1 276 = w.1 276 ∧ z.1 277 = w.1 277 ∧ z.1 301 = w.1 301 ∧ z.1 302 = w.1 302 ∧ z.1 324 = w.1 324 ∧ z.1 325 = w.1 325 := fun z hz => ⟨hz _ (by decide), hz _ (by decide), hz _ (by decide), hz _ (by decide), hz _ (by decide), hz _ (by decide), hz _ (by decide), hz _ (by decide)⟩
  let Snd : uS → Prop := fun z => ∀ j : Int, 0 ≤ j → j < 16000 → z.1 340 j = 1 → ∃ x o q : Int, iR nv x ∧ iR n o ∧ iR n q ∧ j = tix o x q ∧ Zr w nr n m x o q
  let Pil : uS → Int → Prop := fun z l => ∀ i : Int, 0 ≤ i → i < l → 0 ≤ z.1 339 i ∧ z.1 339 i < 16000 ∧ z.1 340 (z.1 339 i) = 1
  let Clo : uS → Int → Prop := fun z l => ∀ x p q : Int, iR nv x → iR n p → iR n q → z.1 340 (tix p x q) = 1 → (∃ i : Int, 0 ≤ i ∧ i < l ∧ z.1 339 i = tix p x q) ∨ ∀ r y a b : Int, 0 ≤ r → r < nr → w.1 275 r = x → sbR w n m r p q y a b → z.1 340 (tix a y b) = 1
  let Roo : uS → Int → Prop := fun z l => ∀ q, iR n q → q < l → w.1 324 (tix 0 0 q) ≠ 6000000000000000000 → z.1 340 (tix 0 0 q) = 1
  let F01 : uS → Prop := fun z => ∀ j : Int, 0 ≤ j → j < 16000 → z.1 340 j = 0 ∨ z.1 340 j = 1
  -- the pile is taken down
  have main : ∀ (k : Nat) (l c : Int) (z : uS), 0 ≤ l → 0 ≤ c → c + k = 16000 → z.2 = w.2 → sb1 w z fS → F01 z → c + l = (ct (knw z) 16000 : Int) → Snd z → Pil z l → Roo z n → Clo z l → K_287 (d + 7) 85 [.ref 271, iV m, iV l, lV c, .retAddr 0] [] z Q := by
    intro k
    induction k with
    | zero =>
      intro l c z l0 c0 hc z2 zs zf zc zsnd zp zr zcl
      have hle := ct_le (knw z) 16000
      refine k_287_85 (d := d + 6) ⟨⟨by omega, by omega⟩, ?_⟩
      rw [if_neg (by omega), ← hQQ]
      refine ⟨z2, zs, knw z, by omega, fun t ht => ?_⟩
      have ft := zf t (by omega) (by omega)
      constructor
      · intro hk
        refine zsnd t (by omega) (by omega) ?_
        unfold knw at hk
        rcases ft with e | e
        · rw [e] at hk
          exact absurd hk (by decide)
        · exact e
      · rintro ⟨x, o, q, hx, ho, hq, ht', hz⟩
        have := hz (fun x o q => iR nv x → iR n o → iR n q → z.1 340 (tix o x q) = 1) ⟨fun q hq hf _ _ _ => zr q hq hq.2 hf, fun r p q y a b r0 r1 hp hq hS hs _ _ _ => by
          have hh := (g4 r r0 r1).1
          rcases zcl _ p q hh hp hq (hS hh hp hq) with ⟨i, i0, i1, -⟩ | hh2
          · omega
          · exact hh2 r y a b r0 r1 rfl hs⟩ hx ho hq
        unfold knw
        rw [ht', this]
        decide
    | succ k ih =>
      intro l c z l0 c0 hc z2 zs zf zc zsnd zp zr zcl
      have hle := ct_le (knw z) 16000
      refine k_287_85 (d := d + 6) ⟨⟨by omega, by omega⟩, ?_⟩
      by_cases hl : 0 < l
      · rw [if_pos hl]
        refine ⟨by omega, by omega, ?_⟩
        obtain ⟨p0, p1, p2⟩ := zp (l + -1) (by omega) (by omega)
        generalize hj : z.1 339 (l + -1) = j at p0 p1 p2
        obtain ⟨x, o, q, hx, ho, hq, ej, hZ⟩ := zsnd j p0 p1 p2
        obtain ⟨f1, f2, f3, f4, f5, f6, f7, f8⟩ := fS1 z zs
        have hGz : RGc z nv nr n m := RGc_of hG (by rw [f1]) f2 f3 f4 f5 f6
        have hLz : okL (z.1 324) (z.1 325) := by rw [f7, f8]; exact hL
        have hsb := sbR_of (n := n) (m := m) f3 f4 f6 f7 f8
        rw [ej]
        refine cI.mono (q_288 (d := d + 1) hGz hLz ho hx hq zf (by omega) (by omega)) (Nat.le_refl _) (fun top' z' ⟨gs, s1, s2⟩ => ?_)
        rw [hsb, f2] at s1 s2
        obtain ⟨a1, a2, a3, a4, a5, a6, a7, a8, a9⟩ := gs
        refine ih top' (c + 1) z' (by omega) (by omega) (by omega) (a1.trans z2) (fun b hb => (a2 b hb).trans (zs b hb)) a6 (by omega) (fun i i0 i1 hi => ?_) (fun i i0 i1 => ?_) (fun q' hq' hlt hf => a5 _ (zr q' hq' hlt hf)) (fun x' p' q' hx' hp' hq' hi => ?_)
        · rcases s1 i i0 i1 hi with h | ⟨r, y, a, b, r0, r1, ex, hy, hs, ei⟩
          · exact zsnd i i0 i1 h
          · obtain ⟨kk, k1, k2, k3, ka, kb, -⟩ := id hs
            refine ⟨y, a, b, hy, ka, kb, ei, Zr_cl.2 r o q y a b r0 r1 ho hq ?_ hs⟩
            rw [ex]
            exact hZ
        · by_cases hlt : i < l + -1
          · obtain ⟨b1, b2, b3⟩ := zp i i0 (by omega)
            rw [a4 i i0 hlt]
            exact ⟨b1, b2, a5 _ b3⟩
          · exact a9 i (by omega) i1
        · have hx0 := hx'.1
          have hx1 := hx'.2
          have hp0 := hp'.1
          have hp1 := hp'.2
          have hq0 := hq'.1
          have hq1 := hq'.2
          have htR := tix_R (o := p') (x := x') (q := q') ⟨hp0, by omega⟩ ⟨hx0, by omega⟩ ⟨hq0, by omega⟩
          rcases a8 _ htR.1 htR.2 hi with h | ⟨i, i0, i1, i2⟩
          · rcases zcl x' p' q' hx' hp' hq' h with ⟨i, i0, i1, i2⟩ | hh2
            · by_cases e : i = l + -1
              · rw [e, hj, ej] at i2
                obtain ⟨t1, t2, t3⟩ := tix_inj ⟨hx.1, by have := hx.2; omega⟩ ⟨hq.1, by have := hq.2; omega⟩ ⟨hx0, by omega⟩ ⟨hq0, by omega⟩ i2
                refine Or.inr (fun r y a b r0 r1 ex hs => ?_)
                rw [← t2] at ex
                rw [← t1, ← t3] at hs
                exact s2 r y a b r0 r1 ex hs
              · exact Or.inl ⟨i, i0, by omega, by rw [a4 i i0 (by omega)]; exact i2⟩
            · exact Or.inr (fun r y a b r0 r1 ex hs => a5 _ (hh2 r y a b r0 r1 ex hs))
          · exact Or.inl ⟨i, by omega, i1, i2⟩
      · rw [if_neg hl, ← hQQ]
        have el : l = 0 := by omega
        refine ⟨z2, zs, knw z, by omega, fun t ht => ?_⟩
        have ft := zf t (by omega) (by omega)
        constructor
        · intro hk
          refine zsnd t (by omega) (by omega) ?_
          unfold knw at hk
          rcases ft with e | e
          · rw [e] at hk
            exact absurd hk (by decide)
          · exact e
        · rintro ⟨x, o, q, hx, ho, hq, ht', hz⟩
          have := hz (fun x o q => iR nv x → iR n o → iR n q → z.1 340 (tix o x q) = 1) ⟨fun q hq hf _ _ _ => zr q hq hq.2 hf, fun r p q y a b r0 r1 hp hq hS hs _ _ _ => by
            have hh := (g4 r r0 r1).1
            rcases zcl _ p q hh hp hq (hS hh hp hq) with ⟨i, i0, i1, -⟩ | hh2
            · omega
            · exact hh2 r y a b r0 r1 rfl hs⟩ hx ho hq
          unfold knw
          rw [ht', this]
          decide
  -- the roots
  have roots : ∀ (k : Nat) (l q : Int) (z0 z : uS), 0 ≤ l → 0 ≤ q → q + k = n → z0.2 = w.2 → sb1 w z0 fS → (∀ j : Int, 0 ≤ j → j < 16000 → z0.1 340 j = 0) → GS z0 z 0 l → Snd z → Roo z q → (∀ j : Int, 0 ≤ j → j < 16000 → z.1 340 j = 1 → ∃ q' : Int, q' < q ∧ iR n q' ∧ j = tix 0 0 q') → K_287 (d + 7) 26 [.ref 271, iV m, iV l, iV q, .retAddr 0] [] z Q := by
    intro k
    induction k with
    | zero =>
      intro l q z0 z l0 q0 hk h2 hs0 h00 gs zsnd zr zo
      obtain ⟨a1, a2, a3, a4, a5, a6, a7, a8, a9⟩ := id gs
      have zs : sb1 w z fS := fun b hb => (a2 b hb).trans (hs0 b hb)
      obtain ⟨f1, f2, f3, f4, f5, f6, f7, f8⟩ := fS1 z zs
      refine k_287_26 (d := d + 6) ⟨by omega, by omega, ⟨by omega, by omega⟩, ?_⟩
      rw [f5, g7]
      refine ⟨⟨by omega, by omega⟩, ?_⟩
      rw [if_neg (by omega)]
      have c0 : ct (knw z0) 16000 = 0 := ct_zero 16000 (fun i hi => by
        unfold knw
        rw [h00 i (by omega) (by omega)]
        decide)
      refine main 16000 l 0 z l0 (Int.le_refl 0) (by omega) (a1.trans h2) zs a6 (by omega) zsnd a9 (fun q' hq' hlt => zr q' hq' (by omega)) (fun x' p' q' hx' hp' hq' hi => ?_)
      have hx0 := hx'.1
      have hx1 := hx'.2
      have hp0 := hp'.1
      have hp1 := hp'.2
      have hq0 := hq'.1
      have hq1 := hq'.2
      have htR := tix_R (o := p') (x := x') (q := q') ⟨hp0, by omega⟩ ⟨hx0, by omega⟩ ⟨hq0, by omega⟩
      rcases a8 _ htR.1 htR.2 hi with h | ⟨i, i0, i1, i2⟩
      · rw [h00 _ htR.1 htR.2] at h
        exact absurd h (by decide)
      · exact Or.inl ⟨i, i0, i1, i2⟩
    | succ k ih =>
      intro l q z0 z l0 q0 hk h2 hs0 h00 gs zsnd zr zo
      obtain ⟨a1, a2, a3, a4, a5, a6, a7, a8, a9⟩ := id gs
      have zs : sb1 w z fS := fun b hb => (a2 b hb).trans (hs0 b hb)
      obtain ⟨f1, f2, f3, f4, f5, f6, f7, f8⟩ := fS1 z zs
      refine k_287_26 (d := d + 6) ⟨by omega, by omega, ⟨by omega, by omega⟩, ?_⟩
      rw [f5, g7]
      refine ⟨⟨by omega, by omega⟩, ?_⟩
      rw [if_pos (by omega), f7, show (10 * 0 + 0) * 40 + q = tix 0 0 q from rfl]
      have htR := tix_R (o := 0) (x := 0) (q := q) ⟨by omega, by omega⟩ ⟨by omega, by omega⟩ ⟨q0, by omega⟩
      refine ⟨htR.1, htR.2, lR_L (hL _ htR.1 htR.2).1, ?_⟩
      have hqR : iR n q := ⟨q0, by omega⟩
      by_cases hf : w.1 324 (tix 0 0 q) = 6000000000000000000
      · rw [if_pos hf]
        refine ih l (q + 1) z0 z l0 (by omega) (by omega) h2 hs0 h00 gs zsnd (fun q' hq' hlt hf' => ?_) (fun j j0 j1 hj => ?_)
        · by_cases e : q' = q
          · rw [e] at hf'
            exact absurd hf hf'
          · exact zr q' hq' (by omega) hf'
        · obtain ⟨q', z1, z2, z3⟩ := zo j j0 j1 hj
          exact ⟨q', by omega, z2, z3⟩
      · rw [if_neg hf]
        intro z1 e1
        have c0 : ct (knw z0) 16000 = 0 := ct_zero 16000 (fun i hi => by
          unfold knw
          rw [h00 i (by omega) (by omega)]
          decide)
        have hle := ct_le (knw z) 16000
        refine ⟨l0, by omega, fun z2 e2 => ?_⟩
        have hnf : z.1 340 (tix 0 0 q) = 0 := by
          rcases a6 _ htR.1 htR.2 with h | h
          · exact h
          · obtain ⟨q', k1, k2, k3⟩ := zo _ htR.1 htR.2 h
            unfold tix at k3
            omega
        have hpu := GS_push gs (Int.le_refl 0) htR.1 htR.2 hnf e1 e2
        have e0' : z2.1 340 = uf (z.1 340) (tix 0 0 q) 1 := by rw [e2, wr_ne (by omega), e1, wr_uf]
        refine ih (l + 1) (q + 1) z0 z2 (by omega) (by omega) (by omega) h2 hs0 h00 hpu (fun j j0 j1 hj => ?_) (fun q' hq' hlt hf' => ?_) (fun j j0 j1 hj => ?_)
        · by_cases e : j = tix 0 0 q
          · exact ⟨0, 0, q, hz0, hzn, hqR, e, Zr_cl.1 q hqR hf⟩
          · rw [e0', uf_ne e] at hj
            exact zsnd j j0 j1 hj
        · rw [e0']
          by_cases e : tix 0 0 q' = tix 0 0 q
          · rw [e, uf_eq]
          · rw [uf_ne e]
            refine zr q' hq' ?_ hf'
            have : q' ≠ q := fun h => e (by rw [h])
            omega
        · by_cases e : j = tix 0 0 q
          · exact ⟨q, by omega, hqR, e⟩
          · rw [e0', uf_ne e] at hj
            obtain ⟨q', k1, k2, k3⟩ := zo j j0 j1 hj
            exact ⟨q', by omega, k2, k3⟩
  -- nothing is known
  have clear : ∀ (k : Nat) (t : Int) (z : uS), 0 ≤ t → t + k = 16000 → z.2 = w.2 → sb1 w z fS → (∀ j : Int, 0 ≤ j → j < t → z.1 340 j = 0) → K_287 (d + 7) 2 [.ref 271, iV m, iV t, .retAddr 0, .retAddr 0] [] z Q := by
    intro k
    induction k with
    | zero =>
      intro t z t0 hk h2 hs h0
      refine k_287_2 (d := d + 6) ⟨⟨by omega, by omega⟩, ?_⟩
      rw [if_neg (by omega)]
      have h00 : ∀ j : Int, 0 ≤ j → j < 16000 → z.1 340 j = 0 := fun j j0 j1 => h0 j j0 (by omega)
      refine roots n 0 0 z z (Int.le_refl 0) (Int.le_refl 0) (by omega) h2 hs h00 (GS_refl (fun j j0 j1 => Or.inl (h00 j j0 j1))) (fun j j0 j1 hj => ?_) (fun q' hq' hlt => ?_) (fun j j0 j1 hj => ?_)
      · rw [h00 j j0 j1] at hj
        exact absurd hj (by decide)
      · have := hq'.1
        omega
      · rw [h00 j j0 j1] at hj
        exact absurd hj (by decide)
    | succ k ih =>
      intro t z t0 hk h2 hs h0
      refine k_287_2 (d := d + 6) ⟨⟨by omega, by omega⟩, ?_⟩
      rw [if_pos (by omega)]
      refine ⟨t0, fun z1 e1 => ih (t + 1) z1 (by omega) (by omega) (by rw [e1, wr_2]; exact h2) (by rw [e1]; exact sb1_wr hs (by decide)) (fun j j0 j1 => ?_)⟩
      rw [e1, wr_uf]
      by_cases e : j = t
      · rw [e, uf_eq]
      · rw [uf_ne e]
        exact h0 j j0 (by omega)
  exact e_287 (d := d + 6) (clear 16000 0 w (Int.le_refl 0) (by omega) rfl (sb1_refl _ _) (fun j j0 j1 => by omega))
