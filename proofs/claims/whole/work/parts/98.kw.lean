/-! node: both sides alike -/
theorem q_185l {e s : Nat} {M : Mg} {L H : T3} {T : P3} {u : uS} {Q : Int → uS → Prop} (hM : Mok M) (hS : LHs M L H) (hW : WT M L H s T u) : ∀ (m : Nat) (x p q k c idx lv : Int) (w : uS), T x p q → 0 ≤ idx → idx < m → u.1 246 idx = tcx (xn M) x p q → 0 ≤ lv → lv + idx < s → F231 u w P9 → w.1 231 9 = k → w.1 231 10 = c → 0 ≤ k → k < u.1 268 (tcx (xn M) x p q) → cB c → (∀ (h : Nat) (x' p' q' c' : Int) (z : uS), NA M L H (u.1 268) h x p q k c x' p' q' c' → T x' p' q' → F231 u z P9 → z.1 231 10 = c' → Q (tcx (xn M) x' p' q') z) → K_185 (e + 5) 21 [.ref 231, .retAddr 0, .retAddr 0, iV (tcx (xn M) x p q), iV lv] [] w Q := by
  obtain ⟨hV, hO, hrow, hT⟩ := hW
  obtain ⟨m1, m2, m3, m4, m5, m6⟩ := id hM
  have hs16 : s ≤ 16000 := by
    rw [hO.2.1]
    exact ct_le _ _
  intro m
  induction m with
  | zero => intro x p q k c idx lv w _ i0 i1; omega
  | succ m ih =>
    intro x p q k c idx lv w hTx i0 i1 hidx lv0 lv1 wF w9 w10 k0 k1 hcb hQ
    obtain ⟨hk, r, S, c1, c2, c3, c4, c5, c6, c7⟩ := hT x p q hTx
    have hfe := (hV.2.2.2.2 x p q hk).1
    have hch := c1.2.1
    have hVw := sV_tr wF.2.1 hV
    have hOw := OD_tr wF.2.1 hO
    refine k_185_21 ⟨⟨by omega, by omega⟩, ?_⟩
    rw [hOw.1, w9]
    refine ⟨⟨by omega, by omega⟩, ?_⟩
    rw [if_pos (by omega)]
    refine ⟨⟨by omega, by omega⟩, ?_⟩
    by_cases kp : 0 < k
    · rw [if_pos kp]
      intro y ey
      have yF : F231 u y P9 := by rw [ey]; exact F231_wr wF (Or.inl rfl)
      have y9 : y.1 231 9 = k - 1 := by rw [ey, wr_self]
      have y10 : y.1 231 10 = c := by rw [ey, wr_1, if_neg (by decide)]; exact w10
      have hcc : ∀ i : Nat, i < (xl M r).toNat → ¬ xy M r i < 100 → Kv M u (xy M r i - 100) (S i) (S (i + 1)) ∧ cB (u.1 268 (sbx M r S i)) := fun i h1 h2 => by
        obtain ⟨q1, -, -, -, -, -, -, -, q6, q7⟩ := hT _ _ _ (c3 i h1 h2)
        exact ⟨q1, by show 0 ≤ u.1 268 (sbx M r S i); have : 1 ≤ u.1 268 (sbx M r S i) := q6; omega, q7⟩
      obtain ⟨n1, n2⟩ := nps_b (N := u.1 268) (M := M) (r := r) (S := S) (xl M r).toNat (fun i h1 h2 => (hcc i h1 h2).2)
      obtain ⟨j, j1, j2, j3, j4⟩ := nps_ex (M := M) (N := u.1 268) (r := r) (i := k - 1) (S := S) (by omega) (xl M r).toNat (by omega)
      have y68 : y.1 268 = u.1 268 := yF.2.1 268 (by decide)
      refine cI.mono (q_186 (e := e) (j := j) (i := k - 1) (c := c) hM hS (sV_tr yF.2.1 hV) hfe (CHc_tr yF.2.1 c1) (fun i h1 h2 => by rw [Kv_eq (yF.2.1 247 (by decide)), y68]; exact hcc i h1 h2) j1 j2 (by rw [y68]; exact j3) (by rw [y68]; exact j4) ⟨by omega, by omega⟩ hcb y9 y10) (Nat.le_refl _) (fun a z ⟨ea, zF, z9, z10⟩ => ?_)
      rw [y68] at z9
      have zu : F231 u z P9 := ⟨zF.1.trans yF.1, fun c hc => (zF.2.1 c hc).trans (yF.2.1 c hc), fun j hj => (zF.2.2 j hj).trans (yF.2.2 j hj)⟩
      obtain ⟨f1, f2, f3⟩ := CH_sub hS hfe hch j1 j2
      have hTp := c3 j j1 j2
      have fk := (hT _ _ _ hTp).1
      obtain ⟨jj, jj0, jj1, jj2⟩ := hO.2.2.2.2 idx x p q _ _ _ i0 (by omega) hk hidx fk f2 f3
      have hjl : nps M (u.1 268) r S (j + 1) = nps M (u.1 268) r S j + nlk M (u.1 268) r S j := rfl
      have hln : nlk M (u.1 268) r S j = u.1 268 (sbx M r S j) := by unfold nlk; rw [if_neg j2]
      have hlo : nps M (u.1 268) r S j ≤ k - 1 := by
        by_cases e0 : j = 0
        · rw [e0]; show (0 : Int) ≤ k - 1; omega
        · have := j3 (j - 1) (by omega)
          rw [show j - 1 + 1 = j by omega] at this
          exact this
      have hps := psm_mono hS hfe hch 0 j (by omega) (by omega)
      have hps0 : psm M L r S 0 = 0 := rfl
      unfold cB at hcb
      rw [ea]
      exact ih _ _ _ (k - 1 - nps M (u.1 268) r S j) _ jj (lv + 1) z hTp jj0 (by omega) jj2 (by omega) (by omega) zu z9 z10 (by omega) (by show k - 1 - nps M (u.1 268) r S j < u.1 268 (sbx M r S j); omega) ⟨by omega, by omega⟩ (fun h x' p' q' c' z' hna hT' hz' hz10 => hQ (h + 1) x' p' q' c' z' (Or.inr ⟨kp, r, S, j, hch, j1, j2, j3, j4, hna⟩) hT' hz' hz10)
    · rw [if_neg kp]
      exact hQ 1 x p q c w (Or.inl ⟨by omega, rfl, rfl, rfl, rfl⟩) hTx wF w10
theorem q_284l {e s : Nat} {M : Mg} {L H : T3} {T : P3} {u : uS} {Q : Int → uS → Prop} {wh : Int} (hM : Mok M) (hS : LHs M L H) (hW : WT M L H s T u) : ∀ (h : Nat) (x p q k c : Int), T x p q → H x p q ≤ h → 0 ≤ k → k < u.1 268 (tcx (xn M) x p q) → cB c → (∀ (h : Nat) (x' p' q' c' : Int), NA M L H (u.1 268) h x p q k c x' p' q' c' → T x' p' q' → K_284 (e + 2) 59 [.ref 271, .retAddr 0, .retAddr 0, iV wh, lV 0, .retAddr 0, lV c', .retAddr 0, iV (tix p' x' q'), .retAddr 0, .retAddr 0, .retAddr 0] [] u Q) → K_284 (e + 2) 59 [.ref 271, .retAddr 0, .retAddr 0, iV wh, lV k, .retAddr 0, lV c, .retAddr 0, iV (tix p x q), .retAddr 0, .retAddr 0, .retAddr 0] [] u Q := by
  obtain ⟨hV, hO, hrow, hT⟩ := hW
  obtain ⟨m1, m2, m3, m4, m5, m6⟩ := id hM
  intro h
  induction h with
  | zero =>
    intro x p q k c hTx hh
    obtain ⟨hk, -⟩ := hT x p q hTx
    have := (Fe_b hS (hV.2.2.2.2 x p q hk).1).2.1
    omega
  | succ h ih =>
    intro x p q k c hTx hh k0 k1 hcb hQ
    by_cases kp : ¬ 0 < k
    · have ek : k = 0 := by omega
      rw [ek]
      exact hQ 1 x p q c (Or.inl ⟨ek, rfl, rfl, rfl, rfl⟩) hTx
    have kp : 0 < k := by omega
    obtain ⟨hk, r, S, c1, c2, c3, c4, c5, c6, c7⟩ := hT x p q hTx
    have hfe := (hV.2.2.2.2 x p q hk).1
    have hch := c1.2.1
    obtain ⟨r0, r1, rx, -⟩ := id hch
    obtain ⟨l1, l2, l3, l4⟩ := m5 r r0 r1
    have ht := Fe_t hM hfe
    have e31 : u.1 331 (tix p x q) = r := c2.1
    have e37 := (hrow r r0 r1).1
    have hcc : ∀ i : Nat, i < (xl M r).toNat → ¬ xy M r i < 100 → cB (u.1 268 (sbx M r S i)) ∧ u.1 333 (tpx M r S i) = u.1 268 (sbx M r S i) ∧ u.1 334 (tpx M r S i) = L (xy M r i - 100) (S i) (S (i + 1)) := fun i h1 h2 => by
      obtain ⟨-, r', S', -, ⟨-, -, -, e34, -⟩, -, q4, -, q6, q7⟩ := hT _ _ _ (c3 i h1 h2)
      exact ⟨⟨by show 0 ≤ u.1 268 (sbx M r S i); have : 1 ≤ u.1 268 (sbx M r S i) := q6; omega, q7⟩, q4.symm, e34⟩
    obtain ⟨n1, n2⟩ := nps_b (N := u.1 268) (M := M) (r := r) (S := S) (xl M r).toNat (fun i h1 h2 => (hcc i h1 h2).1)
    obtain ⟨j, j1, j2, j3, j4⟩ := nps_ex (M := M) (N := u.1 268) (r := r) (i := k - 1) (S := S) (by omega) (xl M r).toNat (by omega)
    unfold cB at hcb
    have loop : ∀ (k' l : Nat), l + k' = j → K_284 (e + 2) 79 [.ref 271, .retAddr 0, .retAddr 0, iV wh, lV (k - 1 - nps M (u.1 268) r S l), .retAddr 0, lV (min 4000000000000000000 (c + psm M L r S l)), .retAddr 0, iV (tix p x q), iV (-2), iV (l : Int), .retAddr 0] [] u Q := by
      intro k'
      induction k' with
      | zero =>
        intro l hlj
        have el : l = j := by omega
        rw [el]
        obtain ⟨tb0, tb1⟩ := tpx_b hM hS hfe hch j1 j2
        obtain ⟨f1, f2, f3⟩ := CH_sub hS hfe hch j1 j2
        obtain ⟨hc1, hc2, hc3⟩ := hcc j j1 j2
        have hTp := c3 j j1 j2
        unfold cB at hc1
        have hnb := (nps_b (N := u.1 268) (M := M) (r := r) (S := S) j (fun i h1 h2 => (hcc i (by omega) h2).1)).1
        have hjl : nps M (u.1 268) r S (j + 1) = nps M (u.1 268) r S j + nlk M (u.1 268) r S j := rfl
        have hln : nlk M (u.1 268) r S j = u.1 268 (sbx M r S j) := by unfold nlk; rw [if_neg j2]
        have hlo : nps M (u.1 268) r S j ≤ k - 1 := by
          by_cases e0 : j = 0
          · rw [e0]; show (0 : Int) ≤ k - 1; omega
          · have := j3 (j - 1) (by omega)
            rw [show j - 1 + 1 = j by omega] at this
            exact this
        have hps := psm_mono hS hfe hch 0 j (by omega) (by omega)
        have hps0 : psm M L r S 0 = 0 := rfl
        have hdown := ih _ _ _ (k - 1 - nps M (u.1 268) r S j) (min 4000000000000000000 (c + psm M L r S j)) hTp (by omega) (by omega) (by show k - 1 - nps M (u.1 268) r S j < u.1 268 (sbx M r S j); omega) ⟨by omega, by omega⟩ (fun h x' p' q' c' hna hT' => hQ (h + 1) x' p' q' c' (Or.inr ⟨kp, r, S, j, hch, j1, j2, j3, j4, hna⟩) hT')
        refine k_284_79 ?_
        rw [e31, e37]
        refine ⟨ht.1, ht.2, r0, by omega, ⟨by omega, by omega⟩, ⟨by omega, by omega⟩, ?_⟩
        rw [if_pos (by omega)]
        refine ⟨⟨by omega, by omega⟩, ?_⟩
        rw [if_pos rfl]
        refine cI.mono (q_283 (e := e) (k := j) hM hS hfe c2 hrow ht j1) (Nat.le_refl _) (fun a z ⟨ez, ea⟩ => ?_)
        rw [ez, ea, if_neg j2, hc2]
        refine ⟨⟨by omega, by omega⟩, ?_⟩
        rw [if_neg (by omega)]
        refine ⟨tb0, tb1, ⟨by omega, by omega⟩, ⟨by omega, by omega⟩, ?_⟩
        rw [if_pos (by omega)]
        refine k_284_79 ?_
        rw [e31, e37]
        refine ⟨ht.1, ht.2, r0, by omega, ⟨by omega, by omega⟩, ⟨by omega, by omega⟩, ?_⟩
        by_cases cl : (j : Int) + 1 < xl M r
        · rw [if_pos cl]
          refine ⟨⟨by omega, by omega⟩, ?_⟩
          rw [if_neg (by omega)]
          exact hdown
        · rw [if_neg cl]
          refine ⟨⟨by omega, by omega⟩, ?_⟩
          rw [if_neg (by omega)]
          exact hdown
      | succ k' ihk =>
        intro l hlj
        have hll : l < (xl M r).toNat := by omega
        have hup := j3 l (by omega)
        have hnb := (nps_b (N := u.1 268) (M := M) (r := r) (S := S) l (fun i h1 h2 => (hcc i (by omega) h2).1)).1
        have hjl : nps M (u.1 268) r S (l + 1) = nps M (u.1 268) r S l + nlk M (u.1 268) r S l := rfl
        have hpl : psm M L r S (l + 1) = psm M L r S l + lnk M L r S l := rfl
        have hps := psm_mono hS hfe hch 0 l (by omega) (by omega)
        have hps0 : psm M L r S 0 = 0 := rfl
        have hn := ihk (l + 1) (by omega)
        rw [show ((l + 1 : Nat) : Int) = (l : Int) + 1 by omega] at hn
        refine k_284_79 ?_
        rw [e31, e37]
        refine ⟨ht.1, ht.2, r0, by omega, ⟨by omega, by omega⟩, ⟨by omega, by omega⟩, ?_⟩
        rw [if_pos (by omega)]
        refine ⟨⟨by omega, by omega⟩, ?_⟩
        rw [if_pos rfl]
        refine cI.mono (q_283 (e := e) (k := l) hM hS hfe c2 hrow ht hll) (Nat.le_refl _) (fun a z ⟨ez, ea⟩ => ?_)
        rw [ez, ea]
        by_cases cx : xy M r l < 100
        · have hl : lnk M L r S l = 1 := by unfold lnk; rw [if_pos cx]
          have hnl : nlk M (u.1 268) r S l = 0 := by unfold nlk; rw [if_pos cx]
          have epl : pl 5000000000000000000 (min 4000000000000000000 (c + psm M L r S l)) 1 = min 4000000000000000000 (c + psm M L r S (l + 1)) := by
            unfold pl
            rw [if_neg (by omega), hpl, hl]
            omega
          rw [if_pos cx, epl]
          refine ⟨⟨by omega, by omega⟩, ?_⟩
          rw [if_pos rfl]
          rw [show nps M (u.1 268) r S (l + 1) = nps M (u.1 268) r S l by omega] at hn
          exact ⟨Or.inr ⟨by omega, by omega⟩, Or.inr (by omega), hn⟩
        · obtain ⟨tb0, tb1⟩ := tpx_b hM hS hfe hch hll cx
          obtain ⟨f1, f2, f3⟩ := CH_sub hS hfe hch hll cx
          obtain ⟨hc1, hc2, hc3⟩ := hcc l hll cx
          have fb := (Fe_b hS f1).1
          unfold cB at hc1 fb
          have hl : lnk M L r S l = L (xy M r l - 100) (S l) (S (l + 1)) := by unfold lnk; rw [if_neg cx]
          have hnl : nlk M (u.1 268) r S l = u.1 268 (sbx M r S l) := by unfold nlk; rw [if_neg cx]
          have epl : pl 5000000000000000000 (min 4000000000000000000 (c + psm M L r S l)) (L (xy M r l - 100) (S l) (S (l + 1))) = min 4000000000000000000 (c + psm M L r S (l + 1)) := by
            unfold pl
            rw [if_neg (by omega), hpl, hl]
            omega
          rw [if_neg cx, hc2, hc3, epl]
          refine ⟨⟨by omega, by omega⟩, ?_⟩
          rw [if_neg (by omega)]
          refine ⟨tb0, tb1, ⟨by omega, by omega⟩, ⟨by omega, by omega⟩, ?_⟩
          rw [if_neg (by omega)]
          rw [hjl, hnl, ← Int.sub_sub] at hn
          exact ⟨Or.inr ⟨by omega, by omega⟩, Or.inr fb, hn⟩
    have start := loop j 0 (by omega)
    rw [show k - 1 - nps M (u.1 268) r S 0 = k - 1 by show k - 1 - 0 = k - 1; omega, show min 4000000000000000000 (c + psm M L r S 0) = c by show min 4000000000000000000 (c + 0) = c; omega] at start
    refine k_284_59 ⟨⟨by omega, by omega⟩, ?_⟩
    rw [if_pos kp]
    exact start
