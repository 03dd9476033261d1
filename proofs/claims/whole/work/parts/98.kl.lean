/-! The other side: chooseTree -/
def fC : List Nat := [331, 332, 333, 334, 335, 339, 340, 341, 342, 343, 344]
def RFr (u w v : uS) : Prop := v.1 271 6 = u.1 271 6 ∧ v.1 275 = u.1 275 ∧ v.1 276 = u.1 276 ∧ v.1 277 = u.1 277 ∧ v.1 301 = u.1 301 ∧ v.1 302 = u.1 302 ∧ v.1 324 = w.1 324 ∧ v.1 325 = w.1 325 ∧ v.1 326 = w.1 326 ∧ v.1 327 = w.1 327
theorem RFr_tr {u w v z : uS} (h : RFr u w v) (hs : sb1 v z fC) : RFr u w z := by
  unfold RFr at h ⊢
  rw [hs 271 (by decide), hs 275 (by decide), hs 276 (by decide), hs 277 (by decide), hs 301 (by decide), hs 302 (by decide), hs 324 (by decide), hs 325 (by decide), hs 326 (by decide), hs 327 (by decide)]
  exact h
theorem RGc_fr {u w v : uS} {nv nr n : Nat} {m : Int} (h : RFr u w v) (hR : RGc u nv nr n m) : RGc v nv nr n m := by
  obtain ⟨h1, h2, h3, h4, h5, h6, -⟩ := h
  unfold RGc at hR ⊢
  rw [h1, h2, h3, h4, h5, h6]
  exact hR
def CHr (M : Mg) (L H : T3) (z : uS) (x p q r : Int) (S : Nat → Int) : Prop := z.1 331 (tix p x q) = r ∧ CH M L H x p q r S ∧ (∀ k : Nat, k ≤ (xl M r).toNat → z.1 332 (7 * tix p x q + k) = S k) ∧ z.1 334 (tix p x q) = L x p q ∧ z.1 335 (tix p x q) = H x p q
theorem q_277 {e nv nr n mk : Nat} {u w v : uS} {m x p q : Int} (hG : GMc u nv nr n mk) (hRG : RGc u nv nr n m) (hE : sideE u nr n mk m) (hF : FT u w nv nr n m) (hS : LHs (mOf u mk nv nr n) (L3 w) (H3 w)) (hv : RFr u w v) (hx : Fe (mOf u mk nv nr n) (L3 w) x p q) : cV (e + 5) 277 [.ref 271, iV m, iV (tix p x q)] v (fun z => z.2 = v.2 ∧ sb1 v z [331, 332, 334, 335, 342, 343, 344] ∧ (∀ t, t ≠ tix p x q → z.1 331 t = v.1 331 t ∧ z.1 334 t = v.1 334 t ∧ z.1 335 t = v.1 335 t) ∧ (∀ j, j < 7 * tix p x q ∨ 7 * tix p x q + 7 ≤ j → z.1 332 j = v.1 332 j) ∧ ∃ r S, CHr (mOf u mk nv nr n) (L3 w) (H3 w) z x p q r S) := by
  obtain ⟨g1, g2, g3, g4, g5, g6, g7, g8, g9⟩ := id hG
  have hMk := Mok_of hG
  have hpR : iR n p := hx.2.1
  have hqR : iR n q := hx.2.2.1
  have hxR : iR nv x := hx.1
  obtain ⟨fb, fh1, fh2⟩ := Fe_b hS hx
  have p0 := hpR.1
  have p1 := hpR.2
  have q0 := hqR.1
  have q1 := hqR.2
  have x0 := hxR.1
  have x1 := hxR.2
  have ht : 0 ≤ tix p x q ∧ tix p x q < 16000 := tix_R ⟨p0, by omega⟩ ⟨x0, by omega⟩ ⟨q0, by omega⟩
  have t1 : (tix p x q).tmod 40 = q := by
    rw [Int.tmod_eq_emod_of_nonneg ht.1]
    unfold tix
    omega
  have t2 : (tix p x q).tdiv 40 = 10 * p + x := by
    rw [Int.tdiv_eq_ediv_of_nonneg ht.1]
    unfold tix
    omega
  have t3 : (10 * p + x).tmod 10 = x := by
    rw [Int.tmod_eq_emod_of_nonneg (by omega)]
    omega
  have t4 : (10 * p + x).tdiv 10 = p := by
    rw [Int.tdiv_eq_ediv_of_nonneg (by omega)]
    omega
  obtain ⟨v271, v275, v276, v277, v301, v302, v324, v325, v326, v327⟩ := id hv
  have eL : v.1 324 (tix p x q) = L3 w x p q := by rw [v324]; rfl
  have eH : v.1 325 (tix p x q) = H3 w x p q := by rw [v325]; rfl
  generalize hQQ : (fun (z : uS) => z.2 = v.2 ∧ sb1 v z [331, 332, 334, 335, 342, 343, 344] ∧ (∀ t, t ≠ tix p x q → z.1 331 t = v.1 331 t ∧ z.1 334 t = v.1 334 t ∧ z.1 335 t = v.1 335 t) ∧ (∀ j, j < 7 * tix p x q ∨ 7 * tix p x q + 7 ≤ j → z.1 332 j = v.1 332 j) ∧ ∃ r S, CHr (mOf u mk nv nr n) (L3 w) (H3 w) z x p q r S) = Q
  obtain ⟨rs, rs0, rs1, rsx, rsf⟩ := fit_ex hMk hS hx
  have loop : ∀ (m' : Nat) (r : Int), 0 ≤ r → r + m' = nr → (∀ r', 0 ≤ r' → r' < r → u.1 8 r' = x → ¬ fit (mOf u mk nv nr n) (L3 w) (H3 w) x p q r') → K_277 (e + 4) 26 [.ref 271, iV m, iV (tix p x q), iV q, iV x, iV p, iV r, .retAddr 0, .retAddr 0, .retAddr 0, .retAddr 0, .retAddr 0, .retAddr 0] [] v Q := by
    intro m'
    induction m' with
    | zero =>
      intro r r0 re hno
      have hrs1 : rs < nr := rs1
      exact absurd rsf (hno rs rs0 (by omega) rsx)
    | succ m' ih =>
      intro r r0 re hno
      have r1 : r < nr := by omega
      obtain ⟨l1, l2, l3, l4⟩ := g5 r r0 r1
      have l10 := l1.1
      have l11 := l1.2
      have e8 : v.1 275 r = u.1 8 r := by rw [v275]; exact (hE.1 r r0 r1).1
      have e9 : v.1 276 r = u.1 9 r := by rw [v276]; exact (hE.1 r r0 r1).2.1
      have next : ¬ (u.1 8 r = x ∧ fit (mOf u mk nv nr n) (L3 w) (H3 w) x p q r) → K_277 (e + 4) 26 [.ref 271, iV m, iV (tix p x q), iV q, iV x, iV p, iV (r + 1), .retAddr 0, .retAddr 0, .retAddr 0, .retAddr 0, .retAddr 0, .retAddr 0] [] v Q := fun hn => ih (r + 1) (by omega) (by omega) (fun r' q1 q2 q3 hf => by
        by_cases er : r' = r
        · rw [er] at q3 hf
          exact hn ⟨q3, hf⟩
        · exact hno r' q1 (by omega) q3 hf)
      refine k_277_26 ⟨r0, by omega, ?_⟩
      rw [e8]
      refine ⟨⟨by omega, by omega⟩, ⟨by omega, by omega⟩, ?_⟩
      by_cases cx : u.1 8 r = x
      · rw [if_pos cx]
        have hfr := fit_ref hG hE hF hS r0 r1 hpR hqR (by rw [cx]; exact hx)
        rw [cx] at hfr
        obtain ⟨hB1, hB2, hBst, h327⟩ := hF.2.2.2.2.2 r p q r0 r1 hpR hqR
        have bl := hBst.2.1
        have bh := hBst.2.2.1
        have blo := hBst.2.2.2.1
        unfold hR at bh blo
        have r327 : rI (w.1 327 (rix r p q)) := by
          rw [h327]
          split
          · exact ⟨by omega, by omega⟩
          · exact ⟨by omega, by omega⟩
        clear hBst
        unfold cB at fb
        rw [show ((40 * r + p) * 40 + q) = rix r p q from rfl, eL, eH, v326, v327]
        have eL' : w.1 324 (tix p x q) = L3 w x p q := rfl
        have eH' : w.1 325 (tix p x q) = H3 w x p q := rfl
        rw [eL', eH'] at hfr
        refine ⟨by unfold rix; omega, by unfold rix; omega, ht.1, ht.2, lR_L bl, ⟨by omega, by omega⟩, ?_⟩
        by_cases c1 : w.1 326 (rix r p q) = L3 w x p q
        · rw [if_pos c1]
          refine ⟨r327, ⟨by omega, by omega⟩, ?_⟩
          by_cases c2 : w.1 327 (rix r p q) = H3 w x p q
          · rw [if_pos c2]
            have hfit := hfr.mp ⟨c1, c2⟩
            intro z1 ez1 z2 ez2 z3 ez3
            have z12 : z1.1 324 = v.1 324 := by rw [ez1, wr_ne (by omega)]
            have z25 : z2.1 325 = v.1 325 := by rw [ez2, wr_ne (by omega), ez1, wr_ne (by omega)]
            rw [z12, eL] at ez2
            rw [z25, eH] at ez3
            have z3s : sb1 v z3 [331, 332, 334, 335, 342, 343, 344] := by
              rw [ez3, ez2, ez1]
              exact sb1_wr (sb1_wr (sb1_wr (sb1_refl _ _) (by decide)) (by decide)) (by decide)
            have z3F : RFr u w z3 := RFr_tr hv (sb1_sub z3s (by decide))
            have z32 : z3.2 = v.2 := by rw [ez3, wr_2, ez2, wr_2, ez1, wr_2]
            have z31 : z3.1 331 = uf (v.1 331) (tix p x q) r := by rw [ez3, wr_ne (by omega), ez2, wr_ne (by omega), ez1, wr_uf]
            have z34 : z3.1 334 = uf (v.1 334) (tix p x q) (L3 w x p q) := by rw [ez3, wr_ne (by omega), ez2, wr_uf, ez1, wr_ne (by omega)]
            have z35 : z3.1 335 = uf (v.1 335) (tix p x q) (H3 w x p q) := by rw [ez3, wr_uf, ez2, wr_ne (by omega), ez1, wr_ne (by omega)]
            have z3332 : z3.1 332 = v.1 332 := by rw [ez3, wr_ne (by omega), ez2, wr_ne (by omega), ez1, wr_ne (by omega)]
            refine cV.mono (q_278 (d := e) (RGc_fr z3F hRG) r0 r1 hqR (by rw [z3F.2.2.2.2.2.2.1, z3F.2.2.2.2.2.2.2.1]; exact hF.1)) (Nat.le_refl _) (fun z4 ⟨z42, z4s, z4B⟩ => ?_)
            refine ⟨by omega, by omega, fun y ey => ?_⟩
            have y2 : y.2 = v.2 := by rw [ey, wr_2]; exact z42.trans z32
            have ys : sb1 v y [331, 332, 334, 335, 342, 343, 344] := by
              rw [ey]
              exact sb1_wr (sb1_trans z3s (sb1_sub z4s (by decide))) (by decide)
            have yF : RFr u w y := RFr_tr hv (sb1_sub ys (by decide))
            have y31 : y.1 331 = uf (v.1 331) (tix p x q) r := by rw [ey, wr_ne (by omega), z4s 331 (by decide)]; exact z31
            have y34 : y.1 334 = uf (v.1 334) (tix p x q) (L3 w x p q) := by rw [ey, wr_ne (by omega), z4s 334 (by decide)]; exact z34
            have y35 : y.1 335 = uf (v.1 335) (tix p x q) (H3 w x p q) := by rw [ey, wr_ne (by omega), z4s 335 (by decide)]; exact z35
            have y32 : y.1 332 = uf (v.1 332) (7 * tix p x q) p := by rw [ey, wr_uf, z4s 332 (by decide), z3332]
            have f276 : z3.1 276 r = u.1 9 r := by rw [z3F.2.2.1]; exact (hE.1 r r0 r1).2.1
            have edl : dlR z3 m = dlR u m := by
              show (fun o c => z3.1 302 (400 * m + 10 * o + c)) = _
              rw [z3F.2.2.2.2.2.1]
            have erw : rwR z3 r = rwR u r := by
              show (fun k => z3.1 277 (6 * r + k)) = _
              rw [z3F.2.2.2.1]
            -- the rests, plainly
            have hBk : ∀ (k : Nat) (b : Int), (k : Int) < u.1 9 r → iR n b → ∀ z : uS, sb1 y z [332] → cgB z ((k : Int) + 1) b (fun c g => ∃ c', lw (mOf u mk nv nr n) (Fe (mOf u mk nv nr n) (L3 w)) (L3 w) (H3 w) r q ((u.1 9 r).toNat - k - 1) b c' g ∧ c = min 4000000000000000000 c') := fun k b hk hb z zs => by
              have h1 := z4B ((u.1 9 r).toNat - k - 1) (by rw [f276]; omega) b hb
              rw [f276, edl, erw, z3F.2.2.2.2.2.2.1, z3F.2.2.2.2.2.2.2.1, show u.1 9 r - (((u.1 9 r).toNat - k - 1 : Nat) : Int) = (k : Int) + 1 by omega] at h1
              refine cgB_of h1 ?_ ?_ ?_ (fun c g => wb_lw hG hE hS r0 r1 _ (by omega) b c g hb)
              · rw [zs 342 (by decide), ey, wr_ne (by omega)]
              · rw [zs 343 (by decide), ey, wr_ne (by omega)]
              · rw [zs 344 (by decide), ey, wr_ne (by omega)]
            have rows : ∀ (k' k : Nat) (S C : Nat → Int) (z : uS), k + k' = (u.1 9 r).toNat → sts (mOf u mk nv nr n) (L3 w) (H3 w) x p q r S C k → z.2 = y.2 → sb1 y z [332] → (∀ j, j < 7 * tix p x q ∨ 7 * tix p x q + 7 ≤ j → z.1 332 j = v.1 332 j) → (∀ i : Nat, i ≤ k → z.1 332 (7 * tix p x q + i) = S i) → K_277 (e + 4) 160 [.ref 271, iV m, iV (tix p x q), .retAddr 0, .retAddr 0, .retAddr 0, iV r, lV (min 4000000000000000000 (C k)), .retAddr 0, iV (S k), iV (k : Int), .retAddr 0, .retAddr 0] [] z Q := by
              intro k'
              induction k' with
              | zero =>
                intro k S C z hk hs zz2 zzs zo zS
                have e9z : z.1 276 r = u.1 9 r := by rw [zzs 276 (by decide), yF.2.2.1]; exact (hE.1 r r0 r1).2.1
                refine k_277_160 ⟨r0, by omega, ⟨by omega, by omega⟩, ?_⟩
                rw [e9z]
                refine ⟨⟨by omega, by omega⟩, ?_⟩
                rw [if_neg (by omega), ← hQQ]
                rw [show k = (u.1 9 r).toNat by omega] at hs zS
                refine ⟨zz2.trans y2, sb1_trans ys (sb1_sub zzs (by decide)), fun t hne => ?_, zo, r, S, ?_, ⟨r0, r1, cx, hfit, hno, C, hs⟩, zS, ?_, ?_⟩
                · rw [zzs 331 (by decide), zzs 334 (by decide), zzs 335 (by decide), y31, y34, y35, uf_ne hne, uf_ne hne, uf_ne hne]
                  exact ⟨rfl, rfl, rfl⟩
                · rw [zzs 331 (by decide), y31, uf_eq]
                · rw [zzs 334 (by decide), y34, uf_eq]
                · rw [zzs 335 (by decide), y35, uf_eq]
              | succ k' ihk =>
                intro k S C z hk hs zz2 zzs zo zS
                have hki : (k : Int) < u.1 9 r := by omega
                have zF : RFr u w z := RFr_tr yF (sb1_sub zzs (by decide))
                have e9z : z.1 276 r = u.1 9 r := by rw [zF.2.2.1]; exact (hE.1 r r0 r1).2.1
                have esy : z.1 277 (6 * r + k) = lrw u r k := by rw [zF.2.2.2.1]; exact (hE.1 r r0 r1).2.2 k (by omega) hki
                have hC := sts_C hS hx.2.1 hs
                have hSk : iR n (S k) := (sts_wk hS hx.2.1 k hs).1
                have s0 := hSk.1
                have s1 := hSk.2
                have hsy : symR nv (lrw u r k) := l4 k (by omega) hki
                refine k_277_160 ⟨r0, by omega, ⟨by omega, by omega⟩, ?_⟩
                rw [e9z, esy]
                refine ⟨⟨by omega, by omega⟩, ?_⟩
                rw [if_pos hki]
                refine ⟨by omega, by omega, ?_⟩
                obtain ⟨bs, hbs⟩ := sts_next hfit (m := k) (by show k < (u.1 9 r).toNat; omega) hs
                have hbsR : iR n bs := by
                  obtain ⟨_, _, _, _, hb, _⟩ := hbs
                  exact hb
                have cand : ∀ (b' : Nat) (b : Int), 0 ≤ b → b + b' = n → (∀ b2, 0 ≤ b2 → b2 < b → ¬ nx (mOf u mk nv nr n) (L3 w) (H3 w) x p q r k (S k) (C k) b2) → K_277 (e + 4) 190 [.ref 271, iV m, iV (tix p x q), .retAddr 0, .retAddr 0, .retAddr 0, iV r, lV (min 4000000000000000000 (C k)), .retAddr 0, iV (S k), iV (k : Int), iV (lrw u r k), iV b] [] z Q := by
                  intro b'
                  induction b' with
                  | zero =>
                    intro b b0 be hnb
                    have hb1 := hbsR.2
                    exact absurd hbs (hnb bs hbsR.1 (by omega))
                  | succ b' ihb =>
                    intro b b0 be hnb
                    have hbR : iR n b := ⟨b0, by omega⟩
                    refine k_277_190 ⟨⟨by omega, by omega⟩, ?_⟩
                    refine cI.mono (q_280 (d := e + 2) hG hRG hE hF hS zF.2.2.2.2.2.2.1 zF.2.2.2.2.2.2.2.1 zF.2.2.2.2.2.1 r0 r1 cx hx hki hs hbR (hBk k b hki hbR z zzs)) (Nat.le_refl _) (fun c z' ⟨ez', hc⟩ => ?_)
                    rw [ez']
                    rcases hc with ⟨c1', hn⟩ | ⟨c0', hn⟩
                    · rw [c1']
                      refine ⟨⟨by omega, by omega⟩, ?_⟩
                      rw [if_neg (by omega)]
                      obtain ⟨cc, gg, cr, gr, n1, n2, n3, n4, n5, n6⟩ := id hn
                      have n2' : stk (mOf u mk nv nr n) (Fe (mOf u mk nv nr n) (L3 w)) (L3 w) (H3 w) (lrw u r k) (S k) b cc gg := n2
                      have hcc := (stk_b hS (fun _ _ _ h => h) n2).1
                      obtain ⟨S', C', k1, k2, k3, k4⟩ := sts_ext hs hn hnb n2
                      have go : ∀ o : uS, o = wr z 332 (7 * tix p x q + k + 1) b → K_277 (e + 4) 160 [.ref 271, iV m, iV (tix p x q), .retAddr 0, .retAddr 0, .retAddr 0, iV r, lV (pl 5000000000000000000 (min 4000000000000000000 (C k)) cc), .retAddr 0, iV b, iV ((k : Int) + 1), .retAddr 0, .retAddr 0] [] o Q := fun o eo => by
                        have o32 : o.1 332 = uf (z.1 332) (7 * tix p x q + k + 1) b := by rw [eo, wr_uf]
                        have := ihk (k + 1) S' C' o (by omega) k1 (by rw [eo, wr_2]; exact zz2) (by rw [eo]; exact sb1_wr zzs (by decide)) (fun j hj => by rw [o32, uf_ne (by omega)]; exact zo j hj) (fun i hi => by
                          rw [o32]
                          by_cases ei : i = k + 1
                          · rw [ei, show 7 * tix p x q + ((k + 1 : Nat) : Int) = 7 * tix p x q + k + 1 by omega, uf_eq, k2]
                          · rw [uf_ne (by omega), ← k4 i (by omega)]
                            exact zS i (by omega))
                        rw [k2, k3, show ((k + 1 : Nat) : Int) = (k : Int) + 1 by omega] at this
                        have epl : pl 5000000000000000000 (min 4000000000000000000 (C k)) cc = min 4000000000000000000 (C k + cc) := by
                          unfold cB at hcc
                          unfold pl
                          rw [if_neg (by omega)]
                          omega
                        rw [epl]
                        exact this
                      refine ⟨?_, ?_⟩
                      · rcases hsy with zz | zz <;> exact ⟨by omega, by omega⟩
                      unfold stk at n2'
                      by_cases cs : lrw u r k < 100
                      · rw [if_pos cs] at n2' ⊢
                        rw [n2'.2.1] at go
                        exact ⟨cB_cn ⟨by omega, by omega⟩, cB_cn ⟨by omega, by omega⟩, by omega, by omega, go⟩
                      · rw [if_neg cs] at n2' ⊢
                        have hyR : iR nv (lrw u r k - 100) := n2'.1.1
                        have hy0 := hyR.1
                        have hy1 := hyR.2
                        have ht2 := tix_R (o := S k) (x := lrw u r k - 100) (q := b) ⟨s0, by omega⟩ ⟨hy0, by omega⟩ ⟨b0, by omega⟩
                        have ecc : z.1 324 (tix (S k) (lrw u r k - 100) b) = cc := by rw [zF.2.2.2.2.2.2.1]; exact n2'.2.1.symm
                        rw [show ((10 * S k + (lrw u r k - 100)) * 40 + b) = tix (S k) (lrw u r k - 100) b from rfl, ecc]
                        exact ⟨ht2.1, ht2.2, cB_cn ⟨by omega, by omega⟩, cB_cn hcc, by omega, by omega, go⟩
                    · rw [c0']
                      refine ⟨⟨by omega, by omega⟩, ?_⟩
                      rw [if_pos rfl]
                      refine ihb (b + 1) (by omega) (by omega) (fun b2 h0 h1 => ?_)
                      by_cases eb : b2 = b
                      · rw [eb]; exact hn
                      · exact hnb b2 h0 (by omega)
                exact cand n 0 (Int.le_refl 0) (by omega) (fun b2 h0 h1 => by omega)
            exact rows (u.1 9 r).toNat 0 (fun _ => p) (fun _ => 0) y (by omega) ⟨rfl, rfl, fun i hi => by omega⟩ rfl (sb1_refl _ _) (fun j hj => by rw [y32, uf_ne (by omega)]) (fun i hi => by rw [show 7 * tix p x q + (i : Int) = 7 * tix p x q by omega, y32, uf_eq])
          · rw [if_neg c2]
            exact next (fun hh => c2 (hfr.mpr hh.2).2)
        · rw [if_neg c1]
          exact next (fun hh => c1 (hfr.mpr hh.2).1)
      · rw [if_neg cx]
        exact next (fun hh => cx hh.1)
  refine e_277 ?_
  rw [t1, t2, t3, t4]
  exact ⟨⟨by omega, by omega⟩, ⟨by omega, by omega⟩, loop nr 0 (Int.le_refl 0) (by omega) (fun r' q1 q2 => by omega)⟩
