/-! The other side's product -/
def fR : List Nat := [324, 325, 326, 327, 328, 329, 330, 339, 340, 342, 343, 344, 345]
theorem sb1_sub {u w : uS} {ps qs : List Nat} (h : sb1 u w ps) (hs : ∀ b, b ∈ ps → b ∈ qs) : sb1 u w qs := fun b hb => h b (fun hh => hb (hs b hh))
theorem sb1_trans {u v w : uS} {ps : List Nat} (h : sb1 u v ps) (h' : sb1 v w ps) : sb1 u w ps := fun b hb => (h' b hb).trans (h b hb)
theorem ct_s (p : Nat → Bool) (n : Nat) : ct p (n + 1) = ct p n + (if p n = true then 1 else 0) := rfl
theorem fT_R : ∀ b, b ∈ fT → b ∈ fR := by decide
theorem fS_R : ∀ b, b ∈ fS → b ∈ fR := by decide
theorem FT_RG {v w : uS} {nv nr n : Nat} {m : Int} (hG : RGc v nv nr n m) (hs : sb1 v w fT) : RGc w nv nr n m := RGc_of hG (by rw [hs 271 (by decide)]) (hs _ (by decide)) (hs _ (by decide)) (hs _ (by decide)) (hs _ (by decide)) (hs _ (by decide))
theorem r286_0 {d nv nr n : Nat} {v : uS} {m : Int} (hG : RGc v nv nr n m) (hg : v.1 271 11 = 1) : cL (d + 10) 286 [.ref 271, iV m, iV 0] v (fun c z => z.2 = v.2 ∧ sb1 v z fR ∧ ∃ w, FT v w nv nr n m ∧ c = (ct (fun t => decide (w.1 324 (t : Int) ≠ 6000000000000000000)) 16000 : Int)) := by
  obtain ⟨g1, g2, g3, g4, g5, g6, g7, g8, g9⟩ := id hG
  refine e_286 (d := d + 8) ?_
  rw [hg]
  refine ⟨by decide, ?_⟩
  rw [if_neg (by decide)]
  refine ⟨⟨by omega, by omega⟩, ?_⟩
  rw [if_neg (by omega), if_neg (by omega)]
  refine ⟨by decide, ?_⟩
  rw [if_neg (by decide), if_neg (by decide)]
  refine cV.mono (q_269 (d := d + 3) hG) (Nat.le_refl _) (fun w ⟨w2, ws, wF⟩ => ?_)
  rw [if_neg (by decide)]
  have loop : ∀ (k : Nat) (t : Nat), t + k = 16000 → K_286 (d + 9) 54 [.ref 271, iV m, iV 0, lV ((ct (fun t => decide (w.1 324 (t : Int) ≠ 6000000000000000000)) t : Nat) : Int), .retAddr 0, iV (t : Int), .retAddr 0] [] w (fun c z => z.2 = v.2 ∧ sb1 v z fR ∧ ∃ w, FT v w nv nr n m ∧ c = (ct (fun t => decide (w.1 324 (t : Int) ≠ 6000000000000000000)) 16000 : Int)) := by
    intro k
    induction k with
    | zero =>
      intro t ht
      refine k_286_54 (d := d + 8) ⟨⟨by omega, by omega⟩, ?_⟩
      rw [if_neg (by omega)]
      refine k_286_97 (d := d + 8) ⟨by decide, ?_⟩
      have e6 : w.1 271 6 = nr := by rw [ws 271 (by decide)]; exact g3
      rw [e6]
      refine ⟨⟨by omega, by omega⟩, ?_⟩
      have et : t = 16000 := by omega
      have fin : w.2 = v.2 ∧ sb1 v w fR ∧ ∃ w', FT v w' nv nr n m ∧ ((ct (fun t => decide (w.1 324 (t : Int) ≠ 6000000000000000000)) t : Nat) : Int) = (ct (fun t => decide (w'.1 324 (t : Int) ≠ 6000000000000000000)) 16000 : Int) := ⟨w2, sb1_sub ws fT_R, w, wF, by rw [et]⟩
      split
      · refine ⟨by decide, ?_⟩
        rw [if_neg (by decide)]
        exact fin
      · exact fin
    | succ k ih =>
      intro t ht
      refine k_286_54 (d := d + 8) ⟨⟨by omega, by omega⟩, ?_⟩
      rw [if_pos (by omega)]
      refine ⟨by decide, ?_⟩
      rw [if_pos rfl]
      refine ⟨by omega, lR_L (wF.1 t (by omega) (by omega)).1, ?_⟩
      have := ih (t + 1) (by omega)
      rw [ct_s, Int.natCast_succ] at this
      by_cases h : w.1 324 (t : Int) = 6000000000000000000
      · rw [if_pos h]
        rw [if_neg (fun hh => (of_decide_eq_true hh) h)] at this
        exact this
      · rw [if_neg h]
        rw [if_pos (decide_eq_true h), Int.natCast_succ] at this
        exact this
  exact loop 16000 0 (by omega)
theorem r286_1 {d nv nr n : Nat} {v : uS} {m : Int} (hG : RGc v nv nr n m) (hv1 : 1 ≤ nv) (hg : v.1 271 11 = 1) : cL (d + 10) 286 [.ref 271, iV m, iV 1] v (fun c z => z.2 = v.2 ∧ sb1 v z fR ∧ ∃ w, FT v w nv nr n m ∧ sb1 v w fT ∧ ∃ p : Nat → Bool, c = (ct p 16000 : Int) ∧ ∀ t : Nat, t < 16000 → (p t = true ↔ ∃ x o q : Int, iR nv x ∧ iR n o ∧ iR n q ∧ (t : Int) = tix o x q ∧ Zr w nr n m x o q)) := by
  obtain ⟨g1, g2, g3, g4, g5, g6, g7, g8, g9⟩ := id hG
  refine e_286 (d := d + 8) ?_
  rw [hg]
  refine ⟨by decide, ?_⟩
  rw [if_neg (by decide)]
  refine ⟨⟨by omega, by omega⟩, ?_⟩
  rw [if_neg (by omega), if_neg (by omega)]
  refine ⟨by decide, ?_⟩
  rw [if_neg (by decide), if_neg (by decide)]
  refine cV.mono (q_269 (d := d + 3) hG) (Nat.le_refl _) (fun w ⟨w2, ws, wF⟩ => ?_)
  rw [if_pos rfl]
  refine cL.mono (q_287 (d := d + 1) (FT_RG hG ws) hv1 wF.1) (Nat.le_refl _) (fun c z ⟨z2, zs, p, zc, zp⟩ => ?_)
  exact ⟨z2.trans w2, sb1_trans (sb1_sub ws fT_R) (sb1_sub zs fS_R), w, wF, ws, p, zc, zp⟩
theorem r286_2 {d nv nr n : Nat} {v : uS} {m : Int} (hG : RGc v nv nr n m) (hg : v.1 271 11 = 1) : cL (d + 10) 286 [.ref 271, iV m, iV 2] v (fun c z => z.2 = v.2 ∧ sb1 v z fR ∧ ∃ w, FT v w nv nr n m ∧ c = foR (fun r p => foP (nWy (stRf (w.1 324) (dlR v m)) (rwR v r) n p (v.1 276 r).toNat) 0 n) n nr) := by
  obtain ⟨g1, g2, g3, g4, g5, g6, g7, g8, g9⟩ := id hG
  refine e_286 (d := d + 8) ?_
  rw [hg]
  refine ⟨by decide, ?_⟩
  rw [if_neg (by decide)]
  refine ⟨⟨by omega, by omega⟩, ?_⟩
  rw [if_neg (by omega), if_neg (by omega)]
  refine ⟨by decide, ?_⟩
  rw [if_neg (by decide), if_neg (by decide)]
  refine cV.mono (q_269 (d := d + 3) hG) (Nat.le_refl _) (fun w ⟨w2, ws, wF⟩ => ?_)
  rw [if_neg (by decide)]
  generalize hf : (fun r p : Int => foP (nWy (stRf (w.1 324) (dlR v m)) (rwR v r) n p (v.1 276 r).toNat) 0 n) = f
  have hfR : ∀ r p : Int, cB (f r p) := fun r p => by
    rw [← hf]
    exact foP_R cB0 n (fun o _ => nWy_R _ _)
  have hRR : ∀ k : Nat, cB (foR f n k) := by
    intro k
    induction k with
    | zero => exact cB0
    | succ k ih => exact foP_R ih n (fun o _ => hfR _ _)
  have loop : ∀ (k : Nat) (r : Nat) (z : uS), r + k = nr → z.2 = v.2 → sb1 w z [345] → K_286 (d + 9) 97 [.ref 271, iV m, iV 2, lV (foR f n r), .retAddr 0, iV (r : Int), .retAddr 0] [] z (fun c z => z.2 = v.2 ∧ sb1 v z fR ∧ ∃ w, FT v w nv nr n m ∧ c = foR (fun r p => foP (nWy (stRf (w.1 324) (dlR v m)) (rwR v r) n p (v.1 276 r).toNat) 0 n) n nr) := by
    intro k
    induction k with
    | zero =>
      intro r z hr z2 zs
      have e6 : z.1 271 6 = nr := by rw [zs 271 (by decide), ws 271 (by decide)]; exact g3
      refine k_286_97 (d := d + 8) ⟨⟨by omega, by omega⟩, ?_⟩
      rw [e6]
      refine ⟨⟨by omega, by omega⟩, ?_⟩
      rw [if_neg (by omega)]
      refine ⟨z2, sb1_trans (sb1_sub ws fT_R) (sb1_sub zs (by decide)), w, wF, ?_⟩
      rw [hf, show r = nr by omega]
    | succ k ih =>
      intro r z hr z2 zs
      have e6 : z.1 271 6 = nr := by rw [zs 271 (by decide), ws 271 (by decide)]; exact g3
      refine k_286_97 (d := d + 8) ⟨⟨by omega, by omega⟩, ?_⟩
      rw [e6]
      refine ⟨⟨by omega, by omega⟩, ?_⟩
      rw [if_pos (by omega)]
      refine ⟨by decide, ?_⟩
      rw [if_pos rfl]
      have inner : ∀ (k' : Nat) (p : Nat) (z : uS), p + k' = n → z.2 = v.2 → sb1 w z [345] → K_286 (d + 9) 114 [.ref 271, iV m, iV 2, lV (foP (f r) (foR f n r) p), .retAddr 0, iV (r : Int), iV (p : Int)] [] z (fun c z => z.2 = v.2 ∧ sb1 v z fR ∧ ∃ w, FT v w nv nr n m ∧ c = foR (fun r p => foP (nWy (stRf (w.1 324) (dlR v m)) (rwR v r) n p (v.1 276 r).toNat) 0 n) n nr) := by
        intro k'
        induction k' with
        | zero =>
          intro p z hp z2 zs
          have e01 : z.1 301 m = n := by rw [zs 301 (by decide), ws 301 (by decide)]; exact g7
          refine k_286_114 (d := d + 8) ⟨by omega, by omega, ⟨by omega, by omega⟩, ?_⟩
          rw [e01]
          refine ⟨⟨by omega, by omega⟩, ?_⟩
          rw [if_neg (by omega)]
          have := ih (r + 1) z (by omega) z2 zs
          rw [Int.natCast_succ] at this
          have e : foR f n (r + 1) = foP (f r) (foR f n r) p := by
            rw [show p = n by omega]
            rfl
          rw [e] at this
          exact this
        | succ k' ih' =>
          intro p z hp z2 zs
          have e01 : z.1 301 m = n := by rw [zs 301 (by decide), ws 301 (by decide)]; exact g7
          refine k_286_114 (d := d + 8) ⟨by omega, by omega, ⟨by omega, by omega⟩, ?_⟩
          rw [e01]
          refine ⟨⟨by omega, by omega⟩, ?_⟩
          rw [if_pos (by omega)]
          have hGz : RGc z nv nr n m := RGc_of (FT_RG hG ws) (by rw [zs 271 (by decide)]) (zs _ (by decide)) (zs _ (by decide)) (zs _ (by decide)) (zs _ (by decide)) (zs _ (by decide))
          have e24 : z.1 324 = w.1 324 := zs _ (by decide)
          have e25 : z.1 325 = w.1 325 := zs _ (by decide)
          have e76 : z.1 276 = v.1 276 := (zs _ (by decide)).trans (ws _ (by decide))
          have eD : dlR z m = dlR v m := by unfold dlR; rw [zs 302 (by decide), ws 302 (by decide)]
          have eR : rwR z r = rwR v r := by unfold rwR; rw [zs 277 (by decide), ws 277 (by decide)]
          refine cL.mono (q_289 (d := d + 7) hGz (r := (r : Int)) (p := (p : Int)) (by omega) (by omega) ⟨by omega, by omega⟩ (by rw [e24, e25]; exact wF.1)) (Nat.le_refl _) (fun c z' ⟨y1, y2, y3⟩ => ?_)
          rw [e24, eD, eR, e76] at y3
          have y3' : c = f r p := by rw [← hf]; exact y3
          have hacc : cB (foP (f r) (foR f n r) p) := foP_R (hRR r) p (fun o _ => hfR _ _)
          refine ⟨cB_cn hacc, by rw [y3']; exact cB_cn (hfR _ _), ?_⟩
          rw [y3', pl_sq hacc (hfR _ _)]
          have := ih' (p + 1) z' (by omega) (y1.trans z2) (fun b hb => (y2 b hb).trans (zs b hb))
          rw [Int.natCast_succ] at this
          exact this
      exact inner n 0 z (by omega) z2 zs
  refine k_286_54 (d := d + 8) ⟨by decide, ?_⟩
  rw [if_pos (by decide)]
  refine ⟨by decide, ?_⟩
  rw [if_neg (by decide)]
  exact loop nr 0 w (by omega) w2 (sb1_refl _ _)
