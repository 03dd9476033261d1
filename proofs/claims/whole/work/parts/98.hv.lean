/-! product alike -/
theorem suf_wb {u w : uS} {nv nr n mk : Nat} {m r q : Int} {S : Int → Int → Int → Prop} (hE : sideE u nr n mk m) (hr0 : 0 ≤ r) (hr1 : r < nr) (hsy : ∀ k, 0 ≤ k → k < u.1 9 r → symR nv (u.1 10 (r * 6 + k))) (hS : ∀ x o q, S x o q → w.1 324 (tix o x q) ≠ 6000000000000000000) : ∀ (j : Nat), (j : Int) ≤ u.1 9 r → ∀ o, iR n o → suf S (dlt u mk) (lrw u r) n q (u.1 9 r) j o → ∃ c g, wb (w.1 324) (w.1 325) (dlR u m) (rwR u r) n q (u.1 9 r) j o c g
  | 0, _, o, _, h => ⟨0, 0, h, rfl, rfl⟩
  | j + 1, hj, o, ho, ⟨o', ho', h1, h2⟩ => by
    obtain ⟨c, g, w1⟩ := suf_wb hE hr0 hr1 hsy hS j (by omega) o' ho' h1
    have er : rwR u r (u.1 9 r - ((j : Int) + 1)) = lrw u r (u.1 9 r - ((j : Int) + 1)) := ((hE.1 r hr0 hr1).2.2 _ (by omega) (by omega))
    have hs : symR nv (lrw u r (u.1 9 r - ((j : Int) + 1))) := hsy _ (by omega) (by omega)
    generalize lrw u r (u.1 9 r - ((j : Int) + 1)) = s at h2 hs er
    by_cases z : s < 100
    · rw [if_pos z] at h2
      have z' : s < 10 ∧ 0 ≤ s := by rcases hs with y | y <;> omega
      refine ⟨_, _, o', ho'.1, ho'.2, c, g, 1, 0, w1, ?_, rfl, rfl⟩
      show stT _ _ _ (rwR u r (u.1 9 r - ((j : Int) + 1))) o o' 1 0
      unfold stT
      rw [er, if_pos z]
      refine ⟨?_, rfl, rfl⟩
      rw [← h2]
      exact (hE.2 o _ ho z'.2 z'.1).symm
    · rw [if_neg z] at h2
      refine ⟨sq c (w.1 324 (tix o (s - 100) o')), max g (w.1 325 (tix o (s - 100) o')), o', ho'.1, ho'.2, c, g, w.1 324 (tix o (s - 100) o'), w.1 325 (tix o (s - 100) o'), w1, ?_, rfl, rfl⟩
      show stT _ _ _ (rwR u r (u.1 9 r - ((j : Int) + 1))) o o' _ _
      unfold stT
      rw [er, if_neg z]
      exact ⟨hS _ _ _ h2, rfl, rfl⟩
theorem wb_suf {u w : uS} {nv nr n mk : Nat} {m r q : Int} {S : Int → Int → Int → Prop} (hE : sideE u nr n mk m) (hr0 : 0 ≤ r) (hr1 : r < nr) (hsy : ∀ k, 0 ≤ k → k < u.1 9 r → symR nv (u.1 10 (r * 6 + k))) (hS : ∀ x o q, iR nv x → iR n o → iR n q → w.1 324 (tix o x q) ≠ 6000000000000000000 → S x o q) : ∀ (j : Nat), (j : Int) ≤ u.1 9 r → ∀ o c g, iR n o → wb (w.1 324) (w.1 325) (dlR u m) (rwR u r) n q (u.1 9 r) j o c g → suf S (dlt u mk) (lrw u r) n q (u.1 9 r) j o
  | 0, _, o, c, g, _, h => h.1
  | j + 1, hj, o, c, g, ho, ⟨o', o0, o1, c', g', c1, g1, h1, h2, h3, h4⟩ => by
    refine ⟨o', ⟨o0, o1⟩, wb_suf hE hr0 hr1 hsy hS j (by omega) o' c' g' ⟨o0, o1⟩ h1, ?_⟩
    have er : rwR u r (u.1 9 r - ((j : Int) + 1)) = lrw u r (u.1 9 r - ((j : Int) + 1)) := ((hE.1 r hr0 hr1).2.2 _ (by omega) (by omega))
    have hs : symR nv (lrw u r (u.1 9 r - ((j : Int) + 1))) := hsy _ (by omega) (by omega)
    have h2' : stT (w.1 324) (w.1 325) (dlR u m) (rwR u r (u.1 9 r - ((j : Int) + 1))) o o' c1 g1 := h2
    rw [er] at h2'
    generalize lrw u r (u.1 9 r - ((j : Int) + 1)) = s at h2' hs ⊢
    unfold stT at h2'
    by_cases z : s < 100
    · rw [if_pos z] at h2' ⊢
      have z' : s < 10 ∧ 0 ≤ s := by rcases hs with y | y <;> omega
      rw [h2'.1]
      exact (hE.2 o _ ho z'.2 z'.1).symm
    · rw [if_neg z] at h2' ⊢
      have z' : iR nv (s - 100) := by
        rcases hs with y | y
        · omega
        · exact ⟨by omega, by omega⟩
      exact hS _ _ _ z' ho ⟨o0, o1⟩ h2'.1
theorem sb_iff {u w : uS} {a nv nr n mk : Nat} {m r p q y o b : Int} (hG : GMc u nv nr n mk) (hE : sideE u nr n mk m) (hP : ferP u a mk nv nr n) (hF : FT u w nv nr n m) (hs : sb1 u w fT) (r0 : 0 ≤ r) (r1 : r < nr) : sbr u mk n (Fg nv n (u.1 (a + 1))) r p q y o b ↔ sbR w n m r p q y o b := by
  obtain ⟨g1, g2, g3, g4, g5, g6, g7, g8, g9⟩ := id hG
  obtain ⟨x1, x2, x3, x4⟩ := g5 r r0 r1
  obtain ⟨e1, e2, e3⟩ := hE.1 r r0 r1
  have fi := fer_iff hG hE hP hF
  have d1 : w.1 276 r = u.1 9 r := by rw [hs 276 (by decide)]; exact e2
  have d2 : rwR w r = rwR u r := by unfold rwR; rw [hs 277 (by decide)]
  have d3 : dlR w m = dlR u m := by unfold dlR; rw [hs 302 (by decide)]
  unfold sbR
  rw [d1, d2, d3]
  constructor
  · rintro ⟨k, k1, k2, k3, k4, k5, k6, k7⟩
    refine ⟨k, k1, ?_, k6.1.1, k3, k4, ?_, (fi y o b k6.1 k3 k4).mp k6, ?_⟩
    · rw [← k2]
      exact e3 k (by omega) k1
    · exact fol_wy (w := w) hE r0 r1 x4 (fun x o q h => (fi x o q h.1 h.2.1 h.2.2.1).mp h) k (by omega) o k5
    · exact suf_wb (w := w) hE r0 r1 x4 (fun x o q h => (fi x o q h.1 h.2.1 h.2.2.1).mp h) _ (by omega) b k4 k7
  · rintro ⟨k, k1, k2, ky, k3, k4, ⟨c, g, k5⟩, k6, ⟨c', g', k7⟩⟩
    have er : rwR u r k = lrw u r k := e3 k (by omega) k1
    have hsy : symR nv (lrw u r k) := x4 k (by omega) k1
    rw [er] at k2
    have hy : iR nv y := by
      rcases hsy with z | z
      · omega
      · exact ⟨ky, by omega⟩
    refine ⟨k, k1, k2, k3, k4, ?_, (fi y o b hy k3 k4).mpr k6, ?_⟩
    · refine wyS_fol (S := Fg nv n (u.1 (a + 1))) (c := c) hE r0 r1 x4 k (by omega) o (wy_wyS (S := fun o x q _ => Fg nv n (u.1 (a + 1)) x o q) (nv := nv) (fun o x q ho hx hq h => (fi x o q hx ho hq).mpr h) k (fun i hi => ?_) o c g k3 k5)
      have e := e3 i (by omega) (by omega)
      show symR nv (u.1 277 (6 * r + i))
      rw [e]
      exact x4 i (by omega) (by omega)
    · exact wb_suf (w := w) hE r0 r1 x4 (fun x o q hx ho hq h => (fi x o q hx ho hq).mpr h) _ (by omega) b c' g' k4 k7
theorem Zs_Zr {u w : uS} {a nv nr n mk : Nat} {m x o q : Int} (hG : GMc u nv nr n mk) (hE : sideE u nr n mk m) (hP : ferP u a mk nv nr n) (hF : FT u w nv nr n m) (hs : sb1 u w fT) (hv1 : 1 ≤ nv) : Zs u mk nv nr n (Fg nv n (u.1 (a + 1))) x o q ↔ Zr w nr n m x o q := by
  have h75 : w.1 275 = u.1 275 := hs _ (by decide)
  have hz : iR nv 0 := ⟨by omega, by omega⟩
  have hzn : iR n 0 := ⟨by omega, by have := hG.2.2.2.2.2.1; omega⟩
  have fi := fer_iff hG hE hP hF
  constructor
  · intro h S hS
    refine h S ⟨fun q hq hf => hS.1 q hq ((fi 0 0 q hz hzn hq).mp hf), fun r p q y o b r0 r1 hp hq h1 h2 => ?_⟩
    refine hS.2 r p q y o b r0 r1 hp hq ?_ ((sb_iff hG hE hP hF hs r0 r1).mp h2)
    rw [h75, (hE.1 r r0 r1).1]
    exact h1
  · intro h S hS
    refine h S ⟨fun q hq hf => hS.1 q hq ((fi 0 0 q hz hzn hq).mpr hf), fun r p q y o b r0 r1 hp hq h1 h2 => ?_⟩
    refine hS.2 r p q y o b r0 r1 hp hq ?_ ((sb_iff hG hE hP hF hs r0 r1).mpr h2)
    rw [h75, (hE.1 r r0 r1).1] at h1
    exact h1
def invQ (u : uS) : Prop := ∀ j : Int, 0 ≤ j → j < 400 → u.1 209 j = 0 ∧ u.1 228 j = 0
def pdL : List Nat := [206, 207, 208, 209, 210, 211, 225, 226, 227, 228, 229, 230]
def pdQ : Nat → Int → Prop := fun b j => pdP b j ∨ ((b = 193 ∨ b = 212) ∧ (j = 8 ∨ j = 9)) ∨ b ∈ pdL ∨ b ∈ fR
theorem st_product {d : Nat} {u : uS} {x y : Int} (hx : rI x) (hy : rI y) (hG : invG u) (hM : invM u) (hP : invP u) (hQ : invQ u) : cL (d + 12) 188 [.ref 0, iV x, iV y] u (fun r u1 => cL (d + 12) 286 [.ref 271, iV x, iV y] u1 (fun r' u2 => r' = r ∧ invP u2 ∧ invQ u2 ∧ fr1 pdQ u u2 ∧ (∀ b, b ≠ 193 → b ≠ 212 → u2.2 b = u.2 b))) := by
  obtain ⟨nv, nr, b1, b2', b3, b4, b5, b6, b7, b8, b9⟩ := id hG
  have bad : (nr = 0 ∨ x < 0 ∨ 1 < x ∨ y < 0 ∨ 2 < y) → ∀ v : uS, v.1 271 11 = u.1 271 11 → invP v → invQ v → fr1 pdQ u v → (∀ b, b ≠ 193 → b ≠ 212 → v.2 b = u.2 b) → cL (d + 12) 286 [.ref 271, iV x, iV y] v (fun r' u2 => r' = -1 ∧ invP u2 ∧ invQ u2 ∧ fr1 pdQ u u2 ∧ (∀ b, b ≠ 193 → b ≠ 212 → u2.2 b = u.2 b)) := by
    intro hb v e11 v1 v2 v3 v4
    refine e_286 (d := d + 10) ?_
    rw [e11, b7]
    refine ⟨by split <;> decide, ?_⟩
    by_cases h0 : nr = 0
    · rw [if_pos h0, if_pos rfl]
      exact ⟨rfl, v1, v2, v3, v4⟩
    · rw [if_neg h0, if_neg (by decide)]
      refine ⟨hx, ?_⟩
      split
      · exact ⟨rfl, v1, v2, v3, v4⟩
      · split
        · exact ⟨rfl, v1, v2, v3, v4⟩
        · refine ⟨hy, ?_⟩
          split
          · exact ⟨rfl, v1, v2, v3, v4⟩
          · split
            · exact ⟨rfl, v1, v2, v3, v4⟩
            · omega
  have r0 : fr1 pdQ u u := fun _ _ _ => rfl
  refine e_188 (d := d + 10) ?_
  rw [b5]
  refine ⟨⟨by omega, by omega⟩, ?_⟩
  by_cases h0 : nr = 0
  · rw [if_neg (by omega)]
    exact bad (Or.inl h0) u rfl hP hQ r0 (fun _ _ _ => rfl)
  · rw [if_pos (by omega)]
    refine ⟨hx, ?_⟩
    by_cases hx0 : x < 0
    · rw [if_pos hx0]; exact bad (by omega) u rfl hP hQ r0 (fun _ _ _ => rfl)
    · rw [if_neg hx0]
      by_cases hx2 : x < 2
      · rw [if_pos hx2]
        refine both_fer (d := d + 3) hG hM hP (by omega) hx2 (fun u1 nv' nr' n k1 k2 k3 k4 k5 k6 k7 k8 k9 k10 k11 k12 k13 k14 k15 => ?_)
        obtain ⟨g1, g2, g3, g4, g5, g6, g7, g8, g9⟩ := id k1
        have hnr : nr' = nr := by rw [k6, b5] at g4; omega
        have hv1 : 1 ≤ nv' := by
          obtain ⟨q1, q2⟩ := (g5 0 (Int.le_refl 0) (by omega)).1
          omega
        have hw : x.toNat = 0 ∨ x.toNat = 1 := by omega
        generalize hwn : x.toNat = wn at *
        have ha : 193 + 19 * wn = 193 ∨ 193 + 19 * wn = 212 := by omega
        have hmk : 59 + 2 * wn = 59 ∨ 59 + 2 * wn = 61 := by omega
        have hO : isO (193 + 19 * wn) 9 := by rcases hw with z | z <;> rw [z] <;> first | exact sx_193 | exact sx_212
        have hMO : isO (59 + 2 * wn) 5 := by rcases hw with z | z <;> rw [z] <;> first | exact sx_59 | exact sx_61
        have hg1 : u1.1 271 11 = 1 := by rw [k10, b7, if_neg h0]
        have hz : iR nv' 0 := ⟨by omega, by omega⟩
        have hzn : iR n 0 := ⟨by omega, by omega⟩
        have hQ1 : invQ u1 := fun j j0 j1 => by
          have := hQ j j0 j1
          rw [k14 209 j (by unfold pdP fT; simp), k14 228 j (by unfold pdP fT; simp)]
          exact this
        -- the state behind the first side's count
        have trans : ∀ v : uS, v.2 = u1.2 → sb1 u1 v [193 + 19 * wn, 193 + 19 * wn + 13, 193 + 19 * wn + 14, 193 + 19 * wn + 15, 193 + 19 * wn + 16, 193 + 19 * wn + 17, 193 + 19 * wn + 18] → (∀ i : Int, i ≠ 8 → i ≠ 9 → v.1 (193 + 19 * wn) i = u1.1 (193 + 19 * wn) i) → (∀ j : Int, 0 ≤ j → j < 400 → v.1 (193 + 19 * wn + 16) j = 0) → GMc v nv' nr' n (59 + 2 * wn) ∧ RGc v nv' nr' n x ∧ sideE v nr' n (59 + 2 * wn) x ∧ ferP v (193 + 19 * wn) (59 + 2 * wn) nv' nr' n ∧ v.1 271 11 = 1 ∧ ∀ z : uS, z.2 = v.2 → sb1 v z fR → invP z ∧ invQ z ∧ fr1 pdQ u z ∧ (∀ b, b ≠ 193 → b ≠ 212 → z.2 b = u.2 b) := by
          intro v v2 vs va vf
          have e : ∀ b : Nat, (b < 193 ∨ 230 < b ∨ b = 193 + 19 * wn + 1) → v.1 b = u1.1 b := fun b hb => vs b (by simp only [List.mem_cons, List.not_mem_nil, or_false]; omega)
          refine ⟨GMc_of k1 (by rw [e 6 (by omega)]) (by rw [e 6 (by omega)]) (e 8 (by omega)) (e 9 (by omega)) (e 10 (by omega)) (by rw [e _ (by omega)]) (e _ (by omega)), RGc_of k2 (by rw [e 271 (by omega)]) (e _ (by omega)) (e _ (by omega)) (e _ (by omega)) (e _ (by omega)) (e _ (by omega)), ?_, ferP_of k7 (e _ (by omega)) (e _ (by omega)) (e _ (by omega)) (e _ (by omega)) (e _ (by omega)), by rw [e 271 (by omega)]; exact hg1, fun z z2 zs => ?_⟩
          · unfold sideE at k3 ⊢
            rw [e 275 (by omega), e 276 (by omega), e 277 (by omega), e 8 (by omega), e 9 (by omega), e 10 (by omega), e 302 (by omega), e (59 + 2 * wn + 1) (by omega)]
            exact k3
          · have e' : ∀ b : Nat, (b < 193 ∨ b = 193 + 19 * wn + 1) → z.1 b = u1.1 b := fun b hb => (zs b (by simp only [fR, List.mem_cons, List.not_mem_nil, or_false]; omega)).trans (e b (by omega))
            have ezv : ∀ b : Nat, b < 300 → z.1 b = v.1 b := fun b hb => zs b (by simp only [fR, List.mem_cons, List.not_mem_nil, or_false]; omega)
            have h6 : z.1 6 = u1.1 6 := e' 6 (by omega)
            have hoth : ∀ b : Nat, b < 300 → (b < 193 + 19 * wn ∨ 193 + 19 * wn + 19 ≤ b) → z.1 b = u1.1 b := fun b h3 hb => (ezv b h3).trans (vs b (by simp only [List.mem_cons, List.not_mem_nil, or_false]; omega))
            have pz : ∀ w' : Nat, w' < 2 → prd u1 w' → prd z w' := fun w' hw' hp => by
              by_cases ew : w' = wn
              · rw [ew] at hp ⊢
                refine prd_of hp (by rw [ezv _ (by omega)]; exact va 0 (by decide) (by decide)) (e' _ (by omega)) (by rw [h6]) (by rw [h6]) (e' _ (by omega)) (e' _ (by omega)) (e' _ (by omega)) (by rw [e' _ (by omega)]) (e' _ (by omega)) (by rw [z2, v2])
              · refine prd_of hp (by rw [hoth (193 + 19 * w') (by omega) (by omega)]) (hoth (193 + 19 * w' + 1) (by omega) (by omega)) (by rw [h6]) (by rw [h6]) (e' _ (by omega)) (e' _ (by omega)) (e' _ (by omega)) (by rw [e' _ (by omega)]) (e' _ (by omega)) (by rw [z2, v2])
            refine ⟨⟨pz 0 (by omega) k13.1, pz 1 (by omega) k13.2⟩, fun j j0 j1 => ?_, fun b j hb => ?_, fun b q1 q2 => by rw [z2, v2]; exact k15 b (by omega)⟩
            · have hq := hQ1 j j0 j1
              have hf := vf j j0 j1
              rcases hw with e0 | e0
              · rw [e0] at hf
                refine ⟨by rw [ezv 209 (by omega)]; exact hf, by rw [hoth 228 (by omega) (by omega)]; exact hq.2⟩
              · rw [e0] at hf
                refine ⟨by rw [hoth 209 (by omega) (by omega)]; exact hq.1, by rw [ezv 228 (by omega)]; exact hf⟩
            · simp only [pdQ, not_or] at hb
              obtain ⟨hb1, hb2, hb3, hb4⟩ := hb
              rw [zs b hb4, ← k14 b j hb1]
              by_cases eb : b = 193 + 19 * wn
              · rw [eb]
                refine va j (fun h => hb2 ⟨by omega, Or.inl h⟩) (fun h => hb2 ⟨by omega, Or.inr h⟩)
              · rw [vs b (fun hh => ?_)]
                simp only [pdL, List.mem_cons, List.not_mem_nil, or_false] at hb3 hh
                omega
        refine ⟨hy, ?_⟩
        by_cases y0 : y = 0
        · rw [if_pos y0]
          refine e_189 (d := d + 10) hO ?_
          have hm0 : u1.1 (59 + 2 * wn) 0 = n := g8
          refine cL.mono (q_190 (d := d + 8) hO hMO (sa_9_1 hO) g1 g7 k8 k9 g3 hm0 (fun x o hx ho => stB_small g7 (stB_F k7.1 hx ho))) (Nat.le_refl _) (fun c v ⟨ev, hc⟩ => ?_)
          rw [ev, y0]
          obtain ⟨t1, t2, t3, t4, t5, t6⟩ := trans u1 rfl (sb1_refl _ _) (fun _ _ _ => rfl) (fun j j0 j1 => by
            have := hQ1 j j0 j1
            rcases hw with e0 | e0 <;> rw [e0]
            · exact this.1
            · exact this.2)
          refine cL.mono (r286_0 (d := d + 2) t2 t5) (Nat.le_refl _) (fun c' z ⟨z2, zs, w, wF, zc⟩ => ⟨?_, t6 z z2 zs⟩)
          rw [hc, zc]
          have := cnt_eq (R := u1.1 (193 + 19 * wn + 1)) (Z := Fg nv' n (u1.1 (193 + 19 * wn + 1))) (p := fun t => decide (w.1 324 (t : Int) ≠ 6000000000000000000)) g1 g7 (fun x o hx ho => stB_F k7.1 hx ho) (fun t ht => by
            rw [decide_eq_true_eq]
            constructor
            · intro h
              obtain ⟨p, x', q, hp, hx', hq, et, -⟩ := wF.2.1 t (by omega) (by omega) h
              refine ⟨x', p, q, hx', hp, hq, et, (fer_iff k1 k3 k7 wF x' p q hx' hp hq).mpr ?_⟩
              rw [← et]
              exact h
            · rintro ⟨x', o, q, hx', ho, hq, et, hf⟩
              rw [et]
              exact (fer_iff k1 k3 k7 wF x' o q hx' ho hq).mp hf)
          rw [this]
        · rw [if_neg y0]
          by_cases y1 : y = 1
          · rw [if_pos y1]
            refine cL.mono (q_192 (d := d + 1) ha hmk hO hMO k1 hv1 k8 k9 k7.1 (fun j j0 j1 => by
              have := hQ1 j j0 j1
              rcases hw with e0 | e0 <;> rw [e0]
              · exact this.1
              · exact this.2)) (Nat.le_refl _) (fun c v ⟨c1, c2, c3, c4, c5, c6, c7⟩ => ?_)
            rw [y1]
            obtain ⟨t1, t2, t3, t4, t5, t6⟩ := trans v c1 (sb1_sub c2 (by simp)) c3 c4
            refine cL.mono (r286_1 (d := d + 2) t2 hv1 t5) (Nat.le_refl _) (fun c' z ⟨z2, zs, w, wF, ws, p, zc, zp⟩ => ⟨?_, t6 z z2 zs⟩)
            rw [c7, zc]
            have e : ∀ b : Nat, (b < 193 ∨ b = 193 + 19 * wn + 1) → v.1 b = u1.1 b := fun b hb => c2 b (by simp only [List.mem_cons, List.not_mem_nil, or_false]; omega)
            have eZ : ∀ x' o q, Zs v (59 + 2 * wn) nv' nr' n (Fg nv' n (v.1 (193 + 19 * wn + 1))) x' o q ↔ Zs u1 (59 + 2 * wn) nv' nr' n (Fg nv' n (u1.1 (193 + 19 * wn + 1))) x' o q := fun x' o q => by
              unfold Zs stZ sbr dlt lrw
              rw [e 8 (by omega), e 9 (by omega), e 10 (by omega), e (59 + 2 * wn + 1) (by omega), e (193 + 19 * wn + 1) (by omega)]
            have := cnt_eq (R := v.1 (193 + 19 * wn + 14)) (Z := Zr w nr' n x) (p := p) g1 g7 (fun x' o hx' ho => stB_congr (stB_F c5 hx' ho) (fun q hq => by
              rw [← Zs_Zr t1 t3 t4 wF ws hv1, eZ]
              exact c6 x' o q hx' ho hq)) zp
            rw [this]
          · rw [if_neg y1]
            by_cases y2 : y = 2
            · rw [if_pos y2]
              refine cL.mono (q_196 (d := d + 4) ha hmk hO hMO k1 k8 k9 k7.1) (Nat.le_refl _) (fun c v ⟨c1, c2, c3⟩ => ?_)
              rw [y2]
              obtain ⟨t1, t2, t3, t4, t5, t6⟩ := trans v c1 (sb1_sub c2 (by simp)) (fun i _ _ => by rw [c2 _ (by simp only [List.mem_cons, List.not_mem_nil, or_false]; omega)]) (fun j j0 j1 => by
                rw [c2 _ (by simp only [List.mem_cons, List.not_mem_nil, or_false]; omega)]
                have := hQ1 j j0 j1
                rcases hw with e0 | e0 <;> rw [e0]
                · exact this.1
                · exact this.2)
              refine cL.mono (r286_2 (d := d + 2) t2 t5) (Nat.le_refl _) (fun c' z ⟨z2, zs, w, wF, zc⟩ => ⟨?_, t6 z z2 zs⟩)
              rw [c3, zc]
              have e : ∀ b : Nat, (b < 193 ∨ 230 < b ∨ b = 193 + 19 * wn + 1) → v.1 b = u1.1 b := fun b hb => c2 b (by simp only [List.mem_cons, List.not_mem_nil, or_false]; omega)
              refine (foR_congr nr' (fun r p hr hp => ?_)).symm
              obtain ⟨x1, x2, x3, x4⟩ := g5 r (by omega) (by omega)
              obtain ⟨e1, e2, e3⟩ := k3.1 r (by omega) (by omega)
              have fi := fer_iff t1 t3 t4 wF
              rw [e _ (Or.inr (Or.inr rfl))] at fi
              have el : v.1 276 r = u1.1 9 r := by rw [e 276 (by omega)]; exact e2
              rw [el]
              refine foP_congr n (fun o ho => nWy_congr _ (fun i hi o q ho hq => ?_) o ⟨by omega, by omega⟩)
              have hsy : symR nv' (lrw u1 r i) := x4 i (by omega) (by omega)
              have er : rwR u1 r i = lrw u1 r i := e3 i (by omega) (by omega)
              have erv : rwR v r = rwR u1 r := by unfold rwR; rw [e 277 (by omega)]
              have edv : dlR v x = dlR u1 x := by unfold dlR; rw [e 302 (by omega)]
              rw [erv, edv, er]
              generalize lrw u1 r i = s at hsy
              unfold stCf stRf
              by_cases z : s < 100
              · rw [if_pos z, if_pos z]
                have z' : s < 10 ∧ 0 ≤ s := by rcases hsy with y | y <;> omega
                have := k3.2 o s ho z'.2 z'.1
                show _ = decide (q = u1.1 302 (400 * x + 10 * o + s))
                rw [this]
              · rw [if_neg z, if_neg z]
                have z' : iR nv' (s - 100) := by
                  rcases hsy with y | y
                  · omega
                  · exact ⟨by omega, by omega⟩
                have := fi (s - 100) o q z' ho hq
                cases hb : bt (u1.1 (193 + 19 * wn + 1) ((s - 100) * 40 + o)) q.toNat with
                | true => exact (decide_eq_true (this.mp ⟨z', ho, hq, hb⟩)).symm
                | false =>
                  refine (decide_eq_false (fun h => ?_)).symm
                  have := (this.mpr h).2.2.2
                  rw [hb] at this
                  cases this
            · rw [if_neg y2]
              obtain ⟨t1, t2, t3, t4, t5, t6⟩ := trans u1 rfl (sb1_refl _ _) (fun _ _ _ => rfl) (fun j j0 j1 => by
                have := hQ1 j j0 j1
                rcases hw with e0 | e0 <;> rw [e0]
                · exact this.1
                · exact this.2)
              obtain ⟨i1, i2, i3, i4⟩ := t6 u1 rfl (sb1_refl _ _)
              exact bad (by omega) u1 k10 i1 i2 i3 i4
      · rw [if_neg hx2]; exact bad (by omega) u rfl hP hQ r0 (fun _ _ _ => rfl)
