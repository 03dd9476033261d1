/-! The other side: within -/
def fY : List Nat := [271, 324, 325, 326, 327, 328, 329, 330, 331, 332, 333, 334, 335, 336, 337, 338, 339, 340, 341, 342, 343, 344]
theorem RLD_of {M : Mg} {L H : T3} {b : Int} {z o : uS} (h : RLD M L H b z) (e1 : o.1 331 = z.1 331) (e2 : o.1 332 = z.1 332) (e3 : o.1 333 = z.1 333) (e4 : o.1 334 = z.1 334) (e5 : o.1 335 = z.1 335) : RLD M L H b o := by
  unfold RLD CHr at h ⊢
  rw [e1, e2, e3, e4, e5]
  exact h
def RW (v z : uS) (i : Int) : Prop := ∀ r : Int, 0 ≤ r → r < i → z.1 337 r = v.1 276 r ∧ ∀ k : Int, 0 ≤ k → k < 6 → z.1 338 (6 * r + k) = v.1 277 (6 * r + k)
/-- the rules are copied -/
theorem h_rows {e nr : Nat} {v a : uS} {Q : Int → uS → Prop} (hn : nr ≤ 30) (h6 : a.1 271 6 = nr) (e5 : a.1 275 = v.1 275) (e6 : a.1 276 = v.1 276) (e7 : a.1 277 = v.1 277) (hc : ∀ z : uS, z.2 = a.2 → sb1 a z [336, 337, 338] → RW v z nr → Q 0 z) : ∀ (m i : Nat) (z : uS), i + m = nr → z.2 = a.2 → sb1 a z [336, 337, 338] → RW v z i → K_268 (e + 1) 178 [.ref 271, .retAddr 0, .retAddr 0, iV (i : Int), .retAddr 0, .retAddr 0] [] z Q := by
  intro m
  induction m with
  | zero =>
    intro i z hi z2 zs zr
    have z6 : z.1 271 6 = nr := by rw [zs 271 (by decide)]; exact h6
    refine k_268_178 ⟨⟨by omega, by omega⟩, ?_⟩
    rw [z6]
    refine ⟨⟨by omega, by omega⟩, ?_⟩
    rw [if_neg (by omega)]
    rw [show i = nr by omega] at zr
    exact hc z z2 zs zr
  | succ m ih =>
    intro i z hi z2 zs zr
    have z6 : z.1 271 6 = nr := by rw [zs 271 (by decide)]; exact h6
    refine k_268_178 ⟨⟨by omega, by omega⟩, ?_⟩
    rw [z6]
    refine ⟨⟨by omega, by omega⟩, ?_⟩
    rw [if_pos (by omega)]
    refine ⟨by omega, by omega, fun y ey o eo => ?_⟩
    have o37 : o.1 337 = uf (z.1 337) (i : Int) (v.1 276 i) := by rw [eo, wr_uf, ey, wr_ne (by decide), wr_ne (by decide), zs 276 (by decide), e6]
    have o38 : o.1 338 = z.1 338 := by rw [eo, wr_ne (by decide), ey, wr_ne (by decide)]
    have os : sb1 a o [336, 337, 338] := by rw [eo, ey]; exact sb1_wr (sb1_wr zs (by decide)) (by decide)
    have o2 : o.2 = a.2 := by rw [eo, wr_2, ey, wr_2]; exact z2
    have inner : ∀ (k' k : Nat) (c : uS), k + k' = 6 → c.2 = a.2 → sb1 a c [336, 337, 338] → c.1 337 = o.1 337 → (∀ j : Int, j < 6 * i → c.1 338 j = z.1 338 j) → (∀ j : Int, 0 ≤ j → j < k → c.1 338 (6 * (i : Int) + j) = v.1 277 (6 * (i : Int) + j)) → K_268 (e + 1) 213 [.ref 271, .retAddr 0, .retAddr 0, iV (i : Int), iV (k : Int), .retAddr 0] [] c Q := by
      intro k'
      induction k' with
      | zero =>
        intro k c hk c2 cs c37 c38 cj
        refine k_268_213 ⟨⟨by omega, by omega⟩, ?_⟩
        rw [if_neg (by omega)]
        have := ih (i + 1) c (by omega) c2 cs (fun r r0 r1 => ?_)
        · rw [show ((i + 1 : Nat) : Int) = (i : Int) + 1 by omega] at this
          exact this
        · rw [c37, o37]
          by_cases er : r = i
          · rw [er, uf_eq]
            exact ⟨rfl, fun j j0 j1 => cj j j0 (by omega)⟩
          · rw [uf_ne er]
            obtain ⟨q1, q2⟩ := zr r r0 (by omega)
            exact ⟨q1, fun j j0 j1 => by rw [c38 _ (by omega)]; exact q2 j j0 j1⟩
      | succ k' ihk =>
        intro k c hk c2 cs c37 c38 cj
        refine k_268_213 ⟨⟨by omega, by omega⟩, ?_⟩
        rw [if_pos (by omega)]
        refine ⟨by omega, by omega, fun d ed => ?_⟩
        have d38 : d.1 338 = uf (c.1 338) (6 * (i : Int) + k) (v.1 277 (6 * (i : Int) + k)) := by rw [ed, wr_uf, cs 277 (by decide), e7]
        have := ihk (k + 1) d (by omega) (by rw [ed, wr_2]; exact c2) (by rw [ed]; exact sb1_wr cs (by decide)) (by rw [ed, wr_ne (by decide)]; exact c37) (fun j hj => by rw [d38, uf_ne (by omega)]; exact c38 j hj) (fun j j0 j1 => by
          rw [d38]
          by_cases ej : j = k
          · rw [ej, uf_eq]
          · rw [uf_ne (by omega)]
            exact cj j j0 (by omega))
        rw [show ((k + 1 : Nat) : Int) = (k : Int) + 1 by omega] at this
        exact this
    exact inner 6 0 o (by omega) o2 os rfl (fun j hj => by rw [o38]) (fun j j0 j1 => by omega)
/-- one is least -/
def lst (w : uS) (P : Int → Prop) (b : Int) : Prop := P b ∧ ∀ q, P q → L3 w 0 0 b < L3 w 0 0 q ∨ (L3 w 0 0 b = L3 w 0 0 q ∧ (H3 w 0 0 b < H3 w 0 0 q ∨ (H3 w 0 0 b = H3 w 0 0 q ∧ b ≤ q)))
theorem lst_u {w : uS} {P : Int → Prop} {b c : Int} (h : lst w P b) (h' : lst w P c) : b = c := by
  have h1 := h.2 c h'.1
  have h2 := h'.2 b h.1
  omega
def cnd (v w : uS) (mk n : Nat) (q : Int) : Prop := iR n q ∧ bt (v.1 mk 1) q.toNat = false ∧ w.1 324 (tix 0 0 q) ≠ 6000000000000000000
theorem q_268 {e nv nr n mk : Nat} {v : uS} {m b c : Int} (hG : GMc v nv nr n mk) (hRG : RGc v nv nr n m) (hE : sideE v nr n mk m) (hv1 : 1 ≤ nv) (h3 : ∀ s : Int, 0 ≤ s → s < n → v.1 303 (40 * m + s) = b2 (bt (v.1 mk 1) s.toNat)) (h11 : v.1 271 11 = 1) (h33 : ∀ t, 0 ≤ t → t < 16000 → cB (v.1 333 t)) (hc : ∀ w, FT v w nv nr n m → (c = 1 ∧ ∀ q, ¬ cnd v w mk n q) ∨ (c = 0 ∧ lst w (cnd v w mk n) b)) : cI (e + 7) 268 [.ref 271, iV m] v (fun r z => r = c ∧ z.2 = v.2 ∧ sb1 v z fY ∧ (∀ i : Int, i ≠ 73 → i ≠ 74 → i ≠ 75 → z.1 271 i = v.1 271 i) ∧ (∀ t, 0 ≤ t → t < 16000 → cB (z.1 333 t)) ∧ ((c = 1 ∧ z.1 271 73 = 0) ∨ (c = 0 ∧ z.1 271 73 = 1 ∧ z.1 271 74 = tix 0 0 b ∧ z.1 271 75 = b ∧ RW v z nr ∧ ∃ w, FT v w nv nr n m ∧ Fe (mOf v mk nv nr n) (L3 w) 0 0 b ∧ RLD (mOf v mk nv nr n) (L3 w) (H3 w) b z))) := by
  obtain ⟨g1, g2, g3, g4, g5, g6, g7, g8, g9⟩ := id hG
  have hm01 := hRG.2.2.2.2.2.2.2.1
  have h301 := hRG.2.2.2.2.2.2.1
  have h6 := hRG.2.2.1
  generalize hQQ : (fun (r : Int) (z : uS) => r = c ∧ z.2 = v.2 ∧ sb1 v z fY ∧ (∀ i : Int, i ≠ 73 → i ≠ 74 → i ≠ 75 → z.1 271 i = v.1 271 i) ∧ (∀ t, 0 ≤ t → t < 16000 → cB (z.1 333 t)) ∧ ((c = 1 ∧ z.1 271 73 = 0) ∨ (c = 0 ∧ z.1 271 73 = 1 ∧ z.1 271 74 = tix 0 0 b ∧ z.1 271 75 = b ∧ RW v z nr ∧ ∃ w, FT v w nv nr n m ∧ Fe (mOf v mk nv nr n) (L3 w) 0 0 b ∧ RLD (mOf v mk nv nr n) (L3 w) (H3 w) b z))) = Q
  refine e_268 ?_
  rw [h11]
  refine ⟨⟨by omega, by omega⟩, ?_⟩
  rw [if_neg (by omega)]
  refine ⟨⟨by omega, by omega⟩, ?_⟩
  rw [if_neg (by omega), if_neg (by omega)]
  refine cV.mono (q_269 (d := e) hRG) (Nat.le_refl _) (fun w ⟨w2, ws, wF⟩ => ?_)
  have hcw := hc w wF
  have hS := LHs_of hG hRG hE wF
  have w01 : w.1 301 m = n := by rw [ws 301 (by decide)]; exact h301
  have w03 : ∀ q : Int, 0 ≤ q → q < n → w.1 303 (40 * m + q) = b2 (bt (v.1 mk 1) q.toNat) := fun q q0 q1 => by
    rw [ws 303 (by decide)]; exact h3 q q0 q1
  have w33 : ∀ t, 0 ≤ t → t < 16000 → cB (w.1 333 t) := fun t h0 h1 => by rw [ws 333 (by decide)]; exact h33 t h0 h1
  have wY : sb1 v w fY := sb1_sub ws (by decide)
  -- the end of the loop
  have done : ∀ l : Int, (l = -2 ∧ ∀ q, ¬ cnd v w mk n q) ∨ (∃ a, l = tix 0 0 a ∧ lst w (cnd v w mk n) a) → (if l = -2 then (∀ u16 : uS, u16 = wr w 271 73 0 → (Q 1 u16)) else (∀ u19 : uS, u19 = wr w 271 73 1 → (cV (e + 6) 276 [.ref 271, iV m, iV l] u19 (fun u22 => ∀ u23 : uS, u23 = wr u22 271 74 l → (∀ u25 : uS, u25 = wr u23 271 75 (l.tmod 40) → (K_268 (e + 6) 178 [.ref 271, .retAddr 0, .retAddr 0, iV 0, .retAddr 0, .retAddr 0] [] u25 Q)))))) := by
    intro l hl
    rcases hl with ⟨hl, hno⟩ | ⟨a, hl, hlst⟩
    · rw [if_pos hl]
      intro z ez
      rw [← hQQ]
      have c1 : c = 1 := by
        rcases hcw with z | z
        · exact z.1
        · exact absurd z.2.1 (hno b)
      refine ⟨c1.symm, by rw [ez, wr_2]; exact w2, by rw [ez]; exact sb1_wr wY (by decide), fun i i1 i2 i3 => ?_, fun t h0 h1 => ?_, Or.inl ⟨c1, by rw [ez, wr_self]⟩⟩
      · rw [ez, wr_1, if_neg (fun h => i1 h.2), ws 271 (by decide)]
      · rw [ez, wr_ne (by decide)]; exact w33 t h0 h1
    · have c0 : c = 0 := by
        rcases hcw with z | z
        · exact absurd hlst.1 (z.2 a)
        · exact z.1
      have hlb : lst w (cnd v w mk n) b := by
        rcases hcw with z | z
        · omega
        · exact z.2
      have eab := lst_u hlst hlb
      rw [eab] at hl
      obtain ⟨⟨hbR, hbl, hbf⟩, -⟩ := hlb
      have b0 := hbR.1
      have b1 := hbR.2
      have hl0 : l = b := by
        rw [hl]
        unfold tix
        omega
      rw [if_neg (by omega)]
      intro z ez
      have zF : RFr v w z := by
        unfold RFr
        rw [ez, wr_1, if_neg (by decide), wr_ne (by decide), wr_ne (by decide), wr_ne (by decide), wr_ne (by decide), wr_ne (by decide), wr_ne (by decide), wr_ne (by decide), wr_ne (by decide), wr_ne (by decide), ws 271 (by decide), ws 275 (by decide), ws 276 (by decide), ws 277 (by decide), ws 301 (by decide), ws 302 (by decide)]
        exact ⟨rfl, rfl, rfl, rfl, rfl, rfl, rfl, rfl, rfl, rfl⟩
      have hfe : Fe (mOf v mk nv nr n) (L3 w) 0 0 b := ⟨⟨by omega, by show (0 : Int) < (nv : Int); omega⟩, ⟨by omega, by show (0 : Int) < (n : Int); omega⟩, hbR, hbf⟩
      rw [hl]
      refine cV.mono (q_276 (e := e) (v := z) hG hRG hE wF hS zF hfe (fun t h0 h1 => by rw [ez, wr_ne (by decide)]; exact w33 t h0 h1)) (Nat.le_refl _) (fun y ⟨y2, ys, y33, yR⟩ o eo a' ea => ?_)
      rw [← hl, hl0, show b.tmod 40 = b by rw [Int.tmod_eq_emod_of_nonneg b0]; omega] at ea
      have zY : sb1 v z fY := by rw [ez]; exact sb1_wr wY (by decide)
      have yY : sb1 v y fY := sb1_trans zY (sb1_sub ys (by decide))
      have aY : sb1 v a' fY := by rw [ea, eo]; exact sb1_wr (sb1_wr yY (by decide)) (by decide)
      have y271 : y.1 271 = uf (v.1 271) 73 1 := by rw [ys 271 (by decide), ez, wr_uf, ws 271 (by decide)]
      have a271 : a'.1 271 = uf (uf (uf (v.1 271) 73 1) 74 (tix 0 0 b)) 75 b := by rw [ea, wr_uf, eo, wr_uf, y271]
      have ab : ∀ c, c ≠ 271 → a'.1 c = y.1 c := fun c hc => by rw [ea, wr_ne hc, eo, wr_ne hc]
      have eh := h_rows (e := e + 5) (nr := nr) (v := v) (a := a') (Q := Q) g2 (by rw [a271, uf_ne (by decide), uf_ne (by decide), uf_ne (by decide)]; exact h6) (aY 275 (by decide)) (aY 276 (by decide)) (aY 277 (by decide)) (fun x x2 xs xr' => by
        rw [← hQQ]
        have x271 : x.1 271 = a'.1 271 := xs 271 (by decide)
        have xb : ∀ c, c ≠ 271 → c ≠ 336 → c ≠ 337 → c ≠ 338 → x.1 c = y.1 c := fun c c1 c2 c3 c4 => (xs c (by simp only [List.mem_cons, List.not_mem_nil, or_false, not_or]; exact ⟨c2, c3, c4⟩)).trans (ab c c1)
        refine ⟨c0.symm, ?_, sb1_trans aY (sb1_sub xs (by decide)), fun i i1 i2 i3 => ?_, fun t h0 h1 => ?_, Or.inr ⟨c0, ?_, ?_, ?_, xr', w, wF, hfe, ?_⟩⟩
        · rw [x2, ea, wr_2, eo, wr_2, y2, ez, wr_2, w2]
        · rw [x271, a271, uf_ne i3, uf_ne i2, uf_ne i1]
        · rw [xb 333 (by decide) (by decide) (by decide) (by decide)]; exact y33 t h0 h1
        · rw [x271, a271, uf_ne (by decide), uf_ne (by decide), uf_eq]
        · rw [x271, a271, uf_ne (by decide), uf_eq]
        · rw [x271, a271, uf_eq]
        · exact RLD_of yR (xb 331 (by decide) (by decide) (by decide) (by decide)) (xb 332 (by decide) (by decide) (by decide) (by decide)) (xb 333 (by decide) (by decide) (by decide) (by decide)) (xb 334 (by decide) (by decide) (by decide) (by decide)) (xb 335 (by decide) (by decide) (by decide) (by decide))) nr 0 a' (by omega) rfl (sb1_refl _ _) (fun r r0 r1 => by omega)
      exact eh
  have loop : ∀ (k : Nat) (q l : Int), 0 ≤ q → q + k = n → ((l = -2 ∧ ∀ q', q' < q → ¬ cnd v w mk n q') ∨ (∃ a, a < q ∧ l = tix 0 0 a ∧ lst w (fun q' => q' < q ∧ cnd v w mk n q') a)) → K_268 (e + 6) 29 [.ref 271, iV m, iV l, iV q, .retAddr 0, .retAddr 0] [] w Q := by
    intro k
    induction k with
    | zero =>
      intro q l q0 qe hl
      have hlI : rI l := by
        rcases hl with ⟨z, -⟩ | ⟨a, a1, a2, a3⟩
        · rw [z]; exact ⟨by omega, by omega⟩
        · have := a3.1.2.1.1
          rw [a2]
          unfold tix
          exact ⟨by omega, by omega⟩
      refine k_268_29 ⟨by omega, by omega, ⟨by omega, by omega⟩, ?_⟩
      rw [w01]
      refine ⟨⟨by omega, by omega⟩, ?_⟩
      rw [if_neg (by omega)]
      refine ⟨hlI, done l ?_⟩
      rcases hl with ⟨z1, z2⟩ | ⟨a, a1, a2, a3, a4⟩
      · exact Or.inl ⟨z1, fun q' hq' => z2 q' (by have := hq'.1.2; omega) hq'⟩
      · exact Or.inr ⟨a, a2, a3.2, fun q' hq' => a4 q' ⟨by have := hq'.1.2; omega, hq'⟩⟩
    | succ k ih =>
      intro q l q0 qe hl
      have hlI : rI l := by
        rcases hl with ⟨z, -⟩ | ⟨a, a1, a2, a3⟩
        · rw [z]; exact ⟨by omega, by omega⟩
        · have := a3.1.2.1.1
          rw [a2]
          unfold tix
          exact ⟨by omega, by omega⟩
      have hqR : iR n q := ⟨q0, by omega⟩
      have ht := tix_R (o := 0) (x := 0) (q := q) ⟨by omega, by omega⟩ ⟨by omega, by omega⟩ ⟨q0, by omega⟩
      -- not a candidate
      have miss : ¬ cnd v w mk n q → K_268 (e + 6) 29 [.ref 271, iV m, iV l, iV (q + 1), .retAddr 0, .retAddr 0] [] w Q := fun hm => by
        refine ih (q + 1) l (by omega) (by omega) ?_
        rcases hl with ⟨z1, z2⟩ | ⟨a, a1, a2, a3, a4⟩
        · refine Or.inl ⟨z1, fun q' hlt hq' => ?_⟩
          by_cases e : q' = q
          · rw [e] at hq'; exact hm hq'
          · exact z2 q' (by omega) hq'
        · refine Or.inr ⟨a, by omega, a2, ⟨by omega, a3.2⟩, fun q' hq' => ?_⟩
          by_cases e : q' = q
          · have := hq'.2
            rw [e] at this
            exact absurd this hm
          · exact a4 q' ⟨by have := hq'.1; omega, hq'.2⟩
      have miss' : ¬ cnd v w mk n q → K_268 (e + 6) 80 [.ref 271, iV m, iV l, iV q, iV (tix 0 0 q), .retAddr 0] [iV 0] w Q := fun hm => by
        refine k_268_80 ⟨⟨by omega, by omega⟩, ?_⟩
        rw [if_pos rfl]
        exact miss hm
      refine k_268_29 ⟨by omega, by omega, ⟨by omega, by omega⟩, ?_⟩
      rw [w01, w03 q q0 (by omega)]
      refine ⟨⟨by omega, by omega⟩, ?_⟩
      rw [if_pos (by omega), show (10 * 0 + 0) * 40 + q = tix 0 0 q from rfl]
      have hb2 : rI (b2 (bt (v.1 mk 1) q.toNat)) := by rcases b2_r (bt (v.1 mk 1) q.toNat) with z | z <;> rw [z] <;> decide
      refine ⟨by omega, by omega, hb2, ?_⟩
      cases hbt : bt (v.1 mk 1) q.toNat with
      | true =>
        rw [if_neg (by decide)]
        exact miss' (fun hm => by rw [hm.2.1] at hbt; cases hbt)
      | false =>
        rw [if_pos (by decide)]
        refine ⟨ht.1, ht.2, lR_L (wF.1 _ ht.1 ht.2).1, ?_⟩
        by_cases hf : w.1 324 (tix 0 0 q) = 6000000000000000000
        · rw [if_pos hf]
          exact miss' (fun hm => hm.2.2 hf)
        · rw [if_neg hf]
          have hq : cnd v w mk n q := ⟨hqR, hbt, hf⟩
          -- the new one is the best
          have take : (∀ q', q' < q → cnd v w mk n q' → L3 w 0 0 q < L3 w 0 0 q' ∨ (L3 w 0 0 q = L3 w 0 0 q' ∧ H3 w 0 0 q < H3 w 0 0 q')) → K_268 (e + 6) 29 [.ref 271, iV m, iV (tix 0 0 q), iV (q + 1), .retAddr 0, .retAddr 0] [] w Q := fun hb => by
            refine ih (q + 1) _ (by omega) (by omega) (Or.inr ⟨q, by omega, rfl, ⟨by omega, hq⟩, fun q' hq' => ?_⟩)
            by_cases e : q' = q
            · rw [e]
              exact Or.inr ⟨rfl, Or.inr ⟨rfl, Int.le_refl _⟩⟩
            · have := hb q' (by have := hq'.1; omega) hq'.2
              omega
          refine k_268_80 ⟨⟨by omega, by omega⟩, ?_⟩
          rw [if_neg (by omega)]
          refine ⟨hlI, ?_⟩
          rcases hl with ⟨z1, z2⟩ | ⟨a, a1, a2, a3, a4⟩
          · rw [if_pos z1]
            exact take (fun q' hlt hq' => absurd hq' (z2 q' hlt))
          · obtain ⟨-, ⟨aR, abt, af⟩⟩ := id a3
            have aR0 := aR.1
            have hta := tix_R (o := 0) (x := 0) (q := a) ⟨by omega, by omega⟩ ⟨by omega, by omega⟩ ⟨aR0, by omega⟩
            have hl2 : l ≠ -2 := by omega
            rw [if_neg hl2, a2]
            have eLa : w.1 324 (tix 0 0 a) = L3 w 0 0 a := rfl
            have eLq : w.1 324 (tix 0 0 q) = L3 w 0 0 q := rfl
            have eHa : w.1 325 (tix 0 0 a) = H3 w 0 0 a := rfl
            have eHq : w.1 325 (tix 0 0 q) = H3 w 0 0 q := rfl
            -- the old one stays
            have stay : (L3 w 0 0 a < L3 w 0 0 q ∨ (L3 w 0 0 a = L3 w 0 0 q ∧ H3 w 0 0 a ≤ H3 w 0 0 q)) → K_268 (e + 6) 29 [.ref 271, iV m, iV (tix 0 0 a), iV (q + 1), .retAddr 0, .retAddr 0] [] w Q := fun hb => by
              refine ih (q + 1) _ (by omega) (by omega) (Or.inr ⟨a, by omega, rfl, ⟨by omega, a3.2⟩, fun q' hq' => ?_⟩)
              by_cases e : q' = q
              · rw [e]
                omega
              · exact a4 q' ⟨by have := hq'.1; omega, hq'.2⟩
            refine ⟨ht.1, ht.2, hta.1, hta.2, lR_L (wF.1 _ ht.1 ht.2).1, lR_L (wF.1 _ hta.1 hta.2).1, ?_⟩
            rw [eLa, eLq]
            by_cases d1 : L3 w 0 0 q < L3 w 0 0 a
            · rw [if_pos d1]
              refine take (fun q' hlt hq' => ?_)
              have := a4 q' ⟨hlt, hq'⟩
              omega
            · rw [if_neg d1]
              by_cases d2 : L3 w 0 0 q = L3 w 0 0 a
              · rw [if_pos d2]
                refine ⟨hR_I (wF.1 _ ht.1 ht.2).2, hR_I (wF.1 _ hta.1 hta.2).2, ?_⟩
                rw [eHa, eHq]
                by_cases d3 : H3 w 0 0 q < H3 w 0 0 a
                · rw [if_pos d3]
                  refine take (fun q' hlt hq' => ?_)
                  have := a4 q' ⟨hlt, hq'⟩
                  omega
                · rw [if_neg d3]
                  exact stay (Or.inr ⟨d2.symm, by omega⟩)
              · rw [if_neg d2]
                exact stay (Or.inl (by omega))
  exact loop n 0 (-2) (Int.le_refl 0) (by omega) (Or.inl ⟨rfl, fun q' hlt hq' => by have := hq'.1.1; omega⟩)
