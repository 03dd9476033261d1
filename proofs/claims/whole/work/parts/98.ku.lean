/-! copy: both sides alike -/
def fWT : List Nat := [255, 257, 258, 259, 232, 247, 244, 245, 246, 337, 338, 266, 267, 331, 332, 334, 335, 268, 333]
theorem WT_g {M : Mg} {L H : T3} {s : Nat} {T : P3} {u v : uS} (h : ∀ c, c ∈ fWT → v.1 c = u.1 c) (hW : WT M L H s T u) : WT M L H s T v := by
  obtain ⟨hV, hO, hr, hT⟩ := hW
  have eK : Kv M v = Kv M u := Kv_eq (h 247 (by decide))
  refine ⟨?_, ?_, by rw [h 337 (by decide), h 338 (by decide)]; exact hr, ?_⟩
  · unfold sV rgt at hV ⊢
    rw [eK, h 255 (by decide), h 257 (by decide), h 258 (by decide), h 259 (by decide), h 232 (by decide), h 247 (by decide), h 244 (by decide), h 245 (by decide)]
    exact hV
  · unfold OD at hO ⊢
    rw [eK, h 232 (by decide), h 246 (by decide)]
    exact hO
  · unfold CHc CHr at hT ⊢
    rw [eK, h 266 (by decide), h 267 (by decide), h 331 (by decide), h 332 (by decide), h 334 (by decide), h 335 (by decide), h 268 (by decide), h 333 (by decide)]
    exact hT
theorem LA_R {M : Mg} {L H : T3} (hM : Mok M) : ∀ (h : Nat) (x p q i a : Int), LA M L H h x p q i a → 0 ≤ a ∧ a ≤ 9
  | 0, _, _, _, _, _, l => l.elim
  | h + 1, x, p, q, i, a, ⟨r, S, k, c1, c2, c3, c4, c5⟩ => by
    have hsy := (hM.2.2.2.2.1 r c1.1 c1.2.1).2.2.2 k (by omega) (by omega)
    by_cases cx : xy M r k < 100
    · rw [if_pos cx] at c5
      rcases hsy with z | z
      · omega
      · omega
    · rw [if_neg cx] at c5
      exact LA_R hM h _ _ _ _ _ c5
theorem tc0 (n : Nat) (b : Int) : tcx n 0 0 b = b := by
  unfold tcx
  rw [Int.zero_mul, Int.add_zero, Int.zero_mul, Int.zero_add]
theorem q_181 {e s : Nat} {M : Mg} {L H : T3} {T : P3} {u : uS} {b i : Int} (hM : Mok M) (hS : LHs M L H) (hW : WT M L H s T u) (hT0 : T 0 0 b) (hb : u.1 232 3 = b) (i0 : 0 ≤ i) (i1 : i < L 0 0 b) : cI (e + 6) 181 [.ref 231, lV i] u (fun a z => (∃ h, LA M L H h 0 0 b i a) ∧ F231 u z (fun j => j = 9)) := by
  obtain ⟨m1, m2, m3, m4, m5, m6⟩ := id hM
  obtain ⟨hV, hO, hr, hT⟩ := id hW
  obtain ⟨hk, -⟩ := hT 0 0 b hT0
  have hbR := hk.2.2.1
  have b0 := hbR.1
  have b1 := hbR.2
  obtain ⟨hfe, v44, v45⟩ := hV.2.2.2.2 0 0 b hk
  have fb := (Fe_b hS hfe).1
  unfold cB at fb
  rw [tc0] at v44
  refine e_181 (d := e + 4) ?_
  rw [hb, v44]
  refine ⟨⟨by omega, by omega⟩, ?_⟩
  rw [if_neg (by omega)]
  refine ⟨b0, by omega, ⟨by omega, by omega⟩, ?_⟩
  rw [if_pos i1]
  intro w ew
  have wF : F231 u w (fun j => j = 9) := by rw [ew]; exact F231_wr ⟨rfl, fun _ _ => rfl, fun _ _ => rfl⟩ rfl
  obtain ⟨idx, x0, x1, x2⟩ := hO.2.2.2.1 0 0 b hk
  have := q_181l (e := e) hM hS hW idx.toNat 0 0 b i idx 0 w (fun a z => (∃ h, LA M L H h 0 0 b i a) ∧ F231 u z (fun j => j = 9)) hT0 x0 (by omega) x2 (Int.le_refl 0) (by omega) wF (by rw [ew, wr_self]) i0 i1 (fun h a z hla zF => ⟨⟨h, hla⟩, zF⟩)
  rw [tc0] at this
  rw [wF.2.1 232 (by decide), hb]
  exact this
theorem q_282 {e s : Nat} {M : Mg} {L H : T3} {T : P3} {u : uS} {b i : Int} (hM : Mok M) (hS : LHs M L H) (hW : WT M L H s T u) (hT0 : T 0 0 b) (h2 : u.1 271 73 = 1) (h74 : u.1 271 74 = tix 0 0 b) (i0 : 0 ≤ i) (i1 : i < L 0 0 b) : cI (e + 3) 282 [.ref 271, lV i] u (fun a z => z = u ∧ ∃ h, LA M L H h 0 0 b i a) := by
  obtain ⟨hV, hO, hr, hT⟩ := id hW
  obtain ⟨hk, r, S, c1, c2, c3, -⟩ := hT 0 0 b hT0
  have hfe := (hV.2.2.2.2 0 0 b hk).1
  obtain ⟨fb, fh1, fh2⟩ := Fe_b hS hfe
  unfold cB at fb
  obtain ⟨-, -, -, r34, -⟩ := c2
  have ht := Fe_t hM hfe
  refine e_282 (d := e + 2) ?_
  rw [h2, h74, r34]
  refine ⟨⟨by omega, by omega⟩, ?_⟩
  rw [if_neg (by omega)]
  refine ⟨⟨by omega, by omega⟩, ?_⟩
  rw [if_neg (by omega)]
  refine ⟨ht.1, ht.2, ⟨by omega, by omega⟩, ?_⟩
  rw [if_pos i1]
  exact q_282l (e := e) hM hS hW (H 0 0 b).toNat 0 0 b i hT0 (by omega) i0 i1 (fun h a hla => ⟨rfl, h, hla⟩)
def cpP : Nat → Int → Prop := fun b j => b = 5 ∨ b = 273 ∨ (b = 0 ∧ j = 2) ∨ (b = 36 ∧ j = 16) ∨ (b = 271 ∧ j = 3) ∨ (b = 231 ∧ j = 9)
theorem st_copy {d : Nat} {u : uS} (hW : invW u) (hX : invX u) : cI (d + 8) 187 [.ref 0] u (fun r u1 => cI (d + 8) 285 [.ref 271] u1 (fun r' u2 => r' = r ∧ u2.2 = u.2 ∧ fr1 cpP u u2 ∧ invW u2 ∧ invX u2 ∧ (u2 = u ∨ u2.1 36 16 = 0))) := by
  rcases hX.2 with ⟨h1, h2⟩ | ⟨h1, h2, M, L, H, s, b, hM, hS, hV, hO, hb, hk, h74, h75, hr, T, hT0, hT⟩
  · refine e_187 ?_
    rw [h1]
    refine ⟨⟨by omega, by omega⟩, ?_⟩
    rw [if_pos rfl]
    refine e_285 (d := d + 7) ?_
    rw [h2]
    refine ⟨⟨by omega, by omega⟩, ?_⟩
    rw [if_pos rfl]
    exact ⟨rfl, rfl, fun _ _ _ => rfl, hW, hX, Or.inl rfl⟩
  · obtain ⟨m1, m2, m3, m4, m5, m6⟩ := id hM
    have hWT : WT M L H s T u := ⟨hV, hO, hr, hT⟩
    obtain ⟨hk0, r, S, c1, c2, c3, -⟩ := hT 0 0 b hT0
    have hbR := hk.2.2.1
    have b0 := hbR.1
    have b1 := hbR.2
    obtain ⟨hfe, v44, v45⟩ := hV.2.2.2.2 0 0 b hk
    obtain ⟨fb, fh1, fh2⟩ := Fe_b hS hfe
    unfold cB at fb
    rw [tc0] at v44
    obtain ⟨-, -, -, r34, -⟩ := c2
    have ht := Fe_t hM hfe
    obtain ⟨n, hn, hn40⟩ : ∃ n : Nat, (n : Int) = min 40 (L 0 0 b) ∧ n ≤ 40 := ⟨(min 40 (L 0 0 b)).toNat, by omega, by omega⟩
    generalize hQQ : (fun (r : Int) (u1 : uS) => cI (d + 8) 285 [.ref 271] u1 (fun r' u2 => r' = r ∧ u2.2 = u.2 ∧ fr1 cpP u u2 ∧ invW u2 ∧ invX u2 ∧ (u2 = u ∨ u2.1 36 16 = 0))) = Q
    -- what is the same all the time
    have wt : ∀ z : uS, fr1 cpP u z → WT M L H s T z ∧ z.1 232 3 = b ∧ z.1 271 73 = 1 ∧ z.1 271 74 = tix 0 0 b ∧ z.1 334 (tix 0 0 b) = L 0 0 b := fun z zf => by
      have e : ∀ c, c ≠ 5 → c ≠ 273 → c ≠ 0 → c ≠ 36 → c ≠ 271 → c ≠ 231 → z.1 c = u.1 c := fun c a1 a2 a3 a4 a5 a6 => by
        funext j
        exact zf c j (by unfold cpP; omega)
      refine ⟨WT_g (fun c hc => e c ?_ ?_ ?_ ?_ ?_ ?_) hWT, by rw [e 232 (by decide) (by decide) (by decide) (by decide) (by decide) (by decide)]; exact hb, by rw [zf 271 73 (by unfold cpP; omega)]; exact h2, by rw [zf 271 74 (by unfold cpP; omega)]; exact h74, by rw [e 334 (by decide) (by decide) (by decide) (by decide) (by decide) (by decide)]; exact r34⟩ <;> (simp only [fWT, List.mem_cons, List.not_mem_nil, or_false] at hc; omega)
    -- the other side
    have ref : ∀ v : uS, v.2 = u.2 → fr1 cpP u v → v.1 0 2 = n → v.1 36 16 = 0 → (∀ k : Nat, k < n → ∃ h, LA M L H h 0 0 b k (v.1 5 k)) → Q n v := fun v v2 vf v0 v36 v5 => by
      rw [← hQQ]
      obtain ⟨vW, vb, v73, v74, v34⟩ := wt v vf
      generalize hRR : (fun (r' : Int) (u2 : uS) => r' = (n : Int) ∧ u2.2 = u.2 ∧ fr1 cpP u u2 ∧ invW u2 ∧ invX u2 ∧ (u2 = u ∨ u2.1 36 16 = 0)) = R
      have loop : ∀ (m k : Nat) (z : uS), k + m = n → z.2 = u.2 → fr1 cpP u z → z.1 5 = v.1 5 → z.1 0 = v.1 0 → z.1 36 = v.1 36 → z.1 231 = v.1 231 → (∀ j : Nat, j < k → z.1 273 j = v.1 5 j) → K_285 (d + 7) 44 [.ref 271, iV (n : Int), iV (k : Int)] [] z R := by
        intro m
        induction m with
        | zero =>
          intro k z hkm z2 zf z5 z0 z36 z231 zj
          refine k_285_44 ⟨⟨by omega, by omega⟩, ⟨by omega, by omega⟩, ?_⟩
          rw [if_neg (by omega)]
          intro y ey
          have yb : ∀ c, c ≠ 271 → y.1 c = z.1 c := fun c hc => by rw [ey, wr_ne hc]
          have y271 : y.1 271 = uf (z.1 271) 3 n := by rw [ey, wr_uf]
          have yf : fr1 cpP u y := fun c j hc => by
            by_cases e : c = 271
            · rw [e, y271, uf_ne (fun h => hc (by unfold cpP; omega)), zf 271 j (by rw [← e]; exact hc)]
            · rw [yb c e]; exact zf c j hc
          obtain ⟨yW, yb', y73, y74, y34⟩ := wt y yf
          rw [← hRR]
          refine ⟨rfl, by rw [ey, wr_2]; exact z2, yf, ⟨n, hn40, by rw [yb 0 (by decide), z0]; exact v0, by rw [y271, uf_eq], fun i hi => ?_⟩, ⟨fun t t0 t1 => ?_, Or.inr ⟨?_, y73, M, L, H, s, b, hM, hS, yW.1, yW.2.1, yb', ?_, y74, ?_, yW.2.2.1, T, hT0, yW.2.2.2⟩⟩, Or.inr (by rw [yb 36 (by decide), z36]; exact v36)⟩
          · rw [yb 273 (by decide), yb 5 (by decide), z5, zj i (by omega)]
            obtain ⟨h, hla⟩ := v5 i hi
            exact ⟨rfl, LA_R hM h _ _ _ _ _ hla⟩
          · rw [yf 333 t (by unfold cpP; omega)]
            exact hX.1 t t0 t1
          · rw [yf 231 0 (by unfold cpP; omega)]; exact h1
          · exact (yW.2.2.2 0 0 b hT0).1
          · rw [yf 271 75 (by unfold cpP; omega)]; exact h75
        | succ m ih =>
          intro k z hkm z2 zf z5 z0 z36 z231 zj
          obtain ⟨zW, zb, z73, z74, z34⟩ := wt z zf
          refine k_285_44 ⟨⟨by omega, by omega⟩, ⟨by omega, by omega⟩, ?_⟩
          rw [if_pos (by omega)]
          refine cI.mono (q_282 (e := d + 4) (i := (k : Int)) hM hS zW hT0 z73 z74 (by omega) (by omega)) (Nat.le_refl _) (fun a y ⟨ey, h, hla⟩ => ?_)
          rw [ey]
          refine ⟨by omega, by omega, fun o eo => ?_⟩
          have ob : ∀ c, c ≠ 273 → o.1 c = z.1 c := fun c hc => by rw [eo, wr_ne hc]
          have o273 : o.1 273 = uf (z.1 273) (k : Int) a := by rw [eo, wr_uf]
          have := ih (k + 1) o (by omega) (by rw [eo, wr_2]; exact z2) (fun c j hc => by rw [ob c (fun h => hc (by unfold cpP; omega))]; exact zf c j hc) (by rw [ob 5 (by decide)]; exact z5) (by rw [ob 0 (by decide)]; exact z0) (by rw [ob 36 (by decide)]; exact z36) (by rw [ob 231 (by decide)]; exact z231) (fun j hj => by
            rw [o273]
            by_cases e : j = k
            · rw [e, uf_eq]
              obtain ⟨h', hla'⟩ := v5 k (by omega)
              exact LA_u hS h h' 0 0 b _ _ _ hfe hla hla'
            · rw [uf_ne (by omega)]
              exact zj j (by omega))
          rw [show ((k + 1 : Nat) : Int) = (k : Int) + 1 by omega] at this
          exact this
      have start := loop n 0 v (by omega) v2 vf rfl rfl rfl rfl (fun j hj => by omega)
      refine e_285 (d := d + 7) ?_
      rw [v73, v74, v34]
      refine ⟨⟨by omega, by omega⟩, ?_⟩
      rw [if_neg (by omega)]
      refine ⟨ht.1, ht.2, ⟨by omega, by omega⟩, ?_⟩
      by_cases c40 : 40 < L 0 0 b
      · rw [if_pos c40]
        rw [show (n : Int) = 40 by omega] at start
        exact start
      · rw [if_neg c40, wI_eq ⟨by omega, by omega⟩]
        rw [show (n : Int) = L 0 0 b by omega] at start
        exact start
    -- the class
    have loop : ∀ (m k : Nat) (z : uS), k + m = n → z.2 = u.2 → fr1 cpP u z → (∀ j : Nat, j < k → ∃ h, LA M L H h 0 0 b j (z.1 5 j)) → K_187 (d + 7) 30 [.ref 0, iV (n : Int), iV (k : Int)] [] z Q := by
      intro m
      induction m with
      | zero =>
        intro k z hkm z2 zf zj
        refine k_187_30 ⟨⟨by omega, by omega⟩, ⟨by omega, by omega⟩, ?_⟩
        rw [if_neg (by omega)]
        intro y ey o eo
        have ob : ∀ c, c ≠ 0 → c ≠ 36 → o.1 c = z.1 c := fun c q1 q2 => by rw [eo, wr_ne q2, ey, wr_ne q1]
        have o0 : o.1 0 = uf (z.1 0) 2 n := by rw [eo, wr_ne (by decide), ey, wr_uf]
        have o36 : o.1 36 = uf (z.1 36) 16 0 := by rw [eo, wr_uf, ey, wr_ne (by decide)]
        refine ref o (by rw [eo, wr_2, ey, wr_2]; exact z2) (fun c j hc => ?_) (by rw [o0, uf_eq]) (by rw [o36, uf_eq]) (fun k' hk' => by rw [ob 5 (by decide) (by decide)]; exact zj k' (by omega))
        by_cases e0 : c = 0
        · rw [e0, o0, uf_ne (fun h => hc (by unfold cpP; omega)), zf 0 j (by rw [← e0]; exact hc)]
        · by_cases e36 : c = 36
          · rw [e36, o36, uf_ne (fun h => hc (by unfold cpP; omega)), zf 36 j (by rw [← e36]; exact hc)]
          · rw [ob c e0 e36]; exact zf c j hc
      | succ m ih =>
        intro k z hkm z2 zf zj
        obtain ⟨zW, zb, z73, z74, z34⟩ := wt z zf
        refine k_187_30 ⟨⟨by omega, by omega⟩, ⟨by omega, by omega⟩, ?_⟩
        rw [if_pos (by omega)]
        refine cI.mono (q_181 (e := d + 1) (i := (k : Int)) hM hS zW hT0 zb (by omega) (by omega)) (Nat.le_refl _) (fun a y ⟨⟨h, hla⟩, yF⟩ => ⟨by omega, by omega, fun o eo => ?_⟩)
        have o5 : o.1 5 = uf (z.1 5) (k : Int) a := by rw [eo, wr_uf, yF.2.1 5 (by decide)]
        have := ih (k + 1) o (by omega) (by rw [eo, wr_2]; exact yF.1.trans z2) (fun c j hc => by
          rw [eo, wr_ne (fun h => hc (by unfold cpP; omega))]
          by_cases e : c = 231
          · rw [e, yF.2.2 j (fun h => hc (by unfold cpP; omega)), zf 231 j (by rw [← e]; exact hc)]
          · rw [yF.2.1 c e]; exact zf c j hc) (fun j hj => by
          rw [o5]
          by_cases e : j = k
          · rw [e, uf_eq]; exact ⟨h, hla⟩
          · rw [uf_ne (by omega)]; exact zj j (by omega))
        rw [show ((k + 1 : Nat) : Int) = (k : Int) + 1 by omega] at this
        exact this
    refine e_187 (d := d + 5) ?_
    rw [h1, hb, v44]
    refine ⟨⟨by omega, by omega⟩, ?_⟩
    rw [if_neg (by omega), wI_eq ⟨by omega, by omega⟩, ← hn]
    exact ⟨b0, by omega, ⟨by omega, by omega⟩, loop n 0 u (by omega) rfl (fun _ _ _ => rfl) (fun j hj => by omega)⟩
