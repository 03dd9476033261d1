/-! takeWays: what the ways of a rule make better -/
def rix (r p q : Int) : Int := (40 * r + p) * 40 + q
def TRq (L H L' H' : Int → Int) (p x hh : Int) (wl hq : Int → Int) (b : Int) : Prop := ∀ j : Int, (L' j = L j ∧ H' j = H j) ∨ ∃ q, 0 ≤ q ∧ q < b ∧ j = tix p x q ∧ ((hh = 0 ∧ L' j = wl q ∧ wl q < L j ∧ H' j = H j) ∨ (hh = 1 ∧ L' j = L j ∧ wl q ≠ 6000000000000000000 ∧ wl q = L j ∧ H' j = hq q ∧ hq q ≤ 1000000 ∧ hq q < H j))
def CCq (L H L' H' : Int → Int) (p x hh : Int) (wl hq : Int → Int) (b c : Int) : Prop := (c = 0 ∧ L' = L ∧ H' = H ∧ ∀ q, 0 ≤ q → q < b → (hh = 0 → L (tix p x q) ≤ wl q) ∧ (hh = 1 → wl q ≠ 6000000000000000000 → wl q = L (tix p x q) → hq q ≤ 1000000 → H (tix p x q) ≤ hq q)) ∨ (c = 1 ∧ ∃ j : Int, 0 ≤ j ∧ j < 16000 ∧ (L' j < L j ∨ H' j < H j))
theorem TRq_0 {L H : Int → Int} {p x hh : Int} {wl hq : Int → Int} {b : Int} : TRq L H L H p x hh wl hq b := fun _ => Or.inl ⟨rfl, rfl⟩
theorem TRq_skip {L H L' H' : Int → Int} {p x hh : Int} {wl hq : Int → Int} {b : Int} (h : TRq L H L' H' p x hh wl hq b) : TRq L H L' H' p x hh wl hq (b + 1) := fun j => by
  rcases h j with z | ⟨q, q0, q1, z⟩
  · exact Or.inl z
  · exact Or.inr ⟨q, q0, by omega, z⟩
theorem TRq_at {L H L' H' : Int → Int} {p x hh : Int} {wl hq : Int → Int} {b : Int} (h : TRq L H L' H' p x hh wl hq b) : L' (tix p x b) = L (tix p x b) ∧ H' (tix p x b) = H (tix p x b) := by
  rcases h (tix p x b) with z | ⟨q, q0, q1, z, -⟩
  · exact z
  · unfold tix at z
    omega
theorem TRq_L {L H L' H' : Int → Int} {p x : Int} {wl hq : Int → Int} {b : Int} (b0 : 0 ≤ b) (h : TRq L H L' H' p x 0 wl hq b) (hlt : wl b < L (tix p x b)) : TRq L H (uf L' (tix p x b) (wl b)) H' p x 0 wl hq (b + 1) := fun j => by
  by_cases e : j = tix p x b
  · refine Or.inr ⟨b, b0, by omega, e, Or.inl ⟨rfl, ?_, ?_, ?_⟩⟩
    · rw [e, uf_eq]
    · rw [e]; exact hlt
    · rw [e]; exact (TRq_at h).2
  · rw [uf_ne e]
    exact TRq_skip h j
theorem TRq_H {L H L' H' : Int → Int} {p x : Int} {wl hq : Int → Int} {b : Int} (b0 : 0 ≤ b) (h : TRq L H L' H' p x 1 wl hq b) (h1 : wl b ≠ 6000000000000000000) (h2 : wl b = L (tix p x b)) (h3 : hq b ≤ 1000000) (h4 : hq b < H (tix p x b)) : TRq L H L' (uf H' (tix p x b) (hq b)) p x 1 wl hq (b + 1) := fun j => by
  by_cases e : j = tix p x b
  · refine Or.inr ⟨b, b0, by omega, e, Or.inr ⟨rfl, ?_, h1, ?_, ?_, h3, ?_⟩⟩
    · rw [e]; exact (TRq_at h).1
    · rw [e]; exact h2
    · rw [e, uf_eq]
    · rw [e]; exact h4
  · rw [uf_ne e]
    exact TRq_skip h j
theorem CCq_skip {L H L' H' : Int → Int} {p x hh : Int} {wl hq : Int → Int} {b c : Int} (h : CCq L H L' H' p x hh wl hq b c) (hb : (hh = 0 → L (tix p x b) ≤ wl b) ∧ (hh = 1 → wl b ≠ 6000000000000000000 → wl b = L (tix p x b) → hq b ≤ 1000000 → H (tix p x b) ≤ hq b)) : CCq L H L' H' p x hh wl hq (b + 1) c := by
  rcases h with ⟨z1, z2, z3, z4⟩ | z
  · refine Or.inl ⟨z1, z2, z3, fun q q0 q1 => ?_⟩
    by_cases e : q = b
    · rw [e]; exact hb
    · exact z4 q q0 (by omega)
  · exact Or.inr z
theorem q_275 {d nv nr n : Nat} {u : uS} {m r p hh : Int} (hG : RGc u nv nr n m) (hr0 : 0 ≤ r) (hr1 : r < nr) (hp : iR n p) (hL : okL (u.1 324) (u.1 325)) (h01 : hh = 0 ∨ hh = 1) (hW : ∀ q, iR n q → lR (u.1 328 (40 * u.1 276 r + q)) ∧ hR (u.1 329 (40 * u.1 276 r + q)) ∧ hR (u.1 330 (40 * u.1 276 r + q))) (wl hq : Int → Int) (ewl : ∀ q, wl q = u.1 328 (40 * u.1 276 r + q)) (ehq : ∀ q, hq q = (if wl q = 4000000000000000000 then u.1 330 (40 * u.1 276 r + q) else u.1 329 (40 * u.1 276 r + q)) + 1) : cI (d + 2) 275 [.ref 271, iV r, iV p, iV n, iV hh] u (fun c u' => u'.2 = u.2 ∧ sb1 u u' [324, 325, 326, 327] ∧ (∀ q, iR n q → u'.1 326 (rix r p q) = wl q ∧ u'.1 327 (rix r p q) = hq q) ∧ (∀ j, (∀ q, iR n q → j ≠ rix r p q) → u'.1 326 j = u.1 326 j ∧ u'.1 327 j = u.1 327 j) ∧ TRq (u.1 324) (u.1 325) (u'.1 324) (u'.1 325) p (u.1 275 r) hh wl hq n ∧ CCq (u.1 324) (u.1 325) (u'.1 324) (u'.1 325) p (u.1 275 r) hh wl hq n c) := by
  obtain ⟨g1, g2, g3, g4, g5, g6, g7, g8, g9⟩ := id hG
  obtain ⟨x1, x2, x3, x4⟩ := g4 r hr0 hr1
  obtain ⟨p0, p1⟩ := id hp
  obtain ⟨y0, y1⟩ := id x1
  generalize hx : u.1 275 r = x at x1 y0 y1
  generalize hsz : u.1 276 r = sz at *
  have loop : ∀ (k : Nat) (q c : Int) (v : uS), 0 ≤ q → q + k = n → v.2 = u.2 → sb1 u v [324, 325, 326, 327] → (∀ q', 0 ≤ q' → q' < q → v.1 326 (rix r p q') = wl q' ∧ v.1 327 (rix r p q') = hq q') → (∀ j, (∀ q', 0 ≤ q' → q' < q → j ≠ rix r p q') → v.1 326 j = u.1 326 j ∧ v.1 327 j = u.1 327 j) → TRq (u.1 324) (u.1 325) (v.1 324) (v.1 325) p x hh wl hq q → CCq (u.1 324) (u.1 325) (v.1 324) (v.1 325) p x hh wl hq q c → K_275 (d + 1) 17 [.ref 271, iV r, iV p, iV n, iV hh, iV c, iV (40 * sz), iV q, .retAddr 0, .retAddr 0, .retAddr 0] [] v (fun c u' => u'.2 = u.2 ∧ sb1 u u' [324, 325, 326, 327] ∧ (∀ q, iR n q → u'.1 326 (rix r p q) = wl q ∧ u'.1 327 (rix r p q) = hq q) ∧ (∀ j, (∀ q, iR n q → j ≠ rix r p q) → u'.1 326 j = u.1 326 j ∧ u'.1 327 j = u.1 327 j) ∧ TRq (u.1 324) (u.1 325) (u'.1 324) (u'.1 325) p x hh wl hq n ∧ CCq (u.1 324) (u.1 325) (u'.1 324) (u'.1 325) p x hh wl hq n c) := by
    intro k
    induction k with
    | zero =>
      intro q c v hq0 hqe h2 hs ht1 ht2 hT hC
      have e : q = n := by omega
      rw [e] at ht1 ht2 hT hC ⊢
      refine k_275_17 (d := d) ⟨⟨by omega, by omega⟩, ⟨by omega, by omega⟩, ?_⟩
      rw [if_neg (by omega)]
      refine ⟨?_, h2, hs, fun q hq => ht1 q hq.1 hq.2, fun j hj => ht2 j (fun q' a b => hj q' ⟨a, b⟩), hT, hC⟩
      rcases hC with z | z
      · exact Or.inl z.1
      · exact Or.inr z.1
    | succ k ih =>
      intro q c v hq0 hqe h2 hs ht1 ht2 hT hC
      have hqR : iR n q := ⟨hq0, by omega⟩
      obtain ⟨w1, w2, w3⟩ := hW q hqR
      have v28 : v.1 328 = u.1 328 := hs _ (by simp)
      have v29 : v.1 329 = u.1 329 := hs _ (by simp)
      have v30 : v.1 330 = u.1 330 := hs _ (by simp)
      have v75 : v.1 275 = u.1 275 := hs _ (by simp)
      have htR := tix_R (o := p) (x := x) (q := q) ⟨p0, by omega⟩ ⟨y0, by omega⟩ ⟨hq0, by omega⟩
      obtain ⟨t1, t2⟩ := hL _ htR.1 htR.2
      obtain ⟨a1, a2⟩ := TRq_at hT
      have hwr : lR (wl q) := by rw [ewl]; exact w1
      have hhq : 1 ≤ hq q ∧ hq q ≤ 1000001 := by
        unfold hR at w2 w3
        rw [ehq]
        split <;> omega
      refine k_275_17 (d := d) ⟨⟨by omega, by omega⟩, ⟨by omega, by omega⟩, ?_⟩
      rw [if_pos (by omega), v28, ← ewl]
      refine ⟨by omega, by omega, lR_L hwr, ?_⟩
      have mid : ∀ s0 : Int, s0 + 1 = hq q → K_275 (d + 1) 77 [.ref 271, iV r, iV p, iV n, iV hh, iV c, iV (40 * sz), iV q, iV (rix r p q), .retAddr 0, .retAddr 0] [iV s0] v (fun c u' => u'.2 = u.2 ∧ sb1 u u' [324, 325, 326, 327] ∧ (∀ q, iR n q → u'.1 326 (rix r p q) = wl q ∧ u'.1 327 (rix r p q) = hq q) ∧ (∀ j, (∀ q, iR n q → j ≠ rix r p q) → u'.1 326 j = u.1 326 j ∧ u'.1 327 j = u.1 327 j) ∧ TRq (u.1 324) (u.1 325) (u'.1 324) (u'.1 325) p x hh wl hq n ∧ CCq (u.1 324) (u.1 325) (u'.1 324) (u'.1 325) p x hh wl hq n c) := by
        intro s0 es
        refine k_275_77 (d := d) ⟨by omega, by omega, by unfold rix; omega, by unfold rix; omega, ?_⟩
        rw [v28, ← ewl, es]
        intro u5 e5 u7 e7
        have b24 : u7.1 324 = v.1 324 := by rw [e7, wr_ne (by omega), e5, wr_ne (by omega)]
        have b25 : u7.1 325 = v.1 325 := by rw [e7, wr_ne (by omega), e5, wr_ne (by omega)]
        have b28 : u7.1 328 = u.1 328 := by rw [e7, wr_ne (by omega), e5, wr_ne (by omega), v28]
        have b75 : u7.1 275 = u.1 275 := by rw [e7, wr_ne (by omega), e5, wr_ne (by omega), v75]
        have b26 : u7.1 326 = uf (v.1 326) (rix r p q) (wl q) := by rw [e7, wr_ne (by omega), e5, wr_uf]
        have b27 : u7.1 327 = uf (v.1 327) (rix r p q) (hq q) := by rw [e7, wr_uf, e5, wr_ne (by omega)]
        have b2 : u7.2 = u.2 := by rw [e7, wr_2, e5, wr_2, h2]
        have bs : sb1 u u7 [324, 325, 326, 327] := by
          rw [e7]
          refine sb1_wr ?_ (by simp)
          rw [e5]
          exact sb1_wr hs (by simp)
        -- the next state
        have go : ∀ (w : uS) (c' : Int), w.2 = u.2 → sb1 u w [324, 325, 326, 327] → w.1 326 = u7.1 326 → w.1 327 = u7.1 327 → TRq (u.1 324) (u.1 325) (w.1 324) (w.1 325) p x hh wl hq (q + 1) → CCq (u.1 324) (u.1 325) (w.1 324) (w.1 325) p x hh wl hq (q + 1) c' → K_275 (d + 1) 17 [.ref 271, iV r, iV p, iV n, iV hh, iV c', iV (40 * sz), iV (q + 1), .retAddr 0, .retAddr 0, .retAddr 0] [] w (fun c u' => u'.2 = u.2 ∧ sb1 u u' [324, 325, 326, 327] ∧ (∀ q, iR n q → u'.1 326 (rix r p q) = wl q ∧ u'.1 327 (rix r p q) = hq q) ∧ (∀ j, (∀ q, iR n q → j ≠ rix r p q) → u'.1 326 j = u.1 326 j ∧ u'.1 327 j = u.1 327 j) ∧ TRq (u.1 324) (u.1 325) (u'.1 324) (u'.1 325) p x hh wl hq n ∧ CCq (u.1 324) (u.1 325) (u'.1 324) (u'.1 325) p x hh wl hq n c) := by
          intro w c' z1 z2 z3 z4 z5 z6
          refine ih (q + 1) c' w (by omega) (by omega) z1 z2 (fun q' a b => ?_) (fun j hj => ?_) z5 z6
          · rw [z3, z4, b26, b27]
            by_cases e : q' = q
            · rw [e, uf_eq, uf_eq]
              exact ⟨rfl, rfl⟩
            · have : rix r p q' ≠ rix r p q := by unfold rix; omega
              rw [uf_ne this, uf_ne this]
              exact ht1 q' a (by omega)
          · rw [z3, z4, b26, b27, uf_ne (hj q hq0 (by omega)), uf_ne (hj q hq0 (by omega))]
            exact ht2 j (fun q' a b => hj q' a (by omega))
        refine ⟨hr0, by omega, by rcases h01 with z | z <;> rw [z] <;> decide, ?_⟩
        rw [b75, hx, b28, ← ewl, b24]
        rw [show (10 * p + x) * 40 + q = tix p x q from rfl, a1]
        rcases h01 with z | z
        · rw [if_pos z]
          refine ⟨htR.1, htR.2, lR_L hwr, lR_L t1, ?_⟩
          by_cases hlt : wl q < u.1 324 (tix p x q)
          · rw [if_pos hlt]
            intro w e
            refine k_275_167 (d := d) ⟨by rw [z]; decide, ?_⟩
            rw [if_pos z]
            have c24 : w.1 324 = uf (v.1 324) (tix p x q) (wl q) := by rw [e, wr_uf, b24]
            have c25 : w.1 325 = v.1 325 := by rw [e, wr_ne (by omega), b25]
            refine go w 1 (by rw [e, wr_2, b2]) (by rw [e]; exact sb1_wr bs (by simp)) (by rw [e, wr_ne (by omega)]) (by rw [e, wr_ne (by omega)]) ?_ ?_
            · rw [c24, c25, z]
              rw [z] at hT
              exact TRq_L hq0 hT hlt
            · refine Or.inr ⟨rfl, tix p x q, htR.1, htR.2, Or.inl ?_⟩
              rw [c24, uf_eq]
              exact hlt
          · rw [if_neg hlt]
            refine k_275_167 (d := d) ⟨by rw [z]; decide, ?_⟩
            rw [if_pos z]
            refine go u7 c b2 bs rfl rfl ?_ ?_
            · rw [b24, b25]; exact TRq_skip hT
            · rw [b24, b25]; exact CCq_skip hC ⟨fun _ => by omega, fun k => by omega⟩
        · have zn : ¬ hh = 0 := by omega
          rw [if_neg zn]
          refine k_275_167 (d := d) ⟨by rw [z]; decide, ?_⟩
          rw [if_neg zn, b28, ← ewl, b24, a1, b25, a2]
          refine ⟨by omega, by omega, lR_L hwr, ?_⟩
          have skip : (wl q ≠ 6000000000000000000 → wl q = u.1 324 (tix p x q) → hq q ≤ 1000000 → u.1 325 (tix p x q) ≤ hq q) → K_275 (d + 1) 17 [.ref 271, iV r, iV p, iV n, iV hh, iV c, iV (40 * sz), iV (q + 1), .retAddr 0, .retAddr 0, .retAddr 0] [] u7 (fun c u' => u'.2 = u.2 ∧ sb1 u u' [324, 325, 326, 327] ∧ (∀ q, iR n q → u'.1 326 (rix r p q) = wl q ∧ u'.1 327 (rix r p q) = hq q) ∧ (∀ j, (∀ q, iR n q → j ≠ rix r p q) → u'.1 326 j = u.1 326 j ∧ u'.1 327 j = u.1 327 j) ∧ TRq (u.1 324) (u.1 325) (u'.1 324) (u'.1 325) p x hh wl hq n ∧ CCq (u.1 324) (u.1 325) (u'.1 324) (u'.1 325) p x hh wl hq n c) := by
            intro hk
            refine go u7 c b2 bs rfl rfl ?_ ?_
            · rw [b24, b25]; exact TRq_skip hT
            · rw [b24, b25]; exact CCq_skip hC ⟨fun k => absurd k zn, fun _ => hk⟩
          split
          · next f1 => exact skip (fun k => absurd f1 k)
          · next f1 =>
            refine ⟨htR.1, htR.2, lR_L t1, ?_⟩
            split
            · next f2 =>
              refine ⟨⟨by omega, by omega⟩, ?_⟩
              split
              · next f3 => exact skip (fun _ _ k => by omega)
              · next f3 =>
                refine ⟨hR_I t2, ?_⟩
                split
                · next f4 =>
                  intro w e
                  have c24 : w.1 324 = v.1 324 := by rw [e, wr_ne (by omega), b24]
                  have c25 : w.1 325 = uf (v.1 325) (tix p x q) (hq q) := by rw [e, wr_uf, b25]
                  refine go w 1 (by rw [e, wr_2, b2]) (by rw [e]; exact sb1_wr bs (by simp)) (by rw [e, wr_ne (by omega)]) (by rw [e, wr_ne (by omega)]) ?_ ?_
                  · rw [c24, c25, z]
                    rw [z] at hT
                    exact TRq_H hq0 hT f1 f2 (by omega) f4
                  · refine Or.inr ⟨rfl, tix p x q, htR.1, htR.2, Or.inr ?_⟩
                    rw [c25, uf_eq]
                    exact f4
                · next f4 => exact skip (fun _ _ _ => by omega)
            · next f2 => exact skip (fun _ k => absurd k f2)
      split
      · next hm =>
        rw [v30]
        exact mid _ (by rw [ehq, if_pos hm])
      · next hm =>
        rw [v29]
        exact mid _ (by rw [ehq, if_neg hm])
  refine e_275 (d := d) ⟨hr0, by omega, ?_⟩
  rw [hsz]
  exact loop n 0 0 u (Int.le_refl 0) (by omega) rfl (sb1_refl _ _) (fun q' a b => by omega) (fun j _ => ⟨rfl, rfl⟩) TRq_0 (Or.inl ⟨rfl, rfl, rfl, fun q a b => by omega⟩)
