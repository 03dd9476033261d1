/-! grammar: both sides alike -/
theorem tcR_cg {n : Nat} {E E' G : Int → Int → Prop} (hE : ∀ x y, E' x y ↔ E x y) (h : tcR n E G) : tcR n E' G := ⟨fun x y hx hy q => h.1 x y hx hy ((hE x y).mp q), h.2.1, fun T hT => h.2.2 T (fun x y hx hy q => hT x y hx hy ((hE x y).mpr q))⟩
theorem lfC_congr {nv nr : Nat} {hd hd' : Int → Int} {rw rw' : Int → List Int} (hg : gOK nv nr hd rw) (hh : ∀ r : Int, 0 ≤ r → r < nr → hd' r = hd r ∧ rw' r = rw r) {F us en : Int} {lw sh : Int → Int} (h : lfC nv nr hd rw F us en lw sh) : lfC nv nr hd' rw' F us en lw sh := by
  obtain ⟨h1, h2, h3, lt, L, h4, h5, h6⟩ := h
  have hb : ∀ r : Int, 0 ≤ r → r < nr → hd r = hd' r ∧ rw r = rw' r := fun r r0 r1 => ⟨(hh r r0 r1).1.symm, (hh r r0 r1).2.symm⟩
  have hi : ∀ r : Int, 0 ≤ r → r < nr → (gdF F (rw r) ↔ gdF F (rw r)) := fun _ _ _ => Iff.rfl
  have hi' : ∀ r : Int, 0 ≤ r → r < nr → (gdF F (rw' r) ↔ gdF F (rw' r)) := fun _ _ _ => Iff.rfl
  refine ⟨HF_congr hh h1, fun v hv => h2 v (GF_congr hb hv), ⟨usC_congr hh hi h3.1, h3.2.1, fun S hS => h3.2.2 S (usC_congr hb hi' hS)⟩, lt, L, ⟨fun r r0 r1 => ?_, fun S hS => h4.2 S (fun r r0 r1 => ?_)⟩, tcR_cg (fun x y => eG_congr hh hi) h5, fun x hx => ?_⟩
  · rw [(hh r r0 r1).1, (hh r r0 r1).2]
    exact h4.1 r r0 r1
  · have := hS r r0 r1
    rw [(hh r r0 r1).1, (hh r r0 r1).2] at this
    exact this
  · rw [h6 x hx]
    have hgg : ∀ p y, gG nr hd' rw' (gdF F) lt p y ↔ gG nr hd rw (gdF F) lt p y := fun p y => gG_congr hg hh hi (fun _ _ => Iff.rfl)
    constructor
    · rintro ⟨p, a1, a2, y, a3, a4, a5⟩
      exact ⟨p, a1, a2, y, a3, (hgg p y).mpr a4, a5⟩
    · rintro ⟨p, a1, a2, y, a3, a4, a5⟩
      exact ⟨p, a1, a2, y, a3, (hgg p y).mp a4, a5⟩
abbrev gfP (b : Nat) (j : Int) : Prop := b ∈ [1, 3, 4, 15, 16, 17, 18, 19, 24, 25, 26, 278, 279, 280, 281, 282] ∨ (b = 271 ∧ (j = 1 ∨ j = 4 ∨ j = 12 ∨ j = 13 ∨ j = 19))
abbrev gsP (b : Nat) (j : Int) : Prop := b ∈ [1, 3, 4, 6, 7, 8, 9, 10, 11, 12, 13, 14, 15, 16, 17, 18, 19, 24, 25, 26, 274, 275, 276, 277, 278, 279, 280, 281, 282, 283, 284, 285, 286, 287, 288, 289, 290, 291] ∨ (b = 271 ∧ (j = 1 ∨ j = 4 ∨ j = 5 ∨ j = 6 ∨ j = 11 ∨ j = 12 ∨ j = 13 ∨ j = 19)) ∨ (b = 36 ∧ (j = 16 ∨ j = 17)) ∨ (b = 193 ∧ j = 0) ∨ (b = 212 ∧ j = 0)
set_option maxRecDepth 4000 in
theorem st_grammar {d : Nat} {u : uS} (hS : invS u) : cI (d + 9) 27 [.ref 0] u (fun r u1 => cI (d + 9) 206 [.ref 271] u1 (fun r' u2 => r' = r ∧ invS u2 ∧ (∀ b, b ≠ 24 → u2.2 b = u.2 b) ∧ ((r < 0 ∧ fr1 gfP u u2) ∨ (0 < r ∧ invG u2 ∧ invL u2 ∧ fr1 gsP u u2 ∧ u2.1 36 16 = 0 ∧ u2.1 36 17 = 0 ∧ u2.1 193 0 = 0 ∧ u2.1 212 0 = 0)))) := by
  obtain ⟨n, hn, s1, s2, s3⟩ := hS
  have hcg : ∀ j : Nat, j < n → u.1 272 j = u.1 2 j := fun j hj => (s3 j hj).1
  have hcg' : ∀ j : Nat, j < n → u.1 2 j = u.1 272 j := fun j hj => (s3 j hj).1.symm
  have hrI : ∀ j : Nat, j < n → rI (u.1 2 j) := fun j hj => by have := (s3 j hj).2; exact ⟨by omega, by omega⟩
  have hr : ∀ j : Nat, j < n → 32 ≤ u.1 272 j ∧ u.1 272 j ≤ 126 := fun j hj => by rw [hcg j hj]; exact (s3 j hj).2
  refine e_27 (d := d + 7) (cV.mono (c_18 (d := d + 7) hn s1 hrI) (Nat.le_refl _) (fun u1 h1 => ?_))
  obtain ⟨t1, t2, t3⟩ := h1
  refine cI.mono (q_28 (d := d + 2) hn hrI t1) (Nat.le_refl _) (fun x u2 h2 => ?_)
  obtain ⟨⟨f1, f2⟩, hres⟩ := h2
  have w271 : u2.1 271 = u.1 271 := by rw [f1 271 (by decide), t3.2 271 (by decide)]
  have w272 : u2.1 272 = u.1 272 := by rw [f1 272 (by decide), t3.2 272 (by decide)]
  have w14 : u2.1 1 4 = 0 := by rw [f1 1 (by decide)]; exact t2
  have wref : ∀ b, b ≠ 24 → u2.2 b = u.2 b := fun b hb => by rw [f2 b hb, t3.1]
  -- a fault: the same for both
  have fault : ∀ p : Int, 0 ≤ p → p ≤ 300 → x = p → (∀ (j : Nat), flt (u.1 272) n j → (j : Int) = p) → (∀ (s : rS) (p' : Int), gdE (u.1 272) n s → udf s p' → p' = p) → (∀ (s : rS), gdE (u.1 272) n s → (∀ r d, ¬ ud s r d) → False) → (rI x) ∧ (if x = (-1) then (cV (d + 8) 43 [.ref 6, .ref 15] u2 (fun u6 => cV (d + 8) 44 [.ref 6] u6 (fun u7 => ∀ u8 : uS, u8 = wr u7 36 16 0 → (∀ u10 : uS, u10 = wr u8 36 17 0 → (∀ u12 : uS, u12 = wr u10 193 0 0 → (∀ u14 : uS, u14 = wr u12 212 0 0 → (cI (d + 9) 206 [.ref 271] u14 (fun r' u2 => r' = u14.1 6 1 ∧ invS u2 ∧ (∀ b, b ≠ 24 → u2.2 b = u.2 b) ∧ ((u14.1 6 1 < 0 ∧ fr1 gfP u u2) ∨ (0 < u14.1 6 1 ∧ invG u2 ∧ invL u2 ∧ fr1 gsP u u2 ∧ u2.1 36 16 = 0 ∧ u2.1 36 17 = 0 ∧ u2.1 193 0 = 0 ∧ u2.1 212 0 = 0))))))))) ) else (cI (d + 9) 206 [.ref 271] u2 (fun r' u2 => r' = (-2) - x ∧ invS u2 ∧ (∀ b, b ≠ 24 → u2.2 b = u.2 b) ∧ (((-2) - x < 0 ∧ fr1 gfP u u2) ∨ (0 < (-2) - x ∧ invG u2 ∧ invL u2 ∧ fr1 gsP u u2 ∧ u2.1 36 16 = 0 ∧ u2.1 36 17 = 0 ∧ u2.1 193 0 = 0 ∧ u2.1 212 0 = 0))))) := by
    intro p p0 p1 ex hj hu hg
    refine ⟨⟨by omega, by omega⟩, ?_⟩
    rw [if_neg (by omega)]
    have post : ∀ (v' : uS), Uf u2 v' → (∀ i : Int, i ≠ 1 → i ≠ 4 → i ≠ 12 → i ≠ 13 → i ≠ 19 → v'.1 271 i = u2.1 271 i) → sb1 u2 v' gvL → v'.1 271 1 = 0 → (invS v' ∧ (∀ b, b ≠ 24 → v'.2 b = u.2 b) ∧ (((-2) - x < 0 ∧ fr1 gfP u v') ∨ (0 < (-2) - x ∧ invG v' ∧ invL v' ∧ fr1 gsP u v' ∧ v'.1 36 16 = 0 ∧ v'.1 36 17 = 0 ∧ v'.1 193 0 = 0 ∧ v'.1 212 0 = 0))) := by
      intro v' hU h271 hsb h1
      refine ⟨⟨0, by omega, ?_, h1, fun j hj => by omega⟩, fun b hb => ?_, Or.inl ⟨by omega, fun b j hb => ?_⟩⟩
      · rw [hsb 1 (by decide)]; exact w14
      · rw [hU.2.1]; exact wref b hb
      · by_cases e : b = 271
        · rw [e] at hb ⊢
          rw [h271 j (fun q => hb (Or.inr ⟨rfl, by omega⟩)) (fun q => hb (Or.inr ⟨rfl, by omega⟩)) (fun q => hb (Or.inr ⟨rfl, by omega⟩)) (fun q => hb (Or.inr ⟨rfl, by omega⟩)) (fun q => hb (Or.inr ⟨rfl, by omega⟩)), w271]
        · have hb1 : b ∉ [1, 3, 4, 15, 16, 17, 18, 19, 24, 25, 26, 278, 279, 280, 281, 282] := fun q => hb (Or.inl q)
          simp only [List.mem_cons, List.not_mem_nil, or_false, not_or] at hb1
          rw [hsb b (by
            simp only [List.mem_cons, List.not_mem_nil, or_false, not_or]
            omega), f1 b (by
            simp only [List.mem_cons, List.not_mem_nil, or_false, not_or]
            omega), t3.2 b (by
            simp only [List.mem_cons, List.not_mem_nil, or_false, not_or]
            omega)]
    refine q_206 (d := d + 4) (f := u.1 272) hn hr (by rw [w271]; exact s2) w272 (fun j v' a b c e g => ?_) (fun s p' v' a b c e g k l m => ?_) (fun s v' a b _ _ => absurd (hg s a b) id)
    · exact ⟨by rw [hj j a, ex], post v' b c e g⟩
    · exact ⟨by rw [hu s p' a b, ex], post v' g k l m⟩
  rcases hres with ⟨j, hj, ex⟩ | ⟨s, hgd, hres⟩
  · have hle := flt_le hj
    refine fault j (by omega) (by omega) ex (fun j' hj' => ?_) (fun s p' a b => ?_) (fun s a b => ?_)
    · rw [flt_eq hj (flt_congr hcg hj')]
    · exact absurd (flt_gd hj (gdE_congr hcg a)) id
    · exact flt_gd hj (gdE_congr hcg a)
  · rcases hres with ⟨p0, p1, p2⟩ | ⟨ex, hno, hGC⟩
    · refine fault x p0 (by omega) rfl (fun j' hj' => ?_) (fun s' p' a b => ?_) (fun s' a b => ?_)
      · exact absurd (flt_gd (flt_congr hcg hj') hgd) id
      · rw [gdE_eq hgd (gdE_congr hcg a)] at b
        exact udf_eq p2 b
      · rw [gdE_eq hgd (gdE_congr hcg a)] at b
        obtain ⟨⟨r, d', c1, -⟩, -⟩ := p2
        exact b r d' c1
    · -- all signs are taken
      have hJ := rd_J n s hgd.1
      obtain ⟨a1, a2, a3, a4, a5, a6, a7, a8, a9, a10, a11⟩ := id hJ
      obtain ⟨nv, hnv⟩ : ∃ nv : Nat, s 0 2 = nv := ⟨(s 0 2).toNat, by omega⟩
      obtain ⟨nr, hnr⟩ : ∃ nr : Nat, s 0 3 = nr := ⟨(s 0 3).toNat, by omega⟩
      have hv10 : nv ≤ 10 := by omega
      have hr30 : nr ≤ 30 := by omega
      have hnr1 : 1 ≤ nr := by
        have := a7 hgd.2.1 (by have := hgd.2.2; omega)
        omega
      rw [ex]
      refine ⟨by decide, ?_⟩
      rw [if_pos rfl]
      refine cV.mono (q_43 (d := d + 7) hJ hGC) (Nat.le_refl _) (fun u6 h6 => ?_)
      obtain ⟨c1, c2, c3, c4, c5, c6, c7⟩ := h6
      have hgR : ∀ r : Int, 0 ≤ r → r < nr → gR u6 6 r ∧ 0 ≤ u6.1 8 r ∧ u6.1 8 r < nv ∧ ∀ d', 0 ≤ d' → d' < u6.1 9 r → symR nv (u6.1 10 (r * 6 + d')) := fun r r0 r1 => by
        obtain ⟨e1, e2, e3⟩ := c7 r r0 (by omega)
        obtain ⟨b1, b2, b3, b4, b5⟩ := a10 r r0 (by omega)
        have hsy : ∀ d', 0 ≤ d' → d' < u6.1 9 r → symR nv (u6.1 10 (r * 6 + d')) := fun d' d0 d1 => by
          rw [e2] at d1
          exact fnS_symR hJ hnv (b5 d' d0 d1).1 (e3 d' d0 d1)
        refine ⟨⟨r0, by omega, ?_, ?_, fun d' d0 d1 => ?_⟩, by rw [e1]; exact b1, by rw [e1]; omega, hsy⟩
        · show 0 ≤ u6.1 9 r
          omega
        · show u6.1 9 r ≤ 6
          omega
        · have := hsy d' d0 d1
          unfold symR at this
          show 0 ≤ u6.1 10 (r * 6 + d') ∧ u6.1 10 (r * 6 + d') < 110
          omega
      have hgA : gA u6 6 nv nr := ⟨hv10, hr30, by rw [c4]; exact hnv, by rw [c5]; exact hnr, fun r r0 r1 => ⟨(hgR r r0 r1).1, (hgR r r0 r1).2.1, (hgR r r0 r1).2.2.1⟩⟩
      have hgK : gOK nv nr (u6.1 8) (row u6 6) := fun r r0 r1 => ⟨(hgR r r0 r1).2.1, (hgR r r0 r1).2.2.1, by
        refine rowF_mem _ _ (fun k k0 k1 => ?_)
        have h9 := (hgR r r0 r1).1.2.2.1
        exact (hgR r r0 r1).2.2.2 k k0 (by
          show k < u6.1 9 r
          have h9 : 0 ≤ u6.1 9 r := h9
          have k1 : k < 0 + ((u6.1 9 r).toNat : Int) := k1
          omega)⟩
      refine cV.mono (q_44 (d := d + 2) sx_6 hgA hgK) (Nat.le_refl _) (fun u7 h7 => ?_)
      obtain ⟨l1, l2, l3, l4⟩ := h7
      intro u8 e8 u10 e10 u12 e12 u14 e14
      have k14 : ∀ b, b ≠ 36 → b ≠ 193 → b ≠ 212 → u14.1 b = u7.1 b := fun b b1 b2 b3 => by rw [e14, wr_ne b3, e12, wr_ne b2, e10, wr_ne b1, e8, wr_ne b1]
      have k2 : u14.2 = u7.2 := by rw [e14, e12, e10, e8]; rfl
      have k61 : u14.1 6 1 = nr := by rw [k14 6 (by decide) (by decide) (by decide), l3 1 (by decide) (by decide) (by decide), c5]; exact hnr
      have v271 : u14.1 271 = u.1 271 := by rw [k14 271 (by decide) (by decide) (by decide), l1 271 (by decide), c1 271 (by decide)]; exact w271
      have v272 : u14.1 272 = u.1 272 := by rw [k14 272 (by decide) (by decide) (by decide), l1 272 (by decide), c1 272 (by decide)]; exact w272
      refine q_206 (d := d + 4) (f := u.1 272) hn hr (by rw [v271]; exact s2) v272 (fun j v' a _ _ _ _ => absurd (flt_gd (flt_congr hcg a) hgd) id) (fun s' p' v' a b _ _ _ _ _ _ => ?_) (fun s' v' a b hU hGR => ?_)
      · rw [gdE_eq hgd (gdE_congr hcg a)] at b
        obtain ⟨⟨r, d', z1, -⟩, -⟩ := b
        exact absurd z1 (hno r d')
      · rw [gdE_eq hgd (gdE_congr hcg a)] at hGR
        obtain ⟨r5, r6, r11, r1', rn, rr⟩ := hGR
        -- the rows are the same
        have hh : ∀ r : Int, 0 ≤ r → r < nr → v'.1 275 r = u6.1 8 r ∧ v'.1 276 r = u6.1 9 r ∧ (∀ d', 0 ≤ d' → d' < u6.1 9 r → v'.1 277 (6 * r + d') = u6.1 10 (r * 6 + d')) ∧ rowM v' r = row u6 6 r := fun r r0 r1 => by
          obtain ⟨e1, e2, e3⟩ := c7 r r0 (by omega)
          obtain ⟨y1, y2, y3⟩ := rr r r0 (by omega)
          have hs : ∀ d', 0 ≤ d' → d' < u6.1 9 r → v'.1 277 (6 * r + d') = u6.1 10 (r * 6 + d') := fun d' d0 d1 => by
            rw [e2] at d1
            exact fnS_eq hJ (e3 d' d0 d1) (y3 d' d0 d1)
          have h276 : v'.1 276 r = u6.1 9 r := y2.trans e2.symm
          refine ⟨y1.trans e1.symm, h276, hs, ?_⟩
          have h9 := (hgR r r0 r1).1.2.2.1
          show rowF (fun d => v'.1 277 (6 * r + d)) (v'.1 276 r).toNat 0 = rowF (fun d => u6.1 10 (r * 6 + d)) (u6.1 9 r).toNat 0
          rw [h276]
          refine rowF_congr _ _ (fun k k0 k1 => hs k k0 ?_)
          have h9 : 0 ≤ u6.1 9 r := h9
          omega
        have hh2 : ∀ r : Int, 0 ≤ r → r < nr → v'.1 275 r = u6.1 8 r ∧ rowM v' r = row u6 6 r := fun r r0 r1 => ⟨(hh r r0 r1).1, (hh r r0 r1).2.2.2⟩
        have hgK' : gOK nv nr (v'.1 275) (rowM v') := fun r r0 r1 => by
          rw [(hh2 r r0 r1).1, (hh2 r r0 r1).2]
          exact hgK r r0 r1
        have hM : ∀ r : Int, 0 ≤ r → r < nr → gM v' r := fun r r0 r1 => by
          obtain ⟨g0, g1, g2, g3, g4⟩ := (hgR r r0 r1).1
          have e276 := (hh r r0 r1).2.1
          refine ⟨g0, g1, by rw [e276]; exact g2, by rw [e276]; exact g3, fun d' d0 d1 => ?_⟩
          rw [e276] at d1
          rw [(hh r r0 r1).2.2.1 d' d0 d1]
          exact g4 d' d0 d1
        have l5 := lfC_congr hgK hh2 l4
        obtain ⟨m1, m2, m3, lt, L, m4, m5, m6⟩ := id l5
        have hltC : ltC nr (v'.1 275) (rowM v') (u7.1 12) lt := fun r r0 r1 hvv => m4.1 r r0 r1 (fun s hs h2 => by
          have hy := gOK_v hgK' r0 r1 hs h2
          exact ((m1.1 _ hy.1 hy.2).2.2).mpr (hvv s hs h2))
        refine cV.mono (q_214 (d := d + 5) hv10 hr30 (by rw [r6]; exact hnr) hM hgK' m1 hltC) (Nat.le_refl _) (fun w hw => ?_)
        obtain ⟨w1, w2, w3⟩ := hw
        have hkn := lrn_eq hv10 hgK' m1 m2 m3 m4 m5 m6 w3
        have hGFv := w3.1.2.1
        -- places below are as one side left them
        have low : ∀ b, b < 271 → w.1 b = u14.1 b := fun b hb => by
          rw [w1 b (by
            simp only [List.mem_cons, List.not_mem_nil, or_false, not_or]
            omega), hU.1 b (by
            simp only [List.mem_cons, List.not_mem_nil, or_false, not_or]
            omega)]
        have low7 : ∀ b, b < 271 → b ≠ 36 → b ≠ 193 → b ≠ 212 → w.1 b = u7.1 b := fun b hb b1 b2 b3 => by rw [low b hb, k14 b b1 b2 b3]
        have low6 : ∀ b, b < 271 → b ≠ 36 → b ≠ 193 → b ≠ 212 → b ∉ [6, 11, 12, 13, 14] → w.1 b = u6.1 b := fun b hb b1 b2 b3 b4 => by rw [low7 b hb b1 b2 b3]; exact l1 b b4
        have g60 : w.1 6 0 = nv := by rw [low7 6 (by decide) (by decide) (by decide) (by decide), l3 0 (by decide) (by decide) (by decide), c4]; exact hnv
        have g61 : w.1 6 1 = nr := by rw [low 6 (by decide)]; exact k61
        have g8 : w.1 8 = u6.1 8 := low6 8 (by decide) (by decide) (by decide) (by decide) (by decide)
        have g9 : w.1 9 = u6.1 9 := low6 9 (by decide) (by decide) (by decide) (by decide) (by decide)
        have g10 : w.1 10 = u6.1 10 := low6 10 (by decide) (by decide) (by decide) (by decide) (by decide)
        have g7 : w.1 7 = u6.1 7 := low6 7 (by decide) (by decide) (by decide) (by decide) (by decide)
        have g6 : w.1 6 = u7.1 6 := low7 6 (by decide) (by decide) (by decide) (by decide)
        have g11 : w.1 11 = u7.1 11 := low7 11 (by decide) (by decide) (by decide) (by decide)
        have g12 : w.1 12 = u7.1 12 := low7 12 (by decide) (by decide) (by decide) (by decide)
        have grow : row w 6 = row u6 6 := row_of g9 g10
        have z271 : w.1 271 = v'.1 271 := w1 271 (by decide)
        have zz : ∀ b, b ∈ [274, 275, 276, 277] → w.1 b = v'.1 b := fun b hb => w1 b (by
          simp only [List.mem_cons, List.not_mem_nil, or_false, not_or] at hb ⊢
          omega)
        rw [z271, r6]
        refine ⟨by rw [k61]; exact hnr, ⟨0, by omega, ?_, by rw [z271]; exact r1', fun j hj => by omega⟩, fun b hb => ?_, Or.inr ⟨by omega, ?_, ?_, fun b j hb => ?_, ?_, ?_, ?_, ?_⟩⟩
        · rw [low6 1 (by decide) (by decide) (by decide) (by decide) (by decide), c1 1 (by decide)]
          exact w14
        · rw [w2, hU.2.1, k2, l2, c2]
          exact wref b hb
        · refine ⟨nv, nr, hv10, hr30, g60, by rw [z271, r5]; exact hnv, g61, by rw [z271, r6]; exact hnr, by rw [z271, r11, if_neg (by omega)], fun y y0 y1 => ?_, fun r r0 r1 => ?_⟩
          · rw [zz 274 (by decide), g7, rn y y0 (by omega), c6 y y0 (by omega)]
          · rw [zz 275 (by decide), zz 276 (by decide), zz 277 (by decide), g8, g9, g10]
            obtain ⟨y1, y2, y3, -⟩ := hh r r0 r1
            obtain ⟨q1, q2, q3, q4⟩ := hgR r r0 r1
            exact ⟨y1, y2, q2, q3, q1.2.2.1, q1.2.2.2.1, fun d' d0 d1 => ⟨y3 d' d0 d1, q4 d' d0 d1⟩⟩
        · refine ⟨nv, nr, g60, g61, fun y hy => ⟨?_, ?_, ?_⟩, ?_, ?_⟩
          · rw [g7, c6 y hy.1 (by have := hy.2; omega)]
            exact (a8 y hy.1 (by have := hy.2; omega)).1
          · rw [g7, c6 y hy.1 (by have := hy.2; omega)]
            exact (a8 y hy.1 (by have := hy.2; omega)).2
          · rw [g6, g11, g12]
            exact hkn y hy
          · rw [g8, grow, g6, g12]
            exact l4.1
          · rw [g8, grow, g11]
            have hgf : GF nv nr (u6.1 8) (row u6 6) (vN w) := GF_congr (fun r r0 r1 => ⟨(hh2 r r0 r1).1.symm, (hh2 r r0 r1).2.symm⟩) hGFv
            exact GF_ext hgK (fun y hy => m2 _ hGFv y hy) hgf
        · -- what is not named is as it was
          have hb1 : b ∉ [1, 3, 4, 6, 7, 8, 9, 10, 11, 12, 13, 14, 15, 16, 17, 18, 19, 24, 25, 26, 274, 275, 276, 277, 278, 279, 280, 281, 282, 283, 284, 285, 286, 287, 288, 289, 290, 291] := fun q => hb (Or.inl q)
          simp only [List.mem_cons, List.not_mem_nil, or_false, not_or] at hb1
          by_cases e : b = 271
          · rw [e] at hb ⊢
            rw [z271, hU.2.2 j (fun q => hb (Or.inr (Or.inl ⟨rfl, by omega⟩))) (fun q => hb (Or.inr (Or.inl ⟨rfl, by omega⟩))) (fun q => hb (Or.inr (Or.inl ⟨rfl, by omega⟩))) (fun q => hb (Or.inr (Or.inl ⟨rfl, by omega⟩))) (fun q => hb (Or.inr (Or.inl ⟨rfl, by omega⟩))) (fun q => hb (Or.inr (Or.inl ⟨rfl, by omega⟩))) (fun q => hb (Or.inr (Or.inl ⟨rfl, by omega⟩))) (fun q => hb (Or.inr (Or.inl ⟨rfl, by omega⟩))), v271]
          · have hw : w.1 b = u14.1 b := by
              rw [w1 b (by
                simp only [List.mem_cons, List.not_mem_nil, or_false, not_or]
                omega), hU.1 b (by
                simp only [List.mem_cons, List.not_mem_nil, or_false, not_or]
                omega)]
            have h7 : u7.1 b = u.1 b := by
              rw [l1 b (by
                simp only [List.mem_cons, List.not_mem_nil, or_false, not_or]
                omega), c1 b (by
                simp only [List.mem_cons, List.not_mem_nil, or_false, not_or]
                omega), f1 b (by
                simp only [List.mem_cons, List.not_mem_nil, or_false, not_or]
                omega), t3.2 b (by
                simp only [List.mem_cons, List.not_mem_nil, or_false, not_or]
                omega)]
            have h14 : u14.1 b j = u7.1 b j := by
              rw [e14, wr_1, if_neg (fun q => hb (Or.inr (Or.inr (Or.inr (Or.inr q))))), e12, wr_1, if_neg (fun q => hb (Or.inr (Or.inr (Or.inr (Or.inl q))))), e10, wr_1, if_neg (fun q => hb (Or.inr (Or.inr (Or.inl ⟨q.1, Or.inr q.2⟩)))), e8, wr_1, if_neg (fun q => hb (Or.inr (Or.inr (Or.inl ⟨q.1, Or.inl q.2⟩))))]
            rw [hw, h14, h7]
        · rw [low 36 (by decide), e14, wr_ne (by decide), e12, wr_ne (by decide), e10, wr_1, if_neg (by decide), e8, wr_self]
        · rw [low 36 (by decide), e14, wr_ne (by decide), e12, wr_ne (by decide), e10, wr_self]
        · rw [low 193 (by decide), e14, wr_ne (by decide), e12, wr_self]
        · rw [low 212 (by decide), e14, wr_self]
