/-! Triples that stand in trees: the other side, one triple -/
def knw (v : uS) : Nat → Bool := fun i => decide (v.1 340 (i : Int) ≠ 0)
def sbR (u : uS) (n : Nat) (m r p q y a b : Int) : Prop := ∃ k : Nat, (k : Int) < u.1 276 r ∧ rwR u r k = 100 + y ∧ 0 ≤ y ∧ iR n a ∧ iR n b ∧ (∃ c g, wy (u.1 324) (u.1 325) (dlR u m) (rwR u r) n p k a c g) ∧ u.1 324 (tix a y b) ≠ 6000000000000000000 ∧ ∃ c g, wb (u.1 324) (u.1 325) (dlR u m) (rwR u r) n q (u.1 276 r) (u.1 276 r - k - 1).toNat b c g
def fS : List Nat := [328, 329, 330, 339, 340, 342, 343, 344]
def GS (v w : uS) (t t' : Int) : Prop := w.2 = v.2 ∧ sb1 v w fS ∧ t ≤ t' ∧ (∀ i : Int, 0 ≤ i → i < t → w.1 339 i = v.1 339 i) ∧ (∀ j : Int, v.1 340 j = 1 → w.1 340 j = 1) ∧ (∀ j : Int, 0 ≤ j → j < 16000 → w.1 340 j = 0 ∨ w.1 340 j = 1) ∧ (ct (knw w) 16000 : Int) - t' = (ct (knw v) 16000 : Int) - t ∧ (∀ j : Int, 0 ≤ j → j < 16000 → w.1 340 j = 1 → v.1 340 j = 1 ∨ ∃ i : Int, t ≤ i ∧ i < t' ∧ w.1 339 i = j) ∧ (∀ i : Int, t ≤ i → i < t' → 0 ≤ w.1 339 i ∧ w.1 339 i < 16000 ∧ w.1 340 (w.1 339 i) = 1)
theorem bst_ne {W : Int → Int → Prop} {l h lo : Int} (b : Bst W l h lo) : l ≠ 6000000000000000000 ↔ ∃ c g, W c g := by
  obtain ⟨b1, b2, b3, b4, b5, b6, b7, b8, b9⟩ := b
  constructor
  · intro h
    rcases b6 with z | ⟨g, z⟩
    · exact absurd z h
    · exact ⟨_, _, z⟩
  · rintro ⟨c, g, z⟩
    have h1 := b5 c g z
    have h2 := (b1 c g z).1.2
    omega
theorem GS_refl {v : uS} {t : Int} (h : ∀ j : Int, 0 ≤ j → j < 16000 → v.1 340 j = 0 ∨ v.1 340 j = 1) : GS v v t t := ⟨rfl, sb1_refl _ _, Int.le_refl _, fun _ _ _ => rfl, fun _ h => h, h, rfl, fun _ _ _ h => Or.inl h, fun i i0 i1 => by omega⟩
theorem GS_arr {v w w' : uS} {t t' : Int} (h : GS v w t t') (h2 : w'.2 = w.2) (hs : sb1 w w' [328, 329, 330, 342, 343, 344]) : GS v w' t t' := by
  obtain ⟨a1, a2, a3, a4, a5, a6, a7, a8, a9⟩ := h
  have e9 : w'.1 339 = w.1 339 := hs _ (by decide)
  have e0 : w'.1 340 = w.1 340 := hs _ (by decide)
  have ek : knw w' = knw w := by
    unfold knw
    rw [e0]
  refine ⟨h2.trans a1, fun b hb => (hs b (fun hh => hb ?_)).trans (a2 b hb), a3, ?_, ?_, ?_, ?_, ?_, ?_⟩
  · simp only [fS, List.mem_cons, List.not_mem_nil, or_false] at hh ⊢
    omega
  · rw [e9]; exact a4
  · rw [e0]; exact a5
  · rw [e0]; exact a6
  · rw [ek]; exact a7
  · rw [e0, e9]; exact a8
  · rw [e0, e9]; exact a9
theorem GS_push {v w w1 w2 : uS} {t t' j : Int} (h : GS v w t t') (t0 : 0 ≤ t) (j0 : 0 ≤ j) (j1 : j < 16000) (hj : w.1 340 j = 0) (e1 : w1 = wr w 340 j 1) (e2 : w2 = wr w1 339 t' j) : GS v w2 t (t' + 1) := by
  obtain ⟨a1, a2, a3, a4, a5, a6, a7, a8, a9⟩ := h
  have e9 : w2.1 339 = uf (w.1 339) t' j := by rw [e2, wr_uf, e1, wr_ne (by omega)]
  have e0 : w2.1 340 = uf (w.1 340) j 1 := by rw [e2, wr_ne (by omega), e1, wr_uf]
  have ej : ((j.toNat : Nat) : Int) = j := by omega
  have hup := ct_upd (p := knw w) (p' := knw w2) (j := j.toNat) 16000 (by omega) (fun i hi hne => by
    unfold knw
    rw [e0, uf_ne (by omega)]) (by
    unfold knw
    rw [ej, hj]
    decide) (by
    unfold knw
    rw [ej, e0, uf_eq]
    decide)
  refine ⟨by rw [e2, wr_2, e1, wr_2]; exact a1, ?_, by omega, fun i i0 i1 => ?_, fun i hi => ?_, fun i i0 i1 => ?_, by omega, fun i i0 i1 hi => ?_, fun i i0 i1 => ?_⟩
  · rw [e2]
    refine sb1_wr ?_ (by decide)
    rw [e1]
    exact sb1_wr a2 (by decide)
  · rw [e9, uf_ne (by omega)]
    exact a4 i i0 i1
  · rw [e0]
    by_cases e : i = j
    · rw [e, uf_eq]
    · rw [uf_ne e]; exact a5 i hi
  · rw [e0]
    by_cases e : i = j
    · rw [e, uf_eq]; exact Or.inr rfl
    · rw [uf_ne e]; exact a6 i i0 i1
  · by_cases e : i = j
    · exact Or.inr ⟨t', a3, by omega, by rw [e9, uf_eq, e]⟩
    · rw [e0, uf_ne e] at hi
      rcases a8 i i0 i1 hi with z | ⟨k, k0, k1, k2⟩
      · exact Or.inl z
      · exact Or.inr ⟨k, k0, by omega, by rw [e9, uf_ne (by omega)]; exact k2⟩
  · by_cases e : i = t'
    · rw [e9, e0, e, uf_eq]
      exact ⟨j0, j1, uf_eq _ _ _⟩
    · rw [e9, e0, uf_ne e]
      obtain ⟨k1, k2, k3⟩ := a9 i i0 (by omega)
      refine ⟨k1, k2, ?_⟩
      by_cases e' : w.1 339 i = j
      · rw [e', uf_eq]
      · rw [uf_ne e']; exact k3
theorem q_288 {d nv nr n : Nat} {v : uS} {m top p x q : Int} (hG : RGc v nv nr n m) (hL : okL (v.1 324) (v.1 325)) (hp : iR n p) (hx : iR nv x) (hq : iR n q) (h01 : ∀ j : Int, 0 ≤ j → j < 16000 → v.1 340 j = 0 ∨ v.1 340 j = 1) (t0 : 0 ≤ top) (t1 : top ≤ (ct (knw v) 16000 : Int)) : cI (d + 6) 288 [.ref 271, iV m, iV (tix p x q), iV top] v (fun top' w => GS v w top top' ∧ (∀ j : Int, 0 ≤ j → j < 16000 → w.1 340 j = 1 → v.1 340 j = 1 ∨ ∃ r y a b : Int, 0 ≤ r ∧ r < nr ∧ v.1 275 r = x ∧ iR nv y ∧ sbR v n m r p q y a b ∧ j = tix a y b) ∧ (∀ r y a b : Int, 0 ≤ r → r < nr → v.1 275 r = x → sbR v n m r p q y a b → w.1 340 (tix a y b) = 1)) := by
  obtain ⟨g1, g2, g3, g4, g5, g6, g7, g8, g9⟩ := id hG
  have p0 := hp.1
  have p1 := hp.2
  have x0 := hx.1
  have x1 := hx.2
  have q0 := hq.1
  have q1 := hq.2
  generalize hQQ : (fun (top' : Int) (w : uS) => GS v w top top' ∧ (∀ j : Int, 0 ≤ j → j < 16000 → w.1 340 j = 1 → v.1 340 j = 1 ∨ ∃ r y a b : Int, 0 ≤ r ∧ r < nr ∧ v.1 275 r = x ∧ iR nv y ∧ sbR v n m r p q y a b ∧ j = tix a y b) ∧ (∀ r y a b : Int, 0 ≤ r → r < nr → v.1 275 r = x → sbR v n m r p q y a b → w.1 340 (tix a y b) = 1)) = Q
  have htR := tix_R (o := p) (x := x) (q := q) ⟨p0, by omega⟩ ⟨x0, by omega⟩ ⟨q0, by omega⟩
  have td : (tix p x q).tdiv 40 = 10 * p + x := by
    rw [Int.tdiv_eq_ediv_of_nonneg htR.1]
    unfold tix
    omega
  have tm' : (tix p x q).tmod 40 = q := by
    rw [Int.tmod_eq_emod_of_nonneg htR.1]
    unfold tix
    omega
  have tdd : (10 * p + x).tdiv 10 = p := by
    rw [Int.tdiv_eq_ediv_of_nonneg (by omega)]
    omega
  have tdm : (10 * p + x).tmod 10 = x := by
    rw [Int.tmod_eq_emod_of_nonneg (by omega)]
    omega
  have hnn : (n : Int) * n ≤ 1600 := by
    have := Nat.mul_le_mul g6 g6
    have h2 : ((n * n : Nat) : Int) ≤ ((40 * 40 : Nat) : Int) := Int.ofNat_le.mpr this
    rw [Int.natCast_mul] at h2
    omega
  have hn0 : (0 : Int) ≤ (n : Int) * n := Int.mul_nonneg (by omega) (by omega)
  let Sd : uS → Prop := fun w => ∀ j : Int, 0 ≤ j → j < 16000 → w.1 340 j = 1 → v.1 340 j = 1 ∨ ∃ r y a b : Int, 0 ≤ r ∧ r < nr ∧ v.1 275 r = x ∧ iR nv y ∧ sbR v n m r p q y a b ∧ j = tix a y b
  let Cm : uS → Int → Prop := fun w r => ∀ r' y a b : Int, 0 ≤ r' → r' < r → v.1 275 r' = x → sbR v n m r' p q y a b → w.1 340 (tix a y b) = 1
  have rules : ∀ (k' : Nat) (r top' : Int) (z : uS), 0 ≤ r → r + k' = nr → GS v z top top' → Sd z → Cm z r → K_288 (d + 5) 21 [.ref 271, iV m, iV (tix p x q), .retAddr 0, iV top', iV q, iV p, iV r, .retAddr 0, .retAddr 0, .retAddr 0, .retAddr 0, .retAddr 0, .retAddr 0, .retAddr 0] [] z Q := by
    intro k'
    induction k' with
    | zero =>
      intro r top' z hr0 hre hz hsd hcm
      have f6 : z.1 271 = v.1 271 := hz.2.1 _ (by decide)
      refine k_288_21 (d := d + 4) ⟨⟨by omega, by omega⟩, ?_⟩
      rw [f6, g3]
      refine ⟨⟨by omega, by omega⟩, ?_⟩
      rw [if_neg (by omega), ← hQQ]
      exact ⟨hz, hsd, fun r' y a b r0 r1 => hcm r' y a b r0 (by omega)⟩
    | succ k' ih =>
      intro r top' z hr0 hre hz hsd hcm
      have f6 : z.1 271 = v.1 271 := hz.2.1 _ (by decide)
      have f75 : z.1 275 = v.1 275 := hz.2.1 _ (by decide)
      have f76 : z.1 276 = v.1 276 := hz.2.1 _ (by decide)
      have f77 : z.1 277 = v.1 277 := hz.2.1 _ (by decide)
      have f01 : z.1 301 = v.1 301 := hz.2.1 _ (by decide)
      have f02 : z.1 302 = v.1 302 := hz.2.1 _ (by decide)
      have f24 : z.1 324 = v.1 324 := hz.2.1 _ (by decide)
      have f25 : z.1 325 = v.1 325 := hz.2.1 _ (by decide)
      obtain ⟨y1, y2, y3, y4⟩ := g4 r hr0 (by omega)
      have hy1 := y1.1
      have hy2 := y1.2
      refine k_288_21 (d := d + 4) ⟨⟨by omega, by omega⟩, ?_⟩
      rw [f6, g3, f75, td, tdm]
      refine ⟨⟨by omega, by omega⟩, ?_⟩
      rw [if_pos (by omega)]
      refine ⟨hr0, by omega, ⟨by omega, by omega⟩, ⟨by omega, by omega⟩, ⟨by omega, by omega⟩, ⟨by omega, by omega⟩, ?_⟩
      by_cases ex : v.1 275 r = x
      · rw [if_pos ex]
        have hGz : RGc z nv nr n m := RGc_of hG (by rw [f6]) f75 f76 f77 f01 f02
        have hLz : okL (z.1 324) (z.1 325) := by rw [f24, f25]; exact hL
        refine cV.mono (q_271 (d := d + 1) hGz hr0 (by omega) hp hLz) (Nat.le_refl _) (fun z1 ⟨s1, s2, s3⟩ => ?_)
        have hG1 : RGc z1 nv nr n m := RGc_of hGz (by rw [s2 271 (by decide)]) (s2 _ (by decide)) (s2 _ (by decide)) (s2 _ (by decide)) (s2 _ (by decide)) (s2 _ (by decide))
        have s24 : z1.1 324 = z.1 324 := s2 _ (by decide)
        have s25 : z1.1 325 = z.1 325 := s2 _ (by decide)
        have s76 : z1.1 276 = z.1 276 := s2 _ (by decide)
        have hL1 : okL (z1.1 324) (z1.1 325) := by rw [s24, s25]; exact hLz
        refine cV.mono (q_278 (d := d + 1) hG1 hr0 (by omega) hq hL1) (Nat.le_refl _) (fun z2 ⟨r1, r2, r3⟩ => ?_)
        have eD1 : dlR z1 m = dlR v m := by unfold dlR; rw [s2 302 (by decide), f02]
        have eR1 : rwR z1 r = rwR v r := by unfold rwR; rw [s2 277 (by decide), f77]
        have eD : dlR z m = dlR v m := by unfold dlR; rw [f02]
        have eR : rwR z r = rwR v r := by unfold rwR; rw [f77]
        rw [f24, f25, f76, eD, eR] at s3
        rw [s24, s25, s76, f24, f25, f76, eD1, eR1] at r3
        generalize hsz : v.1 276 r = sz at *
        have hAB : ∀ k : Nat, (k : Int) ≤ sz → ∀ o, iR n o → (z2.1 328 (40 * k + o) ≠ 6000000000000000000 ↔ ∃ c g, wy (v.1 324) (v.1 325) (dlR v m) (rwR v r) n p k o c g) ∧ lR (z2.1 328 (40 * k + o)) := fun k hk o ho => by
          have hb := s3 k hk o ho
          unfold cg at hb
          have e : z2.1 328 = z1.1 328 := r2 _ (by decide)
          rw [e]
          exact ⟨bst_ne hb, hb.2.1⟩
        have hBB : ∀ k : Nat, (k : Int) < sz → ∀ o, iR n o → (z2.1 342 (40 * ((k : Int) + 1) + o) ≠ 6000000000000000000 ↔ ∃ c g, wb (v.1 324) (v.1 325) (dlR v m) (rwR v r) n q sz (sz - k - 1).toNat o c g) ∧ lR (z2.1 342 (40 * ((k : Int) + 1) + o)) := fun k hk o ho => by
          have hb := r3 (sz - k - 1).toNat (by omega) o ho
          unfold cgB at hb
          have e : sz - ((sz - (k : Int) - 1).toNat : Int) = (k : Int) + 1 := by omega
          rw [e] at hb
          exact ⟨bst_ne hb, hb.2.1⟩
        have hz2 : GS v z2 top top' := by
          refine GS_arr hz (r1.trans s1) (fun b hb => (r2 b (fun hh => hb ?_)).trans (s2 b (fun hh => hb ?_)))
          · simp only [List.mem_cons, List.not_mem_nil, or_false] at hh ⊢
            omega
          · simp only [List.mem_cons, List.not_mem_nil, or_false] at hh ⊢
            omega
        have e20 : z2.1 340 = z.1 340 := (r2 _ (by decide)).trans (s2 _ (by decide))
        have hsd2 : Sd z2 := fun j j0 j1 hj => hsd j j0 j1 (by rw [← e20]; exact hj)
        have hcm2 : Cm z2 r := fun r' y a b r0 r1 e hs => by rw [e20]; exact hcm r' y a b r0 r1 e hs
        -- the symbols
        have syms : ∀ (k'' k : Nat) (tp : Int) (w : uS), (k : Int) + k'' = sz → GS v w top tp → Sd w → Cm w r → w.1 328 = z2.1 328 → w.1 342 = z2.1 342 → (∀ (i : Nat) (y a b : Int), i < k → rwR v r i = 100 + y → 0 ≤ y → iR n a → iR n b → z2.1 328 (40 * i + a) ≠ 6000000000000000000 → v.1 324 (tix a y b) ≠ 6000000000000000000 → z2.1 342 (40 * ((i : Int) + 1) + b) ≠ 6000000000000000000 → w.1 340 (tix a y b) = 1) → K_288 (d + 5) 71 [.ref 271, iV m, iV (tix p x q), .retAddr 0, iV tp, iV q, iV p, iV r, iV (k : Int), .retAddr 0, .retAddr 0, .retAddr 0, .retAddr 0, .retAddr 0, .retAddr 0] [] w Q := by
          intro k''
          induction k'' with
          | zero =>
            intro k tp w hk hw wsd wcm w28 w42 wc
            have e76 : w.1 276 = v.1 276 := hw.2.1 _ (by decide)
            refine k_288_71 (d := d + 4) ⟨hr0, by omega, ⟨by omega, by omega⟩, ?_⟩
            rw [e76, hsz]
            refine ⟨⟨by omega, by omega⟩, ?_⟩
            rw [if_neg (by omega)]
            refine ih (r + 1) tp w (by omega) (by omega) hw wsd (fun r' y a b r0 r1' e hs => ?_)
            by_cases er : r' = r
            · rw [er] at hs
              obtain ⟨i, i1, i2, iy, i3, i4, i5, i6, i7⟩ := hs
              rw [hsz] at i1 i7
              exact wc i y a b (by omega) i2 iy i3 i4 ((hAB i (by omega) a i3).1.mpr i5) i6 ((hBB i i1 b i4).1.mpr i7)
            · exact wcm r' y a b r0 (by omega) e hs
          | succ k'' ih2 =>
            intro k tp w hk hw wsd wcm w28 w42 wc
            have e76 : w.1 276 = v.1 276 := hw.2.1 _ (by decide)
            have e77 : w.1 277 = v.1 277 := hw.2.1 _ (by decide)
            refine k_288_71 (d := d + 4) ⟨hr0, by omega, ⟨by omega, by omega⟩, ?_⟩
            rw [e76, hsz]
            refine ⟨⟨by omega, by omega⟩, ?_⟩
            rw [if_pos (by omega)]
            refine ⟨by omega, by omega, ?_⟩
            have hs4 := y4 k (by omega) (by omega)
            have eRk : v.1 277 (6 * r + (k : Int)) = rwR v r k := rfl
            rw [e77, eRk]
            rw [eRk] at hs4
            generalize hsy : rwR v r k = s at hs4
            have hsI : rI s := by
              rcases hs4 with z | z <;> exact ⟨by omega, by omega⟩
            have nextk : ∀ (tp' : Int) (w' : uS), GS v w' top tp' → Sd w' → Cm w' r → w'.1 328 = z2.1 328 → w'.1 342 = z2.1 342 → (∀ (i : Nat) (y a b : Int), i < k → rwR v r i = 100 + y → 0 ≤ y → iR n a → iR n b → z2.1 328 (40 * i + a) ≠ 6000000000000000000 → v.1 324 (tix a y b) ≠ 6000000000000000000 → z2.1 342 (40 * ((i : Int) + 1) + b) ≠ 6000000000000000000 → w'.1 340 (tix a y b) = 1) → (∀ (y a b : Int), s = 100 + y → 0 ≤ y → iR n a → iR n b → z2.1 328 (40 * k + a) ≠ 6000000000000000000 → v.1 324 (tix a y b) ≠ 6000000000000000000 → z2.1 342 (40 * ((k : Int) + 1) + b) ≠ 6000000000000000000 → w'.1 340 (tix a y b) = 1) → K_288 (d + 5) 71 [.ref 271, iV m, iV (tix p x q), .retAddr 0, iV tp', iV q, iV p, iV r, iV ((k : Int) + 1), .retAddr 0, .retAddr 0, .retAddr 0, .retAddr 0, .retAddr 0, .retAddr 0] [] w' Q := by
              intro tp' w' hw' wsd' wcm' w28' w42' wc' wk'
              have := ih2 (k + 1) tp' w' (by omega) hw' wsd' wcm' w28' w42' (fun i y a b hi hy hy0 ha hb h1 h2 h3 => by
                by_cases e : i = k
                · rw [e] at hy h1 h3
                  rw [hsy] at hy
                  exact wk' y a b hy hy0 ha hb h1 h2 h3
                · exact wc' i y a b (by omega) hy hy0 ha hb h1 h2 h3)
              rw [Int.natCast_succ] at this
              exact this
            have pairs : ∀ (ee : Nat) (e tp : Int) (w : uS), 0 ≤ e → e + ee = (n : Int) * n → GS v w top tp → Sd w → Cm w r → w.1 328 = z2.1 328 → w.1 342 = z2.1 342 → (∀ (i : Nat) (y a b : Int), i < k → rwR v r i = 100 + y → 0 ≤ y → iR n a → iR n b → z2.1 328 (40 * i + a) ≠ 6000000000000000000 → v.1 324 (tix a y b) ≠ 6000000000000000000 → z2.1 342 (40 * ((i : Int) + 1) + b) ≠ 6000000000000000000 → w.1 340 (tix a y b) = 1) → (∀ (y a b : Int), s = 100 + y → 0 ≤ y → iR n a → iR n b → b + (n : Int) * a < e → z2.1 328 (40 * k + a) ≠ 6000000000000000000 → v.1 324 (tix a y b) ≠ 6000000000000000000 → z2.1 342 (40 * ((k : Int) + 1) + b) ≠ 6000000000000000000 → w.1 340 (tix a y b) = 1) → K_288 (d + 5) 101 [.ref 271, iV m, iV (tix p x q), .retAddr 0, iV tp, iV q, iV p, iV r, iV (k : Int), iV s, iV e, .retAddr 0, .retAddr 0, .retAddr 0, .retAddr 0] [] w Q := by
              intro ee
              induction ee with
              | zero =>
                intro e tp w e0 ee hw wsd wcm w28 w42 wc wk
                have e01 : w.1 301 = v.1 301 := hw.2.1 _ (by decide)
                refine k_288_101 (d := d + 4) ⟨by omega, by omega, ⟨by omega, by omega⟩, ?_⟩
                rw [e01, g7]
                refine ⟨⟨by omega, by omega⟩, ?_⟩
                rw [if_neg (by omega)]
                refine nextk tp w hw wsd wcm w28 w42 wc (fun y a b hy hy0 ha hb => wk y a b hy hy0 ha hb ?_)
                have h1 : (n : Int) * a ≤ (n : Int) * ((n : Int) - 1) := Int.mul_le_mul_of_nonneg_left (by have := ha.2; omega) (by omega)
                rw [Int.mul_sub, Int.mul_one] at h1
                have := hb.2
                omega
              | succ ee ih3 =>
                intro e tp w e0 ee' hw wsd wcm w28 w42 wc wk
                have e01 : w.1 301 = v.1 301 := hw.2.1 _ (by decide)
                have e24 : w.1 324 = v.1 324 := hw.2.1 _ (by decide)
                refine k_288_101 (d := d + 4) ⟨by omega, by omega, ⟨by omega, by omega⟩, ?_⟩
                rw [e01, g7]
                refine ⟨⟨by omega, by omega⟩, ?_⟩
                rw [if_pos (by omega)]
                refine ⟨hsI, ?_⟩
                by_cases hs1 : s < 100
                · rw [if_pos hs1]
                  exact nextk tp w hw wsd wcm w28 w42 wc (fun y a b hy hy0 ha hb h1 h2 h3 => by omega)
                · rw [if_neg hs1]
                  have hs2 : 100 ≤ s ∧ s < 100 + nv := by rcases hs4 with z | z <;> omega
                  rw [Int.tdiv_eq_ediv_of_nonneg e0, Int.tmod_eq_emod_of_nonneg e0]
                  have hab : e / (n : Int) = e / (n : Int) ∧ e % (n : Int) = e % (n : Int) := ⟨rfl, rfl⟩
                  have hab2 := (Int.ediv_emod_unique (a := e) (b := (n : Int)) (r := e % (n : Int)) (q := e / (n : Int)) (by omega)).mp hab
                  have huq : ∀ a b : Int, iR n a → iR n b → b + (n : Int) * a = e → a = e / (n : Int) ∧ b = e % (n : Int) := fun a b ha hb h => by
                    have := (Int.ediv_emod_unique (a := e) (b := (n : Int)) (r := b) (q := a) (by omega)).mpr ⟨h, hb.1, hb.2⟩
                    exact ⟨this.1.symm, this.2.symm⟩
                  have ha1 : e / (n : Int) < n := Int.ediv_lt_of_lt_mul (by omega) (by omega)
                  have ha0 : 0 ≤ e / (n : Int) := Int.ediv_nonneg e0 (by omega)
                  generalize e / (n : Int) = a at *
                  generalize e % (n : Int) = b at *
                  obtain ⟨hab3, hb0, hb1⟩ := hab2
                  have haR : iR n a := ⟨ha0, ha1⟩
                  have hbR : iR n b := ⟨hb0, hb1⟩
                  rw [w28, w42, e24, show (10 * a + (s - 100)) * 40 + b = tix a (s - 100) b from rfl]
                  have hA := hAB k (by omega) a haR
                  have hB := hBB k (by omega) b hbR
                  have htR2 := tix_R (o := a) (x := s - 100) (q := b) ⟨ha0, by omega⟩ ⟨by omega, by omega⟩ ⟨hb0, by omega⟩
                  have hLt := (hL _ htR2.1 htR2.2).1
                  -- on with the next pair
                  have go : ∀ (tp' : Int) (w' : uS), GS v w' top tp' → Sd w' → w'.1 328 = z2.1 328 → w'.1 342 = z2.1 342 → (∀ j : Int, w.1 340 j = 1 → w'.1 340 j = 1) → (z2.1 328 (40 * k + a) ≠ 6000000000000000000 → v.1 324 (tix a (s - 100) b) ≠ 6000000000000000000 → z2.1 342 (40 * ((k : Int) + 1) + b) ≠ 6000000000000000000 → w'.1 340 (tix a (s - 100) b) = 1) → K_288 (d + 5) 101 [.ref 271, iV m, iV (tix p x q), .retAddr 0, iV tp', iV q, iV p, iV r, iV (k : Int), iV s, iV (e + 1), .retAddr 0, .retAddr 0, .retAddr 0, .retAddr 0] [] w' Q := by
                    intro tp' w' hw' wsd' w28' w42' wg wn
                    refine ih3 (e + 1) tp' w' (by omega) (by omega) hw' wsd' (fun r' y a' b' r0 r1' e' hs => wg _ (wcm r' y a' b' r0 r1' e' hs)) w28' w42' (fun i y a' b' hi hy hy0 ha' hb' h1 h2 h3 => wg _ (wc i y a' b' hi hy hy0 ha' hb' h1 h2 h3)) (fun y a' b' hy hy0 ha' hb' hlt h1 h2 h3 => ?_)
                    by_cases ee : b' + (n : Int) * a' = e
                    · obtain ⟨u1, u2⟩ := huq a' b' ha' hb' ee
                      have ey : y = s - 100 := by omega
                      rw [u1] at h1 h2 ⊢
                      rw [u2] at h2 h3 ⊢
                      rw [ey] at h2 ⊢
                      exact wn h1 h2 h3
                    · exact wg _ (wk y a' b' hy hy0 ha' hb' (by omega) h1 h2 h3)
                  refine ⟨⟨by omega, by omega⟩, by omega, by omega, by omega, lR_L hA.2, ?_⟩
                  by_cases c1 : z2.1 328 (40 * k + a) = 6000000000000000000
                  · rw [if_pos c1]
                    exact k_288_222 (d := d + 4) (go tp w hw wsd w28 w42 (fun _ h => h) (fun h => absurd c1 h))
                  · rw [if_neg c1]
                    refine ⟨by omega, by omega, lR_L hB.2, ?_⟩
                    by_cases c2 : z2.1 342 (40 * ((k : Int) + 1) + b) = 6000000000000000000
                    · rw [if_pos c2]
                      exact k_288_222 (d := d + 4) (go tp w hw wsd w28 w42 (fun _ h => h) (fun _ _ h => absurd c2 h))
                    · rw [if_neg c2]
                      refine ⟨htR2.1, htR2.2, lR_L hLt, ?_⟩
                      by_cases c3 : v.1 324 (tix a (s - 100) b) = 6000000000000000000
                      · rw [if_pos c3]
                        exact k_288_222 (d := d + 4) (go tp w hw wsd w28 w42 (fun _ h => h) (fun _ h => absurd c3 h))
                      · rw [if_neg c3]
                        have h01w := hw.2.2.2.2.2.1 _ htR2.1 htR2.2
                        refine ⟨by rcases h01w with z | z <;> rw [z] <;> decide, ?_⟩
                        by_cases c4 : w.1 340 (tix a (s - 100) b) = 0
                        · rw [if_pos c4]
                          intro w1 ew1
                          have hct := hw.2.2.2.2.2.2.1
                          have htp := hw.2.2.1
                          have hle := ct_le (knw w) 16000
                          refine ⟨by omega, by omega, fun w2 ew2 => ?_⟩
                          have hpu := GS_push hw t0 htR2.1 htR2.2 c4 ew1 ew2
                          have e0' : w2.1 340 = uf (w.1 340) (tix a (s - 100) b) 1 := by rw [ew2, wr_ne (by omega), ew1, wr_uf]
                          refine go (tp + 1) w2 hpu (fun j j0 j1 hj => ?_) (by rw [ew2, wr_ne (by omega), ew1, wr_ne (by omega)]; exact w28) (by rw [ew2, wr_ne (by omega), ew1, wr_ne (by omega)]; exact w42) (fun j hj => ?_) (fun _ _ _ => by rw [e0', uf_eq])
                          · by_cases ej : j = tix a (s - 100) b
                            · refine Or.inr ⟨r, s - 100, a, b, hr0, by omega, ex, ⟨by omega, by omega⟩, ⟨k, by rw [hsz]; omega, by rw [hsy]; omega, by omega, haR, hbR, hA.1.mp c1, c3, ?_⟩, ej⟩
                              rw [hsz]
                              exact hB.1.mp c2
                            · rw [e0', uf_ne ej] at hj
                              exact wsd j j0 j1 hj
                          · rw [e0']
                            by_cases ej : j = tix a (s - 100) b
                            · rw [ej, uf_eq]
                            · rw [uf_ne ej]; exact hj
                        · rw [if_neg c4]
                          exact go tp w hw wsd w28 w42 (fun _ h => h) (fun _ _ _ => by rcases h01w with z | z; exact absurd z c4; exact z)
            exact pairs ((n : Int) * n).toNat 0 tp w (Int.le_refl 0) (by omega) hw wsd wcm w28 w42 wc (fun y a b hy hy0 ha hb hlt => by
              have : 0 ≤ (n : Int) * a := Int.mul_nonneg (by omega) ha.1
              have := hb.1
              omega)
        exact syms sz.toNat 0 top' z2 (by omega) hz2 hsd2 hcm2 rfl rfl (fun i y a b hi => by omega)
      · rw [if_neg ex]
        refine ih (r + 1) top' z (by omega) (by omega) hz hsd (fun r' y a b r0 r1' e hs => ?_)
        by_cases er : r' = r
        · rw [er] at e
          exact absurd e ex
        · exact hcm r' y a b r0 (by omega) e hs
  refine e_288 (d := d + 4) ⟨⟨by omega, by omega⟩, ?_⟩
  rw [td, tm', tdd]
  exact ⟨⟨by omega, by omega⟩, rules nr 0 top v (Int.le_refl 0) (by omega) (GS_refl h01) (fun j j0 j1 hj => Or.inl hj) (fun r' y a b r0 r1 => by omega)⟩
