/-! goOver and findTriples -/
def entR (u : uS) (n : Nat) (m : Int) (v : uS) (r p q : Int) : Prop := ∃ h lo, Bst (wy (v.1 324) (v.1 325) (dlR u m) (rwR u r) n p (u.1 276 r).toNat q) (v.1 326 (rix r p q)) h lo ∧ v.1 327 (rix r p q) = (if v.1 326 (rix r p q) = 4000000000000000000 then lo else h) + 1
def En (u : uS) (n : Nat) (m hh : Int) (v : uS) (r p : Int) : Prop := ∀ q, iR n q → (hh = 0 → ∀ c g, wy (v.1 324) (v.1 325) (dlR u m) (rwR u r) n p (u.1 276 r).toNat q c g → v.1 324 (tix p (u.1 275 r) q) ≤ c) ∧ (hh = 1 → ∀ g, wy (v.1 324) (v.1 325) (dlR u m) (rwR u r) n p (u.1 276 r).toNat q (v.1 324 (tix p (u.1 275 r) q)) g → g + 1 ≤ 1000000 → v.1 325 (tix p (u.1 275 r) q) ≤ g + 1) ∧ entR u n m v r p q
theorem En_of {u : uS} {n : Nat} {m hh : Int} {v w : uS} {r p : Int} (h : En u n m hh v r p) (e4 : w.1 324 = v.1 324) (e5 : w.1 325 = v.1 325) (e6 : ∀ q, iR n q → w.1 326 (rix r p q) = v.1 326 (rix r p q) ∧ w.1 327 (rix r p q) = v.1 327 (rix r p q)) : En u n m hh w r p := fun q hq => by
  obtain ⟨a, b, c⟩ := h q hq
  unfold entR at c ⊢
  rw [e4, e5, (e6 q hq).1, (e6 q hq).2]
  exact ⟨a, b, c⟩
theorem rix_inj {r p q r' p' q' : Int} (hp : 0 ≤ p ∧ p < 40) (hq : 0 ≤ q ∧ q < 40) (hp' : 0 ≤ p' ∧ p' < 40) (hq' : 0 ≤ q' ∧ q' < 40) (h : rix r p q = rix r' p' q') : r = r' ∧ p = p' ∧ q = q' := by
  unfold rix at h
  omega
def fT : List Nat := [324, 325, 326, 327, 328, 329, 330]
theorem l_rp {d nv nr n : Nat} {u v : uS} {m hh r p : Int} {R : Int → uS → Prop} (hG : RGc u nv nr n m) (hr0 : 0 ≤ r) (hr1 : r < nr) (hp : iR n p) (h01 : hh = 0 ∨ hh = 1) (h2 : v.2 = u.2) (hs : sb1 u v fT) (hJ : Jv u nv nr n m hh (v.1 324) (v.1 325)) (hR : ∀ (c : Int) (w : uS), (c = 0 ∨ c = 1) → w.2 = u.2 → sb1 u w fT → Jv u nv nr n m hh (w.1 324) (w.1 325) → (∀ r' p', r' ≠ r ∨ p' ≠ p → iR n p' → ∀ q, iR n q → w.1 326 (rix r' p' q) = v.1 326 (rix r' p' q) ∧ w.1 327 (rix r' p' q) = v.1 327 (rix r' p' q)) → muT (w.1 324) (w.1 325) ≤ muT (v.1 324) (v.1 325) → ((c = 0 ∧ w.1 324 = v.1 324 ∧ w.1 325 = v.1 325 ∧ En u n m hh w r p) ∨ (c = 1 ∧ muT (w.1 324) (w.1 325) < muT (v.1 324) (v.1 325))) → R c w) : cV (d + 4) 271 [.ref 271, iV m, iV r, iV p] v (fun u4 => cI (d + 4) 275 [.ref 271, iV r, iV p, iV n, iV hh] u4 R) := by
  obtain ⟨g1, g2, g3, g4, g5, g6, g7, g8, g9⟩ := id hG
  obtain ⟨x1, x2, x3, x4⟩ := g4 r hr0 hr1
  have v71 : v.1 271 = u.1 271 := hs _ (by decide)
  have v75 : v.1 275 = u.1 275 := hs _ (by decide)
  have v76 : v.1 276 = u.1 276 := hs _ (by decide)
  have v77 : v.1 277 = u.1 277 := hs _ (by decide)
  have v01 : v.1 301 = u.1 301 := hs _ (by decide)
  have v02 : v.1 302 = u.1 302 := hs _ (by decide)
  have hGv : RGc v nv nr n m := RGc_of hG (by rw [v71]) v75 v76 v77 v01 v02
  have edl : dlR v m = dlR u m := by unfold dlR; rw [v02]
  have erw : rwR v r = rwR u r := by unfold rwR; rw [v77]
  have hq := q_271 (d := d) hGv hr0 hr1 hp hJ.1
  rw [edl, erw, v76] at hq
  refine cV.mono hq (Nat.le_refl _) (fun w ⟨w2, ws, wg⟩ => ?_)
  have hsz : (((u.1 276 r).toNat : Nat) : Int) = u.1 276 r := by omega
  have hB := wg (u.1 276 r).toNat (by omega)
  rw [hsz] at hB
  have hwu : ∀ b, b ∉ fT → w.1 b = u.1 b := fun b hb => by
    rw [ws b (fun k => hb (by unfold fT; simp only [List.mem_cons, List.not_mem_nil, or_false] at k ⊢; omega))]
    exact hs b hb
  have w71 : w.1 271 = u.1 271 := hwu _ (by decide)
  have w75 : w.1 275 = u.1 275 := hwu _ (by decide)
  have w76 : w.1 276 = u.1 276 := hwu _ (by decide)
  have w77 : w.1 277 = u.1 277 := hwu _ (by decide)
  have w01 : w.1 301 = u.1 301 := hwu _ (by decide)
  have w02 : w.1 302 = u.1 302 := hwu _ (by decide)
  have w24 : w.1 324 = v.1 324 := ws _ (by decide)
  have w25 : w.1 325 = v.1 325 := ws _ (by decide)
  have w26 : w.1 326 = v.1 326 := ws _ (by decide)
  have w27 : w.1 327 = v.1 327 := ws _ (by decide)
  have hGw : RGc w nv nr n m := RGc_of hG (by rw [w71]) w75 w76 w77 w01 w02
  have hq2 := q_275 (d := d + 2) (hh := hh) hGw hr0 hr1 hp (by rw [w24, w25]; exact hJ.1) h01 (by
    rw [w76]
    intro q hqR
    have := hB q hqR
    exact ⟨this.2.1, this.2.2.1, this.2.2.2.1⟩) (fun q => w.1 328 (40 * w.1 276 r + q)) (fun q => (if w.1 328 (40 * w.1 276 r + q) = 4000000000000000000 then w.1 330 (40 * w.1 276 r + q) else w.1 329 (40 * w.1 276 r + q)) + 1) (fun _ => rfl) (fun _ => rfl)
  rw [w76, w24, w25, w26, w27, w75] at hq2
  refine cI.mono hq2 (Nat.le_refl _) (fun c w' ⟨y1, y2, y3, y4, y5, y6⟩ => ?_)
  obtain ⟨o1, o2⟩ := one_Jv (hw := fun q => w.1 329 (40 * u.1 276 r + q)) (lo := fun q => w.1 330 (40 * u.1 276 r + q)) hG hr0 hr1 hp hJ hB (fun _ => rfl) y5
  have hc01 : c = 0 ∨ c = 1 := by
    rcases y6 with z | z
    · exact Or.inl z.1
    · exact Or.inr z.1
  have p0 := hp.1
  have p1 := hp.2
  refine hR c w' hc01 (by rw [y1, w2, h2]) (fun b hb => ?_) o1 (fun r' p' hne hp' q hqR => ?_) (muT_le (fun j j0 j1 => ⟨(o2 j j0 j1).1, (o2 j j0 j1).2.1⟩)) ?_
  · rw [y2 b (fun k => hb (by unfold fT; simp only [List.mem_cons, List.not_mem_nil, or_false] at k ⊢; omega))]
    exact hwu b hb
  · have p0' := hp'.1
    have p1' := hp'.2
    have q0 := hqR.1
    have q1 := hqR.2
    refine y4 _ (fun q' hq' e => ?_)
    have q0' := hq'.1
    have q1' := hq'.2
    obtain ⟨e1, e2, e3⟩ := rix_inj ⟨p0', by omega⟩ ⟨q0, by omega⟩ ⟨p0, by omega⟩ ⟨q0', by omega⟩ e
    rcases hne with k | k
    · exact k e1
    · exact k e2
  · rcases y6 with ⟨z1, z2, z3, z4⟩ | ⟨z1, z2⟩
    · refine Or.inl ⟨z1, z2, z3, fun q hqR => ?_⟩
      obtain ⟨b1, b2, b3, b4, b5, b6, b7, b8, b9⟩ := hB q hqR
      obtain ⟨t1, t2⟩ := y3 q hqR
      unfold entR
      rw [z2, z3, t1, t2]
      refine ⟨fun hh0 c' g way => ?_, fun hh1 g way hg => ?_, _, _, hB q hqR, rfl⟩
      · have h8 := (z4 q hqR.1 hqR.2).1 hh0
        have h9 := b5 c' g way
        exact Int.le_trans h8 h9
      · have k1 := (hJ.2.2 hh1).1
        have hle := b5 _ g way
        have hcr := (b1 _ g way).1
        have hge : v.1 324 (tix p (u.1 275 r) q) ≤ w'.1 324 (tix p (u.1 275 r) q) := by rw [z2]; exact Int.le_refl _
        have hwl : v.1 324 (tix p (u.1 275 r) q) ≤ 4000000000000000000 := hcr.2
        have hne : ¬ _ = (6000000000000000000 : Int) := fun k : (fun q => w.1 328 (40 * u.1 276 r + q)) q = 6000000000000000000 => by
          have k' : w.1 328 (40 * u.1 276 r + q) = 6000000000000000000 := k
          omega
        have heq : (fun q => w.1 328 (40 * u.1 276 r + q)) q = v.1 324 (tix p (u.1 275 r) q) := by
          show w.1 328 (40 * u.1 276 r + q) = _
          rcases b6 with k | ⟨g', k⟩
          · exact absurd k hne
          · have := k1 r p q _ g' hr0 hr1 hp hqR k
            omega
        have heq' : w.1 328 (40 * u.1 276 r + q) = v.1 324 (tix p (u.1 275 r) q) := heq
        have hqle : (if w.1 328 (40 * u.1 276 r + q) = 4000000000000000000 then w.1 330 (40 * u.1 276 r + q) else w.1 329 (40 * u.1 276 r + q)) + 1 ≤ g + 1 := by
          split
          · next k =>
            have := b8 _ g way
            omega
          · next k =>
            have := (b7 (by omega)).2 g (by rw [heq']; exact way)
            omega
        have h8 := (z4 q hqR.1 hqR.2).2 hh1 hne heq (Int.le_trans hqle hg)
        exact Int.le_trans h8 hqle
    · exact Or.inr ⟨z1, muT_lt o2 z2⟩
theorem q_270 {d nv nr n : Nat} {u v : uS} {m hh : Int} (hG : RGc u nv nr n m) (h01 : hh = 0 ∨ hh = 1) (h2 : v.2 = u.2) (hs : sb1 u v fT) (hJ : Jv u nv nr n m hh (v.1 324) (v.1 325)) : cV (d + 5) 270 [.ref 271, iV m, iV n, iV hh] v (fun w => w.2 = u.2 ∧ sb1 u w fT ∧ Jv u nv nr n m hh (w.1 324) (w.1 325) ∧ ∀ r p : Int, 0 ≤ r → r < nr → iR n p → En u n m hh w r p) := by
  obtain ⟨g1, g2, g3, g4, g5, g6, g7, g8, g9⟩ := id hG
  generalize hQ : (fun w : uS => w.2 = u.2 ∧ sb1 u w fT ∧ Jv u nv nr n m hh (w.1 324) (w.1 325) ∧ ∀ r p : Int, 0 ≤ r → r < nr → iR n p → En u n m hh w r p) = Q
  have finQ : ∀ w : uS, w.2 = u.2 → sb1 u w fT → Jv u nv nr n m hh (w.1 324) (w.1 325) → (∀ r p : Int, 0 ≤ r → r < nr → iR n p → En u n m hh w r p) → Q w := fun w a b c e => by rw [← hQ]; exact ⟨a, b, c, e⟩
  clear hQ
  have main : ∀ (k : Nat) (v : uS), muT (v.1 324) (v.1 325) < k → v.2 = u.2 → sb1 u v fT → Jv u nv nr n m hh (v.1 324) (v.1 325) → K_270 (d + 4) 3 [.ref 271, iV m, iV n, iV hh, iV 1, .retAddr 0, .retAddr 0] [] v Q := by
    intro k
    induction k with
    | zero => intro v hk; exact absurd hk (Nat.not_lt_zero _)
    | succ k ih =>
      intro v hk h2 hs hJ
      refine k_270_3 (d := d + 4) ⟨⟨by omega, by omega⟩, ?_⟩
      rw [if_neg (by omega)]
      -- rules, states
      have rules : ∀ (k' : Nat) (r c : Int) (w : uS), 0 ≤ r → r + k' = nr → w.2 = u.2 → sb1 u w fT → Jv u nv nr n m hh (w.1 324) (w.1 325) → ((c = 0 ∧ w.1 324 = v.1 324 ∧ w.1 325 = v.1 325 ∧ ∀ r' p' : Int, 0 ≤ r' → r' < r → iR n p' → En u n m hh w r' p') ∨ (c = 1 ∧ muT (w.1 324) (w.1 325) < muT (v.1 324) (v.1 325))) → K_270 (d + 4) 14 [.ref 271, iV m, iV n, iV hh, iV c, iV r, .retAddr 0] [] w Q := by
        intro k'
        induction k' with
        | zero =>
          intro r c w hr0 hre w2 ws wJ wc
          have w6 : w.1 271 6 = nr := by rw [ws 271 (by decide)]; exact g3
          refine k_270_14 (d := d + 4) ?_
          rw [w6]
          refine ⟨⟨by omega, by omega⟩, ⟨by omega, by omega⟩, ?_⟩
          rw [if_neg (by omega)]
          rcases wc with ⟨z1, z2, z3, z4⟩ | ⟨z1, z2⟩
          · rw [z1]
            refine k_270_3 (d := d + 4) ⟨⟨by omega, by omega⟩, ?_⟩
            rw [if_pos rfl]
            exact finQ w w2 ws wJ (fun r' p' a b hp' => z4 r' p' a (by omega) hp')
          · rw [z1]
            exact ih w (by omega) w2 ws wJ
        | succ k' ih' =>
          intro r c w hr0 hre w2 ws wJ wc
          have w6 : w.1 271 6 = nr := by rw [ws 271 (by decide)]; exact g3
          refine k_270_14 (d := d + 4) ?_
          rw [w6]
          refine ⟨⟨by omega, by omega⟩, ⟨by omega, by omega⟩, ?_⟩
          rw [if_pos (by omega)]
          have states : ∀ (k2 : Nat) (p c : Int) (w : uS), 0 ≤ p → p + k2 = n → w.2 = u.2 → sb1 u w fT → Jv u nv nr n m hh (w.1 324) (w.1 325) → ((c = 0 ∧ w.1 324 = v.1 324 ∧ w.1 325 = v.1 325 ∧ ∀ r' p' : Int, 0 ≤ r' → (r' < r ∨ r' = r ∧ p' < p) → iR n p' → En u n m hh w r' p') ∨ (c = 1 ∧ muT (w.1 324) (w.1 325) < muT (v.1 324) (v.1 325))) → K_270 (d + 4) 26 [.ref 271, iV m, iV n, iV hh, iV c, iV r, iV p] [] w Q := by
            intro k2
            induction k2 with
            | zero =>
              intro p c w hp0 hpe w2 ws wJ wc
              refine k_270_26 (d := d + 4) ⟨⟨by omega, by omega⟩, ⟨by omega, by omega⟩, ?_⟩
              rw [if_neg (by omega)]
              refine ih' (r + 1) c w (by omega) (by omega) w2 ws wJ ?_
              rcases wc with ⟨z1, z2, z3, z4⟩ | z
              · refine Or.inl ⟨z1, z2, z3, fun r' p' a b hp' => z4 r' p' a ?_ hp'⟩
                have := hp'.2
                omega
              · exact Or.inr z
            | succ k2 ih2 =>
              intro p c w hp0 hpe w2 ws wJ wc
              refine k_270_26 (d := d + 4) ⟨⟨by omega, by omega⟩, ⟨by omega, by omega⟩, ?_⟩
              rw [if_pos (by omega)]
              refine l_rp (d := d) hG hr0 (by omega) ⟨hp0, by omega⟩ h01 w2 ws wJ (fun c' w' c01 a2 as aJ at' am ac => ?_)
              refine ⟨by rcases c01 with z | z <;> rw [z] <;> decide, ?_⟩
              have next : ∀ c2 : Int, ((c = 0 ∧ c' = 0 ∧ c2 = 0) ∨ ((c = 1 ∨ c' = 1) ∧ c2 = 1)) → K_270 (d + 4) 26 [.ref 271, iV m, iV n, iV hh, iV c2, iV r, iV (p + 1)] [] w' Q := by
                intro c2 hc2
                refine ih2 (p + 1) c2 w' (by omega) (by omega) a2 as aJ ?_
                rcases hc2 with ⟨k0, k1, k2⟩ | ⟨k0, k1⟩
                · rcases wc with ⟨z1, z2, z3, z4⟩ | ⟨z1, z2⟩
                  · rcases ac with ⟨f1, f2, f3, f4⟩ | ⟨f1, f2⟩
                    · refine Or.inl ⟨k2, f2.trans z2, f3.trans z3, fun r' p' a b hp' => ?_⟩
                      by_cases e : r' = r ∧ p' = p
                      · rw [e.1, e.2]; exact f4
                      · exact En_of (z4 r' p' a (by omega) hp') f2 f3 (fun q hq => at' r' p' (by omega) hp' q hq)
                    · omega
                  · omega
                · refine Or.inr ⟨k1, ?_⟩
                  rcases wc with ⟨z1, z2, z3, z4⟩ | ⟨z1, z2⟩
                  · rcases ac with ⟨f1, f2, f3, f4⟩ | ⟨f1, f2⟩
                    · omega
                    · rw [z2, z3] at f2
                      exact f2
                  · exact Nat.lt_of_le_of_lt am z2
              have hc01 : c = 0 ∨ c = 1 := by
                rcases wc with z | z
                · exact Or.inl z.1
                · exact Or.inr z.1
              by_cases k0 : c' = 0
              · rw [if_pos k0]
                refine ⟨by rcases hc01 with z | z <;> rw [z] <;> decide, ?_⟩
                by_cases k1 : c = 0
                · rw [if_pos k1]; exact next 0 (Or.inl ⟨k1, k0, rfl⟩)
                · rw [if_neg k1]; exact next 1 (Or.inr ⟨by omega, rfl⟩)
              · rw [if_neg k0]; exact next 1 (Or.inr ⟨by omega, rfl⟩)
          refine states n 0 c w (Int.le_refl 0) (by omega) w2 ws wJ ?_
          rcases wc with ⟨z1, z2, z3, z4⟩ | z
          · refine Or.inl ⟨z1, z2, z3, fun r' p' a b hp' => z4 r' p' a ?_ hp'⟩
            have := hp'.1
            omega
          · exact Or.inr z
      exact rules nr 0 0 v (Int.le_refl 0) (by omega) h2 hs hJ (Or.inl ⟨rfl, rfl, rfl, fun r' p' a b => by omega⟩)
  exact e_270 (d := d + 4) (main _ v (Nat.lt_succ_self _) h2 hs hJ)
