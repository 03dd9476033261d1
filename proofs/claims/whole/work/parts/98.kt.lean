/-! letter: the other side, and both alike -/
theorem WT_tr {M : Mg} {L H : T3} {s : Nat} {T : P3} {u v : uS} (h : ∀ c, c ≠ 231 → v.1 c = u.1 c) (hW : WT M L H s T u) : WT M L H s T v := by
  obtain ⟨hV, hO, hr, hT⟩ := hW
  have eK : Kv M v = Kv M u := Kv_eq (h 247 (by decide))
  refine ⟨sV_tr h hV, OD_tr h hO, by rw [h 337 (by decide), h 338 (by decide)]; exact hr, ?_⟩
  unfold CHc CHr at hT ⊢
  rw [eK, h 266 (by decide), h 267 (by decide), h 331 (by decide), h 332 (by decide), h 334 (by decide), h 335 (by decide), h 268 (by decide), h 333 (by decide)]
  exact hT
theorem q_283 {e : Nat} {M : Mg} {L H : T3} {u : uS} {x p q r : Int} {S : Nat → Int} {k : Nat} (hM : Mok M) (hS : LHs M L H) (hx : Fe M L x p q) (hc : CHr M L H u x p q r S) (hrow : ∀ r : Int, 0 ≤ r → r < xr M → u.1 337 r = xl M r ∧ ∀ k : Int, 0 ≤ k → k < xl M r → u.1 338 (6 * r + k) = xy M r k) (ht : 0 ≤ tix p x q ∧ tix p x q < 16000) (hk : k < (xl M r).toNat) : cI (e + 2) 283 [.ref 271, iV (tix p x q), iV (k : Int)] u (fun c w => w = u ∧ c = if xy M r k < 100 then -2 else tpx M r S k) := by
  obtain ⟨m1, m2, m3, m4, m5, m6⟩ := id hM
  obtain ⟨c1, c2, c3, c4, c5⟩ := id hc
  obtain ⟨r0, r1, rx, -⟩ := id c2
  obtain ⟨l1, l2, l3, l4⟩ := m5 r r0 r1
  have hsy := l4 k (by omega) (by omega)
  have e1 := c3 k (by omega)
  have e2 := c3 (k + 1) (by omega)
  rw [show ((k + 1 : Nat) : Int) = (k : Int) + 1 by omega, ← Int.add_assoc] at e2
  refine e_283 ?_
  rw [c1, (hrow r r0 r1).2 k (by omega) (by omega), e1, e2]
  refine ⟨ht.1, ht.2, by omega, by omega, ?_, ?_⟩
  · rcases hsy with z | z <;> exact ⟨by omega, by omega⟩
  by_cases cx : xy M r k < 100
  · rw [if_pos cx]
    exact ⟨rfl, by rw [if_pos cx]⟩
  · rw [if_neg cx]
    exact ⟨by omega, by omega, by omega, by omega, rfl, by rw [if_neg cx]; rfl⟩
theorem Fe_t {M : Mg} {L : T3} {x p q : Int} (hM : Mok M) (hf : Fe M L x p q) : 0 ≤ tix p x q ∧ tix p x q < 16000 := by
  obtain ⟨m1, m2, m3, m4, m5, m6⟩ := id hM
  have a1 := hf.1.1
  have a2 := hf.1.2
  have a3 := hf.2.1.1
  have a4 := hf.2.1.2
  have a5 := hf.2.2.1.1
  have a6 := hf.2.2.1.2
  exact tix_R ⟨a3, by omega⟩ ⟨a1, by omega⟩ ⟨a5, by omega⟩
theorem q_282l {e s : Nat} {M : Mg} {L H : T3} {T : P3} {u : uS} {Q : Int → uS → Prop} (hM : Mok M) (hS : LHs M L H) (hW : WT M L H s T u) : ∀ (h : Nat) (x p q i : Int), T x p q → H x p q ≤ h → 0 ≤ i → i < L x p q → (∀ (h : Nat) (a : Int), LA M L H h x p q i a → Q a u) → K_282 (e + 2) 38 [.ref 271, .retAddr 0, .retAddr 0, lV i, .retAddr 0, iV (tix p x q), .retAddr 0, .retAddr 0, .retAddr 0, .retAddr 0, .retAddr 0] [] u Q := by
  obtain ⟨hV, hO, hrow, hT⟩ := hW
  obtain ⟨m1, m2, m3, m4, m5, m6⟩ := id hM
  intro h
  induction h with
  | zero =>
    intro x p q i hTx hh
    obtain ⟨hk, -⟩ := hT x p q hTx
    have := (Fe_b hS (hV.2.2.2.2 x p q hk).1).2.1
    omega
  | succ h ih =>
    intro x p q i hTx hh hi0 hi1 hQ
    obtain ⟨hk, r, S, c1, c2, c3, -⟩ := hT x p q hTx
    have hfe := (hV.2.2.2.2 x p q hk).1
    have hLb := (Fe_b hS hfe).1
    unfold cB at hLb
    have hch := c1.2.1
    obtain ⟨r0, r1, rx, -⟩ := id hch
    obtain ⟨l1, l2, l3, l4⟩ := m5 r r0 r1
    obtain ⟨j, j1, j2, j3⟩ := psm_ex hch hi0 hi1
    have ht := Fe_t hM hfe
    have e31 : u.1 331 (tix p x q) = r := c2.1
    have e37 := (hrow r r0 r1).1
    refine k_282_38 ?_
    have loop : ∀ (k' k : Nat), k + k' = j → K_282 (e + 2) 45 [.ref 271, .retAddr 0, .retAddr 0, lV (i - psm M L r S k), .retAddr 0, iV (tix p x q), iV (-2), iV (k : Int), .retAddr 0, .retAddr 0, .retAddr 0] [] u Q := by
      intro k'
      induction k' with
      | zero =>
        intro k hkj
        have ek : k = j := by omega
        have hm0 := psm_mono hS hfe hch 0 k (by omega) (by omega)
        have hm00 : psm M L r S 0 = 0 := rfl
        have hjl : psm M L r S (j + 1) = psm M L r S j + lnk M L r S j := rfl
        rw [ek]
        rw [ek] at hm0
        refine k_282_45 ?_
        rw [e31, e37]
        refine ⟨ht.1, ht.2, r0, by omega, ⟨by omega, by omega⟩, ⟨by omega, by omega⟩, ?_⟩
        rw [if_pos (by omega)]
        refine ⟨⟨by omega, by omega⟩, ?_⟩
        rw [if_pos rfl]
        refine cI.mono (q_283 (e := e) (k := j) hM hS hfe c2 hrow ht j1) (Nat.le_refl _) (fun c z ⟨ez, ec⟩ => ?_)
        rw [ez, ec]
        by_cases cx : xy M r j < 100
        · have hl : lnk M L r S j = 1 := by unfold lnk; rw [if_pos cx]
          rw [if_pos cx, e31, (hrow r r0 r1).2 j (by omega) (by omega)]
          refine ⟨⟨by omega, by omega⟩, ?_⟩
          rw [if_pos rfl]
          refine ⟨⟨by omega, by omega⟩, ?_⟩
          rw [if_pos (by omega)]
          exact ⟨by omega, by omega, hQ 1 _ ⟨r, S, j, hch, j1, j2, j3, by rw [if_pos cx]⟩⟩
        · have hl : lnk M L r S j = L (xy M r j - 100) (S j) (S (j + 1)) := by unfold lnk; rw [if_neg cx]
          obtain ⟨tb0, tb1⟩ := tpx_b hM hS hfe hch j1 cx
          obtain ⟨f1, f2, f3⟩ := CH_sub hS hfe hch j1 cx
          have hTp := c3 j j1 cx
          obtain ⟨-, r', S', -, ⟨-, -, -, e34, -⟩, -⟩ := hT _ _ _ hTp
          have e34' : u.1 334 (tpx M r S j) = L (xy M r j - 100) (S j) (S (j + 1)) := e34
          have fb := (Fe_b hS f1).1
          unfold cB at fb
          have hdown := ih _ _ _ (i - psm M L r S j) hTp (by omega) (by omega) (by omega) (fun h a hla => hQ (h + 1) a ⟨r, S, j, hch, j1, j2, j3, by rw [if_neg cx]; exact hla⟩)
          rw [if_neg cx, e34']
          refine ⟨⟨by omega, by omega⟩, ?_⟩
          rw [if_neg (by omega)]
          refine ⟨tb0, tb1, ⟨by omega, by omega⟩, ⟨by omega, by omega⟩, ?_⟩
          rw [if_pos (by omega)]
          refine k_282_45 ?_
          rw [e31, e37]
          refine ⟨ht.1, ht.2, r0, by omega, ⟨by omega, by omega⟩, ⟨by omega, by omega⟩, ?_⟩
          by_cases cl : (j : Int) + 1 < xl M r
          · rw [if_pos cl]
            refine ⟨⟨by omega, by omega⟩, ?_⟩
            rw [if_neg (by omega)]
            exact hdown
          · rw [if_neg cl]
            refine ⟨⟨by omega, by omega⟩, ?_⟩
            rw [if_neg (by omega)]
            exact hdown
      | succ k' ihk =>
        intro k hkj
        have hm0 := psm_mono hS hfe hch 0 k (by omega) (by omega)
        have hm1 := psm_mono hS hfe hch (k + 1) j (by omega) (by omega)
        have hm00 : psm M L r S 0 = 0 := rfl
        have hjl : psm M L r S (k + 1) = psm M L r S k + lnk M L r S k := rfl
        have hn := ihk (k + 1) (by omega)
        rw [hjl, show ((k + 1 : Nat) : Int) = (k : Int) + 1 by omega] at hn
        have hkl : k < (xl M r).toNat := by omega
        refine k_282_45 ?_
        rw [e31, e37]
        refine ⟨ht.1, ht.2, r0, by omega, ⟨by omega, by omega⟩, ⟨by omega, by omega⟩, ?_⟩
        rw [if_pos (by omega)]
        refine ⟨⟨by omega, by omega⟩, ?_⟩
        rw [if_pos rfl]
        refine cI.mono (q_283 (e := e) (k := k) hM hS hfe c2 hrow ht hkl) (Nat.le_refl _) (fun c z ⟨ez, ec⟩ => ?_)
        rw [ez, ec]
        by_cases cx : xy M r k < 100
        · have hl : lnk M L r S k = 1 := by unfold lnk; rw [if_pos cx]
          rw [if_pos cx]
          refine ⟨⟨by omega, by omega⟩, ?_⟩
          rw [if_pos rfl]
          refine ⟨⟨by omega, by omega⟩, ?_⟩
          rw [if_neg (by omega)]
          rw [hl, ← Int.sub_sub] at hn
          exact hn
        · have hl : lnk M L r S k = L (xy M r k - 100) (S k) (S (k + 1)) := by unfold lnk; rw [if_neg cx]
          obtain ⟨tb0, tb1⟩ := tpx_b hM hS hfe hch hkl cx
          obtain ⟨f1, f2, f3⟩ := CH_sub hS hfe hch hkl cx
          have hTp := c3 k hkl cx
          obtain ⟨-, r', S', -, ⟨-, -, -, e34, -⟩, -⟩ := hT _ _ _ hTp
          have e34' : u.1 334 (tpx M r S k) = L (xy M r k - 100) (S k) (S (k + 1)) := e34
          have fb := (Fe_b hS f1).1
          unfold cB at fb
          rw [if_neg cx, e34']
          refine ⟨⟨by omega, by omega⟩, ?_⟩
          rw [if_neg (by omega)]
          refine ⟨tb0, tb1, ⟨by omega, by omega⟩, ⟨by omega, by omega⟩, ?_⟩
          rw [if_neg (by omega)]
          rw [hl, ← Int.sub_sub] at hn
          exact hn
    have := loop j 0 (by omega)
    rw [show i - psm M L r S 0 = i by show i - 0 = i; omega] at this
    exact this
theorem st_letter {d : Nat} {u : uS} {i : Int} (hi : rL i) (hX : invX u) : cI (d + 7) 180 [.ref 0, lV i] u (fun r u1 => cI (d + 7) 282 [.ref 271, lV i] u1 (fun r' u2 => r' = r ∧ F231 u u2 (fun j => j = 9))) := by
  have same : ∀ r : Int, r = r ∧ F231 u u (fun j => j = 9) := fun r => ⟨rfl, rfl, fun _ _ => rfl, fun _ _ => rfl⟩
  rcases hX.2 with ⟨h1, h2⟩ | ⟨h1, h2, M, L, H, s, b, hM, hS, hV, hO, hb, hk, h74, h75, hr, T, hT0, hT⟩
  · refine e_180 ?_
    rw [h1]
    refine ⟨⟨by omega, by omega⟩, ?_⟩
    rw [if_pos rfl]
    refine e_282 (d := d + 6) ?_
    rw [h2]
    refine ⟨⟨by omega, by omega⟩, ?_⟩
    rw [if_pos rfl]
    exact same _
  · obtain ⟨m1, m2, m3, m4, m5, m6⟩ := id hM
    have hW : WT M L H s T u := ⟨hV, hO, hr, hT⟩
    obtain ⟨hk0, r, S, c1, c2, c3, -⟩ := hT 0 0 b hT0
    have hbR := hk.2.2.1
    have b0 := hbR.1
    have b1 := hbR.2
    have etc : tcx (xn M) 0 0 b = b := by
      unfold tcx
      rw [Int.zero_mul, Int.add_zero, Int.zero_mul, Int.zero_add]
    obtain ⟨hfe, v44, v45⟩ := hV.2.2.2.2 0 0 b hk
    obtain ⟨fb, fh1, fh2⟩ := Fe_b hS hfe
    unfold cB at fb
    rw [etc] at v44
    obtain ⟨-, -, -, r34, -⟩ := c2
    have ht := Fe_t hM hfe
    -- the other side, at a state that differs in the held witness alone
    have ref : ∀ z : uS, F231 u z (fun j => j = 9) → ∀ a : Int, ((i < 0 ∨ ¬ i < L 0 0 b) ∧ a = -2) ∨ (¬ i < 0 ∧ i < L 0 0 b ∧ ∃ h, LA M L H h 0 0 b i a) → cI (d + 7) 282 [.ref 271, lV i] z (fun r' u2 => r' = a ∧ F231 u u2 (fun j => j = 9)) := fun z zF a ha => by
      refine e_282 (d := d + 6) ?_
      rw [zF.2.1 271 (by decide), zF.2.1 334 (by decide), h2, h74, r34]
      refine ⟨⟨by omega, by omega⟩, ?_⟩
      rw [if_neg (by omega)]
      refine ⟨hi, ?_⟩
      by_cases i0 : i < 0
      · rw [if_pos i0]
        rcases ha with h | h
        · exact ⟨h.2.symm, zF⟩
        · exact absurd i0 h.1
      rw [if_neg i0]
      refine ⟨ht.1, ht.2, ⟨by omega, by omega⟩, ?_⟩
      by_cases i1 : i < L 0 0 b
      · rw [if_pos i1]
        rcases ha with h | ⟨-, -, h, hla⟩
        · omega
        · exact q_282l (e := d + 4) hM hS (WT_tr zF.2.1 hW) (H 0 0 b).toNat 0 0 b i hT0 (by omega) (by omega) i1 (fun h' a' hla' => ⟨LA_u hS h' h 0 0 b i a' a hfe hla' hla, zF⟩)
      · rw [if_neg i1]
        rcases ha with h | h
        · exact ⟨h.2.symm, zF⟩
        · exact absurd h.2.1 i1
    refine e_180 ?_
    rw [h1]
    refine ⟨⟨by omega, by omega⟩, ?_⟩
    rw [if_neg (by omega)]
    refine e_181 (d := d + 4) ?_
    rw [hb, v44]
    refine ⟨hi, ?_⟩
    by_cases i0 : i < 0
    · rw [if_pos i0]
      exact ref u (same 0).2 (-2) (Or.inl ⟨Or.inl i0, rfl⟩)
    rw [if_neg i0]
    refine ⟨b0, by omega, ⟨by omega, by omega⟩, ?_⟩
    by_cases i1 : i < L 0 0 b
    · rw [if_pos i1]
      intro w ew
      have wF : F231 u w (fun j => j = 9) := by rw [ew]; exact F231_wr (same 0).2 rfl
      obtain ⟨idx, x0, x1, x2⟩ := hO.2.2.2.1 0 0 b hk
      have := q_181l (e := d) hM hS hW idx.toNat 0 0 b i idx 0 w (fun r u1 => cI (d + 7) 282 [.ref 271, lV i] u1 (fun r' u2 => r' = r ∧ F231 u u2 (fun j => j = 9))) hT0 x0 (by omega) x2 (Int.le_refl 0) (by omega) wF (by rw [ew, wr_self]) (by omega) i1 (fun h a z hla zF => ref z zF a (Or.inr ⟨i0, i1, h, hla⟩))
      rw [etc] at this
      rw [wF.2.1 232 (by decide), hb]
      exact this
    · rw [if_neg i1]
      exact ref u (same 0).2 (-2) (Or.inl ⟨Or.inr i1, rfl⟩)
