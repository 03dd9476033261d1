/-! The witness: leastEnd, leastStates, choose -/
theorem nx_K {M : Mg} {L H : T3} {K : P3} {x p q r b C o : Int} {m : Nat} (hS : LHs M L H) (hx : Fe M L x p q) (hK : clK M L H K x p q) (hC : 0 ≤ C) (hn : nx M L H x p q r m o C b) : (xy M r m < 100 ∧ b = xd M o (xy M r m)) ∨ (¬ xy M r m < 100 ∧ K (xy M r m - 100) o b) := by
  obtain ⟨c1, g1, c', g', n1, n2, n3, n4, n5, n6⟩ := hn
  have b2 := lw_b hS (fun _ _ _ h => h) _ _ _ _ n4
  unfold stk at n2
  by_cases e : xy M r m < 100
  · rw [if_pos e] at n2
    exact Or.inl ⟨e, n2.1⟩
  · rw [if_neg e] at n2
    obtain ⟨f1, f2, f3⟩ := n2
    refine Or.inr ⟨e, hK.2 _ _ _ f1 ?_ (by rw [← f3]; exact n3)⟩
    have := (Fe_b hS f1).1.2
    rw [← f2] at this ⊢
    omega
theorem sts_C {M : Mg} {L H : T3} {x p q r : Int} {S C : Nat → Int} {m : Nat} (hS : LHs M L H) (hp : iR (xn M) p) (h : sts M L H x p q r S C m) : 0 ≤ C m := by
  obtain ⟨-, g, -, hw⟩ := sts_wk hS hp m h
  exact (wk_b hS (fun _ _ _ h => h) _ _ _ _ hw).1
theorem sts_fol {M : Mg} {L H : T3} {K : P3} {x p q r : Int} {S C : Nat → Int} (hS : LHs M L H) (hx : Fe M L x p q) (hK : clK M L H K x p q) : ∀ m, sts M L H x p q r S C m → fol K (xd M) (xy M r) (xn M) p m (S m) := by
  intro m
  induction m with
  | zero => intro h; exact h.1
  | succ m ih =>
    intro h
    have h' := sts_mono h (show m ≤ m + 1 by omega)
    refine ⟨S m, (sts_wk hS hx.2.1 m h').1, ih h', ?_⟩
    rcases nx_K hS hx hK (sts_C hS hx.2.1 h') (h.2.2 m (by omega)).1 with ⟨z1, z2⟩ | ⟨z1, z2⟩
    · rw [if_pos z1]; exact z2.symm
    · rw [if_neg z1]; exact z2
theorem q_170 {e mk m : Nat} {M : Mg} {L H : T3} {u : uS} {x p q r : Int} {S C : Nat → Int} (hmk : mk = 59 ∨ mk = 61) (hM : Mok M) (hS : LHs M L H) (hW : sW M mk L H u) (hk : Kv M u x p q) (hcl : clK M L H (Kv M u) x p q) (r0 : 0 ≤ r) (r1 : r < xr M) (rh : xh M r = x) (hfit : fit M L H x p q r) (hR : RV M L H (Kv M u) (H x p q) r p q 0 u) (hm : m < (xl M r).toNat) (hs : sts M L H x p q r S C m) (hy : ¬ xy M r m < 100) : cI (e + 3) 170 [.ref 231, iV (xy M r m - 100), iV (m : Int), iV (S m), lV (min 4000000000000000000 (C m)), iV (tcx (xn M) x p q)] u (fun b w => w = u ∧ nx M L H x p q r m (S m) (C m) b ∧ Kv M u (xy M r m - 100) (S m) b ∧ ∀ b', 0 ≤ b' → b' < b → ¬ nx M L H x p q r m (S m) (C m) b') := by
  obtain ⟨m1, m2, m3, m4, m5, m6⟩ := id hM
  obtain ⟨nb1, nb2, nb3, nb4⟩ := nn_b m1 m4
  obtain ⟨l1, l2, l3, l4⟩ := m5 r r0 r1
  obtain ⟨w1, w2, w3, w4, w5, w6, w7⟩ := id hW
  obtain ⟨hx, hp, hq, -⟩ := id hk
  obtain ⟨b1, b2, b3, b4⟩ := tcx_b hx hp hq
  obtain ⟨hfe, v44, v45⟩ := w7 x p q hk
  obtain ⟨fb1, fb2, fb3⟩ := Fe_b hS hfe
  have hC := sts_C hS hp hs
  have hSm := (sts_wk hS hp m hs).1
  have s0 := hSm.1
  have s1 := hSm.2
  have hsy := l4 m (by omega) (by omega)
  have hyR : iR (xv M) (xy M r m - 100) := by
    unfold symR at hsy
    exact ⟨by omega, by omega⟩
  have y0 := hyR.1
  have y1 := hyR.2
  have hfo := sts_fol hS hfe hcl m hs
  obtain ⟨hrow, hbit⟩ := stB_F w6 hyR hSm
  generalize ht : tcx (xn M) x p q = t at *
  generalize hQQ : (fun (b : Int) (w : uS) => w = u ∧ nx M L H x p q r m (S m) (C m) b ∧ Kv M u (xy M r m - 100) (S m) b ∧ ∀ b', 0 ≤ b' → b' < b → ¬ nx M L H x p q r m (S m) (C m) b') = Q
  refine e_170 ⟨by omega, by omega, ?_⟩
  generalize hX : u.1 247 ((xy M r m - 100) * 40 + S m) = X at hrow hbit ⊢
  have hnx : ∀ b, nx M L H x p q r m (S m) (C m) b → 0 ≤ b ∧ bt X b.toNat = true := fun b hn => by
    rcases nx_K hS hfe hcl hC hn with ⟨z, -⟩ | ⟨-, z⟩
    · exact absurd z hy
    · have hb := z.2.2.1
      have hb0 := hb.1
      exact ⟨hb0, (hbit b.toNat).mpr (by rw [show ((b.toNat : Nat) : Int) = b by omega]; exact ⟨hb.2, z⟩)⟩
  have loop : ∀ Y, rL Y → (∀ i, bt Y i = true → bt X i = true) → (∀ b : Nat, bt X b = true → bt Y b = false → ¬ nx M L H x p q r m (S m) (C m) b) → K_170 (e + 2) 15 [.ref 231, iV (xy M r m - 100), iV (m : Int), iV (S m), lV (min 4000000000000000000 (C m)), .retAddr 0, iV t, lV Y, .retAddr 0, .retAddr 0, .retAddr 0, .retAddr 0, .retAddr 0] [] u Q := by
    refine bits_ind ?_ ?_
    · intro _ hn
      exfalso
      obtain ⟨b, hb⟩ := sts_next hfit hm hs
      obtain ⟨z1, z2⟩ := hnx b hb
      exact hn b.toNat z2 (bt_0 _) (by rw [show ((b.toNat : Nat) : Int) = b by omega]; exact hb)
    · intro Y s hY hY0 s1' s2 s3 s4 s5 ihY hsub hn
      obtain ⟨c1, c2⟩ := (hbit s).mp (hsub s s3)
      have hsR : iR (xn M) (s : Int) := ⟨by omega, c1⟩
      obtain ⟨pb1, pb2, pb3, pb4⟩ := tcx_b hyR hSm hsR
      obtain ⟨pfe, p44, p45⟩ := w7 _ _ _ c2
      obtain ⟨pf1, pf2, pf3⟩ := Fe_b hS pfe
      have hv := hR (m + 1) (Nat.zero_le _) (by omega) s hsR ⟨S m, hSm, hfo, by rw [if_neg hy]; exact c2⟩
      rw [show ((m + 1 : Nat) : Int) = (m : Int) + 1 by omega, show (xl M r).toNat - (m + 1) = (xl M r).toNat - m - 1 by omega] at hv
      have hiff := nx_val hS hfe hcl r0 r1 rh hm hs hy c2 hv
      have next : ¬ nx M L H x p q r m (S m) (C m) s → K_170 (e + 2) 15 [.ref 231, iV (xy M r m - 100), iV (m : Int), iV (S m), lV (min 4000000000000000000 (C m)), .retAddr 0, iV t, lV (land Y (Y - 1)), .retAddr 0, .retAddr 0, .retAddr 0, .retAddr 0, .retAddr 0] [] u Q := fun hno => by
        refine ihY (fun i hi => ?_) (fun b hb1 hb2 => ?_)
        · rw [s5, Bool.and_eq_true] at hi
          exact hsub i hi.1
        · by_cases eb : b = s
          · rw [eb]; exact hno
          · refine hn b hb1 ?_
            rw [s5] at hb2
            simpa [eb] using hb2
      refine k_170_15 ⟨hY, ?_⟩
      rw [if_neg hY0, s2, w5, show ((xy M r m - 100) * (xn M : Int) + S m) * (xn M : Int) + (s : Int) = tcx (xn M) (xy M r m - 100) (S m) s from rfl, p44, p45, v44, v45]
      refine ⟨pb3, by omega, Or.inr ⟨by omega, by omega⟩, Or.inr pf1, by omega, by omega, mnv_cn hv, b3, by omega, ⟨by omega, by omega⟩, ⟨by omega, by omega⟩, ?_⟩
      by_cases k1 : H (xy M r m - 100) (S m) s < H x p q
      · rw [if_pos k1]
        refine ⟨⟨by have := fb1.1; omega, by have := fb1.2; omega⟩, ?_⟩
        by_cases k2 : pl 9000000000000000000 (pl 9000000000000000000 (min 4000000000000000000 (C m)) (L (xy M r m - 100) (S m) s)) (u.1 270 (((m : Int) + 1) * 40 + s)) = L x p q
        · rw [if_pos k2, ← hQQ]
          refine ⟨rfl, hiff.mp ⟨k1, k2⟩, c2, fun b' b0' b1' hn' => ?_⟩
          obtain ⟨z1, z2⟩ := hnx b' hn'
          cases hY' : bt Y b'.toNat with
          | true =>
            have := s4 b'.toNat (by omega)
            rw [hY'] at this
            cases this
          | false =>
            exact hn b'.toNat z2 hY' (by rw [show ((b'.toNat : Nat) : Int) = b' by omega]; exact hn')
        · rw [if_neg k2]
          exact next (fun hh => k2 (hiff.mpr hh).2)
      · rw [if_neg k1]
        exact next (fun hh => k1 (hiff.mpr hh).1)
  exact loop X hrow (fun i hi => hi) (fun b hb1 hb2 => by rw [hb1] at hb2; cases hb2)
/-- states packed into one number -/
def pk (v : Int) (S : Nat → Int) (m : Nat) : Prop := ∀ i, i < 32 → bi v i = (decide (i < 6 * m) && bi (S (i / 6 + 1)) (i % 6))
theorem bi_small {x : Int} (h0 : 0 ≤ x) (h1 : x < 64) {i : Nat} (hi : 6 ≤ i) : bi x i = false := by
  obtain ⟨y, rfl⟩ := Int.eq_ofNat_of_zero_le h0
  show (BitVec.ofInt 32 (y : Int)).getLsbD i = false
  rw [BitVec.ofInt_natCast, BitVec.getLsbD_ofNat, Nat.testBit_lt_two_pow, Bool.and_false]
  have : 2 ^ 6 ≤ 2 ^ i := Nat.pow_le_pow_right (by omega) hi
  omega
theorem pk_0 (S : Nat → Int) : pk 0 S 0 := fun i hi => by
  rw [bi_0, decide_eq_false (by omega), Bool.false_and]
theorem pk_congr {v : Int} {S S' : Nat → Int} {m : Nat} (h : pk v S m) (e : ∀ k, k ≤ m → S k = S' k) : pk v S' m := fun i hi => by
  rw [h i hi]
  by_cases hm : i < 6 * m
  · rw [e (i / 6 + 1) (by omega)]
  · rw [decide_eq_false hm, Bool.false_and, Bool.false_and]
theorem pk_add {v b : Int} {S : Nat → Int} {m : Nat} (h : pk v S m) (hm : m < 5) (hb0 : 0 ≤ b) (hb1 : b < 64) (hS : S (m + 1) = b) : pk (ior v (ishl b (6 * (m : Int)))) S (m + 1) := fun i hi => by
  have e1 : bi (ishl b (6 * (m : Int))) i = (decide (6 * m ≤ i) && bi b (i - 6 * m)) := by
    rw [show (6 * (m : Int)) = ((6 * m : Nat) : Int) by omega]
    show (BitVec.ofInt 32 (ishl b ((6 * m : Nat) : Int))).getLsbD i = _
    rw [bv_ishl b (by omega), BitVec.getLsbD_shiftLeft]
    by_cases c : i < 6 * m
    · simp [c, hi, show ¬ 6 * m ≤ i by omega]
    · simp [c, hi, show 6 * m ≤ i by omega, bi]
  rw [bi_ior, h i hi, e1]
  by_cases c1 : i < 6 * m
  · rw [decide_eq_true c1, decide_eq_false (show ¬ 6 * m ≤ i by omega), decide_eq_true (show i < 6 * (m + 1) by omega), Bool.false_and, Bool.or_false]
  · rw [decide_eq_false c1, Bool.false_and, Bool.false_or, decide_eq_true (show 6 * m ≤ i by omega), Bool.true_and]
    by_cases c2 : i < 6 * (m + 1)
    · rw [decide_eq_true c2, Bool.true_and, show i / 6 + 1 = m + 1 by omega, hS, show i % 6 = i - 6 * m by omega]
    · rw [decide_eq_false c2, Bool.false_and]
      exact bi_small hb0 hb1 (by omega)
theorem bi_63 (i : Nat) (hi : i < 32) : bi 63 i = decide (i < 6) := by
  have : ∀ j : Fin 32, bi 63 j.val = decide (j.val < 6) := by decide
  exact this ⟨i, hi⟩
theorem pk_get {v l : Int} {S : Nat → Int} {m k : Nat} (h : pk v S m) (hm : m ≤ 5) (hk : k < m) (hl : l = (k : Int)) (h0 : 0 ≤ S (k + 1)) (h1 : S (k + 1) < 64) : iand (iushr v (6 * l)) 63 = S (k + 1) := by
  refine bi_ext (ri_iand _ _) ⟨by omega, by omega⟩ (fun i hi => ?_)
  rw [bi_iand, hl, show (6 * (k : Int)) = ((6 * k : Nat) : Int) by omega, bi_ushr v (by omega), bi_63 i hi]
  by_cases c : i < 6
  · rw [decide_eq_true c, Bool.and_true, h _ (by omega), decide_eq_true (show 6 * k + i < 6 * m by omega), Bool.true_and, show (6 * k + i) / 6 + 1 = k + 1 by omega, show (6 * k + i) % 6 = i by omega]
  · rw [decide_eq_false c, Bool.and_false, bi_small h0 h1 (by omega)]
