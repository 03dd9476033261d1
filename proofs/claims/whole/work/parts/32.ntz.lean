/-! Integer.numberOfTrailingZeros, Long.numberOfTrailingZeros -/
def f_78 (y : Int) : Int := if 0 < y then (if 65536 < y then (if 256 < iushr y 16 then (if 16 < iushr (iushr y 16) 8 then (if 4 < iushr (iushr (iushr y 16) 8) 4 then ((((((1 + 16) + 8) + 4) + 2) + (iushr (iushr (iushr (iushr (iushr y 16) 8) 4) 2) 1))) else (((((1 + 16) + 8) + 4) + (iushr (iushr (iushr (iushr y 16) 8) 4) 1)))) else (if 4 < iushr (iushr y 16) 8 then (((((1 + 16) + 8) + 2) + (iushr (iushr (iushr (iushr y 16) 8) 2) 1))) else ((((1 + 16) + 8) + (iushr (iushr (iushr y 16) 8) 1))))) else (if 16 < iushr y 16 then (if 4 < iushr (iushr y 16) 4 then (((((1 + 16) + 4) + 2) + (iushr (iushr (iushr (iushr y 16) 4) 2) 1))) else ((((1 + 16) + 4) + (iushr (iushr (iushr y 16) 4) 1)))) else (if 4 < iushr y 16 then ((((1 + 16) + 2) + (iushr (iushr (iushr y 16) 2) 1))) else (((1 + 16) + (iushr (iushr y 16) 1)))))) else (if 256 < y then (if 16 < iushr y 8 then (if 4 < iushr (iushr y 8) 4 then (((((1 + 8) + 4) + 2) + (iushr (iushr (iushr (iushr y 8) 4) 2) 1))) else ((((1 + 8) + 4) + (iushr (iushr (iushr y 8) 4) 1)))) else (if 4 < iushr y 8 then ((((1 + 8) + 2) + (iushr (iushr (iushr y 8) 2) 1))) else (((1 + 8) + (iushr (iushr y 8) 1))))) else (if 16 < y then (if 4 < iushr y 4 then ((((1 + 4) + 2) + (iushr (iushr (iushr y 4) 2) 1))) else (((1 + 4) + (iushr (iushr y 4) 1)))) else (if 4 < y then (((1 + 2) + (iushr (iushr y 2) 1))) else ((1 + (iushr y 1))))))) else ((iand y 32))
theorem w_78 {Q : Int → uS → Prop} {u : uS} {y : Int} (h : Q (f_78 y) u) : if 0 < y then (if 65536 < y then (if 256 < iushr y 16 then (if 16 < iushr (iushr y 16) 8 then (if 4 < iushr (iushr (iushr y 16) 8) 4 then (Q (((((1 + 16) + 8) + 4) + 2) + (iushr (iushr (iushr (iushr (iushr y 16) 8) 4) 2) 1)) u) else (Q ((((1 + 16) + 8) + 4) + (iushr (iushr (iushr (iushr y 16) 8) 4) 1)) u)) else (if 4 < iushr (iushr y 16) 8 then (Q ((((1 + 16) + 8) + 2) + (iushr (iushr (iushr (iushr y 16) 8) 2) 1)) u) else (Q (((1 + 16) + 8) + (iushr (iushr (iushr y 16) 8) 1)) u))) else (if 16 < iushr y 16 then (if 4 < iushr (iushr y 16) 4 then (Q ((((1 + 16) + 4) + 2) + (iushr (iushr (iushr (iushr y 16) 4) 2) 1)) u) else (Q (((1 + 16) + 4) + (iushr (iushr (iushr y 16) 4) 1)) u)) else (if 4 < iushr y 16 then (Q (((1 + 16) + 2) + (iushr (iushr (iushr y 16) 2) 1)) u) else (Q ((1 + 16) + (iushr (iushr y 16) 1)) u)))) else (if 256 < y then (if 16 < iushr y 8 then (if 4 < iushr (iushr y 8) 4 then (Q ((((1 + 8) + 4) + 2) + (iushr (iushr (iushr (iushr y 8) 4) 2) 1)) u) else (Q (((1 + 8) + 4) + (iushr (iushr (iushr y 8) 4) 1)) u)) else (if 4 < iushr y 8 then (Q (((1 + 8) + 2) + (iushr (iushr (iushr y 8) 2) 1)) u) else (Q ((1 + 8) + (iushr (iushr y 8) 1)) u))) else (if 16 < y then (if 4 < iushr y 4 then (Q (((1 + 4) + 2) + (iushr (iushr (iushr y 4) 2) 1)) u) else (Q ((1 + 4) + (iushr (iushr y 4) 1)) u)) else (if 4 < y then (Q ((1 + 2) + (iushr (iushr y 2) 1)) u) else (Q (1 + (iushr y 1)) u))))) else (Q (iand y 32) u) := by
  unfold f_78 at h
  by_cases c1 : 0 < y
  · rw [if_pos c1] at h ⊢
    by_cases c2 : 65536 < y
    · rw [if_pos c2] at h ⊢
      by_cases c3 : 256 < iushr y 16
      · rw [if_pos c3] at h ⊢
        by_cases c4 : 16 < iushr (iushr y 16) 8
        · rw [if_pos c4] at h ⊢
          by_cases c5 : 4 < iushr (iushr (iushr y 16) 8) 4
          · rw [if_pos c5] at h ⊢
            exact h
          · rw [if_neg c5] at h ⊢
            exact h
        · rw [if_neg c4] at h ⊢
          by_cases c5 : 4 < iushr (iushr y 16) 8
          · rw [if_pos c5] at h ⊢
            exact h
          · rw [if_neg c5] at h ⊢
            exact h
      · rw [if_neg c3] at h ⊢
        by_cases c4 : 16 < iushr y 16
        · rw [if_pos c4] at h ⊢
          by_cases c5 : 4 < iushr (iushr y 16) 4
          · rw [if_pos c5] at h ⊢
            exact h
          · rw [if_neg c5] at h ⊢
            exact h
        · rw [if_neg c4] at h ⊢
          by_cases c5 : 4 < iushr y 16
          · rw [if_pos c5] at h ⊢
            exact h
          · rw [if_neg c5] at h ⊢
            exact h
    · rw [if_neg c2] at h ⊢
      by_cases c3 : 256 < y
      · rw [if_pos c3] at h ⊢
        by_cases c4 : 16 < iushr y 8
        · rw [if_pos c4] at h ⊢
          by_cases c5 : 4 < iushr (iushr y 8) 4
          · rw [if_pos c5] at h ⊢
            exact h
          · rw [if_neg c5] at h ⊢
            exact h
        · rw [if_neg c4] at h ⊢
          by_cases c5 : 4 < iushr y 8
          · rw [if_pos c5] at h ⊢
            exact h
          · rw [if_neg c5] at h ⊢
            exact h
      · rw [if_neg c3] at h ⊢
        by_cases c4 : 16 < y
        · rw [if_pos c4] at h ⊢
          by_cases c5 : 4 < iushr y 4
          · rw [if_pos c5] at h ⊢
            exact h
          · rw [if_neg c5] at h ⊢
            exact h
        · rw [if_neg c4] at h ⊢
          by_cases c5 : 4 < y
          · rw [if_pos c5] at h ⊢
            exact h
          · rw [if_neg c5] at h ⊢
            exact h
  · rw [if_neg c1] at h ⊢
    exact h
theorem f_78_t : ∀ t : Fin 32, f_78 ((2 : Int) ^ t.val - 1) = (t.val : Int) := by decide +kernel
theorem f_78_m : f_78 (-1) = 32 := by decide +kernel
/-- the number of an int's lowest bit; 32 if there is none -/
theorem low_i {x : Int} (h : BitVec.ofInt 32 x ≠ 0#32) : ∃ t : Nat, t < 32 ∧ bi x t = true ∧ (∀ j, j < t → bi x j = false) ∧ iand (ixor x (-1)) (x - 1) = (2 : Int) ^ t - 1 := by
  obtain ⟨t, ht, h1, h2, h3⟩ := bv_pred _ h
  refine ⟨t, ht, h1, h2, ?_⟩
  have e : BitVec.ofInt 32 (x - 1) = BitVec.ofInt 32 x - 1#32 := by
    rw [Int.sub_eq_add_neg, BitVec.ofInt_add, BitVec.sub_eq_add_neg]
    congr 1
  have hp : ∀ s : Fin 32, rI ((2 : Int) ^ s.val - 1) ∧ BitVec.ofInt 32 ((2 : Int) ^ s.val - 1) = BitVec.ofNat 32 (2 ^ s.val - 1) := by decide +kernel
  have hp := hp ⟨t, ht⟩
  refine bi_ext (ri_iand _ _) hp.1 (fun j hj => ?_)
  rw [bi_iand, bi_ixor, bi_m1 hj]
  have e2 : bi (x - 1) j = if j ≤ t then decide (j < t) else bi x j := by
    unfold bi
    rw [e]
    exact h3 j
  have e3 : bi ((2 : Int) ^ t - 1) j = decide (j < t) := by
    unfold bi
    rw [hp.2, BitVec.getLsbD_ofNat, Nat.testBit_two_pow_sub_one]
    simp [hj]
  rw [e2, e3]
  by_cases hjt : j < t
  · rw [if_pos (by omega), show bi x j = false from h2 j hjt]
    simp [hjt]
  · by_cases hjt2 : j = t
    · subst hjt2
      rw [if_pos (Nat.le_refl _), show bi x j = true from h1]
      simp
    · rw [if_neg (by omega)]
      have : ¬ j < t := hjt
      cases bi x j <;> simp [this]
theorem c_78 {d : Nat} {u : uS} {x : Int} {t : Nat} (ht : bi x t = true) (hl : ∀ j, j < t → bi x j = false) : cI (d + 1) 78 [iV x] u (fun r u' => r = t ∧ u' = u) := by
  have hX : BitVec.ofInt 32 x ≠ 0#32 := by
    intro e
    unfold bi at ht
    rw [e] at ht
    simp at ht
  obtain ⟨s, hs, h1, h2, h3⟩ := low_i hX
  have est : s = t := by
    rcases Nat.lt_trichotomy s t with h | h | h
    · rw [hl s h] at h1
      cases h1
    · exact h
    · rw [h2 t h] at ht
      cases ht
  subst est
  refine e_78 ?_
  rw [h3]
  exact w_78 (Q := fun r u' => r = (s : Int) ∧ u' = u) ⟨f_78_t ⟨s, hs⟩, rfl⟩
theorem bi_of_bt {x : Int} {j : Nat} (h : j < 32) : bi x j = bt x j := by
  have e : BitVec.ofInt 32 x = (BitVec.ofInt 64 x).setWidth 32 := by
    apply BitVec.eq_of_toNat_eq
    rw [BitVec.toNat_setWidth, BitVec.toNat_ofInt, BitVec.toNat_ofInt]
    have e1 : ((2 ^ 32 : Nat) : Int) = 4294967296 := by decide
    have e2 : ((2 ^ 64 : Nat) : Int) = 18446744073709551616 := by decide
    rw [e1, e2]
    omega
  unfold bi bt
  rw [e, BitVec.getLsbD_setWidth]
  simp [h]
theorem wI_bi (x : Int) (j : Nat) : bi (wI x) j = bi x j := by
  unfold bi wI
  rw [bv_i]
  rfl
theorem ri_ntz (x : Int) : rI (ntz x) := by
  unfold ntz
  cases h : (List.range 64).find? (fun i => bt x i) with
  | none => decide
  | some t =>
    have := List.mem_of_find?_eq_some h
    rw [List.mem_range] at this
    simp only [Option.getD_some]
    constructor <;> omega
theorem p_77 {d : Nat} {u : uS} {x : Int} : cI (d + 2) 77 [lV x] u (fun r u' => r = ntz x ∧ u' = u) := by
  refine e_77 ?_
  by_cases h0 : wI x = 0
  · rw [if_pos h0]
    have hz : ∀ j, j < 32 → bt x j = false := fun j hj => by rw [← bi_of_bt hj, ← wI_bi, h0, bi_0]
    by_cases hx : ∀ j, j < 64 → bt x j = false
    · have hn : ntz x = 64 := by
        unfold ntz
        have : (List.range 64).find? (fun i => bt x i) = none := by
          rw [List.find?_eq_none]
          intro i hi
          rw [List.mem_range] at hi
          simp [hx i hi]
        rw [this]
        rfl
      have hy : wI (lushr x 32) = 0 := by
        refine bi_ext (ri_toInt _) (by decide) (fun j hj => ?_)
        rw [wI_bi, bi_of_bt hj, show (32 : Int) = ((32 : Nat) : Int) from rfl, bt_ushr x (by decide), hx _ (by omega), bi_0]
      rw [hy]
      refine e_78 ?_
      rw [show iand (ixor 0 (-1)) (0 - 1) = -1 from by decide +kernel]
      exact w_78 (Q := fun r u' => 32 + r = ntz x ∧ u' = u) ⟨by rw [f_78_m, hn]; rfl, rfl⟩
    · have hex : ∃ t, t < 64 ∧ bt x t = true ∧ ∀ j, j < t → bt x j = false := by
        cases hf : (List.range 64).find? (fun i => bt x i) with
        | none =>
          exfalso
          apply hx
          intro j hj
          rw [List.find?_eq_none] at hf
          have := hf j (List.mem_range.mpr hj)
          simpa using this
        | some t =>
          rw [List.find?_range_eq_some] at hf
          exact ⟨t, List.mem_range.mp hf.2.1, hf.1, fun j hj => by simpa using hf.2.2 j hj⟩
      obtain ⟨t, h64, ht, hl⟩ := hex
      have h32 : 32 ≤ t := by
        rcases Nat.lt_or_ge t 32 with h | h
        · rw [hz t h] at ht
          cases ht
        · exact h
      have key : ∀ j, bi (wI (lushr x 32)) j = if j < 32 then bt x (32 + j) else false := by
        intro j
        by_cases hj : j < 32
        · rw [if_pos hj, wI_bi, bi_of_bt hj, show (32 : Int) = ((32 : Nat) : Int) from rfl, bt_ushr x (by decide)]
        · rw [if_neg hj]
          exact bi_big (by omega)
      refine cI.mono (c_78 (d := d) (t := t - 32) ?_ ?_) (by omega) ?_
      · rw [key, if_pos (by omega), show 32 + (t - 32) = t by omega]
        exact ht
      · intro j hj
        rw [key, if_pos (by omega)]
        exact hl _ (by omega)
      · intro v u' hv
        refine ⟨?_, hv.2⟩
        rw [ntz_of ht hl, hv.1]
        omega
  · rw [if_neg h0]
    have hX : BitVec.ofInt 32 (wI x) ≠ 0#32 := by
      intro e
      apply h0
      have h1 : wI (wI x) = wI x := wI_eq (ri_toInt _)
      rw [← h1]
      exact congrArg BitVec.toInt e
    obtain ⟨t, h32, ht, hl, _⟩ := low_i hX
    refine cI.mono (c_78 (d := d) ht hl) (by omega) ?_
    intro v u' hv
    refine ⟨?_, hv.2⟩
    rw [hv.1, ntz_of (x := x) (t := t) (by rw [← bi_of_bt h32, ← wI_bi]; exact ht) (fun j hj => by rw [← bi_of_bt (by omega), ← wI_bi]; exact hl j hj)]
