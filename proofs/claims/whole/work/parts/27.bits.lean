/-! Bits of longs and ints -/
def bt (x : Int) (i : Nat) : Bool := (BitVec.ofInt 64 x).getLsbD i
def bi (x : Int) (i : Nat) : Bool := (BitVec.ofInt 32 x).getLsbD i
theorem bv_l (z : Int64) : BitVec.ofInt 64 z.toInt = z.toBitVec := by rw [← Int64.toInt_toBitVec, BitVec.ofInt_toInt]
theorem bv_i (z : Int32) : BitVec.ofInt 32 z.toInt = z.toBitVec := by rw [← Int32.toInt_toBitVec, BitVec.ofInt_toInt]
theorem bv_land (x y : Int) : BitVec.ofInt 64 (land x y) = BitVec.ofInt 64 x &&& BitVec.ofInt 64 y := bv_l _
theorem bv_lor (x y : Int) : BitVec.ofInt 64 (lor x y) = BitVec.ofInt 64 x ||| BitVec.ofInt 64 y := bv_l _
theorem bv_lxor (x y : Int) : BitVec.ofInt 64 (lxor x y) = BitVec.ofInt 64 x ^^^ BitVec.ofInt 64 y := bv_l _
theorem bv_iand (x y : Int) : BitVec.ofInt 32 (iand x y) = BitVec.ofInt 32 x &&& BitVec.ofInt 32 y := bv_i _
theorem bv_ior (x y : Int) : BitVec.ofInt 32 (ior x y) = BitVec.ofInt 32 x ||| BitVec.ofInt 32 y := bv_i _
theorem bv_ixor (x y : Int) : BitVec.ofInt 32 (ixor x y) = BitVec.ofInt 32 x ^^^ BitVec.ofInt 32 y := bv_i _
theorem bt_land (x y : Int) (i : Nat) : bt (land x y) i = (bt x i && bt y i) := by simp only [bt, bv_land, BitVec.getLsbD_and]
theorem bt_lor (x y : Int) (i : Nat) : bt (lor x y) i = (bt x i || bt y i) := by simp only [bt, bv_lor, BitVec.getLsbD_or]
theorem bt_lxor (x y : Int) (i : Nat) : bt (lxor x y) i = (bt x i ^^ bt y i) := by simp only [bt, bv_lxor, BitVec.getLsbD_xor]
theorem bi_iand (x y : Int) (i : Nat) : bi (iand x y) i = (bi x i && bi y i) := by simp only [bi, bv_iand, BitVec.getLsbD_and]
theorem bi_ior (x y : Int) (i : Nat) : bi (ior x y) i = (bi x i || bi y i) := by simp only [bi, bv_ior, BitVec.getLsbD_or]
theorem bi_ixor (x y : Int) (i : Nat) : bi (ixor x y) i = (bi x i ^^ bi y i) := by simp only [bi, bv_ixor, BitVec.getLsbD_xor]
theorem bt_big {x : Int} {i : Nat} (h : 64 ≤ i) : bt x i = false := BitVec.getLsbD_of_ge _ _ h
theorem bi_big {x : Int} {i : Nat} (h : 32 ≤ i) : bi x i = false := BitVec.getLsbD_of_ge _ _ h
theorem bt_0 (i : Nat) : bt 0 i = false := by simp [bt]
theorem bi_0 (i : Nat) : bi 0 i = false := by simp [bi]
theorem bt_m1 {i : Nat} (h : i < 64) : bt (-1) i = true := by
  have e : BitVec.ofInt 64 (-1) = BitVec.allOnes 64 := by decide
  unfold bt
  rw [e, BitVec.getLsbD_allOnes]
  simp [h]
theorem bi_m1 {i : Nat} (h : i < 32) : bi (-1) i = true := by
  have e : BitVec.ofInt 32 (-1) = BitVec.allOnes 32 := by decide
  unfold bi
  rw [e, BitVec.getLsbD_allOnes]
  simp [h]
theorem bt_1 (i : Nat) : bt 1 i = decide (i = 0) := by
  have e : BitVec.ofInt 64 1 = 1#64 := by decide
  simp [bt, e, BitVec.getLsbD_one]
theorem bi_1 (i : Nat) : bi 1 i = decide (i = 0) := by
  have e : BitVec.ofInt 32 1 = 1#32 := by decide
  simp [bi, e, BitVec.getLsbD_one]
/-- numbers of one range are told apart by their bits -/
theorem bt_ext {x y : Int} (hx : rL x) (hy : rL y) (h : ∀ i, i < 64 → bt x i = bt y i) : x = y := by
  have e : BitVec.ofInt 64 x = BitVec.ofInt 64 y := BitVec.eq_of_getLsbD_eq (fun i hi => h i hi)
  rw [← tl hx, ← tl hy]
  exact congrArg BitVec.toInt e
theorem bi_ext {x y : Int} (hx : rI x) (hy : rI y) (h : ∀ i, i < 32 → bi x i = bi y i) : x = y := by
  have e : BitVec.ofInt 32 x = BitVec.ofInt 32 y := BitVec.eq_of_getLsbD_eq (fun i hi => h i hi)
  rw [← ti hx, ← ti hy]
  exact congrArg BitVec.toInt e
theorem rl_land (x y : Int) : rL (land x y) := rl_toInt _
theorem rl_lor (x y : Int) : rL (lor x y) := rl_toInt _
theorem rl_lxor (x y : Int) : rL (lxor x y) := rl_toInt _
theorem rl_lshl (x y : Int) : rL (lshl x y) := rl_toInt _
theorem rl_lushr (x y : Int) : rL (lushr x y) := rl_toInt _
theorem ri_iand (x y : Int) : rI (iand x y) := ri_toInt _
theorem ri_ior (x y : Int) : rI (ior x y) := ri_toInt _
theorem ri_ishl (x y : Int) : rI (ishl x y) := ri_toInt _
theorem ri_iushr (x y : Int) : rI (iushr x y) := ri_toInt _
/-- shifts -/
theorem sh63a : ∀ y : Fin 64, ((Int32.ofInt (y.val : Int)).toInt64 &&& 63).toBitVec.smod 64 = BitVec.ofNat 64 y.val := by decide
theorem sh63b : ∀ y : Fin 64, ((Int32.ofInt (y.val : Int)).toInt64.toUInt64 &&& Int64.toUInt64 63).toBitVec % 64 = BitVec.ofNat 64 y.val := by decide
theorem sh31a : ∀ y : Fin 32, ((Int32.ofInt (y.val : Int)) &&& 31).toBitVec.smod 32 = BitVec.ofNat 32 y.val := by decide
theorem sh31b : ∀ y : Fin 32, ((Int32.ofInt (y.val : Int)).toUInt32 &&& Int32.toUInt32 31).toBitVec % 32 = BitVec.ofNat 32 y.val := by decide
theorem bv_lshl (x : Int) {y : Nat} (h : y < 64) : BitVec.ofInt 64 (lshl x y) = BitVec.ofInt 64 x <<< y := by
  unfold lshl
  rw [bv_l, Int64.toBitVec_shiftLeft, sh63a ⟨y, h⟩]
  rw [BitVec.shiftLeft_eq', BitVec.toNat_ofNat, Nat.mod_eq_of_lt (by omega)]
  rfl
theorem bv_lushr (x : Int) {y : Nat} (h : y < 64) : BitVec.ofInt 64 (lushr x y) = BitVec.ofInt 64 x >>> y := by
  unfold lushr
  rw [bv_l]
  show (BitVec.ofInt 64 x) >>> ((((Int32.ofInt (y : Int)).toInt64.toUInt64 &&& Int64.toUInt64 63).toBitVec % 64)) = _
  rw [sh63b ⟨y, h⟩]
  rw [BitVec.ushiftRight_eq', BitVec.toNat_ofNat, Nat.mod_eq_of_lt (by omega)]
theorem bv_ishl (x : Int) {y : Nat} (h : y < 32) : BitVec.ofInt 32 (ishl x y) = BitVec.ofInt 32 x <<< y := by
  unfold ishl
  rw [bv_i, Int32.toBitVec_shiftLeft, sh31a ⟨y, h⟩]
  rw [BitVec.shiftLeft_eq', BitVec.toNat_ofNat, Nat.mod_eq_of_lt (by omega)]
  rfl
theorem bv_iushr (x : Int) {y : Nat} (h : y < 32) : BitVec.ofInt 32 (iushr x y) = BitVec.ofInt 32 x >>> y := by
  unfold iushr
  rw [bv_i]
  show (BitVec.ofInt 32 x) >>> ((((Int32.ofInt (y : Int)).toUInt32 &&& Int32.toUInt32 31).toBitVec % 32)) = _
  rw [sh31b ⟨y, h⟩]
  rw [BitVec.ushiftRight_eq', BitVec.toNat_ofNat, Nat.mod_eq_of_lt (by omega)]
theorem bt_shl1 {y : Nat} (h : y < 64) (i : Nat) : bt (lshl 1 y) i = decide (i = y) := by
  unfold bt
  rw [bv_lshl 1 h, BitVec.getLsbD_shiftLeft]
  have e := bt_1 (i - y)
  unfold bt at e
  rw [e]
  by_cases hi : i < 64
  · by_cases h2 : i < y
    · simp [hi, h2]; omega
    · simp [hi, h2]; omega
  · simp [hi]; omega
theorem bi_shl1 {y : Nat} (h : y < 32) (i : Nat) : bi (ishl 1 y) i = decide (i = y) := by
  unfold bi
  rw [bv_ishl 1 h, BitVec.getLsbD_shiftLeft]
  have e := bi_1 (i - y)
  unfold bi at e
  rw [e]
  by_cases hi : i < 32
  · by_cases h2 : i < y
    · simp [hi, h2]; omega
    · simp [hi, h2]; omega
  · simp [hi]; omega
theorem bt_ushr (x : Int) {y : Nat} (h : y < 64) (i : Nat) : bt (lushr x y) i = bt x (y + i) := by
  unfold bt
  rw [bv_lushr x h, BitVec.getLsbD_ushiftRight]
theorem bi_ushr (x : Int) {y : Nat} (h : y < 32) (i : Nat) : bi (iushr x y) i = bi x (y + i) := by
  unfold bi
  rw [bv_iushr x h, BitVec.getLsbD_ushiftRight]
/-- one bit asked for -/
theorem land1 (x : Int) : land x 1 = if bt x 0 = true then 1 else 0 := by
  refine bt_ext (rl_land x 1) (by split <;> decide) (fun i _ => ?_)
  rw [bt_land, bt_1]
  by_cases hi : i = 0
  · subst hi
    by_cases hb : bt x 0 = true
    · simp [hb, bt_1]
    · simp [hb, bt_0]
  · by_cases hb : bt x 0 = true
    · simp [hb, bt_1, hi]
    · simp [hb, bt_0, hi]
theorem iand1 (x : Int) : iand x 1 = if bi x 0 = true then 1 else 0 := by
  refine bi_ext (ri_iand x 1) (by split <;> decide) (fun i _ => ?_)
  rw [bi_iand, bi_1]
  by_cases hi : i = 0
  · subst hi
    by_cases hb : bi x 0 = true
    · simp [hb, bi_1]
    · simp [hb, bi_0]
  · by_cases hb : bi x 0 = true
    · simp [hb, bi_1, hi]
    · simp [hb, bi_0, hi]
theorem bit_l {x s : Int} (h0 : 0 ≤ s) (h1 : s < 64) : land (lushr x s) 1 = if bt x s.toNat = true then 1 else 0 := by
  obtain ⟨k, rfl⟩ : ∃ k : Nat, s = (k : Int) := ⟨s.toNat, by omega⟩
  rw [land1, bt_ushr x (by omega)]
  rfl
theorem bit_i {x s : Int} (h0 : 0 ≤ s) (h1 : s < 32) : iand (iushr x s) 1 = if bi x s.toNat = true then 1 else 0 := by
  obtain ⟨k, rfl⟩ : ∃ k : Nat, s = (k : Int) := ⟨s.toNat, by omega⟩
  rw [iand1, bi_ushr x (by omega)]
  rfl
theorem bt_bit {s : Int} (h0 : 0 ≤ s) (h1 : s < 64) (i : Nat) : bt (lshl 1 s) i = decide (i = s.toNat) := by
  obtain ⟨k, rfl⟩ : ∃ k : Nat, s = (k : Int) := ⟨s.toNat, by omega⟩
  exact bt_shl1 (by omega) i
theorem bi_bit {s : Int} (h0 : 0 ≤ s) (h1 : s < 32) (i : Nat) : bi (ishl 1 s) i = decide (i = s.toNat) := by
  obtain ⟨k, rfl⟩ : ∃ k : Nat, s = (k : Int) := ⟨s.toNat, by omega⟩
  exact bi_shl1 (by omega) i
/-- the lowest bit -/
theorem low_bit : ∀ X : Nat, X ≠ 0 → ∃ t m, X = 2 ^ (t + 1) * m + 2 ^ t := by
  intro X
  induction X using Nat.strongRecOn with
  | _ X ih =>
    intro hX
    by_cases he : X % 2 = 1
    · exact ⟨0, X / 2, by simp; omega⟩
    · obtain ⟨t, m, hm⟩ := ih (X / 2) (by omega) (by omega)
      refine ⟨t + 1, m, ?_⟩
      have e1 : 2 ^ (t + 1 + 1) * m = 2 * (2 ^ (t + 1) * m) := by rw [Nat.pow_succ 2 (t + 1), Nat.mul_comm (2 ^ (t + 1)) 2, Nat.mul_assoc]
      have e2 : 2 ^ (t + 1) = 2 * 2 ^ t := by rw [Nat.pow_succ, Nat.mul_comm]
      rw [e1]
      omega
theorem tb_low (t m j : Nat) : (2 ^ (t + 1) * m + 2 ^ t).testBit j = if j ≤ t then decide (j = t) else m.testBit (j - (t + 1)) := by
  rw [Nat.testBit_two_pow_mul_add _ (Nat.pow_lt_pow_right (by decide) (by omega)), Nat.testBit_two_pow]
  by_cases h : j ≤ t
  · rw [if_pos (by omega), if_pos h]
    simp [eq_comm]
  · rw [if_neg (by omega), if_neg h]
theorem tb_pred (t m j : Nat) : (2 ^ (t + 1) * m + 2 ^ t - 1).testBit j = if j ≤ t then decide (j < t) else m.testBit (j - (t + 1)) := by
  have h1 : 0 < 2 ^ t := Nat.two_pow_pos t
  have h2 : 2 ^ t < 2 ^ (t + 1) := Nat.pow_lt_pow_right (by decide) (by omega)
  rw [Nat.add_sub_assoc h1, Nat.testBit_two_pow_mul_add _ (by omega), Nat.testBit_two_pow_sub_one]
  by_cases h : j ≤ t
  · rw [if_pos (by omega), if_pos h]
  · rw [if_neg (by omega), if_neg h]
/-- of a bit vector that is not 0: its lowest bit t; the bits of it less one -/
theorem bv_pred {w : Nat} (X : BitVec w) (h : X ≠ 0#w) : ∃ t, t < w ∧ X.getLsbD t = true ∧ (∀ j, j < t → X.getLsbD j = false) ∧ (∀ j, (X - 1#w).getLsbD j = if j ≤ t then decide (j < t) else X.getLsbD j) := by
  have h0 : X.toNat ≠ 0 := fun e => h (BitVec.eq_of_toNat_eq (by simpa using e))
  obtain ⟨t, m, hm⟩ := low_bit X.toNat h0
  have hlt := X.isLt
  have hw : 0 < w := by
    rcases Nat.eq_zero_or_pos w with e | e
    · subst e
      omega
    · exact e
  have h1 : 2 ^ t < 2 ^ w := by omega
  have htw : t < w := (Nat.pow_lt_pow_iff_right (by decide)).mp h1
  have hb : ∀ j, X.getLsbD j = if j ≤ t then decide (j = t) else m.testBit (j - (t + 1)) := by
    intro j
    rw [← BitVec.testBit_toNat, hm, tb_low]
  have h1w : (1#w).toNat = 1 := by
    rw [BitVec.toNat_ofNat]
    exact Nat.mod_eq_of_lt (Nat.one_lt_two_pow (by omega))
  have hp : (X - 1#w).toNat = X.toNat - 1 := by
    rw [BitVec.toNat_sub_of_le (by rw [BitVec.le_def, h1w]; omega), h1w]
  refine ⟨t, htw, ?_, fun j hj => ?_, fun j => ?_⟩
  · rw [hb, if_pos (Nat.le_refl t)]
    simp
  · rw [hb, if_pos (by omega)]
    simp
    omega
  · rw [← BitVec.testBit_toNat, hp, hm, tb_pred, hb]
    by_cases hj : j ≤ t
    · rw [if_pos hj, if_pos hj]
    · rw [if_neg hj, if_neg hj, if_neg hj]
/-- the number of a long's lowest bit; 64 if there is none -/
def ntz (x : Int) : Int := ((List.range 64).find? (fun i => bt x i)).getD 64
theorem ntz_of {x : Int} {t : Nat} (ht : bt x t = true) (hl : ∀ j, j < t → bt x j = false) : ntz x = t := by
  have h64 : t < 64 := by
    rcases Nat.lt_or_ge t 64 with h | h
    · exact h
    · rw [bt_big h] at ht
      cases ht
  unfold ntz
  have e : (List.range 64).find? (fun i => bt x i) = some t := by
    rw [List.find?_range_eq_some]
    exact ⟨ht, List.mem_range.mpr h64, fun j hj => by simp [hl j hj]⟩
  rw [e]
  rfl
theorem ntz_spec {x : Int} (hx : rL x) (h0 : x ≠ 0) : ∃ t : Nat, t < 64 ∧ ntz x = t ∧ bt x t = true ∧ (∀ j, j < t → bt x j = false) ∧ (∀ j, bt (land x (x - 1)) j = (bt x j && decide (j ≠ t))) := by
  have hX : BitVec.ofInt 64 x ≠ 0#64 := by
    intro e
    apply h0
    rw [← tl hx]
    exact congrArg BitVec.toInt e
  obtain ⟨t, ht, h1, h2, h3⟩ := bv_pred _ hX
  refine ⟨t, ht, ntz_of h1 h2, h1, h2, fun j => ?_⟩
  rw [bt_land]
  have e : BitVec.ofInt 64 (x - 1) = BitVec.ofInt 64 x - 1#64 := by
    rw [Int.sub_eq_add_neg, BitVec.ofInt_add, BitVec.sub_eq_add_neg]
    congr 1
  have e2 : bt (x - 1) j = if j ≤ t then decide (j < t) else bt x j := by
    unfold bt
    rw [e]
    exact h3 j
  rw [e2]
  by_cases hj : j ≤ t
  · rw [if_pos hj]
    by_cases hjt : j = t
    · subst hjt
      simp
    · rw [show bt x j = false from h2 j (by omega)]
      rfl
  · rw [if_neg hj]
    have : j ≠ t := by omega
    simp [this]
