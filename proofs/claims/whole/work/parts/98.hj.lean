/-! Long.bitCount: how many bits -/
theorem bt_nat (a : Nat) {i : Nat} (h : i < 64) : bt (a : Int) i = a.testBit i := by
  unfold bt
  rw [BitVec.ofInt_natCast, BitVec.getLsbD_ofNat]
  simp [h]
theorem land_nat {a b : Nat} (ha : a < 4611686018427387904) : land a b = ((a &&& b : Nat) : Int) := by
  have hle : a &&& b ≤ a := Nat.and_le_left
  refine bt_ext (rl_land _ _) ⟨by omega, by omega⟩ (fun i hi => ?_)
  rw [bt_land, bt_nat a hi, bt_nat b hi, bt_nat _ hi, Nat.testBit_and]
theorem lushr_nat {a k : Nat} (hk : k < 64) (ha : a < 4611686018427387904) : lushr a k = ((a / 2 ^ k : Nat) : Int) := by
  have hle : a / 2 ^ k ≤ a := Nat.div_le_self _ _
  have hrl : ∀ b : Nat, b ≤ a → rL (b : Int) := fun b hb => ⟨by omega, by omega⟩
  refine bt_ext (rl_lushr _ _) (hrl _ hle) (fun i hi => ?_)
  rw [bt_ushr _ hk, bt_nat _ hi, Nat.testBit_div_two_pow]
  by_cases h : k + i < 64
  · rw [bt_nat a h, Nat.add_comm]
  · rw [bt_big (by omega), Nat.testBit_lt_two_pow]
    have h1 : a < 2 ^ 62 := ha
    exact Nat.lt_of_lt_of_le h1 (Nat.pow_le_pow_right (by omega) (by omega))
theorem and_split {j a x b y : Nat} (ha : a < 2 ^ j) (hb : b < 2 ^ j) : (2 ^ j * x + a) &&& (2 ^ j * y + b) = 2 ^ j * (x &&& y) + (a &&& b) := by
  refine Nat.eq_of_testBit_eq (fun i => ?_)
  rw [Nat.testBit_and, Nat.testBit_two_pow_mul_add _ ha, Nat.testBit_two_pow_mul_add _ hb, Nat.testBit_two_pow_mul_add _ (Nat.and_lt_two_pow _ hb)]
  split
  · rw [Nat.testBit_and]
  · rw [Nat.testBit_and]
def m5 : Nat → Nat
  | 0 => 0
  | k + 1 => 4 * m5 k + 1
def m3 : Nat → Nat
  | 0 => 0
  | k + 1 => 16 * m3 k + 3
def m15 : Nat → Nat
  | 0 => 0
  | k + 1 => 256 * m15 k + 15
def s1b (x : Nat) : Nat := x % 2 + x / 2 % 2
def t1b (x : Nat) : Nat := s1b x + s1b (x / 4)
def v1b (x : Nat) : Nat := t1b x + t1b (x / 16)
def S1 : Nat → Nat → Nat
  | 0, _ => 0
  | k + 1, x => 4 * S1 k (x / 4) + s1b x
def S2 : Nat → Nat → Nat
  | 0, _ => 0
  | k + 1, x => 16 * S2 k (x / 16) + t1b x
def S3 : Nat → Nat → Nat
  | 0, _ => 0
  | k + 1, x => 256 * S3 k (x / 256) + v1b x
theorem s1b_le (x : Nat) : s1b x ≤ 2 := by unfold s1b; omega
theorem t1b_le (x : Nat) : t1b x ≤ 4 := by
  have := s1b_le x
  have := s1b_le (x / 4)
  unfold t1b; omega
theorem v1b_le (x : Nat) : v1b x ≤ 8 := by
  have := t1b_le x
  have := t1b_le (x / 16)
  unfold v1b; omega
theorem and4 {a x b y : Nat} (ha : a < 4) (hb : b < 4) : (4 * x + a) &&& (4 * y + b) = 4 * (x &&& y) + (a &&& b) := and_split (j := 2) ha hb
theorem and16 {a x b y : Nat} (ha : a < 16) (hb : b < 16) : (16 * x + a) &&& (16 * y + b) = 16 * (x &&& y) + (a &&& b) := and_split (j := 4) ha hb
theorem and256 {a x b y : Nat} (ha : a < 256) (hb : b < 256) : (256 * x + a) &&& (256 * y + b) = 256 * (x &&& y) + (a &&& b) := and_split (j := 8) ha hb
theorem and_1 (a : Nat) : a &&& 1 = a % 2 := Nat.and_two_pow_sub_one_eq_mod a 1
theorem and_3 (a : Nat) : a &&& 3 = a % 4 := Nat.and_two_pow_sub_one_eq_mod a 2
theorem and_15 (a : Nat) : a &&& 15 = a % 16 := Nat.and_two_pow_sub_one_eq_mod a 4
theorem stg1 : ∀ (k x : Nat), x < 4 ^ k → (x / 2 &&& m5 k) + S1 k x = x
  | 0, x, h => by
    have : x = 0 := by simp at h; omega
    rw [this]
    rfl
  | k + 1, x, h => by
    have h2 : x / 4 < 4 ^ k := by rw [Nat.pow_succ] at h; omega
    have ih := stg1 k (x / 4) h2
    have e : x / 2 = 4 * (x / 4 / 2) + (x / 2 % 4) := by omega
    simp only [m5, S1]
    rw [e, and4 (by omega) (by omega), and_1]
    unfold s1b
    omega
theorem stg2 : ∀ (k x : Nat), (S1 (2 * k) x &&& m3 k) + (S1 (2 * k) x / 4 &&& m3 k) = S2 k x
  | 0, x => by simp [S1, m3, S2]
  | k + 1, x => by
    have e2 : 2 * (k + 1) = 2 * k + 1 + 1 := by omega
    have ih := stg2 k (x / 16)
    have e3 : x / 4 / 4 = x / 16 := by omega
    rw [e2]
    simp only [S1, S2, m3]
    rw [e3]
    generalize S1 (2 * k) (x / 16) = Y at ih ⊢
    have a1 := s1b_le x
    have a2 := s1b_le (x / 4)
    have f1 : 4 * (4 * Y + s1b (x / 4)) + s1b x = 16 * Y + (4 * s1b (x / 4) + s1b x) := by omega
    have f2 : (16 * Y + (4 * s1b (x / 4) + s1b x)) / 4 = 16 * (Y / 4) + (4 * (Y % 4) + s1b (x / 4)) := by omega
    rw [f1, f2, and16 (by omega) (by omega), and16 (by omega) (by omega), and_3, and_3]
    unfold t1b
    omega
theorem S2_mod (k x : Nat) : S2 k x % 16 ≤ 4 := by
  cases k with
  | zero => simp [S2]
  | succ k =>
    have := t1b_le x
    simp only [S2]
    omega
theorem stg3 : ∀ (k x : Nat), ((S2 (2 * k) x + S2 (2 * k) x / 16) &&& m15 k) = S3 k x
  | 0, x => by simp [m15, S3]
  | k + 1, x => by
    have e2 : 2 * (k + 1) = 2 * k + 1 + 1 := by omega
    have ih := stg3 k (x / 256)
    have e3 : x / 16 / 16 = x / 256 := by omega
    rw [e2]
    simp only [S2, S3, m15]
    rw [e3]
    have hm := S2_mod (2 * k) (x / 256)
    generalize S2 (2 * k) (x / 256) = Z at ih hm ⊢
    have a1 := t1b_le x
    have a2 := t1b_le (x / 16)
    have f1 : 16 * (16 * Z + t1b (x / 16)) + t1b x + (16 * (16 * Z + t1b (x / 16)) + t1b x) / 16 = 256 * (Z + Z / 16) + (16 * (t1b (x / 16) + Z % 16) + (t1b x + t1b (x / 16))) := by omega
    rw [f1, and256 (by omega) (by omega), and_15]
    unfold v1b
    omega
theorem ct_shift (p : Nat → Bool) (a : Nat) : ∀ n : Nat, ct p (a + n) = ct p a + ct (fun i => p (a + i)) n
  | 0 => by simp [ct]
  | n + 1 => by
    have := ct_shift p a n
    show ct p (a + n) + (if p (a + n) = true then 1 else 0) = ct p a + (ct (fun i => p (a + i)) n + (if p (a + n) = true then 1 else 0))
    omega
theorem ct_8 (x : Nat) : ct (fun i => x.testBit i) 8 = v1b x := by
  have h : ∀ i : Nat, (if x.testBit i = true then 1 else 0) = x / 2 ^ i % 2 := fun i => by
    rw [Nat.testBit_eq_decide_div_mod_eq]
    by_cases q : x / 2 ^ i % 2 = 1
    · rw [if_pos (by rw [q]; rfl), q]
    · rw [if_neg (by simpa using q)]
      omega
  simp only [ct, h]
  unfold v1b t1b s1b
  omega
theorem ct_bytes : ∀ (k x : Nat), ct (fun i => x.testBit i) (8 * (k + 1)) = v1b x + ct (fun i => (x / 256).testBit i) (8 * k) := fun k x => by
  have e : 8 * (k + 1) = 8 + 8 * k := by omega
  rw [e, ct_shift, ct_8]
  have : (fun i => x.testBit (8 + i)) = fun i => (x / 256).testBit i := by
    funext i
    have h : (x / 2 ^ 8).testBit i = x.testBit (i + 8) := Nat.testBit_div_two_pow x i
    have e8 : (2 : Nat) ^ 8 = 256 := by decide
    rw [e8] at h
    rw [h, Nat.add_comm]
  rw [this]
theorem iand127 {x : Nat} (h : x % 128 ≤ 127) : iand (wI (x : Int)) 127 = ((x % 128 : Nat) : Int) := by
  refine bi_ext (ri_iand _ _) ⟨by omega, by omega⟩ (fun i hi => ?_)
  have e1 : bi (wI (x : Int)) i = x.testBit i := by
    unfold bi wI
    rw [bv_i]
    show (BitVec.ofInt 32 (x : Int)).getLsbD i = _
    rw [BitVec.ofInt_natCast, BitVec.getLsbD_ofNat]
    simp [hi]
  have e2 : ∀ a : Nat, bi (a : Int) i = a.testBit i := fun a => by
    unfold bi
    rw [BitVec.ofInt_natCast, BitVec.getLsbD_ofNat]
    simp [hi]
  have e3 : bi 127 i = Nat.testBit 127 i := e2 127
  rw [bi_iand, e1, e3, e2, ← Nat.testBit_and]
  have := Nat.and_two_pow_sub_one_eq_mod x 7
  have e4 : x &&& 127 = x % 128 := this
  rw [e4]
