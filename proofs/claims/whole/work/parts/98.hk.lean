/-! Long.bitCount: the whole -/
theorem sum_bytes {a0 a1 a2 a3 a4 w w1 w2 : Nat} (h0 : a0 ≤ 8) (h1 : a1 ≤ 8) (h2 : a2 ≤ 8) (h3 : a3 ≤ 8) (h4 : a4 ≤ 8) (hw : w = a0 + 256 * (a1 + 256 * (a2 + 256 * (a3 + 256 * a4)))) (hw1 : w + w / 256 = w1) (hw2 : w1 + w1 / 65536 = w2) : (w2 + w2 / 4294967296) % 128 = a0 + a1 + a2 + a3 + a4 := by
  have r2 : w / 256 = a1 + 256 * (a2 + 256 * (a3 + 256 * a4)) := by omega
  have r3 : w1 = (a0 + a1) + 256 * ((a1 + a2) + 256 * ((a2 + a3) + 256 * ((a3 + a4) + 256 * a4))) := by omega
  clear hw hw1 r2
  have r4 : w1 / 65536 = (a2 + a3) + 256 * ((a3 + a4) + 256 * a4) := by omega
  have r5 : w2 = (a0 + a1 + a2 + a3) + 256 * ((a1 + a2 + a3 + a4) + 256 * ((a2 + a3 + a4) + 256 * ((a3 + a4) + 256 * a4))) := by omega
  clear r3 r4 hw2
  have r6 : w2 / 4294967296 = a4 := by omega
  rw [r6]
  omega
theorem arr8 (a0 a1 a2 a3 a4 : Nat) : 256 * (256 * (256 * (256 * (256 * 0 + a4) + a3) + a2) + a1) + a0 = a0 + 256 * (a1 + 256 * (a2 + 256 * (a3 + 256 * a4))) := by omega
theorem v1b_0 : v1b 0 = 0 := by decide
theorem S3_0 : ∀ k : Nat, S3 k 0 = 0
  | 0 => rfl
  | k + 1 => by
    have := S3_0 k
    simp only [S3, Nat.zero_div, this, v1b_0]
theorem q_191 {d : Nat} {u : uS} {x : Int} (h0 : 0 ≤ x) (h1 : x < 1099511627776) : cI (d + 1) 191 [lV x] u (fun r u' => u' = u ∧ r = ((ct (bt x) 64 : Nat) : Int)) := by
  obtain ⟨n, rfl⟩ : ∃ n : Nat, x = (n : Int) := ⟨x.toNat, by omega⟩
  have hn : n < 1099511627776 := by omega
  refine e_191 ⟨rfl, ?_⟩
  have c5 : (6148914691236517205 : Int) = ((m5 32 : Nat) : Int) := by decide +kernel
  have c3 : (3689348814741910323 : Int) = ((m3 16 : Nat) : Int) := by decide +kernel
  have c15 : (1085102592571150095 : Int) = ((m15 8 : Nat) : Int) := by decide +kernel
  have g1 := stg1 32 n (Nat.lt_of_lt_of_le hn (by decide))
  have g2 := stg2 16 n
  have g3 := stg3 8 n
  have y1 : (n : Int) - land (lushr (n : Int) 1) 6148914691236517205 = ((S1 32 n : Nat) : Int) := by
    have e : lushr (n : Int) 1 = ((n / 2 : Nat) : Int) := lushr_nat (k := 1) (by omega) (by omega)
    rw [e, c5, land_nat (by omega)]
    omega
  have hS1 : S1 32 n ≤ n := by omega
  rw [y1]
  have y2 : land ((S1 32 n : Nat) : Int) 3689348814741910323 + land (lushr ((S1 32 n : Nat) : Int) 2) 3689348814741910323 = ((S2 16 n : Nat) : Int) := by
    have e : lushr ((S1 32 n : Nat) : Int) 2 = ((S1 32 n / 4 : Nat) : Int) := lushr_nat (k := 2) (by omega) (by omega)
    rw [e, c3, land_nat (by omega), land_nat (by omega)]
    have g2' : (S1 32 n &&& m3 16) + (S1 32 n / 4 &&& m3 16) = S2 16 n := g2
    omega
  have hS2 : S2 16 n ≤ n + n := by
    have g2' : (S1 32 n &&& m3 16) + (S1 32 n / 4 &&& m3 16) = S2 16 n := g2
    have a1 : (S1 32 n &&& m3 16) ≤ S1 32 n := Nat.and_le_left
    have a2 : (S1 32 n / 4 &&& m3 16) ≤ S1 32 n / 4 := Nat.and_le_left
    omega
  rw [y2]
  have y3 : land (((S2 16 n : Nat) : Int) + lushr ((S2 16 n : Nat) : Int) 4) 1085102592571150095 = ((S3 8 n : Nat) : Int) := by
    have e : lushr ((S2 16 n : Nat) : Int) 4 = ((S2 16 n / 16 : Nat) : Int) := lushr_nat (k := 4) (by omega) (by omega)
    have e2 : ((S2 16 n : Nat) : Int) + ((S2 16 n / 16 : Nat) : Int) = ((S2 16 n + S2 16 n / 16 : Nat) : Int) := by omega
    rw [e, e2, c15, land_nat (by omega)]
    have g3' : ((S2 16 n + S2 16 n / 16) &&& m15 8) = S3 8 n := g3
    rw [g3']
  have hS3 : S3 8 n ≤ 4 * n + 4 := by
    have g3' : ((S2 16 n + S2 16 n / 16) &&& m15 8) = S3 8 n := g3
    have a1 : ((S2 16 n + S2 16 n / 16) &&& m15 8) ≤ S2 16 n + S2 16 n / 16 := Nat.and_le_left
    omega
  rw [y3]
  generalize hw : S3 8 n = w at hS3 ⊢
  have z1 : lushr (w : Int) 8 = ((w / 256 : Nat) : Int) := lushr_nat (k := 8) (by omega) (by omega)
  have z2 : (w : Int) + ((w / 256 : Nat) : Int) = ((w + w / 256 : Nat) : Int) := by omega
  rw [z1, z2]
  generalize hw1 : w + w / 256 = w1
  have hw1' : w1 ≤ 8 * n + 8 := by omega
  have z3 : lushr (w1 : Int) 16 = ((w1 / 65536 : Nat) : Int) := lushr_nat (k := 16) (by omega) (by omega)
  have z4 : (w1 : Int) + ((w1 / 65536 : Nat) : Int) = ((w1 + w1 / 65536 : Nat) : Int) := by omega
  rw [z3, z4]
  generalize hw2 : w1 + w1 / 65536 = w2
  have hw2' : w2 ≤ 16 * n + 16 := by omega
  have z5 : lushr (w2 : Int) 32 = ((w2 / 4294967296 : Nat) : Int) := lushr_nat (k := 32) (by omega) (by omega)
  have z6 : (w2 : Int) + ((w2 / 4294967296 : Nat) : Int) = ((w2 + w2 / 4294967296 : Nat) : Int) := by omega
  rw [z5, z6, iand127 (by omega)]
  have hct : ct (bt (n : Int)) 64 = ct (fun i => n.testBit i) 64 := by
    have h : ∀ m : Nat, m ≤ 64 → ct (bt (n : Int)) m = ct (fun i => n.testBit i) m := fun m => by
      induction m with
      | zero => intro _; rfl
      | succ m ih =>
        intro hm
        simp only [ct]
        rw [ih (by omega), bt_nat n (by omega)]
    exact h 64 (Nat.le_refl _)
  have hz : n / 256 / 256 / 256 / 256 / 256 = 0 := by omega
  have hz0 : ∀ m : Nat, ct (fun i => (0 : Nat).testBit i) m = 0 := fun m => by
    induction m with
    | zero => rfl
    | succ m ih =>
      show ct (fun i => (0 : Nat).testBit i) m + (if (0 : Nat).testBit m = true then 1 else 0) = 0
      rw [ih, Nat.zero_testBit]
      rfl
  have hk : ct (fun i => n.testBit i) 64 = v1b n + v1b (n / 256) + v1b (n / 256 / 256) + v1b (n / 256 / 256 / 256) + v1b (n / 256 / 256 / 256 / 256) := by
    have k7' : ct (fun i => n.testBit i) 64 = v1b n + ct (fun i => (n / 256).testBit i) 56 := ct_bytes 7 n
    have k6' : ct (fun i => (n / 256).testBit i) 56 = v1b (n / 256) + ct (fun i => (n / 256 / 256).testBit i) 48 := ct_bytes 6 (n / 256)
    have k5' : ct (fun i => (n / 256 / 256).testBit i) 48 = v1b (n / 256 / 256) + ct (fun i => (n / 256 / 256 / 256).testBit i) 40 := ct_bytes 5 (n / 256 / 256)
    have k4' : ct (fun i => (n / 256 / 256 / 256).testBit i) 40 = v1b (n / 256 / 256 / 256) + ct (fun i => (n / 256 / 256 / 256 / 256).testBit i) 32 := ct_bytes 4 (n / 256 / 256 / 256)
    have k3' : ct (fun i => (n / 256 / 256 / 256 / 256).testBit i) 32 = v1b (n / 256 / 256 / 256 / 256) + ct (fun i => (n / 256 / 256 / 256 / 256 / 256).testBit i) 24 := ct_bytes 3 (n / 256 / 256 / 256 / 256)
    rw [hz, hz0] at k3'
    generalize ct (fun i => (n / 256).testBit i) 56 = b1 at k7' k6'
    generalize ct (fun i => (n / 256 / 256).testBit i) 48 = b2 at k6' k5'
    generalize ct (fun i => (n / 256 / 256 / 256).testBit i) 40 = b3 at k5' k4'
    generalize ct (fun i => (n / 256 / 256 / 256 / 256).testBit i) 32 = b4 at k4' k3'
    rw [k7', k6', k5', k4', k3']
    simp only [Nat.add_zero, Nat.add_assoc]
  have hw8 : w = v1b n + 256 * (v1b (n / 256) + 256 * (v1b (n / 256 / 256) + 256 * (v1b (n / 256 / 256 / 256) + 256 * v1b (n / 256 / 256 / 256 / 256)))) := by
    rw [← hw]
    show 256 * (256 * (256 * (256 * (256 * S3 3 (n / 256 / 256 / 256 / 256 / 256) + v1b (n / 256 / 256 / 256 / 256)) + v1b (n / 256 / 256 / 256)) + v1b (n / 256 / 256)) + v1b (n / 256)) + v1b n = _
    rw [hz, S3_0]
    generalize v1b n = a0
    generalize v1b (n / 256) = a1
    generalize v1b (n / 256 / 256) = a2
    generalize v1b (n / 256 / 256 / 256) = a3
    generalize v1b (n / 256 / 256 / 256 / 256) = a4
    exact arr8 a0 a1 a2 a3 a4
  have hfin := sum_bytes (v1b_le _) (v1b_le _) (v1b_le _) (v1b_le _) (v1b_le _) hw8 hw1 hw2
  rw [hct, hk, hfin]
