/-! Counting triples -/
theorem stB_small {n : Nat} {x : Int} {S : Int → Prop} (hn : n ≤ 40) (h : stB n x S) : 0 ≤ x ∧ x < 1099511627776 := by
  have e : ∀ i, i < 64 → ((BitVec.ofInt 64 x).toNat).testBit i = bt x i := fun i _ => rfl
  have hlt : (BitVec.ofInt 64 x).toNat < 2 ^ 40 := by
    refine Nat.lt_pow_two_of_testBit _ (fun i hi => ?_)
    by_cases h64 : i < 64
    · rw [e i h64]
      cases hb : bt x i with
      | false => rfl
      | true =>
        have := ((h.2 i).mp hb).1
        omega
    · exact Nat.testBit_lt_two_pow (Nat.lt_of_lt_of_le (BitVec.isLt _) (Nat.pow_le_pow_right (by omega) (by omega)))
  generalize hy : (BitVec.ofInt 64 x).toNat = y at e hlt
  have hlt' : y < 1099511627776 := hlt
  have : x = (y : Int) := bt_ext h.1 ⟨by omega, by omega⟩ (fun i hi => by rw [bt_nat y hi, e i hi])
  omega
theorem sm_ext {f g : Nat → Nat} : ∀ n : Nat, (∀ i, i < n → f i = g i) → sm f n = sm g n
  | 0, _ => rfl
  | n + 1, h => by
    simp only [sm]
    rw [sm_ext n (fun i hi => h i (by omega)), h n (by omega)]
theorem sm_tail {f : Nat → Nat} {n : Nat} : ∀ m : Nat, (∀ i, n ≤ i → i < n + m → f i = 0) → sm f (n + m) = sm f n
  | 0, _ => rfl
  | m + 1, h => by
    show sm f (n + m) + f (n + m) = sm f n
    rw [sm_tail m (fun i h1 h2 => h i h1 (by omega)), h (n + m) (by omega) (by omega)]
    rfl
theorem sm_0 : ∀ n : Nat, sm (fun _ => 0) n = 0
  | 0 => rfl
  | n + 1 => by
    show sm (fun _ => 0) n + 0 = 0
    rw [sm_0 n]
theorem sm_add {f g : Nat → Nat} : ∀ n : Nat, sm (fun i => f i + g i) n = sm f n + sm g n
  | 0 => rfl
  | n + 1 => by
    simp only [sm]
    rw [sm_add n]
    omega
theorem sm_swap {f : Nat → Nat → Nat} {b : Nat} : ∀ a : Nat, sm (fun i => sm (fun j => f i j) b) a = sm (fun j => sm (fun i => f i j) a) b
  | 0 => (sm_0 b).symm
  | a + 1 => by
    simp only [sm]
    rw [sm_add, sm_swap a]
theorem sm_split (f : Nat → Nat) (a : Nat) : ∀ n : Nat, sm f (a + n) = sm f a + sm (fun i => f (a + i)) n
  | 0 => rfl
  | n + 1 => by
    show sm f (a + n) + f (a + n) = sm f a + (sm (fun i => f (a + i)) n + f (a + n))
    rw [sm_split f a n]
    omega
theorem sm_blk (f : Nat → Nat) (b : Nat) : ∀ a : Nat, sm f (a * b) = sm (fun i => sm (fun j => f (i * b + j)) b) a
  | 0 => by
    rw [Nat.zero_mul]
    rfl
  | a + 1 => by
    rw [Nat.succ_mul, sm_split, sm_blk f b a]
    rfl
theorem ct_sm (p : Nat → Bool) : ∀ n : Nat, ct p n = sm (fun i => if p i = true then 1 else 0) n
  | 0 => rfl
  | n + 1 => by
    simp only [ct, sm]
    rw [ct_sm p n]
theorem ct_ext {p q : Nat → Bool} : ∀ n : Nat, (∀ i, i < n → (p i = true ↔ q i = true)) → ct p n = ct q n
  | 0, _ => rfl
  | n + 1, h => by
    have e : p n = q n := by
      have := h n (by omega)
      cases hp : p n <;> cases hq : q n <;> rw [hp, hq] at this
      · exact absurd (this.mpr rfl) (by decide)
      · exact absurd (this.mp rfl) (by decide)
    simp only [ct]
    rw [ct_ext n (fun i hi => h i (by omega)), e]
theorem ct_tail {p : Nat → Bool} {n : Nat} : ∀ m : Nat, (∀ i, n ≤ i → i < n + m → p i = false) → ct p (n + m) = ct p n
  | 0, _ => rfl
  | m + 1, h => by
    show ct p (n + m) + (if p (n + m) = true then 1 else 0) = ct p n
    rw [ct_tail m (fun i h1 h2 => h i h1 (by omega)), h (n + m) (by omega) (by omega)]
    rfl
/-- rows of sets against one row of yes and no -/
theorem cnt_eq {nv n : Nat} {R : Int → Int} {Z : Int → Int → Int → Prop} {p : Nat → Bool} (hv : nv ≤ 10) (hn : n ≤ 40) (hR : ∀ x o, iR nv x → iR n o → stB n (R (x * 40 + o)) (Z x o)) (hp : ∀ t : Nat, t < 16000 → (p t = true ↔ ∃ x o q : Int, iR nv x ∧ iR n o ∧ iR n q ∧ (t : Int) = tix o x q ∧ Z x o q)) : sm (fun x => sm (fun o => ct (bt (R ((x : Int) * 40 + (o : Int)))) 64) n) nv = ct p 16000 := by
  have hpt : ∀ (o x q : Nat), o < 40 → x < 10 → q < 40 → (p ((o * 10 + x) * 40 + q) = true ↔ x < nv ∧ o < n ∧ q < n ∧ Z x o q) := by
    intro o x q ho hx hq
    rw [hp _ (by omega)]
    constructor
    · rintro ⟨x', o', q', h1, h2, h3, h4, h5⟩
      have e := tix_inj (o := (o : Int)) (x := (x : Int)) (q := (q : Int)) (o' := o') (x' := x') (q' := q') ⟨by omega, by omega⟩ ⟨by omega, by omega⟩ ⟨h1.1, by have := h1.2; omega⟩ ⟨h3.1, by have := h3.2; omega⟩ (by rw [← h4]; unfold tix; omega)
      rw [← e.1] at h2 h5
      rw [← e.2.1] at h1 h5
      rw [← e.2.2] at h3 h5
      have := h1.2
      have := h2.2
      have := h3.2
      exact ⟨by omega, by omega, by omega, h5⟩
    · rintro ⟨h1, h2, h3, h4⟩
      exact ⟨x, o, q, ⟨by omega, by omega⟩, ⟨by omega, by omega⟩, ⟨by omega, by omega⟩, by unfold tix; omega, h4⟩
  have e1 : ct p 16000 = sm (fun o => sm (fun x => ct (fun q => p ((o * 10 + x) * 40 + q)) 40) 10) 40 := by
    rw [ct_sm p 16000]
    have b1 := sm_blk (fun i => if p i = true then 1 else 0) 40 400
    have b2 := sm_blk (fun i => sm (fun j => if p (i * 40 + j) = true then 1 else 0) 40) 10 40
    rw [show 400 * 40 = 16000 from rfl] at b1
    rw [show 40 * 10 = 400 from rfl] at b2
    rw [b1, b2]
    refine sm_ext 40 (fun o _ => sm_ext 10 (fun x _ => ?_))
    rw [ct_sm]
  rw [e1]
  have e2 : ∀ o x : Nat, o < 40 → x < 10 → (¬ (x < nv ∧ o < n)) → ct (fun q => p ((o * 10 + x) * 40 + q)) 40 = 0 := fun o x ho hx hne => by
    have := ct_tail (p := fun q => p ((o * 10 + x) * 40 + q)) (n := 0) 40 (fun i _ hi => by
      show p ((o * 10 + x) * 40 + i) = false
      cases hb : p ((o * 10 + x) * 40 + i) with
      | false => rfl
      | true =>
        have := (hpt o x i ho hx (by omega)).mp hb
        exact absurd ⟨this.1, this.2.1⟩ hne)
    rw [Nat.zero_add] at this
    exact this
  obtain ⟨m1, hm1⟩ : ∃ m, 40 = n + m := ⟨40 - n, by omega⟩
  obtain ⟨m2, hm2⟩ : ∃ m, 10 = nv + m := ⟨10 - nv, by omega⟩
  have e3 : sm (fun o => sm (fun x => ct (fun q => p ((o * 10 + x) * 40 + q)) 40) 10) 40 = sm (fun o => sm (fun x => ct (fun q => p ((o * 10 + x) * 40 + q)) 40) nv) n := by
    have t1 : sm (fun o => sm (fun x => ct (fun q => p ((o * 10 + x) * 40 + q)) 40) 10) (n + m1) = sm (fun o => sm (fun x => ct (fun q => p ((o * 10 + x) * 40 + q)) 40) 10) n := sm_tail m1 (fun o h1 h2 => by
      show sm (fun x => ct (fun q => p ((o * 10 + x) * 40 + q)) 40) 10 = 0
      rw [sm_ext (g := fun _ => 0) 10 (fun x hx => e2 o x (by omega) hx (by omega)), sm_0])
    rw [← hm1] at t1
    rw [t1]
    refine sm_ext n (fun o ho => ?_)
    have t2 : sm (fun x => ct (fun q => p ((o * 10 + x) * 40 + q)) 40) (nv + m2) = sm (fun x => ct (fun q => p ((o * 10 + x) * 40 + q)) 40) nv := sm_tail m2 (fun x h1 h2 => e2 o x (by omega) (by omega) (by omega))
    rw [← hm2] at t2
    exact t2
  rw [e3, ← sm_swap (f := fun x o => ct (fun q => p ((o * 10 + x) * 40 + q)) 40)]
  refine sm_ext nv (fun x hx => sm_ext n (fun o ho => ?_))
  have hrow := hR x o ⟨by omega, by omega⟩ ⟨by omega, by omega⟩
  have c1 : ct (bt (R ((x : Int) * 40 + (o : Int)))) (40 + 24) = ct (bt (R ((x : Int) * 40 + (o : Int)))) 40 := ct_tail 24 (fun i h1 h2 => by
    cases hb : bt (R ((x : Int) * 40 + (o : Int))) i with
    | false => rfl
    | true =>
      have := ((hrow.2 i).mp hb).1
      omega)
  rw [show 40 + 24 = 64 from rfl] at c1
  rw [c1]
  refine ct_ext 40 (fun i hi => ?_)
  rw [hrow.2 i, hpt o x i (by omega) (by omega) hi]
  constructor
  · rintro ⟨q1, q2⟩
    exact ⟨hx, ho, by omega, q2⟩
  · rintro ⟨-, -, q1, q2⟩
    exact ⟨by omega, q2⟩
theorem sm_le_mul {f : Nat → Nat} {b : Nat} : ∀ n : Nat, (∀ i, i < n → f i ≤ b) → sm f n ≤ n * b
  | 0, _ => Nat.zero_le _
  | n + 1, h => by
    have h1 := sm_le_mul n (fun i hi => h i (by omega))
    have h2 := h n (by omega)
    simp only [sm]
    rw [Nat.succ_mul]
    omega
theorem q_190 {d a l1 mk nv n : Nat} {u : uS} (hO : isO a 9) (hM : isO mk 5) (hA : isA l1 1 400) (hv : nv ≤ 10) (hn : n ≤ 40) (e2 : u.2 a 2 = 6) (e3 : u.2 a 3 = mk) (h6 : u.1 6 0 = nv) (hm : u.1 mk 0 = n) (hR : ∀ x o, iR nv x → iR n o → 0 ≤ u.1 l1 (x * 40 + o) ∧ u.1 l1 (x * 40 + o) < 1099511627776) : cL (d + 2) 190 [.ref a, .ref l1] u (fun r u' => u' = u ∧ r = ((sm (fun x => sm (fun o => ct (bt (u.1 l1 ((x : Int) * 40 + (o : Int)))) 64) n) nv : Nat) : Int)) := by
  have outer : ∀ (k x : Nat), x + k = nv → K_190 (d + 1) 5 [.ref a, .ref l1, lV ((sm (fun x => sm (fun o => ct (bt (u.1 l1 ((x : Int) * 40 + (o : Int)))) 64) n) x : Nat) : Int), .retAddr 0, iV (x : Int), .retAddr 0] [] u (fun r u' => u' = u ∧ r = ((sm (fun x => sm (fun o => ct (bt (u.1 l1 ((x : Int) * 40 + (o : Int)))) 64) n) nv : Nat) : Int)) := by
    intro k
    induction k with
    | zero =>
      intro x hx
      have e : x = nv := by omega
      rw [e]
      refine k_190_5 (d := d) hO hA ?_
      rw [e2, h6]
      refine ⟨sx_6, ⟨by omega, by omega⟩, ⟨by omega, by omega⟩, ?_⟩
      rw [if_neg (by omega)]
      exact ⟨rfl, rfl⟩
    | succ k ih =>
      intro x hx
      refine k_190_5 (d := d) hO hA ?_
      rw [e2, h6]
      refine ⟨sx_6, ⟨by omega, by omega⟩, ⟨by omega, by omega⟩, ?_⟩
      rw [if_pos (by omega)]
      have inner : ∀ (k' o : Nat), o + k' = n → K_190 (d + 1) 20 [.ref a, .ref l1, lV (((sm (fun x => sm (fun o => ct (bt (u.1 l1 ((x : Int) * 40 + (o : Int)))) 64) n) x : Nat) : Int) + ((sm (fun o => ct (bt (u.1 l1 ((x : Int) * 40 + (o : Int)))) 64) o : Nat) : Int)), .retAddr 0, iV (x : Int), iV (o : Int)] [] u (fun r u' => u' = u ∧ r = ((sm (fun x => sm (fun o => ct (bt (u.1 l1 ((x : Int) * 40 + (o : Int)))) 64) n) nv : Nat) : Int)) := by
        intro k'
        induction k' with
        | zero =>
          intro o ho
          have e : o = n := by omega
          rw [e]
          refine k_190_20 (d := d) hO hA ?_
          rw [e3, hm]
          refine ⟨hM, ⟨by omega, by omega⟩, ⟨by omega, by omega⟩, ?_⟩
          rw [if_neg (by omega)]
          have := ih (x + 1) (by omega)
          rw [show ((x + 1 : Nat) : Int) = (x : Int) + 1 by omega] at this
          have e4 : ((sm (fun x => sm (fun o => ct (bt (u.1 l1 ((x : Int) * 40 + (o : Int)))) 64) n) (x + 1) : Nat) : Int) = ((sm (fun x => sm (fun o => ct (bt (u.1 l1 ((x : Int) * 40 + (o : Int)))) 64) n) x : Nat) : Int) + ((sm (fun o => ct (bt (u.1 l1 ((x : Int) * 40 + (o : Int)))) 64) n : Nat) : Int) := Int.natCast_add _ _
          rw [e4] at this
          exact this
        | succ k' ih' =>
          intro o ho
          have hr := hR x o ⟨by omega, by omega⟩ ⟨by omega, by omega⟩
          refine k_190_20 (d := d) hO hA ?_
          rw [e3, hm]
          refine ⟨hM, ⟨by omega, by omega⟩, ⟨by omega, by omega⟩, ?_⟩
          rw [if_pos (by omega)]
          refine ⟨by omega, by omega, cI.mono (q_191 (d := d) hr.1 hr.2) (Nat.le_refl _) (fun r u' ⟨hu, hrr⟩ => ?_)⟩
          have hle := ct_le (bt (u.1 l1 ((x : Int) * 40 + (o : Int)))) 64
          rw [hu, hrr]
          refine ⟨⟨by omega, by omega⟩, ?_⟩
          have := ih' (o + 1) (by omega)
          rw [show ((o + 1 : Nat) : Int) = (o : Int) + 1 by omega] at this
          have e4 : ((sm (fun o => ct (bt (u.1 l1 ((x : Int) * 40 + (o : Int)))) 64) (o + 1) : Nat) : Int) = ((sm (fun o => ct (bt (u.1 l1 ((x : Int) * 40 + (o : Int)))) 64) o : Nat) : Int) + ((ct (bt (u.1 l1 ((x : Int) * 40 + (o : Int)))) 64 : Nat) : Int) := Int.natCast_add _ _
          rw [e4, ← Int.add_assoc] at this
          exact this
      have := inner n 0 (by omega)
      have e0 : ((sm (fun o => ct (bt (u.1 l1 ((x : Int) * 40 + (o : Int)))) 64) 0 : Nat) : Int) = 0 := rfl
      rw [e0, Int.add_zero] at this
      exact this
  exact e_190 (d := d) hO hA (outer nv 0 (by omega))
