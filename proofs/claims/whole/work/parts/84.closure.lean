/-! Ways of one or more steps: the least relation that holds the steps and goes on -/
abbrev iR (n : Nat) (x : Int) : Prop := 0 ≤ x ∧ x < n
def tcR (n : Nat) (E G : Int → Int → Prop) : Prop := (∀ x y, iR n x → iR n y → E x y → G x y) ∧ (∀ x y z, iR n x → iR n y → iR n z → G x y → G y z → G x z) ∧ (∀ T : Int → Int → Prop, (∀ x y, iR n x → iR n y → E x y → T x y) → (∀ x y z, iR n x → iR n y → iR n z → T x y → T y z → T x z) → ∀ x y, iR n x → iR n y → G x y → T x y)
theorem tcR_eq {n : Nat} {E E' G G' : Int → Int → Prop} (hE : ∀ x y, iR n x → iR n y → (E x y ↔ E' x y)) (h : tcR n E G) (h' : tcR n E' G') {x y : Int} (hx : iR n x) (hy : iR n y) : G x y ↔ G' x y := by
  constructor
  · exact h.2.2 G' (fun a b ha hb q => h'.1 a b ha hb ((hE a b ha hb).mp q)) h'.2.1 x y hx hy
  · exact h'.2.2 G (fun a b ha hb q => h.1 a b ha hb ((hE a b ha hb).mpr q)) h.2.1 x y hx hy
theorem clo1_b {v : Int} : ∀ (m : Nat) (i : Int) (g : Int → Int) (x : Int) (k : Nat), bi (clo1 v m i g x) k = (bi (g x) k || (decide (i ≤ x ∧ x < i + m) && (bi (g x) v.toNat && bi (g v) k))) := by
  intro m
  induction m with
  | zero =>
    intro i g x k
    rw [decide_eq_false (by omega)]
    simp [clo1]
  | succ m ih =>
    intro i g x k
    simp only [clo1]
    rw [ih]
    have e1 : ∀ k, bi ((if bi (g i) v.toNat = true then (fun j => if j = i then ior (g i) (g v) else g j) else g) v) k = bi (g v) k := fun k => by
      by_cases h : bi (g i) v.toNat = true
      · rw [if_pos h]
        by_cases e : v = i
        · simp only [if_pos e]
          rw [bi_ior, e]
          simp
        · simp only [if_neg e]
      · rw [if_neg h]
    rw [e1]
    by_cases e : x = i
    · have d1 : decide (i + 1 ≤ x ∧ x < i + 1 + (m : Int)) = false := decide_eq_false (by omega)
      have d2 : decide (i ≤ x ∧ x < i + ((m + 1 : Nat) : Int)) = true := decide_eq_true (by omega)
      rw [d1, d2, Bool.false_and, Bool.or_false, Bool.true_and]
      by_cases h : bi (g i) v.toNat = true
      · rw [if_pos h]
        simp only [if_pos e]
        rw [bi_ior, e, h, Bool.true_and]
      · rw [if_neg h]
        have h2 : bi (g i) v.toNat = false := by simpa using h
        rw [e, h2]
        simp
    · have d1 : decide (i + 1 ≤ x ∧ x < i + 1 + (m : Int)) = decide (i ≤ x ∧ x < i + ((m + 1 : Nat) : Int)) := by
        by_cases q : i ≤ x ∧ x < i + ((m + 1 : Nat) : Int)
        · rw [decide_eq_true q, decide_eq_true (by omega)]
        · rw [decide_eq_false q, decide_eq_false (by omega)]
      rw [d1]
      by_cases h : bi (g i) v.toNat = true
      · rw [if_pos h]
        simp only [if_neg e]
      · rw [if_neg h]
theorem clo2_p {n : Nat} : ∀ (m : Nat) (v : Int) (g : Int → Int), 0 ≤ v → v + m = n → (∀ w x y : Int, 0 ≤ w → w < v → iR n x → iR n y → bi (g x) w.toNat = true → bi (g w) y.toNat = true → bi (g x) y.toNat = true) → (∀ x y, iR n x → iR n y → bi (g x) y.toNat = true → bi (clo2 n m v g x) y.toNat = true) ∧ (∀ w x y, iR n w → iR n x → iR n y → bi (clo2 n m v g x) w.toNat = true → bi (clo2 n m v g w) y.toNat = true → bi (clo2 n m v g x) y.toNat = true) ∧ (∀ T : Int → Int → Prop, (∀ x y, iR n x → iR n y → bi (g x) y.toNat = true → T x y) → (∀ x y z, iR n x → iR n y → iR n z → T x y → T y z → T x z) → ∀ x y, iR n x → iR n y → bi (clo2 n m v g x) y.toNat = true → T x y) := by
  intro m
  induction m with
  | zero =>
    intro v g hv he ht
    refine ⟨fun x y _ _ h => h, fun w x y hw hx hy => ht w x y hw.1 (by have := hw.2; omega) hx hy, fun T hT _ => hT⟩
  | succ m ih =>
    intro v g hv he ht
    simp only [clo2]
    have hb : ∀ x k, iR n x → bi (clo1 v n 0 g x) k = (bi (g x) k || (bi (g x) v.toNat && bi (g v) k)) := fun x k hx => by
      rw [clo1_b, decide_eq_true (by have := hx.1; have := hx.2; omega), Bool.true_and]
    have hvr : iR n v := ⟨hv, by omega⟩
    obtain ⟨i1, i2, i3⟩ := ih (v + 1) (clo1 v n 0 g) (by omega) (by omega) (fun w x y w0 w1 hx hy h1 h2 => by
      have hw : iR n w := ⟨w0, by omega⟩
      rw [hb x _ hx, Bool.or_eq_true, Bool.and_eq_true] at h1
      rw [hb w _ hw, Bool.or_eq_true, Bool.and_eq_true] at h2
      rw [hb x _ hx, Bool.or_eq_true, Bool.and_eq_true]
      by_cases e : w = v
      · rw [e] at h1 h2
        have a1 : bi (g x) v.toNat = true := by
          rcases h1 with q | q
          · exact q
          · exact q.1
        have a2 : bi (g v) y.toNat = true := by
          rcases h2 with q | q
          · exact q
          · exact q.2
        exact Or.inr ⟨a1, a2⟩
      · have hwv : w < v := by omega
        rcases h1 with h1 | h1
        · rcases h2 with h2 | h2
          · exact Or.inl (ht w x y w0 hwv hx hy h1 h2)
          · exact Or.inr ⟨ht w x v w0 hwv hx hvr h1 h2.1, h2.2⟩
        · rcases h2 with h2 | h2
          · exact Or.inr ⟨h1.1, ht w v y w0 hwv hvr hy h1.2 h2⟩
          · exact Or.inr ⟨h1.1, h2.2⟩)
    refine ⟨fun x y hx hy h => i1 x y hx hy (by rw [hb x _ hx, h]; rfl), i2, fun T hT hTt => i3 T (fun x y hx hy h => ?_) hTt⟩
    rw [hb x _ hx, Bool.or_eq_true, Bool.and_eq_true] at h
    rcases h with h | h
    · exact hT x y hx hy h
    · exact hTt x v y hx hvr hy (hT x v hx hvr h.1) (hT v y hvr hy h.2)
theorem clo2_tc {n : Nat} (g : Int → Int) : tcR n (fun x y => bi (g x) y.toNat = true) (fun x y => bi (clo2 n n 0 g x) y.toNat = true) := by
  obtain ⟨h1, h2, h3⟩ := clo2_p (n := n) n 0 g (Int.le_refl 0) (by omega) (fun w x y w0 w1 => by omega)
  exact ⟨h1, fun x y z hx hy hz => h2 y x z hy hx hz, h3⟩
theorem bi_grw {lt all : Int} : ∀ (l : List Int) (x : Int) (i : Nat), (∀ s ∈ l, symR 10 s) → (bi (grw lt all x l) i = true ↔ bi x i = true ∨ ∃ s, s ∈ l ∧ 100 ≤ s ∧ (s - 100).toNat = i ∧ 0 < (if isl lt s = true then all - 1 else all))
  | [], x, i, _ => ⟨fun h => Or.inl h, fun h => by
    rcases h with h | ⟨s, hs, _⟩
    · exact h
    · cases hs⟩
  | s :: l, x, i, hl => by
    have hl2 : ∀ s ∈ l, symR 10 s := fun q hq => hl q (List.mem_cons_of_mem _ hq)
    have hs := hl s List.mem_cons_self
    unfold symR at hs
    simp only [grw]
    rw [bi_grw l _ i hl2]
    by_cases h : s < 100
    · rw [if_pos h]
      constructor
      · rintro (q | ⟨t, ht, h2, h3⟩)
        · exact Or.inl q
        · exact Or.inr ⟨t, List.mem_cons_of_mem _ ht, h2, h3⟩
      · rintro (q | ⟨t, ht, h2, h3⟩)
        · exact Or.inl q
        · rcases List.mem_cons.mp ht with e | ht
          · omega
          · exact Or.inr ⟨t, ht, h2, h3⟩
    · rw [if_neg h]
      by_cases hp : 0 < (if isl lt s = true then all - 1 else all)
      · rw [if_pos hp, bi_ior, bi_bit (by omega) (by omega), Bool.or_eq_true, decide_eq_true_eq]
        constructor
        · rintro ((q | q) | ⟨t, ht, h2, h3⟩)
          · exact Or.inl q
          · exact Or.inr ⟨s, List.mem_cons_self, by omega, by omega, hp⟩
          · exact Or.inr ⟨t, List.mem_cons_of_mem _ ht, h2, h3⟩
        · rintro (q | ⟨t, ht, h2, h3, h4⟩)
          · exact Or.inl (Or.inl q)
          · rcases List.mem_cons.mp ht with e | ht
            · rw [e] at h3
              exact Or.inl (Or.inr h3.symm)
            · exact Or.inr ⟨t, ht, h2, h3, h4⟩
      · rw [if_neg hp]
        constructor
        · rintro (q | ⟨t, ht, h2, h3⟩)
          · exact Or.inl q
          · exact Or.inr ⟨t, List.mem_cons_of_mem _ ht, h2, h3⟩
        · rintro (q | ⟨t, ht, h2, h3, h4⟩)
          · exact Or.inl q
          · rcases List.mem_cons.mp ht with e | ht
            · rw [e] at h4
              exact absurd h4 hp
            · exact Or.inr ⟨t, ht, h2, h3, h4⟩
theorem lts_add {lt : Int} : ∀ (l : List Int) (x : Int), lts lt x l = x + lts lt 0 l
  | [], x => by simp [lts]
  | s :: l, x => by
    simp only [lts]
    split
    · rw [lts_add l (x + 1), lts_add l (0 + 1)]
      omega
    · rw [lts_add l x]
/-- beside the k-th symbol another one gives letters -/
theorem lts_but {lt : Int} : ∀ (l : List Int) (k : Nat) (s : Int), l[k]? = some s → (0 < (if isl lt s = true then lts lt 0 l - 1 else lts lt 0 l) ↔ ∃ k' s', k' ≠ k ∧ l[k']? = some s' ∧ isl lt s' = true)
  | [], k, s, h => by simp at h
  | q :: l, 0, s, h => by
    have e : q = s := Option.some.inj h
    have h1 : (if isl lt s = true then lts lt 0 (q :: l) - 1 else lts lt 0 (q :: l)) = lts lt 0 l := by
      rw [e]
      simp only [lts]
      split
      · rw [lts_add l (0 + 1)]; omega
      · rfl
    rw [h1, lts_pos l 0 (Int.le_refl 0)]
    constructor
    · rintro (z | ⟨t, ht, h2⟩)
      · omega
      · obtain ⟨k', hk'⟩ := List.getElem?_of_mem ht
        exact ⟨k' + 1, t, by omega, hk', h2⟩
    · rintro ⟨k', s', hk, hs, h2⟩
      cases k' with
      | zero => exact absurd rfl hk
      | succ k' => exact Or.inr ⟨s', List.mem_of_getElem? hs, h2⟩
  | q :: l, k + 1, s, h => by
    have h0 : l[k]? = some s := h
    have ih := lts_but (lt := lt) l k s h0
    have hnn := (lts_r lt l 0).1
    have hpos : isl lt s = true → 0 < lts lt 0 l := fun z => (lts_pos l 0 (Int.le_refl 0)).mpr (Or.inr ⟨s, List.mem_of_getElem? h0, z⟩)
    simp only [lts]
    by_cases hq : isl lt q = true
    · rw [if_pos hq, lts_add l (0 + 1)]
      constructor
      · intro _
        exact ⟨0, q, by omega, rfl, hq⟩
      · intro _
        split
        · next z => have := hpos z; omega
        · omega
    · rw [if_neg hq, ih]
      constructor
      · rintro ⟨k', s', h1, h2, h3⟩
        exact ⟨k' + 1, s', by omega, h2, h3⟩
      · rintro ⟨k', s', h1, h2, h3⟩
        cases k' with
        | zero =>
          have e : q = s' := Option.some.inj h2
          rw [e] at hq
          exact absurd h3 hq
        | succ k' => exact ⟨k', s', by omega, h2, h3⟩
theorem iand_0 {x y : Int} : iand x y = 0 ↔ ∀ i, i < 32 → ¬ (bi x i = true ∧ bi y i = true) := by
  constructor
  · intro h i _ q
    have h1 := bi_iand x y i
    rw [h, bi_0, q.1, q.2] at h1
    cases h1
  · intro h
    refine bi_ext (ri_iand x y) ⟨by omega, by omega⟩ (fun i hi => ?_)
    rw [bi_iand, bi_0]
    cases h1 : bi x i with
    | false => rfl
    | true =>
      cases h2 : bi y i with
      | false => rfl
      | true => exact absurd ⟨h1, h2⟩ (h i hi)
