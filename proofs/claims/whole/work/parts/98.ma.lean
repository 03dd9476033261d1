/-! Gathering places: a key is looked for among those found, and set behind them if it is new -/
/-- the first of n keys that is (a, b), or n -/
def fdk (f g : Int → Int) (a b : Int) : Nat → Nat
  | 0 => 0
  | n + 1 => if fdk f g a b n < n then fdk f g a b n else if f n = a ∧ g n = b then n else n + 1
theorem fdk_le (f g : Int → Int) (a b : Int) : ∀ n : Nat, fdk f g a b n ≤ n
  | 0 => Nat.le_refl 0
  | n + 1 => by
    have := fdk_le f g a b n
    simp only [fdk]
    split
    · omega
    · split <;> omega
theorem fdk_hit {f g : Int → Int} {a b : Int} : ∀ {n : Nat}, fdk f g a b n < n → f (fdk f g a b n : Nat) = a ∧ g (fdk f g a b n : Nat) = b
  | 0, h => absurd h (Nat.not_lt_zero _)
  | n + 1, h => by
    simp only [fdk] at h ⊢
    by_cases h1 : fdk f g a b n < n
    · rw [if_pos h1]
      exact fdk_hit h1
    · rw [if_neg h1] at h ⊢
      by_cases h2 : f n = a ∧ g n = b
      · rw [if_pos h2]
        exact h2
      · rw [if_neg h2] at h
        omega
theorem fdk_no {f g : Int → Int} {a b : Int} : ∀ {n : Nat} {q : Nat}, q < fdk f g a b n → ¬ (f q = a ∧ g q = b)
  | 0, q, h => absurd h (Nat.not_lt_zero _)
  | n + 1, q, h => by
    have hl := fdk_le f g a b n
    simp only [fdk] at h
    by_cases h1 : fdk f g a b n < n
    · rw [if_pos h1] at h
      exact fdk_no h
    · rw [if_neg h1] at h
      have e : fdk f g a b n = n := by omega
      by_cases h2 : f n = a ∧ g n = b
      · rw [if_pos h2] at h
        exact fdk_no (n := n) (by omega)
      · rw [if_neg h2] at h
        by_cases e2 : q = n
        · rw [e2]; exact h2
        · exact fdk_no (n := n) (by omega)
theorem fdk_of {f g : Int → Int} {a b : Int} {n q : Nat} (hq : q < n) (hk : f q = a ∧ g q = b) (hd : ∀ p : Nat, p < q → ¬ (f p = a ∧ g p = b)) : fdk f g a b n = q := by
  by_cases h1 : fdk f g a b n < q
  · exact absurd (fdk_hit (by omega)) (hd _ h1)
  · by_cases h2 : q < fdk f g a b n
    · exact absurd hk (fdk_no h2)
    · omega
theorem fdk_none {f g : Int → Int} {a b : Int} {n : Nat} (h : ∀ q : Nat, q < n → ¬ (f q = a ∧ g q = b)) : fdk f g a b n = n := by
  have := fdk_le f g a b n
  by_cases h1 : fdk f g a b n < n
  · exact absurd (fdk_hit h1) (h _ h1)
  · omega
theorem fdk_congr {f g f' g' : Int → Int} {a b : Int} : ∀ {n : Nat}, (∀ q : Nat, q < n → f' q = f q ∧ g' q = g q) → fdk f' g' a b n = fdk f g a b n
  | 0, _ => rfl
  | n + 1, h => by
    simp only [fdk]
    rw [fdk_congr (n := n) (fun q hq => h q (by omega)), (h n (by omega)).1, (h n (by omega)).2]
/-- how many, the two parts of the keys, the steps -/
abbrev Pt := Nat × (Int → Int) × (Int → Int) × (Int → Int)
def plA (t : Pt) (a b : Int) : Nat := fdk t.2.1 t.2.2.1 a b t.1
def plS (go : Int → Int → Int → Int × Int) (i : Nat) (t : Pt) : Pt :=
  let k := go (t.2.1 ((i / 10 : Nat) : Int)) (t.2.2.1 ((i / 10 : Nat) : Int)) ((i % 10 : Nat) : Int)
  (max t.1 (plA t k.1 k.2 + 1), uf t.2.1 (plA t k.1 k.2 : Nat) k.1, uf t.2.2.1 (plA t k.1 k.2 : Nat) k.2, uf t.2.2.2 (i : Int) (plA t k.1 k.2 : Nat))
def plG (go : Int → Int → Int → Int × Int) (a b : Int) : Nat → Pt
  | 0 => (1, fun _ => a, fun _ => b, fun _ => 0)
  | i + 1 => plS go i (plG go a b i)
section
variable {go : Int → Int → Int → Int × Int} {a b : Int}
theorem plG_s (go : Int → Int → Int → Int × Int) (a b : Int) (i : Nat) : plG go a b (i + 1) = plS go i (plG go a b i) := rfl
theorem plA_le (t : Pt) (x y : Int) : plA t x y ≤ t.1 := fdk_le _ _ _ _ _
theorem plS_1 (go : Int → Int → Int → Int × Int) (i : Nat) (t : Pt) : t.1 ≤ (plS go i t).1 ∧ (plS go i t).1 ≤ t.1 + 1 := by
  have := plA_le t (go (t.2.1 ((i / 10 : Nat) : Int)) (t.2.2.1 ((i / 10 : Nat) : Int)) ((i % 10 : Nat) : Int)).1 (go (t.2.1 ((i / 10 : Nat) : Int)) (t.2.2.1 ((i / 10 : Nat) : Int)) ((i % 10 : Nat) : Int)).2
  unfold plS
  simp only
  omega
theorem plG_pos : ∀ i : Nat, 1 ≤ (plG go a b i).1
  | 0 => Nat.le_refl 1
  | i + 1 => Nat.le_trans (plG_pos i) (plS_1 go i _).1
theorem plG_mono {i : Nat} : ∀ m : Nat, (plG go a b i).1 ≤ (plG go a b (i + m)).1
  | 0 => Nat.le_refl _
  | m + 1 => Nat.le_trans (plG_mono m) (plS_1 go (i + m) _).1
/-- what is there stays -/
theorem plS_keep (i : Nat) (t : Pt) (q : Nat) (hq : q < t.1) : (plS go i t).2.1 q = t.2.1 q ∧ (plS go i t).2.2.1 q = t.2.2.1 q := by
  unfold plS
  simp only
  generalize hk : go (t.2.1 ((i / 10 : Nat) : Int)) (t.2.2.1 ((i / 10 : Nat) : Int)) ((i % 10 : Nat) : Int) = k
  by_cases e : (q : Int) = (plA t k.1 k.2 : Nat)
  · have e2 : q = plA t k.1 k.2 := by omega
    have := fdk_hit (f := t.2.1) (g := t.2.2.1) (a := k.1) (b := k.2) (n := t.1) (by unfold plA at e2; omega)
    rw [← e, uf_eq, uf_eq]
    unfold plA at e2
    rw [← e2] at this
    exact ⟨this.1.symm, this.2.symm⟩
  · exact ⟨uf_ne e, uf_ne e⟩
theorem plG_keep {i q : Nat} (hq : q < (plG go a b i).1) : ∀ m : Nat, (plG go a b (i + m)).2.1 q = (plG go a b i).2.1 q ∧ (plG go a b (i + m)).2.2.1 q = (plG go a b i).2.2.1 q
  | 0 => ⟨rfl, rfl⟩
  | m + 1 => by
    have h1 := plG_keep hq m
    have h2 := plS_keep (go := go) (i + m) (plG go a b (i + m)) q (Nat.lt_of_lt_of_le hq (plG_mono m))
    exact ⟨h2.1.trans h1.1, h2.2.trans h1.2⟩
theorem plG_x {i j : Nat} (hj : j < i) : ∀ m : Nat, (plG go a b (i + m)).2.2.2 j = (plG go a b i).2.2.2 j
  | 0 => rfl
  | m + 1 => by
    refine Eq.trans ?_ (plG_x hj m)
    have hne : (j : Int) ≠ ((i + m : Nat) : Int) := by omega
    exact uf_ne hne
/-- the key of a place, all keys differ, each step's place has its key -/
theorem plS_key (i : Nat) (t : Pt) : let k := go (t.2.1 ((i / 10 : Nat) : Int)) (t.2.2.1 ((i / 10 : Nat) : Int)) ((i % 10 : Nat) : Int); (plS go i t).2.2.2 i = (plA t k.1 k.2 : Nat) ∧ plA t k.1 k.2 < (plS go i t).1 ∧ (plS go i t).2.1 (plA t k.1 k.2 : Nat) = k.1 ∧ (plS go i t).2.2.1 (plA t k.1 k.2 : Nat) = k.2 := by
  intro k
  refine ⟨uf_eq _ _ _, ?_, uf_eq _ _ _, uf_eq _ _ _⟩
  show plA t k.1 k.2 < max t.1 (plA t k.1 k.2 + 1)
  omega
theorem plG_diff : ∀ (i : Nat) {p q : Nat}, p < q → q < (plG go a b i).1 → ¬ ((plG go a b i).2.1 p = (plG go a b i).2.1 q ∧ (plG go a b i).2.2.1 p = (plG go a b i).2.2.1 q)
  | 0, p, q, h1, h2 => by
    have h2 : q < 1 := h2
    omega
  | i + 1, p, q, h1, h2 => by
    rw [plG_s] at h2 ⊢
    have hk := plS_key (go := go) i (plG go a b i)
    generalize hg : go ((plG go a b i).2.1 ((i / 10 : Nat) : Int)) ((plG go a b i).2.2.1 ((i / 10 : Nat) : Int)) ((i % 10 : Nat) : Int) = k at hk
    have h3 := plS_1 go i (plG go a b i)
    by_cases hq : q < (plG go a b i).1
    · have e1 := plS_keep (go := go) i (plG go a b i) q hq
      have e2 := plS_keep (go := go) i (plG go a b i) p (by omega)
      rw [e1.1, e1.2, e2.1, e2.2]
      exact plG_diff i h1 hq
    · have hA := plA_le (plG go a b i) k.1 k.2
      have hd : (plS go i (plG go a b i)).1 = max (plG go a b i).1 (plA (plG go a b i) k.1 k.2 + 1) := by
        rw [← hg]; rfl
      have eq : q = plA (plG go a b i) k.1 k.2 := by omega
      have e2 := plS_keep (go := go) i (plG go a b i) p (by omega)
      rw [e2.1, e2.2, eq, hk.2.2.1, hk.2.2.2]
      exact fdk_no (n := (plG go a b i).1) (by unfold plA at eq; omega)
theorem plG_good {P : Int → Int → Prop} (h0 : P a b) (hs : ∀ x y c : Int, P x y → 0 ≤ c → c < 10 → P (go x y c).1 (go x y c).2) : ∀ (i : Nat) (q : Int), P ((plG go a b i).2.1 q) ((plG go a b i).2.2.1 q)
  | 0, _ => h0
  | i + 1, q => by
    rw [plG_s]
    have ih := plG_good h0 hs i
    have hk := hs _ _ ((i % 10 : Nat) : Int) (ih ((i / 10 : Nat) : Int)) (by omega) (by omega)
    unfold plS
    simp only
    by_cases e : q = (plA (plG go a b i) (go ((plG go a b i).2.1 ((i / 10 : Nat) : Int)) ((plG go a b i).2.2.1 ((i / 10 : Nat) : Int)) ((i % 10 : Nat) : Int)).1 (go ((plG go a b i).2.1 ((i / 10 : Nat) : Int)) ((plG go a b i).2.2.1 ((i / 10 : Nat) : Int)) ((i % 10 : Nat) : Int)).2 : Nat)
    · rw [e, uf_eq, uf_eq]
      exact hk
    · rw [uf_ne e, uf_ne e]
      exact ih q
/-- so far each step began at a place, and there were not too many -/
def plL (go : Int → Int → Int → Int × Int) (a b : Int) (i : Nat) : Prop := ∀ j : Nat, j < i → j / 10 < (plG go a b j).1 ∧ (plG go a b (j + 1)).1 ≤ 2000
/-- too many -/
def plB (go : Int → Int → Int → Int × Int) (a b : Int) (i : Nat) : Prop := plL go a b i ∧ i / 10 < (plG go a b i).1 ∧ (plG go a b (i + 1)).1 = 2001
/-- all gathered -/
def plE (go : Int → Int → Int → Int × Int) (a b : Int) (i : Nat) : Prop := plL go a b i ∧ i = 10 * (plG go a b i).1
theorem plL_0 : plL go a b 0 := fun j hj => absurd hj (Nat.not_lt_zero j)
theorem plL_s {i : Nat} (h : plL go a b i) (h1 : i / 10 < (plG go a b i).1) (h2 : (plG go a b (i + 1)).1 ≤ 2000) : plL go a b (i + 1) := fun j hj => by
  by_cases e : j = i
  · rw [e]; exact ⟨h1, h2⟩
  · exact h j (by omega)
theorem plL_le {i : Nat} (h : plL go a b i) : (plG go a b i).1 ≤ 2000 := by
  cases i with
  | zero => show 1 ≤ 2000; omega
  | succ i => exact (h i (by omega)).2
theorem plE_uniq {i j : Nat} (hi : plE go a b i) (hj : plE go a b j) : i = j := by
  have key : ∀ {i j : Nat}, plE go a b i → plE go a b j → ¬ i < j := by
    intro i j h1 h2 h
    have h3 := (h2.1 i h).1
    have h4 := h1.2
    omega
  have h1 := key hi hj
  have h2 := key hj hi
  omega
theorem plE_B {i j : Nat} (hi : plE go a b i) (hj : plB go a b j) : False := by
  by_cases h : i < j
  · have h3 := (hj.1 i h).1
    have h4 := hi.2
    omega
  · by_cases h' : j < i
    · have h3 := (hi.1 j h').2
      have h4 := hj.2.2
      omega
    · have e : i = j := by omega
      have h3 := hj.2.1
      rw [← e] at h3
      have := hi.2
      omega
theorem plL_x {i j : Nat} (h : plL go a b i) (hj : j < i) : ∃ q : Nat, q < (plG go a b i).1 ∧ (plG go a b i).2.2.2 j = (q : Int) ∧ ((plG go a b i).2.1 q, (plG go a b i).2.2.1 q) = go ((plG go a b i).2.1 ((j / 10 : Nat) : Int)) ((plG go a b i).2.2.1 ((j / 10 : Nat) : Int)) ((j % 10 : Nat) : Int) := by
  obtain ⟨m, e⟩ : ∃ m : Nat, i = (j + 1) + m := ⟨i - (j + 1), by omega⟩
  have hk := plS_key (go := go) j (plG go a b j)
  rw [← plG_s] at hk
  generalize hg : go ((plG go a b j).2.1 ((j / 10 : Nat) : Int)) ((plG go a b j).2.2.1 ((j / 10 : Nat) : Int)) ((j % 10 : Nat) : Int) = k at hk
  have h1 := (h j hj).1
  have hm := plG_mono (go := go) (a := a) (b := b) (i := j + 1) m
  have k1 := plG_keep (go := go) (a := a) (b := b) (i := j + 1) (q := plA (plG go a b j) k.1 k.2) hk.2.1 m
  have k2 := plG_keep (go := go) (a := a) (b := b) (i := j) (q := j / 10) h1 (1 + m)
  have k3 := plG_x (go := go) (a := a) (b := b) (i := j + 1) (j := j) (by omega) m
  have e' : j + (1 + m) = i := by omega
  rw [e'] at k2
  rw [← e] at k1 k3 hm
  refine ⟨plA (plG go a b j) k.1 k.2, Nat.lt_of_lt_of_le hk.2.1 hm, by rw [k3]; exact hk.1, ?_⟩
  rw [k1.1, k1.2, k2.1, k2.2, hg, hk.2.2.1, hk.2.2.2]
end
theorem fdk_iff {f g f' g' : Int → Int} {a b : Int} : ∀ {n : Nat}, (∀ q : Nat, q < n → ((f' q = a ∧ g' q = b) ↔ (f q = a ∧ g q = b))) → fdk f' g' a b n = fdk f g a b n
  | 0, _ => rfl
  | n + 1, h => by
    simp only [fdk]
    rw [fdk_iff (n := n) (fun q hq => h q (by omega))]
    by_cases c : f n = a ∧ g n = b
    · rw [if_pos c, if_pos ((h n (by omega)).mpr c)]
    · rw [if_neg c, if_neg (fun hh => c ((h n (by omega)).mp hh))]
/-- two ways of naming the beginning -/
def pl2 (b b' : Int) (t t' : Pt) : Prop := t.1 = t'.1 ∧ t.2.1 0 = 1 ∧ t'.2.1 0 = 1 ∧ t.2.2.1 0 = b ∧ t'.2.2.1 0 = b' ∧ (∀ q : Nat, 1 ≤ q → q < t.1 → t.2.1 q = 0 ∧ t'.2.1 q = 0 ∧ t.2.2.1 q = t'.2.2.1 q) ∧ t.2.2.2 = t'.2.2.2
theorem pl2_s {go go' : Int → Int → Int → Int × Int} {b b' : Int} (h1 : ∀ x y c, (go x y c).1 = 0) (h2 : ∀ y c, go 0 y c = go' 0 y c) (h3 : ∀ c, go 1 b c = go' 1 b' c) {t t' : Pt} {i : Nat} (hi : i / 10 < t.1) (h : pl2 b b' t t') : pl2 b b' (plS go i t) (plS go' i t') := by
  obtain ⟨a1, a2, a3, a4, a5, a6, a7⟩ := h
  have ek : go (t.2.1 ((i / 10 : Nat) : Int)) (t.2.2.1 ((i / 10 : Nat) : Int)) ((i % 10 : Nat) : Int) = go' (t'.2.1 ((i / 10 : Nat) : Int)) (t'.2.2.1 ((i / 10 : Nat) : Int)) ((i % 10 : Nat) : Int) := by
    by_cases e : i / 10 = 0
    · rw [e]
      show go (t.2.1 0) (t.2.2.1 0) _ = go' (t'.2.1 0) (t'.2.2.1 0) _
      rw [a2, a3, a4, a5, h3]
    · obtain ⟨b1, b2, b3⟩ := a6 (i / 10) (by omega) hi
      rw [b1, b2, b3, h2]
  have hk := h1 (t.2.1 ((i / 10 : Nat) : Int)) (t.2.2.1 ((i / 10 : Nat) : Int)) ((i % 10 : Nat) : Int)
  unfold plS
  simp only
  rw [← ek]
  generalize go (t.2.1 ((i / 10 : Nat) : Int)) (t.2.2.1 ((i / 10 : Nat) : Int)) ((i % 10 : Nat) : Int) = k at hk
  have ef : plA t' k.1 k.2 = plA t k.1 k.2 := by
    unfold plA
    rw [← a1]
    refine fdk_iff (fun q hq => ?_)
    by_cases e : q = 0
    · rw [e]
      constructor
      · intro hh
        have := hh.1
        have a3' : t'.2.1 ((0 : Nat) : Int) = 1 := a3
        omega
      · intro hh
        have := hh.1
        have a2' : t.2.1 ((0 : Nat) : Int) = 1 := a2
        omega
    · obtain ⟨b1, b2, b3⟩ := a6 q (by omega) hq
      rw [b1, b2, b3]
  rw [ef]
  have hA0 : plA t k.1 k.2 ≠ 0 := by
    intro e
    have := fdk_hit (f := t.2.1) (g := t.2.2.1) (a := k.1) (b := k.2) (n := t.1) (by unfold plA at e; omega)
    unfold plA at e
    rw [e] at this
    have h1 : t.2.1 ((0 : Nat) : Int) = 1 := a2
    omega
  have hA0' : (0 : Int) ≠ (plA t k.1 k.2 : Nat) := by omega
  refine ⟨by simp only; omega, ?_, ?_, ?_, ?_, ?_, ?_⟩
  · exact (uf_ne hA0').trans a2
  · exact (uf_ne hA0').trans a3
  · exact (uf_ne hA0').trans a4
  · exact (uf_ne hA0').trans a5
  · intro q q1 q2
    simp only at q2 ⊢
    by_cases e : (q : Int) = (plA t k.1 k.2 : Nat)
    · rw [e, uf_eq, uf_eq, uf_eq, uf_eq]
      exact ⟨hk, hk, rfl⟩
    · rw [uf_ne e, uf_ne e, uf_ne e, uf_ne e]
      have hA := plA_le t k.1 k.2
      exact a6 q q1 (by omega)
  · simp only
    rw [a7]
theorem plG_two {go go' : Int → Int → Int → Int × Int} {b b' : Int} (h1 : ∀ x y c, (go x y c).1 = 0) (h2 : ∀ y c, go 0 y c = go' 0 y c) (h3 : ∀ c, go 1 b c = go' 1 b' c) : ∀ i : Nat, (∀ j : Nat, j < i → j / 10 < (plG go 1 b j).1) → pl2 b b' (plG go 1 b i) (plG go' 1 b' i)
  | 0, _ => ⟨rfl, rfl, rfl, rfl, rfl, fun q q1 q2 => by have q2 : q < 1 := q2; omega, rfl⟩
  | i + 1, h => pl2_s h1 h2 h3 (h i (by omega)) (plG_two h1 h2 h3 i (fun j hj => h j (by omega)))
theorem plT_L {go go' : Int → Int → Int → Int × Int} {b b' : Int} (h1 : ∀ x y c, (go x y c).1 = 0) (h2 : ∀ y c, go 0 y c = go' 0 y c) (h3 : ∀ c, go 1 b c = go' 1 b' c) {i : Nat} (h : plL go 1 b i) : plL go' 1 b' i := fun j hj => by
  have e1 := (plG_two h1 h2 h3 j (fun k hk => (h k (by omega)).1)).1
  have e2 := (plG_two h1 h2 h3 (j + 1) (fun k hk => (h k (by omega)).1)).1
  rw [← e1, ← e2]
  exact h j hj
theorem plT_B {go go' : Int → Int → Int → Int × Int} {b b' : Int} (h1 : ∀ x y c, (go x y c).1 = 0) (h2 : ∀ y c, go 0 y c = go' 0 y c) (h3 : ∀ c, go 1 b c = go' 1 b' c) {i : Nat} (h : plB go 1 b i) : plB go' 1 b' i := by
  have e1 := (plG_two h1 h2 h3 i (fun k hk => (h.1 k (by omega)).1)).1
  have e2 := (plG_two h1 h2 h3 (i + 1) (fun k hk => by
    by_cases e : k = i
    · rw [e]; exact h.2.1
    · exact (h.1 k (by omega)).1)).1
  exact ⟨plT_L h1 h2 h3 h.1, by rw [← e1]; exact h.2.1, by rw [← e2]; exact h.2.2⟩
theorem plT_E {go go' : Int → Int → Int → Int × Int} {b b' : Int} (h1 : ∀ x y c, (go x y c).1 = 0) (h2 : ∀ y c, go 0 y c = go' 0 y c) (h3 : ∀ c, go 1 b c = go' 1 b' c) {i : Nat} (h : plE go 1 b i) : plE go' 1 b' i ∧ pl2 b b' (plG go 1 b i) (plG go' 1 b' i) := by
  have e1 := plG_two h1 h2 h3 i (fun k hk => (h.1 k (by omega)).1)
  exact ⟨⟨plT_L h1 h2 h3 h.1, by rw [← e1.1]; exact h.2⟩, e1⟩
