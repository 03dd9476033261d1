/-! The other side: looking at all rules until nothing is new -/
theorem wr_same {u : uS} {a : Nat} {i x : Int} (h : u.1 a i = x) : wr u a i x = u := by
  refine Prod.ext ?_ rfl
  funext b j
  rw [wr_1]
  split
  · next q => rw [q.1, q.2, h]
  · rfl
def sm (g : Nat → Nat) : Nat → Nat
  | 0 => 0
  | n + 1 => sm g n + g n
theorem sm_le {g g' : Nat → Nat} : ∀ n : Nat, (∀ i, i < n → g i ≤ g' i) → sm g n ≤ sm g' n
  | 0, _ => Nat.le_refl 0
  | n + 1, h => by
    have h1 := sm_le n (fun i hi => h i (by omega))
    have h2 := h n (by omega)
    simp only [sm]
    omega
theorem sm_lt {g g' : Nat → Nat} : ∀ n : Nat, (∀ i, i < n → g i ≤ g' i) → (∃ i, i < n ∧ g i < g' i) → sm g n < sm g' n
  | 0, _, ⟨i, hi, _⟩ => absurd hi (Nat.not_lt_zero i)
  | n + 1, h, ⟨i, hi, hlt⟩ => by
    have h2 := h n (by omega)
    simp only [sm]
    by_cases e : i = n
    · have h1 := sm_le n (fun i hi => h i (by omega))
      rw [e] at hlt
      omega
    · have h1 := sm_lt n (fun i hi => h i (by omega)) ⟨i, by omega, hlt⟩
      omega
def muG (u : uS) (i : Nat) : Nat := (u.1 288 i).toNat + (u.1 289 i).toNat + (if u.1 283 i = 0 then 1 else 0) + (if u.1 285 i = 0 then 1 else 0) + (if u.1 286 i = 0 then 1 else 0)
def mu (u : uS) : Nat := sm (muG u) 10
def vN (u : uS) (y : Int) : Int := if u.1 283 y = 0 then 9000000000000000000 else u.1 288 y
def ctT (u : uS) : Nat := ct (fun i => decide (u.1 283 (i : Int) ≠ 0)) 10
def RI (nv nr : Nat) (hd : Int → Int) (rw : Int → List Int) (lw : Int → Int) (lt : Int → Prop) (u : uS) : Prop :=
  rgM u ∧ (∀ y : Int, 0 ≤ y → y < 10 → u.1 283 y = 0 → u.1 285 y = 0 ∧ u.1 286 y = 0) ∧
  (∀ y : Int, 0 ≤ y → y < 10 → u.1 283 y ≠ 0 → y < nv ∧ lw y ≠ 0 ∧ lw y ≤ u.1 289 y ∧ 1 ≤ u.1 289 y ∧ u.1 289 y ≤ ctT u ∧ (u.1 285 y ≠ 0 ↔ u.1 288 y = 0) ∧ (u.1 286 y ≠ 0 → lt y) ∧ ∀ w, PF nv nr hd rw w → w y ≤ u.1 288 y)
theorem goo_iff {f : Int → Int} : ∀ {l : List Int}, goo f l = true ↔ vr (fun y => f y ≠ 0) l
  | [] => ⟨fun _ s hs => (by cases hs), fun _ => rfl⟩
  | s :: l => by
    have ih := goo_iff (f := f) (l := l)
    simp only [goo, Bool.and_eq_true, Bool.or_eq_true, decide_eq_true_eq]
    constructor
    · rintro ⟨h1, h2⟩ q hq h3
      rcases List.mem_cons.mp hq with e | hq
      · rw [e] at h3 ⊢
        rcases h1 with h1 | h1
        · omega
        · exact h1
      · exact ih.mp h2 q hq h3
    · intro h
      refine ⟨?_, ih.mpr (fun q hq => h q (List.mem_cons_of_mem _ hq))⟩
      by_cases hs : s < 100
      · exact Or.inl hs
      · exact Or.inr (h s List.mem_cons_self (by omega))
theorem pl_59 {a b : Int} (ha : 0 ≤ a ∧ a ≤ 4000000000000000000) (hb : 0 ≤ b ∧ b ≤ 4000000000000000000) : pl 5000000000000000000 a b = pl 9000000000000000000 a b ∧ 0 ≤ pl 9000000000000000000 a b ∧ pl 9000000000000000000 a b ≤ 4000000000000000000 := by
  unfold pl
  rw [if_neg (by omega), if_neg (by omega)]
  refine ⟨rfl, by omega, by omega⟩
/-- sums of what has trees -/
theorem sh5_eq {f : Int → Int} : ∀ (l : List Int) (x : Int), vr (fun y => 0 ≤ f y ∧ f y ≤ 4000000000000000000) l → 0 ≤ x ∧ x ≤ 4000000000000000000 → sh5 f x l = shS f x l ∧ 0 ≤ shS f x l ∧ shS f x l ≤ 4000000000000000000
  | [], x, _, hx => ⟨rfl, hx⟩
  | s :: l, x, h, hx => by
    simp only [sh5, shS]
    have h2 : vr (fun y => 0 ≤ f y ∧ f y ≤ 4000000000000000000) l := fun q hq => h q (List.mem_cons_of_mem _ hq)
    by_cases hs : s < 100
    · rw [if_pos hs]
      have hp := pl_59 (b := 1) hx (by omega)
      rw [hp.1]
      exact sh5_eq l _ h2 hp.2
    · rw [if_neg hs]
      have hp := pl_59 hx (h s List.mem_cons_self (by omega))
      rw [hp.1]
      exact sh5_eq l _ h2 hp.2
theorem mxH_p {H : Int → Int} {b : Int} : ∀ (l : List Int) (x : Int), vr (fun y => H y ≤ b) l → x ≤ b → x ≤ mxH H x l ∧ mxH H x l ≤ b ∧ vr (fun y => H y ≤ mxH H x l) l
  | [], x, _, hx => ⟨Int.le_refl _, hx, fun s hs => by cases hs⟩
  | s :: l, x, h, hx => by
    have h2 : vr (fun y => H y ≤ b) l := fun q hq => h q (List.mem_cons_of_mem _ hq)
    simp only [mxH]
    by_cases hs : s < 100
    · rw [if_pos hs]
      obtain ⟨i1, i2, i3⟩ := mxH_p l x h2 hx
      refine ⟨i1, i2, fun q hq h3 => ?_⟩
      rcases List.mem_cons.mp hq with e | hq
      · omega
      · exact i3 q hq h3
    · rw [if_neg hs]
      have hb : H (s - 100) ≤ b := h s List.mem_cons_self (by omega)
      by_cases hc : x < H (s - 100)
      · rw [if_pos hc]
        obtain ⟨i1, i2, i3⟩ := mxH_p l (H (s - 100)) h2 hb
        refine ⟨by omega, i2, fun q hq h3 => ?_⟩
        rcases List.mem_cons.mp hq with e | hq
        · rw [e]; exact i1
        · exact i3 q hq h3
      · rw [if_neg hc]
        obtain ⟨i1, i2, i3⟩ := mxH_p l x h2 hx
        refine ⟨i1, i2, fun q hq h3 => ?_⟩
        rcases List.mem_cons.mp hq with e | hq
        · rw [e]
          show H (s - 100) ≤ _
          omega
        · exact i3 q hq h3
theorem leR_iff {E : Int → Int} : ∀ {l : List Int}, leR E l = true ↔ ∃ s, s ∈ l ∧ (s < 100 ∨ E (s - 100) ≠ 0)
  | [] => ⟨fun h => (by cases h), fun ⟨s, hs, _⟩ => (by cases hs)⟩
  | s :: l => by
    have ih := leR_iff (E := E) (l := l)
    simp only [leR, Bool.or_eq_true, decide_eq_true_eq]
    constructor
    · rintro (h1 | h1)
      · exact ⟨s, List.mem_cons_self, h1⟩
      · obtain ⟨q, hq, h2⟩ := ih.mp h1
        exact ⟨q, List.mem_cons_of_mem _ hq, h2⟩
    · rintro ⟨q, hq, h2⟩
      rcases List.mem_cons.mp hq with e | hq
      · rw [e] at h2; exact Or.inl h2
      · exact Or.inr (ih.mpr ⟨q, hq, h2⟩)
/-- the sum is nothing just where all are variables that can be nothing -/
theorem emR_iff {E f : Int → Int} : ∀ (l : List Int) (x : Int), vr (fun y => 0 ≤ f y ∧ f y ≤ 4000000000000000000 ∧ (E y ≠ 0 ↔ f y = 0)) l → 0 ≤ x ∧ x ≤ 4000000000000000000 → (shS f x l = 0 ↔ x = 0 ∧ emR E l = true)
  | [], x, _, hx => ⟨fun h => ⟨h, rfl⟩, fun h => h.1⟩
  | s :: l, x, h, hx => by
    have h2 : vr (fun y => 0 ≤ f y ∧ f y ≤ 4000000000000000000 ∧ (E y ≠ 0 ↔ f y = 0)) l := fun q hq => h q (List.mem_cons_of_mem _ hq)
    simp only [shS, emR, Bool.and_eq_true, Bool.not_eq_true', decide_eq_false_iff_not, decide_eq_true_eq]
    by_cases hs : s < 100
    · rw [if_pos hs]
      have hp := pl_59 (b := 1) hx (by omega)
      rw [emR_iff l _ h2 hp.2]
      have h1 : 1 ≤ pl 9000000000000000000 x 1 := by
        unfold pl
        rw [if_neg (by omega)]
        omega
      constructor
      · rintro ⟨q, -⟩; omega
      · rintro ⟨-, ⟨q, -⟩, -⟩; exact absurd hs q
    · rw [if_neg hs]
      have hv := h s List.mem_cons_self (by omega)
      have hp := pl_59 hx ⟨hv.1, hv.2.1⟩
      rw [emR_iff l _ h2 hp.2]
      have h1 : pl 9000000000000000000 x (f (s - 100)) = 0 ↔ x = 0 ∧ f (s - 100) = 0 := by
        have := hv.1
        have := hv.2.1
        unfold pl
        rw [if_neg (by omega)]
        omega
      rw [h1, hv.2.2]
      constructor
      · rintro ⟨⟨q1, q2⟩, q3⟩; exact ⟨q1, ⟨hs, q2⟩, q3⟩
      · rintro ⟨q1, ⟨-, q2⟩, q3⟩; exact ⟨⟨q1, q2⟩, q3⟩
section LK
variable {u : uS} {x n h : Int} {em le : Bool}
theorem lk_283 : (lk u x n h em le).1 283 = uf (u.1 283) x 1 := by
  unfold lk
  rw [wr_ne (by decide), wr_ne (by decide), wr_ne (by decide), wr_ne (by decide), wr_uf]
theorem lk_288 : (lk u x n h em le).1 288 = uf (u.1 288) x (if n < u.1 288 x then n else u.1 288 x) := by
  unfold lk
  rw [wr_ne (by decide), wr_ne (by decide), wr_ne (by decide), wr_uf, wr_ne (by decide)]
theorem lk_289 : (lk u x n h em le).1 289 = uf (u.1 289) x (if h + 1 < u.1 289 x then h + 1 else u.1 289 x) := by
  unfold lk
  rw [wr_ne (by decide), wr_ne (by decide), wr_uf, wr_ne (by decide), wr_ne (by decide)]
theorem lk_285 : (lk u x n h em le).1 285 = uf (u.1 285) x (b2 (decide (u.1 285 x ≠ 0) || em)) := by
  unfold lk
  rw [wr_ne (by decide), wr_uf, wr_ne (by decide), wr_ne (by decide), wr_ne (by decide)]
theorem lk_286 : (lk u x n h em le).1 286 = uf (u.1 286) x (b2 (decide (u.1 286 x ≠ 0) || le)) := by
  unfold lk
  rw [wr_uf, wr_ne (by decide), wr_ne (by decide), wr_ne (by decide), wr_ne (by decide)]
theorem lk_sb {u0 : uS} (hs : sb1 u0 u [283, 284, 285, 286, 288, 289]) : sb1 u0 (lk u x n h em le) [283, 284, 285, 286, 288, 289] := by
  unfold lk
  exact sb1_wr (sb1_wr (sb1_wr (sb1_wr (sb1_wr hs (by decide)) (by decide)) (by decide)) (by decide)) (by decide)
theorem lk_same (hT : u.1 283 x = 0 ∨ u.1 283 x = 1) (hE : u.1 285 x = 0 ∨ u.1 285 x = 1) (hL : u.1 286 x = 0 ∨ u.1 286 x = 1) (hn : nws u x n h em le = false) : lk u x n h em le = u := by
  unfold nws at hn
  simp only [Bool.or_eq_false_iff, decide_eq_false_iff_not, Bool.and_eq_false_iff] at hn
  obtain ⟨⟨⟨⟨n1, n2⟩, n3⟩, n4⟩, n5⟩ := hn
  unfold lk
  rw [if_neg n2, if_neg n3]
  have e1 : wr u 283 x 1 = u := wr_same (by omega)
  rw [e1]
  have e2 : wr u 288 x (u.1 288 x) = u := wr_same rfl
  rw [e2]
  have e3 : wr u 289 x (u.1 289 x) = u := wr_same rfl
  rw [e3]
  have e4 : wr u 285 x (b2 (decide (u.1 285 x ≠ 0) || em)) = u := by
    refine wr_same ?_
    rcases hE with q | q
    · rcases n4 with q2 | q2
      · rw [q, q2]; rfl
      · exact absurd q q2
    · rw [q]
      cases em <;> rfl
  rw [e4]
  refine wr_same ?_
  rcases hL with q | q
  · rcases n5 with q2 | q2
    · rw [q, q2]; rfl
    · exact absurd q q2
  · rw [q]
    cases le <;> rfl
theorem lk_mu (x0 : 0 ≤ x) (x1 : x < 10) (hT : u.1 283 x = 0 ∨ u.1 283 x = 1) (hE : u.1 285 x = 0 ∨ u.1 285 x = 1) (hL : u.1 286 x = 0 ∨ u.1 286 x = 1) (hN : 0 ≤ u.1 288 x) (hH : 0 ≤ u.1 289 x) (hn0 : 0 ≤ n) (hh0 : 0 ≤ h) (hn : nws u x n h em le = true) : mu (lk u x n h em le) < mu u := by
  unfold mu
  have key : ∀ i : Nat, (i : Int) ≠ x → muG (lk u x n h em le) i = muG u i := fun i hi => by
    unfold muG
    rw [lk_283, lk_288, lk_289, lk_285, lk_286, uf_ne hi, uf_ne hi, uf_ne hi, uf_ne hi, uf_ne hi]
  have kx : muG (lk u x n h em le) x.toNat < muG u x.toNat := by
    have e : ((x.toNat : Nat) : Int) = x := by omega
    unfold muG
    rw [lk_283, lk_288, lk_289, lk_285, lk_286, e, uf_eq, uf_eq, uf_eq, uf_eq, uf_eq]
    unfold nws at hn
    simp only [Bool.or_eq_true, decide_eq_true_eq, Bool.and_eq_true] at hn
    have b2a : (if b2 (decide (u.1 285 x ≠ 0) || em) = 0 then 1 else 0) ≤ (if u.1 285 x = 0 then 1 else 0) ∧ (em = true → u.1 285 x = 0 → (if b2 (decide (u.1 285 x ≠ 0) || em) = 0 then 1 else 0) < (if u.1 285 x = 0 then 1 else 0)) := by
      rcases hE with q | q <;> cases em <;> simp [q, b2]
    have b2b : (if b2 (decide (u.1 286 x ≠ 0) || le) = 0 then 1 else 0) ≤ (if u.1 286 x = 0 then 1 else 0) ∧ (le = true → u.1 286 x = 0 → (if b2 (decide (u.1 286 x ≠ 0) || le) = 0 then 1 else 0) < (if u.1 286 x = 0 then 1 else 0)) := by
      rcases hL with q | q <;> cases le <;> simp [q, b2]
    generalize (if b2 (decide (u.1 285 x ≠ 0) || em) = 0 then 1 else 0) = A at b2a
    generalize (if u.1 285 x = 0 then 1 else 0) = A' at b2a
    generalize (if b2 (decide (u.1 286 x ≠ 0) || le) = 0 then 1 else 0) = B at b2b
    generalize (if u.1 286 x = 0 then 1 else 0) = B' at b2b
    have c1 : (if n < u.1 288 x then n else u.1 288 x).toNat ≤ (u.1 288 x).toNat ∧ (n < u.1 288 x → (if n < u.1 288 x then n else u.1 288 x).toNat < (u.1 288 x).toNat) := by
      split
      · exact ⟨by omega, fun _ => by omega⟩
      · exact ⟨Nat.le_refl _, fun q => by omega⟩
    have c2 : (if h + 1 < u.1 289 x then h + 1 else u.1 289 x).toNat ≤ (u.1 289 x).toNat ∧ (h + 1 < u.1 289 x → (if h + 1 < u.1 289 x then h + 1 else u.1 289 x).toNat < (u.1 289 x).toNat) := by
      split
      · exact ⟨by omega, fun _ => by omega⟩
      · exact ⟨Nat.le_refl _, fun q => by omega⟩
    generalize (if n < u.1 288 x then n else u.1 288 x).toNat = C at c1
    generalize (if h + 1 < u.1 289 x then h + 1 else u.1 289 x).toNat = D at c2
    rw [if_neg (by decide)]
    rcases hn with (((q | q) | q) | q) | q
    · rw [if_pos q]; omega
    · have := c1.2 q
      split <;> omega
    · have := c2.2 q
      split <;> omega
    · have := b2a.2 q.1 q.2
      split <;> omega
    · have := b2b.2 q.1 q.2
      split <;> omega
  refine sm_lt 10 (fun i hi => ?_) ⟨x.toNat, by omega, kx⟩
  by_cases e : (i : Int) = x
  · have : i = x.toNat := by omega
    rw [this]
    exact Nat.le_of_lt kx
  · rw [key i e]
    exact Nat.le_refl _
end LK
theorem ct_uf {f : Int → Int} {x : Int} {N : Nat} (h0 : 0 ≤ x) (h1 : x < N) : ct (fun i => decide (f (i : Int) ≠ 0)) N ≤ ct (fun i => decide (uf f x 1 (i : Int) ≠ 0)) N ∧ (f x = 0 → ct (fun i => decide (f (i : Int) ≠ 0)) N + 1 ≤ ct (fun i => decide (uf f x 1 (i : Int) ≠ 0)) N) := by
  have hm : ∀ i : Nat, i < N → decide (f (i : Int) ≠ 0) = true → decide (uf f x 1 (i : Int) ≠ 0) = true := fun i _ q => by
    by_cases e : (i : Int) = x
    · rw [e, uf_eq]; decide
    · rw [uf_ne e]; exact q
  refine ⟨ct_mono N hm, fun q => ?_⟩
  have e : ((x.toNat : Nat) : Int) = x := by omega
  exact ct_lt N hm ⟨x.toNat, by omega, by rw [e, q]; decide, by rw [e, uf_eq]; decide⟩
def ltC (nr : Nat) (hd : Int → Int) (rw : Int → List Int) (lw : Int → Int) (lt : Int → Prop) : Prop := ∀ r : Int, 0 ≤ r → r < nr → vr (fun y => lw y ≠ 0) (rw r) → (∃ s, s ∈ rw r ∧ (s < 100 ∨ lt (s - 100))) → lt (hd r)
theorem RI_lk {nv nr : Nat} {hd : Int → Int} {rw : Int → List Int} {F : Int} {lw : Int → Int} {lt : Int → Prop} {u : uS} {r : Int} (hv : nv ≤ 10) (hg : gOK nv nr hd rw) (hF : HF nv nr hd rw F lw) (hlt : ltC nr hd rw lw lt) (r0 : 0 ≤ r) (r1 : r < nr) (hgo : goo (u.1 283) (rw r) = true) (hI : RI nv nr hd rw lw lt u) : 0 ≤ sh5 (u.1 288) 0 (rw r) ∧ 0 ≤ mxH (u.1 289) 0 (rw r) ∧ RI nv nr hd rw lw lt (lk u (hd r) (sh5 (u.1 288) 0 (rw r)) (mxH (u.1 289) 0 (rw r)) (emR (u.1 285) (rw r)) (leR (u.1 286) (rw r))) := by
  obtain ⟨i1, i2, i3⟩ := hI
  obtain ⟨b1, b2', b3⟩ := hg r r0 r1
  have hT := goo_iff.mp hgo
  have vin : ∀ s ∈ rw r, 100 ≤ s → 0 ≤ s - 100 ∧ s - 100 < nv := fun s hs h2 => gOK_v hg r0 r1 hs h2
  have vN1 : vr (fun y => 0 ≤ u.1 288 y ∧ u.1 288 y ≤ 4000000000000000000) (rw r) := fun s hs h2 => by
    have hy := vin s hs h2
    have := (i1 (s - 100) hy.1 (by omega)).2.2.2.2 (hT s hs h2)
    exact ⟨this.1, this.2.1⟩
  obtain ⟨n1, n2, n3⟩ := sh5_eq (f := u.1 288) (rw r) 0 vN1 ⟨Int.le_refl 0, by omega⟩
  have vH1 : vr (fun y => u.1 289 y ≤ ctT u) (rw r) := fun s hs h2 => by
    have hy := vin s hs h2
    exact (i3 (s - 100) hy.1 (by omega) (hT s hs h2)).2.2.2.2.1
  obtain ⟨m1, m2, m3⟩ := mxH_p (H := u.1 289) (rw r) 0 vH1 (by omega)
  have hem := emR_iff (E := u.1 285) (f := u.1 288) (rw r) 0 (fun s hs h2 => by
    have hy := vin s hs h2
    have h4 := vN1 s hs h2
    exact ⟨h4.1, h4.2, (i3 (s - 100) hy.1 (by omega) (hT s hs h2)).2.2.2.2.2.1⟩) ⟨Int.le_refl 0, by omega⟩
  have hlwv : vr (fun y => lw y ≠ 0) (rw r) := fun s hs h2 => by
    have hy := vin s hs h2
    exact (i3 (s - 100) hy.1 (by omega) (hT s hs h2)).2.1
  obtain ⟨f1, f2⟩ := hF.2.2 r r0 r1 hlwv
  have f3 := f2 (mxH (u.1 289) 0 (rw r)) m1 (fun s hs h2 => by
    have hy := vin s hs h2
    have h4 := (i3 (s - 100) hy.1 (by omega) (hT s hs h2)).2.2.1
    have h5 : u.1 289 (s - 100) ≤ mxH (u.1 289) 0 (rw r) := m3 s hs h2
    show lw (s - 100) ≤ _
    omega)
  have hlt2 : leR (u.1 286) (rw r) = true → lt (hd r) := fun q => by
    obtain ⟨s, hs, h2⟩ := leR_iff.mp q
    refine hlt r r0 r1 hlwv ⟨s, hs, ?_⟩
    by_cases hl : s < 100
    · exact Or.inl hl
    · have hy := vin s hs (by omega)
      rcases h2 with h2 | h2
      · exact Or.inl h2
      · exact Or.inr ((i3 (s - 100) hy.1 (by omega) (hT s hs (by omega))).2.2.2.2.2.2.1 h2)
  have hPF : ∀ w, PF nv nr hd rw w → w (hd r) ≤ shS (u.1 288) 0 (rw r) := fun w hw => by
    have hA := gOK_A hg r0 r1
    refine Int.le_trans (hw.2 r r0 r1) ?_
    have hvNc : cnA nv (vN u) := fun y y0 y1 => by
      unfold vN
      split
      · exact Or.inl rfl
      · next q =>
        have := (i1 y y0 (by omega)).2.2.2.2 q
        exact Or.inr ⟨this.1, this.2.1⟩
    have hle : ∀ y : Int, 0 ≤ y → y < nv → w y ≤ vN u y := fun y y0 y1 => by
      unfold vN
      split
      · rcases hw.1 y y0 y1 with q | q <;> omega
      · next q => exact (i3 y y0 (by omega) q).2.2.2.2.2.2.2 w hw
    have h6 := shS_mono hw.1 hvNc hle (rw r) 0 0 hA cn0 cn0 (Int.le_refl 0)
    have h7 : shS (vN u) 0 (rw r) = shS (u.1 288) 0 (rw r) := shS_congr _ _ (fun s hs h2 => by
      show vN u (s - 100) = u.1 288 (s - 100)
      unfold vN
      exact if_neg (hT s hs h2))
    omega
  rw [n1]
  refine ⟨n2, m1, ?_⟩
  have hb4 : hd r < 10 := by omega
  obtain ⟨x1, x2, x3, x4, x5⟩ := i1 (hd r) b1 hb4
  have hct := ct_uf (f := u.1 283) (x := hd r) (N := 10) b1 hb4
  have hctE : ctT (lk u (hd r) (shS (u.1 288) 0 (rw r)) (mxH (u.1 289) 0 (rw r)) (emR (u.1 285) (rw r)) (leR (u.1 286) (rw r))) = ct (fun i => decide (uf (u.1 283) (hd r) 1 (i : Int) ≠ 0)) 10 := by
    unfold ctT
    rw [lk_283]
  have hct0 : ctT u = ct (fun i => decide (u.1 283 (i : Int) ≠ 0)) 10 := rfl
  have hct10 : ctT u ≤ 10 := ct_le _ 10
  have hct11 := ct_le (fun i => decide (uf (u.1 283) (hd r) 1 (i : Int) ≠ 0)) 10
  generalize hn : shS (u.1 288) 0 (rw r) = n at *
  generalize hh : mxH (u.1 289) 0 (rw r) = h at *
  generalize hemd : emR (u.1 285) (rw r) = em at *
  generalize hled : leR (u.1 286) (rw r) = le at *
  have kN : 0 ≤ (if n < u.1 288 (hd r) then n else u.1 288 (hd r)) ∧ (if n < u.1 288 (hd r) then n else u.1 288 (hd r)) ≤ 4000000000000000000 ∧ ((if n < u.1 288 (hd r) then n else u.1 288 (hd r)) = 0 ↔ n = 0 ∨ (u.1 283 (hd r) ≠ 0 ∧ u.1 288 (hd r) = 0)) := by
    by_cases q : u.1 283 (hd r) = 0
    · have := x4 q
      rw [if_pos (by omega)]
      refine ⟨by omega, by omega, ⟨fun z => Or.inl z, fun z => ?_⟩⟩
      rcases z with z | z
      · exact z
      · exact absurd q z.1
    · have := x5 q
      split
      · refine ⟨by omega, by omega, ⟨fun z => Or.inl z, fun z => ?_⟩⟩
        rcases z with z | z <;> omega
      · refine ⟨by omega, by omega, ⟨fun z => Or.inr ⟨q, z⟩, fun z => ?_⟩⟩
        rcases z with z | z <;> omega
  have kH : 1 ≤ (if h + 1 < u.1 289 (hd r) then h + 1 else u.1 289 (hd r)) ∧ (if h + 1 < u.1 289 (hd r) then h + 1 else u.1 289 (hd r)) ≤ ct (fun i => decide (uf (u.1 283) (hd r) 1 (i : Int) ≠ 0)) 10 ∧ lw (hd r) ≤ (if h + 1 < u.1 289 (hd r) then h + 1 else u.1 289 (hd r)) := by
    by_cases q : u.1 283 (hd r) = 0
    · have := x4 q
      have := hct.2 q
      rw [if_pos (by omega)]
      exact ⟨by omega, by omega, by omega⟩
    · have := i3 (hd r) b1 hb4 q
      split
      · exact ⟨by omega, by omega, by omega⟩
      · exact ⟨by omega, by omega, by omega⟩
  refine ⟨fun y y0 y1 => ?_, fun y y0 y1 hq => ?_, fun y y0 y1 hq => ?_⟩
  · rw [lk_283, lk_285, lk_286, lk_288, lk_289]
    by_cases e : y = hd r
    · rw [e, uf_eq, uf_eq, uf_eq, uf_eq, uf_eq]
      exact ⟨Or.inr rfl, b2_r _, b2_r _, fun q => by omega, fun _ => ⟨kN.1, kN.2.1, by omega, by omega⟩⟩
    · rw [uf_ne e, uf_ne e, uf_ne e, uf_ne e, uf_ne e]
      exact i1 y y0 y1
  · rw [lk_283] at hq
    rw [lk_285, lk_286]
    by_cases e : y = hd r
    · rw [e, uf_eq] at hq
      omega
    · rw [uf_ne e] at hq
      rw [uf_ne e, uf_ne e]
      exact i2 y y0 y1 hq
  · rw [lk_283] at hq
    rw [hctE, lk_285, lk_286, lk_288, lk_289]
    by_cases e : y = hd r
    · rw [e, uf_eq, uf_eq, uf_eq, uf_eq]
      refine ⟨b2', f1, kH.2.2, kH.1, kH.2.1, ?_, fun q => ?_, fun w hw => ?_⟩
      · rw [kN.2.2]
        by_cases q : u.1 283 (hd r) = 0
        · have := (i2 (hd r) b1 hb4 q).1
          rw [this]
          cases em
          · simp [b2, q] at hem ⊢
            exact hem
          · simp [b2] at hem ⊢
            exact Or.inl hem
        · have := (i3 (hd r) b1 hb4 q).2.2.2.2.2.1
          by_cases z : u.1 285 (hd r) = 0
          · have z2 : ¬ u.1 288 (hd r) = 0 := fun z3 => (this.mpr z3) z
            rw [z]
            cases em
            · simp [b2, z2] at hem ⊢
              exact hem
            · simp [b2] at hem ⊢
              exact Or.inl hem
          · have z2 := this.mp z
            have : b2 (decide (u.1 285 (hd r) ≠ 0) || em) ≠ 0 := by simp [z, b2]
            exact ⟨fun _ => Or.inr ⟨q, z2⟩, fun _ => this⟩
      · by_cases z : u.1 286 (hd r) = 0
        · rw [z] at q
          cases le
          · exact absurd rfl q
          · exact hlt2 rfl
        · by_cases q2 : u.1 283 (hd r) = 0
          · exact absurd (i2 (hd r) b1 hb4 q2).2 z
          · exact (i3 (hd r) b1 hb4 q2).2.2.2.2.2.2.1 z
      · have h8 := hPF w hw
        split
        · exact h8
        · by_cases q : u.1 283 (hd r) = 0
          · have := x4 q
            omega
          · exact (i3 (hd r) b1 hb4 q).2.2.2.2.2.2.2 w hw
    · rw [uf_ne e] at hq
      rw [uf_ne e, uf_ne e, uf_ne e, uf_ne e]
      obtain ⟨c1, c2, c3, c4, c5, c6, c7, c8⟩ := i3 y y0 y1 hq
      exact ⟨c1, c2, c3, c4, by omega, c6, c7, c8⟩
