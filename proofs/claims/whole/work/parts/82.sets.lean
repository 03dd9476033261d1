/-! Which variables have letters, which are used: least closed sets -/
theorem lts_pos {lt : Int} : ∀ (l : List Int) (x : Int), 0 ≤ x → (0 < lts lt x l ↔ 0 < x ∨ ∃ s, s ∈ l ∧ isl lt s = true)
  | [], x, _ => ⟨fun h => Or.inl h, fun h => by
    rcases h with h | ⟨s, hs, _⟩
    · exact h
    · cases hs⟩
  | s :: l, x, hx => by
    simp only [lts]
    by_cases h : isl lt s = true
    · rw [if_pos h, lts_pos l (x + 1) (by omega)]
      constructor
      · intro _
        exact Or.inr ⟨s, List.mem_cons_self, h⟩
      · intro _
        exact Or.inl (by omega)
    · rw [if_neg h, lts_pos l x hx]
      constructor
      · rintro (q | ⟨t, ht, h2⟩)
        · exact Or.inl q
        · exact Or.inr ⟨t, List.mem_cons_of_mem _ ht, h2⟩
      · rintro (q | ⟨t, ht, h2⟩)
        · exact Or.inl q
        · rcases List.mem_cons.mp ht with e | ht
          · rw [e] at h2; exact absurd h2 h
          · exact Or.inr ⟨t, ht, h2⟩
theorem isl_iff {lt s : Int} : isl lt s = true ↔ s < 100 ∨ bi lt (s - 100).toNat = true := by
  unfold isl
  rw [Bool.or_eq_true, decide_eq_true_eq]
def gdF (F : Int) (l : List Int) : Prop := vr (fun y => bi F y.toNat = true) l
theorem fld1_p {u : uS} {a nv nr : Nat} (hv : nv ≤ 10) (hg : gOK nv nr (u.1 (a + 2)) (row u a)) : ∀ (m : Nat) (r x : Int), 0 ≤ r → r + m = nr → (∀ i, bi x i = true → bi (fld1 u a m r x) i = true) ∧ (∀ r' : Int, r ≤ r' → r' < nr → gdF (u.1 a 6) (row u a r') → (∃ s, s ∈ row u a r' ∧ (s < 100 ∨ bi x (s - 100).toNat = true)) → bi (fld1 u a m r x) (u.1 (a + 2) r').toNat = true) ∧ (∀ S : Int → Prop, (∀ r' : Int, 0 ≤ r' → r' < nr → gdF (u.1 a 6) (row u a r') → (∃ s, s ∈ row u a r' ∧ (s < 100 ∨ S (s - 100))) → S (u.1 (a + 2) r')) → (∀ y : Int, 0 ≤ y → y < nv → bi x y.toNat = true → S y) → ∀ y : Int, 0 ≤ y → y < nv → bi (fld1 u a m r x) y.toNat = true → S y) := by
  intro m
  induction m with
  | zero => exact fun r x hr he => ⟨fun i h => h, fun r' h1 h2 => by omega, fun S _ h => h⟩
  | succ m ih =>
    intro r x hr he
    obtain ⟨b1, b2', b3⟩ := hg r hr (by omega)
    have hmem : ∀ {z : Int}, (∃ s, s ∈ row u a r ∧ (s < 100 ∨ bi z (s - 100).toNat = true)) ↔ 0 < lts z 0 (row u a r) := fun {z} => by
      rw [lts_pos _ 0 (Int.le_refl 0)]
      constructor
      · rintro ⟨s, hs, h⟩
        exact Or.inr ⟨s, hs, isl_iff.mpr h⟩
      · rintro (q | ⟨s, hs, h⟩)
        · omega
        · exact ⟨s, hs, isl_iff.mp h⟩
    show (∀ i, bi x i = true → bi (fld1 u a m (r + 1) (if wth (u.1 a 6) (row u a r) = true ∧ 0 < lts x 0 (row u a r) then ior x (ishl 1 (u.1 (a + 2) r)) else x)) i = true) ∧ (∀ r' : Int, r ≤ r' → r' < nr → gdF (u.1 a 6) (row u a r') → (∃ s, s ∈ row u a r' ∧ (s < 100 ∨ bi x (s - 100).toNat = true)) → bi (fld1 u a m (r + 1) (if wth (u.1 a 6) (row u a r) = true ∧ 0 < lts x 0 (row u a r) then ior x (ishl 1 (u.1 (a + 2) r)) else x)) (u.1 (a + 2) r').toNat = true) ∧ (∀ S : Int → Prop, (∀ r' : Int, 0 ≤ r' → r' < nr → gdF (u.1 a 6) (row u a r') → (∃ s, s ∈ row u a r' ∧ (s < 100 ∨ S (s - 100))) → S (u.1 (a + 2) r')) → (∀ y : Int, 0 ≤ y → y < nv → bi x y.toNat = true → S y) → ∀ y : Int, 0 ≤ y → y < nv → bi (fld1 u a m (r + 1) (if wth (u.1 a 6) (row u a r) = true ∧ 0 < lts x 0 (row u a r) then ior x (ishl 1 (u.1 (a + 2) r)) else x)) y.toNat = true → S y)
    generalize hx' : (if wth (u.1 a 6) (row u a r) = true ∧ 0 < lts x 0 (row u a r) then ior x (ishl 1 (u.1 (a + 2) r)) else x) = x'
    have hgr : ∀ i, bi x i = true → bi x' i = true := fun i h => by
      rw [← hx']
      split
      · rw [bi_ior, h]; rfl
      · exact h
    obtain ⟨i1, i2, i3⟩ := ih (r + 1) x' (by omega) (by omega)
    refine ⟨fun i h => i1 i (hgr i h), fun r' h1 h2 hgd hex => ?_, fun S hS h y y0 y1 => i3 S hS (fun z z0 z1 hz => ?_) y y0 y1⟩
    · by_cases e : r' = r
      · rw [e] at hgd hex ⊢
        refine i1 _ ?_
        rw [← hx', if_pos ⟨wth_iff.mpr hgd, hmem.mp hex⟩, bi_ior, bi_bit b1 (by omega)]
        simp
      · obtain ⟨s, hs, h3⟩ := hex
        refine i2 r' (by omega) h2 hgd ⟨s, hs, ?_⟩
        rcases h3 with h3 | h3
        · exact Or.inl h3
        · exact Or.inr (hgr _ h3)
    · rw [← hx'] at hz
      split at hz
      · next hc =>
        rw [bi_ior, bi_bit b1 (by omega), Bool.or_eq_true, decide_eq_true_eq] at hz
        rcases hz with hz | hz
        · exact h z z0 z1 hz
        · have e : z = u.1 (a + 2) r := by omega
          rw [e]
          refine hS r hr (by omega) (wth_iff.mp hc.1) ?_
          obtain ⟨s, hs, h3⟩ := hmem.mpr hc.2
          refine ⟨s, hs, ?_⟩
          by_cases hl : s < 100
          · exact Or.inl hl
          · rcases h3 with h3 | h3
            · exact Or.inl h3
            · have hy := gOK_v hg hr (by omega) hs (by omega)
              exact Or.inr (h _ hy.1 hy.2 h3)
      · exact h z z0 z1 hz
theorem fld2_it {u : uS} {a nr : Nat} : ∀ (m : Nat) (x : Int), fld2 u a nr m x = it (fld1 u a nr 0) m x
  | 0, _ => rfl
  | m + 1, x => fld2_it m (fld1 u a nr 0 x)
/-- findLettered: closed, and least -/
theorem fld_all {u : uS} {a nv nr : Nat} (hv : nv ≤ 10) (hg : gOK nv nr (u.1 (a + 2)) (row u a)) : (∀ r : Int, 0 ≤ r → r < nr → gdF (u.1 a 6) (row u a r) → (∃ s, s ∈ row u a r ∧ (s < 100 ∨ bi (fld2 u a nr nv 0) (s - 100).toNat = true)) → bi (fld2 u a nr nv 0) (u.1 (a + 2) r).toNat = true) ∧ (∀ S : Int → Prop, (∀ r' : Int, 0 ≤ r' → r' < nr → gdF (u.1 a 6) (row u a r') → (∃ s, s ∈ row u a r' ∧ (s < 100 ∨ S (s - 100))) → S (u.1 (a + 2) r')) → ∀ y : Int, 0 ≤ y → y < nv → bi (fld2 u a nr nv 0) y.toNat = true → S y) := by
  rw [fld2_it]
  have hR := fun x => fld1_p hv hg nr 0 x (Int.le_refl 0) (by omega)
  refine ⟨?_, fun S hS => ?_⟩
  · refine clos (T := Int) (R := fld1 u a nr 0) (p := fun x i => bi x i) (C := fun x => ∀ r : Int, 0 ≤ r → r < nr → gdF (u.1 a 6) (row u a r) → (∃ s, s ∈ row u a r ∧ (s < 100 ∨ bi x (s - 100).toNat = true)) → bi x (u.1 (a + 2) r).toNat = true) (G := fun _ => True) (n := nv) (fun _ _ => trivial) (fun x _ i _ h => (hR x).1 i h) ?_ ?_ ?_ nv 0 0 trivial (Nat.zero_le _) (by omega)
    · intro x _ hs r r0 r1 hgd hex
      obtain ⟨b1, b2', b3⟩ := hg r r0 r1
      have h1 := (hR x).2.1 r r0 r1 hgd hex
      have h2 := hs (u.1 (a + 2) r).toNat (by omega)
      exact h2.symm.trans h1
    · intro x _ hall r r0 r1 _ _
      obtain ⟨b1, b2', b3⟩ := hg r r0 r1
      exact hall _ (by omega)
    · intro x _ hc r r0 r1 hgd hex
      refine (hR x).1 _ (hc r r0 r1 hgd ?_)
      obtain ⟨s, hs, h3⟩ := hex
      refine ⟨s, hs, ?_⟩
      by_cases hl : s < 100
      · exact Or.inl hl
      · rcases h3 with h3 | h3
        · exact Or.inl h3
        · have hy := gOK_v hg r0 r1 hs (by omega)
          exact Or.inr ((hR x).2.2 (fun y => bi x y.toNat = true) hc (fun y _ _ h => h) _ hy.1 hy.2 h3)
  · have : ∀ (m : Nat) (x : Int), (∀ y : Int, 0 ≤ y → y < nv → bi x y.toNat = true → S y) → ∀ y : Int, 0 ≤ y → y < nv → bi (it (fld1 u a nr 0) m x) y.toNat = true → S y := by
      intro m
      induction m with
      | zero => exact fun x h => h
      | succ m ih => exact fun x h => ih _ ((hR x).2.2 S hS h)
    exact this nv 0 (fun y _ _ h => by rw [bi_0] at h; cases h)
theorem bi_vrs : ∀ (l : List Int) (x : Int) (i : Nat), (∀ s ∈ l, symR 10 s) → (bi (vrs x l) i = true ↔ bi x i = true ∨ ∃ s, s ∈ l ∧ 100 ≤ s ∧ (s - 100).toNat = i)
  | [], x, i, _ => ⟨fun h => Or.inl h, fun h => by
    rcases h with h | ⟨s, hs, _⟩
    · exact h
    · cases hs⟩
  | s :: l, x, i, hl => by
    have hl2 : ∀ s ∈ l, symR 10 s := fun q hq => hl q (List.mem_cons_of_mem _ hq)
    have hs := hl s List.mem_cons_self
    unfold symR at hs
    simp only [vrs]
    by_cases h : s < 100
    · rw [if_pos h, bi_vrs l x i hl2]
      constructor
      · rintro (q | ⟨t, ht, h2, h3⟩)
        · exact Or.inl q
        · exact Or.inr ⟨t, List.mem_cons_of_mem _ ht, h2, h3⟩
      · rintro (q | ⟨t, ht, h2, h3⟩)
        · exact Or.inl q
        · rcases List.mem_cons.mp ht with e | ht
          · omega
          · exact Or.inr ⟨t, ht, h2, h3⟩
    · rw [if_neg h, bi_vrs l _ i hl2, bi_ior, bi_bit (by omega) (by omega), Bool.or_eq_true, decide_eq_true_eq]
      constructor
      · rintro ((q | q) | ⟨t, ht, h2, h3⟩)
        · exact Or.inl q
        · exact Or.inr ⟨s, List.mem_cons_self, by omega, by omega⟩
        · exact Or.inr ⟨t, List.mem_cons_of_mem _ ht, h2, h3⟩
      · rintro (q | ⟨t, ht, h2, h3⟩)
        · exact Or.inl (Or.inl q)
        · rcases List.mem_cons.mp ht with e | ht
          · rw [e] at h3
            exact Or.inl (Or.inr h3.symm)
          · exact Or.inr ⟨t, ht, h2, h3⟩
/-- sets that the rules that have trees lead out of nowhere -/
def usC (nr : Nat) (hd : Int → Int) (rw : Int → List Int) (gd : List Int → Prop) (S : Int → Prop) : Prop := ∀ r : Int, 0 ≤ r → r < nr → S (hd r) → gd (rw r) → vr S (rw r)
theorem usd1_p {u : uS} {a nv nr : Nat} (hv : nv ≤ 10) (hg : gOK nv nr (u.1 (a + 2)) (row u a)) : ∀ (m : Nat) (r x : Int), 0 ≤ r → r + m = nr → (∀ i, bi x i = true → bi (usd1 u a m r x) i = true) ∧ (∀ r' : Int, r ≤ r' → r' < nr → bi x (u.1 (a + 2) r').toNat = true → gdF (u.1 a 6) (row u a r') → vr (fun y => bi (usd1 u a m r x) y.toNat = true) (row u a r')) ∧ (∀ S : Int → Prop, usC nr (u.1 (a + 2)) (row u a) (gdF (u.1 a 6)) S → (∀ y : Int, 0 ≤ y → y < nv → bi x y.toNat = true → S y) → ∀ y : Int, 0 ≤ y → y < nv → bi (usd1 u a m r x) y.toNat = true → S y) := by
  intro m
  induction m with
  | zero => exact fun r x hr he => ⟨fun i h => h, fun r' h1 h2 => by omega, fun S _ h => h⟩
  | succ m ih =>
    intro r x hr he
    obtain ⟨b1, b2', b3⟩ := hg r hr (by omega)
    have hsy : ∀ s ∈ row u a r, symR 10 s := fun s hs => by
      have := b3 s hs
      unfold symR at this ⊢
      omega
    simp only [usd1]
    generalize hx' : (if bi x (u.1 (a + 2) r).toNat = true ∧ wth (u.1 a 6) (row u a r) = true then ior x (vrs 0 (row u a r)) else x) = x'
    have hgr : ∀ i, bi x i = true → bi x' i = true := fun i h => by
      rw [← hx']
      split
      · rw [bi_ior, h]; rfl
      · exact h
    obtain ⟨i1, i2, i3⟩ := ih (r + 1) x' (by omega) (by omega)
    refine ⟨fun i h => i1 i (hgr i h), fun r' h1 h2 hb hgd => ?_, fun S hS h y y0 y1 => i3 S hS (fun z z0 z1 hz => ?_) y y0 y1⟩
    · by_cases e : r' = r
      · rw [e] at hb hgd ⊢
        intro s hs h3
        refine i1 _ ?_
        rw [← hx', if_pos ⟨hb, wth_iff.mpr hgd⟩, bi_ior, (bi_vrs (row u a r) 0 (s - 100).toNat hsy).mpr (Or.inr ⟨s, hs, h3, rfl⟩)]
        simp
      · exact i2 r' (by omega) h2 (hgr _ hb) hgd
    · rw [← hx'] at hz
      split at hz
      · next hc =>
        rw [bi_ior, Bool.or_eq_true, bi_vrs (row u a r) 0 z.toNat hsy] at hz
        rcases hz with hz | hz | ⟨s, hs, h3, h4⟩
        · exact h z z0 z1 hz
        · rw [bi_0] at hz; cases hz
        · have e : z = s - 100 := by omega
          rw [e]
          exact hS r hr (by omega) (h _ b1 b2' hc.1) (wth_iff.mp hc.2) s hs h3
      · exact h z z0 z1 hz
theorem usd2_it {u : uS} {a nr : Nat} : ∀ (m : Nat) (x : Int), usd2 u a nr m x = it (usd1 u a nr 0) m x
  | 0, _ => rfl
  | m + 1, x => usd2_it m (usd1 u a nr 0 x)
/-- learnUsed: closed, and least -/
theorem usd_all {u : uS} {a nv nr : Nat} (hv : nv ≤ 10) (hg : gOK nv nr (u.1 (a + 2)) (row u a)) (x0 : Int) : usC nr (u.1 (a + 2)) (row u a) (gdF (u.1 a 6)) (fun y => bi (usd2 u a nr nv x0) y.toNat = true) ∧ (∀ i, bi x0 i = true → bi (usd2 u a nr nv x0) i = true) ∧ (∀ S : Int → Prop, usC nr (u.1 (a + 2)) (row u a) (gdF (u.1 a 6)) S → (∀ y : Int, 0 ≤ y → y < nv → bi x0 y.toNat = true → S y) → ∀ y : Int, 0 ≤ y → y < nv → bi (usd2 u a nr nv x0) y.toNat = true → S y) := by
  rw [usd2_it]
  have hR := fun x => usd1_p hv hg nr 0 x (Int.le_refl 0) (by omega)
  refine ⟨?_, ?_, fun S hS => ?_⟩
  · refine clos (T := Int) (R := usd1 u a nr 0) (p := fun x i => bi x i) (C := fun x => usC nr (u.1 (a + 2)) (row u a) (gdF (u.1 a 6)) (fun y => bi x y.toNat = true)) (G := fun _ => True) (n := nv) (fun _ _ => trivial) (fun x _ i _ h => (hR x).1 i h) ?_ ?_ ?_ nv 0 x0 trivial (Nat.zero_le _) (by omega)
    · intro x _ hs r r0 r1 hb hgd s hs' h3
      have hy := gOK_v hg r0 r1 hs' h3
      have h1 := (hR x).2.1 r r0 r1 hb hgd s hs' h3
      have h2 := hs (s - 100).toNat (by omega)
      exact h2.symm.trans h1
    · intro x _ hall r r0 r1 _ _ s hs' h3
      have hy := gOK_v hg r0 r1 hs' h3
      exact hall _ (by omega)
    · intro x _ hc r r0 r1 hb hgd s hs' h3
      obtain ⟨b1, b2', b3⟩ := hg r r0 r1
      exact (hR x).1 _ (hc r r0 r1 ((hR x).2.2 (fun y => bi x y.toNat = true) hc (fun y _ _ h => h) _ b1 b2' hb) hgd s hs' h3)
  · have : ∀ (m : Nat) (x : Int) (i : Nat), bi x i = true → bi (it (usd1 u a nr 0) m x) i = true := by
      intro m
      induction m with
      | zero => exact fun x i h => h
      | succ m ih => exact fun x i h => ih _ i ((hR x).1 i h)
    exact this nv x0
  · have : ∀ (m : Nat) (x : Int), (∀ y : Int, 0 ≤ y → y < nv → bi x y.toNat = true → S y) → ∀ y : Int, 0 ≤ y → y < nv → bi (it (usd1 u a nr 0) m x) y.toNat = true → S y := by
      intro m
      induction m with
      | zero => exact fun x h => h
      | succ m ih => exact fun x h => ih _ ((hR x).2.2 S hS h)
    exact this nv x0
