/-! The other side: which variables are used -/
def sA1 : (Int → Int) → List Int → (Int → Int)
  | A, [] => A
  | A, s :: l => sA1 (if s < 100 then A else uf A (s - 100) 1) l
def ur1 (hd : Int → Int) (rw : Int → List Int) (T : Int → Int) : Nat → Int → (Int → Int) → (Int → Int)
  | 0, _, A => A
  | m + 1, r, A => ur1 hd rw T m (r + 1) (if A (hd r) ≠ 0 ∧ goo T (rw r) = true then sA1 A (rw r) else A)
def bA (A : Int → Int) : Prop := ∀ y : Int, 0 ≤ y → y < 10 → A y = 0 ∨ A y = 1
theorem bA_uf {A : Int → Int} {x : Int} (h : bA A) : bA (uf A x 1) := fun y a b => by
  by_cases e : y = x
  · rw [e, uf_eq]; exact Or.inr rfl
  · rw [uf_ne e]; exact h y a b
theorem sA1_b : ∀ (l : List Int) (A : Int → Int), bA A → bA (sA1 A l)
  | [], _, h => h
  | s :: l, A, h => by
    refine sA1_b l _ ?_
    split
    · exact h
    · exact bA_uf h
theorem sA1_iff : ∀ (l : List Int) (A : Int → Int) (y : Int), sA1 A l y ≠ 0 ↔ A y ≠ 0 ∨ ∃ s, s ∈ l ∧ 100 ≤ s ∧ s - 100 = y
  | [], A, y => ⟨fun h => Or.inl h, fun h => by
    rcases h with h | ⟨s, hs, _⟩
    · exact h
    · cases hs⟩
  | s :: l, A, y => by
    simp only [sA1]
    rw [sA1_iff l _ y]
    by_cases h : s < 100
    · rw [if_pos h]
      constructor
      · rintro (q | ⟨t, ht, h2, h3⟩)
        · exact Or.inl q
        · exact Or.inr ⟨t, List.mem_cons_of_mem _ ht, h2, h3⟩
      · rintro (q | ⟨t, ht, h2, h3⟩)
        · exact Or.inl q
        · rcases List.mem_cons.mp ht with e | ht
          · omega
          · exact Or.inr ⟨t, ht, h2, h3⟩
    · rw [if_neg h]
      constructor
      · rintro (q | ⟨t, ht, h2, h3⟩)
        · by_cases e : y = s - 100
          · exact Or.inr ⟨s, List.mem_cons_self, by omega, by omega⟩
          · rw [uf_ne e] at q
            exact Or.inl q
        · exact Or.inr ⟨t, List.mem_cons_of_mem _ ht, h2, h3⟩
      · rintro (q | ⟨t, ht, h2, h3⟩)
        · refine Or.inl ?_
          by_cases e : y = s - 100
          · rw [e, uf_eq]; decide
          · rw [uf_ne e]; exact q
        · rcases List.mem_cons.mp ht with e | ht
          · refine Or.inl ?_
            rw [← h3, e, uf_eq]
            decide
          · exact Or.inr ⟨t, ht, h2, h3⟩
theorem ur1_b {hd : Int → Int} {rw : Int → List Int} {T : Int → Int} : ∀ (m : Nat) (r : Int) (A : Int → Int), bA A → bA (ur1 hd rw T m r A)
  | 0, _, _, h => h
  | m + 1, r, A, h => by
    refine ur1_b m (r + 1) _ ?_
    split
    · exact sA1_b _ _ h
    · exact h
def gdT (T : Int → Int) (l : List Int) : Prop := vr (fun y => T y ≠ 0) l
theorem ur1_p {nv nr : Nat} {hd : Int → Int} {rw : Int → List Int} {T : Int → Int} (hg : gOK nv nr hd rw) : ∀ (m : Nat) (r : Int) (A : Int → Int), 0 ≤ r → r + m = nr → (∀ y, A y ≠ 0 → ur1 hd rw T m r A y ≠ 0) ∧ (∀ r' : Int, r ≤ r' → r' < nr → A (hd r') ≠ 0 → gdT T (rw r') → vr (fun y => ur1 hd rw T m r A y ≠ 0) (rw r')) ∧ (∀ S : Int → Prop, usC nr hd rw (gdT T) S → (∀ y : Int, 0 ≤ y → y < nv → A y ≠ 0 → S y) → ∀ y : Int, 0 ≤ y → y < nv → ur1 hd rw T m r A y ≠ 0 → S y) := by
  intro m
  induction m with
  | zero => exact fun r x hr he => ⟨fun i h => h, fun r' h1 h2 => by omega, fun S _ h => h⟩
  | succ m ih =>
    intro r A hr he
    obtain ⟨b1, b2', b3⟩ := hg r hr (by omega)
    simp only [ur1]
    generalize hx' : (if A (hd r) ≠ 0 ∧ goo T (rw r) = true then sA1 A (rw r) else A) = A'
    have hgr : ∀ y, A y ≠ 0 → A' y ≠ 0 := fun y h => by
      rw [← hx']
      split
      · exact (sA1_iff _ _ _).mpr (Or.inl h)
      · exact h
    obtain ⟨i1, i2, i3⟩ := ih (r + 1) A' (by omega) (by omega)
    refine ⟨fun i h => i1 i (hgr i h), fun r' h1 h2 hb hgd => ?_, fun S hS h y y0 y1 => i3 S hS (fun z z0 z1 hz => ?_) y y0 y1⟩
    · by_cases e : r' = r
      · rw [e] at hb hgd ⊢
        intro s hs h3
        refine i1 _ ?_
        rw [← hx', if_pos ⟨hb, goo_iff.mpr hgd⟩]
        exact (sA1_iff _ _ _).mpr (Or.inr ⟨s, hs, h3, rfl⟩)
      · exact i2 r' (by omega) h2 (hgr _ hb) hgd
    · rw [← hx'] at hz
      split at hz
      · next hc =>
        rcases (sA1_iff _ _ _).mp hz with hz | ⟨s, hs, h3, h4⟩
        · exact h z z0 z1 hz
        · rw [← h4]
          exact hS r hr (by omega) (h _ b1 b2' hc.1) (goo_iff.mp hc.2) s hs h3
      · exact h z z0 z1 hz
theorem ur_all {nv nr : Nat} {hd : Int → Int} {rw : Int → List Int} {T : Int → Int} (hv : nv ≤ 10) (hg : gOK nv nr hd rw) (A : Int → Int) : usC nr hd rw (gdT T) (fun y => it (ur1 hd rw T nr 0) 10 A y ≠ 0) ∧ (∀ y, A y ≠ 0 → it (ur1 hd rw T nr 0) 10 A y ≠ 0) ∧ (∀ S : Int → Prop, usC nr hd rw (gdT T) S → (∀ y : Int, 0 ≤ y → y < nv → A y ≠ 0 → S y) → ∀ y : Int, 0 ≤ y → y < nv → it (ur1 hd rw T nr 0) 10 A y ≠ 0 → S y) := by
  have hR := fun x => ur1_p (T := T) hg nr 0 x (Int.le_refl 0) (by omega)
  refine ⟨?_, ?_, fun S hS => ?_⟩
  · refine clos (T := Int → Int) (R := ur1 hd rw T nr 0) (p := fun x i => decide (x (i : Int) ≠ 0)) (C := fun x => usC nr hd rw (gdT T) (fun y => x y ≠ 0)) (G := fun _ => True) (n := nv) (fun _ _ => trivial) (fun x _ i _ h => decide_eq_true ((hR x).1 _ (of_decide_eq_true h))) ?_ ?_ ?_ 10 0 A trivial (Nat.zero_le _) (by omega)
    · intro x _ hs r r0 r1 hb hgd s hs' h3
      have hy := gOK_v hg r0 r1 hs' h3
      have h1 : ur1 hd rw T nr 0 x (s - 100) ≠ 0 := (hR x).2.1 r r0 r1 hb hgd s hs' h3
      have h2 := hs (s - 100).toNat (by omega)
      have e : (((s - 100).toNat : Nat) : Int) = s - 100 := by omega
      rw [e, decide_eq_true h1] at h2
      exact of_decide_eq_true h2.symm
    · intro x _ hall r r0 r1 _ _ s hs' h3
      have hy := gOK_v hg r0 r1 hs' h3
      have h2 := hall (s - 100).toNat (by omega)
      have e : (((s - 100).toNat : Nat) : Int) = s - 100 := by omega
      rw [e] at h2
      exact of_decide_eq_true h2
    · intro x _ hc r r0 r1 hb hgd s hs' h3
      obtain ⟨b1, b2', b3⟩ := hg r r0 r1
      exact (hR x).1 _ (hc r r0 r1 ((hR x).2.2 (fun y => x y ≠ 0) hc (fun y _ _ h => h) _ b1 b2' hb) hgd s hs' h3)
  · have : ∀ (m : Nat) (x : Int → Int) (y : Int), x y ≠ 0 → it (ur1 hd rw T nr 0) m x y ≠ 0 := by
      intro m
      induction m with
      | zero => exact fun x i h => h
      | succ m ih => exact fun x i h => ih _ i ((hR x).1 i h)
    exact this 10 A
  · have : ∀ (m : Nat) (x : Int → Int), (∀ y : Int, 0 ≤ y → y < nv → x y ≠ 0 → S y) → ∀ y : Int, 0 ≤ y → y < nv → it (ur1 hd rw T nr 0) m x y ≠ 0 → S y := by
      intro m
      induction m with
      | zero => exact fun x h => h
      | succ m ih => exact fun x h => ih _ ((hR x).2.2 S hS h)
    exact this 10 A
theorem rowM_sS {u : uS} {b : Nat} {f : Int → Int} (h1 : 277 ≠ b) (h2 : 276 ≠ b) (r : Int) : rowM (sS u b f) r = rowM u r := by
  unfold rowM
  rw [sS_o h1, sS_o h2]
theorem gM_sS {u : uS} {b : Nat} {f : Int → Int} (h1 : 277 ≠ b) (h2 : 276 ≠ b) {r : Int} (h : gM u r) : gM (sS u b f) r := by
  unfold gM at h ⊢
  rw [sS_o h1, sS_o h2]
  exact h
theorem l_214u {d : Nat} {Q : uS → Prop} {u : uS} {nv nr : Nat} (hv : nv ≤ 10) (hnr : nr ≤ 30) (h6 : u.1 271 6 = nr) (hM : ∀ r : Int, 0 ≤ r → r < nr → gM u r) (hg : gOK nv nr (u.1 275) (rowM u)) (hT : ∀ y : Int, 0 ≤ y → y < 10 → rI (u.1 283 y)) : ∀ (m : Nat) (k : Int) (A : Int → Int), 0 ≤ k → k + m = 10 → bA A → cV (d + 1) 218 [.ref 271] (sS u 284 (it (ur1 (u.1 275) (rowM u) (u.1 283) nr 0) m A)) Q → K_214 (d + 1) 119 [.ref 271, .retAddr 0, iV k, .retAddr 0, .retAddr 0, .retAddr 0] [] (sS u 284 A) Q := by
  have syms : ∀ (r : Int), 0 ≤ r → r < nr → ∀ (m : Nat) (i k : Int) (A : Int → Int), 0 ≤ i → i + m = u.1 276 r → bA A → ((A (u.1 275 r) ≠ 0 ∧ goo (u.1 283) (rowM u r) = true → K_214 (d + 1) 127 [.ref 271, .retAddr 0, iV k, iV (r + 1), .retAddr 0, .retAddr 0] [] (sS u 284 (sA1 A (rowF (fun d => u.1 277 (6 * r + d)) m i))) Q) ∧ (¬ (A (u.1 275 r) ≠ 0 ∧ goo (u.1 283) (rowM u r) = true) → K_214 (d + 1) 127 [.ref 271, .retAddr 0, iV k, iV (r + 1), .retAddr 0, .retAddr 0] [] (sS u 284 A) Q)) → K_214 (d + 1) 138 [.ref 271, .retAddr 0, iV k, iV r, iV i, .retAddr 0] [] (sS u 284 A) Q := by
    intro r r0 r1 m
    obtain ⟨g0, g1, g2, g3, g4⟩ := hM r r0 r1
    obtain ⟨b1, b2', b3⟩ := hg r r0 r1
    induction m with
    | zero =>
      intro i k A hi he hA hQ
      refine k_214_138 ⟨g0, g1, ⟨by omega, by omega⟩, ?_⟩
      rw [sS_o (b := 276) (by decide)]
      refine ⟨⟨by omega, by omega⟩, ?_⟩
      rw [if_neg (by omega)]
      by_cases hc : A (u.1 275 r) ≠ 0 ∧ goo (u.1 283) (rowM u r) = true
      · exact hQ.1 hc
      · exact hQ.2 hc
    | succ m ih =>
      intro i k A hi he hA hQ
      have hs := g4 i hi (by omega)
      refine k_214_138 ⟨g0, g1, ⟨by omega, by omega⟩, ?_⟩
      rw [sS_o (b := 276) (by decide)]
      refine ⟨⟨by omega, by omega⟩, ?_⟩
      rw [if_pos (by omega), sS_o (b := 275) (by decide), sS_f]
      have hAr : rI (A (u.1 275 r)) := by
        rcases hA _ b1 (by omega) with q | q <;> exact ⟨by omega, by omega⟩
      refine ⟨b1, by omega, hAr, ?_⟩
      by_cases hz : A (u.1 275 r) = 0
      · rw [if_pos hz]
        exact hQ.2 (fun q => q.1 hz)
      · rw [if_neg hz]
        have hp := p_216 (d := d) (u := sS u 284 A) (r := r) (gM_sS (by decide) (by decide) (hM r r0 r1)) (fun y a b => by rw [sS_o (by decide)]; exact hT y a b)
        refine cI.mono hp (Nat.le_refl _) (fun x u1 hx => ?_)
        obtain ⟨ex, eu⟩ := hx
        rw [rowM_sS (by decide) (by decide), sS_o (by decide)] at ex
        rw [eu, ex]
        refine ⟨ri_b2 _, ?_⟩
        by_cases hgo : goo (u.1 283) (rowM u r) = true
        · rw [hgo, if_neg (by decide), sS_o (b := 277) (by decide)]
          have hs2 := b3 (u.1 277 (6 * r + i)) (by
            have : (6 * r + i) = 6 * r + i := rfl
            have hmem : ∀ (m' : Nat) (j : Int), j ≤ i → i < j + m' → u.1 277 (6 * r + i) ∈ rowF (fun d => u.1 277 (6 * r + d)) m' j := by
              intro m'
              induction m' with
              | zero => intro j h1 h2; omega
              | succ m' ih' =>
                intro j h1 h2
                by_cases e : j = i
                · rw [e]; exact List.mem_cons_self
                · exact List.mem_cons_of_mem _ (ih' (j + 1) (by omega) (by omega))
            exact hmem (u.1 276 r).toNat 0 hi (by omega))
          unfold symR at hs2
          refine ⟨by omega, by omega, ⟨by omega, by omega⟩, ?_⟩
          have hQ1 := hQ.1 ⟨hz, hgo⟩
          simp only [rowF, sA1] at hQ1
          by_cases hl : u.1 277 (6 * r + i) < 100
          · rw [if_pos hl]
            rw [if_pos hl] at hQ1
            exact ih (i + 1) k A (by omega) (by omega) hA ⟨fun _ => hQ1, hQ.2⟩
          · rw [if_neg hl]
            rw [if_neg hl] at hQ1
            refine ⟨by omega, by omega, fun u20 e20 => ?_⟩
            rw [e20, sS_w]
            refine ih (i + 1) k _ (by omega) (by omega) (bA_uf hA) ⟨fun _ => hQ1, fun q => absurd ⟨?_, hgo⟩ q⟩
            by_cases e : u.1 275 r = u.1 277 (6 * r + i) - 100
            · rw [← e, uf_eq]; decide
            · rw [uf_ne e]; exact hz
        · have hgo2 : goo (u.1 283) (rowM u r) = false := by simpa using hgo
          rw [hgo2, if_pos (by decide)]
          exact hQ.2 (fun q => hgo q.2)
  have rules : ∀ (m : Nat) (r k : Int) (A : Int → Int), 0 ≤ r → r + m = nr → bA A → K_214 (d + 1) 119 [.ref 271, .retAddr 0, iV (k + 1), .retAddr 0, .retAddr 0, .retAddr 0] [] (sS u 284 (ur1 (u.1 275) (rowM u) (u.1 283) m r A)) Q → K_214 (d + 1) 127 [.ref 271, .retAddr 0, iV k, iV r, .retAddr 0, .retAddr 0] [] (sS u 284 A) Q := by
    intro m
    induction m with
    | zero =>
      intro r k A hr he hA hQ
      refine k_214_127 ⟨⟨by omega, by omega⟩, ?_⟩
      rw [sS_o (b := 271) (by decide), h6]
      refine ⟨⟨by omega, by omega⟩, ?_⟩
      rw [if_neg (by omega)]
      exact hQ
    | succ m ih =>
      intro r k A hr he hA hQ
      obtain ⟨g0, g1, g2, g3, g4⟩ := hM r hr (by omega)
      refine k_214_127 ⟨⟨by omega, by omega⟩, ?_⟩
      rw [sS_o (b := 271) (by decide), h6]
      refine ⟨⟨by omega, by omega⟩, ?_⟩
      rw [if_pos (by omega)]
      simp only [ur1] at hQ
      refine syms r hr (by omega) (u.1 276 r).toNat 0 k A (Int.le_refl 0) (by omega) hA ⟨fun hc => ?_, fun hc => ?_⟩
      · rw [if_pos hc] at hQ
        exact ih (r + 1) k _ (by omega) (by omega) (sA1_b _ _ hA) hQ
      · rw [if_neg hc] at hQ
        exact ih (r + 1) k A (by omega) (by omega) hA hQ
  intro m
  induction m with
  | zero =>
    intro k A hk he hA hQ
    refine k_214_119 ⟨⟨by omega, by omega⟩, ?_⟩
    rw [if_neg (by omega)]
    exact cV.mono hQ (Nat.le_refl _) (fun _ h => h)
  | succ m ih =>
    intro k A hk he hA hQ
    refine k_214_119 ⟨⟨by omega, by omega⟩, ?_⟩
    rw [if_pos (by omega)]
    exact rules nr 0 k A (Int.le_refl 0) (by omega) hA (ih (k + 1) _ (by omega) (by omega) (ur1_b _ _ _ hA) hQ)
