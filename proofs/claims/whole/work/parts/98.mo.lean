/-! Both sides make the same of the same -/
theorem plG_agree {go go' : Int → Int → Int → Int × Int} {a b : Int} {P : Int → Int → Prop} (h0 : P a b) (hs : ∀ x y c : Int, P x y → 0 ≤ c → c < 10 → P (go x y c).1 (go x y c).2) (he : ∀ x y c : Int, P x y → go x y c = go' x y c) : plG go a b = plG go' a b := by
  funext i
  induction i with
  | zero => rfl
  | succ i ih =>
    have hP := plG_good h0 hs i ((i / 10 : Nat) : Int)
    rw [plG_s, plG_s, ← ih]
    unfold plS
    rw [he _ _ _ hP]
theorem MK_same {as as' k : Int} {A B : Ma} (hG : pG as k A B = pG as' k A B) : (∀ m : Ma, MKm as k A B m → MKm as' k A B m) ∧ (MKg as k A B → MKg as' k A B) := by
  have hL : ∀ i, plL (goK as k A B) (st1 k) (st2 as k A) i → plL (goK as' k A B) (st1 k) (st2 as' k A) i := fun i h j hj => by
    have h1 := h j hj
    have e : plG (goK as k A B) (st1 k) (st2 as k A) = plG (goK as' k A B) (st1 k) (st2 as' k A) := hG
    rw [← e]
    exact h1
  have hE : ∀ i, pE as k A B i → pE as' k A B i := fun i h => ⟨hL i h.1, by
    have h2 : i = 10 * (pG as k A B i).1 := h.2
    rw [hG] at h2
    exact h2⟩
  have hd : ∀ i, pGd as k A B i = pGd as' k A B i := fun i => by unfold pGd; rw [hG]
  refine ⟨fun m h => ?_, fun h => ?_⟩
  · obtain ⟨i, j, h1, h2, h3, h4⟩ := h
    rw [hd, hG] at h2 h3 h4
    exact ⟨i, j, hE i h1, h2, h3, h4⟩
  · rcases h with ⟨i, h1, h2, h3⟩ | ⟨i, h1, h2⟩
    · refine Or.inl ⟨i, hL i h1, ?_, ?_⟩
      · have : i / 10 < (pG as k A B i).1 := h2
        rw [hG] at this
        exact this
      · have : (pG as k A B (i + 1)).1 = 2001 := h3
        rw [hG] at this
        exact this
    · rw [hd, hG] at h2
      exact Or.inr ⟨i, hE i h1, h2⟩
theorem MK_as {k : Int} {A B : Ma} (k0 : 0 ≤ k) (k4 : k ≤ 4) : (∀ m : Ma, MKm 0 k A B m → MKm 1 k A B m) ∧ (MKg 0 k A B → MKg 1 k A B) := by
  by_cases c4 : k = 4
  · rw [c4]
    have e1 : st1 4 = 1 := rfl
    have g1 : ∀ (as x y c : Int), goK as 4 A B x y c = (0, lor (aft A (goX as A x y) c) (b2 (hlA A (aft A (goX as A x y) c)))) := fun as x y c => by
      unfold goK
      rw [if_neg (by omega), if_neg (by omega)]
    have h1 : ∀ x y c, (goK 0 4 A B x y c).1 = 0 := fun x y c => by rw [g1]
    have h2 : ∀ y c, goK 0 4 A B 0 y c = goK 1 4 A B 0 y c := fun y c => by
      have a1 : goX 0 A 0 y = y := by unfold goX; rw [if_neg (fun hh => absurd hh.2 (by decide))]
      have a2 : goX 1 A 0 y = y := by unfold goX; rw [if_neg (fun hh => absurd hh.2 (by decide))]
      rw [g1, g1, a1, a2]
    have h3 : ∀ c, goK 0 4 A B 1 0 c = goK 1 4 A B 1 1 c := fun c => by
      have a1 : goX 0 A 1 0 = 1 := by unfold goX; rw [if_pos ⟨rfl, rfl⟩]
      have a2 : goX 1 A 1 1 = 1 := by unfold goX; rw [if_neg (fun hh => absurd hh.1 (by decide))]
      rw [g1, g1, a1, a2]
    have hE : ∀ i, pE 0 4 A B i → pE 1 4 A B i ∧ (pG 0 4 A B i).1 = (pG 1 4 A B i).1 ∧ (pG 0 4 A B i).2.2.2 = (pG 1 4 A B i).2.2.2 ∧ pGd 0 4 A B i = pGd 1 4 A B i := fun i h => by
      have h : plE (goK 0 4 A B) 1 0 i := h
      obtain ⟨a1, a2⟩ := plT_E h1 h2 h3 h
      have a2 : pl2 0 1 (pG 0 4 A B i) (pG 1 4 A B i) := a2
      obtain ⟨b1, b2', b3, b4, b5, b6, b7⟩ := a2
      refine ⟨a1, b1, b7, ?_⟩
      funext q
      unfold pGd
      rw [← b1]
      by_cases c : q < (pG 0 4 A B i).1
      · rw [decide_eq_true c, Bool.true_and, Bool.true_and]
        by_cases q0 : q = 0
        · rw [q0]
          show gdK 4 A B ((pG 0 4 A B i).2.1 0) ((pG 0 4 A B i).2.2.1 0) = gdK 4 A B ((pG 1 4 A B i).2.1 0) ((pG 1 4 A B i).2.2.1 0)
          rw [b2', b3]
          unfold gdK
          rfl
        · obtain ⟨z1, z2, z3⟩ := b6 q (by omega) c
          rw [z1, z2, z3]
      · rw [decide_eq_false c, Bool.false_and, Bool.false_and]
    refine ⟨fun m h => ?_, fun h => ?_⟩
    · obtain ⟨i, j, a1, a2, a3, a4⟩ := h
      obtain ⟨d1, d2, d3, d4⟩ := hE i a1
      rw [d2, d3, d4] at a2 a3 a4
      exact ⟨i, j, d1, a2, a3, a4⟩
    · rcases h with ⟨i, h⟩ | ⟨i, a1, a2⟩
      · have h : plB (goK 0 4 A B) 1 0 i := h
        exact Or.inl ⟨i, plT_B h1 h2 h3 h⟩
      · obtain ⟨d1, d2, d3, d4⟩ := hE i a1
        rw [d2, d3, d4] at a2
        exact Or.inr ⟨i, d1, a2⟩
  · refine MK_same ?_
    by_cases c3 : k = 3
    · rw [c3]
      have g1 : ∀ (as x y c : Int), goK as 3 A B x y c = (0, lor (aft A (goX as A x y) c) (b2 (hlA A (aft A (goX as A x y) c)))) := fun as x y c => by
        unfold goK
        rw [if_neg (by omega), if_neg (by omega)]
      refine plG_agree (P := fun x _ => x = 0) rfl (fun x y c _ _ _ => by rw [g1]) (fun x y c hx => ?_)
      have a1 : goX 0 A x y = y := by unfold goX; rw [if_neg (fun hh => by have := hh.2; omega)]
      have a2 : goX 1 A x y = y := by unfold goX; rw [if_neg (fun hh => by have := hh.2; omega)]
      rw [g1, g1, a1, a2]
    · have e2 : st2 0 k A = st2 1 k A := by
        unfold st2
        rw [if_neg c4, if_neg c4]
      have e3 : goK 0 k A B = goK 1 k A B := by
        funext x y c
        unfold goK
        by_cases c0 : k = 0 ∨ k = 1
        · rw [if_pos c0, if_pos c0]
        · rw [if_neg c0, if_neg c0, if_pos (by omega), if_pos (by omega)]
      unfold pG
      rw [e2, e3]
/-- what both sides make of a step: one outcome for both -/
theorem MK_both {k : Int} {A B m m' : Ma} (k0 : 0 ≤ k) (k4 : k ≤ 4) (h : MKm 0 k A B m) (h' : MKm 1 k A B m') : m = m' := MK_uniq ((MK_as k0 k4).1 m h) h'
theorem MK_x1 {k : Int} {A B m : Ma} (k0 : 0 ≤ k) (k4 : k ≤ 4) (h : MKm 0 k A B m) (h' : MKg 1 k A B) : False := MK_no ((MK_as k0 k4).1 m h) h'
theorem MK_x2 {k : Int} {A B m : Ma} (k0 : 0 ≤ k) (k4 : k ≤ 4) (h : MKg 0 k A B) (h' : MKm 1 k A B m) : False := MK_no h' ((MK_as k0 k4).2 h)
