/-! Reading a grammar, sign by sign: what is read, whoever reads -/
abbrev rS := Nat → Int → Int
def sw (s : rS) (k : Nat) (i v : Int) : rS := fun b j => if b = k ∧ j = i then v else s b j
theorem sw_ne {s : rS} {k b : Nat} {i v : Int} (h : b ≠ k) : sw s k i v b = s b := by
  funext j
  simp [sw, h]
theorem sw_uf {s : rS} {k : Nat} {i v : Int} : sw s k i v k = uf (s k) i v := by
  funext j
  simp [sw, uf]
/-- is a name among the first n -/
def hN (nm : Int → Int) (c : Int) : Nat → Bool
  | 0 => false
  | n + 1 => hN nm c n || decide (nm n = c)
theorem hN_iff {nm : Int → Int} {c : Int} : ∀ n : Nat, hN nm c n = true ↔ ∃ x : Int, 0 ≤ x ∧ x < n ∧ nm x = c
  | 0 => ⟨fun h => (by cases h), fun ⟨x, h0, h1, _⟩ => (by omega)⟩
  | n + 1 => by
    simp only [hN, Bool.or_eq_true, decide_eq_true_eq]
    rw [hN_iff n]
    constructor
    · rintro (⟨x, h0, h1, h2⟩ | h)
      · exact ⟨x, h0, by omega, h2⟩
      · exact ⟨n, by omega, by omega, h⟩
    · rintro ⟨x, h0, h1, h2⟩
      by_cases e : x = n
      · rw [e] at h2; exact Or.inr h2
      · exact Or.inl ⟨x, h0, by omega, h2⟩
/-- a rule is opened, if none is -/
def opn (s : rS) : rS := if s 0 1 = 0 then sw (sw (sw (sw s 2 (s 0 3) (s 0 2 - 1)) 3 (s 0 3) 0) 0 3 (s 0 3 + 1)) 0 1 1 else s
def sym1 (s : rS) (c p : Int) : rS := sw (sw (sw s 4 (6 * (s 0 3 - 1) + s 3 (s 0 3 - 1)) (if c < 97 then 100 + c - 65 else c - 97)) 5 (6 * (s 0 3 - 1) + s 3 (s 0 3 - 1)) p) 3 (s 0 3 - 1) (s 3 (s 0 3 - 1) + 1)
def isSy (c : Int) : Prop := (65 ≤ c ∧ c ≤ 90) ∨ (97 ≤ c ∧ c ≤ 106)
/-- one sign, that is no blank; refused: none -/
def stp (s : rS) (c p : Int) : Option rS :=
  if s 0 0 = 0 then (if (65 ≤ c ∧ c ≤ 90) ∧ s 0 2 < 10 ∧ hN (s 1) c (s 0 2).toNat = false then some (sw (sw (sw s 1 (s 0 2) c) 0 2 (s 0 2 + 1)) 0 0 1) else none)
  else if s 0 0 = 1 then (if c = 61 then some (sw (sw s 0 0 2) 0 1 0) else none)
  else if s 0 1 = 0 ∧ 30 ≤ s 0 3 then none
  else if c = 124 then some (sw (opn s) 0 1 0)
  else if c = 59 then some (sw (opn s) 0 0 0)
  else if ((65 ≤ c ∧ c ≤ 90) ∨ (97 ≤ c ∧ c ≤ 106)) ∧ opn s 3 (opn s 0 3 - 1) < 6 then some (sym1 (opn s) c p) else none
def syC (x : Int) : Prop := (0 ≤ x ∧ x < 10) ∨ (100 ≤ x ∧ x < 126)
def JS (s : rS) (j : Int) : Prop :=
  (s 0 0 = 0 ∨ s 0 0 = 1 ∨ s 0 0 = 2) ∧ (s 0 1 = 0 ∨ s 0 1 = 1) ∧ (0 ≤ s 0 2 ∧ s 0 2 ≤ 10) ∧ (0 ≤ s 0 3 ∧ s 0 3 ≤ 30) ∧ (s 0 0 ≠ 0 → 1 ≤ s 0 2) ∧ (s 0 0 = 2 → s 0 1 = 1 → 1 ≤ s 0 3) ∧ (s 0 0 = 0 → 1 ≤ s 0 2 → 1 ≤ s 0 3) ∧
  (∀ x, 0 ≤ x → x < s 0 2 → 65 ≤ s 1 x ∧ s 1 x ≤ 90) ∧ (∀ x y, 0 ≤ x → x < s 0 2 → 0 ≤ y → y < s 0 2 → s 1 x = s 1 y → x = y) ∧
  (∀ r, 0 ≤ r → r < s 0 3 → 0 ≤ s 2 r ∧ s 2 r < s 0 2 ∧ 0 ≤ s 3 r ∧ s 3 r ≤ 6 ∧ ∀ d, 0 ≤ d → d < s 3 r → syC (s 4 (6 * r + d)) ∧ 0 ≤ s 5 (6 * r + d) ∧ s 5 (6 * r + d) < j) ∧
  (∀ r d r' d', 0 ≤ r → r < s 0 3 → 0 ≤ d → d < s 3 r → 0 ≤ r' → r' < s 0 3 → 0 ≤ d' → d' < s 3 r' → 6 * r + d < 6 * r' + d' → s 5 (6 * r + d) < s 5 (6 * r' + d'))
theorem JS_up {s : rS} {j j' : Int} (h : JS s j) (hj : j ≤ j') : JS s j' := by
  obtain ⟨a1, a2, a3, a4, a5, a6, a7, a8, a9, a10, a11⟩ := h
  refine ⟨a1, a2, a3, a4, a5, a6, a7, a8, a9, fun r r0 r1 => ?_, a11⟩
  obtain ⟨b1, b2, b3, b4, b5⟩ := a10 r r0 r1
  refine ⟨b1, b2, b3, b4, fun d d0 d1 => ?_⟩
  have := b5 d d0 d1
  exact ⟨this.1, this.2.1, by omega⟩
section OPN
variable {s : rS}
theorem opn_1 (h : s 0 1 ≠ 0) : opn s = s := if_neg h
theorem opn_00 : opn s 0 0 = s 0 0 := by
  unfold opn
  split
  · simp [sw]
  · rfl
theorem opn_02 : opn s 0 2 = s 0 2 := by
  unfold opn
  split
  · simp [sw]
  · rfl
theorem opn_n : opn s 1 = s 1 := by
  unfold opn
  split
  · rw [sw_ne (by decide), sw_ne (by decide), sw_ne (by decide), sw_ne (by decide)]
  · rfl
theorem opn_4 : opn s 4 = s 4 ∧ opn s 5 = s 5 := by
  unfold opn
  split
  · constructor
    · rw [sw_ne (by decide), sw_ne (by decide), sw_ne (by decide), sw_ne (by decide)]
    · rw [sw_ne (by decide), sw_ne (by decide), sw_ne (by decide), sw_ne (by decide)]
  · exact ⟨rfl, rfl⟩
theorem opn_0 (h : s 0 1 = 0) : opn s 0 1 = 1 ∧ opn s 0 3 = s 0 3 + 1 ∧ opn s 2 = uf (s 2) (s 0 3) (s 0 2 - 1) ∧ opn s 3 = uf (s 3) (s 0 3) 0 := by
  unfold opn
  rw [if_pos h]
  refine ⟨by simp [sw], by simp [sw], ?_, ?_⟩
  · rw [sw_ne (by decide), sw_ne (by decide), sw_ne (by decide), sw_uf]
  · rw [sw_ne (by decide), sw_ne (by decide), sw_uf, sw_ne (by decide)]
end OPN
theorem JS_opn {s : rS} {j : Int} (h : JS s j) (h2 : s 0 0 = 2) (hr : ¬ (s 0 1 = 0 ∧ 30 ≤ s 0 3)) : JS (opn s) j ∧ opn s 0 1 = 1 ∧ 1 ≤ opn s 0 3 := by
  obtain ⟨a1, a2, a3, a4, a5, a6, a7, a8, a9, a10, a11⟩ := id h
  by_cases h0 : s 0 1 = 0
  · obtain ⟨o1, o2, o3, o4⟩ := opn_0 h0
    have hlt : s 0 3 < 30 := by
      refine Classical.byContradiction (fun q => hr ⟨h0, by omega⟩)
    have h1 := a5 (by omega)
    refine ⟨⟨by rw [opn_00]; exact a1, Or.inr o1, by rw [opn_02]; exact a3, ⟨by omega, by omega⟩, by rw [opn_00, opn_02]; exact a5, fun _ _ => by omega, fun q => by rw [opn_00] at q; omega, by rw [opn_n, opn_02]; exact a8, by rw [opn_n, opn_02]; exact a9, fun r r0 r1 => ?_, fun r d r' d' r0 r1 d0 d1 r0' r1' d0' d1' hlt' => ?_⟩, o1, by omega⟩
    · rw [o3, o4, opn_02, opn_4.1, opn_4.2]
      by_cases e : r = s 0 3
      · rw [e, uf_eq, uf_eq]
        exact ⟨by omega, by omega, Int.le_refl 0, by omega, fun d d0 d1 => by omega⟩
      · rw [uf_ne e, uf_ne e]
        exact a10 r r0 (by omega)
    · rw [o2] at r1 r1'
      rw [o4] at d1 d1'
      rw [opn_4.2]
      have e : r ≠ s 0 3 := fun e => by rw [e, uf_eq] at d1; omega
      have e' : r' ≠ s 0 3 := fun e => by rw [e, uf_eq] at d1'; omega
      rw [uf_ne e] at d1
      rw [uf_ne e'] at d1'
      exact a11 r d r' d' r0 (by omega) d0 d1 r0' (by omega) d0' d1' hlt'
  · rw [opn_1 h0]
    have h1 : s 0 1 = 1 := by
      rcases a2 with q | q
      · exact absurd q h0
      · exact q
    exact ⟨h, h1, a6 h2 h1⟩
theorem JS_sym {s : rS} {c j : Int} (h : JS s j) (h2 : s 0 0 = 2) (h1 : s 0 1 = 1) (hn : 1 ≤ s 0 3) (h6 : s 3 (s 0 3 - 1) < 6) (hc : (65 ≤ c ∧ c ≤ 90) ∨ (97 ≤ c ∧ c ≤ 106)) (j0 : 0 ≤ j) : JS (sym1 s c j) (j + 1) := by
  obtain ⟨a1, a2, a3, a4, a5, a6, a7, a8, a9, a10, a11⟩ := h
  obtain ⟨q1, q2, q3, q4, q5⟩ := a10 (s 0 3 - 1) (by omega) (by omega)
  have e0 : sym1 s c j 0 = s 0 := by
    unfold sym1
    rw [sw_ne (by decide), sw_ne (by decide), sw_ne (by decide)]
  have e1 : sym1 s c j 1 = s 1 := by
    unfold sym1
    rw [sw_ne (by decide), sw_ne (by decide), sw_ne (by decide)]
  have e2 : sym1 s c j 2 = s 2 := by
    unfold sym1
    rw [sw_ne (by decide), sw_ne (by decide), sw_ne (by decide)]
  have e3 : sym1 s c j 3 = uf (s 3) (s 0 3 - 1) (s 3 (s 0 3 - 1) + 1) := by
    unfold sym1
    rw [sw_uf, sw_ne (by decide), sw_ne (by decide)]
  have e4 : sym1 s c j 4 = uf (s 4) (6 * (s 0 3 - 1) + s 3 (s 0 3 - 1)) (if c < 97 then 100 + c - 65 else c - 97) := by
    unfold sym1
    rw [sw_ne (by decide), sw_ne (by decide), sw_uf]
  have e5 : sym1 s c j 5 = uf (s 5) (6 * (s 0 3 - 1) + s 3 (s 0 3 - 1)) j := by
    unfold sym1
    rw [sw_ne (by decide), sw_uf, sw_ne (by decide)]
  have hnew : syC (if c < 97 then 100 + c - 65 else c - 97) := by
    unfold syC
    split
    · exact Or.inr (by omega)
    · exact Or.inl (by omega)
  have hin : ∀ r d, 0 ≤ r → r < s 0 3 → 0 ≤ d → d < uf (s 3) (s 0 3 - 1) (s 3 (s 0 3 - 1) + 1) r → (6 * r + d = 6 * (s 0 3 - 1) + s 3 (s 0 3 - 1) ∧ r = s 0 3 - 1 ∧ d = s 3 (s 0 3 - 1)) ∨ (6 * r + d ≠ 6 * (s 0 3 - 1) + s 3 (s 0 3 - 1) ∧ d < s 3 r) := by
    intro r d r0 r1 d0 d1
    by_cases e : r = s 0 3 - 1
    · rw [e, uf_eq] at d1
      by_cases e2 : d = s 3 (s 0 3 - 1)
      · exact Or.inl ⟨by rw [e, e2], e, e2⟩
      · refine Or.inr ⟨by rw [e]; omega, by rw [e]; omega⟩
    · rw [uf_ne e] at d1
      have := a10 r r0 r1
      exact Or.inr ⟨by omega, d1⟩
  refine ⟨by rw [e0]; exact a1, by rw [e0]; exact a2, by rw [e0]; exact a3, by rw [e0]; exact a4, by rw [e0]; exact a5, by rw [e0]; exact a6, by rw [e0]; exact a7, by rw [e0, e1]; exact a8, by rw [e0, e1]; exact a9, fun r r0 r1 => ?_, fun r d r' d' r0 r1 d0 d1 r0' r1' d0' d1' hlt' => ?_⟩
  · rw [e0] at r1
    rw [e0, e2, e3, e4, e5]
    obtain ⟨b1, b2, b3, b4, b5⟩ := a10 r r0 r1
    refine ⟨b1, b2, ?_, ?_, fun d d0 d1 => ?_⟩
    · by_cases e : r = s 0 3 - 1
      · rw [e, uf_eq]; omega
      · rw [uf_ne e]; exact b3
    · by_cases e : r = s 0 3 - 1
      · rw [e, uf_eq]; omega
      · rw [uf_ne e]; exact b4
    · rcases hin r d r0 r1 d0 d1 with ⟨h1, -, -⟩ | ⟨h1, h2⟩
      · rw [h1, uf_eq, uf_eq]
        exact ⟨hnew, j0, by omega⟩
      · rw [uf_ne h1, uf_ne h1]
        have := b5 d d0 h2
        exact ⟨this.1, this.2.1, by omega⟩
  · rw [e0] at r1 r1'
    rw [e3] at d1 d1'
    rw [e5]
    rcases hin r d r0 r1 d0 d1 with ⟨h1, h3, h4⟩ | ⟨h1, h2⟩
    · -- the new one is the last
      exfalso
      have hle : d' ≤ 5 := by
        rcases hin r' d' r0' r1' d0' d1' with ⟨z1, z2, z3⟩ | ⟨z1, z2⟩
        · omega
        · have := (a10 r' r0' r1').2.2.2.1
          omega
      have hr' : r' ≤ s 0 3 - 1 := by omega
      rcases hin r' d' r0' r1' d0' d1' with ⟨z1, z2, z3⟩ | ⟨z1, z2⟩
      · omega
      · by_cases er : r' = s 0 3 - 1
        · rw [er] at z2 hlt'
          omega
        · omega
    · rw [uf_ne h1]
      rcases hin r' d' r0' r1' d0' d1' with ⟨z1, -, -⟩ | ⟨z1, z2⟩
      · rw [z1, uf_eq]
        exact ((a10 r r0 r1).2.2.2.2 d d0 h2).2.2
      · rw [uf_ne z1]
        exact a11 r d r' d' r0 r1 d0 h2 r0' r1' d0' z2 hlt'
theorem JS_stp {s s' : rS} {c j : Int} (h : JS s j) (j0 : 0 ≤ j) (hs : stp s c j = some s') : JS s' (j + 1) := by
  obtain ⟨a1, a2, a3, a4, a5, a6, a7, a8, a9, a10, a11⟩ := id h
  unfold stp at hs
  split at hs
  · next h0 =>
    split at hs
    · next hc =>
      obtain ⟨hc1, hc2, hc3⟩ := hc
      have e := Option.some.inj hs
      have hno : ∀ x, 0 ≤ x → x < s 0 2 → s 1 x ≠ c := fun x x0 x1 q => by
        have := (hN_iff (nm := s 1) (c := c) (s 0 2).toNat).mpr ⟨x, x0, by omega, q⟩
        rw [hc3] at this
        cases this
      have e00 : s' 0 0 = 1 := by rw [← e]; simp [sw]
      have e01 : s' 0 1 = s 0 1 := by rw [← e]; simp [sw]
      have e02 : s' 0 2 = s 0 2 + 1 := by rw [← e]; simp [sw]
      have e03 : s' 0 3 = s 0 3 := by rw [← e]; simp [sw]
      have e1 : s' 1 = uf (s 1) (s 0 2) c := by rw [← e, sw_ne (by decide), sw_ne (by decide), sw_uf]
      have e2 : s' 2 = s 2 := by rw [← e, sw_ne (by decide), sw_ne (by decide), sw_ne (by decide)]
      have e3 : s' 3 = s 3 := by rw [← e, sw_ne (by decide), sw_ne (by decide), sw_ne (by decide)]
      have e4 : s' 4 = s 4 := by rw [← e, sw_ne (by decide), sw_ne (by decide), sw_ne (by decide)]
      have e5 : s' 5 = s 5 := by rw [← e, sw_ne (by decide), sw_ne (by decide), sw_ne (by decide)]
      refine ⟨by rw [e00]; exact Or.inr (Or.inl rfl), by rw [e01]; exact a2, by omega, by omega, fun _ => by omega, fun q => by omega, fun q => by omega, fun x x0 x1 => ?_, fun x y x0 x1 y0 y1 hxy => ?_, fun r r0 r1 => ?_, ?_⟩
      · rw [e1]
        by_cases ex : x = s 0 2
        · rw [ex, uf_eq]; exact hc1
        · rw [uf_ne ex]; exact a8 x x0 (by omega)
      · rw [e1] at hxy
        by_cases ex : x = s 0 2
        · by_cases ey : y = s 0 2
          · omega
          · rw [ex, uf_eq, uf_ne ey] at hxy
            exact absurd hxy.symm (hno y y0 (by omega))
        · by_cases ey : y = s 0 2
          · rw [ey, uf_eq, uf_ne ex] at hxy
            exact absurd hxy (hno x x0 (by omega))
          · rw [uf_ne ex, uf_ne ey] at hxy
            exact a9 x y x0 (by omega) y0 (by omega) hxy
      · rw [e03] at r1
        obtain ⟨b1, b2, b3, b4, b5⟩ := a10 r r0 r1
        rw [e2, e3, e4, e5]
        refine ⟨b1, by omega, b3, b4, fun d d0 d1 => ?_⟩
        have := b5 d d0 d1
        exact ⟨this.1, this.2.1, by omega⟩
      · rw [e03, e3, e5]
        exact a11
    · cases hs
  · next h0 =>
    split at hs
    · next h1 =>
      split at hs
      · have e := Option.some.inj hs
        have e00 : s' 0 0 = 2 := by rw [← e]; simp [sw]
        have e01 : s' 0 1 = 0 := by rw [← e]; simp [sw]
        have e02 : s' 0 2 = s 0 2 := by rw [← e]; simp [sw]
        have e03 : s' 0 3 = s 0 3 := by rw [← e]; simp [sw]
        have ek : ∀ k, k ≠ 0 → s' k = s k := fun k hk => by rw [← e, sw_ne hk, sw_ne hk]
        refine JS_up (j := j) ⟨Or.inr (Or.inr e00), Or.inl e01, by omega, by omega, fun _ => by have := a5 h0; omega, fun _ q => by omega, fun q => by omega, by rw [ek 1 (by decide), e02]; exact a8, by rw [ek 1 (by decide), e02]; exact a9, by rw [ek 2 (by decide), ek 3 (by decide), ek 4 (by decide), ek 5 (by decide), e02, e03]; exact a10, by rw [ek 3 (by decide), ek 5 (by decide), e03]; exact a11⟩ (by omega)
      · cases hs
    · next h1 =>
      have h2 : s 0 0 = 2 := by omega
      split at hs
      · cases hs
      · next hr =>
        obtain ⟨o1, o2, o3⟩ := JS_opn h h2 hr
        have o00 : opn s 0 0 = 2 := by rw [opn_00]; exact h2
        obtain ⟨c1, c2, c3, c4, c5, c6, c7, c8, c9, c10, c11⟩ := id o1
        split at hs
        · have e := Option.some.inj hs
          have f0 : ∀ i : Int, i ≠ 1 → s' 0 i = opn s 0 i := fun i hi => by rw [← e]; simp [sw, hi]
          have f1 : s' 0 1 = 0 := by rw [← e]; simp [sw]
          have ek : ∀ k, k ≠ 0 → s' k = opn s k := fun k hk => by rw [← e, sw_ne hk]
          have f00 := f0 0 (by decide)
          have f02 := f0 2 (by decide)
          have f03 := f0 3 (by decide)
          refine JS_up (j := j) ⟨by rw [f00]; exact c1, Or.inl f1, by rw [f02]; exact c3, by rw [f03]; exact c4, by rw [f00, f02]; exact c5, fun _ q => by omega, fun q => by omega, by rw [ek 1 (by decide), f02]; exact c8, by rw [ek 1 (by decide), f02]; exact c9, by rw [ek 2 (by decide), ek 3 (by decide), ek 4 (by decide), ek 5 (by decide), f02, f03]; exact c10, by rw [ek 3 (by decide), ek 5 (by decide), f03]; exact c11⟩ (by omega)
        · split at hs
          · have e := Option.some.inj hs
            have f0 : ∀ i : Int, i ≠ 0 → s' 0 i = opn s 0 i := fun i hi => by rw [← e]; simp [sw, hi]
            have f00 : s' 0 0 = 0 := by rw [← e]; simp [sw]
            have ek : ∀ k, k ≠ 0 → s' k = opn s k := fun k hk => by rw [← e, sw_ne hk]
            have f01 := f0 1 (by decide)
            have f02 := f0 2 (by decide)
            have f03 := f0 3 (by decide)
            refine JS_up (j := j) ⟨Or.inl f00, by rw [f01]; exact c2, by rw [f02]; exact c3, by rw [f03]; exact c4, fun q => absurd f00 q, fun q => by omega, fun _ _ => by omega, by rw [ek 1 (by decide), f02]; exact c8, by rw [ek 1 (by decide), f02]; exact c9, by rw [ek 2 (by decide), ek 3 (by decide), ek 4 (by decide), ek 5 (by decide), f02, f03]; exact c10, by rw [ek 3 (by decide), ek 5 (by decide), f03]; exact c11⟩ (by omega)
          · split at hs
            · next hc =>
              have e := Option.some.inj hs
              rw [← e]
              exact JS_sym o1 o00 o2 o3 hc.2 hc.1 j0
            · cases hs
/-- all signs up to a place -/
def rd (f : Int → Int) : Nat → Option rS
  | 0 => some (fun _ _ => 0)
  | j + 1 => match rd f j with
    | none => none
    | some s => if f j = 32 then some s else stp s (f j) j
theorem rd_b {f : Int → Int} {j : Nat} {s : rS} (h : rd f j = some s) (hb : f j = 32) : rd f (j + 1) = some s := by
  simp [rd, h, hb]
theorem rd_s {f : Int → Int} {j : Nat} {s : rS} (h : rd f j = some s) (hb : f j ≠ 32) : rd f (j + 1) = stp s (f j) j := by
  simp [rd, h, hb]
theorem rd_n {f : Int → Int} {j : Nat} (h : rd f j = none) : rd f (j + 1) = none := by
  simp [rd, h]
theorem rd_J {f : Int → Int} : ∀ (j : Nat) (s : rS), rd f j = some s → JS s j := by
  intro j
  induction j with
  | zero =>
    intro s hs
    have e := Option.some.inj hs
    have z : ∀ (b : Nat) (i : Int), s b i = 0 := fun b i => by rw [← e]
    have z0 := z 0 0
    have z1 := z 0 1
    have z2 := z 0 2
    have z3 := z 0 3
    exact ⟨Or.inl z0, Or.inl z1, ⟨by omega, by omega⟩, ⟨by omega, by omega⟩, fun q => absurd z0 q, fun q => by omega, fun _ q => by omega, fun x x0 x1 => by omega, fun x y x0 x1 => by omega, fun r r0 r1 => by omega, fun r d r' d' r0 r1 => by omega⟩
  | succ j ih =>
    intro s hs
    cases h : rd f j with
    | none => rw [rd_n h] at hs; cases hs
    | some t =>
      have hJ := ih t h
      by_cases hb : f j = 32
      · rw [rd_b h hb] at hs
        have e := Option.some.inj hs
        rw [← e]
        exact JS_up hJ (by omega)
      · rw [rd_s h hb] at hs
        have := JS_stp hJ (by omega) hs
        rw [show ((j + 1 : Nat) : Int) = (j : Int) + 1 by omega]
        exact this
theorem rd_none {f : Int → Int} {i : Nat} (h : rd f i = none) : ∀ j : Nat, i ≤ j → rd f j = none := by
  intro j
  induction j with
  | zero => intro hj; rw [show i = 0 by omega] at h; exact h
  | succ j ih =>
    intro hj
    by_cases e : i = j + 1
    · rw [← e]; exact h
    · exact rd_n (ih (by omega))
/-- the fault of a text of n signs: the first sign that is refused, or its end -/
def flt (f : Int → Int) (n j : Nat) : Prop := (j < n ∧ ∃ s, rd f j = some s ∧ f j ≠ 32 ∧ stp s (f j) j = none) ∨ (j = n ∧ ∃ s, rd f n = some s ∧ (s 0 0 ≠ 0 ∨ s 0 2 = 0))
theorem flt_rd {f : Int → Int} {n j i : Nat} (h : flt f n j) (hi : j < i) (hj : j < n) : rd f i = none := by
  rcases h with ⟨h1, s, h2, h3, h4⟩ | ⟨h1, -⟩
  · exact rd_none (i := j + 1) (by rw [rd_s h2 h3]; exact h4) i (by omega)
  · omega
theorem flt_le {f : Int → Int} {n j : Nat} (h : flt f n j) : j ≤ n := by
  rcases h with h | h
  · exact Nat.le_of_lt h.1
  · exact Nat.le_of_eq h.1
theorem flt_some {f : Int → Int} {n j : Nat} (h : flt f n j) : ∃ s, rd f j = some s := by
  rcases h with ⟨h1, s, h2, -⟩ | ⟨h1, s, h2, -⟩
  · exact ⟨s, h2⟩
  · rw [h1]; exact ⟨s, h2⟩
theorem flt_eq {f : Int → Int} {n j i : Nat} (h : flt f n j) (h' : flt f n i) : i = j := by
  have k1 := flt_le h
  have k2 := flt_le h'
  rcases Nat.lt_trichotomy i j with q | q | q
  · obtain ⟨s, hs⟩ := flt_some h
    rw [flt_rd h' q (by omega)] at hs
    cases hs
  · exact q
  · obtain ⟨s, hs⟩ := flt_some h'
    rw [flt_rd h q (by omega)] at hs
    cases hs
def gdE (f : Int → Int) (n : Nat) (s : rS) : Prop := rd f n = some s ∧ s 0 0 = 0 ∧ s 0 2 ≠ 0
theorem flt_gd {f : Int → Int} {n j : Nat} {s : rS} (h : flt f n j) (h' : gdE f n s) : False := by
  rcases h with ⟨h1, h2⟩ | ⟨h1, t, h2, h3⟩
  · have := flt_rd (Or.inl ⟨h1, h2⟩) h1 h1
    rw [h'.1] at this
    cases this
  · rw [h'.1] at h2
    have e := Option.some.inj h2
    rw [← e] at h3
    rcases h3 with q | q
    · exact q h'.2.1
    · exact h'.2.2 q
