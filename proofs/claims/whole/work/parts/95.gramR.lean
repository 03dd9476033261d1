/-! The other side reads a grammar -/
abbrev gvL : List Nat := [271, 278, 279, 280, 281, 282]
def cvS (x : Int) : Int := if x < 100 then x else x + 965
def agR (v : uS) (t : rS) : Prop := (∀ x, 0 ≤ x → x < t 0 2 → v.1 278 x = t 1 x) ∧ (∀ r, 0 ≤ r → r < t 0 3 → v.1 279 r = t 2 r ∧ v.1 280 r = t 3 r ∧ ∀ d, 0 ≤ d → d < t 3 r → v.1 281 (6 * r + d) = cvS (t 4 (6 * r + d)) ∧ v.1 282 (6 * r + d) = t 5 (6 * r + d))
def Vf (v0 v : uS) : Prop := sb1 v0 v gvL ∧ v.2 = v0.2 ∧ ∀ i : Int, i ≠ 4 → i ≠ 12 → i ≠ 13 → i ≠ 19 → v.1 271 i = v0.1 271 i
def RvD (v0 v : uS) (t : rS) (j : Nat) : Prop := Vf v0 v ∧ v.1 271 4 = j ∧ v.1 271 19 = -2 ∧ v.1 271 12 = t 0 2 ∧ v.1 271 13 = t 0 3 ∧ agR v t
def FvR (f : Int → Int) (n : Nat) (v0 v : uS) : Prop := Vf v0 v ∧ ∃ j : Nat, flt f n j ∧ v.1 271 19 = j
theorem Vf_wr {v0 v : uS} {i x : Int} (h : Vf v0 v) (hi : i = 4 ∨ i = 12 ∨ i = 13 ∨ i = 19) : Vf v0 (wr v 271 i x) := ⟨sb1_wr h.1 (by decide), h.2.1, fun k a b c e => by
  rw [wr_1, if_neg (by omega)]
  exact h.2.2 k a b c e⟩
theorem Vf_wr2 {v0 v : uS} {b : Nat} {i x : Int} (h : Vf v0 v) (hb : b ∈ [278, 279, 280, 281, 282]) : Vf v0 (wr v b i x) := ⟨sb1_wr h.1 (by
  simp only [List.mem_cons, List.not_mem_nil, or_false] at hb ⊢
  omega), h.2.1, fun k a b' c e => by
  rw [wr_ne (by
    simp only [List.mem_cons, List.not_mem_nil, or_false] at hb
    omega)]
  exact h.2.2 k a b' c e⟩
theorem agR_wr {v : uS} {t : rS} {i x : Int} (h : agR v t) : agR (wr v 271 i x) t := by
  unfold agR at h ⊢
  rw [wr_ne (by decide), wr_ne (by decide), wr_ne (by decide), wr_ne (by decide), wr_ne (by decide)]
  exact h
theorem RvD_at {v0 v : uS} {t : rS} {j : Nat} {j' : Nat} (R : RvD v0 v t j) : RvD v0 (wr v 271 4 j') t j' := by
  obtain ⟨a1, a2, a3, a4, a5, a6⟩ := R
  exact ⟨Vf_wr a1 (Or.inl rfl), wr_self, by rw [wr_1, if_neg (by decide)]; exact a3, by rw [wr_1, if_neg (by decide)]; exact a4, by rw [wr_1, if_neg (by decide)]; exact a5, agR_wr a6⟩
theorem RvD_inc {v0 v v' : uS} {t : rS} {j : Nat} (R : RvD v0 v t j) (e : v' = wr v 271 4 (v.1 271 4 + 1)) : RvD v0 v' t (j + 1) := by
  have h := RvD_at (j' := j + 1) R
  rw [R.2.1] at e
  rw [e]
  exact h
theorem RvD_fl {f : Int → Int} {n : Nat} {v0 v v' : uS} {t : rS} {j : Nat} (R : RvD v0 v t j) (hf : flt f n j) (e : v' = wr v 271 19 (v.1 271 4)) : FvR f n v0 v' := by
  rw [e, R.2.1]
  exact ⟨Vf_wr R.1 (Or.inr (Or.inr (Or.inr rfl))), j, hf, wr_self⟩
theorem FvR_at {f : Int → Int} {n : Nat} {v0 v : uS} {x : Int} (h : FvR f n v0 v) : FvR f n v0 (wr v 271 4 x) := by
  obtain ⟨a1, j, a2, a3⟩ := h
  exact ⟨Vf_wr a1 (Or.inl rfl), j, a2, by rw [wr_1, if_neg (by decide)]; exact a3⟩
/-- the place where reading stopped is near -/
def FvK (k : Nat) (f : Int → Int) (n : Nat) (v0 v : uS) : Prop := FvR f n v0 v ∧ 0 ≤ v.1 271 4 ∧ v.1 271 4 ≤ n + k
theorem RvD_flK {f : Int → Int} {n : Nat} {v0 v v' : uS} {t : rS} {j : Nat} (R : RvD v0 v t j) (hf : flt f n j) (e : v' = wr v 271 19 (v.1 271 4)) : FvK 0 f n v0 v' := by
  refine ⟨RvD_fl R hf e, ?_⟩
  have h4 : v'.1 271 4 = j := by rw [e, wr_1, if_neg (by decide)]; exact R.2.1
  have := flt_le hf
  exact ⟨by omega, by omega⟩
theorem FvK_up {f : Int → Int} {n : Nat} {v0 v : uS} (h : FvK 0 f n v0 v) : FvK 1 f n v0 v := ⟨h.1, h.2.1, by have := h.2.2; omega⟩
theorem FvK_inc {f : Int → Int} {n : Nat} {v0 v v' : uS} (h : FvK 0 f n v0 v) (e : v' = wr v 271 4 (v.1 271 4 + 1)) : FvK 1 f n v0 v' := by
  have h4 : v'.1 271 4 = v.1 271 4 + 1 := by rw [e, wr_self]
  have a := h.2.1
  have b := h.2.2
  exact ⟨by rw [e]; exact FvR_at h.1, by omega, by omega⟩
theorem p_208 {d n : Nat} {f : Int → Int} {v0 v : uS} {s t : rS} {j : Nat} (hn : n ≤ 300) (hr : ∀ j : Nat, j < n → rI (f j)) (h1 : v0.1 271 1 = n) (h2 : v0.1 272 = f) (hs : rd f j = some s) (hj : j ≤ n) (R : RvD v0 v t j) : cI (d + 2) 208 [.ref 271] v (fun c v' => ∃ j' : Nat, j ≤ j' ∧ j' ≤ n ∧ rd f j' = some s ∧ RvD v0 v' t j' ∧ ((j' < n ∧ f j' ≠ 32 ∧ c = f j') ∨ (j' = n ∧ c = 0)) ∧ (j < n → f j ≠ 32 → j' = j)) := by
  have loop : ∀ (m j1 : Nat) (v1 : uS) (Q : uS → Prop), j1 + m = n → rd f j1 = some s → RvD v0 v1 t j1 → (∀ (j' : Nat) (v' : uS), j1 ≤ j' → j' ≤ n → rd f j' = some s → RvD v0 v' t j' → ((j' < n ∧ f j' ≠ 32) ∨ j' = n) → (j1 < n → f j1 ≠ 32 → j' = j1) → Q v') → K_209 d 0 [.ref 271] [] v1 Q := by
    intro m
    induction m with
    | zero =>
      intro j1 v1 Q he hs1 R1 hQ
      have e1 : v1.1 271 1 = n := by rw [R1.1.2.2 1 (by decide) (by decide) (by decide) (by decide)]; exact h1
      have e4 := R1.2.1
      refine k_209_0 ?_
      rw [e1, e4]
      refine ⟨⟨by omega, by omega⟩, ⟨by omega, by omega⟩, ?_⟩
      rw [if_neg (by omega)]
      exact hQ j1 v1 (Nat.le_refl _) (by omega) hs1 R1 (Or.inr (by omega)) (fun _ _ => rfl)
    | succ m ih =>
      intro j1 v1 Q he hs1 R1 hQ
      have e1 : v1.1 271 1 = n := by rw [R1.1.2.2 1 (by decide) (by decide) (by decide) (by decide)]; exact h1
      have e4 := R1.2.1
      have e2 : v1.1 272 = f := by rw [R1.1.1 272 (by decide)]; exact h2
      refine k_209_0 ?_
      rw [e1, e4, e2]
      refine ⟨⟨by omega, by omega⟩, ⟨by omega, by omega⟩, ?_⟩
      rw [if_pos (by omega)]
      refine ⟨by omega, by omega, hr j1 (by omega), ?_⟩
      by_cases hb : f j1 = 32
      · rw [if_pos hb]
        intro u8 e8
        refine ih (j1 + 1) u8 Q (by omega) (rd_b hs1 hb) (RvD_inc R1 (by rw [e8, e4])) (fun j' v' a b c d e _ => hQ j' v' (by omega) b c d e (fun _ q => absurd hb q))
      · rw [if_neg hb]
        exact hQ j1 v1 (Nat.le_refl _) (by omega) hs1 R1 (Or.inl ⟨by omega, hb⟩) (fun _ _ => rfl)
  refine e_208 (e_209 (loop (n - j) j v _ (by omega) hs R (fun j' v' a1 a2 a3 a4 a5 a6 => ?_)))
  have e1 : v'.1 271 1 = n := by rw [a4.1.2.2 1 (by decide) (by decide) (by decide) (by decide)]; exact h1
  have e4 := a4.2.1
  have e2 : v'.1 272 = f := by rw [a4.1.1 272 (by decide)]; exact h2
  rw [e1, e4, e2]
  refine ⟨⟨by omega, by omega⟩, ⟨by omega, by omega⟩, ?_⟩
  rcases a5 with ⟨b1, b2⟩ | b1
  · rw [if_pos (by omega)]
    exact ⟨by omega, by omega, j', a1, a2, a3, a4, Or.inl ⟨b1, b2, rfl⟩, a6⟩
  · rw [if_neg (by omega)]
    exact ⟨j', a1, a2, a3, a4, Or.inr ⟨b1, rfl⟩, a6⟩
/-- a rule is opened -/
theorem RvD_opn {v0 v : uS} {s : rS} {j : Nat} (R : RvD v0 v s j) (h0 : s 0 1 = 0) : RvD v0 (wr (wr (wr v 271 13 (s 0 3 + 1)) 279 (s 0 3) (s 0 2 - 1)) 280 (s 0 3) 0) (opn s) j := by
  obtain ⟨a1, a2, a3, a4, a5, a6⟩ := R
  obtain ⟨o1, o2, o3, o4⟩ := opn_0 h0
  refine ⟨Vf_wr2 (Vf_wr2 (Vf_wr a1 (Or.inr (Or.inr (Or.inl rfl)))) (by decide)) (by decide), ?_, ?_, ?_, ?_, ?_⟩
  · rw [wr_ne (by decide), wr_ne (by decide), wr_1, if_neg (by decide)]; exact a2
  · rw [wr_ne (by decide), wr_ne (by decide), wr_1, if_neg (by decide)]; exact a3
  · rw [wr_ne (by decide), wr_ne (by decide), wr_1, if_neg (by decide), opn_02]; exact a4
  · rw [wr_ne (by decide), wr_ne (by decide), wr_self]; exact o2.symm
  · unfold agR
    rw [wr_ne (b := 278) (by decide), wr_ne (b := 278) (by decide), wr_ne (b := 278) (by decide), wr_ne (b := 279) (by decide), wr_uf, wr_ne (b := 279) (by decide), wr_uf, wr_ne (b := 280) (by decide), wr_ne (b := 280) (by decide), wr_ne (b := 281) (by decide), wr_ne (b := 281) (by decide), wr_ne (b := 281) (by decide), wr_ne (b := 282) (by decide), wr_ne (b := 282) (by decide), wr_ne (b := 282) (by decide), opn_02, opn_n, o2, o3, o4, opn_4.1, opn_4.2]
    refine ⟨a6.1, fun r r0 r1 => ?_⟩
    by_cases e : r = s 0 3
    · rw [e, uf_eq, uf_eq, uf_eq, uf_eq]
      exact ⟨rfl, rfl, fun d d0 d1 => by omega⟩
    · rw [uf_ne e, uf_ne e, uf_ne e, uf_ne e]
      exact a6.2 r r0 (by omega)
/-- only the state of reading changes: not what is read -/
theorem RvD_aw {v0 v : uS} {s : rS} {j : Nat} {k x : Int} (hk : k = 0 ∨ k = 1) (R : RvD v0 v s j) : RvD v0 v (sw s 0 k x) j := by
  obtain ⟨a1, a2, a3, a4, a5, a6⟩ := R
  have zk : ∀ b, b ≠ 0 → sw s 0 k x b = s b := fun b hb => sw_ne hb
  have z2 : sw s 0 k x 0 2 = s 0 2 := by
    rcases hk with q | q <;> rw [q] <;> simp [sw]
  have z3 : sw s 0 k x 0 3 = s 0 3 := by
    rcases hk with q | q <;> rw [q] <;> simp [sw]
  refine ⟨a1, a2, a3, by rw [z2]; exact a4, by rw [z3]; exact a5, ?_⟩
  unfold agR
  rw [z2, z3, zk 1 (by decide), zk 2 (by decide), zk 3 (by decide), zk 4 (by decide), zk 5 (by decide)]
  exact a6
/-- a symbol is written -/
theorem RvD_sym {v0 v : uS} {s : rS} {j : Nat} {c i : Int} (hJ : JS s i) (hn : 1 ≤ s 0 3) (h6 : s 3 (s 0 3 - 1) < 6) (R : RvD v0 v s j) : RvD v0 (wr (wr (wr v 281 (6 * (s 0 3 - 1) + s 3 (s 0 3 - 1)) (if c < 97 then 1000 + c else c - 97)) 282 (6 * (s 0 3 - 1) + s 3 (s 0 3 - 1)) j) 280 (s 0 3 - 1) (s 3 (s 0 3 - 1) + 1)) (sym1 s c j) j ∨ ¬ ((65 ≤ c ∧ c ≤ 90) ∨ (97 ≤ c ∧ c ≤ 106)) := by
  by_cases hc : (65 ≤ c ∧ c ≤ 90) ∨ (97 ≤ c ∧ c ≤ 106)
  · refine Or.inl ?_
    obtain ⟨a1, a2, a3, a4, a5, a6⟩ := R
    obtain ⟨b1, b2, b3, b4, b5, b6, b7, b8, b9, b10, b11⟩ := hJ
    have e0 : sym1 s c j 0 = s 0 := by
      unfold sym1
      rw [sw_ne (by decide), sw_ne (by decide), sw_ne (by decide)]
    have e1 : sym1 s c j 1 = s 1 := by
      unfold sym1
      rw [sw_ne (by decide), sw_ne (by decide), sw_ne (by decide)]
    have e2 : sym1 s c j 2 = s 2 := by
      unfold sym1
      rw [sw_ne (by decide), sw_ne (by decide), sw_ne (by decide)]
    have e3 : sym1 s c j 3 = uf (s 3) (s 0 3 - 1) (s 3 (s 0 3 - 1) + 1) := by
      unfold sym1
      rw [sw_uf, sw_ne (by decide), sw_ne (by decide)]
    have e4 : sym1 s c j 4 = uf (s 4) (6 * (s 0 3 - 1) + s 3 (s 0 3 - 1)) (if c < 97 then 100 + c - 65 else c - 97) := by
      unfold sym1
      rw [sw_ne (by decide), sw_ne (by decide), sw_uf]
    have e5 : sym1 s c j 5 = uf (s 5) (6 * (s 0 3 - 1) + s 3 (s 0 3 - 1)) j := by
      unfold sym1
      rw [sw_ne (by decide), sw_uf, sw_ne (by decide)]
    have hcv : (if c < 97 then 1000 + c else c - 97) = cvS (if c < 97 then 100 + c - 65 else c - 97) := by
      unfold cvS
      by_cases q : c < 97
      · rw [if_pos q, if_pos q, if_neg (by omega)]; omega
      · rw [if_neg q, if_neg q, if_pos (by omega)]
    refine ⟨Vf_wr2 (Vf_wr2 (Vf_wr2 a1 (by decide)) (by decide)) (by decide), ?_, ?_, ?_, ?_, ?_⟩
    · rw [wr_ne (by decide), wr_ne (by decide), wr_ne (by decide)]; exact a2
    · rw [wr_ne (by decide), wr_ne (by decide), wr_ne (by decide)]; exact a3
    · rw [wr_ne (by decide), wr_ne (by decide), wr_ne (by decide), e0]; exact a4
    · rw [wr_ne (by decide), wr_ne (by decide), wr_ne (by decide), e0]; exact a5
    · unfold agR
      rw [wr_ne (b := 278) (by decide), wr_ne (b := 278) (by decide), wr_ne (b := 278) (by decide), wr_ne (b := 279) (by decide), wr_ne (b := 279) (by decide), wr_ne (b := 279) (by decide), wr_uf, wr_ne (b := 280) (by decide), wr_ne (b := 280) (by decide), wr_ne (b := 281) (by decide), wr_ne (b := 281) (by decide), wr_uf, wr_ne (b := 282) (by decide), wr_uf, wr_ne (b := 282) (by decide), e0, e1, e2, e3, e4, e5, hcv]
      refine ⟨a6.1, fun r r0 r1 => ⟨(a6.2 r r0 r1).1, ?_, fun d d0 d1 => ?_⟩⟩
      · by_cases e : r = s 0 3 - 1
        · rw [e, uf_eq, uf_eq]
        · rw [uf_ne e, uf_ne e]
          exact (a6.2 r r0 r1).2.1
      · by_cases e : 6 * r + d = 6 * (s 0 3 - 1) + s 3 (s 0 3 - 1)
        · rw [e, uf_eq, uf_eq, uf_eq, uf_eq]
          exact ⟨rfl, rfl⟩
        · rw [uf_ne e, uf_ne e, uf_ne e, uf_ne e]
          have hd : d < s 3 r := by
            by_cases er : r = s 0 3 - 1
            · rw [er, uf_eq] at d1
              rw [er] at e ⊢
              omega
            · rw [uf_ne er] at d1
              exact d1
          exact (a6.2 r r0 r1).2.2 d d0 hd
  · exact Or.inr hc
