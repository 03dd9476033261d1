/-! The heap of the search -/
def ls (v : uS) (a b : Int) : Prop := v.1 244 a < v.1 244 b ∨ (v.1 244 a = v.1 244 b ∧ (v.1 245 a < v.1 245 b ∨ (v.1 245 a = v.1 245 b ∧ a < b)))
theorem ls_of {v w : uS} (h4 : w.1 244 = v.1 244) (h5 : w.1 245 = v.1 245) (a b : Int) : ls w a b ↔ ls v a b := by
  unfold ls
  rw [h4, h5]
theorem ls_tr {v : uS} {a b c : Int} (h1 : ls v a b) (h2 : ls v b c) : ls v a c := by
  unfold ls at *
  omega
theorem ls_as {v : uS} {a b : Int} (h1 : ls v a b) : ¬ ls v b a := by
  unfold ls at *
  omega
theorem ls_ir {v : uS} {a : Int} : ¬ ls v a a := by
  unfold ls
  omega
theorem ls_nt {v : uS} {a b c : Int} (h1 : ¬ ls v a b) (h2 : ¬ ls v b c) : ¬ ls v a c := by
  unfold ls at *
  omega
theorem ls_to {v : uS} {a b : Int} (h : ¬ ls v a b) : a = b ∨ ls v b a := by
  unfold ls at *
  omega
def elO (v : uS) (a : Int) : Prop := 0 ≤ a ∧ a < 16000 ∧ rL (v.1 244 a) ∧ rI (v.1 245 a)
theorem p_153 {d : Nat} {u : uS} {a b : Int} (ha : elO u a) (hb : elO u b) : cI (d + 1) 153 [.ref 232, iV a, iV b] u (fun c u' => u' = u ∧ ((c = 1 ∧ ls u a b) ∨ (c = 0 ∧ ¬ ls u a b))) := by
  obtain ⟨a1, a2, a3, a4⟩ := ha
  obtain ⟨b1, b2, b3, b4⟩ := hb
  refine e_153 ⟨a1, a2, b1, b2, a3, b3, ?_⟩
  unfold ls
  split
  · next e1 =>
    refine ⟨a4, b4, ?_⟩
    split
    · next e2 =>
      refine ⟨⟨by omega, by omega⟩, ⟨by omega, by omega⟩, ?_⟩
      split
      · next e3 => exact ⟨rfl, Or.inl ⟨rfl, by omega⟩⟩
      · next e3 => exact ⟨rfl, Or.inr ⟨rfl, by omega⟩⟩
    · next e2 =>
      split
      · next e3 => exact ⟨rfl, Or.inl ⟨rfl, by omega⟩⟩
      · next e3 => exact ⟨rfl, Or.inr ⟨rfl, by omega⟩⟩
  · next e1 =>
    split
    · next e3 => exact ⟨rfl, Or.inl ⟨rfl, by omega⟩⟩
    · next e3 => exact ⟨rfl, Or.inr ⟨rfl, by omega⟩⟩
/-- a heap: all in their seats, none before the one above -/
def HP (v : uS) (hc : Int) : Prop := 0 ≤ hc ∧ hc ≤ 16000 ∧ (∀ i : Int, 0 ≤ i → i < hc → elO v (v.1 248 i) ∧ v.1 249 (v.1 248 i) = i + 1) ∧ ∀ i : Int, 0 < i → i < hc → ¬ ls v (v.1 248 i) (v.1 248 ((i - 1) / 2))
def elH (A : Int → Int) (hc a : Int) : Prop := ∃ i : Int, 0 ≤ i ∧ i < hc ∧ A i = a
/-- a heap with a hole, in which t is to be put -/
def HH (w : uS) (hc p t : Int) : Prop := 0 ≤ p ∧ p < hc ∧ hc ≤ 16000 ∧ (∀ i : Int, 0 ≤ i → i < hc → elO w (uf (w.1 248) p t i)) ∧ (∀ i j : Int, 0 ≤ i → i < hc → 0 ≤ j → j < hc → uf (w.1 248) p t i = uf (w.1 248) p t j → i = j) ∧ (∀ i : Int, 0 ≤ i → i < hc → i ≠ p → w.1 249 (uf (w.1 248) p t i) = i + 1)
theorem HH_put {w w1 w2 : uS} {hc p t : Int} (h : HH w hc p t) (ho : ∀ i : Int, 0 < i → i < hc → ¬ ls w (uf (w.1 248) p t i) (uf (w.1 248) p t ((i - 1) / 2))) (e1 : w1 = wr w 248 p t) (e2 : w2 = wr w1 249 t (p + 1)) : HP w2 hc ∧ w2.2 = w.2 ∧ sb1 w w2 [248, 249] ∧ (∀ a, elH (w2.1 248) hc a ↔ elH (uf (w.1 248) p t) hc a) ∧ ∀ a, a ≠ t → w2.1 249 a = w.1 249 a := by
  obtain ⟨h1, h2, h3, h4, h5, h6⟩ := h
  have f8 : w2.1 248 = uf (w.1 248) p t := by rw [e2, wr_ne (by omega), e1, wr_uf]
  have f9 : w2.1 249 = uf (w.1 249) t (p + 1) := by rw [e2, wr_uf, e1, wr_ne (by omega)]
  have f4 : w2.1 244 = w.1 244 := by rw [e2, wr_ne (by omega), e1, wr_ne (by omega)]
  have f5 : w2.1 245 = w.1 245 := by rw [e2, wr_ne (by omega), e1, wr_ne (by omega)]
  refine ⟨⟨by omega, h3, fun i i0 i1 => ?_, fun i i0 i1 => ?_⟩, by rw [e2, wr_2, e1, wr_2], ?_, fun a => by rw [f8], fun a ha => by rw [f9, uf_ne ha]⟩
  · rw [f8]
    refine ⟨by unfold elO; rw [f4, f5]; exact h4 i i0 i1, ?_⟩
    rw [f9]
    by_cases e : i = p
    · rw [e, uf_eq, uf_eq]
    · have hne : uf (w.1 248) p t i ≠ t := fun hh => e (h5 i p i0 i1 h1 h2 (by rw [hh, uf_eq]))
      rw [uf_ne hne]
      exact h6 i i0 i1 e
  · rw [ls_of f4 f5, f8]
    exact ho i i0 i1
  · rw [e2, e1]
    exact sb1_wr (sb1_wr (sb1_refl _ _) (by decide)) (by decide)
theorem par_lt {i : Int} (h : 0 < i) : 0 ≤ (i - 1) / 2 ∧ (i - 1) / 2 < i := by omega
theorem q_152 {d : Nat} {v : uS} {hc p t : Int} (h : HH v hc p t) (r2 : ∀ i : Int, 0 < i → i < hc → i ≠ p → ¬ ls v (uf (v.1 248) p t i) (uf (v.1 248) p t ((i - 1) / 2))) (r3 : 0 < p → ∀ i : Int, 0 < i → i < hc → (i - 1) / 2 = p → ¬ ls v (uf (v.1 248) p t i) (uf (v.1 248) p t ((p - 1) / 2))) : cV (d + 3) 152 [.ref 232, iV t, iV p] v (fun w => HP w hc ∧ w.2 = v.2 ∧ sb1 v w [248, 249] ∧ (∀ a, elH (w.1 248) hc a ↔ elH (uf (v.1 248) p t) hc a) ∧ ∀ a, ¬ elH (uf (v.1 248) p t) hc a → w.1 249 a = v.1 249 a) := by
  have loop : ∀ (m : Nat) (q : Int) (w : uS), q ≤ m → HH w hc q t → (∀ i : Int, 0 < i → i < hc → i ≠ q → ¬ ls w (uf (w.1 248) q t i) (uf (w.1 248) q t ((i - 1) / 2))) → (0 < q → ∀ i : Int, 0 < i → i < hc → (i - 1) / 2 = q → ¬ ls w (uf (w.1 248) q t i) (uf (w.1 248) q t ((q - 1) / 2))) → w.2 = v.2 → sb1 v w [248, 249] → (∀ a, elH (uf (w.1 248) q t) hc a ↔ elH (uf (v.1 248) p t) hc a) → (∀ a, ¬ elH (uf (v.1 248) p t) hc a → w.1 249 a = v.1 249 a) → K_152 (d + 2) 9 [.ref 232, iV t, .retAddr 0, iV q, iV ((q - 1).tdiv 2)] [] w (fun w => HP w hc ∧ w.2 = v.2 ∧ sb1 v w [248, 249] ∧ (∀ a, elH (w.1 248) hc a ↔ elH (uf (v.1 248) p t) hc a) ∧ ∀ a, ¬ elH (uf (v.1 248) p t) hc a → w.1 249 a = v.1 249 a) := by
    intro m
    induction m with
    | zero =>
      intro q w hq hH o1 o2 w2 ws we w9
      obtain ⟨h1, h2, h3, h4, h5, h6⟩ := id hH
      have hq0 : q = 0 := by omega
      have ht := h4 q h1 h2
      rw [uf_eq] at ht
      obtain ⟨t0, t1, -⟩ := ht
      refine k_152_9 ⟨⟨by omega, by omega⟩, ?_⟩
      rw [if_neg (by omega)]
      refine ⟨h1, by omega, fun x1 e1 => ⟨t0, t1, fun x2 e2 => ?_⟩⟩
      obtain ⟨z1, z2, z3, z4, z5⟩ := HH_put hH (fun i i0 i1 => o1 i i0 i1 (by omega)) e1 e2
      refine ⟨z1, z2.trans w2, fun b hb => (z3 b hb).trans (ws b hb), fun a => (z4 a).trans (we a), fun a ha => ?_⟩
      rw [z5 a (fun e => ha ((we a).mp ⟨q, h1, h2, by rw [uf_eq, e]⟩))]
      exact w9 a ha
    | succ m ih =>
      intro q w hq hH o1 o2 w2 ws we w9
      obtain ⟨h1, h2, h3, h4, h5, h6⟩ := id hH
      have ht := h4 q h1 h2
      rw [uf_eq] at ht
      obtain ⟨t0, t1, -⟩ := id ht
      have put : (∀ i : Int, 0 < i → i < hc → ¬ ls w (uf (w.1 248) q t i) (uf (w.1 248) q t ((i - 1) / 2))) → ∀ x1 : uS, x1 = wr w 248 q t → 0 ≤ t ∧ t < 16000 ∧ ∀ x2 : uS, x2 = wr x1 249 t (q + 1) → HP x2 hc ∧ x2.2 = v.2 ∧ sb1 v x2 [248, 249] ∧ (∀ a, elH (x2.1 248) hc a ↔ elH (uf (v.1 248) p t) hc a) ∧ ∀ a, ¬ elH (uf (v.1 248) p t) hc a → x2.1 249 a = v.1 249 a := by
        intro ho x1 e1
        refine ⟨t0, t1, fun x2 e2 => ?_⟩
        obtain ⟨z1, z2, z3, z4, z5⟩ := HH_put hH ho e1 e2
        refine ⟨z1, z2.trans w2, fun b hb => (z3 b hb).trans (ws b hb), fun a => (z4 a).trans (we a), fun a ha => ?_⟩
        rw [z5 a (fun e => ha ((we a).mp ⟨q, h1, h2, by rw [uf_eq, e]⟩))]
        exact w9 a ha
      refine k_152_9 ⟨⟨by omega, by omega⟩, ?_⟩
      by_cases hq0 : 0 < q
      · rw [if_pos hq0, Int.tdiv_eq_ediv_of_nonneg (by omega)]
        generalize hab : (q - 1) / 2 = ab
        have ab0 : 0 ≤ ab := by omega
        have abq : ab < q := by omega
        have eab : uf (w.1 248) q t ab = w.1 248 ab := uf_ne (by omega)
        have hel := h4 ab ab0 (by omega)
        rw [eab] at hel
        refine ⟨ab0, by omega, cI.mono (p_153 (d := d + 1) ht hel) (Nat.le_refl _) (fun c x ⟨ex, hx⟩ => ?_)⟩
        rw [ex]
        rcases hx with ⟨ec, hl⟩ | ⟨ec, hl⟩
        · rw [ec]
          refine ⟨by decide, ?_⟩
          rw [if_neg (by decide)]
          refine ⟨h1, by omega, fun x1 e1 => ⟨hel.1, hel.2.1, fun x2 e2 => ?_⟩⟩
          refine ⟨⟨by omega, by omega⟩, ?_⟩
          have f8 : x2.1 248 = uf (w.1 248) q (w.1 248 ab) := by rw [e2, wr_ne (by omega), e1, wr_uf]
          have f9 : x2.1 249 = uf (w.1 249) (w.1 248 ab) (q + 1) := by rw [e2, wr_uf, e1, wr_ne (by omega)]
          have f4 : x2.1 244 = w.1 244 := by rw [e2, wr_ne (by omega), e1, wr_ne (by omega)]
          have f5 : x2.1 245 = w.1 245 := by rw [e2, wr_ne (by omega), e1, wr_ne (by omega)]
          -- the new row
          have val : ∀ i : Int, uf (x2.1 248) ab t i = if i = ab then t else if i = q then w.1 248 ab else uf (w.1 248) q t i := fun i => by
            by_cases e : i = ab
            · rw [if_pos e, e, uf_eq]
            · rw [if_neg e, uf_ne e, f8]
              by_cases e' : i = q
              · rw [if_pos e', e', uf_eq]
              · rw [if_neg e', uf_ne e', uf_ne e']
          have hA : ∀ i : Int, 0 ≤ i → i < hc → i ≠ ab → i ≠ q → uf (x2.1 248) ab t i = uf (w.1 248) q t i := fun i _ _ e e' => by rw [val, if_neg e, if_neg e']
          have hAa : uf (x2.1 248) ab t ab = uf (w.1 248) q t q := by rw [uf_eq, uf_eq]
          have hAq : uf (x2.1 248) ab t q = uf (w.1 248) q t ab := by rw [val, if_neg (by omega), if_pos rfl, eab]
          have swp : ∀ i : Int, 0 ≤ i → i < hc → ∃ j : Int, 0 ≤ j ∧ j < hc ∧ uf (x2.1 248) ab t i = uf (w.1 248) q t j ∧ (j = if i = ab then q else if i = q then ab else i) := fun i i0 i1 => by
            by_cases e : i = ab
            · exact ⟨q, h1, h2, by rw [e]; exact hAa, by rw [if_pos e]⟩
            · by_cases e' : i = q
              · exact ⟨ab, ab0, by omega, by rw [e']; exact hAq, by rw [if_neg e, if_pos e']⟩
              · exact ⟨i, i0, i1, hA i i0 i1 e e', by rw [if_neg e, if_neg e']⟩
          refine ih ab x2 (by omega) ⟨ab0, by omega, h3, fun i i0 i1 => ?_, fun i j i0 i1 j0 j1 hij => ?_, fun i i0 i1 hne => ?_⟩ (fun i i0 i1 hne => ?_) (fun hab0 i i0 i1 hpi => ?_) (by rw [e2, wr_2, e1, wr_2]; exact w2) (by rw [e2, e1]; exact sb1_wr (sb1_wr ws (by decide)) (by decide)) (fun a => ?_) (fun a ha => ?_)
          · obtain ⟨j, j0, j1, ej, -⟩ := swp i i0 i1
            rw [ej]
            unfold elO
            rw [f4, f5]
            exact h4 j j0 j1
          · obtain ⟨i', a0, a1, ei, hi'⟩ := swp i i0 i1
            obtain ⟨j', b0, b1, ej, hj'⟩ := swp j j0 j1
            rw [ei, ej] at hij
            have := h5 i' j' a0 a1 b0 b1 hij
            rw [hi', hj'] at this
            split at this <;> split at this <;> (try split at this) <;> (try split at this) <;> omega
          · rw [f9]
            by_cases e' : i = q
            · rw [e', hAq, eab, uf_eq]
            · rw [hA i i0 i1 hne e']
              have hne2 : uf (w.1 248) q t i ≠ w.1 248 ab := fun hh => hne (h5 i ab i0 i1 ab0 (by omega) (by rw [hh, eab]))
              rw [uf_ne hne2]
              exact h6 i i0 i1 e'
          · rw [ls_of f4 f5]
            have hp := par_lt i0
            by_cases e' : i = q
            · rw [e', hab, hAq, hAa, eab, uf_eq]
              exact ls_as hl
            · by_cases ep : (i - 1) / 2 = ab
              · rw [ep, hAa, hA i (by omega) i1 hne e', uf_eq]
                have := o1 i i0 i1 e'
                rw [ep, eab] at this
                exact fun hh => this (ls_tr hh hl)
              · by_cases eq : (i - 1) / 2 = q
                · rw [eq, hAq, hA i (by omega) i1 hne e']
                  have := o2 hq0 i i0 i1 eq
                  rw [hab] at this
                  exact this
                · rw [hA i (by omega) i1 hne e', hA ((i - 1) / 2) hp.1 (by omega) ep eq]
                  exact o1 i i0 i1 e'
          · rw [ls_of f4 f5]
            have hpa := par_lt hab0
            have e1' : uf (x2.1 248) ab t ((ab - 1) / 2) = uf (w.1 248) q t ((ab - 1) / 2) := hA _ hpa.1 (by omega) (by omega) (by omega)
            rw [e1']
            have oab := o1 ab hab0 (by omega) (by omega)
            by_cases e' : i = q
            · rw [e', hAq]
              exact oab
            · rw [hA i (by omega) i1 (by omega) e']
              have := o1 i i0 i1 e'
              rw [hpi] at this
              exact ls_nt this oab
          · rw [← we a]
            constructor
            · rintro ⟨i, i0, i1, ei⟩
              obtain ⟨j, j0, j1, ej, -⟩ := swp i i0 i1
              exact ⟨j, j0, j1, by rw [← ej]; exact ei⟩
            · rintro ⟨i, i0, i1, ei⟩
              by_cases e : i = ab
              · exact ⟨q, h1, h2, by rw [hAq, ← e]; exact ei⟩
              · by_cases e' : i = q
                · exact ⟨ab, ab0, by omega, by rw [e'] at ei; rw [hAa]; exact ei⟩
                · exact ⟨i, i0, i1, by rw [hA i i0 i1 e e']; exact ei⟩
          · have hne : a ≠ w.1 248 ab := fun e => ha ((we a).mp ⟨ab, ab0, by omega, by rw [eab]; exact e.symm⟩)
            rw [f9, uf_ne hne]
            exact w9 a ha
        · rw [ec]
          refine ⟨by decide, ?_⟩
          rw [if_pos rfl]
          refine ⟨h1, by omega, put (fun i i0 i1 => ?_)⟩
          by_cases e : i = q
          · rw [e, hab, uf_eq, eab]
            exact hl
          · exact o1 i i0 i1 e
      · rw [if_neg hq0]
        exact ⟨h1, by omega, put (fun i i0 i1 => o1 i i0 i1 (by omega))⟩
  obtain ⟨h1, h2, h3, -⟩ := id h
  refine e_152 ⟨⟨by omega, by omega⟩, loop p.toNat p v (by omega) h r2 r3 rfl (sb1_refl _ _) (fun a => Iff.rfl) (fun a _ => rfl)⟩
theorem HP_min {v : uS} {hc : Int} (h : HP v hc) : ∀ (m : Nat) (i : Int), i ≤ m → 0 ≤ i → i < hc → ¬ ls v (v.1 248 i) (v.1 248 0)
  | 0, i, hm, i0, i1 => by
    rw [show i = 0 by omega]
    exact ls_ir
  | m + 1, i, hm, i0, i1 => by
    by_cases e : i = 0
    · rw [e]; exact ls_ir
    · exact ls_nt (h.2.2.2 i (by omega) i1) (HP_min h m ((i - 1) / 2) (by omega) (by omega) (by omega))
theorem HP_inj {v : uS} {hc : Int} (h : HP v hc) {i j : Int} (i0 : 0 ≤ i) (i1 : i < hc) (j0 : 0 ≤ j) (j1 : j < hc) (e : v.1 248 i = v.1 248 j) : i = j := by
  have h1 := (h.2.2.1 i i0 i1).2
  have h2 := (h.2.2.1 j j0 j1).2
  rw [e] at h1
  omega
theorem q_157 {d : Nat} {v : uS} {hc : Int} (h : HP v hc) (hhc : v.1 232 11 = hc) (hpos : 1 ≤ hc) : cI (d + 3) 157 [.ref 232] v (fun c w => c = v.1 248 0 ∧ HP w (hc - 1) ∧ w.2 = v.2 ∧ sb1 v w [232, 248, 249] ∧ (∀ i : Int, i ≠ 11 → w.1 232 i = v.1 232 i) ∧ w.1 232 11 = hc - 1 ∧ (∀ a, elH (w.1 248) (hc - 1) a ↔ elH (v.1 248) hc a ∧ a ≠ c) ∧ (∀ a, ¬ elH (v.1 248) hc a → w.1 249 a = v.1 249 a)) := by
  obtain ⟨h1, h2, h3, h4⟩ := id h
  generalize hQQ : (fun (c : Int) (w : uS) => c = v.1 248 0 ∧ HP w (hc - 1) ∧ w.2 = v.2 ∧ sb1 v w [232, 248, 249] ∧ (∀ i : Int, i ≠ 11 → w.1 232 i = v.1 232 i) ∧ w.1 232 11 = hc - 1 ∧ (∀ a, elH (w.1 248) (hc - 1) a ↔ elH (v.1 248) hc a ∧ a ≠ c) ∧ (∀ a, ¬ elH (v.1 248) hc a → w.1 249 a = v.1 249 a)) = Q
  refine e_157 (fun u1 e1 => ?_)
  have u11 : u1.1 232 11 = hc - 1 := by rw [e1, wr_uf, uf_eq, hhc]
  have u48 : u1.1 248 = v.1 248 := by rw [e1, wr_ne (by omega)]
  have u49 : u1.1 249 = v.1 249 := by rw [e1, wr_ne (by omega)]
  have u44 : u1.1 244 = v.1 244 := by rw [e1, wr_ne (by omega)]
  have u45 : u1.1 245 = v.1 245 := by rw [e1, wr_ne (by omega)]
  rw [u11, u48]
  refine ⟨by omega, by omega, ?_⟩
  generalize ht : v.1 248 (hc - 1) = t
  have htel := h3 (hc - 1) (by omega) (by omega)
  rw [ht] at htel
  obtain ⟨t0, t1, t2, t3⟩ := htel.1
  -- a state on the way
  let Fr : uS → Prop := fun w => w.2 = v.2 ∧ sb1 u1 w [248, 249] ∧ ∀ a, ¬ elH (v.1 248) hc a → w.1 249 a = v.1 249 a
  have fr232 : ∀ w, Fr w → w.1 232 11 = hc - 1 ∧ (∀ i : Int, i ≠ 11 → w.1 232 i = v.1 232 i) ∧ sb1 v w [232, 248, 249] ∧ w.1 244 = v.1 244 ∧ w.1 245 = v.1 245 := fun w hw => by
    have e32 : w.1 232 = u1.1 232 := hw.2.1 _ (by decide)
    refine ⟨by rw [e32]; exact u11, fun i hi => by rw [e32, e1, wr_uf, uf_ne hi], fun b hb => ?_, (hw.2.1 _ (by decide)).trans u44, (hw.2.1 _ (by decide)).trans u45⟩
    simp only [List.mem_cons, List.not_mem_nil, or_false, not_or] at hb
    rw [hw.2.1 b (by simp only [List.mem_cons, List.not_mem_nil, or_false]; omega), e1, wr_ne hb.1]
  by_cases hone : hc = 1
  · -- the last one
    have et : t = v.1 248 0 := by rw [← ht, hone]; rfl
    refine k_157_32 ⟨by decide, ?_⟩
    rw [u11]
    refine ⟨⟨by omega, by omega⟩, ?_⟩
    rw [if_neg (by omega)]
    refine ⟨by omega, by omega, fun x1 f1 => ⟨t0, t1, fun x2 f2 => ?_⟩⟩
    have hF : Fr x2 := by
      refine ⟨by rw [f2, wr_2, f1, wr_2, e1, wr_2], by rw [f2, f1]; exact sb1_wr (sb1_wr (sb1_refl _ _) (by decide)) (by decide), fun a ha => ?_⟩
      rw [f2, wr_uf, uf_ne (fun e => ha ⟨0, by omega, by omega, by rw [← et]; exact e.symm⟩), f1, wr_ne (by omega), u49]
    obtain ⟨z1, z2, z3, z4, z5⟩ := fr232 x2 hF
    rw [← hQQ]
    refine ⟨rfl, ⟨by omega, by omega, fun i i0 i1 => by omega, fun i i0 i1 => by omega⟩, hF.1, z3, z2, z1, fun a => ?_, hF.2.2⟩
    constructor
    · rintro ⟨i, i0, i1, -⟩; omega
    · rintro ⟨⟨i, i0, i1, ei⟩, hne⟩
      rw [show i = 0 by omega] at ei
      exact absurd ei.symm hne
  · let E : uS → Int → Prop := fun w q => HH w (hc - 1) q t ∧ (∀ i : Int, 0 < i → i < hc - 1 → (i - 1) / 2 ≠ q → ¬ ls v (uf (w.1 248) q t i) (uf (w.1 248) q t ((i - 1) / 2))) ∧ (0 < q → ∀ i : Int, 0 < i → i < hc - 1 → (i - 1) / 2 = q → ¬ ls v (uf (w.1 248) q t i) (uf (w.1 248) q t ((q - 1) / 2))) ∧ ∀ a, elH (uf (w.1 248) q t) (hc - 1) a ↔ elH (v.1 248) hc a ∧ a ≠ v.1 248 0
    have put : ∀ (q : Int) (w : uS), Fr w → E w q → (∀ i : Int, 0 < i → i < hc - 1 → (i - 1) / 2 = q → ¬ ls v (uf (w.1 248) q t i) t) → ∀ x1 : uS, x1 = wr w 248 q t → ∀ x2 : uS, x2 = wr x1 249 t (q + 1) → Q (v.1 248 0) x2 := by
      intro q w hF hE hch x1 f1 x2 f2
      obtain ⟨a1, a2, a3, a4⟩ := id hE
      obtain ⟨z1, z2, z3, z4, z5⟩ := fr232 w hF
      obtain ⟨y1, y2, y3, y4, y5⟩ := HH_put a1 (fun i i0 i1 => by
        rw [ls_of z4 z5]
        by_cases e : (i - 1) / 2 = q
        · rw [e, uf_eq]; exact hch i i0 i1 e
        · exact a2 i i0 i1 e) f1 f2
      have hF2 : Fr x2 := by
        refine ⟨y2.trans hF.1, fun b hb => (y3 b hb).trans (hF.2.1 b hb), fun a ha => ?_⟩
        rw [y5 a (fun e => ha ⟨hc - 1, by omega, by omega, by rw [ht]; exact e.symm⟩)]
        exact hF.2.2 a ha
      obtain ⟨o1, o2, o3, o4, o5⟩ := fr232 x2 hF2
      rw [← hQQ]
      exact ⟨rfl, y1, hF2.1, o3, o2, o1, fun a => (y4 a).trans (a4 a), hF2.2.2⟩
    have loop : ∀ (m : Nat) (q : Int) (w : uS), hc - 1 ≤ q + m → Fr w → E w q → K_157 (d + 2) 32 [.ref 232, iV (v.1 248 0), iV t, iV q, iV (2 * q + 1)] [] w Q := by
      intro m
      induction m with
      | zero =>
        intro q w hm hF hE
        have := hE.1.2.1
        omega
      | succ m ih =>
        intro q w hm hF hE
        obtain ⟨a1, a2, a3, a4⟩ := id hE
        obtain ⟨b1, b2, b3, b4, b5, b6⟩ := id a1
        obtain ⟨z1, z2, z3, z4, z5⟩ := fr232 w hF
        refine k_157_32 ⟨⟨by omega, by omega⟩, ?_⟩
        rw [z1]
        refine ⟨⟨by omega, by omega⟩, ?_⟩
        have elA : ∀ i : Int, 0 ≤ i → i < hc - 1 → i ≠ q → elO w (w.1 248 i) := fun i i0 i1 e => by
          have := b4 i i0 i1
          rw [uf_ne e] at this
          exact this
        have telw : elO w t := by unfold elO; rw [z4, z5]; exact ⟨t0, t1, t2, t3⟩
        by_cases hb : 2 * q + 1 < hc - 1
        · rw [if_pos hb]
          -- the lesser one below
          have go : ∀ b : Int, (b = 2 * q + 1 ∨ b = 2 * q + 2) → b < hc - 1 → (∀ i : Int, 0 < i → i < hc - 1 → (i - 1) / 2 = q → ¬ ls v (w.1 248 i) (w.1 248 b)) → K_157 (d + 2) 78 [.ref 232, iV (v.1 248 0), iV t, iV q, iV b] [] w Q := by
            intro b hbb hb1 hmin
            have hbq : b ≠ q := by omega
            have hpb : (b - 1) / 2 = q := by omega
            have hel := elA b (by omega) hb1 hbq
            refine k_157_78 ⟨by omega, by omega, cI.mono (p_153 (d := d + 1) hel telw) (Nat.le_refl _) (fun c x ⟨ex, hx⟩ => ?_)⟩
            rw [ex]
            rcases hx with ⟨ec, hl⟩ | ⟨ec, hl⟩
            · rw [ec]
              rw [ls_of z4 z5] at hl
              refine ⟨by decide, ?_⟩
              rw [if_neg (by decide)]
              refine ⟨b1, by omega, fun x1 f1 => ⟨hel.1, hel.2.1, fun x2 f2 => ?_⟩⟩
              have g8 : x2.1 248 = uf (w.1 248) q (w.1 248 b) := by rw [f2, wr_ne (by omega), f1, wr_uf]
              have g9 : x2.1 249 = uf (w.1 249) (w.1 248 b) (q + 1) := by rw [f2, wr_uf, f1, wr_ne (by omega)]
              have g4 : x2.1 244 = w.1 244 := by rw [f2, wr_ne (by omega), f1, wr_ne (by omega)]
              have g5 : x2.1 245 = w.1 245 := by rw [f2, wr_ne (by omega), f1, wr_ne (by omega)]
              have eb : uf (w.1 248) q t b = w.1 248 b := uf_ne hbq
              have hA : ∀ i : Int, i ≠ b → i ≠ q → uf (x2.1 248) b t i = uf (w.1 248) q t i := fun i e e' => by rw [uf_ne e, g8, uf_ne e', uf_ne e']
              have hAb : uf (x2.1 248) b t b = uf (w.1 248) q t q := by rw [uf_eq, uf_eq]
              have hAq : uf (x2.1 248) b t q = uf (w.1 248) q t b := by rw [uf_ne (fun e => hbq e.symm), g8, uf_eq, eb]
              have swp : ∀ i : Int, 0 ≤ i → i < hc - 1 → ∃ j : Int, 0 ≤ j ∧ j < hc - 1 ∧ uf (x2.1 248) b t i = uf (w.1 248) q t j ∧ (j = if i = b then q else if i = q then b else i) := fun i i0 i1 => by
                by_cases e : i = b
                · exact ⟨q, b1, b2, by rw [e]; exact hAb, by rw [if_pos e]⟩
                · by_cases e' : i = q
                  · exact ⟨b, by omega, hb1, by rw [e']; exact hAq, by rw [if_neg e, if_pos e']⟩
                  · exact ⟨i, i0, i1, hA i e e', by rw [if_neg e, if_neg e']⟩
              have hF2 : Fr x2 := by
                refine ⟨by rw [f2, wr_2, f1, wr_2]; exact hF.1, by rw [f2, f1]; exact sb1_wr (sb1_wr hF.2.1 (by decide)) (by decide), fun a ha => ?_⟩
                have hne : a ≠ w.1 248 b := fun e => ha ((a4 a).mp ⟨b, by omega, hb1, by rw [eb]; exact e.symm⟩).1
                rw [g9, uf_ne hne]
                exact hF.2.2 a ha
              refine ih b x2 (by omega) hF2 ⟨⟨by omega, hb1, b3, fun i i0 i1 => ?_, fun i j i0 i1 j0 j1 hij => ?_, fun i i0 i1 hne => ?_⟩, fun i i0 i1 hne => ?_, fun _ i i0 i1 hpi => ?_, fun a => ?_⟩
              · obtain ⟨j, j0, j1, ej, -⟩ := swp i i0 i1
                rw [ej]
                unfold elO
                rw [g4, g5]
                exact b4 j j0 j1
              · obtain ⟨i', p0, p1, ei, hi'⟩ := swp i i0 i1
                obtain ⟨j', q0, q1, ej, hj'⟩ := swp j j0 j1
                rw [ei, ej] at hij
                have := b5 i' j' p0 p1 q0 q1 hij
                rw [hi', hj'] at this
                split at this <;> split at this <;> (try split at this) <;> (try split at this) <;> omega
              · rw [g9]
                by_cases e' : i = q
                · rw [e', hAq, eb, uf_eq]
                · rw [hA i hne e']
                  have hne2 : uf (w.1 248) q t i ≠ w.1 248 b := fun hh => hne (b5 i b i0 i1 (by omega) hb1 (by rw [hh, eb]))
                  rw [uf_ne hne2]
                  exact b6 i i0 i1 e'
              · have hp := par_lt i0
                by_cases e' : i = q
                · rw [e', hAq, hA ((q - 1) / 2) (by omega) (by omega)]
                  exact a3 (by omega) b (by omega) hb1 hpb
                · by_cases eb' : i = b
                  · rw [eb', hpb, hAb, hAq, uf_eq, eb]
                    exact ls_as hl
                  · by_cases ep : (i - 1) / 2 = q
                    · rw [ep, hAq, hA i eb' e', eb, uf_ne e']
                      exact hmin i i0 i1 ep
                    · rw [hA i eb' e', hA ((i - 1) / 2) hne ep]
                      exact a2 i i0 i1 ep
              · rw [hpb, hAq, hA i (by omega) (by omega)]
                have := a2 i i0 i1 (by omega)
                rw [hpi] at this
                exact this
              · rw [← a4 a]
                constructor
                · rintro ⟨i, i0, i1, ei⟩
                  obtain ⟨j, j0, j1, ej, -⟩ := swp i i0 i1
                  exact ⟨j, j0, j1, by rw [← ej]; exact ei⟩
                · rintro ⟨i, i0, i1, ei⟩
                  by_cases e : i = b
                  · exact ⟨q, b1, b2, by rw [hAq, ← e]; exact ei⟩
                  · by_cases e' : i = q
                    · exact ⟨b, by omega, hb1, by rw [e'] at ei; rw [hAb]; exact ei⟩
                    · exact ⟨i, i0, i1, by rw [hA i e e']; exact ei⟩
            · rw [ec]
              rw [ls_of z4 z5] at hl
              refine ⟨by decide, ?_⟩
              rw [if_pos rfl]
              refine ⟨b1, by omega, fun x1 f1 => ⟨t0, t1, fun x2 f2 => put q w hF hE (fun i i0 i1 hpi => ?_) x1 f1 x2 f2⟩⟩
              rw [uf_ne (by omega)]
              exact ls_nt (hmin i i0 i1 hpi) hl
          refine ⟨⟨by omega, by omega⟩, ?_⟩
          by_cases hb2 : 2 * q + 1 + 1 < hc - 1
          · rw [if_pos hb2]
            have ha := elA (2 * q + 1 + 1) (by omega) hb2 (by omega)
            have hb' := elA (2 * q + 1) (by omega) hb (by omega)
            refine ⟨by omega, by omega, by omega, by omega, cI.mono (p_153 (d := d + 1) ha hb') (Nat.le_refl _) (fun c x ⟨ex, hx⟩ => ?_)⟩
            rw [ex]
            rcases hx with ⟨ec, hl⟩ | ⟨ec, hl⟩
            · rw [ec]
              rw [ls_of z4 z5] at hl
              refine ⟨by decide, ?_⟩
              rw [if_neg (by decide)]
              refine go (2 * q + 1 + 1) (by omega) hb2 (fun i i0 i1 hpi => ?_)
              by_cases e : i = 2 * q + 1
              · rw [e]; exact ls_as hl
              · rw [show i = 2 * q + 1 + 1 by omega]; exact ls_ir
            · rw [ec]
              rw [ls_of z4 z5] at hl
              refine ⟨by decide, ?_⟩
              rw [if_pos rfl]
              refine go (2 * q + 1) (by omega) hb (fun i i0 i1 hpi => ?_)
              by_cases e : i = 2 * q + 1
              · rw [e]; exact ls_ir
              · rw [show i = 2 * q + 1 + 1 by omega]; exact hl
          · rw [if_neg hb2]
            refine go (2 * q + 1) (by omega) hb (fun i i0 i1 hpi => ?_)
            rw [show i = 2 * q + 1 by omega]
            exact ls_ir
        · rw [if_neg hb]
          exact ⟨b1, by omega, fun x1 f1 => ⟨t0, t1, fun x2 f2 => put q w hF hE (fun i i0 i1 hpi => by omega) x1 f1 x2 f2⟩⟩
    have hA0 : ∀ i : Int, 0 ≤ i → i < hc - 1 → uf (u1.1 248) 0 t i = if i = 0 then v.1 248 (hc - 1) else v.1 248 i := fun i _ _ => by
      rw [u48]
      by_cases e : i = 0
      · rw [if_pos e, e, uf_eq, ht]
      · rw [if_neg e, uf_ne e]
    refine loop (hc - 1).toNat 0 u1 (by omega) ⟨by rw [e1, wr_2], sb1_refl _ _, fun a _ => by rw [u49]⟩ ⟨⟨Int.le_refl 0, by omega, by omega, fun i i0 i1 => ?_, fun i j i0 i1 j0 j1 hij => ?_, fun i i0 i1 hne => ?_⟩, fun i i0 i1 hne => ?_, fun h0 => absurd h0 (by omega), fun a => ?_⟩
    · rw [hA0 i i0 i1]
      unfold elO
      rw [u44, u45]
      split
      · exact (h3 (hc - 1) (by omega) (by omega)).1
      · exact (h3 i i0 (by omega)).1
    · rw [hA0 i i0 i1, hA0 j j0 j1] at hij
      by_cases ei : i = 0 <;> by_cases ej : j = 0
      · omega
      · rw [if_pos ei, if_neg ej] at hij
        have := HP_inj h (by omega) (by omega) j0 (by omega) hij
        omega
      · rw [if_neg ei, if_pos ej] at hij
        have := HP_inj h i0 (by omega) (by omega) (by omega) hij
        omega
      · rw [if_neg ei, if_neg ej] at hij
        exact HP_inj h i0 (by omega) j0 (by omega) hij
    · rw [hA0 i i0 i1, if_neg hne, u49]
      exact (h3 i i0 (by omega)).2
    · have hp := par_lt i0
      rw [hA0 i (by omega) i1, hA0 _ hp.1 (by omega), if_neg (by omega), if_neg hne]
      exact h4 i i0 (by omega)
    · constructor
      · rintro ⟨i, i0, i1, ei⟩
        rw [hA0 i i0 i1] at ei
        by_cases e : i = 0
        · rw [if_pos e] at ei
          refine ⟨⟨hc - 1, by omega, by omega, ei⟩, fun e' => ?_⟩
          rw [e'] at ei
          have := HP_inj h (by omega) (by omega) (Int.le_refl 0) (by omega) ei
          omega
        · rw [if_neg e] at ei
          refine ⟨⟨i, i0, by omega, ei⟩, fun e' => ?_⟩
          rw [e'] at ei
          have := HP_inj h i0 (by omega) (Int.le_refl 0) (by omega) ei
          omega
      · rintro ⟨⟨i, i0, i1, ei⟩, hne⟩
        have hi0 : i ≠ 0 := fun e => hne (by rw [e] at ei; exact ei.symm)
        by_cases e : i = hc - 1
        · refine ⟨0, Int.le_refl 0, by omega, ?_⟩
          rw [hA0 0 (Int.le_refl 0) (by omega), if_pos rfl, ← e]
          exact ei
        · refine ⟨i, i0, by omega, ?_⟩
          rw [hA0 i i0 (by omega), if_neg hi0]
          exact ei
