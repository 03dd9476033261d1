/-! The search: a part of a rule is come to -/
def rc (M : Mg) (v : uS) (r : Int) (d : Nat) (p q c g : Int) : Prop := if (d : Int) < xl M r then (v.1 250 (pcx M v r d p q) < c ∨ v.1 250 (pcx M v r d p q) = c ∧ v.1 251 (pcx M v r d p q) ≤ g) else (Kv M v (xh M r) p q ∨ (elH (v.1 248) (v.1 232 11) (tcx (xn M) (xh M r) p q) ∧ (v.1 244 (tcx (xn M) (xh M r) p q) < c ∨ v.1 244 (tcx (xn M) (xh M r) p q) = c ∧ v.1 245 (tcx (xn M) (xh M r) p q) ≤ g + 1)))
def vl (M : Mg) (v : uS) (r : Int) (d : Nat) (p q c g : Int) : Prop := if d = 0 then q = p ∧ c = 0 ∧ g = 0 else v.1 250 (pcx M v r d p q) = c ∧ v.1 251 (pcx M v r d p q) = g ∧ c ≠ 9000000000000000000
def CI (M : Mg) (L H : T3) (v : uS) (r : Int) (d : Nat) (p q : Int) : Prop := ∀ c g, vl M v r d p q c g → ∀ q' c1 g1, iR (xn M) q' → stk M (Kv M v) L H (xy M r d) q q' c1 g1 → c + c1 < 4000000000000000000 → rc M v r (d + 1) p q' (c + c1) (max g g1)
/-- the value of a part is as before -/
def smE (M : Mg) (v w : uS) (r : Int) (d : Nat) (p q : Int) : Prop := d = 0 ∨ (w.1 250 (pcx M w r d p q) = v.1 250 (pcx M v r d p q) ∧ w.1 251 (pcx M w r d p q) = v.1 251 (pcx M v r d p q))
def rcM (M : Mg) (v w : uS) : Prop := ∀ (r : Int) (d : Nat) (p q c g : Int), 0 ≤ r → r < xr M → (d : Int) ≤ xl M r → (1 ≤ d ∨ xl M r = 0) → iR (xn M) p → iR (xn M) q → rc M v r d p q c g → rc M w r d p q c g
def P2 (M : Mg) (L H : T3) (v w : uS) : Prop := ∀ (r : Int) (d : Nat) (p q : Int), 0 ≤ r → r < xr M → (d : Int) < xl M r → iR (xn M) p → iR (xn M) q → smE M v w r d p q ∨ CI M L H w r d p q
def RF (M : Mg) (v w : uS) : Prop := w.2 = v.2 ∧ sb1 v w [232, 244, 245, 248, 249, 250, 251] ∧ (∀ i : Int, i ≠ 11 → w.1 232 i = v.1 232 i)
theorem RF_K {M : Mg} {v w : uS} (h : RF M v w) : Kv M w = Kv M v ∧ w.1 252 = v.1 252 := by
  have e : w.1 247 = v.1 247 := h.2.1 _ (by decide)
  refine ⟨?_, h.2.1 _ (by decide)⟩
  show Fg (xv M) (xn M) (w.1 247) = Fg (xv M) (xn M) (v.1 247)
  rw [e]
theorem RF_tr {M : Mg} {v w z : uS} (h : RF M v w) (h' : RF M w z) : RF M v z := ⟨h'.1.trans h.1, fun b hb => (h'.2.1 b hb).trans (h.2.1 b hb), fun i hi => (h'.2.2 i hi).trans (h.2.2 i hi)⟩
theorem RF_refl {M : Mg} (v : uS) : RF M v v := ⟨rfl, sb1_refl _ _, fun _ _ => rfl⟩
theorem smE_tr {M : Mg} {v w z : uS} {r : Int} {d : Nat} {p q : Int} (h : smE M v w r d p q) (h' : smE M w z r d p q) : smE M v z r d p q := by
  rcases h with e | ⟨a1, a2⟩
  · exact Or.inl e
  · rcases h' with e | ⟨b1, b2⟩
    · exact Or.inl e
    · exact Or.inr ⟨b1.trans a1, b2.trans a2⟩
theorem CI_mono {M : Mg} {L H : T3} {v w : uS} {r : Int} {d : Nat} {p q : Int} (hF : RF M v w) (hm : rcM M v w) (r0 : 0 ≤ r) (r1 : r < xr M) (hd : (d : Int) < xl M r) (hp : iR (xn M) p) (hs : smE M v w r d p q) (h : CI M L H v r d p q) : CI M L H w r d p q := by
  intro c g hv q' c1 g1 hq' hst hlt
  obtain ⟨eK, -⟩ := RF_K hF
  refine hm r (d + 1) p q' _ _ r0 r1 (by omega) (Or.inl (by omega)) hp hq' (h c g ?_ q' c1 g1 hq' (by rw [eK] at hst; exact hst) hlt)
  unfold vl at hv ⊢
  by_cases e : d = 0
  · rw [if_pos e] at hv ⊢; exact hv
  · rw [if_neg e] at hv ⊢
    rcases hs with z | ⟨a1, a2⟩
    · exact absurd z e
    · rw [a1, a2] at hv; exact hv
theorem P2_tr {M : Mg} {L H : T3} {v w z : uS} (hF : RF M w z) (hm : rcM M w z) (h : P2 M L H v w) (h' : P2 M L H w z) : P2 M L H v z := by
  intro r d p q r0 r1 hd hp hq
  rcases h' r d p q r0 r1 hd hp hq with a | a
  · rcases h r d p q r0 r1 hd hp hq with b | b
    · exact Or.inl (smE_tr b a)
    · exact Or.inr (CI_mono hF hm r0 r1 hd hp a b)
  · exact Or.inr a
theorem rcM_tr {M : Mg} {v w z : uS} (h : rcM M v w) (h' : rcM M w z) : rcM M v z := fun r d p q c g r0 r1 hd h1 hp hq hh => h' r d p q c g r0 r1 hd h1 hp hq (h r d p q c g r0 r1 hd h1 hp hq hh)
theorem pcx_b {M : Mg} {v : uS} {r p q : Int} {d : Nat} (hM : Mok M) (hf : fOK M (v.1 252)) (r0 : 0 ≤ r) (r1 : r < xr M) (hp : iR (xn M) p) (hq : iR (xn M) q) (h1 : 1 ≤ d) (h2 : (d : Int) < xl M r) : v.1 252 r ≤ pcx M v r d p q ∧ pcx M v r d p q < v.1 252 r + max 0 (xl M r - 1) * ((xn M : Int) * xn M) ∧ 0 ≤ pcx M v r d p q ∧ pcx M v r d p q < 240000 := by
  obtain ⟨a1, a2⟩ := hf.1 r r0 r1
  obtain ⟨-, -, b3, b4⟩ := tcx_b (nv := (xl M r - 1).toNat) (n := xn M) (x := (d : Int) - 1) (o := p) (q := q) ⟨by omega, by omega⟩ hp hq
  rw [show (((xl M r - 1).toNat : Nat) : Int) = max 0 (xl M r - 1) by omega] at b4
  have ep : pcx M v r d p q = v.1 252 r + tcx (xn M) ((d : Int) - 1) p q := rfl
  rw [ep]
  omega
theorem pcx_i {M : Mg} {v : uS} {r p q r' p' q' : Int} {d d' : Nat} (hM : Mok M) (hf : fOK M (v.1 252)) (r0 : 0 ≤ r) (r1 : r < xr M) (hp : iR (xn M) p) (hq : iR (xn M) q) (h1 : 1 ≤ d) (h2 : (d : Int) < xl M r) (r0' : 0 ≤ r') (r1' : r' < xr M) (hp' : iR (xn M) p') (hq' : iR (xn M) q') (h1' : 1 ≤ d') (h2' : (d' : Int) < xl M r') (h : pcx M v r d p q = pcx M v r' d' p' q') : r = r' ∧ d = d' ∧ p = p' ∧ q = q' := by
  obtain ⟨a1, a2, -⟩ := pcx_b hM hf r0 r1 hp hq h1 h2
  obtain ⟨b1, b2, -⟩ := pcx_b hM hf r0' r1' hp' hq' h1' h2'
  have er : r = r' := by
    by_cases e : r = r'
    · exact e
    · by_cases hlt : r < r'
      · have := hf.2 r r' r0 hlt r1'
        omega
      · have := hf.2 r' r r0' (by omega) r1
        omega
  rw [er] at h
  have h' : tcx (xn M) ((d : Int) - 1) p q = tcx (xn M) ((d' : Int) - 1) p' q' := by
    have : v.1 252 r' + tcx (xn M) ((d : Int) - 1) p q = v.1 252 r' + tcx (xn M) ((d' : Int) - 1) p' q' := h
    omega
  obtain ⟨e1, e2, e3⟩ := tcx_i hp hq hp' hq' h'
  exact ⟨er, by omega, e2, e3⟩
/-- a part gets a lesser value -/
theorem RIv_part {M : Mg} {mk : Nat} {L H : T3} {v v1 w : uS} {r p q c g : Int} {d : Nat} (hmk : mk = 59 ∨ mk = 61) (hM : Mok M) (hR : RIv M mk L H v) (r0 : 0 ≤ r) (r1 : r < xr M) (hp : iR (xn M) p) (hq : iR (xn M) q) (h1 : 1 ≤ d) (h2 : (d : Int) < xl M r) (hw : wk M (Kv M v) L H r p d q c g) (hc : c < 4000000000000000000) (hle : ∀ c' g', (v.1 250 (pcx M v r d p q) < c' ∨ v.1 250 (pcx M v r d p q) = c' ∧ v.1 251 (pcx M v r d p q) ≤ g') → (c < c' ∨ c = c' ∧ g ≤ g')) (e1 : v1 = wr v 250 (pcx M v r d p q) c) (e2 : w = wr v1 251 (pcx M v r d p q) g) : RIv M mk L H w ∧ RF M v w ∧ rcM M v w ∧ vl M w r d p q c g ∧ rc M w r d p q c g ∧ ∀ (r' : Int) (d' : Nat) (p' q' : Int), 0 ≤ r' → r' < xr M → (d' : Int) < xl M r' → iR (xn M) p' → iR (xn M) q' → ¬ (r' = r ∧ d' = d ∧ p' = p ∧ q' = q) → smE M v w r' d' p' q' := by
  obtain ⟨a1, a2, a3, a4, a5, a6, a7, a8, a9⟩ := id hR
  have f : ∀ b, b ≠ 250 → b ≠ 251 → w.1 b = v.1 b := fun b h1 h2 => by rw [e2, wr_ne h2, e1, wr_ne h1]
  have f50 : w.1 250 = uf (v.1 250) (pcx M v r d p q) c := by rw [e2, wr_ne (by omega), e1, wr_uf]
  have f51 : w.1 251 = uf (v.1 251) (pcx M v r d p q) g := by rw [e2, wr_uf, e1, wr_ne (by omega)]
  have w2 : w.2 = v.2 := by rw [e2, wr_2, e1, wr_2]
  have hF : RF M v w := ⟨w2, fun b hb => f b (by simp only [List.mem_cons, List.not_mem_nil, or_false, not_or] at hb; omega) (by simp only [List.mem_cons, List.not_mem_nil, or_false, not_or] at hb; omega), fun i _ => by rw [f 232 (by omega) (by omega)]⟩
  obtain ⟨eK, e52⟩ := RF_K hF
  have ep : ∀ (r' : Int) (d' : Nat) (p' q' : Int), pcx M w r' d' p' q' = pcx M v r' d' p' q' := fun r' d' p' q' => by
    show w.1 252 r' + _ = v.1 252 r' + _
    rw [e52]
  have same : ∀ (r' : Int) (d' : Nat) (p' q' : Int), 0 ≤ r' → r' < xr M → 1 ≤ d' → (d' : Int) < xl M r' → iR (xn M) p' → iR (xn M) q' → ¬ (r' = r ∧ d' = d ∧ p' = p ∧ q' = q) → w.1 250 (pcx M w r' d' p' q') = v.1 250 (pcx M v r' d' p' q') ∧ w.1 251 (pcx M w r' d' p' q') = v.1 251 (pcx M v r' d' p' q') := fun r' d' p' q' b0 b1 b2 b3 b4 b5 hne => by
    have hne' : pcx M v r' d' p' q' ≠ pcx M v r d p q := fun e => hne (pcx_i hM a3 b0 b1 b4 b5 b2 b3 r0 r1 hp hq h1 h2 e)
    rw [ep, f50, f51, uf_ne hne', uf_ne hne']
    exact ⟨rfl, rfl⟩
  have v50 : w.1 250 (pcx M w r d p q) = c := by rw [ep, f50, uf_eq]
  have v51 : w.1 251 (pcx M w r d p q) = g := by rw [ep, f51, uf_eq]
  have eH : ∀ a, elH (w.1 248) (w.1 232 11) a ↔ elH (v.1 248) (v.1 232 11) a := fun a => by rw [f 248 (by omega) (by omega), f 232 (by omega) (by omega)]
  refine ⟨⟨sA_of a1 w2 (f _ (by omega) (by omega)) (f _ (by omega) (by omega)) (f _ (by omega) (by omega)) (f _ (by omega) (by omega)) (f _ (by omega) (by omega)) (by rw [f 232 (by omega) (by omega)]), by rw [f 247 (by omega) (by omega)]; exact a2, by rw [e52]; exact a3, fun x o b hK => ?_, ?_, fun a ha => ?_, fun x o b hx ho hb hK => ?_, fun x o b hx ho hb hel => ?_, fun r' p' q' b0 b1 b4 b5 d' b2 b3 => ?_⟩, hF, fun r' d' p' q' c' g' b0 b1 b2 b3 b4 b5 hrc => ?_, ?_, ?_, fun r' d' p' q' b0 b1 b2 b4 b5 hne => ?_⟩
  · rw [eK] at hK
    rw [f 244 (by omega) (by omega), f 245 (by omega) (by omega)]
    exact a4 x o b hK
  · unfold HP elO at a5 ⊢
    have els : ∀ x y, ls w x y ↔ ls v x y := ls_of (f 244 (by omega) (by omega)) (f 245 (by omega) (by omega))
    rw [f 248 (by omega) (by omega), f 249 (by omega) (by omega), f 244 (by omega) (by omega), f 245 (by omega) (by omega), f 232 (by omega) (by omega)]
    exact ⟨a5.1, a5.2.1, a5.2.2.1, fun i i0 i1 h => a5.2.2.2 i i0 i1 ((els _ _).mp h)⟩
  · rw [eK]
    exact a6 a ((eH a).mp ha)
  · rw [eK] at hK
    rw [f 249 (by omega) (by omega), eH]
    exact a7 x o b hx ho hb hK
  · rw [eK, f 244 (by omega) (by omega), f 245 (by omega) (by omega)]
    exact a8 x o b hx ho hb ((eH _).mp hel)
  · rw [eK]
    by_cases e : r' = r ∧ d' = d ∧ p' = p ∧ q' = q
    · obtain ⟨q1, q2, q3, q4⟩ := e
      rw [q1, q2, q3, q4, v50, v51]
      exact Or.inr ⟨hw, hc⟩
    · obtain ⟨s1, s2⟩ := same r' d' p' q' b0 b1 b2 b3 b4 b5 e
      rw [s1, s2]
      exact a9 r' p' q' b0 b1 b4 b5 d' b2 b3
  · unfold rc at hrc ⊢
    by_cases hlt : (d' : Int) < xl M r'
    · rw [if_pos hlt] at hrc ⊢
      have hd' : 1 ≤ d' := by omega
      by_cases e : r' = r ∧ d' = d ∧ p' = p ∧ q' = q
      · obtain ⟨q1, q2, q3, q4⟩ := e
        rw [q1, q2, q3, q4] at hrc ⊢
        rw [v50, v51]
        exact hle c' g' hrc
      · obtain ⟨s1, s2⟩ := same r' d' p' q' b0 b1 hd' hlt b4 b5 e
        rw [s1, s2]
        exact hrc
    · rw [if_neg hlt] at hrc ⊢
      rw [eK, eH, f 244 (by omega) (by omega), f 245 (by omega) (by omega)]
      exact hrc
  · unfold vl
    rw [if_neg (by omega)]
    exact ⟨v50, v51, by omega⟩
  · unfold rc
    rw [if_pos h2, v50, v51]
    exact Or.inr ⟨rfl, Int.le_refl _⟩
  · by_cases e0 : d' = 0
    · exact Or.inl e0
    · exact Or.inr (same r' d' p' q' b0 b1 (by omega) b2 b4 b5 hne)
/-- behind an offer all is recorded as before, or better -/
theorem OF_rc {M : Mg} {mk : Nat} {L H : T3} {v w : uS} {x o q : Int} (hR : RIv M mk L H v) (ho : iR (xn M) o) (hq : iR (xn M) q) (hO : OF v w (tcx (xn M) x o q)) (hk : Kv M v x o q → w = v) (hd : ¬ Kv M v x o q → elH (v.1 248) (v.1 232 11) (tcx (xn M) x o q) → w.1 244 (tcx (xn M) x o q) < v.1 244 (tcx (xn M) x o q) ∨ w.1 244 (tcx (xn M) x o q) = v.1 244 (tcx (xn M) x o q) ∧ w.1 245 (tcx (xn M) x o q) ≤ v.1 245 (tcx (xn M) x o q)) : RF M v w ∧ rcM M v w ∧ ∀ (r' : Int) (d' : Nat) (p' q' : Int), smE M v w r' d' p' q' := by
  obtain ⟨o1, o2, o3, o4, o5⟩ := id hO
  have hF : RF M v w := ⟨o1, fun b hb => o2 b (fun hh => hb (by simp only [List.mem_cons, List.not_mem_nil, or_false] at hh ⊢; omega)), o3⟩
  obtain ⟨eK, e52⟩ := RF_K hF
  have f50 : w.1 250 = v.1 250 := o2 _ (by decide)
  have f51 : w.1 251 = v.1 251 := o2 _ (by decide)
  have ep : ∀ (r' : Int) (d' : Nat) (p' q' : Int), pcx M w r' d' p' q' = pcx M v r' d' p' q' := fun r' d' p' q' => by
    show w.1 252 r' + _ = v.1 252 r' + _
    rw [e52]
  refine ⟨hF, fun r' d' p' q' c' g' b0 b1 b2 b3 b4 b5 hrc => ?_, fun r' d' p' q' => Or.inr (by rw [ep, f50, f51]; exact ⟨rfl, rfl⟩)⟩
  unfold rc at hrc ⊢
  by_cases hlt : (d' : Int) < xl M r'
  · rw [if_pos hlt] at hrc ⊢
    rw [ep, f50, f51]
    exact hrc
  · rw [if_neg hlt] at hrc ⊢
    rw [eK]
    rcases hrc with h | ⟨h1, h2⟩
    · exact Or.inl h
    · by_cases e : tcx (xn M) (xh M r') p' q' = tcx (xn M) x o q
      · obtain ⟨e1, e2, e3⟩ := tcx_i b4 b5 ho hq e
        by_cases hK : Kv M v x o q
        · rw [e1, e2, e3]; exact Or.inl hK
        · refine Or.inr ⟨o5 _ h1, ?_⟩
          have := hd hK (by rw [← e]; exact h1)
          rw [e] at h2 ⊢
          omega
      · rw [(o4 _ e).1, (o4 _ e).2]
        exact Or.inr ⟨o5 _ h1, h2⟩
theorem q_146 {mk : Nat} {M : Mg} {L H : T3} (hmk : mk = 59 ∨ mk = 61) (hMO : isO mk 5) (hM : Mok M) (hS : LHs M L H) {r p : Int} (r0 : 0 ≤ r) (r1 : r < xr M) (hp : iR (xn M) p) : ∀ (k d dd : Nat) (v : uS) (q c g : Int), (dd : Int) + k = xl M r → RIv M mk L H v → iR (xn M) q → wk M (Kv M v) L H r p dd q c g → c ≤ 8000000000000000000 → cV (d + k + 6) 146 [.ref 232, iV r, iV (dd : Int), iV p, iV q, lV c, iV g] v (fun w => RIv M mk L H w ∧ RF M v w ∧ rcM M v w ∧ P2 M L H v w ∧ (∀ (d' : Nat) (q' : Int), d' < dd → (d' : Int) < xl M r → iR (xn M) q' → smE M v w r d' p q') ∧ (c < 4000000000000000000 → (dd = 0 → 0 < xl M r → CI M L H w r 0 p q) ∧ (1 ≤ dd ∨ xl M r = 0 → rc M w r dd p q c g)))
  | k, d, dd, v, q, c, g, hk, hR, hq, hw, hU => by
    obtain ⟨m1, m2, m3, m4, m5, m6⟩ := id hM
    obtain ⟨a1, a2, a3, a4, a5, a6, a7, a8, a9⟩ := id hR
    obtain ⟨s1, s2, s3, s4, s5, s6, s7, s8, s9⟩ := id a1
    obtain ⟨l1, l2, l3, l4⟩ := m5 r r0 r1
    obtain ⟨nb1, nb2, nb3, nb4⟩ := nn_b m1 m4
    have hKF : ∀ x o b, Kv M v x o b → Fe M L x o b := fun x o b h => (a4 x o b h).1
    obtain ⟨w1, w2, w3⟩ := wk_b hS hKF _ _ _ _ hw
    have p0 := hp.1
    have p1 := hp.2
    have q0 := hq.1
    have q1 := hq.2
    generalize hQQ : (fun w : uS => RIv M mk L H w ∧ RF M v w ∧ rcM M v w ∧ P2 M L H v w ∧ (∀ (d' : Nat) (q' : Int), d' < dd → (d' : Int) < xl M r → iR (xn M) q' → smE M v w r d' p q') ∧ (c < 4000000000000000000 → (dd = 0 → 0 < xl M r → CI M L H w r 0 p q) ∧ (1 ≤ dd ∨ xl M r = 0 → rc M w r dd p q c g))) = Q
    have stay : (c < 4000000000000000000 → (dd = 0 → 0 < xl M r → CI M L H v r 0 p q) ∧ (1 ≤ dd ∨ xl M r = 0 → rc M v r dd p q c g)) → Q v := fun h => by
      rw [← hQQ]
      exact ⟨hR, RF_refl v, fun _ _ _ _ _ _ _ _ _ _ _ _ h => h, fun _ _ _ _ _ _ _ _ _ => Or.inl (Or.inr ⟨rfl, rfl⟩), fun _ _ _ _ _ => Or.inr ⟨rfl, rfl⟩, h⟩
    by_cases hcM : c < 4000000000000000000
    · refine e_146 (d := d + k + 3) ⟨⟨by omega, by omega⟩, ?_⟩
      rw [if_pos hcM, s1, show v.1 (6 + 3) = v.1 9 from rfl, show v.1 (6 + 2) = v.1 8 from rfl, s6, s5, s9]
      refine ⟨sx_6, r0, by omega, ⟨by omega, by omega⟩, ⟨by omega, by omega⟩, ?_⟩
      match k, hk with
      | 0, hk =>
        rw [if_neg (by omega)]
        have edd : (xl M r).toNat = dd := by omega
        have hsn : sndT M L H (Kv M v) (xh M r) p q c (g + 1) := ⟨r, g, r0, r1, rfl, by rw [edd]; exact hw, rfl, hcM⟩
        refine cV.mono (q_148 (d := d + 1) hmk hM hS hR l1 hp hq hsn) (by omega) (fun w ⟨z1, z2, z3, z4⟩ => ?_)
        obtain ⟨y1, y2, y3⟩ := OF_rc hR hp hq z2 z3 (fun hK hel => (z4 hK).2.2 hel)
        rw [← hQQ]
        refine ⟨z1, y1, y2, fun r' d' p' q' _ _ _ _ _ => Or.inl (y3 r' d' p' q'), fun d' q' _ _ _ => y3 r d' p q', fun _ => ⟨fun e0 e1 => by omega, fun _ => ?_⟩⟩
        unfold rc
        rw [if_neg (by omega), (RF_K y1).1]
        by_cases hK : Kv M v (xh M r) p q
        · exact Or.inl hK
        · exact Or.inr ⟨(z4 hK).1, (z4 hK).2.1⟩
      | k + 1, hk =>
        rw [if_pos (by omega)]
        have hd : (dd : Int) < xl M r := by omega
        -- all that follows
        have on : ∀ v' : uS, RIv M mk L H v' → RF M v v' → rcM M v v' → vl M v' r dd p q c g → (1 ≤ dd → rc M v' r dd p q c g) → (∀ (r' : Int) (d' : Nat) (p' q' : Int), 0 ≤ r' → r' < xr M → (d' : Int) < xl M r' → iR (xn M) p' → iR (xn M) q' → ¬ (r' = r ∧ d' = dd ∧ p' = p ∧ q' = q) → smE M v v' r' d' p' q') → K_146 (d + (k + 1) + 5) 75 [.ref 232, iV r, iV (dd : Int), iV p, iV q, lV c, .retAddr 0, iV g, .retAddr 0, .retAddr 0, .retAddr 0, .retAddr 0, .retAddr 0, .retAddr 0] [] v' Q := by
          intro v' hR' hF' hm' hv' hrc' hsm'
          obtain ⟨a1', a2', a3', a4', -⟩ := id hR'
          obtain ⟨s1', s2', s3', s4', s5', s6', s7', s8', s9'⟩ := id a1'
          obtain ⟨eK', -⟩ := RF_K hF'
          have hw' : wk M (Kv M v') L H r p dd q c g := by rw [eK']; exact hw
          have hsy := l4 dd (by omega) hd
          -- the end of it
          have fin : ∀ w : uS, RIv M mk L H w → RF M v' w → rcM M v' w → P2 M L H v' w → (∀ (d' : Nat) (q' : Int), d' < dd + 1 → (d' : Int) < xl M r → iR (xn M) q' → smE M v' w r d' p q') → (∀ q' c1 g1, iR (xn M) q' → stk M (Kv M v') L H (xy M r dd) q q' c1 g1 → c + c1 < 4000000000000000000 → rc M w r (dd + 1) p q' (c + c1) (max g g1)) → Q w := by
            intro w k1 k2 k3 k4 k5 k6
            have hsE := k5 dd q (by omega) hd hq
            have hCI : CI M L H w r dd p q := by
              intro c' g' hvl q' c1 g1 hq' hst hlt
              have hvl' : vl M v' r dd p q c' g' := by
                unfold vl at hvl ⊢
                by_cases e : dd = 0
                · rw [if_pos e] at hvl ⊢; exact hvl
                · rw [if_neg e] at hvl ⊢
                  rcases hsE with z | ⟨z1, z2⟩
                  · exact absurd z e
                  · rw [z1, z2] at hvl; exact hvl
              have ec : c' = c ∧ g' = g := by
                unfold vl at hvl' hv'
                by_cases e : dd = 0
                · rw [if_pos e] at hvl' hv'
                  omega
                · rw [if_neg e] at hvl' hv'
                  omega
              rw [ec.1] at hlt ⊢
              rw [ec.2]
              rw [(RF_K k2).1] at hst
              exact k6 q' c1 g1 hq' hst hlt
            rw [← hQQ]
            refine ⟨k1, RF_tr hF' k2, rcM_tr hm' k3, fun r' d' p' q' b0 b1 b2 b3 b4 => ?_, fun d' q' h1 h2 h3 => ?_, fun _ => ⟨fun e0 _ => by rw [e0] at hCI; exact hCI, fun h1 => ?_⟩⟩
            · by_cases e : r' = r ∧ d' = dd ∧ p' = p ∧ q' = q
              · obtain ⟨e1, e2, e3, e4⟩ := e
                rw [e1, e2, e3, e4]
                exact Or.inr hCI
              · rcases k4 r' d' p' q' b0 b1 b2 b3 b4 with z | z
                · exact Or.inl (smE_tr (hsm' r' d' p' q' b0 b1 b2 b3 b4 e) z)
                · exact Or.inr z
            · exact smE_tr (hsm' r d' p q' r0 r1 h2 hp h3 (by omega)) (k5 d' q' (by omega) h2 h3)
            · have h1' : 1 ≤ dd := by omega
              exact k3 r dd p q c g r0 r1 (by omega) (Or.inl h1') hp hq (hrc' h1')
          refine k_146_75 ?_
          rw [s1', show v'.1 (6 + 4) = v'.1 10 from rfl, s7']
          refine ⟨sx_6, by omega, by omega, by rcases hsy with z | z <;> exact ⟨by omega, by omega⟩, ?_⟩
          by_cases hlt : xy M r dd < 100
          · rw [if_pos hlt]
            have hs10 : 0 ≤ xy M r dd ∧ xy M r dd < 10 := by rcases hsy with z | z <;> omega
            rw [s2', s8']
            have hq2 := m6 q (xy M r dd) hq hs10.1 hs10.2
            refine ⟨hMO, by omega, by omega, ?_⟩
            have hwk : wk M (Kv M v') L H r p (dd + 1) (xd M q (xy M r dd)) (c + 1) g := by
              refine ⟨q, c, g, 1, 0, hq, hw', ?_, rfl, by omega⟩
              unfold stk
              rw [if_pos hlt]
              exact ⟨rfl, rfl, rfl⟩
            have ih := q_146 hmk hMO hM hS r0 r1 hp k d (dd + 1) v' (xd M q (xy M r dd)) (c + 1) g (by omega) hR' hq2 hwk (by omega)
            rw [Int.natCast_succ] at ih
            refine cV.mono ih (by omega) (fun w ⟨y1, y2, y3, y4, y5, y6⟩ => ?_)
            refine fin w y1 y2 y3 y4 (fun d' q' h1 h2 h3 => y5 d' q' (by omega) h2 h3) (fun q' c1 g1 hq' hst hlt' => ?_)
            unfold stk at hst
            rw [if_pos hlt] at hst
            rw [hst.1, hst.2.1, hst.2.2, show max g (0 : Int) = g by omega]
            rw [hst.2.1] at hlt'
            exact (y6 hlt').2 (Or.inl (by omega))
          · rw [if_neg hlt]
            have hx : iR (xv M) (xy M r dd - 100) := by
              rcases hsy with z | z
              · omega
              · exact ⟨by omega, by omega⟩
            have x0 := hx.1
            have x1 := hx.2
            refine ⟨by omega, by omega, ?_⟩
            generalize hy : xy M r dd - 100 = y at hx x0 x1
            have hrow := stB_F a2' hx hq
            -- one triple after the other
            have loop : ∀ (m : Nat) (X : Int) (z : uS), ct (bt X) 64 ≤ m → rL X → (∀ i, bt X i = true → bt (v'.1 247 (y * 40 + q)) i = true) → RIv M mk L H z → RF M v' z → rcM M v' z → P2 M L H v' z → (∀ (d' : Nat) (q' : Int), d' < dd + 1 → (d' : Int) < xl M r → iR (xn M) q' → smE M v' z r d' p q') → (∀ q', iR (xn M) q' → Kv M v' y q q' → bt X q'.toNat = false → c + L y q q' < 4000000000000000000 → rc M z r (dd + 1) p q' (c + L y q q') (max g (H y q q'))) → K_146 (d + (k + 1) + 5) 141 [.ref 232, iV r, iV (dd : Int), iV p, iV q, lV c, .retAddr 0, iV g, .retAddr 0, iV y, lV X, .retAddr 0, .retAddr 0, .retAddr 0] [] z Q := by
              intro m
              induction m with
              | zero =>
                intro X z hm hX hsub zR zF zm zP zs zc
                have hX0 : X = 0 := by
                  refine bt_ext hX ⟨by omega, by omega⟩ (fun i hi64 => ?_)
                  rw [bt_0]
                  cases hb : bt X i with
                  | false => rfl
                  | true =>
                    have := ct_lt (p := fun _ => false) (q := bt X) 64 (fun _ _ h => by cases h) ⟨i, hi64, rfl, hb⟩
                    omega
                refine k_146_141 ⟨hX, ?_⟩
                rw [if_pos hX0]
                refine fin z zR zF zm zP zs (fun q' c1 g1 hq' hst hlt' => ?_)
                unfold stk at hst
                rw [if_neg hlt, hy] at hst
                rw [hst.2.1, hst.2.2]
                rw [hst.2.1] at hlt'
                exact zc q' hq' hst.1 (by rw [hX0, bt_0]) hlt'
              | succ m ihm =>
                intro X z hm hX hsub zR zF zm zP zs zc
                refine k_146_141 ⟨hX, ?_⟩
                by_cases hX0 : X = 0
                · rw [if_pos hX0]
                  refine fin z zR zF zm zP zs (fun q' c1 g1 hq' hst hlt' => ?_)
                  unfold stk at hst
                  rw [if_neg hlt, hy] at hst
                  rw [hst.2.1, hst.2.2]
                  rw [hst.2.1] at hlt'
                  exact zc q' hq' hst.1 (by rw [hX0, bt_0]) hlt'
                · rw [if_neg hX0]
                  obtain ⟨t, t1, t2, t3, t4, t5⟩ := bits_ct hX hX0
                  obtain ⟨tn, tf⟩ := (hrow.2 t).mp (hsub t t3)
                  have tR : iR (xn M) (t : Int) := ⟨by omega, tn⟩
                  obtain ⟨b1, b2, b3, b4, -⟩ := id zR
                  obtain ⟨eKz, -⟩ := RF_K zF
                  have tfz : Kv M z y q t := by rw [eKz]; exact tf
                  obtain ⟨f1, f2, f3⟩ := b4 y q t tfz
                  rw [t2]
                  have e32 : z.1 232 2 = xn M := b1.2.2.2.2.2.2.2.2
                  rw [e32, show (y * (xn M : Int) + q) * (xn M : Int) + (t : Int) = tcx (xn M) y q t from rfl, f2, f3]
                  obtain ⟨-, -, c3, c4⟩ := tcx_b hx hq tR
                  have hHb : cB (L y q t) ∧ 1 ≤ H y q t ∧ H y q t ≤ 16000 := by
                    rcases hS.1 y q t hx hq tR with z0 | z0
                    · exact absurd z0 f1.2.2.2
                    · exact z0
                  refine ⟨c3, by omega, ⟨by omega, by omega⟩, ⟨by omega, by omega⟩, ?_⟩
                  have hwk : wk M (Kv M z) L H r p (dd + 1) t (c + L y q t) (max g (H y q t)) := by
                    refine ⟨q, c, g, _, _, hq, by rw [eKz]; exact hw', ?_, rfl, rfl⟩
                    unfold stk
                    rw [if_neg hlt, hy]
                    exact ⟨tfz, rfl, rfl⟩
                  have ih := q_146 hmk hMO hM hS r0 r1 hp k d (dd + 1) z t (c + L y q t) (max g (H y q t)) (by omega) zR tR hwk (by have := hHb.1.2; omega)
                  rw [Int.natCast_succ] at ih
                  refine cV.mono ih (by omega) (fun w ⟨y1, y2, y3, y4, y5, y6⟩ => ?_)
                  refine ihm _ w (by omega) (rl_land _ _) (fun i hi => ?_) y1 (RF_tr zF y2) (rcM_tr zm y3) (P2_tr y2 y3 zP y4) (fun d' q' h1 h2 h3 => smE_tr (zs d' q' h1 h2 h3) (y5 d' q' (by omega) h2 h3)) (fun q' hq' hKq hbq hlt' => ?_)
                  · rw [t4, Bool.and_eq_true] at hi
                    exact hsub i hi.1
                  · by_cases e : q'.toNat = t
                    · have eq : q' = t := by have := hq'.1; omega
                      rw [eq] at hlt' ⊢
                      exact (y6 hlt').2 (Or.inl (by omega))
                    · rw [t4] at hbq
                      refine y3 r (dd + 1) p q' _ _ r0 r1 (by omega) (Or.inl (by omega)) hp hq' (zc q' hq' hKq ?_ hlt')
                      simpa [e] using hbq
            refine loop 64 (v'.1 247 (y * 40 + q)) v' (ct_le _ 64) hrow.1 (fun i h => h) hR' (RF_refl v') (fun _ _ _ _ _ _ _ _ _ _ _ _ h => h) (fun _ _ _ _ _ _ _ _ _ => Or.inl (Or.inr ⟨rfl, rfl⟩)) (fun _ _ _ _ _ => Or.inr ⟨rfl, rfl⟩) (fun q' hq' hKq hbq => ?_)
            have := hKq.2.2.2
            rw [this] at hbq
            cases hbq
        by_cases hd0 : 0 < (dd : Int)
        · rw [if_pos hd0]
          have h1 : 1 ≤ dd := by omega
          obtain ⟨b1, b2, b3, b4⟩ := pcx_b hM a3 r0 r1 hp hq h1 hd
          have eix : v.1 252 r + (((dd : Int) - 1) * (xn M : Int) + p) * (xn M : Int) + q = pcx M v r dd p q := by
            show _ = v.1 252 r + (((((dd : Int) - 1) * (xn M : Int) + p) * (xn M : Int)) + q)
            omega
          rw [eix]
          have h50 := a9 r p q r0 r1 hp hq dd h1 hd
          refine ⟨b3, b4, ?_, ?_⟩
          · rcases h50 with z | ⟨z1, z2⟩
            · rw [z]; decide
            · have := wk_b hS hKF _ _ _ _ z1
              exact ⟨by omega, by omega⟩
          · have write : (∀ c' g', (v.1 250 (pcx M v r dd p q) < c' ∨ v.1 250 (pcx M v r dd p q) = c' ∧ v.1 251 (pcx M v r dd p q) ≤ g') → (c < c' ∨ c = c' ∧ g ≤ g')) → ∀ v1 : uS, v1 = wr v 250 (pcx M v r dd p q) c → ∀ v2 : uS, v2 = wr v1 251 (pcx M v r dd p q) g → K_146 (d + (k + 1) + 5) 75 [.ref 232, iV r, iV (dd : Int), iV p, iV q, lV c, .retAddr 0, iV g, .retAddr 0, .retAddr 0, .retAddr 0, .retAddr 0, .retAddr 0, .retAddr 0] [] v2 Q := by
              intro hle v1 e1 v2 e2
              obtain ⟨k1, k2, k3, k4, k5, k6⟩ := RIv_part hmk hM hR r0 r1 hp hq h1 hd hw hcM hle e1 e2
              exact on v2 k1 k2 k3 k4 (fun _ => k5) k6
            by_cases c1 : v.1 250 (pcx M v r dd p q) < c
            · rw [if_pos c1]
              refine stay (fun _ => ⟨fun e => by omega, fun _ => ?_⟩)
              unfold rc
              rw [if_pos hd]
              exact Or.inl c1
            · rw [if_neg c1]
              by_cases c2 : c = v.1 250 (pcx M v r dd p q)
              · rw [if_pos c2]
                have h51 : rI (v.1 251 (pcx M v r dd p q)) := by
                  rcases h50 with z | ⟨z1, z2⟩
                  · omega
                  · have := wk_b hS hKF _ _ _ _ z1
                    exact ⟨by omega, by omega⟩
                refine ⟨⟨by omega, by omega⟩, h51, ?_⟩
                by_cases c3 : g < v.1 251 (pcx M v r dd p q)
                · rw [if_pos c3]
                  exact write (fun c' g' h => by omega)
                · rw [if_neg c3]
                  refine stay (fun _ => ⟨fun e => by omega, fun _ => ?_⟩)
                  unfold rc
                  rw [if_pos hd]
                  exact Or.inr ⟨c2.symm, by omega⟩
              · rw [if_neg c2]
                exact write (fun c' g' h => by omega)
        · rw [if_neg hd0]
          have e0 : dd = 0 := by omega
          refine on v hR (RF_refl v) (fun _ _ _ _ _ _ _ _ _ _ _ _ h => h) ?_ (fun h => by omega) (fun _ _ _ _ _ _ _ _ _ _ => Or.inr ⟨rfl, rfl⟩)
          unfold vl
          rw [if_pos e0]
          rw [e0] at hw
          exact hw
    · refine e_146 (d := d + k + 3) ⟨?_, ?_⟩
      · exact ⟨by omega, by omega⟩
      · rw [if_neg hcM]
        exact stay (fun h => absurd h hcM)
