/-! findTriples; the fertile triples are those with a length -/
def FT (u w : uS) (nv nr n : Nat) (m : Int) : Prop := okL (w.1 324) (w.1 325) ∧ drL u nv nr n m (w.1 324) ∧ clL u nr n m (w.1 324) (w.1 325) ∧ atH u nv nr n m (w.1 324) (w.1 325) ∧ clH u nr n m (w.1 324) (w.1 325) ∧ ∀ r p q : Int, 0 ≤ r → r < nr → iR n p → iR n q → entR u n m w r p q
theorem q_269 {d nv nr n : Nat} {u : uS} {m : Int} (hG : RGc u nv nr n m) : cV (d + 6) 269 [.ref 271, iV m] u (fun w => w.2 = u.2 ∧ sb1 u w fT ∧ FT u w nv nr n m) := by
  obtain ⟨g1, g2, g3, g4, g5, g6, g7, g8, g9⟩ := id hG
  have hm0 : 0 ≤ m ∧ m < 100 := by rcases g8 with z | z <;> rw [z] <;> omega
  refine e_269 (d := d + 5) ⟨hm0.1, hm0.2, ?_⟩
  rw [g7]
  -- the heights begin
  have second : ∀ (k : Nat) (j : Int) (v : uS), 0 ≤ j → j + k = 16000 → v.2 = u.2 → sb1 u v fT → (∀ i : Int, 0 ≤ i → i < 16000 → lR (v.1 324 i)) → drL u nv nr n m (v.1 324) → (∀ H, clL u nr n m (v.1 324) H) → (∀ i : Int, 0 ≤ i → i < j → v.1 325 i = 1000000) → K_269 (d + 5) 47 [.ref 271, iV m, iV n, iV j] [] v (fun w => w.2 = u.2 ∧ sb1 u w fT ∧ FT u w nv nr n m) := by
    intro k
    induction k with
    | zero =>
      intro j v j0 je v2 vs vl vd vc vh
      refine k_269_47 (d := d + 5) ⟨⟨by omega, by omega⟩, ?_⟩
      rw [if_neg (by omega)]
      have hJ : Jv u nv nr n m 1 (v.1 324) (v.1 325) := by
        refine ⟨fun i i0 i1 => ⟨vl i i0 i1, ?_⟩, vd, fun _ => ⟨vc _, fun p x q hp hx hq => Or.inl ?_⟩⟩
        · rw [vh i i0 (by omega)]; exact ⟨by omega, by omega⟩
        · have h1 := hp.1
          have h2 := hp.2
          have h3 := hx.1
          have h4 := hx.2
          have h5 := hq.1
          have h6 := hq.2
          have ht := tix_R (o := p) (x := x) (q := q) ⟨h1, by omega⟩ ⟨h3, by omega⟩ ⟨h5, by omega⟩
          exact vh _ ht.1 (by omega)
      refine cV.mono (q_270 (d := d) hG (Or.inr rfl) v2 vs hJ) (Nat.le_refl _) (fun w ⟨w2, ws, wJ, wE⟩ => ⟨w2, ws, wJ.1, wJ.2.1, (wJ.2.2 rfl).1, (wJ.2.2 rfl).2, fun r p q g r0 r1 hp hq w hg => ((wE r p r0 r1 hp) q hq).2.1 rfl g w hg, fun r p q r0 r1 hp hq => ((wE r p r0 r1 hp) q hq).2.2⟩)
    | succ k ih =>
      intro j v j0 je v2 vs vl vd vc vh
      refine k_269_47 (d := d + 5) ⟨⟨by omega, by omega⟩, ?_⟩
      rw [if_pos (by omega)]
      refine ⟨j0, fun w e => ?_⟩
      have w4 : w.1 324 = v.1 324 := by rw [e, wr_ne (by omega)]
      refine ih (j + 1) w (by omega) (by omega) (by rw [e, wr_2, v2]) (by rw [e]; exact sb1_wr vs (by decide)) (by rw [w4]; exact vl) (by rw [w4]; exact vd) (by rw [w4]; exact vc) (fun i i0 i1 => ?_)
      rw [e, wr_1]
      split
      · rfl
      · next z => exact vh i i0 (by omega)
  have first : ∀ (k : Nat) (j : Int) (v : uS), 0 ≤ j → j + k = 16000 → v.2 = u.2 → sb1 u v fT → (∀ i : Int, 0 ≤ i → i < j → v.1 324 i = 6000000000000000000 ∧ v.1 325 i = 0) → K_269 (d + 5) 9 [.ref 271, iV m, iV n, iV j] [] v (fun w => w.2 = u.2 ∧ sb1 u w fT ∧ FT u w nv nr n m) := by
    intro k
    induction k with
    | zero =>
      intro j v j0 je v2 vs vl
      refine k_269_9 (d := d + 5) ⟨⟨by omega, by omega⟩, ?_⟩
      rw [if_neg (by omega)]
      have hJ : Jv u nv nr n m 0 (v.1 324) (v.1 325) := by
        refine ⟨fun i i0 i1 => ?_, fun i i0 i1 hne => absurd (vl i i0 (by omega)).1 hne, fun h => absurd h (by decide)⟩
        rw [(vl i i0 (by omega)).1, (vl i i0 (by omega)).2]
        exact ⟨Or.inr rfl, by omega, by omega⟩
      refine cV.mono (q_270 (d := d) hG (Or.inl rfl) v2 vs hJ) (Nat.le_refl _) (fun w ⟨w2, ws, wJ, wE⟩ => ?_)
      refine second 16000 0 w (Int.le_refl 0) (by omega) w2 ws (fun i i0 i1 => (wJ.1 i i0 i1).1) wJ.2.1 (fun H r p q c g r0 r1 hp hq way => ?_) (fun i i0 i1 => by omega)
      obtain ⟨g', way'⟩ := wy_any (H' := w.1 325) _ _ _ _ way
      exact ((wE r p r0 r1 hp) q hq).1 rfl c g' way'
    | succ k ih =>
      intro j v j0 je v2 vs vl
      refine k_269_9 (d := d + 5) ⟨⟨by omega, by omega⟩, ?_⟩
      rw [if_pos (by omega)]
      refine ⟨j0, fun w4 e4 w6 e6 => ?_⟩
      refine ih (j + 1) w6 (by omega) (by omega) (by rw [e6, wr_2, e4, wr_2, v2]) ?_ (fun i i0 i1 => ?_)
      · rw [e6]
        refine sb1_wr ?_ (by decide)
        rw [e4]
        exact sb1_wr vs (by decide)
      · by_cases e : i = j
        · rw [e, e6, wr_self, wr_ne (by omega), e4, wr_self]
          exact ⟨rfl, rfl⟩
        · have := vl i i0 (by omega)
          rw [e6, wr_ne (by omega), e4, wr_1, if_neg (by omega), wr_1, if_neg (by omega), wr_ne (by omega)]
          exact this
  exact first 16000 0 u (Int.le_refl 0) (by omega) rfl (sb1_refl _ _) (fun i i0 i1 => by omega)
/-- both sides have one grammar and one machine -/
def sideE (u : uS) (nr n mk : Nat) (m : Int) : Prop := (∀ r : Int, 0 ≤ r → r < nr → u.1 275 r = u.1 8 r ∧ u.1 276 r = u.1 9 r ∧ ∀ k, 0 ≤ k → k < u.1 9 r → u.1 277 (6 * r + k) = u.1 10 (r * 6 + k)) ∧ ∀ s c, iR n s → 0 ≤ c → c < 10 → u.1 302 (400 * m + 10 * s + c) = u.1 (mk + 1) (s * 10 + c)
theorem fol_wy {u w : uS} {nv nr n mk : Nat} {m r p : Int} {S : Int → Int → Int → Prop} (hE : sideE u nr n mk m) (hr0 : 0 ≤ r) (hr1 : r < nr) (hsy : ∀ k, 0 ≤ k → k < u.1 9 r → symR nv (u.1 10 (r * 6 + k))) (hS : ∀ x o q, S x o q → w.1 324 (tix o x q) ≠ 6000000000000000000) : ∀ (k : Nat), (k : Int) ≤ u.1 9 r → ∀ q, fol S (dlt u mk) (lrw u r) n p k q → ∃ c g, wy (w.1 324) (w.1 325) (dlR u m) (rwR u r) n p k q c g
  | 0, _, q, h => ⟨0, 0, h, rfl, rfl⟩
  | k + 1, hk, q, ⟨o, ho, h1, h2⟩ => by
    obtain ⟨c, g, w1⟩ := fol_wy hE hr0 hr1 hsy hS k (by omega) o h1
    have er : rwR u r k = lrw u r k := ((hE.1 r hr0 hr1).2.2 k (by omega) (by omega))
    have hs := hsy k (by omega) (by omega)
    by_cases z : lrw u r k < 100
    · rw [if_pos z] at h2
      have z' : lrw u r k < 10 ∧ 0 ≤ lrw u r k := by
        have hs' : symR nv (lrw u r k) := hs
        rcases hs' with y | y <;> omega
      refine ⟨_, _, o, ho.1, ho.2, c, g, 1, 0, w1, ?_, rfl, rfl⟩
      unfold stT
      rw [er, if_pos z]
      refine ⟨?_, rfl, rfl⟩
      rw [← h2]
      exact (hE.2 o _ ho z'.2 z'.1).symm
    · rw [if_neg z] at h2
      refine ⟨sq c (w.1 324 (tix o (lrw u r k - 100) q)), max g (w.1 325 (tix o (lrw u r k - 100) q)), o, ho.1, ho.2, c, g, w.1 324 (tix o (lrw u r k - 100) q), w.1 325 (tix o (lrw u r k - 100) q), w1, ?_, rfl, rfl⟩
      unfold stT
      rw [er, if_neg z]
      exact ⟨hS _ _ _ h2, rfl, rfl⟩
theorem wyS_fol {u : uS} {nv nr n mk : Nat} {m r p : Int} {S : Int → Int → Int → Prop} (hE : sideE u nr n mk m) (hr0 : 0 ≤ r) (hr1 : r < nr) (hsy : ∀ k, 0 ≤ k → k < u.1 9 r → symR nv (u.1 10 (r * 6 + k))) : ∀ (k : Nat), (k : Int) ≤ u.1 9 r → ∀ q c, wyS (fun o x q _ => S x o q) (dlR u m) (rwR u r) n p k q c → fol S (dlt u mk) (lrw u r) n p k q
  | 0, _, q, c, h => h.1
  | k + 1, hk, q, c, ⟨o, c', c1, o0, o1, h1, h2, h3⟩ => by
    refine ⟨o, ⟨o0, o1⟩, wyS_fol hE hr0 hr1 hsy k (by omega) o c' h1, ?_⟩
    have er : rwR u r k = lrw u r k := ((hE.1 r hr0 hr1).2.2 k (by omega) (by omega))
    have hs := hsy k (by omega) (by omega)
    unfold stS at h2
    rw [er] at h2
    by_cases z : lrw u r k < 100
    · rw [if_pos z] at h2 ⊢
      have z' : lrw u r k < 10 ∧ 0 ≤ lrw u r k := by
        have hs' : symR nv (lrw u r k) := hs
        rcases hs' with y | y <;> omega
      rw [h2.1]
      exact (hE.2 o _ ⟨o0, o1⟩ z'.2 z'.1).symm
    · rw [if_neg z] at h2 ⊢
      exact h2
theorem fer_iff {u w : uS} {a nv nr n mk : Nat} {m : Int} (hG : GMc u nv nr n mk) (hE : sideE u nr n mk m) (hP : ferP u a mk nv nr n) (hF : FT u w nv nr n m) : ∀ x o q, iR nv x → iR n o → iR n q → (Fg nv n (u.1 (a + 1)) x o q ↔ w.1 324 (tix o x q) ≠ 6000000000000000000) := by
  obtain ⟨g1, g2, g3, g4, g5, g6, g7, g8, g9⟩ := id hG
  obtain ⟨f1, f2, f3⟩ := hP
  obtain ⟨t1, t2, t3, t4, t5, t6⟩ := hF
  intro x o q hx ho hq
  have a1 := hx.1
  have a2 := hx.2
  have a3 := ho.1
  have a4 := ho.2
  have a5 := hq.1
  have a6 := hq.2
  constructor
  · intro h
    have hcl : clS u nr n mk (fun x o q => w.1 324 (tix o x q) ≠ 6000000000000000000) := by
      intro r p q r0 r1 hp hq' hf
      obtain ⟨x1, x2, x3, x4⟩ := g5 r r0 r1
      obtain ⟨e1, e2, e3⟩ := hE.1 r r0 r1
      obtain ⟨c, g, way⟩ := fol_wy (w := w) hE r0 r1 x4 (fun _ _ _ h => h) (u.1 9 r).toNat (by omega) q hf
      rw [← e2] at way
      have hle := t3 r p q c g r0 r1 hp hq' way
      have hsy : ∀ i : Nat, i < (u.1 276 r).toNat → symR 10 (rwR u r i) := fun i hi => by
        have := e3 i (by omega) (by omega)
        show symR 10 (u.1 277 (6 * r + i))
        rw [this]
        exact symR10 g1 (x4 i (by omega) (by omega))
      have hc := (wy_R t1 g7 _ hsy q c g hq' way).1
      unfold cB at hc
      rw [e1] at hle
      show w.1 324 (tix p (u.1 8 r) q) ≠ 6000000000000000000
      omega
    exact f3 _ hcl x o q h
  · intro h
    have ht := tix_R (o := o) (x := x) (q := q) ⟨a3, by omega⟩ ⟨a1, by omega⟩ ⟨a5, by omega⟩
    obtain ⟨p', x', q', b1, b2, b3, b4, b5⟩ := t2 _ ht.1 ht.2 h
    have c1 := b2.1
    have c2 := b2.2
    have c3 := b3.1
    have c4 := b3.2
    obtain ⟨e1, e2, e3⟩ := tix_inj ⟨a1, by omega⟩ ⟨a5, by omega⟩ ⟨c1, by omega⟩ ⟨c3, by omega⟩ b4
    have := b5 (fun o x q _ => Fg nv n (u.1 (a + 1)) x o q) (fun r p q c r0 r1 hp hq' way => by
      obtain ⟨x1, x2, x3, x4⟩ := g5 r r0 r1
      obtain ⟨k1, k2, k3⟩ := hE.1 r r0 r1
      rw [k2] at way
      have := wyS_fol (S := Fg nv n (u.1 (a + 1))) hE r0 r1 x4 (u.1 9 r).toNat (by omega) q c way
      show Fg nv n (u.1 (a + 1)) (u.1 275 r) p q
      rw [k1]
      exact f2 r p q r0 r1 hp hq' this)
    rw [← e1, ← e2, ← e3] at this
    exact this
