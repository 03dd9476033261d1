/-! Heights are small; lengths and heights are but one -/
theorem sq_mono {a b a' b' : Int} (h1 : a ≤ a') (h2 : b ≤ b') : sq a b ≤ sq a' b' := by
  unfold sq
  omega
theorem wy_sub {L H : Int → Int} {dl : Int → Int → Int} {l : Int → Int} {n nv : Nat} {p : Int} : ∀ (k : Nat), (∀ i : Nat, i < k → symR nv (l i)) → ∀ q c g, iR n q → wy L H dl l n p k q c g → g = 0 ∨ ∃ o x b, iR n o ∧ iR nv x ∧ iR n b ∧ L (tix o x b) ≠ 6000000000000000000 ∧ H (tix o x b) = g
  | 0, _, q, c, g, _, h => Or.inl h.2.2
  | k + 1, hs, q, c, g, hq, ⟨o, o0, o1, c', g', c1, g1, h1, h2, h3, h4⟩ => by
    have ih := wy_sub k (fun i hi => hs i (by omega)) o c' g' ⟨o0, o1⟩ h1
    have hsk := hs k (by omega)
    unfold stT at h2
    by_cases hl : l k < 100
    · rw [if_pos hl] at h2
      rcases ih with e | ⟨o', x', b', q1, q2, q3, q4, q5⟩
      · exact Or.inl (by omega)
      · by_cases e0 : 0 ≤ g'
        · exact Or.inr ⟨o', x', b', q1, q2, q3, q4, by omega⟩
        · exact Or.inl (by omega)
    · rw [if_neg hl] at h2
      have hx : iR nv (l k - 100) := by
        rcases hsk with z | z
        · omega
        · exact ⟨by omega, by omega⟩
      by_cases e : g' ≤ g1
      · exact Or.inr ⟨o, l k - 100, q, ⟨o0, o1⟩, hx, hq, h2.1, (by clear ih; have := h2.2.2; omega)⟩
      · rcases ih with e' | ⟨o', x', b', q1, q2, q3, q4, q5⟩
        · exact Or.inl (by omega)
        · exact Or.inr ⟨o', x', b', q1, q2, q3, q4, by omega⟩
theorem row_sy {u : uS} {nv nr n : Nat} {m r : Int} (hG : RGc u nv nr n m) (r0 : 0 ≤ r) (r1 : r < nr) : ∀ i : Nat, i < (u.1 276 r).toNat → symR nv (rwR u r i) := fun i hi => by
  obtain ⟨g1, g2, g3, g4, -⟩ := hG
  exact (g4 r r0 r1).2.2.2 i (by omega) (by omega)
/-- a height below the highest is made of one less -/
theorem H_step {u w : uS} {nv nr n : Nat} {m : Int} (hG : RGc u nv nr n m) (hF : FT u w nv nr n m) {p x q : Int} (hp : iR n p) (hx : iR nv x) (hq : iR n q) (hH : w.1 325 (tix p x q) ≠ 1000000) : ∃ r g : Int, 0 ≤ r ∧ r < nr ∧ u.1 275 r = x ∧ w.1 324 (tix p x q) ≠ 6000000000000000000 ∧ wy (w.1 324) (w.1 325) (dlR u m) (rwR u r) n p (u.1 276 r).toNat q (w.1 324 (tix p x q)) g ∧ w.1 325 (tix p x q) = g + 1 ∧ 0 ≤ g := by
  obtain ⟨f1, f2, f3, f4, f5, f6⟩ := hF
  obtain ⟨g1, g2, g3, g4, g5, g6, -⟩ := id hG
  rcases f4 p x q hp hx hq with e | ⟨r, g, r0, r1, rx, hL, hw, hle⟩
  · exact absurd e hH
  · have hR := wy_R f1 g6 _ (fun i hi => symR10 g1 (row_sy hG r0 r1 i hi)) q _ g hq hw
    have h1 : 0 ≤ tix p x q ∧ tix p x q < 16000 := tix_R ⟨hp.1, by have := hp.2; omega⟩ ⟨hx.1, by have := hx.2; omega⟩ ⟨hq.1, by have := hq.2; omega⟩
    have h2 := (f1 _ h1.1 h1.2).2
    have h3 := h2.2
    have h4 := f5 r p q g r0 r1 hp hq (by rw [rx]; exact hw) (by omega)
    rw [rx] at h4
    exact ⟨r, g, r0, r1, rx, hL, hw, by omega, hR.2.1⟩
theorem H_pig {u w : uS} {nv nr n : Nat} {m : Int} (hG : RGc u nv nr n m) (hF : FT u w nv nr n m) {p x q : Int} (hp : iR n p) (hx : iR nv x) (hq : iR n q) (hH : w.1 325 (tix p x q) < 1000000) : 1 ≤ w.1 325 (tix p x q) ∧ w.1 325 (tix p x q) ≤ 16000 := by
  obtain ⟨g1, g2, g3, g4, g5, g6, -⟩ := id hG
  have hpos : 1 ≤ w.1 325 (tix p x q) := by
    obtain ⟨r, g, -, -, -, -, -, e, g0⟩ := H_step hG hF hp hx hq (by omega)
    omega
  refine ⟨hpos, ?_⟩
  generalize hK : (w.1 325 (tix p x q)).toNat = K
  -- all lesser heights are there
  have down : ∀ j : Nat, j < K → ∃ p x q : Int, iR n p ∧ iR nv x ∧ iR n q ∧ w.1 325 (tix p x q) = (K : Int) - j := by
    intro j
    induction j with
    | zero => intro _; exact ⟨p, x, q, hp, hx, hq, by omega⟩
    | succ j ih =>
      intro hj
      obtain ⟨p', x', q', hp', hx', hq', e⟩ := ih (by omega)
      obtain ⟨r, g, r0, r1, rx, hL, hw, e', g0⟩ := H_step hG hF hp' hx' hq' (by omega)
      rcases wy_sub _ (row_sy hG r0 r1) q' _ g hq' hw with z | ⟨o, y, b, q1, q2, q3, q4, q5⟩
      · omega
      · exact ⟨o, y, b, q1, q2, q3, by omega⟩
  have cnt : ∀ v : Nat, v ≤ K → v ≤ ct (fun i => decide (w.1 325 (i : Int) ≤ (v : Int))) 16000 := by
    intro v
    induction v with
    | zero => intro _; omega
    | succ v ih =>
      intro hv
      have h1 := ih (by omega)
      obtain ⟨p', x', q', hp', hx', hq', e⟩ := down (K - (v + 1)) (by omega)
      have hr : 0 ≤ tix p' x' q' ∧ tix p' x' q' < 16000 := tix_R ⟨hp'.1, by have := hp'.2; omega⟩ ⟨hx'.1, by have := hx'.2; omega⟩ ⟨hq'.1, by have := hq'.2; omega⟩
      have := ct_lt (p := fun i => decide (w.1 325 (i : Int) ≤ (v : Int))) (q := fun i => decide (w.1 325 (i : Int) ≤ ((v + 1 : Nat) : Int))) 16000 (fun i _ hi => by
        have := of_decide_eq_true hi
        exact decide_eq_true (by omega)) ⟨(tix p' x' q').toNat, by omega, by
        rw [show (((tix p' x' q').toNat : Nat) : Int) = tix p' x' q' by omega]
        exact decide_eq_false (by omega), by
        rw [show (((tix p' x' q').toNat : Nat) : Int) = tix p' x' q' by omega]
        exact decide_eq_true (by omega)⟩
      omega
  have h2 := cnt K (Nat.le_refl _)
  have h3 := ct_le (fun i => decide (w.1 325 (i : Int) ≤ (K : Int))) 16000
  omega
theorem wyS_c {S : Int → Int → Int → Int → Prop} {dl : Int → Int → Int} {l : Int → Int} {n nv : Nat} {p : Int} (hS : ∀ o x q c, iR n o → iR nv x → iR n q → S o x q c → cB c) : ∀ (k : Nat), (∀ i : Nat, i < k → symR nv (l i)) → ∀ q c, iR n q → wyS S dl l n p k q c → cB c
  | 0, _, q, c, _, h => by rw [h.2]; exact cB0
  | k + 1, hs, q, c, hq, ⟨o, c', c1, o0, o1, h1, h2, h3⟩ => by
    have ih := wyS_c hS k (fun i hi => hs i (by omega)) o c' ⟨o0, o1⟩ h1
    have hsk := hs k (by omega)
    rw [h3]
    unfold stS at h2
    by_cases hl : l k < 100
    · rw [if_pos hl] at h2
      rw [h2.2]
      exact sq_R ih cB1
    · rw [if_neg hl] at h2
      refine sq_R ih (hS _ _ _ _ ⟨o0, o1⟩ ?_ hq h2)
      rcases hsk with z | z
      · omega
      · exact ⟨by omega, by omega⟩
/-- the ways of a set, against the least lengths -/
theorem wyS_low {L H : Int → Int} {B : Int} {dl : Int → Int → Int} {l : Int → Int} {n nv : Nat} {p : Int} {S : Int → Int → Int → Int → Prop} (hB : 0 ≤ B) (hS : ∀ o x q c, iR n o → iR nv x → iR n q → S o x q c → cB c ∧ 0 ≤ L (tix o x q) ∧ L (tix o x q) ≤ c ∧ (c = L (tix o x q) → c < 4000000000000000000 → H (tix o x q) ≤ B)) : ∀ (k : Nat), (∀ i : Nat, i < k → symR nv (l i)) → ∀ q c, iR n q → wyS S dl l n p k q c → ∃ c' g, wy L H dl l n p k q c' g ∧ 0 ≤ c' ∧ c' ≤ c ∧ (c < 4000000000000000000 → c' = c → g ≤ B)
  | 0, _, q, c, _, h => ⟨0, 0, ⟨h.1, rfl, rfl⟩, by omega, by rw [h.2]; omega, fun _ _ => hB⟩
  | k + 1, hs, q, c, hq, ⟨o, c', c1, o0, o1, h1, h2, h3⟩ => by
    obtain ⟨cL, g, w1, w0, w2, w3⟩ := wyS_low hB hS k (fun i hi => hs i (by omega)) o c' ⟨o0, o1⟩ h1
    have hsk := hs k (by omega)
    unfold stS at h2
    by_cases hl : l k < 100
    · rw [if_pos hl] at h2
      refine ⟨sq cL 1, max g 0, ⟨o, o0, o1, cL, g, 1, 0, w1, ?_, rfl, rfl⟩, by unfold sq; omega, ?_, fun hc he => ?_⟩
      · unfold stT
        rw [if_pos hl]
        exact ⟨h2.1, rfl, rfl⟩
      · rw [h3, h2.2]
        exact sq_mono w2 (Int.le_refl _)
      · rw [h3, h2.2] at hc he
        unfold sq at hc he
        have := w3 (by omega) (by omega)
        omega
    · rw [if_neg hl] at h2
      have hx : iR nv (l k - 100) := by
        rcases hsk with z | z
        · omega
        · exact ⟨by omega, by omega⟩
      obtain ⟨s1, s2, s3, s4⟩ := hS _ _ _ _ ⟨o0, o1⟩ hx hq h2
      have s12 := s1.2
      refine ⟨sq cL (L (tix o (l k - 100) q)), max g (H (tix o (l k - 100) q)), ⟨o, o0, o1, cL, g, L (tix o (l k - 100) q), H (tix o (l k - 100) q), w1, ?_, rfl, rfl⟩, by unfold sq; omega, ?_, fun hc he => ?_⟩
      · unfold stT
        rw [if_neg hl]
        exact ⟨by omega, rfl, rfl⟩
      · rw [h3]
        exact sq_mono w2 s3
      · rw [h3] at hc he
        unfold sq at hc he
        have := w3 (by omega) (by omega)
        have := s4 (by omega) (by omega)
        omega
theorem wyS_all {L H : Int → Int} {B : Int} {dl : Int → Int → Int} {l : Int → Int} {n nv : Nat} {p : Int} {S : Int → Int → Int → Int → Prop} (hB : 0 ≤ B) (hS : ∀ o x q c, iR n o → iR nv x → iR n q → S o x q c → cB c ∧ 0 ≤ L (tix o x q) ∧ L (tix o x q) ≤ c ∧ H (tix o x q) ≤ B) : ∀ (k : Nat), (∀ i : Nat, i < k → symR nv (l i)) → ∀ q c, iR n q → wyS S dl l n p k q c → ∃ c' g, wy L H dl l n p k q c' g ∧ 0 ≤ c' ∧ c' ≤ c ∧ g ≤ B
  | 0, _, q, c, _, h => ⟨0, 0, ⟨h.1, rfl, rfl⟩, by omega, by rw [h.2]; omega, hB⟩
  | k + 1, hs, q, c, hq, ⟨o, c', c1, o0, o1, h1, h2, h3⟩ => by
    obtain ⟨cL, g, w1, w0, w2, w3⟩ := wyS_all hB hS k (fun i hi => hs i (by omega)) o c' ⟨o0, o1⟩ h1
    have hsk := hs k (by omega)
    unfold stS at h2
    by_cases hl : l k < 100
    · rw [if_pos hl] at h2
      refine ⟨sq cL 1, max g 0, ⟨o, o0, o1, cL, g, 1, 0, w1, ?_, rfl, rfl⟩, by unfold sq; omega, ?_, by omega⟩
      · unfold stT
        rw [if_pos hl]
        exact ⟨h2.1, rfl, rfl⟩
      · rw [h3, h2.2]
        exact sq_mono w2 (Int.le_refl _)
    · rw [if_neg hl] at h2
      have hx : iR nv (l k - 100) := by
        rcases hsk with z | z
        · omega
        · exact ⟨by omega, by omega⟩
      obtain ⟨s1, s2, s3, s4⟩ := hS _ _ _ _ ⟨o0, o1⟩ hx hq h2
      have s12 := s1.2
      refine ⟨sq cL (L (tix o (l k - 100) q)), max g (H (tix o (l k - 100) q)), ⟨o, o0, o1, cL, g, L (tix o (l k - 100) q), H (tix o (l k - 100) q), w1, ?_, rfl, rfl⟩, by unfold sq; omega, ?_, by omega⟩
      · unfold stT
        rw [if_neg hl]
        exact ⟨by omega, rfl, rfl⟩
      · rw [h3]
        exact sq_mono w2 s3
theorem H_fin {u w : uS} {nv nr n : Nat} {m : Int} (hG : RGc u nv nr n m) (hF : FT u w nv nr n m) {p x q : Int} (hp : iR n p) (hx : iR nv x) (hq : iR n q) (hL : w.1 324 (tix p x q) ≠ 6000000000000000000) : cB (w.1 324 (tix p x q)) ∧ 1 ≤ w.1 325 (tix p x q) ∧ w.1 325 (tix p x q) ≤ 16000 := by
  obtain ⟨f1, f2, f3, f4, f5, f6⟩ := id hF
  obtain ⟨g1, g2, g3, g4, g5, g6, -⟩ := id hG
  have tR : ∀ p x q, iR n p → iR nv x → iR n q → 0 ≤ tix p x q ∧ tix p x q < 16000 := fun p x q hp hx hq => tix_R ⟨hp.1, by have := hp.2; omega⟩ ⟨hx.1, by have := hx.2; omega⟩ ⟨hq.1, by have := hq.2; omega⟩
  have hLn : ∀ p x q, iR n p → iR nv x → iR n q → 0 ≤ w.1 324 (tix p x q) := fun p x q hp hx hq => by
    have := tR p x q hp hx hq
    exact (okL_nn f1 this.1 this.2).1
  have pig := fun p x q (hp : iR n p) (hx : iR nv x) (hq : iR n q) (h : w.1 325 (tix p x q) < 1000000) => H_pig hG hF hp hx hq h
  -- below the most
  have small : ∀ p x q c, iR n p → iR nv x → iR n q → dr u nr n m p x q c → cB c ∧ w.1 324 (tix p x q) ≤ c ∧ (c = w.1 324 (tix p x q) → c < 4000000000000000000 → w.1 325 (tix p x q) < 1000000) := by
    intro p x q c hp hx hq hd
    refine hd (fun p x q c => iR n p → iR nv x → iR n q → cB c ∧ w.1 324 (tix p x q) ≤ c ∧ (c = w.1 324 (tix p x q) → c < 4000000000000000000 → w.1 325 (tix p x q) < 1000000)) (fun r p q c r0 r1 hp hq hw hp' hx' hq' => ?_) hp hx hq
    have hsy := row_sy hG r0 r1
    have hw' : wyS (fun o x q c => iR n o → iR nv x → iR n q → cB c ∧ w.1 324 (tix o x q) ≤ c ∧ (c = w.1 324 (tix o x q) → c < 4000000000000000000 → w.1 325 (tix o x q) < 1000000)) (dlR u m) (rwR u r) n p (u.1 276 r).toNat q c := hw
    have hc := wyS_c (nv := nv) (fun o x q c ho hx hq h => (h ho hx hq).1) _ hsy q c hq hw'
    obtain ⟨c', g, k1, k0, k2, k3⟩ := wyS_low (L := w.1 324) (H := w.1 325) (B := 16000) (nv := nv) (by omega) (fun o x q c ho hx hq h => by
      obtain ⟨s1, s2, s3⟩ := h ho hx hq
      exact ⟨s1, hLn o x q ho hx hq, s2, fun e1 e2 => (pig o x q ho hx hq (s3 e1 e2)).2⟩) _ hsy q c hq hw'
    have hle := f3 r p q c' g r0 r1 hp hq k1
    refine ⟨hc, by omega, fun e1 e2 => ?_⟩
    have hg := k3 e2 (by omega)
    have hR := (wy_R f1 g6 _ (fun i hi => symR10 g1 (hsy i hi)) q c' g hq k1).2.1
    have := f5 r p q g r0 r1 hp hq (by rw [show w.1 324 (tix p (u.1 275 r) q) = c' by omega]; exact k1) (by omega)
    omega
  have all : ∀ p x q c, iR n p → iR nv x → iR n q → dr u nr n m p x q c → cB c ∧ w.1 324 (tix p x q) ≤ c ∧ w.1 325 (tix p x q) < 1000000 := by
    intro p x q c hp hx hq hd
    refine hd (fun p x q c => iR n p → iR nv x → iR n q → cB c ∧ w.1 324 (tix p x q) ≤ c ∧ w.1 325 (tix p x q) < 1000000) (fun r p q c r0 r1 hp hq hw hp' hx' hq' => ?_) hp hx hq
    have hsy := row_sy hG r0 r1
    have hw' : wyS (fun o x q c => iR n o → iR nv x → iR n q → cB c ∧ w.1 324 (tix o x q) ≤ c ∧ w.1 325 (tix o x q) < 1000000) (dlR u m) (rwR u r) n p (u.1 276 r).toNat q c := hw
    have hc := wyS_c (nv := nv) (fun o x q c ho hx hq h => (h ho hx hq).1) _ hsy q c hq hw'
    obtain ⟨c', g, k1, k0, k2, k3⟩ := wyS_all (L := w.1 324) (H := w.1 325) (B := 16000) (nv := nv) (by omega) (fun o x q c ho hx hq h => by
      obtain ⟨s1, s2, s3⟩ := h ho hx hq
      exact ⟨s1, hLn o x q ho hx hq, s2, (pig o x q ho hx hq s3).2⟩) _ hsy q c hq hw'
    have hle := f3 r p q c' g r0 r1 hp hq k1
    have hc2 := hc.2
    refine ⟨hc, by omega, ?_⟩
    by_cases hM : w.1 324 (tix p (u.1 275 r) q) < 4000000000000000000
    · -- it has a derivation of its least length
      have ht := tR p (u.1 275 r) q hp hx' hq
      obtain ⟨p', x', q', a1, a2, a3, a4, a5⟩ := f2 _ ht.1 ht.2 (by omega)
      obtain ⟨e1, e2, e3⟩ := tix_inj (o := p) (x := u.1 275 r) (q := q) (o' := p') (x' := x') (q' := q') ⟨hx'.1, by have := hx'.2; omega⟩ ⟨hq.1, by have := hq.2; omega⟩ ⟨a2.1, by have := a2.2; omega⟩ ⟨a3.1, by have := a3.2; omega⟩ a4
      rw [← e1, ← e2, ← e3] at a5
      exact (small p (u.1 275 r) q _ hp hx' hq a5).2.2 rfl hM
    · -- all ways are as long as the most
      have := f5 r p q g r0 r1 hp hq (by rw [show w.1 324 (tix p (u.1 275 r) q) = c' by omega]; exact k1) (by omega)
      omega
  have ht := tR p x q hp hx hq
  obtain ⟨p', x', q', a1, a2, a3, a4, a5⟩ := f2 _ ht.1 ht.2 hL
  obtain ⟨e1, e2, e3⟩ := tix_inj (o := p) (x := x) (q := q) (o' := p') (x' := x') (q' := q') ⟨hx.1, by have := hx.2; omega⟩ ⟨hq.1, by have := hq.2; omega⟩ ⟨a2.1, by have := a2.2; omega⟩ ⟨a3.1, by have := a3.2; omega⟩ a4
  rw [← e1, ← e2, ← e3] at a5
  obtain ⟨b1, b2, b3⟩ := all p x q _ hp hx hq a5
  exact ⟨b1, pig p x q hp hx hq b3⟩
theorem wy_leL {L L' H H' : Int → Int} {dl : Int → Int → Int} {l : Int → Int} {n nv : Nat} {p : Int} (hL : ∀ o x q, iR n o → iR nv x → iR n q → L (tix o x q) = L' (tix o x q)) (hH : ∀ o x q, iR n o → iR nv x → iR n q → L (tix o x q) ≠ 6000000000000000000 → H (tix o x q) = H' (tix o x q)) : ∀ (k : Nat), (∀ i : Nat, i < k → symR nv (l i)) → ∀ q c g, iR n q → wy L H dl l n p k q c g → wy L' H' dl l n p k q c g
  | 0, _, q, c, g, _, h => h
  | k + 1, hs, q, c, g, hq, ⟨o, o0, o1, c', g', c1, g1, h1, h2, h3, h4⟩ => by
    refine ⟨o, o0, o1, c', g', c1, g1, wy_leL hL hH k (fun i hi => hs i (by omega)) o c' g' ⟨o0, o1⟩ h1, ?_, h3, h4⟩
    have hsk := hs k (by omega)
    unfold stT at h2 ⊢
    by_cases hl : l k < 100
    · rw [if_pos hl] at h2 ⊢
      exact h2
    · rw [if_neg hl] at h2 ⊢
      have hx : iR nv (l k - 100) := by
        rcases hsk with z | z
        · omega
        · exact ⟨by omega, by omega⟩
      rw [← hL o _ q ⟨o0, o1⟩ hx hq, ← hH o _ q ⟨o0, o1⟩ hx hq h2.1]
      exact h2
/-- lengths are but one -/
theorem FT_L {u w w' : uS} {nv nr n : Nat} {m : Int} (hG : RGc u nv nr n m) (hF : FT u w nv nr n m) (hF' : FT u w' nv nr n m) {p x q : Int} (hp : iR n p) (hx : iR nv x) (hq : iR n q) : w.1 324 (tix p x q) ≤ w'.1 324 (tix p x q) := by
  obtain ⟨f1, f2, f3, f4, f5, f6⟩ := id hF
  obtain ⟨f1', f2', f3', f4', f5', f6'⟩ := id hF'
  obtain ⟨g1, g2, g3, g4, g5, g6, -⟩ := id hG
  have tR : ∀ p x q, iR n p → iR nv x → iR n q → 0 ≤ tix p x q ∧ tix p x q < 16000 := fun p x q hp hx hq => tix_R ⟨hp.1, by have := hp.2; omega⟩ ⟨hx.1, by have := hx.2; omega⟩ ⟨hq.1, by have := hq.2; omega⟩
  have ht := tR p x q hp hx hq
  by_cases hL : w'.1 324 (tix p x q) = 6000000000000000000
  · rw [hL]
    exact (okL_nn f1 ht.1 ht.2).2.1
  · obtain ⟨p', x', q', a1, a2, a3, a4, a5⟩ := f2' _ ht.1 ht.2 hL
    obtain ⟨e1, e2, e3⟩ := tix_inj (o := p) (x := x) (q := q) (o' := p') (x' := x') (q' := q') ⟨hx.1, by have := hx.2; omega⟩ ⟨hq.1, by have := hq.2; omega⟩ ⟨a2.1, by have := a2.2; omega⟩ ⟨a3.1, by have := a3.2; omega⟩ a4
    rw [← e1, ← e2, ← e3] at a5
    refine (a5 (fun p x q c => iR n p → iR nv x → iR n q → cB c ∧ w.1 324 (tix p x q) ≤ c) (fun r p q c r0 r1 hp hq hw hp' hx' hq' => ?_) hp hx hq).2
    have hsy := row_sy hG r0 r1
    have hw' : wyS (fun p x q c => iR n p → iR nv x → iR n q → cB c ∧ w.1 324 (tix p x q) ≤ c) (dlR u m) (rwR u r) n p (u.1 276 r).toNat q c := hw
    have hc := wyS_c (nv := nv) (fun o x q c ho hx hq h => (h ho hx hq).1) _ hsy q c hq hw'
    obtain ⟨c', g, k1, k0, k2, -⟩ := wyS_all (L := w.1 324) (H := fun _ => 0) (B := 0) (nv := nv) (by omega) (fun o x q c ho hx hq h => by
      have := tR o x q ho hx hq
      exact ⟨(h ho hx hq).1, (okL_nn f1 this.1 this.2).1, (h ho hx hq).2, Int.le_refl _⟩) _ hsy q c hq hw'
    obtain ⟨g', k3⟩ := wy_any (H' := w.1 325) _ _ _ _ k1
    have := f3 r p q c' g' r0 r1 hp hq k3
    exact ⟨hc, by omega⟩
theorem FT_eq {u w w' : uS} {nv nr n : Nat} {m : Int} (hG : RGc u nv nr n m) (hF : FT u w nv nr n m) (hF' : FT u w' nv nr n m) {p x q : Int} (hp : iR n p) (hx : iR nv x) (hq : iR n q) : w.1 324 (tix p x q) = w'.1 324 (tix p x q) := by
  have h1 := FT_L hG hF hF' hp hx hq
  have h2 := FT_L hG hF' hF hp hx hq
  omega
/-- so are heights -/
theorem FT_H {u w w' : uS} {nv nr n : Nat} {m : Int} (hG : RGc u nv nr n m) (hF : FT u w nv nr n m) (hF' : FT u w' nv nr n m) : ∀ (k : Nat) (p x q : Int), iR n p → iR nv x → iR n q → w.1 324 (tix p x q) ≠ 6000000000000000000 → w.1 325 (tix p x q) ≤ k → w'.1 325 (tix p x q) ≤ w.1 325 (tix p x q)
  | 0, p, x, q, hp, hx, hq, hL, hk => by
    have := (H_fin hG hF hp hx hq hL).2.1
    omega
  | k + 1, p, x, q, hp, hx, hq, hL, hk => by
    obtain ⟨g1, g2, g3, g4, g5, g6, -⟩ := id hG
    have hfin := H_fin hG hF hp hx hq hL
    obtain ⟨r, g, r0, r1, rx, -, hw, e, g0⟩ := H_step hG hF hp hx hq (by omega)
    have hsy := row_sy hG r0 r1
    -- the same way, no higher
    have low : ∀ (j : Nat), (∀ i : Nat, i < j → symR nv (rwR u r i)) → ∀ b c h, iR n b → wy (w.1 324) (w.1 325) (dlR u m) (rwR u r) n p j b c h → h ≤ k → ∃ h', h' ≤ h ∧ wy (w'.1 324) (w'.1 325) (dlR u m) (rwR u r) n p j b c h' := by
      intro j
      induction j with
      | zero => intro _ b c h _ hh _; exact ⟨h, Int.le_refl _, hh⟩
      | succ j ih =>
        intro hs b c h hb ⟨o, o0, o1, c', g', c1, g1, h1, h2, h3, h4⟩ hhk
        obtain ⟨h', l1, l2⟩ := ih (fun i hi => hs i (by omega)) o c' g' ⟨o0, o1⟩ h1 (by omega)
        have hsk := hs j (by omega)
        unfold stT at h2
        by_cases hl : rwR u r j < 100
        · rw [if_pos hl] at h2
          refine ⟨max h' g1, by omega, o, o0, o1, c', h', c1, g1, l2, ?_, h3, rfl⟩
          unfold stT
          rw [if_pos hl]
          exact h2
        · rw [if_neg hl] at h2
          have hy : iR nv (rwR u r j - 100) := by
            rcases hsk with z | z
            · omega
            · exact ⟨by omega, by omega⟩
          have hle := FT_H hG hF hF' k o _ b ⟨o0, o1⟩ hy hb h2.1 (by omega)
          have heq := FT_eq hG hF hF' (p := o) (x := rwR u r j - 100) (q := b) ⟨o0, o1⟩ hy hb
          refine ⟨max h' (w'.1 325 (tix o (rwR u r j - 100) b)), by omega, o, o0, o1, c', h', c1, _, l2, ?_, h3, rfl⟩
          unfold stT
          rw [if_neg hl, ← heq]
          exact ⟨h2.1, h2.2.1, rfl⟩
    obtain ⟨g', l1, l2⟩ := low _ hsy q _ g hq hw (by omega)
    have heq := FT_eq hG hF hF' hp hx hq
    have := hF'.2.2.2.2.1 r p q g' r0 r1 hp hq (by rw [rx, ← heq]; exact l2) (by omega)
    rw [rx] at this
    omega
theorem FT_Heq {u w w' : uS} {nv nr n : Nat} {m : Int} (hG : RGc u nv nr n m) (hF : FT u w nv nr n m) (hF' : FT u w' nv nr n m) {p x q : Int} (hp : iR n p) (hx : iR nv x) (hq : iR n q) (hL : w.1 324 (tix p x q) ≠ 6000000000000000000) : w.1 325 (tix p x q) = w'.1 325 (tix p x q) := by
  have heq := FT_eq hG hF hF' hp hx hq
  have h1 := FT_H hG hF hF' (w.1 325 (tix p x q)).toNat p x q hp hx hq hL (by omega)
  have h2 := FT_H hG hF' hF (w'.1 325 (tix p x q)).toNat p x q hp hx hq (by rw [← heq]; exact hL) (by omega)
  omega
