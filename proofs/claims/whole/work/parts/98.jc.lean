/-! The search: ways through known triples -/
abbrev Mg : Type := Nat × Nat × Nat × (Int → Int) × (Int → Int) × (Int → Int → Int) × (Int → Int → Int)
abbrev xv (M : Mg) : Nat := M.1
abbrev xr (M : Mg) : Nat := M.2.1
abbrev xn (M : Mg) : Nat := M.2.2.1
abbrev xh (M : Mg) : Int → Int := M.2.2.2.1
abbrev xl (M : Mg) : Int → Int := M.2.2.2.2.1
abbrev xy (M : Mg) : Int → Int → Int := M.2.2.2.2.2.1
abbrev xd (M : Mg) : Int → Int → Int := M.2.2.2.2.2.2
def Mok (M : Mg) : Prop := xv M ≤ 10 ∧ xr M ≤ 30 ∧ 1 ≤ xn M ∧ xn M ≤ 40 ∧ (∀ r : Int, 0 ≤ r → r < xr M → iR (xv M) (xh M r) ∧ 0 ≤ xl M r ∧ xl M r ≤ 6 ∧ ∀ k, 0 ≤ k → k < xl M r → symR (xv M) (xy M r k)) ∧ ∀ o s, iR (xn M) o → 0 ≤ s → s < 10 → iR (xn M) (xd M o s)
abbrev T3 : Type := Int → Int → Int → Int
abbrev P3 : Type := Int → Int → Int → Prop
def stk (M : Mg) (K : P3) (L H : T3) (s o q c g : Int) : Prop := if s < 100 then q = xd M o s ∧ c = 1 ∧ g = 0 else K (s - 100) o q ∧ c = L (s - 100) o q ∧ g = H (s - 100) o q
def wk (M : Mg) (K : P3) (L H : T3) (r p : Int) : Nat → Int → Int → Int → Prop
  | 0 => fun q c g => q = p ∧ c = 0 ∧ g = 0
  | k + 1 => fun q c g => ∃ o c' g' c1 g1, iR (xn M) o ∧ wk M K L H r p k o c' g' ∧ stk M K L H (xy M r k) o q c1 g1 ∧ c = c' + c1 ∧ g = max g' g1
def Fe (M : Mg) (L : T3) : P3 := fun x o q => iR (xv M) x ∧ iR (xn M) o ∧ iR (xn M) q ∧ L x o q ≠ 6000000000000000000
/-- least lengths, and the heights that go with them -/
def LHs (M : Mg) (L H : T3) : Prop := (∀ x o q, iR (xv M) x → iR (xn M) o → iR (xn M) q → L x o q = 6000000000000000000 ∨ (cB (L x o q) ∧ 1 ≤ H x o q ∧ H x o q ≤ 16000)) ∧ (∀ r p q c g : Int, 0 ≤ r → r < xr M → iR (xn M) p → iR (xn M) q → wk M (Fe M L) L H r p (xl M r).toNat q c g → L (xh M r) p q ≤ min 4000000000000000000 c ∧ (L (xh M r) p q = min 4000000000000000000 c → H (xh M r) p q ≤ g + 1)) ∧ ∀ x p q : Int, Fe M L x p q → ∃ r c g : Int, 0 ≤ r ∧ r < xr M ∧ xh M r = x ∧ wk M (Fe M L) L H r p (xl M r).toNat q c g ∧ min 4000000000000000000 c = L x p q ∧ g + 1 = H x p q
theorem wk_mono {M : Mg} {K K' : P3} {L H : T3} {r p : Int} (h : ∀ x o q, K x o q → K' x o q) : ∀ (k : Nat) (q c g : Int), wk M K L H r p k q c g → wk M K' L H r p k q c g
  | 0, _, _, _, w => w
  | k + 1, q, c, g, ⟨o, c', g', c1, g1, h1, h2, h3, h4, h5⟩ => by
    refine ⟨o, c', g', c1, g1, h1, wk_mono h k o c' g' h2, ?_, h4, h5⟩
    unfold stk at h3 ⊢
    split
    · next e => rw [if_pos e] at h3; exact h3
    · next e => rw [if_neg e] at h3; exact ⟨h _ _ _ h3.1, h3.2⟩
theorem wk_b {M : Mg} {L H : T3} {r p : Int} (hS : LHs M L H) {K : P3} (hK : ∀ x o q, K x o q → Fe M L x o q) : ∀ (k : Nat) (q c g : Int), wk M K L H r p k q c g → 0 ≤ c ∧ 0 ≤ g ∧ g ≤ 16000
  | 0, q, c, g, h => by
    obtain ⟨h1, h2, h3⟩ := h
    omega
  | k + 1, q, c, g, ⟨o, c', g', c1, g1, h1, h2, h3, h4, h5⟩ => by
    have ih := wk_b hS hK k o c' g' h2
    unfold stk at h3
    by_cases e : xy M r k < 100
    · rw [if_pos e] at h3
      omega
    · rw [if_neg e] at h3
      obtain ⟨a1, a2, a3, a4⟩ := hK _ _ _ h3.1
      rcases hS.1 _ _ _ a1 a2 a3 with z | ⟨z1, z2, z3⟩
      · exact absurd z a4
      · have := z1.1
        have e2 := h3.2.1
        have e3 := h3.2.2
        omega
/-- what is less high on a way -/
theorem wk_low {M : Mg} {K : P3} {L H : T3} {r p B : Int} : ∀ (k : Nat) (q c g : Int), wk M K L H r p k q c g → g ≤ B → wk M (fun x o b => K x o b ∧ H x o b ≤ B) L H r p k q c g
  | 0, _, _, _, w, _ => w
  | k + 1, q, c, g, ⟨o, c', g', c1, g1, h1, h2, h3, h4, h5⟩, hB => by
    refine ⟨o, c', g', c1, g1, h1, wk_low k o c' g' h2 (by omega), ?_, h4, h5⟩
    unfold stk at h3 ⊢
    split
    · next e => rw [if_pos e] at h3; exact h3
    · next e => rw [if_neg e] at h3; exact ⟨⟨h3.1, by rw [← h3.2.2]; omega⟩, h3.2⟩
/-- a way through some triples: all in a set, or one of them outside, no longer and no higher -/
theorem wk_or {M : Mg} {L H : T3} {r p : Int} (hS : LHs M L H) {F K : P3} (hF : ∀ x o q, F x o q → Fe M L x o q) : ∀ (k : Nat) (q c g : Int), wk M F L H r p k q c g → wk M (fun x o q => F x o q ∧ K x o q) L H r p k q c g ∨ ∃ x o b, F x o b ∧ ¬ K x o b ∧ L x o b ≤ c ∧ H x o b ≤ g
  | 0, q, c, g, h => Or.inl h
  | k + 1, q, c, g, ⟨o, c', g', c1, g1, h1, h2, h3, h4, h5⟩ => by
    have hb := wk_b hS hF k o c' g' h2
    rcases wk_or hS hF (K := K) k o c' g' h2 with w | ⟨x, o', b, q1, q2, q3, q4⟩
    · unfold stk at h3
      by_cases e : xy M r k < 100
      · rw [if_pos e] at h3
        refine Or.inl ⟨o, c', g', c1, g1, h1, w, ?_, h4, h5⟩
        unfold stk
        rw [if_pos e]
        exact h3
      · rw [if_neg e] at h3
        by_cases hk : K (xy M r k - 100) o q
        · refine Or.inl ⟨o, c', g', c1, g1, h1, w, ?_, h4, h5⟩
          unfold stk
          rw [if_neg e]
          exact ⟨⟨h3.1, hk⟩, h3.2⟩
        · refine Or.inr ⟨_, _, _, h3.1, hk, ?_, ?_⟩
          · rw [← h3.2.1]; omega
          · rw [← h3.2.2]; omega
    · refine Or.inr ⟨x, o', b, q1, q2, ?_, by omega⟩
      have : 0 ≤ c1 := by
        unfold stk at h3
        by_cases e : xy M r k < 100
        · rw [if_pos e] at h3; omega
        · rw [if_neg e] at h3
          obtain ⟨a1, a2, a3, a4⟩ := hF _ _ _ h3.1
          rcases hS.1 _ _ _ a1 a2 a3 with z | ⟨z1, z2, z3⟩
          · exact absurd z a4
          · have := z1.1
            have e2 := h3.2.1
            omega
      omega
/-- of what isn't known one has a way through known ones -/
theorem wk_next {M : Mg} {L H : T3} (hS : LHs M L H) {K : P3} : ∀ (k : Nat) (x p q : Int), Fe M L x p q → ¬ K x p q → H x p q ≤ k → ∃ x' p' q', Fe M L x' p' q' ∧ ¬ K x' p' q' ∧ L x' p' q' ≤ L x p q ∧ H x' p' q' ≤ H x p q ∧ ∃ r c g : Int, 0 ≤ r ∧ r < xr M ∧ xh M r = x' ∧ wk M (fun x o q => Fe M L x o q ∧ K x o q) L H r p' (xl M r).toNat q' c g ∧ min 4000000000000000000 c = L x' p' q' ∧ g + 1 = H x' p' q'
  | 0, x, p, q, hf, hk, h0 => by
    rcases hS.1 x p q hf.1 hf.2.1 hf.2.2.1 with z | z
    · exact absurd z hf.2.2.2
    · omega
  | k + 1, x, p, q, hf, hk, h0 => by
    obtain ⟨r, c, g, r0, r1, rx, hw, hc, hg⟩ := hS.2.2 x p q hf
    rcases wk_or hS (K := K) (fun _ _ _ h => h) _ _ _ _ hw with w | ⟨y, o, b, q1, q2, q3, q4⟩
    · exact ⟨x, p, q, hf, hk, Int.le_refl _, Int.le_refl _, r, c, g, r0, r1, rx, w, hc, hg⟩
    · obtain ⟨x', p', q', a1, a2, a3, a4, a5⟩ := wk_next hS (K := K) k y o b q1 q2 (by omega)
      refine ⟨x', p', q', a1, a2, ?_, by omega, a5⟩
      have hM : L y o b ≤ 4000000000000000000 := by
        rcases hS.1 y o b q1.1 q1.2.1 q1.2.2.1 with z | z
        · exact absurd z q1.2.2.2
        · exact z.1.2
      omega
def mOf (u : uS) (mk nv nr n : Nat) : Mg := (nv, nr, n, u.1 8, u.1 9, lrw u, dlt u mk)
def L3 (w : uS) : T3 := fun x o q => w.1 324 (tix o x q)
def H3 (w : uS) : T3 := fun x o q => w.1 325 (tix o x q)
theorem Mok_of {u : uS} {nv nr n mk : Nat} (hG : GMc u nv nr n mk) : Mok (mOf u mk nv nr n) := by
  obtain ⟨g1, g2, g3, g4, g5, g6, g7, g8, g9⟩ := hG
  exact ⟨g1, g2, g6, g7, g5, g9⟩
theorem wk_wy {u w : uS} {nv nr n mk : Nat} {m r p : Int} (hG : GMc u nv nr n mk) (hE : sideE u nr n mk m) (hF : FT u w nv nr n m) (r0 : 0 ≤ r) (r1 : r < nr) : ∀ (k : Nat), (k : Int) ≤ u.1 9 r → ∀ q c g, iR n q → wk (mOf u mk nv nr n) (Fe (mOf u mk nv nr n) (L3 w)) (L3 w) (H3 w) r p k q c g → 0 ≤ c ∧ wy (w.1 324) (w.1 325) (dlR u m) (rwR u r) n p k q (min 4000000000000000000 c) g
  | 0, _, q, c, g, _, h => by
    obtain ⟨h1, h2, h3⟩ := h
    exact ⟨by omega, h1, by omega, h3⟩
  | k + 1, hk, q, c, g, hq, ⟨o, c', g', c1, g1, h1, h2, h3, h4, h5⟩ => by
    obtain ⟨ih0, ih⟩ := wk_wy hG hE hF r0 r1 k (by omega) o c' g' h1 h2
    have er : rwR u r k = lrw u r k := ((hE.1 r r0 r1).2.2 k (by omega) (by omega))
    have hs : symR nv (lrw u r k) := (hG.2.2.2.2.1 r r0 r1).2.2.2 k (by omega) (by omega)
    have h3' : stk (mOf u mk nv nr n) (Fe (mOf u mk nv nr n) (L3 w)) (L3 w) (H3 w) (lrw u r k) o q c1 g1 := h3
    unfold stk at h3'
    have fin : 0 ≤ c1 → stT (w.1 324) (w.1 325) (dlR u m) (rwR u r k) o q c1 g1 → 0 ≤ c ∧ wy (w.1 324) (w.1 325) (dlR u m) (rwR u r) n p (k + 1) q (min 4000000000000000000 c) g := fun h0 hst => by
      refine ⟨by omega, o, h1.1, h1.2, _, _, c1, g1, ih, hst, ?_, h5⟩
      unfold sq
      omega
    by_cases e : lrw u r k < 100
    · rw [if_pos e] at h3'
      have hs' : 0 ≤ lrw u r k ∧ lrw u r k < 10 := by rcases hs with z | z <;> omega
      refine fin (by omega) ?_
      unfold stT
      rw [er, if_pos e]
      refine ⟨?_, h3'.2⟩
      rw [h3'.1]
      exact (hE.2 o _ h1 hs'.1 hs'.2).symm
    · rw [if_neg e] at h3'
      obtain ⟨a1, a2, a3, a4⟩ := h3'.1
      have a1' : iR nv (lrw u r k - 100) := a1
      have b1 := a1'.1
      have b2 := a1'.2
      have b3 := h1.1
      have b4 : o < n := h1.2
      have b5 := hq.1
      have b6 := hq.2
      have n1 := hG.1
      have n2 := hG.2.2.2.2.2.2.1
      have ht := tix_R (o := o) (x := lrw u r k - 100) (q := q) ⟨b3, by omega⟩ ⟨b1, by omega⟩ ⟨b5, by omega⟩
      have hn := (okL_nn hF.1 ht.1 ht.2).1
      have e2 : c1 = w.1 324 (tix o (lrw u r k - 100) q) := h3'.2.1
      refine fin (by rw [e2]; exact hn) ?_
      unfold stT
      rw [er, if_neg e]
      exact ⟨a4, h3'.2⟩
theorem wy_wk {u w : uS} {nv nr n mk : Nat} {m r p : Int} (hG : GMc u nv nr n mk) (hE : sideE u nr n mk m) (hF : FT u w nv nr n m) (r0 : 0 ≤ r) (r1 : r < nr) : ∀ (k : Nat), (k : Int) ≤ u.1 9 r → ∀ q c g, iR n q → wy (w.1 324) (w.1 325) (dlR u m) (rwR u r) n p k q c g → ∃ c', 0 ≤ c' ∧ c = min 4000000000000000000 c' ∧ wk (mOf u mk nv nr n) (Fe (mOf u mk nv nr n) (L3 w)) (L3 w) (H3 w) r p k q c' g
  | 0, _, q, c, g, _, h => ⟨0, by omega, by rw [h.2.1]; omega, h.1, rfl, h.2.2⟩
  | k + 1, hk, q, c, g, hq, ⟨o, o0, o1, c', g', c1, g1, h1, h2, h3, h4⟩ => by
    obtain ⟨cc, ih0, ih1, ih2⟩ := wy_wk hG hE hF r0 r1 k (by omega) o c' g' ⟨o0, o1⟩ h1
    have er : rwR u r k = lrw u r k := ((hE.1 r r0 r1).2.2 k (by omega) (by omega))
    have hs : symR nv (lrw u r k) := (hG.2.2.2.2.1 r r0 r1).2.2.2 k (by omega) (by omega)
    unfold stT at h2
    rw [er] at h2
    have fin : 0 ≤ c1 → stk (mOf u mk nv nr n) (Fe (mOf u mk nv nr n) (L3 w)) (L3 w) (H3 w) (lrw u r k) o q c1 g1 → ∃ c', 0 ≤ c' ∧ c = min 4000000000000000000 c' ∧ wk (mOf u mk nv nr n) (Fe (mOf u mk nv nr n) (L3 w)) (L3 w) (H3 w) r p (k + 1) q c' g := fun h0 hst => by
      refine ⟨cc + c1, by omega, ?_, o, cc, g', c1, g1, ⟨o0, o1⟩, ih2, hst, rfl, h4⟩
      rw [h3, ih1]
      unfold sq
      omega
    by_cases e : lrw u r k < 100
    · rw [if_pos e] at h2
      have hs' : 0 ≤ lrw u r k ∧ lrw u r k < 10 := by rcases hs with z | z <;> omega
      refine fin (by omega) ?_
      unfold stk
      rw [if_pos e]
      refine ⟨?_, h2.2⟩
      rw [h2.1]
      exact hE.2 o _ ⟨o0, o1⟩ hs'.1 hs'.2
    · rw [if_neg e] at h2
      have hx : iR nv (lrw u r k - 100) := by
        rcases hs with z | z
        · omega
        · exact ⟨by omega, by omega⟩
      have ht := tix_R (o := o) (x := lrw u r k - 100) (q := q) ⟨o0, by have := hG.2.2.2.2.2.2.1; omega⟩ ⟨hx.1, by have := hx.2; have := hG.1; omega⟩ ⟨hq.1, by have := hq.2; have := hG.2.2.2.2.2.2.1; omega⟩
      have hn := (okL_nn hF.1 ht.1 ht.2).1
      refine fin (by rw [h2.2.1]; exact hn) ?_
      unfold stk
      rw [if_neg e]
      exact ⟨⟨hx, ⟨o0, o1⟩, hq, h2.1⟩, h2.2⟩
theorem LHs_of {u w : uS} {nv nr n mk : Nat} {m : Int} (hG : GMc u nv nr n mk) (hR : RGc u nv nr n m) (hE : sideE u nr n mk m) (hF : FT u w nv nr n m) : LHs (mOf u mk nv nr n) (L3 w) (H3 w) := by
  have hl : ∀ r : Int, 0 ≤ r → r < nr → (u.1 276 r).toNat = (u.1 9 r).toNat := fun r r0 r1 => by rw [(hE.1 r r0 r1).2.1]
  refine ⟨fun x o q hx ho hq => ?_, fun r p q c g r0 r1 hp hq hw => ?_, fun x p q hf => ?_⟩
  · by_cases e : w.1 324 (tix o x q) = 6000000000000000000
    · exact Or.inl e
    · exact Or.inr (H_fin hR hF ho hx hq e)
  · have hlen := (hG.2.2.2.2.1 r r0 r1).2.1
    obtain ⟨c0, hw'⟩ := wk_wy hG hE hF r0 r1 _ (by show (((u.1 9 r).toNat : Nat) : Int) ≤ u.1 9 r; omega) q c g hq hw
    have e75 : u.1 275 r = u.1 8 r := (hE.1 r r0 r1).1
    have hw2 : wy (w.1 324) (w.1 325) (dlR u m) (rwR u r) n p (u.1 276 r).toNat q (min 4000000000000000000 c) g := by rw [hl r r0 r1]; exact hw'
    have h1 := hF.2.2.1 r p q _ g r0 r1 hp hq hw2
    rw [e75] at h1
    refine ⟨h1, fun e => ?_⟩
    have e' : w.1 324 (tix p (u.1 8 r) q) = min 4000000000000000000 c := e
    have hb := wy_R hF.1 hG.2.2.2.2.2.2.1 _ (fun i hi => symR10 hG.1 (row_sy hR r0 r1 i hi)) q _ g hq hw2
    by_cases hg : g + 1 ≤ 1000000
    · have := hF.2.2.2.2.1 r p q g r0 r1 hp hq (by rw [e75, e']; exact hw2) hg
      rw [e75] at this
      exact this
    · have hx : iR nv (u.1 8 r) := (hG.2.2.2.2.1 r r0 r1).1
      have := (H_fin hR hF hp hx hq (by rw [e']; omega)).2.2
      show w.1 325 (tix p (u.1 8 r) q) ≤ g + 1
      omega
  · obtain ⟨hx, hp, hq, hL⟩ := hf
    have hfin := H_fin hR hF hp hx hq hL
    obtain ⟨r, g, r0, r1, rx, -, hw, e, g0⟩ := H_step hR hF hp hx hq (by omega)
    have hlen := (hG.2.2.2.2.1 r r0 r1).2.1
    rw [hl r r0 r1] at hw
    obtain ⟨c', c0, ec, hw'⟩ := wy_wk hG hE hF r0 r1 _ (by omega) q _ g hq hw
    exact ⟨r, c', g, r0, r1, by rw [← rx]; exact (hE.1 r r0 r1).1.symm, hw', ec.symm, e.symm⟩
