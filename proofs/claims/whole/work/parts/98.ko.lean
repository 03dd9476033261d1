/-! The witness on both sides -/
def sV (M : Mg) (L H : T3) (v : uS) : Prop := v.1 255 1 = xr M ∧ (∀ r : Int, 0 ≤ r → r < xr M → v.1 257 r = xh M r ∧ v.1 258 r = xl M r ∧ ∀ k : Int, 0 ≤ k → k < xl M r → v.1 259 (r * 6 + k) = xy M r k) ∧ v.1 232 2 = xn M ∧ okF (xv M) (xn M) (v.1 247) ∧ rgt M L H v
theorem sV_of {M : Mg} {mk : Nat} {L H : T3} {v : uS} (h : sW M mk L H v) : sV M L H v := ⟨h.2.1, h.2.2.1, h.2.2.2.2.1, h.2.2.2.2.2.1, h.2.2.2.2.2.2⟩
def WX (u : uS) : Prop := ∃ (M : Mg) (L H : T3) (s : Nat) (b : Int), Mok M ∧ LHs M L H ∧ sV M L H u ∧ OD M L H u s ∧ u.1 232 3 = b ∧ Kv M u 0 0 b ∧ u.1 271 74 = tix 0 0 b ∧ u.1 271 75 = b ∧ (∀ r : Int, 0 ≤ r → r < xr M → u.1 337 r = xl M r ∧ ∀ k : Int, 0 ≤ k → k < xl M r → u.1 338 (6 * r + k) = xy M r k) ∧ ∃ T : P3, T 0 0 b ∧ ∀ x p q, T x p q → Kv M u x p q ∧ ∃ r S, CHc M L H u x p q r S ∧ CHr M L H u x p q r S ∧ (∀ k : Nat, k < (xl M r).toNat → ¬ xy M r k < 100 → T (xy M r k - 100) (S k) (S (k + 1))) ∧ u.1 268 (tcx (xn M) x p q) = u.1 333 (tix p x q) ∧ u.1 268 (tcx (xn M) x p q) = nsz M (u.1 268) r S (xl M r).toNat ∧ 1 ≤ u.1 268 (tcx (xn M) x p q) ∧ u.1 268 (tcx (xn M) x p q) ≤ 4000000000000000000
def invX (u : uS) : Prop := (∀ t, 0 ≤ t → t < 16000 → cB (u.1 333 t)) ∧ ((u.1 231 0 = 0 ∧ u.1 271 73 = 0) ∨ (u.1 231 0 = 1 ∧ u.1 271 73 = 1 ∧ WX u))
theorem nsz_R {M : Mg} {N N' : Int → Int} {r : Int} {S : Nat → Int} : ∀ k : Nat, (∀ i : Nat, i < k → ¬ xy M r i < 100 → N (sbx M r S i) = N' (tpx M r S i)) → nsz M N r S k = nszR M N' r S k
  | 0, _ => rfl
  | k + 1, h => by
    unfold nsz nszR
    rw [nsz_R k (fun i hi => h i (by omega))]
    by_cases e : xy M r k < 100
    · rw [if_pos e, if_pos e]
    · rw [if_neg e, if_neg e, h k (by omega) e]
theorem nszR_S {M : Mg} {N : Int → Int} {r : Int} {S S' : Nat → Int} : ∀ k : Nat, (∀ i : Nat, i ≤ k → S i = S' i) → nszR M N r S k = nszR M N r S' k
  | 0, _ => rfl
  | k + 1, h => by
    unfold nszR tpx
    rw [nszR_S k (fun i hi => h i (by omega)), h k (by omega), h (k + 1) (Nat.le_refl _)]
theorem WX_mk {M : Mg} {L H L' H' : T3} {s : Nat} {b : Int} {u : uS} (hM : Mok M) (hS : LHs M L H) (hA : agr M L' H' L H) (hV : sV M L H u) (hO : OD M L H u s) (hb : u.1 232 3 = b) (hk : Kv M u 0 0 b) (h74 : u.1 271 74 = tix 0 0 b) (h75 : u.1 271 75 = b) (hr : ∀ r : Int, 0 ≤ r → r < xr M → u.1 337 r = xl M r ∧ ∀ k : Int, 0 ≤ k → k < xl M r → u.1 338 (6 * r + k) = xy M r k) (hC : HLD M L H b u) (hR : RLD M L' H' b u) : WX u := by
  obtain ⟨T1, a0, a1⟩ := hC
  obtain ⟨T2, b0, b1⟩ := hR
  -- what both chose
  have both : ∀ x p q, T1 x p q → T2 x p q → ∃ r S, Kv M u x p q ∧ CHc M L H u x p q r S ∧ CHr M L H u x p q r S ∧ (∀ k : Nat, k < (xl M r).toNat → ¬ xy M r k < 100 → T1 (xy M r k - 100) (S k) (S (k + 1)) ∧ T2 (xy M r k - 100) (S k) (S (k + 1))) ∧ u.1 268 (tcx (xn M) x p q) = nsz M (u.1 268) r S (xl M r).toNat ∧ 1 ≤ u.1 268 (tcx (xn M) x p q) ∧ u.1 268 (tcx (xn M) x p q) ≤ 4000000000000000000 ∧ u.1 333 (tix p x q) = nszR M (u.1 333) r S (xl M r).toNat := fun x p q h1 h2 => by
    obtain ⟨hk1, r, S, c1, c2, c3, c4, c5⟩ := a1 x p q h1
    obtain ⟨hf2, r', S', d1, d2, d3, d4⟩ := b1 x p q h2
    obtain ⟨e1, e2, e3, e4, e5⟩ := d1
    obtain ⟨hf, g1, g2⟩ := Fe_agr hA hf2
    obtain ⟨u1, u2⟩ := CH_uniq c1.2.1 (CH_agr hA hf2 e2)
    rw [← u1] at e1 e3 d2 d3
    refine ⟨r, S, hk1, c1, ⟨e1, c1.2.1, fun k hk => by rw [e3 k hk]; exact (u2 k hk).symm, by rw [e4]; exact g1, by rw [e5]; exact g2⟩, fun k k1 k2 => ⟨c2 k k1 k2, ?_⟩, c3, c4, c5, ?_⟩
    · have := d2 k k1 k2
      rw [← u2 k (by omega), ← u2 (k + 1) (by omega)] at this
      exact this
    · rw [d3]
      exact nszR_S _ (fun i hi => (u2 i hi).symm)
  have size : ∀ (h : Nat) (x p q : Int), T1 x p q → T2 x p q → H x p q ≤ h → u.1 268 (tcx (xn M) x p q) = u.1 333 (tix p x q) := by
    intro h
    induction h with
    | zero =>
      intro x p q h1 h2 hh
      obtain ⟨r, S, hk1, -⟩ := both x p q h1 h2
      have := (Fe_b hS (hV.2.2.2.2 x p q hk1).1).2.1
      omega
    | succ h ih =>
      intro x p q h1 h2 hh
      obtain ⟨r, S, hk1, c1, c2, c3, c4, c5, c6, c7⟩ := both x p q h1 h2
      rw [c4, c7]
      refine nsz_R _ (fun i i1 i2 => ?_)
      obtain ⟨f1, f2, f3⟩ := CH_sub hS (hV.2.2.2.2 x p q hk1).1 c1.2.1 i1 i2
      obtain ⟨g1, g2⟩ := c3 i i1 i2
      exact ih _ _ _ g1 g2 (by omega)
  refine ⟨M, L, H, s, b, hM, hS, hV, hO, hb, hk, h74, h75, hr, fun x p q => T1 x p q ∧ T2 x p q, ⟨a0, b0⟩, fun x p q ⟨h1, h2⟩ => ?_⟩
  obtain ⟨r, S, hk1, c1, c2, c3, c4, c5, c6, c7⟩ := both x p q h1 h2
  exact ⟨hk1, r, S, c1, c2, c3, size (H x p q).toNat x p q h1 h2 (by omega), c4, c5, c6⟩
