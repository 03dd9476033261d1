/-! The other side: chooseAll, one round over a rule -/
abbrev tpx (M : Mg) (r : Int) (S : Nat → Int) (k : Nat) : Int := tix (S k) (xy M r k - 100) (S (k + 1))
def nszR (M : Mg) (N : Int → Int) (r : Int) (S : Nat → Int) : Nat → Int
  | 0 => 1
  | k + 1 => if xy M r k < 100 then nszR M N r S k else sq (nszR M N r S k) (N (tpx M r S k))
theorem nszR_congr {M : Mg} {N N' : Int → Int} {r : Int} {S : Nat → Int} : ∀ k : Nat, (∀ i : Nat, i < k → ¬ xy M r i < 100 → N (tpx M r S i) = N' (tpx M r S i)) → nszR M N r S k = nszR M N' r S k
  | 0, _ => rfl
  | k + 1, h => by
    unfold nszR
    rw [nszR_congr k (fun i hi => h i (by omega))]
    by_cases e : xy M r k < 100
    · rw [if_pos e, if_pos e]
    · rw [if_neg e, if_neg e, h k (by omega) e]
theorem nszR_b {M : Mg} {N : Int → Int} {r : Int} {S : Nat → Int} : ∀ k : Nat, (∀ i : Nat, i < k → ¬ xy M r i < 100 → cB (N (tpx M r S i))) → 1 ≤ nszR M N r S k ∧ nszR M N r S k ≤ 4000000000000000000
  | 0, _ => ⟨by unfold nszR; omega, by unfold nszR; omega⟩
  | k + 1, h => by
    have ih := nszR_b k (fun i hi => h i (by omega))
    unfold nszR
    by_cases e : xy M r k < 100
    · rw [if_pos e]; exact ih
    · have hb := h k (by omega) e
      unfold cB at hb
      rw [if_neg e]
      unfold sq
      omega
theorem tpx_b {M : Mg} {L H : T3} {x p q r : Int} {S : Nat → Int} (hM : Mok M) (hS : LHs M L H) (hx : Fe M L x p q) (h : CH M L H x p q r S) {k : Nat} (hk : k < (xl M r).toNat) (hy : ¬ xy M r k < 100) : 0 ≤ tpx M r S k ∧ tpx M r S k < 16000 := by
  obtain ⟨m1, m2, m3, m4, m5, m6⟩ := id hM
  obtain ⟨⟨f1, f2, f3, -⟩, -, -⟩ := CH_sub hS hx h hk hy
  have a1 := f1.1
  have a2 := f1.2
  have a3 := f2.1
  have a4 := f2.2
  have a5 := f3.1
  have a6 := f3.2
  exact tix_R ⟨a3, by omega⟩ ⟨a1, by omega⟩ ⟨a5, by omega⟩
/-- what both rounds over a rule read -/
def RD (M : Mg) (r : Int) (S : Nat → Int) (t : Int) (z : uS) : Prop := z.1 276 r = xl M r ∧ (∀ k : Nat, (k : Int) < xl M r → z.1 277 (6 * r + k) = xy M r k) ∧ ∀ k : Nat, k ≤ (xl M r).toNat → z.1 332 (7 * t + k) = S k
theorem h_cnt {e : Nat} {M : Mg} {L H : T3} {x p q r m N : Int} {S : Nat → Int} {z : uS} {Q : uS → Prop} (hM : Mok M) (hS : LHs M L H) (hx : Fe M L x p q) (hc : CH M L H x p q r S) (hD : RD M r S (tix p x q) z) (hb : ∀ k : Nat, k < (xl M r).toNat → ¬ xy M r k < 100 → cB (z.1 333 (tpx M r S k))) (ht : 0 ≤ tix p x q ∧ tix p x q < 16000) (hK : K_276 (e + 1) 41 [.ref 271, iV m, .retAddr 0, iV (N + (-1)), .retAddr 0, .retAddr 0, .retAddr 0, .retAddr 0, .retAddr 0, .retAddr 0, .retAddr 0, .retAddr 0] [] (wr (wr z 333 (tix p x q) (nszR M (z.1 333) r S (xl M r).toNat)) 340 (tix p x q) 1) Q) : ∀ (k' k : Nat), k + k' = (xl M r).toNat → K_276 (e + 1) 123 [.ref 271, iV m, .retAddr 0, iV N, iV (tix p x q), iV 0, iV r, lV (nszR M (z.1 333) r S k), .retAddr 0, iV (k : Int), .retAddr 0, .retAddr 0] [] z Q := by
  obtain ⟨m1, m2, m3, m4, m5, m6⟩ := id hM
  obtain ⟨r0, r1, -⟩ := id hc
  obtain ⟨l1, l2, l3, l4⟩ := m5 r r0 r1
  obtain ⟨d1, d2, d3⟩ := hD
  intro k'
  induction k' with
  | zero =>
    intro k hk
    refine k_276_123 ⟨r0, by omega, ⟨by omega, by omega⟩, ?_⟩
    rw [d1]
    refine ⟨⟨by omega, by omega⟩, ?_⟩
    rw [if_neg (by omega)]
    refine ⟨⟨by omega, by omega⟩, ?_⟩
    rw [if_pos rfl]
    refine ⟨ht.1, ht.2, fun a ea b eb => ?_⟩
    rw [eb, ea, show k = (xl M r).toNat by omega]
    exact hK
  | succ k' ih =>
    intro k hk
    have hki : (k : Int) < xl M r := by omega
    have hsy := l4 k (by omega) hki
    have ecast : ((k + 1 : Nat) : Int) = (k : Int) + 1 := by omega
    have hn := ih (k + 1) (by omega)
    have hbk := nszR_b (N := z.1 333) (S := S) (r := r) (M := M) k (fun i hi hy => hb i (by omega) hy)
    have e1' : z.1 332 (7 * tix p x q + k) = S k := d3 k (by omega)
    have e2' : z.1 332 (7 * tix p x q + k + 1) = S (k + 1) := by
      have := d3 (k + 1) (by omega)
      rw [ecast, ← Int.add_assoc] at this
      exact this
    refine k_276_123 ⟨r0, by omega, ⟨by omega, by omega⟩, ?_⟩
    rw [d1, d2 k hki, e1', e2']
    refine ⟨⟨by omega, by omega⟩, ?_⟩
    rw [if_pos hki]
    refine ⟨by omega, by omega, ?_, ?_⟩
    · rcases hsy with z | z <;> exact ⟨by omega, by omega⟩
    by_cases cx : xy M r k < 100
    · rw [if_pos cx, ← ecast]
      have e1 : nszR M (z.1 333) r S (k + 1) = nszR M (z.1 333) r S k := by
        show (if xy M r k < 100 then nszR M (z.1 333) r S k else sq (nszR M (z.1 333) r S k) (z.1 333 (tpx M r S k))) = _
        rw [if_pos cx]
      rw [e1] at hn
      exact hn
    · obtain ⟨tb0, tb1⟩ := tpx_b hM hS hx hc (k := k) (by omega) cx
      have hbm := hb k (by omega) cx
      rw [if_neg cx, if_pos rfl, show ((10 * S k + (xy M r k - 100)) * 40 + S (k + 1)) = tpx M r S k from rfl]
      have e1 : nszR M (z.1 333) r S (k + 1) = pl 5000000000000000000 (nszR M (z.1 333) r S k) (z.1 333 (tpx M r S k)) := by
        show (if xy M r k < 100 then nszR M (z.1 333) r S k else sq (nszR M (z.1 333) r S k) (z.1 333 (tpx M r S k))) = _
        rw [if_neg cx, pl_sq ⟨by omega, hbk.2⟩ hbm]
      rw [← ecast, ← e1]
      exact ⟨by omega, by omega, by omega, by omega, ⟨by omega, by omega⟩, tb0, tb1, cB_cn ⟨by omega, hbk.2⟩, cB_cn hbm, hn⟩
theorem h_psh {e : Nat} {M : Mg} {L H : T3} {x p q r m : Int} {N : Nat} {S : Nat → Int} {z : uS} {Q : uS → Prop} (hM : Mok M) (hS : LHs M L H) (hx : Fe M L x p q) (hc : CH M L H x p q r S) (hD : RD M r S (tix p x q) z) (hb : ∀ t, 0 ≤ t → t < 16000 → cB (z.1 333 t) ∧ (z.1 340 t = 0 ∨ z.1 340 t = 1)) (ht : 0 ≤ tix p x q ∧ tix p x q < 16000) (hN : N ≤ 100000) (hK : ∀ (N' : Nat) (y : uS), N ≤ N' → N' ≤ N + 6 → y.2 = z.2 → sb1 z y [339] → (∀ i : Int, i < N → y.1 339 i = z.1 339 i) → (∀ i : Int, (N : Int) ≤ i → i < N' → ∃ k : Nat, k < (xl M r).toNat ∧ ¬ xy M r k < 100 ∧ y.1 339 i = tpx M r S k) → (∀ k : Nat, k < (xl M r).toNat → ¬ xy M r k < 100 → z.1 340 (tpx M r S k) = 1 ∨ ∃ i : Int, (N : Int) ≤ i ∧ i < N' ∧ y.1 339 i = tpx M r S k) → K_276 (e + 1) 41 [.ref 271, iV m, .retAddr 0, iV (N' : Int), .retAddr 0, .retAddr 0, .retAddr 0, .retAddr 0, .retAddr 0, .retAddr 0, .retAddr 0, .retAddr 0] [] y Q) : ∀ (k' k N' : Nat) (c : Int) (y : uS), k + k' = (xl M r).toNat → cB c → N ≤ N' → N' ≤ N + k → y.2 = z.2 → sb1 z y [339] → (∀ i : Int, i < N → y.1 339 i = z.1 339 i) → (∀ i : Int, (N : Int) ≤ i → i < N' → ∃ k : Nat, k < (xl M r).toNat ∧ ¬ xy M r k < 100 ∧ y.1 339 i = tpx M r S k) → (∀ i : Nat, i < k → ¬ xy M r i < 100 → z.1 340 (tpx M r S i) = 1 ∨ ∃ j : Int, (N : Int) ≤ j ∧ j < N' ∧ y.1 339 j = tpx M r S i) → K_276 (e + 1) 123 [.ref 271, iV m, .retAddr 0, iV (N' : Int), iV (tix p x q), iV 1, iV r, lV c, .retAddr 0, iV (k : Int), .retAddr 0, .retAddr 0] [] y Q := by
  obtain ⟨m1, m2, m3, m4, m5, m6⟩ := id hM
  obtain ⟨r0, r1, -⟩ := id hc
  obtain ⟨l1, l2, l3, l4⟩ := m5 r r0 r1
  obtain ⟨d1, d2, d3⟩ := hD
  intro k'
  induction k' with
  | zero =>
    intro k N' c y hk hcb n1 n2 y2 ys y3 y4 y5
    refine k_276_123 ⟨r0, by omega, ⟨by omega, by omega⟩, ?_⟩
    rw [ys 276 (by decide), d1]
    refine ⟨⟨by omega, by omega⟩, ?_⟩
    rw [if_neg (by omega)]
    refine ⟨⟨by omega, by omega⟩, ?_⟩
    rw [if_neg (by omega)]
    exact hK N' y n1 (by omega) y2 ys y3 y4 (fun i hi hy => y5 i (by omega) hy)
  | succ k' ih =>
    intro k N' c y hk hcb n1 n2 y2 ys y3 y4 y5
    have hki : (k : Int) < xl M r := by omega
    have hsy := l4 k (by omega) hki
    have ecast : ((k + 1 : Nat) : Int) = (k : Int) + 1 := by omega
    have e1' : z.1 332 (7 * tix p x q + k) = S k := d3 k (by omega)
    have e2' : z.1 332 (7 * tix p x q + k + 1) = S (k + 1) := by
      have := d3 (k + 1) (by omega)
      rw [ecast, ← Int.add_assoc] at this
      exact this
    refine k_276_123 ⟨r0, by omega, ⟨by omega, by omega⟩, ?_⟩
    rw [ys 276 (by decide), ys 277 (by decide), ys 332 (by decide), ys 333 (by decide), ys 340 (by decide), d1, d2 k hki, e1', e2']
    refine ⟨⟨by omega, by omega⟩, ?_⟩
    rw [if_pos hki]
    refine ⟨by omega, by omega, ?_, ?_⟩
    · rcases hsy with z | z <;> exact ⟨by omega, by omega⟩
    by_cases cx : xy M r k < 100
    · rw [if_pos cx, ← ecast]
      refine ih (k + 1) N' c y (by omega) hcb n1 (by omega) y2 ys y3 y4 (fun i hi hy => ?_)
      by_cases ei : i = k
      · rw [ei] at hy; exact absurd cx hy
      · exact y5 i (by omega) hy
    · obtain ⟨tb0, tb1⟩ := tpx_b hM hS hx hc (k := k) (by omega) cx
      obtain ⟨hbm, h01⟩ := hb _ tb0 tb1
      rw [if_neg cx, if_neg (by omega : ¬ (1 : Int) = 0), show ((10 * S k + (xy M r k - 100)) * 40 + S (k + 1)) = tpx M r S k from rfl, pl_sq hcb hbm, ← ecast]
      refine ⟨by omega, by omega, by omega, by omega, ⟨by omega, by omega⟩, tb0, tb1, ⟨by omega, by omega⟩, ?_⟩
      have hsq := sq_R hcb hbm
      by_cases c0 : z.1 340 (tpx M r S k) = 0
      · rw [if_pos c0]
        refine ⟨by omega, by omega, fun o eo => ?_⟩
        have o39 : o.1 339 = uf (y.1 339) (N' : Int) (tpx M r S k) := by rw [eo, wr_uf]
        have o33 : o.1 333 = z.1 333 := by rw [eo, wr_ne (by omega), ys 333 (by decide)]
        rw [o33, pl_sq hcb hbm]
        refine ⟨cB_cn hcb, cB_cn hbm, ?_⟩
        have := ih (k + 1) (N' + 1) _ o (by omega) hsq (by omega) (by omega) (by rw [eo, wr_2]; exact y2) (by rw [eo]; exact sb1_wr ys (by decide)) (fun i hi => by rw [o39, uf_ne (by omega)]; exact y3 i hi) (fun i h1 h2 => by
          rw [o39]
          by_cases ei : i = N'
          · rw [ei, uf_eq]
            exact ⟨k, by omega, cx, rfl⟩
          · rw [uf_ne ei]
            exact y4 i h1 (by omega)) (fun i hi hy => by
          rw [o39]
          by_cases ei : i = k
          · rw [ei]
            exact Or.inr ⟨N', by omega, by omega, by rw [uf_eq]⟩
          · rcases y5 i (by omega) hy with h | ⟨j, j1, j2, j3⟩
            · exact Or.inl h
            · exact Or.inr ⟨j, j1, by omega, by rw [uf_ne (by omega)]; exact j3⟩)
        rw [show ((N' + 1 : Nat) : Int) = (N' : Int) + 1 by omega] at this
        exact this
      · rw [if_neg c0]
        refine ⟨cB_cn hcb, cB_cn hbm, ih (k + 1) N' _ y (by omega) hsq n1 (by omega) y2 ys y3 y4 (fun i hi hy => ?_)⟩
        by_cases ei : i = k
        · rw [ei]
          exact Or.inl (by omega)
        · exact y5 i (by omega) hy
