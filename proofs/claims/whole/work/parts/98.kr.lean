/-! witness, letter: both sides alike -/
theorem q_172v {e : Nat} {M : Mg} {L H : T3} {u : uS} {x p q r : Int} {S : Nat → Int} {k : Nat} (hM : Mok M) (hS : LHs M L H) (hW : sV M L H u) (hx : Fe M L x p q) (hc : CHc M L H u x p q r S) (hk : k < (xl M r).toNat) : cI (e + 3) 172 [.ref 231, iV (tcx (xn M) x p q), iV (k : Int)] u (fun c w => w = u ∧ c = sbx M r S k) := by
  obtain ⟨m1, m2, m3, m4, m5, m6⟩ := id hM
  obtain ⟨nb1, nb2, nb3, nb4⟩ := nn_b m1 m4
  obtain ⟨w2, w3, w5, w6, w7⟩ := id hW
  obtain ⟨hr, hch, hpk⟩ := hc
  obtain ⟨r0, r1, rx, -⟩ := id hch
  obtain ⟨l1, l2, l3, l4⟩ := m5 r r0 r1
  obtain ⟨a1, a2, a3⟩ := w3 r r0 r1
  have hp := hx.2.1
  have hq := hx.2.2.1
  obtain ⟨b1, b2, b3, b4⟩ := tcx_b hx.1 hp hq
  obtain ⟨d1, d2, d3, d4⟩ := tcx_d (x := x) hp hq
  have hS0 : S 0 = p := by
    obtain ⟨_, _, _, _, _, C, hs⟩ := hch
    exact hs.1
  have hSl := sts_end hch
  have hRk := CH_iR hS hp hch (k := k) (by omega)
  have hRk1 := CH_iR hS hp hch (k := k + 1) (by omega)
  have k0 := hRk.1
  have k1 := hRk.2
  have k10 := hRk1.1
  have k11 := hRk1.2
  generalize ht : tcx (xn M) x p q = t at *
  refine e_172 ?_
  rw [hr, a2, a3 k (by omega) (by omega), w5, Int.tdiv_eq_ediv_of_nonneg b3, d1, Int.tmod_eq_emod_of_nonneg b1, d4, Int.tmod_eq_emod_of_nonneg b3, d2]
  refine ⟨b3, by omega, r0, by omega, ⟨by omega, by omega⟩, ⟨by omega, by omega⟩, ?_⟩
  have from0 : (k : Int) ≠ 0 → iand (iushr (u.1 267 t) (6 * ((k : Int) - 1))) 63 = S k := fun hk0 => by
    have := pk_get (l := (k : Int) - 1) (k := k - 1) hpk (by omega) (by omega) (by omega) (by rw [show k - 1 + 1 = k by omega]; exact k0) (by rw [show k - 1 + 1 = k by omega]; omega)
    rw [show k - 1 + 1 = k by omega] at this
    exact this
  by_cases c1 : (k : Int) = xl M r - 1
  · rw [if_pos c1]
    have eq : S (k + 1) = q := by
      rw [show k + 1 = (xl M r).toNat by omega]
      exact hSl
    refine ⟨⟨by omega, by omega⟩, ⟨by omega, by omega⟩, by omega, by omega, by omega, ?_⟩
    by_cases c2 : (k : Int) = 0
    · rw [if_pos c2]
      refine ⟨⟨by omega, by omega⟩, rfl, ?_⟩
      unfold sbx tcx
      rw [eq, show k = 0 by omega, hS0]
    · rw [if_neg c2, from0 c2]
      refine ⟨rfl, ?_⟩
      unfold sbx tcx
      rw [eq]
  · rw [if_neg c1, if_neg (by omega)]
    refine ⟨⟨by omega, by omega⟩, by omega, by omega, ?_⟩
    have to0 : iand (iushr (u.1 267 t) (6 * ((k : Int) + 1 - 1))) 63 = S (k + 1) := pk_get (l := (k : Int) + 1 - 1) (k := k) hpk (by omega) (by omega) (by omega) k10 (by omega)
    rw [to0]
    by_cases c2 : (k : Int) = 0
    · rw [if_pos c2]
      refine ⟨⟨by omega, by omega⟩, ⟨by omega, by omega⟩, by omega, ⟨by omega, by omega⟩, rfl, ?_⟩
      unfold sbx tcx
      rw [show k = 0 by omega, hS0]
    · rw [if_neg c2, from0 c2]
      exact ⟨rfl, rfl⟩
/-- what a symbol of a chosen triple adds -/
def lnk (M : Mg) (L : T3) (r : Int) (S : Nat → Int) (k : Nat) : Int := if xy M r k < 100 then 1 else L (xy M r k - 100) (S k) (S (k + 1))
def psm (M : Mg) (L : T3) (r : Int) (S : Nat → Int) : Nat → Int
  | 0 => 0
  | k + 1 => psm M L r S k + lnk M L r S k
theorem psm_C {M : Mg} {L H : T3} {x p q r : Int} {S C : Nat → Int} : ∀ m, sts M L H x p q r S C m → C m = psm M L r S m := by
  intro m
  induction m with
  | zero => intro h; exact h.2.1
  | succ m ih =>
    intro h
    obtain ⟨-, -, c1, g1, a3, a4⟩ := h.2.2 m (by omega)
    rw [a4, ih (sts_mono h (by omega))]
    show _ = psm M L r S m + lnk M L r S m
    unfold stk at a3
    unfold lnk
    by_cases e : xy M r m < 100
    · rw [if_pos e] at a3 ⊢
      rw [a3.2.1]
    · rw [if_neg e] at a3 ⊢
      rw [a3.2.1]
theorem psm_L {M : Mg} {L H : T3} {x p q r : Int} {S : Nat → Int} (h : CH M L H x p q r S) : min 4000000000000000000 (psm M L r S (xl M r).toNat) = L x p q := by
  obtain ⟨a1, a2, a3, a4, a5, C, a6⟩ := h
  obtain ⟨c', g', h1, h2, h3⟩ := sts_rest a4 _ (Nat.le_refl _) a6
  rw [Nat.sub_self] at h1
  rw [h1.2.1, Int.add_zero, psm_C _ a6] at h3
  exact h3
theorem lnk_b {M : Mg} {L H : T3} {x p q r : Int} {S : Nat → Int} (hS : LHs M L H) (hx : Fe M L x p q) (h : CH M L H x p q r S) {k : Nat} (hk : k < (xl M r).toNat) : cB (lnk M L r S k) := by
  unfold lnk
  by_cases e : xy M r k < 100
  · rw [if_pos e]; exact ⟨by omega, by omega⟩
  · rw [if_neg e]; exact (Fe_b hS (CH_sub hS hx h hk e).1).1
theorem psm_mono {M : Mg} {L H : T3} {x p q r : Int} {S : Nat → Int} (hS : LHs M L H) (hx : Fe M L x p q) (h : CH M L H x p q r S) : ∀ j k : Nat, j ≤ k → k ≤ (xl M r).toNat → psm M L r S j ≤ psm M L r S k := by
  intro j k
  induction k with
  | zero => intro h1 h2; rw [show j = 0 by omega]; exact Int.le_refl _
  | succ k ih =>
    intro h1 h2
    by_cases e : j = k + 1
    · rw [e]; exact Int.le_refl _
    · have := ih (by omega) (by omega)
      have b := (lnk_b hS hx h (k := k) (by omega)).1
      show _ ≤ psm M L r S k + lnk M L r S k
      omega
/-- the letter number i of a triple's word -/
def LA (M : Mg) (L H : T3) : Nat → Int → Int → Int → Int → Int → Prop
  | 0 => fun _ _ _ _ _ => False
  | h + 1 => fun x p q i a => ∃ r S, ∃ k : Nat, CH M L H x p q r S ∧ k < (xl M r).toNat ∧ psm M L r S k ≤ i ∧ i < psm M L r S (k + 1) ∧ (if xy M r k < 100 then a = xy M r k else LA M L H h (xy M r k - 100) (S k) (S (k + 1)) (i - psm M L r S k) a)
theorem psm_S {M : Mg} {L : T3} {r : Int} {S S' : Nat → Int} : ∀ k : Nat, (∀ i : Nat, i ≤ k → S i = S' i) → psm M L r S k = psm M L r S' k
  | 0, _ => rfl
  | k + 1, h => by
    unfold psm lnk
    rw [psm_S k (fun i hi => h i (by omega)), h k (by omega), h (k + 1) (Nat.le_refl _)]
theorem LA_u {M : Mg} {L H : T3} (hS : LHs M L H) : ∀ (h h' : Nat) (x p q i a a' : Int), Fe M L x p q → LA M L H h x p q i a → LA M L H h' x p q i a' → a = a'
  | 0, _, _, _, _, _, _, _, _, l, _ => l.elim
  | _ + 1, 0, _, _, _, _, _, _, _, _, l => l.elim
  | h + 1, h' + 1, x, p, q, i, a, a', hx, ⟨r, S, k, c1, c2, c3, c4, c5⟩, ⟨r', S', k', d1, d2, d3, d4, d5⟩ => by
    obtain ⟨e1, e2⟩ := CH_uniq c1 d1
    rw [← e1] at d1 d2 d3 d4 d5
    rw [← psm_S k' (fun j hj => e2 j (by omega))] at d3 d5
    rw [← psm_S (k' + 1) (fun j hj => e2 j (by omega))] at d4
    have ek : k = k' := by
      rcases Nat.lt_trichotomy k k' with z | z | z
      · have := psm_mono hS hx c1 (k + 1) k' (by omega) (by omega)
        omega
      · exact z
      · have := psm_mono hS hx c1 (k' + 1) k (by omega) (by omega)
        omega
    rw [← ek] at d5
    by_cases cx : xy M r k < 100
    · rw [if_pos cx] at c5 d5
      rw [c5, d5]
    · rw [if_neg cx] at c5 d5
      rw [← e2 k (by omega), ← e2 (k + 1) (by omega)] at d5
      exact LA_u hS h h' _ _ _ _ _ _ (CH_sub hS hx c1 c2 cx).1 c5 d5
theorem st_witness {d : Nat} {u : uS} {x : Int} (hx : rI x) (hX : invX u) : cL (d + 3) 175 [.ref 0, iV x] u (fun r u1 => cL (d + 2) 281 [.ref 271, iV x] u1 (fun r' u2 => r' = r ∧ u2 = u)) := by
  rcases hX.2 with ⟨h1, h2⟩ | ⟨h1, h2, M, L, H, s, b, hM, hS, hV, hO, hb, hk, h74, h75, hr, T, hT0, hT⟩
  · refine e_175 ?_
    rw [h1]
    refine ⟨⟨by omega, by omega⟩, ?_⟩
    rw [if_pos rfl]
    refine e_281 ?_
    rw [h2]
    refine ⟨⟨by omega, by omega⟩, ?_⟩
    rw [if_pos rfl]
    exact ⟨rfl, rfl⟩
  · obtain ⟨m1, m2, m3, m4, m5, m6⟩ := id hM
    obtain ⟨hk0, r, S, c1, c2, c3, c4, c5, c6, c7⟩ := hT 0 0 b hT0
    have hbR := hk.2.2.1
    have b0 := hbR.1
    have b1 := hbR.2
    have etc : tcx (xn M) 0 0 b = b := by
      unfold tcx
      rw [Int.zero_mul, Int.add_zero, Int.zero_mul, Int.zero_add]
    obtain ⟨hfe, v44, v45⟩ := hV.2.2.2.2 0 0 b hk
    obtain ⟨fb, fh1, fh2⟩ := Fe_b hS hfe
    rw [etc] at v44 v45 c4 c6 c7
    obtain ⟨-, -, -, r34, r35⟩ := c2
    have ht := tix_R (o := 0) (x := 0) (q := b) ⟨by omega, by omega⟩ ⟨by omega, by omega⟩ ⟨b0, by omega⟩
    have ref : ∀ y : Int, (¬ (x < 0 ∨ 3 < x) → y = if x = 0 then L 0 0 b else if x = 1 then H 0 0 b else if x = 2 then u.1 268 b else b) → (x < 0 ∨ 3 < x → y = -1) → cL (d + 2) 281 [.ref 271, iV x] u (fun r' u2 => r' = y ∧ u2 = u) := fun y y1 y2 => by
      refine e_281 ?_
      rw [h2, h74, h75, r34, r35, ← c4]
      refine ⟨⟨by omega, by omega⟩, ?_⟩
      rw [if_neg (by omega)]
      refine ⟨hx, ?_⟩
      by_cases x1 : x < 0
      · rw [if_pos x1]; exact ⟨(y2 (Or.inl x1)).symm, rfl⟩
      rw [if_neg x1]
      by_cases x2 : 3 < x
      · rw [if_pos x2]; exact ⟨(y2 (Or.inr x2)).symm, rfl⟩
      rw [if_neg x2]
      have y1 := y1 (by omega)
      by_cases x3 : x = 0
      · rw [if_pos x3] at y1 ⊢; exact ⟨ht.1, ht.2, y1.symm, rfl⟩
      rw [if_neg x3] at y1 ⊢
      by_cases x4 : x = 1
      · rw [if_pos x4] at y1 ⊢; exact ⟨ht.1, ht.2, ⟨by omega, by omega⟩, y1.symm, rfl⟩
      rw [if_neg x4] at y1 ⊢
      by_cases x5 : x = 2
      · rw [if_pos x5] at y1 ⊢; exact ⟨ht.1, ht.2, y1.symm, rfl⟩
      rw [if_neg x5] at y1 ⊢
      exact ⟨⟨by omega, by omega⟩, y1.symm, rfl⟩
    refine e_175 ?_
    rw [h1, hb, v44, v45]
    refine ⟨⟨by omega, by omega⟩, ?_⟩
    rw [if_neg (by omega)]
    refine ⟨hx, ?_⟩
    by_cases x3 : x = 0
    · rw [if_pos x3]; exact ⟨b0, by omega, ref _ (fun _ => by rw [if_pos x3]) (fun h => by omega)⟩
    rw [if_neg x3]
    by_cases x4 : x = 1
    · rw [if_pos x4]; exact ⟨b0, by omega, ⟨by omega, by omega⟩, ref _ (fun _ => by rw [if_neg x3, if_pos x4]) (fun h => by omega)⟩
    rw [if_neg x4]
    by_cases x5 : x = 2
    · rw [if_pos x5]; exact ⟨b0, by omega, ref _ (fun _ => by rw [if_neg x3, if_neg x4, if_pos x5]) (fun h => by omega)⟩
    rw [if_neg x5]
    by_cases x6 : x = 3
    · have em : b.tmod (xn M) = b := by
        rw [Int.tmod_eq_emod_of_nonneg b0]
        exact Int.emod_eq_of_lt b0 b1
      rw [if_pos x6, hV.2.2.1, em]
      exact ⟨⟨by omega, by omega⟩, ⟨by omega, by omega⟩, by omega, ⟨by omega, by omega⟩, ref _ (fun _ => by rw [if_neg x3, if_neg x4, if_neg x5]) (fun h => by omega)⟩
    rw [if_neg x6]
    exact ref _ (fun h => absurd (by omega) h) (fun _ => rfl)
