/-! The witness: the chosen rule and the chosen states of a triple -/
def lw (M : Mg) (K : P3) (L H : T3) (r q : Int) : Nat → Int → Int → Int → Prop
  | 0 => fun o c g => o = q ∧ c = 0 ∧ g = 0
  | j + 1 => fun o c g => ∃ b c1 g1 c' g', iR (xn M) b ∧ stk M K L H (xy M r (xl M r - ((j : Int) + 1))) o b c1 g1 ∧ lw M K L H r q j b c' g' ∧ c = c1 + c' ∧ g = max g1 g'
theorem stk_mono {M : Mg} {K K' : P3} {L H : T3} {s o q c g : Int} (h : ∀ x o q, K x o q → K' x o q) (h3 : stk M K L H s o q c g) : stk M K' L H s o q c g := by
  unfold stk at h3 ⊢
  split
  · next e => rw [if_pos e] at h3; exact h3
  · next e => rw [if_neg e] at h3; exact ⟨h _ _ _ h3.1, h3.2⟩
theorem stk_fun {M : Mg} {K K' : P3} {L H : T3} {s o q c g c' g' : Int} (h : stk M K L H s o q c g) (h' : stk M K' L H s o q c' g') : c = c' ∧ g = g' := by
  unfold stk at h h'
  by_cases e : s < 100
  · rw [if_pos e] at h h'
    exact ⟨h.2.1.trans h'.2.1.symm, h.2.2.trans h'.2.2.symm⟩
  · rw [if_neg e] at h h'
    exact ⟨h.2.1.trans h'.2.1.symm, h.2.2.trans h'.2.2.symm⟩
theorem stk_b {M : Mg} {K : P3} {L H : T3} {s o q c g : Int} (hS : LHs M L H) (hK : ∀ x o q, K x o q → Fe M L x o q) (h3 : stk M K L H s o q c g) : cB c ∧ 0 ≤ g ∧ g ≤ 16000 := by
  unfold stk at h3
  by_cases e : s < 100
  · rw [if_pos e] at h3
    refine ⟨⟨by omega, by omega⟩, by omega, by omega⟩
  · rw [if_neg e] at h3
    obtain ⟨a1, a2, a3, a4⟩ := hK _ _ _ h3.1
    rcases hS.1 _ _ _ a1 a2 a3 with z | ⟨z1, z2, z3⟩
    · exact absurd z a4
    · have e2 := h3.2.1
      have e3 := h3.2.2
      rw [e2, e3]
      exact ⟨z1, by omega, z3⟩
theorem lw_mono {M : Mg} {K K' : P3} {L H : T3} {r q : Int} (h : ∀ x o q, K x o q → K' x o q) : ∀ (j : Nat) (o c g : Int), lw M K L H r q j o c g → lw M K' L H r q j o c g
  | 0, _, _, _, w => w
  | j + 1, o, c, g, ⟨b, c1, g1, c', g', h1, h2, h3, h4, h5⟩ => ⟨b, c1, g1, c', g', h1, stk_mono h h2, lw_mono h j b c' g' h3, h4, h5⟩
theorem lw_b {M : Mg} {K : P3} {L H : T3} {r q : Int} (hS : LHs M L H) (hK : ∀ x o q, K x o q → Fe M L x o q) : ∀ (j : Nat) (o c g : Int), lw M K L H r q j o c g → 0 ≤ c ∧ 0 ≤ g ∧ g ≤ 16000
  | 0, o, c, g, h => by
    obtain ⟨h1, h2, h3⟩ := h
    omega
  | j + 1, o, c, g, ⟨b, c1, g1, c', g', h1, h2, h3, h4, h5⟩ => by
    have ih := lw_b hS hK j b c' g' h3
    have h6 := stk_b hS hK h2
    have := h6.1.1
    omega
/-- a way that is lower than h goes through lower ones alone -/
theorem lw_low {M : Mg} {K : P3} {L H : T3} {r q h : Int} : ∀ (j : Nat) (o c g : Int), lw M K L H r q j o c g → g < h → lw M (fun x o b => K x o b ∧ H x o b < h) L H r q j o c g
  | 0, _, _, _, w, _ => w
  | j + 1, o, c, g, ⟨b, c1, g1, c', g', h1, h2, h3, h4, h5⟩, hB => by
    refine ⟨b, c1, g1, c', g', h1, ?_, lw_low j b c' g' h3 (by omega), h4, h5⟩
    unfold stk at h2 ⊢
    split
    · next e => rw [if_pos e] at h2; exact h2
    · next e => rw [if_neg e] at h2; exact ⟨⟨h2.1, by rw [← h2.2.2]; omega⟩, h2.2⟩
theorem lw_hb {M : Mg} {K : P3} {L H : T3} {r q h : Int} (h0 : 0 < h) (hK : ∀ x o q, K x o q → H x o q < h) : ∀ (j : Nat) (o c g : Int), lw M K L H r q j o c g → g < h
  | 0, _, _, _, w => by rw [w.2.2]; exact h0
  | j + 1, o, c, g, ⟨b, c1, g1, c', g', h1, h2, h3, h4, h5⟩ => by
    have ih := lw_hb h0 hK j b c' g' h3
    unfold stk at h2
    by_cases e : xy M r (xl M r - ((j : Int) + 1)) < 100
    · rw [if_pos e] at h2
      omega
    · rw [if_neg e] at h2
      have := hK _ _ _ h2.1
      have := h2.2.2
      omega
theorem lw_in {M : Mg} {K K' : P3} {L H : T3} {r q : Int} (hS : LHs M L H) (hK : ∀ x o q, K x o q → Fe M L x o q) : ∀ (j : Nat) (o c g : Int), lw M K L H r q j o c g → (∀ x o b, K x o b → L x o b ≤ c → K' x o b) → lw M K' L H r q j o c g
  | 0, _, _, _, w, _ => w
  | j + 1, o, c, g, ⟨b, c1, g1, c', g', h1, h2, h3, h4, h5⟩, hB => by
    have b1 := lw_b hS hK j b c' g' h3
    have b2 := stk_b hS hK h2
    have b3 := b2.1.1
    refine ⟨b, c1, g1, c', g', h1, ?_, lw_in hS hK j b c' g' h3 (fun x o q hk hl => hB x o q hk (by omega)), h4, h5⟩
    unfold stk at h2 ⊢
    split
    · next e => rw [if_pos e] at h2; exact h2
    · next e => rw [if_neg e] at h2; exact ⟨hB _ _ _ h2.1 (by rw [← h2.2.1]; omega), h2.2⟩
theorem wk_lw {M : Mg} {K : P3} {L H : T3} {r p q : Int} : ∀ (j k : Nat) (o c g c' g' : Int), (k : Int) + j = xl M r → iR (xn M) o → wk M K L H r p k o c g → lw M K L H r q j o c' g' → 0 ≤ g → wk M K L H r p (xl M r).toNat q (c + c') (max g g')
  | 0, k, o, c, g, c', g', hk, ho, hw, hl, hg => by
    obtain ⟨e1, e2, e3⟩ := hl
    rw [show (xl M r).toNat = k by omega, e2, e3, ← e1, Int.add_zero, show max g 0 = g by omega]
    exact hw
  | j + 1, k, o, c, g, c', g', hk, ho, hw, ⟨b, c1, g1, c2, g2, h1, h2, h3, h4, h5⟩, hg => by
    rw [show xl M r - ((j : Int) + 1) = (k : Nat) by omega] at h2
    have := wk_lw (p := p) j (k + 1) b (c + c1) (max g g1) c2 g2 (by omega) h1 ⟨o, c, g, c1, g1, ho, hw, h2, rfl, rfl⟩ h3 (by omega)
    rw [h4, h5, ← Int.add_assoc, show max g (max g1 g2) = max (max g g1) g2 by omega]
    exact this
theorem wk_rev {M : Mg} {K : P3} {L H : T3} {r p q : Int} (hS : LHs M L H) (hK : ∀ x o q, K x o q → Fe M L x o q) : ∀ (k j : Nat) (o c g c' g' : Int), (k : Int) + j = xl M r → iR (xn M) o → wk M K L H r p k o c g → lw M K L H r q j o c' g' → lw M K L H r q (xl M r).toNat p (c + c') (max g g')
  | 0, j, o, c, g, c', g', hk, ho, hw, hl => by
    obtain ⟨e1, e2, e3⟩ := hw
    have b := lw_b hS hK _ _ _ _ hl
    rw [show (xl M r).toNat = j by omega, e2, e3, ← e1, Int.zero_add, show max 0 g' = g' by omega]
    exact hl
  | k + 1, j, o, c, g, c', g', hk, ho, ⟨o', c2, g2, c1, g1, h1, h2, h3, h4, h5⟩, hl => by
    have := wk_rev hS hK (p := p) k (j + 1) o' c2 g2 (c1 + c') (max g1 g') (by omega) h1 h2 ⟨o, c1, g1, c', g', ho, by rw [show xl M r - ((j : Int) + 1) = (k : Nat) by omega]; exact h3, hl, rfl, rfl⟩
    rw [h4, h5, Int.add_assoc, show max (max g2 g1) g' = max g2 (max g1 g') by omega]
    exact this
/-- a rule fits a triple: a lower way of its length -/
def fit (M : Mg) (L H : T3) (x p q r : Int) : Prop := ∃ c g, lw M (Fe M L) L H r q (xl M r).toNat p c g ∧ g < H x p q ∧ min 4000000000000000000 c = L x p q
/-- the state b can stand next, behind symbol k -/
def nx (M : Mg) (L H : T3) (x p q r : Int) (k : Nat) (o C b : Int) : Prop := ∃ c1 g1 c' g', iR (xn M) b ∧ stk M (Fe M L) L H (xy M r k) o b c1 g1 ∧ g1 < H x p q ∧ lw M (Fe M L) L H r q ((xl M r).toNat - k - 1) b c' g' ∧ g' < H x p q ∧ min 4000000000000000000 (C + c1 + c') = L x p q
/-- the states up to k are chosen -/
def sts (M : Mg) (L H : T3) (x p q r : Int) (S C : Nat → Int) (k : Nat) : Prop := S 0 = p ∧ C 0 = 0 ∧ ∀ i, i < k → nx M L H x p q r i (S i) (C i) (S (i + 1)) ∧ (∀ b, 0 ≤ b → b < S (i + 1) → ¬ nx M L H x p q r i (S i) (C i) b) ∧ ∃ c1 g1, stk M (Fe M L) L H (xy M r i) (S i) (S (i + 1)) c1 g1 ∧ C (i + 1) = C i + c1
def CH (M : Mg) (L H : T3) (x p q r : Int) (S : Nat → Int) : Prop := 0 ≤ r ∧ r < xr M ∧ xh M r = x ∧ fit M L H x p q r ∧ (∀ r', 0 ≤ r' → r' < r → xh M r' = x → ¬ fit M L H x p q r') ∧ ∃ C, sts M L H x p q r S C (xl M r).toNat
theorem sts_uniq {M : Mg} {L H : T3} {x p q r : Int} {S C S' C' : Nat → Int} {m : Nat} (h : sts M L H x p q r S C m) (h' : sts M L H x p q r S' C' m) : ∀ k, k ≤ m → S k = S' k ∧ C k = C' k := by
  intro k
  induction k with
  | zero => intro _; exact ⟨h.1.trans h'.1.symm, h.2.1.trans h'.2.1.symm⟩
  | succ k ih =>
    intro hk
    obtain ⟨e1, e2⟩ := ih (by omega)
    obtain ⟨a1, a2, c1, g1, a3, a4⟩ := h.2.2 k (by omega)
    obtain ⟨b1, b2, c2, g2, b3, b4⟩ := h'.2.2 k (by omega)
    rw [← e1, ← e2] at b1 b2
    rw [← e1] at b3
    have i1 : 0 ≤ S (k + 1) := by
      obtain ⟨_, _, _, _, hb, _⟩ := a1
      exact hb.1
    have i2 : 0 ≤ S' (k + 1) := by
      obtain ⟨_, _, _, _, hb, _⟩ := b1
      exact hb.1
    have e3 : S (k + 1) = S' (k + 1) := by
      rcases Int.lt_trichotomy (S (k + 1)) (S' (k + 1)) with z | z | z
      · exact absurd a1 (b2 _ i1 z)
      · exact z
      · exact absurd b1 (a2 _ i2 z)
    refine ⟨e3, ?_⟩
    rw [← e3] at b3
    rw [a4, b4, e2, (stk_fun a3 b3).1]
theorem CH_uniq {M : Mg} {L H : T3} {x p q r r' : Int} {S S' : Nat → Int} (h : CH M L H x p q r S) (h' : CH M L H x p q r' S') : r = r' ∧ ∀ k, k ≤ (xl M r).toNat → S k = S' k := by
  obtain ⟨a1, a2, a3, a4, a5, C, a6⟩ := h
  obtain ⟨b1, b2, b3, b4, b5, C', b6⟩ := h'
  have e : r = r' := by
    rcases Int.lt_trichotomy r r' with z | z | z
    · exact absurd a4 (b5 r a1 z a3)
    · exact z
    · exact absurd b4 (a5 r' b1 z b3)
  rw [← e] at b6
  exact ⟨e, fun k hk => (sts_uniq a6 b6 k hk).1⟩
/-- while choosing: a rest is there, and what is chosen is a way -/
theorem sts_rest {M : Mg} {L H : T3} {x p q r : Int} {S C : Nat → Int} (hf : fit M L H x p q r) : ∀ m, m ≤ (xl M r).toNat → sts M L H x p q r S C m → ∃ c' g', lw M (Fe M L) L H r q ((xl M r).toNat - m) (S m) c' g' ∧ g' < H x p q ∧ min 4000000000000000000 (C m + c') = L x p q := by
  intro m
  induction m with
  | zero =>
    intro _ h
    obtain ⟨c, g, h1, h2, h3⟩ := hf
    rw [h.1, h.2.1]
    exact ⟨c, g, h1, h2, by rw [Int.zero_add]; exact h3⟩
  | succ m _ =>
    intro hm h
    obtain ⟨⟨c1, g1, c', g', n1, n2, n3, n4, n5, n6⟩, -, c2, g2, a3, a4⟩ := h.2.2 m (by omega)
    refine ⟨c', g', by rw [show (xl M r).toNat - (m + 1) = (xl M r).toNat - m - 1 by omega]; exact n4, n5, ?_⟩
    rw [a4, (stk_fun a3 n2).1]
    exact n6
theorem sts_mono {M : Mg} {L H : T3} {x p q r : Int} {S C : Nat → Int} {m m' : Nat} (h : sts M L H x p q r S C m) (hm : m' ≤ m) : sts M L H x p q r S C m' := ⟨h.1, h.2.1, fun i hi => h.2.2 i (by omega)⟩
theorem sts_wk {M : Mg} {L H : T3} {x p q r : Int} {S C : Nat → Int} (hS : LHs M L H) (hp : iR (xn M) p) : ∀ m, sts M L H x p q r S C m → iR (xn M) (S m) ∧ ∃ g, 0 ≤ g ∧ wk M (Fe M L) L H r p m (S m) (C m) g := by
  intro m
  induction m with
  | zero =>
    intro h
    rw [h.1, h.2.1]
    exact ⟨hp, 0, Int.le_refl 0, rfl, rfl, rfl⟩
  | succ m ih =>
    intro h
    obtain ⟨i1, g, g0, i2⟩ := ih (sts_mono h (by omega))
    obtain ⟨⟨_, _, _, _, hb, _⟩, -, c1, g1, a3, a4⟩ := h.2.2 m (by omega)
    exact ⟨hb, max g g1, by omega, S m, C m, g, c1, g1, i1, i2, a3, a4, rfl⟩
theorem sts_next {M : Mg} {L H : T3} {x p q r : Int} {S C : Nat → Int} (hf : fit M L H x p q r) {m : Nat} (hm : m < (xl M r).toNat) (h : sts M L H x p q r S C m) : ∃ b, nx M L H x p q r m (S m) (C m) b := by
  obtain ⟨c', g', h1, h2, h3⟩ := sts_rest hf m (by omega) h
  rw [show (xl M r).toNat - m = ((xl M r).toNat - m - 1) + 1 by omega] at h1
  obtain ⟨b, c1, g1, c2, g2, k1, k2, k3, k4, k5⟩ := h1
  rw [show xl M r - ((((xl M r).toNat - m - 1 : Nat) : Int) + 1) = (m : Nat) by omega] at k2
  exact ⟨b, c1, g1, c2, g2, k1, k2, by omega, k3, by omega, by rw [← h3, k4]; congr 1; omega⟩
theorem sts_end {M : Mg} {L H : T3} {x p q r : Int} {S : Nat → Int} (h : CH M L H x p q r S) : S (xl M r).toNat = q := by
  obtain ⟨a1, a2, a3, a4, a5, C, a6⟩ := h
  obtain ⟨c', g', h1, -⟩ := sts_rest a4 _ (Nat.le_refl _) a6
  rw [Nat.sub_self] at h1
  exact h1.1
/-- one more state -/
theorem sts_add {M : Mg} {L H : T3} {x p q r : Int} {S C : Nat → Int} {m : Nat} {b : Int} (h : sts M L H x p q r S C m) (hn : nx M L H x p q r m (S m) (C m) b) (hl : ∀ b', 0 ≤ b' → b' < b → ¬ nx M L H x p q r m (S m) (C m) b') {c1 g1 : Int} (hs : stk M (Fe M L) L H (xy M r m) (S m) b c1 g1) : sts M L H x p q r (fun i => if i = m + 1 then b else S i) (fun i => if i = m + 1 then C m + c1 else C i) (m + 1) := by
  refine ⟨h.1, h.2.1, fun i hi => ?_⟩
  have e1 : (if i = m + 1 then b else S i) = S i := if_neg (by omega)
  have e2 : (if i = m + 1 then C m + c1 else C i) = C i := if_neg (by omega)
  by_cases e : i = m
  · have e3 : (if i + 1 = m + 1 then b else S (i + 1)) = b := if_pos (by omega)
    have e4 : (if i + 1 = m + 1 then C m + c1 else C (i + 1)) = C m + c1 := if_pos (by omega)
    simp only [e1, e2, e3, e4]
    rw [e]
    exact ⟨hn, hl, c1, g1, hs, rfl⟩
  · have e3 : (if i + 1 = m + 1 then b else S (i + 1)) = S (i + 1) := if_neg (by omega)
    have e4 : (if i + 1 = m + 1 then C m + c1 else C (i + 1)) = C (i + 1) := if_neg (by omega)
    simp only [e1, e2, e3, e4]
    exact h.2.2 i (by omega)
/-- below a chosen triple: fertile, no longer, lower -/
theorem CH_sub {M : Mg} {L H : T3} {x p q r : Int} {S : Nat → Int} (hS : LHs M L H) (hx : Fe M L x p q) (h : CH M L H x p q r S) {k : Nat} (hk : k < (xl M r).toNat) (hy : ¬ xy M r k < 100) : Fe M L (xy M r k - 100) (S k) (S (k + 1)) ∧ L (xy M r k - 100) (S k) (S (k + 1)) ≤ L x p q ∧ H (xy M r k - 100) (S k) (S (k + 1)) < H x p q := by
  obtain ⟨a1, a2, a3, a4, a5, C, a6⟩ := h
  obtain ⟨⟨c1, g1, c', g', n1, n2, n3, n4, n5, n6⟩, -, -⟩ := a6.2.2 k hk
  have hC := (sts_wk hS hx.2.1 k (sts_mono a6 (by omega))).2
  obtain ⟨g, -, hw⟩ := hC
  have b1 := wk_b hS (fun _ _ _ h => h) _ _ _ _ hw
  have b2 := lw_b hS (fun _ _ _ h => h) _ _ _ _ n4
  unfold stk at n2
  rw [if_neg hy] at n2
  obtain ⟨f1, f2, f3⟩ := n2
  refine ⟨f1, ?_, by rw [← f3]; exact n3⟩
  rcases hS.1 _ _ _ f1.1 f1.2.1 f1.2.2.1 with z | ⟨z1, z2, z3⟩
  · exact absurd z f1.2.2.2
  · have := z1.2
    rw [← f2] at this ⊢
    omega
theorem fit_ex {M : Mg} {L H : T3} {x p q : Int} (hM : Mok M) (hS : LHs M L H) (hx : Fe M L x p q) : ∃ r : Int, 0 ≤ r ∧ r < xr M ∧ xh M r = x ∧ fit M L H x p q r := by
  obtain ⟨r, c, g, r0, r1, rx, hw, hc, hg⟩ := hS.2.2 x p q hx
  have hl := (hM.2.2.2.2.1 r r0 r1).2.1
  have := wk_rev hS (fun _ _ _ h => h) (q := q) (xl M r).toNat 0 q c g 0 0 (by omega) hx.2.2.1 hw ⟨rfl, rfl, rfl⟩
  have b := wk_b hS (fun _ _ _ h => h) _ _ _ _ hw
  rw [Int.add_zero, show max g 0 = g by omega] at this
  exact ⟨r, r0, r1, rx, c, g, this, by omega, hc⟩
/-- whatever way a rule has from p to q, it is not shorter -/
theorem way_ge {M : Mg} {L H : T3} {p q r o C c' g' : Int} {k : Nat} (hS : LHs M L H) (r0 : 0 ≤ r) (r1 : r < xr M) (hl : (k : Int) ≤ xl M r) (hp : iR (xn M) p) (hq : iR (xn M) q) (ho : iR (xn M) o) {g : Int} (g0 : 0 ≤ g) (hw : wk M (Fe M L) L H r p k o C g) (hr : lw M (Fe M L) L H r q ((xl M r).toNat - k) o c' g') : L (xh M r) p q ≤ min 4000000000000000000 (C + c') :=
  (hS.2.1 r p q (C + c') (max g g') r0 r1 hp hq (wk_lw ((xl M r).toNat - k) k o C g c' g' (by omega) ho hw hr g0)).1
