/-! The witness: least lengths of rests -/
def mnv (W : Int → Prop) (v : Int) : Prop := (∀ c, W c → 0 ≤ c ∧ v ≤ min 4000000000000000000 c) ∧ ((v = 9000000000000000000 ∧ ∀ c, ¬ W c) ∨ ∃ c, W c ∧ v = min 4000000000000000000 c)
theorem mnv_cn {W : Int → Prop} {v : Int} (h : mnv W v) : cn 9000000000000000000 v := by
  rcases h.2 with ⟨z, -⟩ | ⟨c, z1, z2⟩
  · exact Or.inl z
  · have := h.1 c z1
    exact Or.inr (by omega)
theorem mnv_rL {W : Int → Prop} {v : Int} (h : mnv W v) : rL v := by
  rcases mnv_cn h with z | z
  · rw [z]; exact ⟨by omega, by omega⟩
  · exact ⟨by omega, by omega⟩
theorem mnv_congr {W W' : Int → Prop} {v : Int} (h : mnv W v) (e : ∀ c, W c ↔ W' c) : mnv W' v := by
  have : W = W' := by
    funext c
    exact propext (e c)
  rw [← this]
  exact h
theorem mnv_emp : mnv (fun _ => False) 9000000000000000000 := ⟨fun _ h => h.elim, Or.inl ⟨rfl, fun _ h => h⟩⟩
theorem mnv_or {W W' : Int → Prop} {a b : Int} (h : mnv W a) (h' : mnv W' b) : mnv (fun c => W c ∨ W' c) (min a b) := by
  have ca := mnv_cn h
  have cb := mnv_cn h'
  unfold cn at ca cb
  refine ⟨fun c hc => ?_, ?_⟩
  · rcases hc with z | z
    · have := h.1 c z
      omega
    · have := h'.1 c z
      omega
  · rcases h.2 with ⟨z1, z2⟩ | ⟨c, z1, z2⟩
    · rcases h'.2 with ⟨y1, y2⟩ | ⟨c', y1, y2⟩
      · exact Or.inl ⟨by omega, fun c hc => by rcases hc with q | q; exact z2 c q; exact y2 c q⟩
      · have := h'.1 c' y1
        exact Or.inr ⟨c', Or.inr y1, by omega⟩
    · have hz := h.1 c z1
      rcases h'.2 with ⟨y1, y2⟩ | ⟨c', y1, y2⟩
      · exact Or.inr ⟨c, Or.inl z1, by omega⟩
      · have := h'.1 c' y1
        by_cases e : a ≤ b
        · exact Or.inr ⟨c, Or.inl z1, by omega⟩
        · exact Or.inr ⟨c', Or.inr y1, by omega⟩
theorem mnv_add {W : Int → Prop} {v c1 : Int} (h : mnv W v) (hc : cB c1) : mnv (fun c => ∃ c', W c' ∧ c = c1 + c') (pl 9000000000000000000 c1 v) := by
  unfold cB at hc
  rcases h.2 with ⟨z1, z2⟩ | ⟨c0, z1, z2⟩
  · refine ⟨fun c ⟨c', q1, q2⟩ => absurd q1 (z2 c'), Or.inl ⟨?_, fun c ⟨c', q1, q2⟩ => z2 c' q1⟩⟩
    unfold pl
    rw [if_pos (Or.inr z1)]
  · have h0 := h.1 c0 z1
    have e : pl 9000000000000000000 c1 v = min 4000000000000000000 (c1 + c0) := by
      unfold pl
      rw [if_neg (by omega)]
      omega
    rw [e]
    refine ⟨fun c ⟨c', q1, q2⟩ => ?_, Or.inr ⟨c1 + c0, ⟨c0, z1, rfl⟩, rfl⟩⟩
    have := h.1 c' q1
    omega
/-- lengths of rests -/
def lkw (M : Mg) (K : P3) (L H : T3) (r q : Int) (j : Nat) (o c : Int) : Prop := ∃ g, lw M K L H r q j o c g
theorem lkw_succ {M : Mg} {K : P3} {L H : T3} {r q : Int} {j : Nat} {o c : Int} : lkw M K L H r q (j + 1) o c ↔ ∃ b c1 g1 c', iR (xn M) b ∧ stk M K L H (xy M r (xl M r - ((j : Int) + 1))) o b c1 g1 ∧ lkw M K L H r q j b c' ∧ c = c1 + c' := by
  constructor
  · rintro ⟨g, b, c1, g1, c', g', h1, h2, h3, h4, h5⟩
    exact ⟨b, c1, g1, c', h1, h2, ⟨g', h3⟩, h4⟩
  · rintro ⟨b, c1, g1, c', h1, h2, ⟨g', h3⟩, h4⟩
    exact ⟨max g1 g', b, c1, g1, c', g', h1, h2, h3, h4, rfl⟩
abbrev Kl (K : P3) (H : T3) (h : Int) : P3 := fun x o b => K x o b ∧ H x o b < h
/-- what a set of known triples has to hold for a triple to be chosen by it -/
def clK (M : Mg) (L H : T3) (K : P3) (x p q : Int) : Prop := (∀ x o b, K x o b → Fe M L x o b) ∧ ∀ x' o' b', Fe M L x' o' b' → L x' o' b' ≤ L x p q → H x' o' b' < H x p q → K x' o' b'
theorem Fe_b {M : Mg} {L H : T3} {x p q : Int} (hS : LHs M L H) (h : Fe M L x p q) : cB (L x p q) ∧ 1 ≤ H x p q ∧ H x p q ≤ 16000 := by
  rcases hS.1 x p q h.1 h.2.1 h.2.2.1 with z | z
  · exact absurd z h.2.2.2
  · exact z
theorem lw_to {M : Mg} {L H : T3} {K : P3} {x p q r : Int} (hS : LHs M L H) (hx : Fe M L x p q) (hK : clK M L H K x p q) {j : Nat} {o C c g : Int} (C0 : 0 ≤ C) (h : lw M (Fe M L) L H r q j o c g) (hg : g < H x p q) (hc : min 4000000000000000000 (C + c) = L x p q) : lkw M (Kl K H (H x p q)) L H r q j o c := by
  have h1 := lw_low j o c g h hg
  refine ⟨g, lw_in hS (fun _ _ _ h => h.1) j o c g h1 (fun x' o' b' hk hl => ⟨hK.2 x' o' b' hk.1 ?_ hk.2, hk.2⟩)⟩
  have := (Fe_b hS hk.1).1.2
  omega
theorem lkw_of {M : Mg} {L H : T3} {K : P3} {x p q r : Int} (hS : LHs M L H) (hx : Fe M L x p q) (hK : clK M L H K x p q) {j : Nat} {o c : Int} (h : lkw M (Kl K H (H x p q)) L H r q j o c) : ∃ g, lw M (Fe M L) L H r q j o c g ∧ g < H x p q := by
  obtain ⟨g, h⟩ := h
  have := (Fe_b hS hx).2.1
  exact ⟨g, lw_mono (fun _ _ _ h => hK.1 _ _ _ h.1) _ _ _ _ h, lw_hb (by omega) (fun _ _ _ h => h.2) _ _ _ _ h⟩
theorem fit_val {M : Mg} {L H : T3} {K : P3} {x p q r v : Int} (hS : LHs M L H) (hx : Fe M L x p q) (hK : clK M L H K x p q) (r0 : 0 ≤ r) (r1 : r < xr M) (rl : 0 ≤ xl M r) (rh : xh M r = x) (hv : mnv (lkw M (Kl K H (H x p q)) L H r q (xl M r).toNat p) v) : v = L x p q ↔ fit M L H x p q r := by
  have hb := (Fe_b hS hx).1
  unfold cB at hb
  have ge : ∀ c, lkw M (Kl K H (H x p q)) L H r q (xl M r).toNat p c → L x p q ≤ min 4000000000000000000 c := fun c hc => by
    obtain ⟨g, h1, h2⟩ := lkw_of hS hx hK hc
    have := way_ge hS r0 r1 (k := 0) (p := p) (q := q) (o := p) (C := 0) (g := 0) (c' := c) (g' := g) (by omega) hx.2.1 hx.2.2.1 hx.2.1 (Int.le_refl 0) ⟨rfl, rfl, rfl⟩ h1
    rw [rh, Int.zero_add] at this
    exact this
  constructor
  · intro e
    rcases hv.2 with ⟨z1, z2⟩ | ⟨c, z1, z2⟩
    · omega
    · obtain ⟨g, h1, h2⟩ := lkw_of hS hx hK z1
      exact ⟨c, g, h1, h2, by omega⟩
  · rintro ⟨c, g, h1, h2, h3⟩
    have h4 := lw_to hS hx hK (C := 0) (Int.le_refl 0) h1 h2 (by rw [Int.zero_add]; exact h3)
    have h5 := hv.1 c h4
    rcases hv.2 with ⟨z1, z2⟩ | ⟨c', z1, z2⟩
    · exact absurd h4 (z2 c)
    · have := ge c' z1
      omega
theorem nx_val {M : Mg} {L H : T3} {K : P3} {x p q r v b : Int} {S C : Nat → Int} {m : Nat} (hS : LHs M L H) (hx : Fe M L x p q) (hK : clK M L H K x p q) (r0 : 0 ≤ r) (r1 : r < xr M) (rh : xh M r = x) (hm : m < (xl M r).toNat) (hs : sts M L H x p q r S C m) (hy : ¬ xy M r m < 100) (hk : K (xy M r m - 100) (S m) b) (hv : mnv (lkw M (Kl K H (H x p q)) L H r q ((xl M r).toNat - m - 1) b) v) : (H (xy M r m - 100) (S m) b < H x p q ∧ pl 9000000000000000000 (pl 9000000000000000000 (min 4000000000000000000 (C m)) (L (xy M r m - 100) (S m) b)) v = L x p q) ↔ nx M L H x p q r m (S m) (C m) b := by
  obtain ⟨i1, g0, g00, i2⟩ := sts_wk hS hx.2.1 m hs
  have hC := (wk_b hS (fun _ _ _ h => h) _ _ _ _ i2).1
  have hb := (Fe_b hS hx).1
  unfold cB at hb
  have hf := hK.1 _ _ _ hk
  have hp := (Fe_b hS hf).1
  unfold cB at hp
  have hstk : stk M (Fe M L) L H (xy M r m) (S m) b (L (xy M r m - 100) (S m) b) (H (xy M r m - 100) (S m) b) := by
    unfold stk
    rw [if_neg hy]
    exact ⟨hf, rfl, rfl⟩
  have e1 : pl 9000000000000000000 (min 4000000000000000000 (C m)) (L (xy M r m - 100) (S m) b) = min 4000000000000000000 (C m + L (xy M r m - 100) (S m) b) := by
    unfold pl
    rw [if_neg (by omega)]
    omega
  rw [e1]
  have e2 : ∀ c, 0 ≤ c → v = min 4000000000000000000 c → pl 9000000000000000000 (min 4000000000000000000 (C m + L (xy M r m - 100) (S m) b)) v = min 4000000000000000000 (C m + L (xy M r m - 100) (S m) b + c) := fun c h0 h1 => by
    unfold pl
    rw [if_neg (by omega)]
    omega
  constructor
  · rintro ⟨h1, h2⟩
    rcases hv.2 with ⟨z1, z2⟩ | ⟨c, z1, z2⟩
    · exfalso
      have : pl 9000000000000000000 (min 4000000000000000000 (C m + L (xy M r m - 100) (S m) b)) v = 9000000000000000000 := by
        unfold pl
        rw [if_pos (Or.inr z1)]
      omega
    · have h3 := hv.1 c z1
      rw [e2 c h3.1 z2] at h2
      obtain ⟨g, h4, h5⟩ := lkw_of hS hx hK z1
      exact ⟨_, _, c, g, hf.2.2.1, hstk, h1, h4, h5, h2⟩
  · rintro ⟨c1, g1, c', g', n1, n2, n3, n4, n5, n6⟩
    obtain ⟨f1, f2⟩ := stk_fun n2 hstk
    rw [f1] at n6
    rw [f2] at n3
    refine ⟨n3, ?_⟩
    have h4 := lw_to hS hx hK (C := C m + L (xy M r m - 100) (S m) b) (by omega) n4 n5 n6
    have h5 := hv.1 c' h4
    rcases hv.2 with ⟨z1, z2⟩ | ⟨c2, z1, z2⟩
    · exact absurd h4 (z2 c')
    · rw [e2 c2 (hv.1 c2 z1).1 z2]
      obtain ⟨g2, h6, -⟩ := lkw_of hS hx hK z1
      have := way_ge hS r0 r1 (k := m + 1) (p := p) (q := q) (o := b) (C := C m + L (xy M r m - 100) (S m) b) (g := max g0 (H (xy M r m - 100) (S m) b)) (c' := c2) (g' := g2) (by omega) hx.2.1 hx.2.2.1 n1 (by omega) ⟨S m, C m, g0, _, _, i1, i2, hstk, rfl, rfl⟩ (by rw [show (xl M r).toNat - (m + 1) = (xl M r).toNat - m - 1 by omega]; exact h6)
      rw [rh] at this
      omega
