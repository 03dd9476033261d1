/-! The other side's chosen tree: what its numbers say -/
def agr (M : Mg) (L H L' H' : T3) : Prop := ∀ x o q, iR (xv M) x → iR (xn M) o → iR (xn M) q → L x o q = L' x o q ∧ (L x o q ≠ 6000000000000000000 → H x o q = H' x o q)
theorem agr_sy {M : Mg} {L H L' H' : T3} (h : agr M L H L' H') : agr M L' H' L H := fun x o q hx ho hq => by
  obtain ⟨h1, h2⟩ := h x o q hx ho hq
  exact ⟨h1.symm, fun hn => (h2 (by rw [h1]; exact hn)).symm⟩
theorem Fe_agr {M : Mg} {L H L' H' : T3} (h : agr M L H L' H') {x o q : Int} (hf : Fe M L x o q) : Fe M L' x o q ∧ L x o q = L' x o q ∧ H x o q = H' x o q := by
  obtain ⟨a1, a2, a3, a4⟩ := hf
  obtain ⟨h1, h2⟩ := h x o q a1 a2 a3
  exact ⟨⟨a1, a2, a3, by rw [← h1]; exact a4⟩, h1, h2 a4⟩
theorem stk_agr {M : Mg} {L H L' H' : T3} (h : agr M L H L' H') {s o q c g : Int} (hs : stk M (Fe M L) L H s o q c g) : stk M (Fe M L') L' H' s o q c g := by
  unfold stk at hs ⊢
  by_cases e : s < 100
  · rw [if_pos e] at hs ⊢
    exact hs
  · rw [if_neg e] at hs ⊢
    obtain ⟨f1, f2, f3⟩ := Fe_agr h hs.1
    exact ⟨f1, by rw [← f2]; exact hs.2.1, by rw [← f3]; exact hs.2.2⟩
theorem lw_agr {M : Mg} {L H L' H' : T3} (h : agr M L H L' H') {r q : Int} : ∀ (j : Nat) (o c g : Int), lw M (Fe M L) L H r q j o c g → lw M (Fe M L') L' H' r q j o c g
  | 0, _, _, _, w => w
  | j + 1, o, c, g, ⟨b, c1, g1, c', g', h1, h2, h3, h4, h5⟩ => ⟨b, c1, g1, c', g', h1, stk_agr h h2, lw_agr h j b c' g' h3, h4, h5⟩
theorem fit_agr {M : Mg} {L H L' H' : T3} (h : agr M L H L' H') {x p q r : Int} (hx : Fe M L x p q) (hf : fit M L H x p q r) : fit M L' H' x p q r := by
  obtain ⟨-, f2, f3⟩ := Fe_agr h hx
  obtain ⟨c, g, h1, h2, h3⟩ := hf
  exact ⟨c, g, lw_agr h _ _ _ _ h1, by rw [← f3]; exact h2, by rw [← f2]; exact h3⟩
theorem nx_agr {M : Mg} {L H L' H' : T3} (h : agr M L H L' H') {x p q r o C b : Int} {k : Nat} (hx : Fe M L x p q) (hn : nx M L H x p q r k o C b) : nx M L' H' x p q r k o C b := by
  obtain ⟨-, f2, f3⟩ := Fe_agr h hx
  obtain ⟨c1, g1, c', g', n1, n2, n3, n4, n5, n6⟩ := hn
  exact ⟨c1, g1, c', g', n1, stk_agr h n2, by rw [← f3]; exact n3, lw_agr h _ _ _ _ n4, by rw [← f3]; exact n5, by rw [← f2]; exact n6⟩
theorem CH_agr {M : Mg} {L H L' H' : T3} (h : agr M L H L' H') {x p q r : Int} {S : Nat → Int} (hx : Fe M L x p q) (hc : CH M L H x p q r S) : CH M L' H' x p q r S := by
  obtain ⟨hx', -, -⟩ := Fe_agr h hx
  obtain ⟨a1, a2, a3, a4, a5, C, a6, a7, a8⟩ := hc
  refine ⟨a1, a2, a3, fit_agr h hx a4, fun r' q1 q2 q3 hf => a5 r' q1 q2 q3 (fit_agr (agr_sy h) hx' hf), C, a6, a7, fun i hi => ?_⟩
  obtain ⟨b1, b2, c1, g1, b3, b4⟩ := a8 i hi
  exact ⟨nx_agr h hx b1, fun b b0 hb hn => b2 b b0 hb (nx_agr (agr_sy h) hx' hn), c1, g1, stk_agr h b3, b4⟩
theorem stT_stk {u w : uS} {nv nr n mk : Nat} {m r : Int} (hG : GMc u nv nr n mk) (hE : sideE u nr n mk m) (r0 : 0 ≤ r) (r1 : r < nr) {k : Nat} (hk : (k : Int) < u.1 9 r) {o q c g : Int} (ho : iR n o) (hq : iR n q) : stT (w.1 324) (w.1 325) (dlR u m) (rwR u r k) o q c g ↔ stk (mOf u mk nv nr n) (Fe (mOf u mk nv nr n) (L3 w)) (L3 w) (H3 w) (lrw u r k) o q c g := by
  have er : rwR u r k = lrw u r k := ((hE.1 r r0 r1).2.2 k (by omega) hk)
  have hs : symR nv (lrw u r k) := (hG.2.2.2.2.1 r r0 r1).2.2.2 k (by omega) hk
  rw [er]
  unfold stT stk
  by_cases e : lrw u r k < 100
  · have hs' : 0 ≤ lrw u r k ∧ lrw u r k < 10 := by rcases hs with z | z <;> omega
    have := hE.2 o _ ho hs'.1 hs'.2
    rw [if_pos e, if_pos e]
    show (q = u.1 302 (400 * m + 10 * o + lrw u r k) ∧ _) ↔ (q = u.1 (mk + 1) (o * 10 + lrw u r k) ∧ _)
    rw [this]
  · have hx : iR nv (lrw u r k - 100) := by
      rcases hs with z | z
      · omega
      · exact ⟨by omega, by omega⟩
    rw [if_neg e, if_neg e]
    exact ⟨fun h => ⟨⟨hx, ho, hq, h.1⟩, h.2⟩, fun h => ⟨h.1.2.2.2, h.2⟩⟩
/-- ways back, saturated and plain -/
theorem wb_lw {u w : uS} {nv nr n mk : Nat} {m r q : Int} (hG : GMc u nv nr n mk) (hE : sideE u nr n mk m) (hS : LHs (mOf u mk nv nr n) (L3 w) (H3 w)) (r0 : 0 ≤ r) (r1 : r < nr) : ∀ (j : Nat), (j : Int) ≤ u.1 9 r → ∀ o c g, iR n o → (wb (w.1 324) (w.1 325) (dlR u m) (rwR u r) n q (u.1 9 r) j o c g ↔ ∃ c', lw (mOf u mk nv nr n) (Fe (mOf u mk nv nr n) (L3 w)) (L3 w) (H3 w) r q j o c' g ∧ c = min 4000000000000000000 c')
  | 0, _, o, c, g, _ => by
    constructor
    · rintro ⟨h1, h2, h3⟩
      exact ⟨0, ⟨h1, rfl, h3⟩, by omega⟩
    · rintro ⟨c', ⟨h1, h2, h3⟩, h4⟩
      exact ⟨h1, by omega, h3⟩
  | j + 1, hj, o, c, g, ho => by
    have ej : u.1 9 r - ((j : Int) + 1) = (((u.1 9 r).toNat - (j + 1) : Nat) : Int) := by omega
    have key : ∀ b c1 g1, iR n b → (stT (w.1 324) (w.1 325) (dlR u m) (rwR u r (u.1 9 r - ((j : Int) + 1))) o b c1 g1 ↔ stk (mOf u mk nv nr n) (Fe (mOf u mk nv nr n) (L3 w)) (L3 w) (H3 w) (lrw u r (u.1 9 r - ((j : Int) + 1))) o b c1 g1) := fun b c1 g1 hb => by
      rw [ej]
      exact stT_stk hG hE r0 r1 (by omega) ho hb
    constructor
    · rintro ⟨b, b0, b1, c', g', c1, g1, h1, h2, h3, h4⟩
      obtain ⟨cc, i1, i2⟩ := (wb_lw hG hE hS r0 r1 j (by omega) b c' g' ⟨b0, b1⟩).mp h1
      have hst := (key b c1 g1 ⟨b0, b1⟩).mp h2
      have s1 := (stk_b hS (fun _ _ _ h => h) hst).1
      have s2 := (lw_b hS (fun _ _ _ h => h) _ _ _ _ i1).1
      unfold cB at s1
      refine ⟨c1 + cc, ⟨b, c1, g1, cc, g', ⟨b0, b1⟩, hst, i1, rfl, by rw [h4]; omega⟩, ?_⟩
      rw [h3, i2]
      unfold sq
      omega
    · rintro ⟨cc, ⟨b, c1, g1, c', g', h1, h2, h3, h4, h5⟩, h6⟩
      have s1 := (stk_b hS (fun _ _ _ h => h) h2).1
      have s2 := (lw_b hS (fun _ _ _ h => h) _ _ _ _ h3).1
      unfold cB at s1
      refine ⟨b, h1.1, h1.2, min 4000000000000000000 c', g', c1, g1, (wb_lw hG hE hS r0 r1 j (by omega) b _ g' h1).mpr ⟨c', h3, rfl⟩, (key b c1 g1 h1).mpr h2, ?_, by rw [h5]; omega⟩
      rw [h6, h4]
      unfold sq
      omega
/-- a state can stand next: as the other side asks it -/
theorem nx_ref {M : Mg} {L H : T3} {x p q r b c1 g1 l h lo : Int} {S C : Nat → Int} {k : Nat} (hS : LHs M L H) (hx : Fe M L x p q) (r0 : 0 ≤ r) (r1 : r < xr M) (rh : xh M r = x) (hk : k < (xl M r).toNat) (hs : sts M L H x p q r S C k) (hb : iR (xn M) b) (hst : stk M (Fe M L) L H (xy M r k) (S k) b c1 g1) (hB : Bst (fun c g => ∃ c', lw M (Fe M L) L H r q ((xl M r).toNat - k - 1) b c' g ∧ c = min 4000000000000000000 c') l h lo) : nx M L H x p q r k (S k) (C k) b ↔ l ≠ 6000000000000000000 ∧ g1 < H x p q ∧ ((L x p q = 4000000000000000000 ∧ lo < H x p q) ∨ (L x p q ≠ 4000000000000000000 ∧ sq (sq (min 4000000000000000000 (C k)) c1) l = L x p q ∧ h < H x p q)) := by
  obtain ⟨i1, g0, g00, i2⟩ := sts_wk hS hx.2.1 k hs
  have hC := (wk_b hS (fun _ _ _ h => h) _ _ _ _ i2).1
  obtain ⟨fb, fh1, fh2⟩ := Fe_b hS hx
  have hc1 := (stk_b hS (fun _ _ _ h => h) hst).1
  unfold cB at fb hc1
  have hgl : ((k + 1 : Nat) : Int) ≤ xl M r := by clear hB; omega
  have ge : ∀ c' g', lw M (Fe M L) L H r q ((xl M r).toNat - k - 1) b c' g' → 0 ≤ c' ∧ L x p q ≤ min 4000000000000000000 (C k + c1 + c') := fun c' g' hl => by
    have := way_ge hS r0 r1 (k := k + 1) (p := p) (q := q) (o := b) (C := C k + c1) (g := max g0 g1) (c' := c') (g' := g') hgl hx.2.1 hx.2.2.1 hb (by clear hB; omega) ⟨S k, C k, g0, c1, g1, i1, i2, hst, rfl, rfl⟩ (by rw [show (xl M r).toNat - (k + 1) = (xl M r).toNat - k - 1 from (Nat.sub_sub _ _ _).symm]; exact hl)
    rw [rh] at this
    exact ⟨(lw_b hS (fun _ _ _ h => h) _ _ _ _ hl).1, this⟩
  obtain ⟨B1, B2, B3, B4, B5, B6, B7, B8, B9⟩ := hB
  constructor
  · rintro ⟨c2, g2, c', g', n1, n2, n3, n4, n5, n6⟩
    obtain ⟨f1, f2⟩ := stk_fun n2 hst
    rw [f1] at n6
    rw [f2] at n3
    have hW : ∃ c'', lw M (Fe M L) L H r q ((xl M r).toNat - k - 1) b c'' g' ∧ min 4000000000000000000 c' = min 4000000000000000000 c'' := ⟨c', n4, rfl⟩
    have h5 := B5 _ _ hW
    have hc0 := (ge c' g' n4).1
    refine ⟨by omega, n3, ?_⟩
    by_cases e : L x p q = 4000000000000000000
    · have := B8 _ _ hW
      exact Or.inl ⟨e, by omega⟩
    · have hl0 : l ≠ 6000000000000000000 := by omega
      rcases B6 with z | ⟨g3, c3, z1, z2⟩
      · omega
      · have h3 := ge c3 g3 z1
        have hl : l = c' := by omega
        have hlt : l < 4000000000000000000 := by omega
        have h7 := (B7 hlt).2 g' ⟨c', n4, by omega⟩
        refine Or.inr ⟨e, ?_, by omega⟩
        unfold sq
        omega
  · rintro ⟨h1, h2, h3⟩
    rcases h3 with ⟨e, h4⟩ | ⟨e, h4, h5⟩
    · rcases B9 with z | ⟨c, c', z1, z2⟩
      · omega
      · have := (ge c' lo z1).2
        exact ⟨c1, g1, c', lo, hb, hst, h2, z1, h4, by omega⟩
    · have hlb := lR_c B2 h1
      unfold cB at hlb
      unfold sq at h4
      obtain ⟨⟨c', z1, z2⟩, -⟩ := B7 (by omega)
      have := (ge c' h z1).1
      exact ⟨c1, g1, c', h, hb, hst, h2, z1, h5, by omega⟩
/-- a rule fits: as the other side asks it -/
theorem fit_ref {u w : uS} {nv nr n mk : Nat} {m r p q : Int} (hG : GMc u nv nr n mk) (hE : sideE u nr n mk m) (hF : FT u w nv nr n m) (hS : LHs (mOf u mk nv nr n) (L3 w) (H3 w)) (r0 : 0 ≤ r) (r1 : r < nr) (hp : iR n p) (hq : iR n q) (hx : Fe (mOf u mk nv nr n) (L3 w) (u.1 8 r) p q) : (w.1 326 (rix r p q) = w.1 324 (tix p (u.1 8 r) q) ∧ w.1 327 (rix r p q) = w.1 325 (tix p (u.1 8 r) q)) ↔ fit (mOf u mk nv nr n) (L3 w) (H3 w) (u.1 8 r) p q r := by
  obtain ⟨h, lo, hB, h327⟩ := hF.2.2.2.2.2 r p q r0 r1 hp hq
  have el : (u.1 276 r).toNat = (u.1 9 r).toNat := by rw [(hE.1 r r0 r1).2.1]
  have hlen := (hG.2.2.2.2.1 r r0 r1).2.1
  rw [el] at hB
  obtain ⟨B1, B2, B3, B4, B5, B6, B7, B8, B9⟩ := hB
  obtain ⟨fb, fh1, fh2⟩ := Fe_b hS hx
  unfold cB at fb
  have eL : w.1 324 (tix p (u.1 8 r) q) = L3 w (u.1 8 r) p q := rfl
  have eH : w.1 325 (tix p (u.1 8 r) q) = H3 w (u.1 8 r) p q := rfl
  rw [eL, eH]
  have tofit : ∀ c g, wy (w.1 324) (w.1 325) (dlR u m) (rwR u r) n p (u.1 9 r).toNat q c g → c = L3 w (u.1 8 r) p q → g < H3 w (u.1 8 r) p q → fit (mOf u mk nv nr n) (L3 w) (H3 w) (u.1 8 r) p q r := fun c g hw ec hg => by
    obtain ⟨c', c0, e1, hw'⟩ := wy_wk hG hE hF r0 r1 _ (by omega) q c g hq hw
    have hb := wk_b hS (fun _ _ _ h => h) _ _ _ _ hw'
    have := wk_rev hS (fun _ _ _ h => h) (q := q) (u.1 9 r).toNat 0 q c' g 0 0 (by show (((u.1 9 r).toNat : Nat) : Int) + ((0 : Nat) : Int) = u.1 9 r; omega) hq hw' ⟨rfl, rfl, rfl⟩
    rw [Int.add_zero, show max g 0 = g by omega] at this
    exact ⟨c', g, this, hg, by rw [← e1]; exact ec⟩
  have lower : ∀ c g, wy (w.1 324) (w.1 325) (dlR u m) (rwR u r) n p (u.1 9 r).toNat q c g → L3 w (u.1 8 r) p q ≤ c ∧ (L3 w (u.1 8 r) p q = c → H3 w (u.1 8 r) p q ≤ g + 1) := fun c g hw => by
    obtain ⟨c', c0, e1, hw'⟩ := wy_wk hG hE hF r0 r1 _ (by omega) q c g hq hw
    have := hS.2.1 r p q c' g r0 r1 hp hq hw'
    rw [← e1] at this
    exact this
  constructor
  · rintro ⟨k1, k2⟩
    rw [h327, k1] at k2
    by_cases e : L3 w (u.1 8 r) p q = 4000000000000000000
    · rw [if_pos e] at k2
      rcases B9 with z | ⟨c, z⟩
      · omega
      · have h5 := B5 c lo z
        have h6 := (B1 c lo z).1.2
        exact tofit c lo z (by omega) (by omega)
    · rw [if_neg e] at k2
      have := (B7 (by omega)).1
      exact tofit _ h this k1 (by omega)
  · rintro ⟨c, g, h1, h2, h3⟩
    have hwk := wk_lw (p := p) (u.1 9 r).toNat 0 p 0 0 c g (by show ((0 : Nat) : Int) + (((u.1 9 r).toNat : Nat) : Int) = u.1 9 r; omega) hp ⟨rfl, rfl, rfl⟩ h1 (Int.le_refl 0)
    have hg0 := (lw_b hS (fun _ _ _ h => h) _ _ _ _ h1).2.1
    rw [Int.zero_add, show max 0 g = g by omega] at hwk
    obtain ⟨-, hwy⟩ := wk_wy hG hE hF r0 r1 _ (by show (((u.1 9 r).toNat : Nat) : Int) ≤ u.1 9 r; omega) q c g hq hwk
    rw [h3] at hwy
    have b5 := B5 _ _ hwy
    have h26 : w.1 326 (rix r p q) = L3 w (u.1 8 r) p q := by
      rcases B6 with z | ⟨g', z⟩
      · omega
      · have := (lower _ _ z).1
        omega
    refine ⟨h26, ?_⟩
    rw [h327, h26]
    by_cases e : L3 w (u.1 8 r) p q = 4000000000000000000
    · rw [if_pos e]
      have b8 := B8 _ _ hwy
      rcases B9 with z | ⟨c', z⟩
      · omega
      · have h5 := (lower c' lo z).1
        have h6 := (B1 c' lo z).1.2
        have := (lower c' lo z).2 (by omega)
        omega
    · rw [if_neg e]
      obtain ⟨b7, b7'⟩ := B7 (by omega)
      rw [h26] at b7 b7'
      have := b7' g hwy
      have := (lower _ _ b7).2 rfl
      omega
