/-! The first side: numbers of empty trees -/
theorem row_mem {f : Int → Int} : ∀ (m : Nat) (i s : Int), s ∈ rowF f m i ↔ ∃ k : Int, i ≤ k ∧ k < i + m ∧ f k = s
  | 0, i, s => ⟨fun h => (by cases h), fun ⟨k, h1, h2, _⟩ => by omega⟩
  | m + 1, i, s => by
    simp only [rowF]
    rw [List.mem_cons, row_mem m (i + 1) s]
    constructor
    · rintro (h | ⟨k, h1, h2, h3⟩)
      · exact ⟨i, Int.le_refl _, by omega, h.symm⟩
      · exact ⟨k, by omega, by omega, h3⟩
    · rintro ⟨k, h1, h2, h3⟩
      by_cases e : k = i
      · rw [e] at h3
        exact Or.inl h3.symm
      · exact Or.inr ⟨k, by omega, by omega, h3⟩
def cA (u : uS) (g : Gm) : Prop := u.2 36 0 = 6 ∧ u.1 6 0 = gv g ∧ u.1 6 1 = gr g ∧ (∀ r : Int, 0 ≤ r → r < gr g → u.1 8 r = gh g r ∧ u.1 9 r = gl g r ∧ ∀ k, 0 ≤ k → k < gl g r → u.1 10 (r * 6 + k) = gy g r k) ∧ ∀ x, iR (gv g) x → rL (u.1 11 x) ∧ (u.1 11 x = 0 ↔ gb g x)
theorem cA_of {u u' : uS} {g : Gm} (h : cA u g) (h2 : u'.2 = u.2) (h6 : u'.1 6 = u.1 6) (h8 : u'.1 8 = u.1 8) (h9 : u'.1 9 = u.1 9) (h10 : u'.1 10 = u.1 10) (h11 : u'.1 11 = u.1 11) : cA u' g := by
  unfold cA at h ⊢
  rw [h2, h6, h8, h9, h10, h11]
  exact h
theorem cA_gR {u : uS} {g : Gm} (hg : gK g) (h : cA u g) {r : Int} (r0 : 0 ≤ r) (r1 : r < gr g) : gR u 6 r := by
  obtain ⟨g1, g2, g3, g4⟩ := hg
  obtain ⟨x1, x2, x3, x4⟩ := g3 r r0 r1
  obtain ⟨y1, y2, y3⟩ := h.2.2.2.1 r r0 r1
  refine ⟨r0, by omega, ?_⟩
  show 0 ≤ u.1 9 r ∧ u.1 9 r ≤ 6 ∧ ∀ d, 0 ≤ d → d < u.1 9 r → 0 ≤ u.1 10 (r * 6 + d) ∧ u.1 10 (r * 6 + d) < 110
  rw [y2]
  refine ⟨x2, x3, fun k k0 k1 => ?_⟩
  rw [y3 k k0 k1]
  rcases x4 k k0 k1 with z | z <;> omega
theorem cA_row {u : uS} {g : Gm} (hg : gK g) (h : cA u g) {r : Int} (r0 : 0 ≤ r) (r1 : r < gr g) (s : Int) : s ∈ row u 6 r ↔ ∃ k : Int, 0 ≤ k ∧ k < gl g r ∧ gy g r k = s := by
  obtain ⟨g1, g2, g3, g4⟩ := hg
  obtain ⟨x1, x2, x3, x4⟩ := g3 r r0 r1
  obtain ⟨y1, y2, y3⟩ := h.2.2.2.1 r r0 r1
  show s ∈ rowF (fun d => u.1 10 (r * 6 + d)) (u.1 9 r).toNat 0 ↔ _
  rw [row_mem, y2]
  constructor
  · rintro ⟨k, k0, k1, k2⟩
    exact ⟨k, k0, by omega, by rw [← y3 k k0 (by omega)]; exact k2⟩
  · rintro ⟨k, k0, k1, k2⟩
    exact ⟨k, k0, by omega, by rw [← k2]; exact y3 k k0 k1⟩
theorem q_106 {d : Nat} {u : uS} {g : Gm} {r bl : Int} (hg : gK g) (hA : cA u g) (r0 : 0 ≤ r) (r1 : r < gr g) (hbl : ∀ x, iR (gv g) x → (bi bl x.toNat = true ↔ gb g x)) : cI (d + 4) 106 [.ref 36, iV r, iV bl] u (fun c u' => u' = u ∧ ((c = 1 ∧ bR g r) ∨ (c = 0 ∧ ¬ bR g r))) := by
  obtain ⟨g1, g2, g3, g4⟩ := id hg
  obtain ⟨a0, a1, a2, a3, a4⟩ := id hA
  obtain ⟨x1, x2, x3, x4⟩ := g3 r r0 r1
  obtain ⟨y1, y2, y3⟩ := a3 r r0 r1
  have loop : ∀ (m : Nat) (k : Int), 0 ≤ k → k + m = gl g r → (∀ k', 0 ≤ k' → k' < k → 100 ≤ gy g r k') → K_106 (d + 3) 2 [.ref 36, iV r, iV bl, iV k] [] u (fun c u' => u' = u ∧ ((c = 1 ∧ bR g r) ∨ (c = 0 ∧ ¬ bR g r))) := by
    intro m
    induction m with
    | zero =>
      intro k k0 ke hk
      refine k_106_2 ?_
      rw [a0, show u.1 (6 + 3) = u.1 9 from rfl, y2]
      refine ⟨sx_6, r0, by omega, ⟨by omega, by omega⟩, ⟨by omega, by omega⟩, ?_⟩
      rw [if_neg (by omega)]
      refine cI.mono (p_46 (d := d + 1) (a := 6) sx_6 (cA_gR hg hA r0 r1)) (Nat.le_refl _) (fun c u' ⟨e1, e2⟩ => ?_)
      have hw : wth bl (row u 6 r) = true ↔ bR g r := by
        rw [wth_iff]
        constructor
        · intro h k' z0 z1
          have h100 := hk k' z0 (by omega)
          refine ⟨h100, ?_⟩
          have := h (gy g r k') ((cA_row hg hA r0 r1 _).mpr ⟨k', z0, z1, rfl⟩) h100
          refine (hbl _ ?_).mp this
          rcases x4 k' z0 z1 with z | z
          · omega
          · exact ⟨by omega, by omega⟩
        · intro h s hs h100
          obtain ⟨k', z0, z1, e⟩ := (cA_row hg hA r0 r1 _).mp hs
          rw [← e]
          refine (hbl _ ?_).mpr (h k' z0 z1).2
          rcases x4 k' z0 z1 with z | z
          · omega
          · exact ⟨by omega, by omega⟩
      rw [e1, e2]
      cases hb : wth bl (row u 6 r) with
      | true => exact ⟨by decide, rfl, Or.inl ⟨rfl, hw.mp hb⟩⟩
      | false => exact ⟨by decide, rfl, Or.inr ⟨rfl, fun h => by rw [hw.mpr h] at hb; cases hb⟩⟩
    | succ m ih =>
      intro k k0 ke hk
      have hs := x4 k k0 (by omega)
      refine k_106_2 ?_
      rw [a0, show u.1 (6 + 3) = u.1 9 from rfl, show u.1 (6 + 4) = u.1 10 from rfl, y2]
      refine ⟨sx_6, r0, by omega, ⟨by omega, by omega⟩, ⟨by omega, by omega⟩, ?_⟩
      rw [if_pos (by omega), y3 k k0 (by omega)]
      refine ⟨by omega, by omega, by rcases hs with z | z <;> exact ⟨by omega, by omega⟩, ?_⟩
      by_cases h1 : gy g r k < 100
      · rw [if_pos h1]
        exact ⟨rfl, Or.inr ⟨rfl, fun h => by have := (h k k0 (by omega)).1; omega⟩⟩
      · rw [if_neg h1]
        refine ih (k + 1) (by omega) (by omega) (fun k' z0 z1 => ?_)
        by_cases e : k' = k
        · rw [e]; omega
        · exact hk k' z0 (by omega)
  exact e_106 (loop (gl g r).toNat 0 (Int.le_refl 0) (by omega) (fun k' z0 z1 => by omega))
theorem clo1_rI {v : Int} : ∀ (m : Nat) (i : Int) (g : Int → Int), (∀ x : Int, 0 ≤ x → x < 10 → rI (g x)) → ∀ x : Int, 0 ≤ x → x < 10 → rI (clo1 v m i g x)
  | 0, _, _, h => h
  | m + 1, i, g, h => by
    show ∀ x : Int, 0 ≤ x → x < 10 → rI (clo1 v m (i + 1) (if bi (g i) v.toNat = true then (fun j => if j = i then ior (g i) (g v) else g j) else g) x)
    refine clo1_rI m (i + 1) _ (fun x x0 x1 => ?_)
    split
    · show rI (if x = i then ior (g i) (g v) else g x)
      split
      · exact ri_ior _ _
      · exact h x x0 x1
    · exact h x x0 x1
theorem clo2_rI {n : Nat} : ∀ (m : Nat) (v : Int) (g : Int → Int), (∀ x : Int, 0 ≤ x → x < 10 → rI (g x)) → ∀ x : Int, 0 ≤ x → x < 10 → rI (clo2 n m v g x)
  | 0, _, _, h => h
  | m + 1, v, g, h => clo2_rI m (v + 1) _ (clo1_rI n 0 g h)
theorem q_107 {d nv : Nat} {u : uS} (a0 : u.2 36 0 = 6) (a1 : u.1 6 0 = nv) (hv : nv ≤ 10) : cI (d + 3) 107 [.ref 36] u (fun c u' => u'.2 = u.2 ∧ sb1 u u' [50] ∧ tcR nv (fun x y => bi (u.1 50 x) y.toNat = true) (fun x y => bi (u'.1 50 x) y.toNat = true) ∧ ((∀ x : Int, 0 ≤ x → x < 10 → rI (u.1 50 x)) → ∀ x : Int, 0 ≤ x → x < 10 → rI (u'.1 50 x)) ∧ ∀ i : Nat, bi c i = true ↔ i < nv ∧ bi (u'.1 50 (i : Int)) i = true) := by
  generalize hQQ : (fun (c : Int) (u' : uS) => u'.2 = u.2 ∧ sb1 u u' [50] ∧ tcR nv (fun x y => bi (u.1 50 x) y.toNat = true) (fun x y => bi (u'.1 50 x) y.toNat = true) ∧ ((∀ x : Int, 0 ≤ x → x < 10 → rI (u.1 50 x)) → ∀ x : Int, 0 ≤ x → x < 10 → rI (u'.1 50 x)) ∧ ∀ i : Nat, bi c i = true ↔ i < nv ∧ bi (u'.1 50 (i : Int)) i = true) = Q
  refine e_107 ?_
  rw [a0, a1]
  refine ⟨sx_6, cV.mono (q_60 (d := d) (a := 50) (N := 10) sx_50 hv (by omega)) (Nat.le_refl _) (fun v ⟨hs, hv50⟩ => ?_)⟩
  have htc := clo2_tc (n := nv) (u.1 50)
  rw [← hv50] at htc
  have e6 : v.1 6 = u.1 6 := hs.2 _ (by decide)
  have loop : ∀ (m : Nat) (x l : Int), 0 ≤ x → x + m = nv → (∀ i : Nat, bi l i = true ↔ (i : Int) < x ∧ bi (v.1 50 (i : Int)) i = true) → K_107 (d + 2) 18 [.ref 36, iV l, iV x] [] v Q := by
    intro m
    induction m with
    | zero =>
      intro x l x0 xe hl
      refine k_107_18 ?_
      rw [hs.1, a0, e6, a1]
      refine ⟨sx_6, ⟨by omega, by omega⟩, ⟨by omega, by omega⟩, ?_⟩
      rw [if_neg (by omega), ← hQQ]
      refine ⟨hs.1, hs.2, htc, fun h x z0 z1 => by rw [hv50]; exact clo2_rI _ _ _ h x z0 z1, fun i => ?_⟩
      rw [hl i]
      constructor
      · rintro ⟨h1, h2⟩; exact ⟨by omega, h2⟩
      · rintro ⟨h1, h2⟩; exact ⟨by omega, h2⟩
    | succ m ih =>
      intro x l x0 xe hl
      refine k_107_18 ?_
      rw [hs.1, a0, e6, a1]
      refine ⟨sx_6, ⟨by omega, by omega⟩, ⟨by omega, by omega⟩, ?_⟩
      rw [if_pos (by omega)]
      refine ⟨x0, by omega, ih (x + 1) _ (by omega) (by omega) (fun i => ?_)⟩
      rw [bi_ior, bi_iand, bi_bit x0 (by omega), Bool.or_eq_true, Bool.and_eq_true, hl i, decide_eq_true_eq]
      constructor
      · rintro (⟨h1, h2⟩ | ⟨h1, h2⟩)
        · exact ⟨by omega, h2⟩
        · have : (i : Int) = x := by omega
          rw [← this] at h1
          exact ⟨by omega, h1⟩
      · rintro ⟨h1, h2⟩
        by_cases e : (i : Int) = x
        · rw [e] at h2
          exact Or.inr ⟨h2, by omega⟩
        · exact Or.inl ⟨by omega, h2⟩
  exact loop nv 0 0 (Int.le_refl 0) (by omega) (fun i => ⟨fun h => (by rw [bi_0] at h; cases h), fun h => by omega⟩)
theorem lead0 {nv : Nat} {b C x : Int} (hv : nv ≤ 10) (hx : iR nv x) (hC : ∀ i : Nat, bi C i = true → i < nv) : iand (ior b (ishl 1 x)) C = 0 ↔ ∀ c, iR nv c → (c = x ∨ bi b c.toNat = true) → ¬ bi C c.toNat = true := by
  have x0 := hx.1
  have x1 := hx.2
  rw [iand_0]
  constructor
  · intro h c hc h1 h2
    have c0 := hc.1
    have c1 := hc.2
    refine h c.toNat (by omega) ⟨?_, h2⟩
    rw [bi_ior, bi_bit x0 (by omega), Bool.or_eq_true, decide_eq_true_eq]
    rcases h1 with e | e
    · rw [e]; exact Or.inr rfl
    · exact Or.inl e
  · intro h i hi ⟨h1, h2⟩
    have hin := hC i h2
    rw [bi_ior, bi_bit x0 (by omega), Bool.or_eq_true, decide_eq_true_eq] at h1
    refine h i ⟨by omega, by omega⟩ ?_ (by rw [show ((i : Int)).toNat = i by omega]; exact h2)
    rcases h1 with e | e
    · rw [show ((i : Int)).toNat = i by omega]; exact Or.inr e
    · exact Or.inl (by omega)
noncomputable def eSe (e : Int → Int) (s : Int) : Int := if s < 100 then 0 else e (s - 100)
theorem eSe_cv {e : Int → Int} (h : ∀ x, cv (e x)) (s : Int) : cv (eSe e s) := by
  unfold eSe
  split
  · exact cv_0
  · exact h _
theorem q_109 {d : Nat} {u : uS} {g : Gm} {e : Int → Int} {r a b : Int} (hg : gK g) (hA : cA u g) (he : ∀ x, cv (e x)) (h47 : ∀ x, iR (gv g) x → u.1 47 x = cl (e x)) (r0 : 0 ≤ r) (r1 : r < gr g) (a0 : 0 ≤ a) (hab : a ≤ b) (hb : b ≤ gl g r) : cL (d + 2) 109 [.ref 36, iV r, iV a, iV b] u (fun c u' => u' = u ∧ c = cl (pr (fun i => eSe e (gy g r (a + i))) (b - a).toNat)) := by
  obtain ⟨g1, g2, g3, g4⟩ := id hg
  obtain ⟨c0, c1, c2, c3, c4⟩ := id hA
  obtain ⟨x1, x2, x3, x4⟩ := g3 r r0 r1
  obtain ⟨y1, y2, y3⟩ := c3 r r0 r1
  have pcv : ∀ k : Nat, cv (pr (fun i => eSe e (gy g r (a + i))) k) := fun k => pr_cv k (fun i _ => eSe_cv he _)
  have loop : ∀ (m k : Nat), a + k + m = b → K_109 (d + 1) 6 [.ref 36, iV r, .retAddr 0, iV b, lV (cl (pr (fun i => eSe e (gy g r (a + i))) k)), .retAddr 0, iV (a + k)] [] u (fun c u' => u' = u ∧ c = cl (pr (fun i => eSe e (gy g r (a + i))) (b - a).toNat)) := by
    intro m
    induction m with
    | zero =>
      intro k hk
      refine k_109_6 ⟨⟨by omega, by omega⟩, ⟨by omega, by omega⟩, ?_⟩
      rw [if_neg (by omega)]
      refine ⟨rfl, ?_⟩
      rw [show (b - a).toNat = k by omega]
    | succ m ih =>
      intro k hk
      have hs := x4 (a + k) (by omega) (by omega)
      refine k_109_6 ⟨⟨by omega, by omega⟩, ⟨by omega, by omega⟩, ?_⟩
      rw [if_pos (by omega), c0, show u.1 (6 + 4) = u.1 10 from rfl, y3 (a + k) (by omega) (by omega)]
      refine ⟨sx_6, by omega, by omega, by rcases hs with z | z <;> exact ⟨by omega, by omega⟩, ?_⟩
      have := ih (k + 1) (by omega)
      simp only [pr] at this
      rw [Int.natCast_succ, show a + ((k : Int) + 1) = a + k + 1 by omega] at this
      by_cases h1 : gy g r (a + k) < 100
      · rw [if_pos h1]
        refine ⟨cl_cn (pcv k), cl_cn cv_0, ?_⟩
        have e0 : eSe e (gy g r (a + k)) = 0 := if_pos h1
        rw [e0, ← cl_T (pcv k) cv_0, cl_0] at this
        exact this
      · rw [if_neg h1]
        have hy : iR (gv g) (gy g r (a + k) - 100) := by
          rcases hs with z | z
          · omega
          · exact ⟨by omega, by omega⟩
        have e0 : eSe e (gy g r (a + k)) = e (gy g r (a + k) - 100) := if_neg h1
        have hy0 := hy.1
        have hy1 := hy.2
        rw [h47 _ hy]
        rw [e0, ← cl_T (pcv k) (he _)] at this
        exact ⟨by omega, by omega, cl_cn (pcv k), cl_cn (he _), this⟩
  have := loop (b - a).toNat 0 (by omega)
  rw [show a + ((0 : Nat) : Int) = a by omega] at this
  exact e_109 this
theorem q_108 {d : Nat} {u : uS} {g : Gm} {e : Int → Int} {bl C : Int} {bdp : Int → Prop} (hg : gK g) (hA : cA u g) (he : ∀ x, cv (e x)) (h47 : ∀ x, iR (gv g) x → u.1 47 x = cl (e x)) (hbl : ∀ x, iR (gv g) x → (bi bl x.toNat = true ↔ gb g x)) (hC : ∀ x, iR (gv g) x → (iand (ior (u.1 50 x) (ishl 1 x)) C = 0 ↔ ¬ bdp x)) : cV (d + 6) 108 [.ref 36, iV bl, iV C] u (fun u' => u'.2 = u.2 ∧ sb1 u u' [47, 55] ∧ ∀ x, iR (gv g) x → (bdp x → u'.1 47 x = u.1 47 x) ∧ (¬ bdp x → u'.1 47 x = cl (eΦ g e x))) := by
  obtain ⟨g1, g2, g3, g4⟩ := id hg
  obtain ⟨c0, c1, c2, c3, c4⟩ := id hA
  generalize hQQ : (fun u' : uS => u'.2 = u.2 ∧ sb1 u u' [47, 55] ∧ ∀ x, iR (gv g) x → (bdp x → u'.1 47 x = u.1 47 x) ∧ (¬ bdp x → u'.1 47 x = cl (eΦ g e x))) = Q
  generalize hT : (fun (x : Int) (r : Nat) => if pd (gh g r = x ∧ bR g r) = true then pr (fun k => e (gy g r k - 100)) (gl g r).toNat else 0) = T
  have Tcv : ∀ x r, cv (T x r) := fun x r => by
    rw [← hT]
    show cv (if _ then _ else _)
    split
    · exact pr_cv _ (fun k _ => he _)
    · exact cv_0
  have hΦ : ∀ x, eΦ g e x = su (T x) (gr g) := fun x => by rw [← hT]; rfl
  let Fr : uS → Prop := fun v => v.2 = u.2 ∧ sb1 u v [47, 55]
  have frA : ∀ v, Fr v → cA v g := fun v hv => cA_of hA hv.1 (hv.2 _ (by decide)) (hv.2 _ (by decide)) (hv.2 _ (by decide)) (hv.2 _ (by decide)) (hv.2 _ (by decide))
  have last : ∀ (m : Nat) (x : Int) (v : uS), 0 ≤ x → x + m = gv g → Fr v → (∀ x, iR (gv g) x → v.1 55 x = cl (su (T x) (gr g))) → (∀ x', iR (gv g) x' → (x ≤ x' ∨ bdp x' → v.1 47 x' = u.1 47 x') ∧ (x' < x → ¬ bdp x' → v.1 47 x' = cl (eΦ g e x'))) → K_108 (d + 5) 84 [.ref 36, .retAddr 0, iV C, iV x] [] v Q := by
    intro m
    induction m with
    | zero =>
      intro x v x0 xe hF h55 h
      refine k_108_84 ?_
      rw [hF.1, c0, hF.2 6 (by decide), c1]
      refine ⟨sx_6, ⟨by omega, by omega⟩, ⟨by omega, by omega⟩, ?_⟩
      rw [if_neg (by omega), ← hQQ]
      exact ⟨hF.1, hF.2, fun x' hx' => ⟨fun hb => (h x' hx').1 (Or.inr hb), fun hb => (h x' hx').2 (by have := hx'.2; omega) hb⟩⟩
    | succ m ih =>
      intro x v x0 xe hF h55 h
      have hxR : iR (gv g) x := ⟨x0, by omega⟩
      refine k_108_84 ?_
      rw [hF.1, c0, hF.2 6 (by decide), c1, hF.2 50 (by decide)]
      refine ⟨sx_6, ⟨by omega, by omega⟩, ⟨by omega, by omega⟩, ?_⟩
      rw [if_pos (by omega)]
      refine ⟨x0, by omega, ?_⟩
      by_cases hb : bdp x
      · rw [if_neg (fun h' => (hC x hxR).mp h' hb)]
        refine ih (x + 1) v (by omega) (by omega) hF h55 (fun x' hx' => ⟨fun h1 => (h x' hx').1 (h1.imp (fun q => by omega) (fun q => q)), fun h1 h2 => ?_⟩)
        by_cases e1 : x' = x
        · rw [e1] at h2; exact absurd hb h2
        · exact (h x' hx').2 (by omega) h2
      · rw [if_pos ((hC x hxR).mpr hb)]
        intro w ew
        have w47 : w.1 47 = uf (v.1 47) x (v.1 55 x) := by rw [ew, wr_uf]
        refine ih (x + 1) w (by omega) (by omega) ⟨by rw [ew, wr_2]; exact hF.1, by rw [ew]; exact sb1_wr hF.2 (by decide)⟩ (by rw [ew, wr_ne (by omega)]; exact h55) (fun x' hx' => ⟨fun h1 => ?_, fun h1 h2 => ?_⟩)
        · rw [w47]
          by_cases e1 : x' = x
          · rcases h1 with h1 | h1
            · omega
            · rw [e1] at h1; exact absurd h1 hb
          · rw [uf_ne e1]; exact (h x' hx').1 (h1.imp (fun q => by omega) (fun q => q))
        · rw [w47]
          by_cases e1 : x' = x
          · rw [e1, uf_eq, h55 x hxR, hΦ]
          · rw [uf_ne e1]; exact (h x' hx').2 (by omega) h2
  have rules : ∀ (m r : Nat) (v : uS), r + m = gr g → v.2 = u.2 → sb1 u v [55] → (∀ x, iR (gv g) x → v.1 55 x = cl (su (T x) r)) → K_108 (d + 5) 10 [.ref 36, iV bl, iV C, iV (r : Int)] [] v Q := by
    intro m
    induction m with
    | zero =>
      intro r v hr v2 vs h55
      refine k_108_10 ?_
      rw [v2, c0, vs 6 (by decide), c2]
      refine ⟨sx_6, ⟨by omega, by omega⟩, ⟨by omega, by omega⟩, ?_⟩
      rw [if_neg (by omega)]
      refine last (gv g) 0 v (Int.le_refl 0) (by omega) ⟨v2, sb1_sub vs (by decide)⟩ (by rw [show gr g = r by omega]; exact h55) (fun x' hx' => ⟨fun _ => by rw [vs 47 (by decide)], fun h1 => ?_⟩)
      have := hx'.1
      omega
    | succ m ih =>
      intro r v hr v2 vs h55
      obtain ⟨x1, x2, x3, x4⟩ := g3 r (by omega) (by omega)
      have hAv : cA v g := cA_of hA v2 (vs _ (by decide)) (vs _ (by decide)) (vs _ (by decide)) (vs _ (by decide)) (vs _ (by decide))
      obtain ⟨y1, y2, y3⟩ := hAv.2.2.2.1 r (by omega) (by omega)
      refine k_108_10 ?_
      rw [v2, c0, vs 6 (by decide), c2]
      refine ⟨sx_6, ⟨by omega, by omega⟩, ⟨by omega, by omega⟩, ?_⟩
      rw [if_pos (by omega)]
      refine cI.mono (q_106 (d := d + 1) hg hAv (r := (r : Int)) (by omega) (by omega) hbl) (Nat.le_refl _) (fun c w ⟨ew, hc⟩ => ?_)
      rw [ew]
      rcases hc with ⟨ec, hb⟩ | ⟨ec, hb⟩
      · rw [ec]
        refine ⟨by decide, ?_⟩
        rw [if_neg (by decide), v2, c0, show v.1 (6 + 2) = v.1 8 from rfl, show v.1 (6 + 3) = v.1 9 from rfl, y1, y2]
        have h10 := x1.1
        have h11 := x1.2
        refine ⟨sx_6, by omega, by omega, h10, by omega, ?_⟩
        refine cL.mono (q_109 (d := d + 3) (e := e) (r := (r : Int)) (a := 0) (b := gl g r) hg hAv he (by rw [vs 47 (by decide)]; exact h47) (by omega) (by omega) (Int.le_refl 0) x2 (Int.le_refl _)) (by omega) (fun c' w' ⟨ew', hc'⟩ => ?_)
        have hTr : T (gh g r) r = pr (fun i => eSe e (gy g r (0 + (i : Int)))) (gl g r - 0).toNat := by
          rw [← hT]
          show (if _ then _ else _) = _
          rw [if_pos (pd_t.mpr ⟨rfl, hb⟩), show (gl g r - 0).toNat = (gl g r).toNat by omega]
          refine pr_congr _ (fun k hk => ?_)
          have := (hb k (by omega) (by omega)).1
          rw [show (0 : Int) + (k : Int) = k by omega]
          exact (if_neg (by omega)).symm
        rw [← hTr] at hc'
        rw [h55 _ x1, hc']
        refine ⟨cl_cn (su_cv _ (fun _ _ => Tcv _ _)), cl_cn (Tcv _ _), fun z ez => ?_⟩
        rw [ew', cl_P (su_cv _ (fun _ _ => Tcv _ _)) (Tcv _ _)] at ez
        have := ih (r + 1) z (by omega) (by rw [ez, wr_2]; exact v2) (by rw [ez]; exact sb1_wr vs (by decide)) (fun x hx => ?_)
        · rw [Int.natCast_succ] at this
          exact this
        · rw [ez, wr_uf]
          show _ = cl (sP (su (T x) r) (T x r))
          by_cases ex : x = gh g r
          · rw [ex, uf_eq]
          · rw [uf_ne ex, h55 x hx]
            have : T x r = 0 := by
              rw [← hT]
              exact if_neg (fun h => ex (pd_t.mp h).1.symm)
            rw [this, sP_0 (su_cv _ (fun _ _ => Tcv _ _))]
      · rw [ec]
        refine ⟨by decide, ?_⟩
        rw [if_pos rfl]
        have := ih (r + 1) v (by omega) v2 vs (fun x hx => ?_)
        · rw [Int.natCast_succ] at this
          exact this
        · show _ = cl (sP (su (T x) r) (T x r))
          have : T x r = 0 := by
            rw [← hT]
            exact if_neg (fun h => hb (pd_t.mp h).2)
          rw [this, sP_0 (su_cv _ (fun _ _ => Tcv _ _))]
          exact h55 x hx
  refine e_108 (fun v ev => rules (gr g) 0 v (by omega) (by rw [ev, fil_2]) (fun b hb => by rw [ev, fil_ne (fun e => hb (by rw [e]; exact List.mem_singleton.mpr rfl))]) (fun x hx => ?_))
  rw [ev, fil_1, if_pos ⟨rfl, hx.1, by have := hx.2; omega⟩]
  rfl
theorem q_105 {d : Nat} {u : uS} {g : Gm} (hg : gK g) (hA : cA u g) : cV (d + 8) 105 [.ref 36] u (fun u' => u'.2 = u.2 ∧ sb1 u u' [47, 50, 55] ∧ ∀ x, iR (gv g) x → u'.1 47 x = cl (em g x)) := by
  obtain ⟨g1, g2, g3, g4⟩ := id hg
  obtain ⟨c0, c1, c2, c3, c4⟩ := id hA
  generalize hQQ : (fun u' : uS => u'.2 = u.2 ∧ sb1 u u' [47, 50, 55] ∧ ∀ x, iR (gv g) x → u'.1 47 x = cl (em g x)) = Q
  let Fr : uS → Prop := fun v => v.2 = u.2 ∧ sb1 u v [47, 50, 55]
  have frA : ∀ v, Fr v → cA v g := fun v hv => cA_of hA hv.1 (hv.2 _ (by decide)) (hv.2 _ (by decide)) (hv.2 _ (by decide)) (hv.2 _ (by decide)) (hv.2 _ (by decide))
  generalize hbdp : bd (gv g) (tcl (gv g) (eR g)) = bdp
  generalize hw : (fun (k : Nat) (x : Int) => if pd (bdp x) = true then 5000000000000000000 else slI (gv g) (tcl (gv g) (eR g)) (eΦ g) k x) = w
  have wcv : ∀ k x, cv (w k x) := fun k x => by
    rw [← hw]
    show cv (if _ then _ else _)
    split
    · exact cv_E
    · exact sl_cv (eΦ_cv g) _ _
  have wb1 : ∀ k x, bdp x → w k x = 5000000000000000000 := fun k x hb => by rw [← hw]; exact if_pos (pd_t.mpr hb)
  have wstep : ∀ k x, iR (gv g) x → ¬ bdp x → eΦ g (w k) x = w (k + 1) x := fun k x hx hb => by
    have e1 : w (k + 1) x = eΦ g (slI (gv g) (tcl (gv g) (eR g)) (eΦ g) k) x := by
      rw [← hw]
      show (if pd (bdp x) = true then 5000000000000000000 else if pd (bd (gv g) (tcl (gv g) (eR g)) x) = true then 5000000000000000000 else eΦ g (slI (gv g) (tcl (gv g) (eR g)) (eΦ g) k) x) = _
      rw [hbdp, if_neg (fun h => hb (pd_t.mp h)), if_neg (fun h => hb (pd_t.mp h))]
    rw [e1]
    refine eΦ_dep g hg _ _ x hx (fun y hy hR => ?_)
    have : ¬ bdp y := fun h => hb (by rw [← hbdp] at h ⊢; exact bd_step (tcl_tc _ _) hx hy hR h)
    rw [← hw]
    exact if_neg (fun h => this (pd_t.mp h))
  have rounds : ∀ (bl C : Int), (∀ x, iR (gv g) x → (bi bl x.toNat = true ↔ gb g x)) → ∀ (m k : Nat) (v : uS), k + m = gv g → Fr v → (∀ x, iR (gv g) x → (iand (ior (v.1 50 x) (ishl 1 x)) C = 0 ↔ ¬ bdp x)) → (∀ x, iR (gv g) x → v.1 47 x = cl (w k x)) → K_105 (d + 7) 160 [.ref 36, iV bl, iV C, iV (k : Int)] [] v Q := by
    intro bl C hbl m
    induction m with
    | zero =>
      intro k v hk hF hC h47
      refine k_105_160 ?_
      rw [hF.1, c0, hF.2 6 (by decide), c1]
      refine ⟨sx_6, ⟨by omega, by omega⟩, ⟨by omega, by omega⟩, ?_⟩
      rw [if_neg (by omega), ← hQQ]
      refine ⟨hF.1, hF.2, fun x hx => ?_⟩
      rw [h47 x hx]
      congr 1
      by_cases hb : bdp x
      · rw [wb1 k x hb]
        rw [← hbdp] at hb
        exact ((em_sol g hg x hx).1 hb).symm
      · rw [← hw]
        show (if _ then _ else _) = _
        rw [if_neg (fun h => hb (pd_t.mp h)), show k = gv g by omega]
        rfl
    | succ m ih =>
      intro k v hk hF hC h47
      refine k_105_160 ?_
      rw [hF.1, c0, hF.2 6 (by decide), c1]
      refine ⟨sx_6, ⟨by omega, by omega⟩, ⟨by omega, by omega⟩, ?_⟩
      rw [if_pos (by omega)]
      refine cV.mono (q_108 (d := d + 1) (e := w k) hg (frA v hF) (wcv k) h47 hbl hC) (Nat.le_refl _) (fun z ⟨z1, z2, z3⟩ => ?_)
      have := ih (k + 1) z (by omega) ⟨z1.trans hF.1, fun b hb => (z2 b (fun hh => hb (by simp only [List.mem_cons, List.not_mem_nil, or_false] at hh ⊢; omega))).trans (hF.2 b hb)⟩ (by rw [z2 50 (by decide)]; exact hC) (fun x hx => ?_)
      · rw [Int.natCast_succ] at this
        exact this
      · by_cases hb : bdp x
        · rw [(z3 x hx).1 hb, h47 x hx, wb1 k x hb, wb1 (k + 1) x hb]
        · rw [(z3 x hx).2 hb, wstep k x hx hb]
  have init : ∀ (bl C : Int), (∀ x, iR (gv g) x → (bi bl x.toNat = true ↔ gb g x)) → ∀ (m : Nat) (x : Int) (v : uS), 0 ≤ x → x + m = gv g → Fr v → (∀ x, iR (gv g) x → (iand (ior (v.1 50 x) (ishl 1 x)) C = 0 ↔ ¬ bdp x)) → (∀ x', iR (gv g) x' → x' < x → v.1 47 x' = cl (w 0 x')) → K_105 (d + 7) 113 [.ref 36, iV bl, iV C, iV x] [] v Q := by
    intro bl C hbl m
    induction m with
    | zero =>
      intro x v x0 xe hF hC h47
      refine k_105_113 ?_
      rw [hF.1, c0, hF.2 6 (by decide), c1]
      refine ⟨sx_6, ⟨by omega, by omega⟩, ⟨by omega, by omega⟩, ?_⟩
      rw [if_neg (by omega)]
      exact rounds bl C hbl (gv g) 0 v (by omega) hF hC (fun x' hx' => h47 x' hx' (by have := hx'.2; omega))
    | succ m ih =>
      intro x v x0 xe hF hC h47
      have hxR : iR (gv g) x := ⟨x0, by omega⟩
      refine k_105_113 ?_
      rw [hF.1, c0, hF.2 6 (by decide), c1]
      refine ⟨sx_6, ⟨by omega, by omega⟩, ⟨by omega, by omega⟩, ?_⟩
      rw [if_pos (by omega)]
      refine ⟨x0, by omega, ?_⟩
      have go : ∀ c : Int, c = cl (w 0 x) → ∀ z : uS, z = wr v 47 x c → K_105 (d + 7) 113 [.ref 36, iV bl, iV C, iV (x + 1)] [] z Q := by
        intro c hc z ez
        refine ih (x + 1) z (by omega) (by omega) ⟨by rw [ez, wr_2]; exact hF.1, by rw [ez]; exact sb1_wr hF.2 (by decide)⟩ (by rw [ez, wr_ne (by omega)]; exact hC) (fun x' hx' hlt => ?_)
        rw [ez, wr_uf]
        by_cases ex : x' = x
        · rw [ex, uf_eq]; exact hc
        · rw [uf_ne ex]; exact h47 x' hx' (by omega)
      by_cases hb : bdp x
      · rw [if_neg (fun h => (hC x hxR).mp h hb)]
        exact go _ (by rw [wb1 0 x hb, cl_E])
      · rw [if_pos ((hC x hxR).mpr hb)]
        refine go 0 ?_
        rw [← hw]
        show 0 = cl (if _ then _ else _)
        rw [if_neg (fun h => hb (pd_t.mp h))]
        rfl
  have edges : ∀ (bl : Int), (∀ x, iR (gv g) x → (bi bl x.toNat = true ↔ gb g x)) → ∀ (m r : Nat) (v : uS), r + m = gr g → v.2 = u.2 → sb1 u v [50] → (∀ x, 0 ≤ x → x < 10 → ∀ i : Nat, (bi (v.1 50 x) i = true ↔ ∃ r' k : Int, 0 ≤ r' ∧ r' < r ∧ gh g r' = x ∧ bR g r' ∧ 0 ≤ k ∧ k < gl g r' ∧ gy g r' k = 100 + i)) → K_105 (d + 7) 55 [.ref 36, iV bl, iV (r : Int), .retAddr 0] [] v Q := by
    intro bl hbl m
    induction m with
    | zero =>
      intro r v hr v2 vs h50
      refine k_105_55 ?_
      rw [v2, c0, vs 6 (by decide), c2]
      refine ⟨sx_6, ⟨by omega, by omega⟩, ⟨by omega, by omega⟩, ?_⟩
      rw [if_neg (by omega)]
      refine cI.mono (q_107 (d := d + 4) (nv := gv g) (by rw [v2]; exact c0) (by rw [vs 6 (by decide)]; exact c1) g1) (Nat.le_refl _) (fun C z ⟨z1, z2, z3, _, z4⟩ => ?_)
      have hE : ∀ x y, iR (gv g) x → iR (gv g) y → (bi (v.1 50 x) y.toNat = true ↔ eR g x y) := fun x y hx hy => by
        have hy0 := hy.1
        rw [h50 x hx.1 (by have := hx.2; omega)]
        constructor
        · rintro ⟨r', k, q1, q2, q3, q4, q5, q6, q7⟩
          exact ⟨r', q1, by omega, q3, q4, k, q5, q6, by omega⟩
        · rintro ⟨r', q1, q2, q3, q4, k, q5, q6, q7⟩
          exact ⟨r', k, q1, by omega, q3, q4, q5, q6, by omega⟩
      have hG : ∀ x y, iR (gv g) x → iR (gv g) y → (bi (z.1 50 x) y.toNat = true ↔ tcl (gv g) (eR g) x y) := fun x y hx hy => tcR_eq hE z3 (tcl_tc _ _) hx hy
      refine init bl C hbl (gv g) 0 z (Int.le_refl 0) (by omega) ⟨z1.trans v2, fun b hb => (z2 b (fun hh => hb (by simp only [List.mem_cons, List.not_mem_nil, or_false] at hh ⊢; omega))).trans (vs b (fun hh => hb (by simp only [List.mem_cons, List.not_mem_nil, or_false] at hh ⊢; omega)))⟩ (fun x hx => ?_) (fun x' hx' hlt => by have := hx'.1; omega)
      rw [lead0 g1 hx (fun i hi => ((z4 i).mp hi).1), ← hbdp]
      constructor
      · rintro h ⟨c, hc, q1, q2⟩
        have hc0 := hc.1
        have hc1 := hc.2
        refine h c hc ?_ ((z4 c.toNat).mpr ⟨by omega, ?_⟩)
        · rcases q1 with q | q
          · exact Or.inl q
          · exact Or.inr ((hG x c hx hc).mpr q)
        · rw [show ((c.toNat : Nat) : Int) = c by omega]
          exact (hG c c hc hc).mpr q2
      · intro h c hc q1 q2
        have hc0 := hc.1
        have q3 := ((z4 c.toNat).mp q2).2
        rw [show ((c.toNat : Nat) : Int) = c by omega] at q3
        refine h ⟨c, hc, ?_, (hG c c hc hc).mp q3⟩
        rcases q1 with q | q
        · exact Or.inl q
        · exact Or.inr ((hG x c hx hc).mp q)
    | succ m ih =>
      intro r v hr v2 vs h50
      obtain ⟨x1, x2, x3, x4⟩ := g3 r (by omega) (by omega)
      have hAv : cA v g := cA_of hA v2 (vs _ (by decide)) (vs _ (by decide)) (vs _ (by decide)) (vs _ (by decide)) (vs _ (by decide))
      obtain ⟨y1, y2, y3⟩ := hAv.2.2.2.1 r (by omega) (by omega)
      refine k_105_55 ?_
      rw [v2, c0, vs 6 (by decide), c2]
      refine ⟨sx_6, ⟨by omega, by omega⟩, ⟨by omega, by omega⟩, ?_⟩
      rw [if_pos (by omega)]
      refine cI.mono (q_106 (d := d + 3) hg hAv (r := (r : Int)) (by omega) (by omega) hbl) (Nat.le_refl _) (fun c z ⟨ez, hc⟩ => ?_)
      rw [ez]
      rcases hc with ⟨ec, hb⟩ | ⟨ec, hb⟩
      · rw [ec]
        refine ⟨by decide, ?_⟩
        rw [if_neg (by decide), v2, c0, show v.1 (6 + 2) = v.1 8 from rfl, y1]
        have h10 := x1.1
        have h11 := x1.2
        refine ⟨sx_6, by omega, by omega, h10, by omega, ?_⟩
        refine cI.mono (p_54 (d := d + 5) (a := 6) sx_6 (cA_gR hg hAv (r := (r : Int)) (by omega) (by omega))) (by omega) (fun c' z' ⟨ec', ez'⟩ z'' ez'' => ?_)
        rw [ez', ec'] at ez''
        have := ih (r + 1) z'' (by omega) (by rw [ez'', wr_2]; exact v2) (by rw [ez'']; exact sb1_wr vs (by decide)) (fun x x0 x1' i => ?_)
        · rw [Int.natCast_succ] at this
          exact this
        · have hrow : ∀ s ∈ row v 6 r, symR 10 s := fun s hs => by
            obtain ⟨k, k0, k1, k2⟩ := (cA_row hg hAv (r := (r : Int)) (by omega) (by omega) s).mp hs
            rw [← k2]
            rcases x4 k k0 k1 with q | q
            · exact Or.inl q
            · exact Or.inr ⟨q.1, by omega⟩
          rw [ez'', wr_uf]
          by_cases ex : x = gh g r
          · rw [ex, uf_eq, bi_ior, Bool.or_eq_true, h50 _ h10 (by omega), bi_vrs _ _ _ hrow, bi_0]
            constructor
            · rintro (⟨r', k, q1, q2, q⟩ | h | ⟨s, hs, q1, q2⟩)
              · exact ⟨r', k, q1, by omega, q⟩
              · cases h
              · obtain ⟨k, k0, k1, k2⟩ := (cA_row hg hAv (r := (r : Int)) (by omega) (by omega) s).mp hs
                exact ⟨r, k, by omega, by omega, rfl, hb, k0, k1, by omega⟩
            · rintro ⟨r', k, q1, q2, q3, q4, q5, q6, q7⟩
              by_cases er : r' = r
              · rw [er] at q6 q7
                refine Or.inr (Or.inr ⟨gy g r k, (cA_row hg hAv (r := (r : Int)) (by omega) (by omega) _).mpr ⟨k, q5, q6, rfl⟩, by omega, by omega⟩)
              · exact Or.inl ⟨r', k, q1, by omega, q3, q4, q5, q6, q7⟩
          · rw [uf_ne ex, h50 x x0 x1']
            constructor
            · rintro ⟨r', k, q1, q2, q⟩
              exact ⟨r', k, q1, by omega, q⟩
            · rintro ⟨r', k, q1, q2, q3, q⟩
              by_cases er : r' = r
              · rw [er] at q3
                exact absurd q3.symm ex
              · exact ⟨r', k, q1, by omega, q3, q⟩
      · rw [ec]
        refine ⟨by decide, ?_⟩
        rw [if_pos rfl]
        have := ih (r + 1) v (by omega) v2 vs (fun x x0 x1' i => ?_)
        · rw [Int.natCast_succ] at this
          exact this
        · rw [h50 x x0 x1']
          constructor
          · rintro ⟨r', k, q1, q2, q⟩
            exact ⟨r', k, q1, by omega, q⟩
          · rintro ⟨r', k, q1, q2, q3, q4, q⟩
            by_cases er : r' = r
            · rw [er] at q4
              exact absurd q4 hb
            · exact ⟨r', k, q1, by omega, q3, q4, q⟩
  have blanks : ∀ (m : Nat) (x l : Int), 0 ≤ x → x + m = gv g → (∀ i : Nat, bi l i = true ↔ (i : Int) < x ∧ gb g i) → K_105 (d + 7) 4 [.ref 36, iV l, iV x, .retAddr 0] [] u Q := by
    intro m
    induction m with
    | zero =>
      intro x l x0 xe hl
      refine k_105_4 ?_
      rw [c0, c1]
      refine ⟨sx_6, ⟨by omega, by omega⟩, ⟨by omega, by omega⟩, ?_⟩
      rw [if_neg (by omega)]
      intro v ev
      refine edges l (fun x' hx' => ?_) (gr g) 0 v (by omega) (by rw [ev, fil_2]) (fun b hb => by rw [ev, fil_ne (fun e => hb (by rw [e]; exact List.mem_singleton.mpr rfl))]) (fun x' z0 z1 i => ?_)
      · have hx0 := hx'.1
        have hx1 := hx'.2
        rw [hl, show ((x'.toNat : Nat) : Int) = x' by omega]
        exact ⟨fun h => h.2, fun h => ⟨by omega, h⟩⟩
      · rw [ev, fil_1, if_pos ⟨rfl, z0, z1⟩, bi_0]
        exact ⟨fun h => (by cases h), fun ⟨r', k, q1, q2, _⟩ => by omega⟩
    | succ m ih =>
      intro x l x0 xe hl
      have hxR : iR (gv g) x := ⟨x0, by omega⟩
      obtain ⟨h1, h2⟩ := c4 x hxR
      refine k_105_4 ?_
      rw [c0, c1]
      refine ⟨sx_6, ⟨by omega, by omega⟩, ⟨by omega, by omega⟩, ?_⟩
      rw [if_pos (by omega), show u.1 (6 + 5) = u.1 11 from rfl]
      refine ⟨x0, by omega, h1, ?_⟩
      by_cases h0 : u.1 11 x = 0
      · rw [if_pos h0]
        refine ih (x + 1) _ (by omega) (by omega) (fun i => ?_)
        rw [bi_ior, bi_bit x0 (by omega), Bool.or_eq_true, hl i, decide_eq_true_eq]
        constructor
        · rintro (q | q)
          · exact ⟨by omega, q.2⟩
          · have : (i : Int) = x := by omega
            rw [this]
            exact ⟨by omega, h2.mp h0⟩
        · rintro ⟨q1, q2⟩
          by_cases e : (i : Int) = x
          · exact Or.inr (by omega)
          · exact Or.inl ⟨by omega, q2⟩
      · rw [if_neg h0]
        refine ih (x + 1) _ (by omega) (by omega) (fun i => ?_)
        rw [bi_ior, bi_0, Bool.or_false, hl i]
        constructor
        · rintro ⟨q1, q2⟩; exact ⟨by omega, q2⟩
        · rintro ⟨q1, q2⟩
          by_cases e : (i : Int) = x
          · rw [e] at q2; exact absurd (h2.mpr q2) h0
          · exact ⟨by omega, q2⟩
  exact e_105 (blanks (gv g) 0 0 (Int.le_refl 0) (by omega) (fun i => ⟨fun h => (by rw [bi_0] at h; cases h), fun h => by omega⟩))
