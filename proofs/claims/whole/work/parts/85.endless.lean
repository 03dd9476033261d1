/-! learnEndless -/
def sE (u : uS) (a : Nat) (B G : Int → Int) (e : Int) : uS := (fun b j => if b = a ∧ j = 8 then e else if b = a + 7 then B j else if b = a + 8 then G j else u.1 b j, u.2)
section SE
variable {u : uS} {a : Nat} {B G : Int → Int} {e : Int}
theorem sE_B : (sE u a B G e).1 (a + 7) = B := by
  funext j
  simp [sE]
theorem sE_G : (sE u a B G e).1 (a + 8) = G := by
  funext j
  simp [sE]
theorem sE_8 : (sE u a B G e).1 a 8 = e := by simp [sE]
theorem sE_a {j : Int} (h : j ≠ 8) : (sE u a B G e).1 a j = u.1 a j := by simp [sE, h]
theorem sE_o {b : Nat} (h1 : b ≠ a) (h2 : b ≠ a + 7) (h3 : b ≠ a + 8) : (sE u a B G e).1 b = u.1 b := by
  funext j
  simp [sE, h1, h2, h3]
theorem sE_wB {x v : Int} : wr (sE u a B G e) (a + 7) x v = sE u a (uf B x v) G e := by
  refine Prod.ext ?_ rfl
  funext b j
  simp only [wr, sE, uf]
  by_cases h1 : b = a + 7
  · simp [h1]
  · simp [h1]
theorem sE_wG {x v : Int} : wr (sE u a B G e) (a + 8) x v = sE u a B (uf G x v) e := by
  refine Prod.ext ?_ rfl
  funext b j
  simp only [wr, sE, uf]
  by_cases h1 : b = a + 8
  · simp [h1]
  · simp [h1]
theorem sE_we {v : Int} : wr (sE u a B G e) a 8 v = sE u a B G v := by
  refine Prod.ext ?_ rfl
  funext b j
  simp only [wr, sE]
  by_cases h1 : b = a ∧ j = 8
  · rw [if_pos h1, if_pos h1]
  · rw [if_neg h1, if_neg h1, if_neg h1]
theorem row_sE {r : Int} : row (sE u a B G e) a r = row u a r := by
  unfold row
  rw [sE_o (b := a + 4) (by omega) (by omega) (by omega), sE_o (b := a + 3) (by omega) (by omega) (by omega)]
theorem gR_sE {r : Int} (h : gR u a r) : gR (sE u a B G e) a r := by
  unfold gR at h ⊢
  rw [sE_o (b := a + 4) (by omega) (by omega) (by omega), sE_o (b := a + 3) (by omega) (by omega) (by omega)]
  exact h
theorem sE_sb {u' : uS} {B' : Int → Int} (h : sb (sE u a B G e) u' [a + 7]) (hB : u'.1 (a + 7) = B') : u' = sE u a B' G e := by
  refine Prod.ext ?_ h.1
  funext b j
  by_cases h1 : b = a + 7
  · rw [h1, hB]
    simp [sE]
  · rw [h.2 b (by simp [h1])]
    simp [sE, h1]
end SE
def be1 (hd : Int → Int) (rw : Int → List Int) (F lt : Int) : Nat → Int → (Int → Int) × (Int → Int) → (Int → Int) × (Int → Int)
  | 0, _, p => p
  | m + 1, r, p => be1 hd rw F lt m (r + 1) (if wth F (rw r) = true then (uf p.1 (hd r) (ior (p.1 (hd r)) (vrs 0 (rw r))), uf p.2 (hd r) (ior (p.2 (hd r)) (grw lt (lts lt 0 (rw r)) 0 (rw r)))) else p)
theorem be1_b {nv nr : Nat} {hd : Int → Int} {rw : Int → List Int} {F lt : Int} (hv : nv ≤ 10) (hg : gOK nv nr hd rw) : ∀ (m : Nat) (r : Int) (p : (Int → Int) × (Int → Int)), 0 ≤ r → r + m = nr → ∀ (x : Int) (i : Nat), (bi ((be1 hd rw F lt m r p).1 x) i = true ↔ bi (p.1 x) i = true ∨ ∃ r' : Int, r ≤ r' ∧ r' < nr ∧ hd r' = x ∧ gdF F (rw r') ∧ ∃ s, s ∈ rw r' ∧ 100 ≤ s ∧ (s - 100).toNat = i) ∧ (bi ((be1 hd rw F lt m r p).2 x) i = true ↔ bi (p.2 x) i = true ∨ ∃ r' : Int, r ≤ r' ∧ r' < nr ∧ hd r' = x ∧ gdF F (rw r') ∧ ∃ s, s ∈ rw r' ∧ 100 ≤ s ∧ (s - 100).toNat = i ∧ 0 < (if isl lt s = true then lts lt 0 (rw r') - 1 else lts lt 0 (rw r'))) := by
  intro m
  induction m with
  | zero =>
    intro r p hr he x i
    constructor
    · constructor
      · intro h; exact Or.inl h
      · rintro (h | ⟨r', h1, h2, -⟩)
        · exact h
        · omega
    · constructor
      · intro h; exact Or.inl h
      · rintro (h | ⟨r', h1, h2, -⟩)
        · exact h
        · omega
  | succ m ih =>
    intro r p hr he x i
    obtain ⟨b1, b2', b3⟩ := hg r hr (by omega)
    have hsy : ∀ s ∈ rw r, symR 10 s := fun s hs => by
      have := b3 s hs
      unfold symR at this ⊢
      omega
    obtain ⟨i1, i2⟩ := ih (r + 1) (if wth F (rw r) = true then (uf p.1 (hd r) (ior (p.1 (hd r)) (vrs 0 (rw r))), uf p.2 (hd r) (ior (p.2 (hd r)) (grw lt (lts lt 0 (rw r)) 0 (rw r)))) else p) (by omega) (by omega) x i
    simp only [be1]
    rw [i1, i2]
    have bb := bi_vrs (rw r) 0 i hsy
    have bg := bi_grw (lt := lt) (all := lts lt 0 (rw r)) (rw r) 0 i hsy
    rw [bi_0] at bb bg
    by_cases hw : wth F (rw r) = true
    · rw [if_pos hw]
      have hgd : gdF F (rw r) := wth_iff.mp hw
      dsimp only
      by_cases e : x = hd r
      · rw [e, uf_eq, uf_eq, bi_ior, bi_ior, Bool.or_eq_true, Bool.or_eq_true, bb, bg]
        constructor
        · constructor
          · rintro ((q | q | q) | ⟨r', h1, h2, h3⟩)
            · exact Or.inl q
            · cases q
            · exact Or.inr ⟨r, by omega, by omega, rfl, hgd, q⟩
            · exact Or.inr ⟨r', by omega, h2, h3⟩
          · rintro (q | ⟨r', h1, h2, h3, h4, h5⟩)
            · exact Or.inl (Or.inl q)
            · by_cases e2 : r' = r
              · rw [e2] at h5
                exact Or.inl (Or.inr (Or.inr h5))
              · exact Or.inr ⟨r', by omega, h2, h3, h4, h5⟩
        · constructor
          · rintro ((q | q | q) | ⟨r', h1, h2, h3⟩)
            · exact Or.inl q
            · cases q
            · exact Or.inr ⟨r, by omega, by omega, rfl, hgd, q⟩
            · exact Or.inr ⟨r', by omega, h2, h3⟩
          · rintro (q | ⟨r', h1, h2, h3, h4, h5⟩)
            · exact Or.inl (Or.inl q)
            · by_cases e2 : r' = r
              · rw [e2] at h5
                exact Or.inl (Or.inr (Or.inr h5))
              · exact Or.inr ⟨r', by omega, h2, h3, h4, h5⟩
      · rw [uf_ne e, uf_ne e]
        constructor
        · constructor
          · rintro (q | ⟨r', h1, h2, h3⟩)
            · exact Or.inl q
            · exact Or.inr ⟨r', by omega, h2, h3⟩
          · rintro (q | ⟨r', h1, h2, h3, h4⟩)
            · exact Or.inl q
            · by_cases e2 : r' = r
              · rw [e2] at h3
                exact absurd h3.symm e
              · exact Or.inr ⟨r', by omega, h2, h3, h4⟩
        · constructor
          · rintro (q | ⟨r', h1, h2, h3⟩)
            · exact Or.inl q
            · exact Or.inr ⟨r', by omega, h2, h3⟩
          · rintro (q | ⟨r', h1, h2, h3, h4⟩)
            · exact Or.inl q
            · by_cases e2 : r' = r
              · rw [e2] at h3
                exact absurd h3.symm e
              · exact Or.inr ⟨r', by omega, h2, h3, h4⟩
    · rw [if_neg hw]
      constructor
      · constructor
        · rintro (q | ⟨r', h1, h2, h3⟩)
          · exact Or.inl q
          · exact Or.inr ⟨r', by omega, h2, h3⟩
        · rintro (q | ⟨r', h1, h2, h3, h4, h5⟩)
          · exact Or.inl q
          · by_cases e2 : r' = r
            · rw [e2] at h4
              exact absurd (wth_iff.mpr h4) hw
            · exact Or.inr ⟨r', by omega, h2, h3, h4, h5⟩
      · constructor
        · rintro (q | ⟨r', h1, h2, h3⟩)
          · exact Or.inl q
          · exact Or.inr ⟨r', by omega, h2, h3⟩
        · rintro (q | ⟨r', h1, h2, h3, h4, h5⟩)
          · exact Or.inl q
          · by_cases e2 : r' = r
            · rw [e2] at h4
              exact absurd (wth_iff.mpr h4) hw
            · exact Or.inr ⟨r', by omega, h2, h3, h4, h5⟩
/-- steps from a variable to one in its rules; those with letters beside -/
def eG (nr : Nat) (hd : Int → Int) (rw : Int → List Int) (gd : List Int → Prop) (x y : Int) : Prop := ∃ r : Int, 0 ≤ r ∧ r < nr ∧ hd r = x ∧ gd (rw r) ∧ ∃ s, s ∈ rw r ∧ 100 ≤ s ∧ s - 100 = y
def gG (nr : Nat) (hd : Int → Int) (rw : Int → List Int) (gd : List Int → Prop) (lt : Int → Prop) (x y : Int) : Prop := ∃ r : Int, 0 ≤ r ∧ r < nr ∧ hd r = x ∧ gd (rw r) ∧ ∃ (k : Nat) (s : Int), (rw r)[k]? = some s ∧ 100 ≤ s ∧ s - 100 = y ∧ ∃ (k' : Nat) (s' : Int), k' ≠ k ∧ (rw r)[k']? = some s' ∧ (s' < 100 ∨ lt (s' - 100))
def enL (nv : Nat) (L g : Int → Int → Prop) (x : Int) : Prop := ∃ p, iR nv p ∧ (x = p ∨ L x p) ∧ ∃ y, iR nv y ∧ g p y ∧ (p = y ∨ L y p)
def be0 (u : uS) (a : Nat) : (Int → Int) × (Int → Int) := (fun j => if 0 ≤ j ∧ j < 10 then 0 else u.1 (a + 7) j, fun j => if 0 ≤ j ∧ j < 10 then 0 else u.1 (a + 8) j)
theorem q_55 {d : Nat} {u : uS} {a nv nr : Nat} (hO : isO a 2) (hg : gA u a nv nr) (hgk : gOK nv nr (u.1 (a + 2)) (row u a)) : cV (d + 5) 55 [.ref a] u (fun u' => ∃ B G e, u' = sE u a B G e ∧ ∃ L, tcR nv (eG nr (u.1 (a + 2)) (row u a) (gdF (u.1 a 6))) L ∧ ∀ x, iR nv x → (bi e x.toNat = true ↔ enL nv L (gG nr (u.1 (a + 2)) (row u a) (gdF (u.1 a 6)) (fun y => bi (fld2 u a nr nv 0) y.toNat = true)) x)) := by
  obtain ⟨hv, hn, g0, g1, g2⟩ := id hg
  have hfin : ∀ (B G : Int → Int) (e pm : Int), (∀ x i, iR nv x → i < nv → (bi (B x) i = true ↔ bi (clo2 nv nv 0 (be1 (u.1 (a + 2)) (row u a) (u.1 a 6) (fld2 u a nr nv 0) nr 0 (be0 u a)).1 x) i = true)) → G = (be1 (u.1 (a + 2)) (row u a) (u.1 a 6) (fld2 u a nr nv 0) nr 0 (be0 u a)).2 → (∀ i, bi pm i = true ↔ ∃ z, iR nv z ∧ i = z.toNat ∧ ∃ y, iR nv y ∧ bi (G z) y.toNat = true ∧ (z = y ∨ bi (B y) z.toNat = true)) → (∀ i, bi e i = true ↔ ∃ x, iR nv x ∧ i = x.toNat ∧ iand (ior (B x) (ishl 1 x)) pm ≠ 0) → ∃ L, tcR nv (eG nr (u.1 (a + 2)) (row u a) (gdF (u.1 a 6))) L ∧ ∀ x, iR nv x → (bi e x.toNat = true ↔ enL nv L (gG nr (u.1 (a + 2)) (row u a) (gdF (u.1 a 6)) (fun y => bi (fld2 u a nr nv 0) y.toNat = true)) x) := by
    intro B G e pm hB hG hpm he
    have hb := fun x i => be1_b (F := u.1 a 6) (lt := fld2 u a nr nv 0) hv hgk nr 0 (be0 u a) (Int.le_refl 0) (by omega) x i
    have hz : ∀ x i, iR nv x → bi ((be0 u a).1 x) i = false ∧ bi ((be0 u a).2 x) i = false := fun x i hx => by
      have h1 : (be0 u a).1 x = 0 := if_pos ⟨hx.1, by have := hx.2; omega⟩
      have h2 : (be0 u a).2 x = 0 := if_pos ⟨hx.1, by have := hx.2; omega⟩
      rw [h1, h2, bi_0]
      exact ⟨rfl, rfl⟩
    have hE : ∀ x y, iR nv x → iR nv y → (bi ((be1 (u.1 (a + 2)) (row u a) (u.1 a 6) (fld2 u a nr nv 0) nr 0 (be0 u a)).1 x) y.toNat = true ↔ eG nr (u.1 (a + 2)) (row u a) (gdF (u.1 a 6)) x y) := fun x y hx hy => by
      rw [(hb x y.toNat).1, (hz x _ hx).1]
      constructor
      · rintro (q | ⟨r, h1, h2, h3, h4, s, h5, h6, h7⟩)
        · cases q
        · exact ⟨r, h1, h2, h3, h4, s, h5, h6, by have := hy.1; omega⟩
      · rintro ⟨r, h1, h2, h3, h4, s, h5, h6, h7⟩
        exact Or.inr ⟨r, h1, h2, h3, h4, s, h5, h6, by omega⟩
    have hGG : ∀ x y, iR nv x → iR nv y → (bi (G x) y.toNat = true ↔ gG nr (u.1 (a + 2)) (row u a) (gdF (u.1 a 6)) (fun y => bi (fld2 u a nr nv 0) y.toNat = true) x y) := fun x y hx hy => by
      rw [hG, (hb x y.toNat).2, (hz x _ hx).2]
      constructor
      · rintro (q | ⟨r, h1, h2, h3, h4, s, h5, h6, h7, h8⟩)
        · cases q
        · obtain ⟨k, hk⟩ := List.getElem?_of_mem h5
          obtain ⟨k', s', k1, k2, k3⟩ := (lts_but (row u a r) k s hk).mp h8
          exact ⟨r, h1, h2, h3, h4, k, s, hk, h6, by have := hy.1; omega, k', s', k1, k2, isl_iff.mp k3⟩
      · rintro ⟨r, h1, h2, h3, h4, k, s, h5, h6, h7, k', s', k1, k2, k3⟩
        exact Or.inr ⟨r, h1, h2, h3, h4, s, List.mem_of_getElem? h5, h6, by omega, (lts_but (row u a r) k s h5).mpr ⟨k', s', k1, k2, isl_iff.mpr k3⟩⟩
    have htc := clo2_tc (n := nv) (be1 (u.1 (a + 2)) (row u a) (u.1 a 6) (fld2 u a nr nv 0) nr 0 (be0 u a)).1
    refine ⟨fun x y => bi (B x) y.toNat = true, ⟨fun x y hx hy h => ?_, fun x y z hx hy hz2 h1 h2 => ?_, fun T hT hTt x y hx hy h => ?_⟩, fun x hx => ?_⟩
    · exact (hB x _ hx (by have := hy.1; have := hy.2; omega)).mpr (htc.1 x y hx hy ((hE x y hx hy).mpr h))
    · have h1 := (hB x _ hx (by have := hy.1; have := hy.2; omega)).mp h1
      have h2 := (hB y _ hy (by have := hz2.1; have := hz2.2; omega)).mp h2
      exact (hB x _ hx (by have := hz2.1; have := hz2.2; omega)).mpr (htc.2.1 x y z hx hy hz2 h1 h2)
    · exact htc.2.2 T (fun x y hx hy q => hT x y hx hy ((hE x y hx hy).mp q)) hTt x y hx hy ((hB x _ hx (by have := hy.1; have := hy.2; omega)).mp h)
    · rw [he]
      constructor
      · rintro ⟨x', hx', e1, e2⟩
        have e3 : x' = x := by
          have := hx.1
          have := hx'.1
          omega
        rw [e3] at e2
        have hex : ∃ i, i < 32 ∧ bi (ior (B x) (ishl 1 x)) i = true ∧ bi pm i = true := by
          refine Classical.byContradiction (fun hne => e2 (iand_0.mpr (fun i hi q => hne ⟨i, hi, q⟩)))
        obtain ⟨i, hi, h1, h2⟩ := hex
        obtain ⟨z, hz1, hz2, y, hy, h3, h4⟩ := (hpm i).mp h2
        rw [bi_ior, bi_bit hx.1 (by have := hx.2; omega), Bool.or_eq_true, decide_eq_true_eq] at h1
        refine ⟨z, hz1, ?_, y, hy, (hGG z y hz1 hy).mp h3, h4⟩
        rcases h1 with h1 | h1
        · rw [hz2] at h1
          exact Or.inr h1
        · refine Or.inl ?_
          have := hx.1
          have := hz1.1
          omega
      · rintro ⟨p, hp, h1, y, hy, h2, h3⟩
        refine ⟨x, hx, rfl, fun q => ?_⟩
        have h4 := iand_0.mp q p.toNat (by have := hp.1; have := hp.2; omega)
        refine h4 ⟨?_, (hpm _).mpr ⟨p, hp, rfl, y, hy, (hGG p y hp hy).mpr h2, h3⟩⟩
        rw [bi_ior, bi_bit hx.1 (by have := hx.2; omega), Bool.or_eq_true, decide_eq_true_eq]
        rcases h1 with h1 | h1
        · rw [h1]; exact Or.inr rfl
        · exact Or.inl h1
  have l184 : ∀ (B G : Int → Int) (pm : Int) (m : Nat) (x e : Int) (Q : uS → Prop), 0 ≤ x → x + m = nv → (∀ i, bi e i = true ↔ ∃ z, 0 ≤ z ∧ z < x ∧ i = z.toNat ∧ iand (ior (B z) (ishl 1 z)) pm ≠ 0) → (∀ e', (∀ i, bi e' i = true ↔ ∃ z, iR nv z ∧ i = z.toNat ∧ iand (ior (B z) (ishl 1 z)) pm ≠ 0) → Q (sE u a B G e')) → K_55p (d + 4) 184 [.ref a, .retAddr 0, iV pm, iV x, .retAddr 0] [] (sE u a B G e) Q := by
    intro B G pm m
    induction m with
    | zero =>
      intro x e Q hx he hi hQ
      refine k_55_184p hO ⟨⟨by omega, by omega⟩, ?_⟩
      rw [sE_a (by decide), g0]
      refine ⟨⟨by omega, by omega⟩, ?_⟩
      rw [if_neg (by omega)]
      refine hQ e (fun i => ?_)
      rw [hi i]
      constructor
      · rintro ⟨z, h1, h2, h3⟩; exact ⟨z, ⟨h1, by omega⟩, h3⟩
      · rintro ⟨z, h1, h3⟩; exact ⟨z, h1.1, by have := h1.2; omega, h3⟩
    | succ m ih =>
      intro x e Q hx he hi hQ
      refine k_55_184p hO ⟨⟨by omega, by omega⟩, ?_⟩
      rw [sE_a (by decide), g0]
      refine ⟨⟨by omega, by omega⟩, ?_⟩
      rw [if_pos (by omega), sE_B]
      refine ⟨hx, by omega, ?_⟩
      by_cases hc : iand (ior (B x) (ishl 1 x)) pm = 0
      · rw [if_pos hc]
        refine ih (x + 1) e Q (by omega) (by omega) (fun i => ?_) hQ
        rw [hi i]
        constructor
        · rintro ⟨z, h1, h2, h3⟩; exact ⟨z, h1, by omega, h3⟩
        · rintro ⟨z, h1, h2, h3, h4⟩
          by_cases e2 : z = x
          · rw [e2] at h4; exact absurd hc h4
          · exact ⟨z, h1, by omega, h3, h4⟩
      · rw [if_neg hc]
        intro u7 e7
        rw [sE_8, sE_we] at e7
        rw [e7]
        refine ih (x + 1) _ Q (by omega) (by omega) (fun i => ?_) hQ
        rw [bi_ior, bi_bit hx (by omega), Bool.or_eq_true, decide_eq_true_eq, hi i]
        constructor
        · rintro (⟨z, h1, h2, h3⟩ | h)
          · exact ⟨z, h1, by omega, h3⟩
          · exact ⟨x, hx, by omega, h, hc⟩
        · rintro ⟨z, h1, h2, h3, h4⟩
          by_cases e2 : z = x
          · rw [e2] at h3; exact Or.inr h3
          · exact Or.inl ⟨z, h1, by omega, h3, h4⟩
  have l103 : ∀ (B G : Int → Int) (e0 : Int) (Q : uS → Prop), (∀ pm e', (∀ i, bi pm i = true ↔ ∃ z, iR nv z ∧ i = z.toNat ∧ ∃ y, iR nv y ∧ bi (G z) y.toNat = true ∧ (z = y ∨ bi (B y) z.toNat = true)) → (∀ i, bi e' i = true ↔ ∃ z, iR nv z ∧ i = z.toNat ∧ iand (ior (B z) (ishl 1 z)) pm ≠ 0) → Q (sE u a B G e')) → ∀ (m : Nat) (x pm : Int), 0 ≤ x → x + m = nv → (∀ i, bi pm i = true ↔ ∃ z, 0 ≤ z ∧ z < x ∧ i = z.toNat ∧ ∃ y, iR nv y ∧ bi (G z) y.toNat = true ∧ (z = y ∨ bi (B y) z.toNat = true)) → K_55p (d + 4) 103 [.ref a, .retAddr 0, iV pm, iV x, .retAddr 0] [] (sE u a B G e0) Q := by
    intro B G e0 Q hQ m
    induction m with
    | zero =>
      intro x pm hx he hi
      refine k_55_103p hO ⟨⟨by omega, by omega⟩, ?_⟩
      rw [sE_a (by decide), g0]
      refine ⟨⟨by omega, by omega⟩, ?_⟩
      rw [if_neg (by omega)]
      intro u4 e4
      rw [sE_we] at e4
      rw [e4]
      refine l184 B G pm nv 0 0 Q (Int.le_refl 0) (by omega) (fun i => ?_) (fun e' he' => hQ pm e' (fun i => ?_) he')
      · rw [bi_0]
        constructor
        · intro q; cases q
        · rintro ⟨z, h1, h2, -⟩; omega
      · rw [hi i]
        constructor
        · rintro ⟨z, h1, h2, h3⟩; exact ⟨z, ⟨h1, by omega⟩, h3⟩
        · rintro ⟨z, h1, h3⟩; exact ⟨z, h1.1, by have := h1.2; omega, h3⟩
    | succ m ih =>
      intro x pm hx he hi
      refine k_55_103p hO ⟨⟨by omega, by omega⟩, ?_⟩
      rw [sE_a (by decide), g0]
      refine ⟨⟨by omega, by omega⟩, ?_⟩
      rw [if_pos (by omega)]
      have l114 : ∀ (m' : Nat) (y pm' : Int), 0 ≤ y → y + m' = nv → (∀ i, bi pm' i = true ↔ (bi pm i = true ∨ (i = x.toNat ∧ ∃ y', 0 ≤ y' ∧ y' < y ∧ bi (G x) y'.toNat = true ∧ (x = y' ∨ bi (B y') x.toNat = true)))) → K_55p (d + 4) 114 [.ref a, .retAddr 0, iV pm', iV x, iV y] [] (sE u a B G e0) Q := by
        intro m'
        induction m' with
        | zero =>
          intro y pm' hy hye hp
          refine k_55_114p hO ⟨⟨by omega, by omega⟩, ?_⟩
          rw [sE_a (by decide), g0]
          refine ⟨⟨by omega, by omega⟩, ?_⟩
          rw [if_neg (by omega)]
          refine ih (x + 1) pm' (by omega) (by omega) (fun i => ?_)
          rw [hp i, hi i]
          constructor
          · rintro (⟨z, h1, h2, h3⟩ | ⟨h1, y', h2, h3, h4⟩)
            · exact ⟨z, h1, by omega, h3⟩
            · exact ⟨x, hx, by omega, h1, y', ⟨h2, by omega⟩, h4⟩
          · rintro ⟨z, h1, h2, h3, y', h4, h5⟩
            by_cases e2 : z = x
            · rw [e2] at h3 h5
              exact Or.inr ⟨h3, y', h4.1, by have := h4.2; omega, h5⟩
            · exact Or.inl ⟨z, h1, by omega, h3, y', h4, h5⟩
        | succ m' ih' =>
          intro y pm' hy hye hp
          have add : (bi (G x) y.toNat = true ∧ (x = y ∨ bi (B y) x.toNat = true)) → ∀ i, bi (ior pm' (ishl 1 x)) i = true ↔ (bi pm i = true ∨ (i = x.toNat ∧ ∃ y', 0 ≤ y' ∧ y' < y + 1 ∧ bi (G x) y'.toNat = true ∧ (x = y' ∨ bi (B y') x.toNat = true))) := by
            intro hc i
            rw [bi_ior, bi_bit hx (by omega), Bool.or_eq_true, decide_eq_true_eq, hp i]
            constructor
            · rintro ((q | ⟨h1, y', h2, h3, h4⟩) | q)
              · exact Or.inl q
              · exact Or.inr ⟨h1, y', h2, by omega, h4⟩
              · exact Or.inr ⟨q, y, hy, by omega, hc⟩
            · rintro (q | ⟨h1, -⟩)
              · exact Or.inl (Or.inl q)
              · exact Or.inr h1
          have keep : ¬ (bi (G x) y.toNat = true ∧ (x = y ∨ bi (B y) x.toNat = true)) → ∀ i, bi pm' i = true ↔ (bi pm i = true ∨ (i = x.toNat ∧ ∃ y', 0 ≤ y' ∧ y' < y + 1 ∧ bi (G x) y'.toNat = true ∧ (x = y' ∨ bi (B y') x.toNat = true))) := by
            intro hc i
            rw [hp i]
            constructor
            · rintro (q | ⟨h1, y', h2, h3, h4⟩)
              · exact Or.inl q
              · exact Or.inr ⟨h1, y', h2, by omega, h4⟩
            · rintro (q | ⟨h1, y', h2, h3, h4⟩)
              · exact Or.inl q
              · by_cases e2 : y' = y
                · rw [e2] at h4; exact absurd h4 hc
                · exact Or.inr ⟨h1, y', h2, by omega, h4⟩
          refine k_55_114p hO ⟨⟨by omega, by omega⟩, ?_⟩
          rw [sE_a (by decide), g0]
          refine ⟨⟨by omega, by omega⟩, ?_⟩
          rw [if_pos (by omega), sE_G, sE_B, bit_i hy (by omega), bit_i hx (by omega)]
          refine ⟨hx, by omega, ?_⟩
          by_cases c1 : bi (G x) y.toNat = true
          · rw [if_pos c1, if_pos rfl]
            refine ⟨⟨by omega, by omega⟩, ?_⟩
            by_cases c2 : x = y
            · rw [if_pos c2]
              exact ih' (y + 1) _ (by omega) (by omega) (add ⟨c1, Or.inl c2⟩)
            · rw [if_neg c2]
              refine ⟨hy, by omega, ?_⟩
              by_cases c3 : bi (B y) x.toNat = true
              · rw [if_pos c3, if_pos rfl]
                exact ih' (y + 1) _ (by omega) (by omega) (add ⟨c1, Or.inr c3⟩)
              · rw [if_neg c3, if_neg (by decide)]
                refine ih' (y + 1) _ (by omega) (by omega) (keep (fun q => ?_))
                rcases q.2 with q | q
                · exact c2 q
                · exact c3 q
          · rw [if_neg c1, if_neg (by decide)]
            exact ih' (y + 1) _ (by omega) (by omega) (keep (fun q => c1 q.1))
      refine l114 nv 0 pm (Int.le_refl 0) (by omega) (fun i => ?_)
      constructor
      · intro q; exact Or.inl q
      · rintro (q | ⟨-, y', h1, h2, -⟩)
        · exact q
        · omega
  refine e_55p hO (cI.mono (p_56 (d := d) hO hg) (Nat.le_refl _) (fun r2 u1 hr => ?_))
  obtain ⟨er, eu⟩ := hr
  rw [eu, er]
  intro u3 e3 u5 e5
  have hu5 : u5 = sE u a (be0 u a).1 (be0 u a).2 (u.1 a 8) := by
    rw [e5, e3]
    refine Prod.ext ?_ rfl
    funext b j
    simp only [fil, sE, be0]
    by_cases h1 : b = a + 7
    · simp [h1]
    · by_cases h2 : b = a + 8
      · simp [h2]
      · simp only [h1, h2, false_and, if_false]
        split
        · next q => rw [q.1, q.2]
        · rfl
  have l23 : ∀ (m : Nat) (r : Int) (p : (Int → Int) × (Int → Int)) (Q : uS → Prop), 0 ≤ r → r + m = nr → cV (d + 4) 60 [.ref (a + 7), iV (nv : Int)] (sE u a (be1 (u.1 (a + 2)) (row u a) (u.1 a 6) (fld2 u a nr nv 0) m r p).1 (be1 (u.1 (a + 2)) (row u a) (u.1 a 6) (fld2 u a nr nv 0) m r p).2 (u.1 a 8)) (fun u17 => K_55p (d + 4) 103 [.ref a, .retAddr 0, iV 0, iV 0, .retAddr 0] [] u17 Q) → K_55p (d + 4) 23 [.ref a, iV (fld2 u a nr nv 0), iV r, .retAddr 0, .retAddr 0] [] (sE u a p.1 p.2 (u.1 a 8)) Q := by
    intro m
    induction m with
    | zero =>
      intro r p Q hr he hQ
      refine k_55_23p hO ⟨⟨by omega, by omega⟩, ?_⟩
      rw [sE_a (j := 1) (by decide), g1, sE_a (j := 0) (by decide), g0]
      refine ⟨⟨by omega, by omega⟩, ?_⟩
      rw [if_neg (by omega)]
      exact hQ
    | succ m ih =>
      intro r p Q hr he hQ
      obtain ⟨q1, q2, q3⟩ := g2 r hr (by omega)
      refine k_55_23p hO ⟨⟨by omega, by omega⟩, ?_⟩
      rw [sE_a (j := 1) (by decide), g1]
      refine ⟨⟨by omega, by omega⟩, ?_⟩
      rw [if_pos (by omega), sE_a (j := 6) (by decide), row_sE]
      refine ⟨gR_sE q1, ?_⟩
      simp only [be1] at hQ
      by_cases hw : wth (u.1 a 6) (row u a r) = true
      · rw [if_pos hw] at hQ
        rw [hw, if_neg (by decide), sE_o (b := a + 2) (by omega) (by omega) (by omega), sE_B]
        refine ⟨hr, by omega, q2, by omega, fun u10 e10 => ?_⟩
        rw [sE_wB] at e10
        rw [e10, sE_o (b := a + 2) (by omega) (by omega) (by omega), sE_G, row_sE]
        refine ⟨q2, by omega, gR_sE q1, fun u15 e15 => ?_⟩
        rw [sE_wG] at e15
        rw [e15]
        exact ih (r + 1) (uf p.1 (u.1 (a + 2) r) (ior (p.1 (u.1 (a + 2) r)) (vrs 0 (row u a r))), uf p.2 (u.1 (a + 2) r) (ior (p.2 (u.1 (a + 2) r)) (grw (fld2 u a nr nv 0) (lts (fld2 u a nr nv 0) 0 (row u a r)) 0 (row u a r)))) Q (by omega) (by omega) hQ
      · have hw2 : wth (u.1 a 6) (row u a r) = false := by simpa using hw
        rw [if_neg hw] at hQ
        rw [hw2, if_pos (by decide)]
        exact ih (r + 1) p Q (by omega) (by omega) hQ
  rw [hu5]
  refine l23 nr 0 (be0 u a) _ (Int.le_refl 0) (by omega) ?_
  refine cV.mono (q_60 (d := d + 2) (sa_2_11 hO) hv (by omega)) (Nat.le_refl _) (fun u17 h17 => ?_)
  have e17 := sE_sb h17.1 h17.2
  rw [sE_B] at e17
  rw [e17]
  refine l103 _ _ (u.1 a 8) _ (fun pm e' h1 h2 => ⟨_, _, e', rfl, hfin _ _ e' pm (fun x i _ _ => Iff.rfl) rfl h1 h2⟩) nv 0 0 (Int.le_refl 0) (by omega) (fun i => ?_)
  rw [bi_0]
  constructor
  · intro q; cases q
  · rintro ⟨z, h1, h2, -⟩; omega
