/-! What is learned of the variables is the same; variable -/
section CG
variable {nv nr : Nat} {hd hd' : Int → Int} {rw rw' : Int → List Int}
theorem HF_congr (hh : ∀ r : Int, 0 ≤ r → r < nr → hd' r = hd r ∧ rw' r = rw r) {F : Int} {f : Int → Int} (h : HF nv nr hd rw F f) : HF nv nr hd' rw' F f := by
  refine ⟨h.1, fun x x0 x1 hx => ?_, fun r r0 r1 => ?_⟩
  · obtain ⟨r, r0, r1, r2, r3⟩ := h.2.1 x x0 x1 hx
    exact ⟨r, r0, r1, by rw [(hh r r0 r1).1]; exact r2, by rw [(hh r r0 r1).2]; exact r3⟩
  · rw [(hh r r0 r1).1, (hh r r0 r1).2]
    exact h.2.2 r r0 r1
theorem PF_congr (hh : ∀ r : Int, 0 ≤ r → r < nr → hd' r = hd r ∧ rw' r = rw r) {w : Int → Int} (h : PF nv nr hd rw w) : PF nv nr hd' rw' w := ⟨h.1, fun r r0 r1 => by
  rw [(hh r r0 r1).1, (hh r r0 r1).2]
  exact h.2 r r0 r1⟩
theorem GF_congr (hh : ∀ r : Int, 0 ≤ r → r < nr → hd' r = hd r ∧ rw' r = rw r) {w : Int → Int} (h : GF nv nr hd rw w) : GF nv nr hd' rw' w := ⟨PF_congr hh h.1, fun v hv => h.2 v (PF_congr (fun r r0 r1 => ⟨(hh r r0 r1).1.symm, (hh r r0 r1).2.symm⟩) hv)⟩
theorem usC_congr (hh : ∀ r : Int, 0 ≤ r → r < nr → hd' r = hd r ∧ rw' r = rw r) {gd gd' : List Int → Prop} (hgd : ∀ r : Int, 0 ≤ r → r < nr → (gd' (rw r) ↔ gd (rw r))) {S : Int → Prop} (h : usC nr hd rw gd S) : usC nr hd' rw' gd' S := fun r r0 r1 => by
  rw [(hh r r0 r1).1, (hh r r0 r1).2, hgd r r0 r1]
  exact h r r0 r1
theorem eG_congr (hh : ∀ r : Int, 0 ≤ r → r < nr → hd' r = hd r ∧ rw' r = rw r) {gd gd' : List Int → Prop} (hgd : ∀ r : Int, 0 ≤ r → r < nr → (gd' (rw r) ↔ gd (rw r))) {x y : Int} : eG nr hd' rw' gd' x y ↔ eG nr hd rw gd x y := by
  constructor
  · rintro ⟨r, r0, r1, a⟩
    rw [(hh r r0 r1).1, (hh r r0 r1).2, hgd r r0 r1] at a
    exact ⟨r, r0, r1, a⟩
  · rintro ⟨r, r0, r1, a⟩
    refine ⟨r, r0, r1, ?_⟩
    rw [(hh r r0 r1).1, (hh r r0 r1).2, hgd r r0 r1]
    exact a
theorem gG_congr (hg : gOK nv nr hd rw) (hh : ∀ r : Int, 0 ≤ r → r < nr → hd' r = hd r ∧ rw' r = rw r) {gd gd' : List Int → Prop} (hgd : ∀ r : Int, 0 ≤ r → r < nr → (gd' (rw r) ↔ gd (rw r))) {lt lt' : Int → Prop} (hlt : ∀ y, iR nv y → (lt' y ↔ lt y)) {x y : Int} : gG nr hd' rw' gd' lt' x y ↔ gG nr hd rw gd lt x y := by
  have key : ∀ r : Int, 0 ≤ r → r < nr → ∀ (k' : Nat) (s' : Int), (rw r)[k']? = some s' → ((s' < 100 ∨ lt' (s' - 100)) ↔ (s' < 100 ∨ lt (s' - 100))) := fun r r0 r1 k' s' hs => by
    by_cases hl : s' < 100
    · exact ⟨fun _ => Or.inl hl, fun _ => Or.inl hl⟩
    · have hy := gOK_v hg r0 r1 (List.mem_of_getElem? hs) (by omega)
      rw [hlt _ hy]
  constructor
  · rintro ⟨r, r0, r1, a⟩
    rw [(hh r r0 r1).1, (hh r r0 r1).2, hgd r r0 r1] at a
    obtain ⟨a1, a2, k, s, a3, a4, a5, k', s', a6, a7, a8⟩ := a
    exact ⟨r, r0, r1, a1, a2, k, s, a3, a4, a5, k', s', a6, a7, (key r r0 r1 k' s' a7).mp a8⟩
  · rintro ⟨r, r0, r1, a1, a2, k, s, a3, a4, a5, k', s', a6, a7, a8⟩
    refine ⟨r, r0, r1, ?_⟩
    rw [(hh r r0 r1).1, (hh r r0 r1).2, hgd r r0 r1]
    exact ⟨a1, a2, k, s, a3, a4, a5, k', s', a6, a7, (key r r0 r1 k' s' a7).mpr a8⟩
end CG
/-- the least closed set is one -/
theorem usd_eq {nv nr : Nat} {hd : Int → Int} {rw : Int → List Int} {gd : List Int → Prop} {st : Prop} {U V : Int → Prop} (h : usd nv nr hd rw gd st U) (h' : usd nv nr hd rw gd st V) {x : Int} (hx : iR nv x) : U x ↔ V x := ⟨h.2.2 V h'.1 h'.2.1 x hx, h'.2.2 U h.1 h.2.1 x hx⟩
/-- what both sides know of a variable -/
def kn (u : uS) (F us en : Int) (lw sh : Int → Int) (x : Int) : Prop := u.1 283 x = b2 (bi F x.toNat) ∧ u.1 284 x = b2 (bi us x.toNat) ∧ u.1 287 x = b2 (bi en x.toNat) ∧ u.1 285 x = (if sh x = 0 then 1 else 0) ∧ (u.1 283 x = 0 → sh x = 9000000000000000000 ∧ lw x = 0) ∧ (u.1 283 x ≠ 0 → sh x = u.1 288 x ∧ 0 ≤ u.1 288 x ∧ u.1 288 x ≤ 4000000000000000000 ∧ lw x = u.1 289 x ∧ 1 ≤ lw x ∧ lw x ≤ 10)
theorem b2_of {x : Int} {b : Bool} (h : x = 0 ∨ x = 1) (hb : b = true ↔ x ≠ 0) : x = b2 b := by
  rcases h with h | h
  · cases b with
    | false => exact h
    | true => exact absurd h (hb.mp rfl)
  · cases b with
    | false => exact absurd (hb.mpr (by omega)) (by decide)
    | true => exact h
/-- a variable with a tree has a word -/
theorem lw_short {nv nr : Nat} {hd : Int → Int} {rw : Int → List Int} {F : Int} {lw v : Int → Int} (hg : gOK nv nr hd rw) (hF : HF nv nr hd rw F lw) (hP : PF nv nr hd rw v) : ∀ (k : Nat) (x : Int), iR nv x → lw x ≠ 0 → lw x ≤ k → v x ≤ 4000000000000000000 := by
  intro k
  induction k with
  | zero =>
    intro x hx h0 hk
    have := (hF.1 x hx.1 hx.2).1
    omega
  | succ k ih =>
    intro x hx h0 hk
    obtain ⟨r, r0, r1, r2, r3⟩ := hF.2.1 x hx.1 hx.2 h0
    have h1 := hP.2 r r0 r1
    rw [r2] at h1
    have h2 := (sh5_eq (f := v) (rw r) 0 (fun s hs h2 => by
      have hy := gOK_v hg r0 r1 hs h2
      have h3 := r3 s hs h2
      have h4 := ih (s - 100) hy h3.1 (by omega)
      refine ⟨?_, h4⟩
      rcases hP.1 _ hy.1 hy.2 with q | q <;> omega) ⟨Int.le_refl 0, by omega⟩).2.2
    omega
theorem lrn_eq {nv nr : Nat} {hd : Int → Int} {rw : Int → List Int} {F us en : Int} {lw sh : Int → Int} {lt : Int → Prop} {L : Int → Int → Prop} {u : uS} (hv : nv ≤ 10) (hg : gOK nv nr hd rw) (hF : HF nv nr hd rw F lw) (hsh : ∀ v, GF nv nr hd rw v → ∀ x, iR nv x → sh x = v x) (hus : usd nv nr hd rw (gdF F) (bi F 0 = true) (fun y => bi us y.toNat = true)) (hlt : ltd nv nr hd rw (gdF F) lt) (htc : tcR nv (eG nr hd rw (gdF F)) L) (hen : ∀ x, iR nv x → (bi en x.toNat = true ↔ enL nv L (gG nr hd rw (gdF F) lt) x)) (hR : lfR nv nr hd rw lw lt u) : ∀ x, iR nv x → kn u F us en lw sh x := by
  obtain ⟨⟨l1, l2, l3⟩, hbA, hur, A, G, hPS, hTr, hgs, hN⟩ := hR
  have hT : ∀ x, iR nv x → (u.1 283 x ≠ 0 ↔ lw x ≠ 0) ∧ (u.1 283 x = 0 ∨ u.1 283 x = 1) := fun x hx => by
    rcases (l1 x hx.1 hx.2).1 with ⟨q1, q2⟩ | ⟨q1, q2, q3⟩
    · exact ⟨⟨fun q => absurd q1 q, fun q => absurd q2 q⟩, Or.inl q1⟩
    · exact ⟨⟨fun _ => q2, fun _ => by omega⟩, Or.inr q1⟩
  have hTF : ∀ x, iR nv x → (bi F x.toNat = true ↔ u.1 283 x ≠ 0) := fun x hx => ((hF.1 x hx.1 hx.2).2.2).trans (hT x hx).1.symm
  have hgd : ∀ r : Int, 0 ≤ r → r < nr → (gdT (u.1 283) (rw r) ↔ gdF F (rw r)) := fun r r0 r1 => by
    constructor
    · intro h s hs h2
      exact (hTF _ (gOK_v hg r0 r1 hs h2)).mpr (h s hs h2)
    · intro h s hs h2
      exact (hTF _ (gOK_v hg r0 r1 hs h2)).mp (h s hs h2)
  have hgl : ∀ r : Int, 0 ≤ r → r < nr → (gdF F (rw r) → vr (fun y => lw y ≠ 0) (rw r)) := fun r r0 r1 h s hs h2 => by
    have hy := gOK_v hg r0 r1 hs h2
    exact ((hF.1 _ hy.1 hy.2).2.2).mp (h s hs h2)
  have hLe : ∀ y, iR nv y → (u.1 286 y ≠ 0 ↔ lt y) := fun y hy => by
    constructor
    · exact (l1 y hy.1 hy.2).2.2.2
    · exact hlt.2 (fun y => u.1 286 y ≠ 0) (fun r r0 r1 h1 h2 => l3 r r0 r1 (hgl r r0 r1 h1) h2) y hy
  have hst : (u.1 283 0 ≠ 0 ↔ bi F 0 = true) ∨ nv = 0 := by
    by_cases h0 : nv = 0
    · exact Or.inr h0
    · exact Or.inl (hTF 0 ⟨by omega, by omega⟩).symm
  have hgOKr : ∀ x y, eG nr hd rw (gdF F) x y → iR nv x ∧ iR nv y := fun x y h => by
    obtain ⟨r, r0, r1, a1, a2, s, a3, a4, a5⟩ := h
    obtain ⟨b1, b2', b3⟩ := hg r r0 r1
    have hy := gOK_v hg r0 r1 a3 a4
    exact ⟨⟨by omega, by omega⟩, ⟨by omega, by omega⟩⟩
  have hgG : ∀ x y, gG nr hd rw (gdT (u.1 283)) (fun y => u.1 286 y ≠ 0) x y ↔ gG nr hd rw (gdF F) lt x y := fun x y => gG_congr hg (fun r _ _ => ⟨rfl, rfl⟩) hgd (fun y hy => hLe y hy)
  have heG : ∀ x y, eG nr hd rw (gdT (u.1 283)) x y ↔ eG nr hd rw (gdF F) x y := fun x y => eG_congr (fun r _ _ => ⟨rfl, rfl⟩) hgd
  have hgE : ∀ x y, gG nr hd rw (gdF F) lt x y → eG nr hd rw (gdF F) x y := fun x y h => by
    obtain ⟨r, r0, r1, a1, a2, k, s, a3, a4, a5, -⟩ := h
    exact ⟨r, r0, r1, a1, a2, s, List.mem_of_getElem? a3, a4, a5⟩
  have w10 : ∀ {y}, iR nv y → iR 10 y := fun {y} h => ⟨h.1, by have := h.2; omega⟩
  -- the ways of the other side stay among the variables
  have hAr : ∀ x y, iR 10 x → iR 10 y → A (10 * x + y) ≠ 0 → iR nv x ∧ iR nv y := fun x y hx hy h => by
    have := (hPS.2.2.2.2 (fun x y => iR nv x ∧ iR nv y) ⟨fun x y _ _ q => hgOKr x y ((heG x y).mp q), fun x y z _ _ _ q1 q2 => ⟨q1.1, q2.2⟩⟩).1 x y hx hy h
    exact this
  have hA : ∀ x y, iR nv x → iR nv y → (A (10 * x + y) ≠ 0 ↔ L x y) := fun x y hx hy => by
    constructor
    · intro h
      have := (hPS.2.2.2.2 (fun x y => iR nv x ∧ iR nv y ∧ L x y) ⟨fun x y _ _ q => by
        have q2 := (heG x y).mp q
        have q3 := hgOKr x y q2
        exact ⟨q3.1, q3.2, htc.1 x y q3.1 q3.2 q2⟩, fun x y z _ _ _ q1 q2 => ⟨q1.1, q2.2.1, htc.2.1 x y z q1.1 q1.2.1 q2.2.1 q1.2.2 q2.2.2⟩⟩).1 x y (w10 hx) (w10 hy) h
      exact this.2.2
    · exact htc.2.2 (fun x y => A (10 * x + y) ≠ 0) (fun x y hx hy q => hPS.2.2.1 x y (w10 hx) (w10 hy) ((heG x y).mpr q)) (fun x y z hx hy hz => hTr x y z (w10 hx) (w10 hy) (w10 hz)) x y hx hy
  intro x hx
  have hTx := hT x hx
  refine ⟨b2_of hTx.2 (hTF x hx), b2_of (hbA x hx.1 (by have := hx.2; omega)) ?_, b2_of (hN x (w10 hx)).1 ?_, ?_, fun q => ?_, fun q => ?_⟩
  · have hur2 : usd nv nr hd rw (gdF F) (bi F 0 = true) (fun y => u.1 284 y ≠ 0) := by
      rcases hst with h0 | h0
      · refine ⟨usC_congr (fun r _ _ => ⟨rfl, rfl⟩) (fun r r0 r1 => (hgd r r0 r1).symm) hur.1, fun q => hur.2.1 (h0.mpr q), fun S hS hs => hur.2.2 S (usC_congr (fun r _ _ => ⟨rfl, rfl⟩) hgd hS) (fun q => hs (h0.mp q))⟩
      · have := hx.1
        have := hx.2
        omega
    exact usd_eq hus hur2 hx
  · rw [(hN x (w10 hx)).2, hen x hx]
    constructor
    · rintro ⟨p, hp, h1, y, hy, h2, h3⟩
      have hGpp : G (11 * p) ≠ 0 := by
        rw [show 11 * p = 10 * p + p by omega]
        refine hgs p p (w10 hp) (w10 hp) ⟨p, y, w10 hp, w10 hy, (hgG p y).mpr h2, Or.inl rfl, ?_⟩
        rcases h3 with h3 | h3
        · exact Or.inl h3.symm
        · exact Or.inr ((hA y p hy hp).mpr h3)
      refine ⟨p, w10 hp, hGpp, ?_⟩
      rcases h1 with h1 | h1
      · exact Or.inl h1
      · exact Or.inr ((hA x p hx hp).mpr h1)
    · rintro ⟨y, hy, h1, h2⟩
      rw [show 11 * y = 10 * y + y by omega] at h1
      have hext : ext (eG nr hd rw (gdT (u.1 283))) (fun x y => A (10 * x + y) ≠ 0) := ⟨hPS.2.2.1, hTr⟩
      obtain ⟨a, b, ha, hb, h3, h4, h5⟩ := (hPS.2.2.2.2 _ hext).2 y y hy hy h1
      have h3' := (hgG a b).mp h3
      have hab := hgOKr a b (hgE a b h3')
      have hyv : iR nv y := by
        rcases h4 with e | h4
        · rw [e]; exact hab.1
        · exact (hAr y a hy ha h4).1
      have c1 : b = a ∨ A (10 * b + a) ≠ 0 := by
        rcases h5 with e5 | h5
        · rcases h4 with e4 | h4
          · exact Or.inl (e5.trans e4)
          · rw [e5]; exact Or.inr h4
        · rcases h4 with e4 | h4
          · rw [e4] at h5; exact Or.inr h5
          · exact Or.inr (hTr b y a hb hy ha h5 h4)
      have c2 : x = a ∨ A (10 * x + a) ≠ 0 := by
        rcases h2 with e2 | h2
        · rcases h4 with e4 | h4
          · exact Or.inl (e2.trans e4)
          · rw [e2]; exact Or.inr h4
        · rcases h4 with e4 | h4
          · rw [e4] at h2; exact Or.inr h2
          · exact Or.inr (hTr x y a (w10 hx) hy ha h2 h4)
      refine ⟨a, hab.1, ?_, b, hab.2, h3', ?_⟩
      · rcases c2 with q | q
        · exact Or.inl q
        · exact Or.inr ((hA x a hx hab.1).mp q)
      · rcases c1 with q | q
        · exact Or.inl q.symm
        · exact Or.inr ((hA b a hab.2 hab.1).mp q)
  · rw [hsh _ l2 x hx]
    exact (l1 x hx.1 hx.2).2.1
  · rw [hsh _ l2 x hx]
    refine ⟨if_pos q, ?_⟩
    exact Classical.byContradiction (fun z => (hTx.1.mpr z) q)
  · rw [hsh _ l2 x hx]
    have e : vN u x = u.1 288 x := if_neg q
    have hc := l2.1.1 x hx.1 hx.2
    rw [e] at hc ⊢
    have hlw := hF.1 x hx.1 hx.2
    rcases (l1 x hx.1 hx.2).1 with ⟨q1, q2⟩ | ⟨q1, q2, q3⟩
    · exact absurd q1 q
    · refine ⟨rfl, ?_, ?_, q3.symm, by omega, by omega⟩
      · rcases hc with z | z <;> omega
      · rcases hc with z | z
        · exfalso
          have := lw_short hg hF l2.1 (lw x).toNat x hx q2 (by omega)
          rw [e] at this
          omega
        · exact z.2
/-- what is learned of the grammar -/
def invL (u : uS) : Prop := ∃ nv nr : Nat, u.1 6 0 = nv ∧ u.1 6 1 = nr ∧ (∀ x, iR nv x → 65 ≤ u.1 7 x ∧ u.1 7 x ≤ 90 ∧ kn u (u.1 6 6) (u.1 6 7) (u.1 6 8) (u.1 12) (u.1 11) x) ∧ HF nv nr (u.1 8) (row u 6) (u.1 6 6) (u.1 12) ∧ GF nv nr (u.1 8) (row u 6) (u.1 11)
theorem bi_b2 {x s : Int} (h0 : 0 ≤ s) (h1 : s < 32) : iand (iushr x s) 1 = b2 (bi x s.toNat) := by
  rw [bit_i h0 h1]
  rfl
set_option maxRecDepth 4000 in
theorem st_variable {d : Nat} {u : uS} {x y : Int} (hx : rI x) (hy : rI y) (hG : invG u) (hL : invL u) : cL (d + 2) 100 [.ref 0, iV x, iV y] u (fun r u1 => cL (d + 2) 222 [.ref 271, iV x, iV y] u1 (fun r' u2 => r' = r ∧ u2 = u)) := by
  obtain ⟨nv, nr, g1, g2, g3, g4, g5, g6, g7, g8, g9⟩ := hG
  obtain ⟨nv', nr', l1, l2, l3, -⟩ := hL
  have e : nv' = nv := by omega
  rw [e] at l3
  refine e_100 ⟨hx, ?_⟩
  by_cases h0 : x < 0
  · rw [if_pos h0]
    refine e_222 ⟨hx, ?_⟩
    rw [g4]
    refine ⟨⟨by omega, by omega⟩, ?_⟩
    rw [if_pos h0]
    exact ⟨rfl, rfl⟩
  · rw [if_neg h0, g3]
    refine ⟨⟨by omega, by omega⟩, ?_⟩
    by_cases h1 : x < nv
    · rw [if_pos h1]
      refine ⟨hy, ?_⟩
      obtain ⟨n1, n2, k1, k2, k3, k4, k5, k6⟩ := l3 x ⟨by omega, h1⟩
      have hX : (0 : Int) ≤ x := by omega
      have hX2 : x < 32 := by omega
      rw [bi_b2 hX hX2, bi_b2 hX hX2, bi_b2 hX hX2, ← k1, ← k2, ← k3]
      have b1 : u.1 283 x = 0 ∨ u.1 283 x = 1 := by rw [k1]; exact b2_r _
      have b2' : u.1 284 x = 0 ∨ u.1 284 x = 1 := by rw [k2]; exact b2_r _
      have b3 : u.1 287 x = 0 ∨ u.1 287 x = 1 := by rw [k3]; exact b2_r _
      have hsh : rL (u.1 11 x) := by
        by_cases q : u.1 283 x = 0
        · have := k5 q
          exact ⟨by omega, by omega⟩
        · have := k6 q
          exact ⟨by omega, by omega⟩
      have hlw : rI (u.1 12 x) := by
        by_cases q : u.1 283 x = 0
        · have := k5 q
          exact ⟨by omega, by omega⟩
        · have := k6 q
          exact ⟨by omega, by omega⟩
      have rT : ∀ {z : Int}, (z = 0 ∨ z = 1) → rI z := fun {z} q => by rcases q with q | q <;> rw [q] <;> decide
      have ref : ∀ {a r : Int}, (∀ (Q : Int → uS → Prop), Q r u → (rI y) ∧ (if y = 0 then ((x < 10) ∧ ((rI (u.1 274 x)) ∧ (Q (u.1 274 x) u))) else (if y = 1 then ((x < 10) ∧ ((rI (u.1 283 x)) ∧ (if u.1 283 x = 0 then (Q 0 u) else (Q 1 u)))) else (if y = 2 then ((x < 10) ∧ ((rI (u.1 284 x)) ∧ (if u.1 284 x = 0 then (Q 0 u) else (Q 1 u)))) else (if y = 3 then ((x < 10) ∧ ((rI (u.1 285 x)) ∧ (if u.1 285 x = 0 then (Q 0 u) else (Q 1 u)))) else (if y = 4 then ((x < 10) ∧ ((rI (u.1 283 x)) ∧ (if u.1 283 x = 0 then (Q (-2) u) else (Q (u.1 288 x) u)))) else (if y = 5 then ((x < 10) ∧ ((rI (u.1 283 x)) ∧ (if u.1 283 x = 0 then (Q (-2) u) else (Q (u.1 289 x) u)))) else (if y = 6 then ((x < 10) ∧ ((rI (u.1 287 x)) ∧ (if u.1 287 x = 0 then (Q 0 u) else (Q 1 u)))) else (Q (-1) u))))))))) → cL (d + 2) 222 [.ref 271, iV x, iV y] u (fun r' u2 => r' = r ∧ u2 = u) := by
        intro a r h
        refine e_222 ⟨hx, ?_⟩
        rw [g4]
        refine ⟨⟨by omega, by omega⟩, ?_⟩
        rw [if_neg h0, if_neg (by omega)]
        exact h (fun r' u2 => r' = r ∧ u2 = u) ⟨rfl, rfl⟩
      by_cases y0 : y = 0
      · rw [if_pos y0]
        refine ⟨by omega, ⟨by omega, by omega⟩, ref (a := 0) (fun Q hQ => ⟨hy, ?_⟩)⟩
        rw [if_pos y0, g8 x hX h1]
        exact ⟨by omega, ⟨by omega, by omega⟩, hQ⟩
      rw [if_neg y0]
      by_cases y1 : y = 1
      · rw [if_pos y1]
        refine ref (a := 0) (fun Q hQ => ⟨hy, ?_⟩)
        rw [if_neg y0, if_pos y1]
        refine ⟨by omega, rT b1, ?_⟩
        rcases b1 with q | q
        · rw [q] at hQ ⊢; exact hQ
        · rw [q] at hQ ⊢; exact hQ
      rw [if_neg y1]
      by_cases y2 : y = 2
      · rw [if_pos y2]
        refine ref (a := 0) (fun Q hQ => ⟨hy, ?_⟩)
        rw [if_neg y0, if_neg y1, if_pos y2]
        refine ⟨by omega, rT b2', ?_⟩
        rcases b2' with q | q
        · rw [q] at hQ ⊢; exact hQ
        · rw [q] at hQ ⊢; exact hQ
      rw [if_neg y2]
      by_cases y3 : y = 3
      · rw [if_pos y3]
        refine ⟨by omega, hsh, ?_⟩
        by_cases z : u.1 11 x = 0
        · rw [if_pos z]
          refine ref (a := 0) (fun Q hQ => ⟨hy, ?_⟩)
          rw [if_neg y0, if_neg y1, if_neg y2, if_pos y3, k4, if_pos z]
          exact ⟨by omega, by decide, hQ⟩
        · rw [if_neg z]
          refine ref (a := 0) (fun Q hQ => ⟨hy, ?_⟩)
          rw [if_neg y0, if_neg y1, if_neg y2, if_pos y3, k4, if_neg z]
          exact ⟨by omega, by decide, hQ⟩
      rw [if_neg y3]
      by_cases y4 : y = 4
      · rw [if_pos y4]
        refine ⟨by omega, hsh, ?_⟩
        by_cases q : u.1 283 x = 0
        · rw [if_pos (k5 q).1]
          refine ref (a := 0) (fun Q hQ => ⟨hy, ?_⟩)
          rw [if_neg y0, if_neg y1, if_neg y2, if_neg y3, if_pos y4, if_pos q]
          exact ⟨by omega, rT b1, hQ⟩
        · have := k6 q
          rw [if_neg (by omega)]
          refine ref (a := 0) (fun Q hQ => ⟨hy, ?_⟩)
          rw [if_neg y0, if_neg y1, if_neg y2, if_neg y3, if_pos y4, if_neg q, ← this.1]
          exact ⟨by omega, rT b1, hQ⟩
      rw [if_neg y4]
      by_cases y5 : y = 5
      · rw [if_pos y5]
        refine ⟨by omega, hlw, ?_⟩
        by_cases q : u.1 283 x = 0
        · rw [if_pos (k5 q).2]
          refine ref (a := 0) (fun Q hQ => ⟨hy, ?_⟩)
          rw [if_neg y0, if_neg y1, if_neg y2, if_neg y3, if_neg y4, if_pos y5, if_pos q]
          exact ⟨by omega, rT b1, hQ⟩
        · have := k6 q
          rw [if_neg (by omega)]
          refine ref (a := 0) (fun Q hQ => ⟨hy, ?_⟩)
          rw [if_neg y0, if_neg y1, if_neg y2, if_neg y3, if_neg y4, if_pos y5, if_neg q, ← this.2.2.2.1]
          exact ⟨by omega, rT b1, hQ⟩
      rw [if_neg y5]
      by_cases y6 : y = 6
      · rw [if_pos y6]
        refine ref (a := 0) (fun Q hQ => ⟨hy, ?_⟩)
        rw [if_neg y0, if_neg y1, if_neg y2, if_neg y3, if_neg y4, if_neg y5, if_pos y6]
        refine ⟨by omega, rT b3, ?_⟩
        rcases b3 with q | q
        · rw [q] at hQ ⊢; exact hQ
        · rw [q] at hQ ⊢; exact hQ
      · rw [if_neg y6]
        refine ref (a := 0) (fun Q hQ => ⟨hy, ?_⟩)
        rw [if_neg y0, if_neg y1, if_neg y2, if_neg y3, if_neg y4, if_neg y5, if_neg y6]
        exact hQ
    · rw [if_neg h1]
      refine e_222 ⟨hx, ?_⟩
      rw [g4]
      refine ⟨⟨by omega, by omega⟩, ?_⟩
      rw [if_neg h0, if_pos (by omega)]
      exact ⟨rfl, rfl⟩
