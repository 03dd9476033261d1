/-! learnHeights: levels -/
def vr (P : Int → Prop) (l : List Int) : Prop := ∀ s ∈ l, 100 ≤ s → P (s - 100)
theorem vr_mono {P P' : Int → Prop} {l : List Int} (h : vr P l) (hp : ∀ y, P y → P' y) : vr P' l := fun s hs h1 => hp _ (h s hs h1)
theorem vr_not {P : Int → Prop} {l : List Int} (h : ¬ vr P l) : ∃ s, s ∈ l ∧ 100 ≤ s ∧ ¬ P (s - 100) := by
  refine Classical.byContradiction (fun hne => h (fun s hs h1 => ?_))
  exact Classical.byContradiction (fun hp => hne ⟨s, hs, h1, hp⟩)
theorem wth_iff {al : Int} : ∀ {l : List Int}, wth al l = true ↔ vr (fun y => bi al y.toNat = true) l
  | [] => ⟨fun _ s hs => (by cases hs), fun _ => rfl⟩
  | s :: l => by
    have ih := wth_iff (al := al) (l := l)
    simp only [wth, Bool.and_eq_true, Bool.or_eq_true, decide_eq_true_eq]
    constructor
    · rintro ⟨h1, h2⟩ q hq h3
      rcases List.mem_cons.mp hq with e | hq
      · rw [e] at h3 ⊢
        rcases h1 with h1 | h1
        · omega
        · exact h1
      · exact ih.mp h2 q hq h3
    · intro h
      refine ⟨?_, ih.mpr (fun q hq => h q (List.mem_cons_of_mem _ hq))⟩
      by_cases hs : s < 100
      · exact Or.inl hs
      · exact Or.inr (h s List.mem_cons_self (by omega))
/-- the grammar's rules, as numbers -/
def gOK (nv nr : Nat) (hd : Int → Int) (rw : Int → List Int) : Prop := ∀ r : Int, 0 ≤ r → r < nr → 0 ≤ hd r ∧ hd r < nv ∧ ∀ s ∈ rw r, symR nv s
theorem gOK_v {nv nr : Nat} {hd : Int → Int} {rw : Int → List Int} (hg : gOK nv nr hd rw) {r s : Int} (h0 : 0 ≤ r) (h1 : r < nr) (hs : s ∈ rw r) (h2 : 100 ≤ s) : 0 ≤ s - 100 ∧ s - 100 < nv := by
  rcases (hg r h0 h1).2.2 s hs with ⟨a, b⟩ | ⟨a, b⟩ <;> omega
def hg1 (hd : Int → Int) (rw : Int → List Int) (h lo : Int) : Nat → Int → Int × (Int → Int) → Int × (Int → Int)
  | 0, _, p => p
  | m + 1, r, p => hg1 hd rw h lo m (r + 1) (if p.2 (hd r) = 0 ∧ wth lo (rw r) = true then (ior p.1 (ishl 1 (hd r)), uf p.2 (hd r) h) else p)
def hg2 (hd : Int → Int) (rw : Int → List Int) (nr : Nat) : Nat → Int → Int × (Int → Int) → Int × (Int → Int)
  | 0, _, p => p
  | m + 1, h, p => hg2 hd rw nr m (h + 1) (hg1 hd rw h p.1 nr 0 p)
theorem hg1_r {hd : Int → Int} {rw : Int → List Int} {h lo : Int} (h0 : 0 ≤ h) (h1 : h ≤ 10) : ∀ (m : Nat) (r : Int) (p : Int × (Int → Int)), (∀ x, 0 ≤ x → x < 10 → 0 ≤ p.2 x ∧ p.2 x ≤ 10) → ∀ x, 0 ≤ x → x < 10 → 0 ≤ (hg1 hd rw h lo m r p).2 x ∧ (hg1 hd rw h lo m r p).2 x ≤ 10
  | 0, _, _, hp => hp
  | m + 1, r, p, hp => by
    refine hg1_r h0 h1 m (r + 1) _ ?_
    split
    · intro x a1 a2
      show 0 ≤ uf p.2 (hd r) h x ∧ uf p.2 (hd r) h x ≤ 10
      by_cases e : x = hd r
      · rw [e, uf_eq]; exact ⟨h0, h1⟩
      · rw [uf_ne e]; exact hp x a1 a2
    · exact hp
def sH (u : uS) (a : Nat) (F : Int) (L : Int → Int) : uS := (fun b j => if b = a ∧ j = 6 then F else if b = a + 6 then L j else u.1 b j, u.2)
theorem sH_wL {u : uS} {a : Nat} {F x v : Int} {L : Int → Int} : wr (sH u a F L) (a + 6) x v = sH u a F (uf L x v) := by
  refine Prod.ext ?_ rfl
  funext b j
  simp only [wr, sH, uf]
  by_cases h1 : b = a + 6
  · simp [h1]
  · simp [h1]
theorem sH_wF {u : uS} {a : Nat} {F v : Int} {L : Int → Int} : wr (sH u a F L) a 6 v = sH u a v L := by
  refine Prod.ext ?_ rfl
  funext b j
  simp only [wr, sH]
  by_cases h1 : b = a ∧ j = 6
  · rw [if_pos h1, if_pos h1]
  · rw [if_neg h1, if_neg h1, if_neg h1]
theorem sH_6 {u : uS} {a : Nat} {F : Int} {L : Int → Int} : (sH u a F L).1 a 6 = F := by simp [sH]
theorem sH_L {u : uS} {a : Nat} {F : Int} {L : Int → Int} : (sH u a F L).1 (a + 6) = L := by
  funext j
  simp [sH]
theorem sH_a {u : uS} {a : Nat} {F j : Int} {L : Int → Int} (h : j ≠ 6) : (sH u a F L).1 a j = u.1 a j := by simp [sH, h]
theorem sH_o {u : uS} {a b : Nat} {F : Int} {L : Int → Int} (h1 : b ≠ a) (h2 : b ≠ a + 6) : (sH u a F L).1 b = u.1 b := by
  funext j
  simp [sH, h1, h2]
theorem row_sH {u : uS} {a : Nat} {F r : Int} {L : Int → Int} : row (sH u a F L) a r = row u a r := by
  unfold row
  rw [sH_o (b := a + 4) (by omega) (by omega), sH_o (b := a + 3) (by omega) (by omega)]
theorem gR_sH {u : uS} {a : Nat} {F r : Int} {L : Int → Int} (h : gR u a r) : gR (sH u a F L) a r := by
  unfold gR at h ⊢
  rw [sH_o (b := a + 4) (by omega) (by omega), sH_o (b := a + 3) (by omega) (by omega)]
  exact h
def hg0 (u : uS) (a : Nat) : Int × (Int → Int) := (0, fun j => if 0 ≤ j ∧ j < 10 then 0 else u.1 (a + 6) j)
theorem q_45 {d : Nat} {u : uS} {a nv nr : Nat} (hO : isO a 2) (hg : gA u a nv nr) : cV (d + 3) 45 [.ref a] u (fun u' => u' = sH u a (hg2 (u.1 (a + 2)) (row u a) nr nv 1 (hg0 u a)).1 (hg2 (u.1 (a + 2)) (row u a) nr nv 1 (hg0 u a)).2) := by
  obtain ⟨hv, hn, g0, g1, g2⟩ := hg
  have inner : ∀ (m : Nat) (h lo r : Int) (p : Int × (Int → Int)) (Q : uS → Prop), 0 ≤ r → r + m = nr → 0 ≤ h → h ≤ 10 → (∀ x, 0 ≤ x → x < 10 → 0 ≤ p.2 x ∧ p.2 x ≤ 10) → K_45p (d + 2) 15 [.ref a, iV (h + 1), .retAddr 0, .retAddr 0] [] (sH u a (hg1 (u.1 (a + 2)) (row u a) h lo m r p).1 (hg1 (u.1 (a + 2)) (row u a) h lo m r p).2) Q → K_45p (d + 2) 30 [.ref a, iV h, iV lo, iV r] [] (sH u a p.1 p.2) Q := by
    intro m
    induction m with
    | zero =>
      intro h lo r p Q hr he h0 h1 hp hQ
      have e1 : (sH u a p.1 p.2).1 a 1 = nr := by rw [sH_a (by decide), g1]
      refine k_45_30p hO ⟨⟨by omega, by omega⟩, by rw [e1]; exact ⟨by omega, by omega⟩, ?_⟩
      rw [e1, if_neg (by omega)]
      exact hQ
    | succ m ih =>
      intro h lo r p Q hr he h0 h1 hp hQ
      have e1 : (sH u a p.1 p.2).1 a 1 = nr := by rw [sH_a (by decide), g1]
      obtain ⟨q1, q2, q3⟩ := g2 r hr (by omega)
      refine k_45_30p hO ⟨⟨by omega, by omega⟩, by rw [e1]; exact ⟨by omega, by omega⟩, ?_⟩
      rw [e1, if_pos (by omega), sH_L, sH_o (b := a + 2) (by omega) (by omega), row_sH]
      have hx := hp (u.1 (a + 2) r) q2 (by omega)
      refine ⟨hr, by omega, q2, by omega, ⟨by omega, by omega⟩, ?_⟩
      simp only [hg1] at hQ
      by_cases hz : p.2 (u.1 (a + 2) r) = 0
      · rw [if_pos hz]
        refine ⟨gR_sH q1, ?_⟩
        by_cases hw : wth lo (row u a r) = true
        · rw [if_pos ⟨hz, hw⟩] at hQ
          rw [hw, if_neg (by decide)]
          intro u12 e12 u14 e14
          rw [sH_wL] at e12
          rw [e12, sH_6, sH_o (b := a + 2) (by omega) (by omega), sH_wF] at e14
          rw [e14]
          refine ih h lo (r + 1) (ior p.1 (ishl 1 (u.1 (a + 2) r)), uf p.2 (u.1 (a + 2) r) h) Q (by omega) (by omega) h0 h1 (fun x a1 a2 => ?_) hQ
          show 0 ≤ uf p.2 (u.1 (a + 2) r) h x ∧ uf p.2 (u.1 (a + 2) r) h x ≤ 10
          by_cases e : x = u.1 (a + 2) r
          · rw [e, uf_eq]; exact ⟨h0, h1⟩
          · rw [uf_ne e]; exact hp x a1 a2
        · rw [if_neg (fun q => hw q.2)] at hQ
          have hw2 : wth lo (row u a r) = false := by simpa using hw
          rw [hw2, if_pos (by decide)]
          exact ih h lo (r + 1) p Q (by omega) (by omega) h0 h1 hp hQ
      · rw [if_neg (fun q => hz q.1)] at hQ
        rw [if_neg hz]
        exact ih h lo (r + 1) p Q (by omega) (by omega) h0 h1 hp hQ
  have outer : ∀ (m : Nat) (h : Int) (p : Int × (Int → Int)) (Q : uS → Prop), 0 ≤ h → h + m = nv + 1 → (∀ x, 0 ≤ x → x < 10 → 0 ≤ p.2 x ∧ p.2 x ≤ 10) → Q (sH u a (hg2 (u.1 (a + 2)) (row u a) nr m h p).1 (hg2 (u.1 (a + 2)) (row u a) nr m h p).2) → K_45p (d + 2) 15 [.ref a, iV h, .retAddr 0, .retAddr 0] [] (sH u a p.1 p.2) Q := by
    intro m
    induction m with
    | zero =>
      intro h p Q h0 he hp hQ
      have e0 : (sH u a p.1 p.2).1 a 0 = nv := by rw [sH_a (by decide), g0]
      refine k_45_15p hO ⟨⟨by omega, by omega⟩, by rw [e0]; exact ⟨by omega, by omega⟩, ?_⟩
      rw [e0, if_pos (by omega)]
      exact hQ
    | succ m ih =>
      intro h p Q h0 he hp hQ
      have e0 : (sH u a p.1 p.2).1 a 0 = nv := by rw [sH_a (by decide), g0]
      refine k_45_15p hO ⟨⟨by omega, by omega⟩, by rw [e0]; exact ⟨by omega, by omega⟩, ?_⟩
      rw [e0, if_neg (by omega), sH_6]
      exact inner nr h p.1 0 p Q (Int.le_refl 0) (by omega) h0 (by omega) hp (ih (h + 1) _ Q (by omega) (by omega) (hg1_r h0 (by omega) nr 0 p hp) hQ)
  refine e_45p hO (fun u1 e1 u3 e3 => ?_)
  have e : u3 = sH u a (hg0 u a).1 (hg0 u a).2 := by
    rw [e3, e1]
    refine Prod.ext ?_ rfl
    funext b j
    simp only [fil, wr, sH, hg0]
    by_cases h1 : b = a + 6
    · simp [h1]
    · simp [h1]
  rw [e]
  refine outer nv 1 _ _ (by omega) (by omega) (fun x a1 a2 => ?_) rfl
  simp only [hg0]
  rw [if_pos ⟨a1, a2⟩]
  omega
/-- what holds at the beginning of height h -/
def HI (nv nr : Nat) (hd : Int → Int) (rw : Int → List Int) (h : Int) (p : Int × (Int → Int)) : Prop :=
  (∀ x : Int, 0 ≤ x → x < nv → 0 ≤ p.2 x ∧ p.2 x < h ∧ (bi p.1 x.toNat = true ↔ p.2 x ≠ 0)) ∧
  (∀ x : Int, 0 ≤ x → x < nv → p.2 x ≠ 0 → ∃ r : Int, 0 ≤ r ∧ r < nr ∧ hd r = x ∧ vr (fun y => p.2 y ≠ 0 ∧ p.2 y < p.2 x) (rw r)) ∧
  (∀ r k : Int, 0 ≤ r → r < nr → 0 ≤ k → k + 1 < h → vr (fun y => p.2 y ≠ 0 ∧ p.2 y ≤ k) (rw r) → p.2 (hd r) ≠ 0 ∧ p.2 (hd r) ≤ k + 1)
def HJ (nv nr : Nat) (hd : Int → Int) (rw : Int → List Int) (h : Int) (p0 : Int × (Int → Int)) (r : Int) (p : Int × (Int → Int)) : Prop :=
  (∀ x : Int, 0 ≤ x → x < nv → (p0.2 x ≠ 0 → p.2 x = p0.2 x) ∧ (p0.2 x = 0 → p.2 x = 0 ∨ (p.2 x = h ∧ ∃ r' : Int, 0 ≤ r' ∧ r' < nr ∧ hd r' = x ∧ vr (fun y => p0.2 y ≠ 0) (rw r'))) ∧ (bi p.1 x.toNat = true ↔ p.2 x ≠ 0)) ∧
  (∀ r' : Int, 0 ≤ r' → r' < r → vr (fun y => p0.2 y ≠ 0) (rw r') → p.2 (hd r') ≠ 0)
theorem HJ_go {nv nr : Nat} {hd : Int → Int} {rw : Int → List Int} {h : Int} {p0 : Int × (Int → Int)} (hv : nv ≤ 10) (hg : gOK nv nr hd rw) (h1 : 1 ≤ h) (hp0 : ∀ x : Int, 0 ≤ x → x < nv → (bi p0.1 x.toNat = true ↔ p0.2 x ≠ 0)) : ∀ (m : Nat) (r : Int) (p : Int × (Int → Int)), 0 ≤ r → r + m = nr → HJ nv nr hd rw h p0 r p → HJ nv nr hd rw h p0 nr (hg1 hd rw h p0.1 m r p) := by
  intro m
  induction m with
  | zero =>
    intro r p hr he hJ
    have e : r = nr := by omega
    rw [← e]
    exact hJ
  | succ m ih =>
    intro r p hr he hJ
    obtain ⟨j1, j2⟩ := hJ
    obtain ⟨b1, b2, b3⟩ := hg r hr (by omega)
    have hwv : wth p0.1 (rw r) = true ↔ vr (fun y => p0.2 y ≠ 0) (rw r) := by
      rw [wth_iff]
      constructor
      · intro q s hs h2
        have := gOK_v hg hr (by omega) hs h2
        exact (hp0 _ this.1 this.2).mp (q s hs h2)
      · intro q s hs h2
        have := gOK_v hg hr (by omega) hs h2
        exact (hp0 _ this.1 this.2).mpr (q s hs h2)
    refine ih (r + 1) _ (by omega) (by omega) ?_
    by_cases hc : p.2 (hd r) = 0 ∧ wth p0.1 (rw r) = true
    · rw [if_pos hc]
      have hvr := hwv.mp hc.2
      refine ⟨fun x x0 x1 => ?_, fun r' r0 r1 hvv => ?_⟩
      · obtain ⟨c1, c2, c3⟩ := j1 x x0 x1
        show (p0.2 x ≠ 0 → uf p.2 (hd r) h x = p0.2 x) ∧ (p0.2 x = 0 → uf p.2 (hd r) h x = 0 ∨ (uf p.2 (hd r) h x = h ∧ ∃ r' : Int, 0 ≤ r' ∧ r' < nr ∧ hd r' = x ∧ vr (fun y => p0.2 y ≠ 0) (rw r'))) ∧ (bi (ior p.1 (ishl 1 (hd r))) x.toNat = true ↔ uf p.2 (hd r) h x ≠ 0)
        rw [bi_ior, bi_bit b1 (by omega)]
        by_cases e : x = hd r
        · rw [e, uf_eq]
          rw [e] at c1
          refine ⟨fun q => ?_, fun q => Or.inr ⟨rfl, r, hr, by omega, rfl, hvr⟩, ?_⟩
          · have := c1 q
            omega
          · simp
            omega
        · rw [uf_ne e]
          have e2 : ¬ x.toNat = (hd r).toNat := by omega
          simp only [e2, decide_false, Bool.or_false]
          exact ⟨c1, c2, c3⟩
      · show uf p.2 (hd r) h (hd r') ≠ 0
        by_cases e : hd r' = hd r
        · rw [e, uf_eq]
          omega
        · rw [uf_ne e]
          by_cases e2 : r' = r
          · rw [e2] at e
            exact absurd rfl e
          · exact j2 r' r0 (by omega) hvv
    · rw [if_neg hc]
      refine ⟨j1, fun r' r0 r1 hvv => ?_⟩
      by_cases e2 : r' = r
      · rw [e2] at hvv ⊢
        intro q
        exact hc ⟨q, hwv.mpr hvv⟩
      · exact j2 r' r0 (by omega) hvv
theorem HI_s {nv nr : Nat} {hd : Int → Int} {rw : Int → List Int} {h : Int} {p0 p : Int × (Int → Int)} (hg : gOK nv nr hd rw) (h1 : 1 ≤ h) (hI : HI nv nr hd rw h p0) (hJ : HJ nv nr hd rw h p0 nr p) : HI nv nr hd rw (h + 1) p := by
  obtain ⟨i1, i2, i3⟩ := hI
  obtain ⟨j1, j2⟩ := hJ
  refine ⟨fun x x0 x1 => ?_, fun x x0 x1 hx => ?_, fun r k r0 r1 k0 k1 hvv => ?_⟩
  · obtain ⟨a1, a2, a3⟩ := i1 x x0 x1
    obtain ⟨c1, c2, c3⟩ := j1 x x0 x1
    by_cases e : p0.2 x = 0
    · rcases c2 e with q | ⟨q, -⟩
      · exact ⟨by omega, by omega, c3⟩
      · exact ⟨by omega, by omega, c3⟩
    · have := c1 e
      exact ⟨by omega, by omega, c3⟩
  · obtain ⟨a1, a2, a3⟩ := i1 x x0 x1
    obtain ⟨c1, c2, c3⟩ := j1 x x0 x1
    by_cases e : p0.2 x = 0
    · rcases c2 e with q | ⟨q, r', r0, r1, r2, r3⟩
      · exact absurd q hx
      · refine ⟨r', r0, r1, r2, fun s hs h2 => ?_⟩
        have hy := gOK_v hg r0 r1 hs h2
        have hyn := r3 s hs h2
        have := (j1 _ hy.1 hy.2).1 hyn
        have := i1 _ hy.1 hy.2
        exact ⟨by omega, by omega⟩
    · have ex := c1 e
      obtain ⟨r', r0, r1, r2, r3⟩ := i2 x x0 x1 e
      refine ⟨r', r0, r1, r2, fun s hs h2 => ?_⟩
      have hy := gOK_v hg r0 r1 hs h2
      have hyn := r3 s hs h2
      have := (j1 _ hy.1 hy.2).1 hyn.1
      exact ⟨by omega, by omega⟩
  · have hq : vr (fun y => p0.2 y ≠ 0 ∧ p0.2 y ≤ k) (rw r) := fun s hs h2 => by
      have hy := gOK_v hg r0 r1 hs h2
      have hyn := hvv s hs h2
      obtain ⟨c1, c2, c3⟩ := j1 _ hy.1 hy.2
      have ha := i1 _ hy.1 hy.2
      by_cases e : p0.2 (s - 100) = 0
      · rcases c2 e with q | ⟨q, -⟩
        · exact absurd q hyn.1
        · omega
      · have := c1 e
        exact ⟨e, by omega⟩
    obtain ⟨b1, b2, b3⟩ := hg r r0 r1
    obtain ⟨c1, c2, c3⟩ := j1 _ b1 b2
    by_cases hk : k + 1 < h
    · obtain ⟨d1, d2⟩ := i3 r k r0 r1 k0 hk hq
      have := c1 d1
      exact ⟨by omega, by omega⟩
    · have hne := j2 r r0 r1 (vr_mono hq (fun y q => q.1))
      refine ⟨hne, ?_⟩
      have ha := i1 _ b1 b2
      by_cases e : p0.2 (hd r) = 0
      · rcases c2 e with q | ⟨q, -⟩
        · exact absurd q hne
        · omega
      · have := c1 e
        omega
theorem HI_all {nv nr : Nat} {hd : Int → Int} {rw : Int → List Int} (hv : nv ≤ 10) (hg : gOK nv nr hd rw) : ∀ (m : Nat) (h : Int) (p : Int × (Int → Int)), 1 ≤ h → HI nv nr hd rw h p → HI nv nr hd rw (h + m) (hg2 hd rw nr m h p) := by
  intro m
  induction m with
  | zero =>
    intro h p h1 hI
    rw [show h + ((0 : Nat) : Int) = h by omega]
    exact hI
  | succ m ih =>
    intro h p h1 hI
    have h2 : HJ nv nr hd rw h p 0 p := ⟨fun x x0 x1 => ⟨fun _ => rfl, fun q => Or.inl q, (hI.1 x x0 x1).2.2⟩, fun r' r0 r1 => by omega⟩
    have h3 := HJ_go hv hg h1 (fun x x0 x1 => (hI.1 x x0 x1).2.2) nr 0 p (Int.le_refl 0) (by omega) h2
    have h4 := ih (h + 1) _ (by omega) (HI_s hg h1 hI h3)
    rw [show h + ((m + 1 : Nat) : Int) = h + 1 + (m : Int) by omega]
    exact h4
/-- heights as they are learned: f 0 means no tree -/
def HF (nv nr : Nat) (hd : Int → Int) (rw : Int → List Int) (F : Int) (f : Int → Int) : Prop :=
  (∀ x : Int, 0 ≤ x → x < nv → 0 ≤ f x ∧ f x ≤ nv ∧ (bi F x.toNat = true ↔ f x ≠ 0)) ∧
  (∀ x : Int, 0 ≤ x → x < nv → f x ≠ 0 → ∃ r : Int, 0 ≤ r ∧ r < nr ∧ hd r = x ∧ vr (fun y => f y ≠ 0 ∧ f y < f x) (rw r)) ∧
  (∀ r : Int, 0 ≤ r → r < nr → vr (fun y => f y ≠ 0) (rw r) → f (hd r) ≠ 0 ∧ ∀ k : Int, 0 ≤ k → vr (fun y => f y ≤ k) (rw r) → f (hd r) ≤ k + 1)
theorem HF_of {nv nr : Nat} {hd : Int → Int} {rw : Int → List Int} {p : Int × (Int → Int)} (hg : gOK nv nr hd rw) (hI : HI nv nr hd rw (nv + 1) p) : HF nv nr hd rw p.1 p.2 := by
  obtain ⟨i1, i2, i3⟩ := hI
  have lev : ∀ j : Nat, (∃ x : Int, 0 ≤ x ∧ x < nv ∧ p.2 x = (nv : Int) - j) → 1 + (j : Int) ≤ nv → ∀ k : Nat, j ≤ k → 1 + (k : Int) ≤ nv → ∃ x : Int, 0 ≤ x ∧ x < nv ∧ p.2 x = (nv : Int) - k := by
    intro j hj hj1 k
    induction k with
    | zero =>
      intro hk _
      have e : j = 0 := by omega
      rw [e] at hj
      exact hj
    | succ k ih =>
      intro hk hk1
      by_cases e : j = k + 1
      · rw [← e]; exact hj
      · obtain ⟨x, x0, x1, x2⟩ := ih (by omega) (by omega)
        obtain ⟨r, r0, r1, r2, r3⟩ := i2 x x0 x1 (by omega)
        refine Classical.byContradiction (fun hne => ?_)
        have hq : vr (fun y => p.2 y ≠ 0 ∧ p.2 y ≤ (nv : Int) - k - 2) (rw r) := fun s hs h2 => by
          have hy := gOK_v hg r0 r1 hs h2
          have hyn := r3 s hs h2
          refine ⟨hyn.1, ?_⟩
          have hz : p.2 (s - 100) ≠ (nv : Int) - ((k + 1 : Nat) : Int) := fun q => hne ⟨_, hy.1, hy.2, q⟩
          omega
        by_cases hk2 : 0 ≤ (nv : Int) - k - 2
        · have := (i3 r _ r0 r1 hk2 (by omega) hq).2
          rw [r2] at this
          omega
        · omega
  refine ⟨fun x x0 x1 => ?_, i2, fun r r0 r1 hvv => ?_⟩
  · obtain ⟨a1, a2, a3⟩ := i1 x x0 x1
    exact ⟨a1, by omega, a3⟩
  · obtain ⟨b1, b2, b3⟩ := hg r r0 r1
    have key : p.2 (hd r) ≠ 0 := by
      by_cases hc : vr (fun y => p.2 y ≤ (nv : Int) - 1) (rw r)
      · exact (i3 r ((nv : Int) - 1) r0 r1 (by omega) (by omega) (fun s hs h2 => ⟨hvv s hs h2, hc s hs h2⟩)).1
      · obtain ⟨s, hs, h2, h3⟩ := vr_not hc
        have hy := gOK_v hg r0 r1 hs h2
        have ha := i1 _ hy.1 hy.2
        have h0 : ∃ x : Int, 0 ≤ x ∧ x < nv ∧ p.2 x = (nv : Int) - (0 : Nat) := ⟨s - 100, hy.1, hy.2, by omega⟩
        have cnt : ∀ j : Nat, j ≤ nv → j ≤ ct (fun i => decide (p.2 (i : Int) ≠ 0 ∧ p.2 (i : Int) ≤ (j : Int))) nv := by
          intro j
          induction j with
          | zero => intro _; exact Nat.zero_le _
          | succ j ih =>
            intro hj
            have h5 := ih (by omega)
            obtain ⟨x, x0, x1, x2⟩ := lev 0 h0 (by omega) (nv - 1 - j) (by omega) (by omega)
            have h6 : ct (fun i => decide (p.2 (i : Int) ≠ 0 ∧ p.2 (i : Int) ≤ (j : Int))) nv < ct (fun i => decide (p.2 (i : Int) ≠ 0 ∧ p.2 (i : Int) ≤ ((j + 1 : Nat) : Int))) nv := by
              refine ct_lt nv (fun i hi q => ?_) ⟨x.toNat, by omega, ?_, ?_⟩
              · have q := of_decide_eq_true q
                exact decide_eq_true ⟨q.1, by omega⟩
              · have e : ((x.toNat : Nat) : Int) = x := by omega
                rw [e]
                exact decide_eq_false (fun q => by omega)
              · have e : ((x.toNat : Nat) : Int) = x := by omega
                rw [e]
                exact decide_eq_true ⟨by omega, by omega⟩
            omega
        have h7 := ct_full nv (cnt nv (Nat.le_refl nv)) (hd r).toNat (by omega)
        have e : (((hd r).toNat : Nat) : Int) = hd r := by omega
        rw [e] at h7
        exact (of_decide_eq_true h7).1
    refine ⟨key, fun k k0 hk => ?_⟩
    by_cases hkn : k + 1 < (nv : Int) + 1
    · exact (i3 r k r0 r1 k0 hkn (fun s hs h2 => ⟨hvv s hs h2, hk s hs h2⟩)).2
    · have := i1 _ b1 b2
      omega
