/-! trees and treesOf alike -/
def wfn (f : Int → Int) (k : Nat) : Int → Int := fun q => if 0 ≤ q ∧ q < k then f q else 0
noncomputable def tW (g : Gm) (w : Int → Int) (k : Nat) (x : Int) : Int := if k = 0 then em g x else tT g (ltW (wfn w k)) (fun p => p) k x 0
noncomputable def tL (g : Gm) (n : Nat) : Int := if n = 0 then em g 0 else tT g (fun _ _ => True) (fun _ => 0) n 0 0
theorem tW_cv (g : Gm) (w : Int → Int) (k : Nat) (x : Int) : cv (tW g w k x) := by
  unfold tW
  split
  · exact em_cv g x
  · exact tT_cv _ _ _
theorem tL_cv (g : Gm) (n : Nat) : cv (tL g n) := by
  unfold tL
  split
  · exact em_cv g 0
  · exact tT_cv _ _ _
theorem wfn_in {f : Int → Int} {k : Nat} {q : Int} (h0 : 0 ≤ q) (h1 : q < k) : wfn f k q = f q := if_pos ⟨h0, h1⟩
theorem wfn_eq {f h : Int → Int} {k : Nat} (e : ∀ q : Int, 0 ≤ q → q < k → f q = h q) : wfn f k = wfn h k := by
  funext q
  unfold wfn
  by_cases c : 0 ≤ q ∧ q < k
  · rw [if_pos c, if_pos c, e q c.1 c.2]
  · rw [if_neg c, if_neg c]
/-- the grammar as the first side holds it -/
def gC (u : uS) : Gm := ((u.1 6 0).toNat, (u.1 6 1).toNat, u.1 8, u.1 9, fun r k => u.1 10 (r * 6 + k), fun x => u.1 11 x = 0)
theorem gC_of {u u' : uS} (h0 : u'.1 6 0 = u.1 6 0) (h1 : u'.1 6 1 = u.1 6 1) (h8 : u'.1 8 = u.1 8) (h9 : u'.1 9 = u.1 9) (h10 : u'.1 10 = u.1 10) (h11 : u'.1 11 = u.1 11) : gC u' = gC u := by
  unfold gC
  rw [h0, h1, h8, h9, h10, h11]
theorem shS_0 {f : Int → Int} : ∀ (l : List Int), (∀ s ∈ l, 100 ≤ s ∧ f (s - 100) = 0) → shS f 0 l = 0
  | [], _ => rfl
  | s :: l, h => by
    have hs := h s List.mem_cons_self
    simp only [shS]
    rw [if_neg (by omega), hs.2]
    have : pl 9000000000000000000 0 0 = 0 := by decide
    rw [this]
    exact shS_0 l (fun q hq => h q (List.mem_cons_of_mem _ hq))
theorem gC_all {u : uS} (hG : invG u) (hL : invL u) : gK (gC u) ∧ (∀ v : uS, v.1 6 = u.1 6 → v.1 8 = u.1 8 → v.1 9 = u.1 9 → v.1 10 = u.1 10 → v.1 11 = u.1 11 → v.2 36 0 = 6 → cA v (gC u)) ∧ rA u (gC u) := by
  obtain ⟨nv, nr, b1, b2', b3, b4, b5, b6, b7, b8, b9⟩ := id hG
  obtain ⟨nv', nr', l1, l2, l3, l4, l5⟩ := id hL
  have en : (u.1 6 0).toNat = nv := by omega
  have er : (u.1 6 1).toNat = nr := by omega
  have en' : nv' = nv := by omega
  have er' : nr' = nr := by omega
  rw [en', er'] at l5
  rw [en'] at l3
  have hgv : gv (gC u) = nv := en
  have hgr : gr (gC u) = nr := er
  refine ⟨⟨by rw [hgv]; exact b1, by rw [hgr]; exact b2', fun r r0 r1 => ?_, fun r r0 r1 hr => ?_⟩, fun v v6 v8 v9 v10 v11 v0 => ?_, ?_⟩
  · rw [hgr] at r1
    obtain ⟨c1, c2, c3, c4, c5, c6, c7⟩ := b9 r r0 r1
    rw [hgv]
    exact ⟨⟨c3, c4⟩, c5, c6, fun k k0 k1 => (c7 k k0 k1).2⟩
  · rw [hgr] at r1
    obtain ⟨c1, c2, c3, c4, c5, c6, c7⟩ := b9 r r0 r1
    show u.1 11 (u.1 8 r) = 0
    have h1 := l5.1.2 r r0 r1
    have h2 : shS (u.1 11) 0 (row u 6 r) = 0 := shS_0 _ (fun s hs => by
      obtain ⟨k, k0, k1, k2⟩ := (row_mem _ _ _).mp hs
      have k1' : k < u.1 9 r := by
        have : k < 0 + ((u.1 9 r).toNat : Int) := k1
        omega
      have := hr k k0 k1'
      have e : gy (gC u) r k = s := k2
      rw [e] at this
      exact this)
    rw [h2] at h1
    have h3 := l5.1.1 (u.1 8 r) c3 c4
    rcases h3 with q | q
    · omega
    · omega
  · refine ⟨v0, ?_, ?_, fun r r0 r1 => ?_, fun x hx => ?_⟩
    · rw [v6, hgv]; exact b3
    · rw [v6, hgr]; exact b5
    · rw [v8, v9, v10]
      exact ⟨rfl, rfl, fun k k0 k1 => rfl⟩
    · rw [v11]
      rw [hgv] at hx
      refine ⟨?_, Iff.rfl⟩
      rcases l5.1.1 x hx.1 hx.2 with q | q
      · rw [q]; decide
      · exact ⟨by omega, by omega⟩
  · refine ⟨by rw [hgv]; exact b4, by rw [hgr]; exact b6, fun r r0 r1 => ?_, fun x hx => ?_⟩
    · rw [hgr] at r1
      obtain ⟨c1, c2, c3, c4, c5, c6, c7⟩ := b9 r r0 r1
      exact ⟨c1, c2, fun k k0 k1 => (c7 k k0 k1).1⟩
    · rw [hgv] at hx
      obtain ⟨-, -, q1, q2, q3, q4, q5, q6⟩ := l3 x hx
      show _ ∧ (u.1 285 x ≠ 0 ↔ u.1 11 x = 0)
      rw [q4]
      by_cases h : u.1 11 x = 0
      · rw [if_pos h]; exact ⟨Or.inr rfl, fun _ => h, fun _ => by decide⟩
      · rw [if_neg h]; exact ⟨Or.inl rfl, fun q => absurd rfl q, fun q => absurd q h⟩
def invT (u : uS) : Prop := (u.1 36 16 = 0 ∨ u.1 36 16 = 1) ∧ (u.1 36 17 = 0 ∨ u.1 36 17 = 1) ∧ (u.2 36 1 = 46 ∨ u.2 36 1 = 5) ∧ (u.1 36 16 = 1 → ∀ x, iR (gv (gC u)) x → u.1 56 x = cl (tW (gC u) (u.1 5) (u.1 0 2).toNat x)) ∧ (u.1 36 17 = 1 → ∀ n : Nat, n ≤ 40 → u.1 57 n = cl (tL (gC u) n))
def tcP : Nat → Int → Prop := fun b j => (b = 36 ∧ (j = 2 ∨ j = 3 ∨ j = 8 ∨ j = 16 ∨ j = 17)) ∨ (47 ≤ b ∧ b ≤ 57) ∨ (292 ≤ b ∧ b ≤ 300) ∨ (b = 271 ∧ j = 33)
theorem q_103 {d k : Nat} {u : uS} {g : Gm} {x : Int} (hg : gK g) (hA : ∀ v : uS, v.1 6 = u.1 6 → v.1 8 = u.1 8 → v.1 9 = u.1 9 → v.1 10 = u.1 10 → v.1 11 = u.1 11 → v.2 36 0 = 6 → cA v g) (hx : iR (gv g) x) (hk : k ≤ 40) (hw : ∀ q : Int, 0 ≤ q → q < k → rI (u.1 5 q)) (h16 : u.1 36 16 = 0 ∨ u.1 36 16 = 1) (hc : u.1 36 16 = 1 → ∀ x, iR (gv g) x → u.1 56 x = cl (tW g (u.1 5) k x)) : cL (d + 11) 103 [.ref 36, .ref 6, .ref 5, iV (k : Int), iV x] u (fun c u' => c = cl (tW g (u.1 5) k x) ∧ sb1 u u' [36, 47, 48, 49, 50, 51, 52, 53, 54, 55, 56] ∧ (∀ i : Int, i ≠ 2 → i ≠ 3 → i ≠ 8 → i ≠ 16 → u'.1 36 i = u.1 36 i) ∧ u'.1 36 16 = 1 ∧ (∀ y, iR (gv g) y → u'.1 56 y = cl (tW g (u.1 5) k y)) ∧ (∀ b, b ≠ 36 → u'.2 b = u.2 b) ∧ (u'.2 36 1 = 5 ∨ u'.2 36 1 = u.2 36 1)) := by
  have g1 := hg.1
  have x0 := hx.1
  have x1 := hx.2
  generalize hT : tW g (u.1 5) k = TW at *
  generalize hQQ : (fun (c : Int) (u' : uS) => c = cl (TW x) ∧ sb1 u u' [36, 47, 48, 49, 50, 51, 52, 53, 54, 55, 56] ∧ (∀ i : Int, i ≠ 2 → i ≠ 3 → i ≠ 8 → i ≠ 16 → u'.1 36 i = u.1 36 i) ∧ u'.1 36 16 = 1 ∧ (∀ y, iR (gv g) y → u'.1 56 y = cl (TW y)) ∧ (∀ b, b ≠ 36 → u'.2 b = u.2 b) ∧ (u'.2 36 1 = 5 ∨ u'.2 36 1 = u.2 36 1)) = Q
  refine e_103 sx_6 sx_5 ⟨by rcases h16 with q | q <;> rw [q] <;> decide, ?_⟩
  by_cases h0 : u.1 36 16 = 0
  · rw [if_pos h0]
    refine cV.mono (q_104 (d := d + 1) (L := 5) (g := g) (k := (k : Int)) (b := 0) hg sx_5 (Or.inl rfl) (fun v e1 e0 => hA v (by rw [e1, wr_ne (by omega), wr_ne (by omega)]) (by rw [e1, wr_ne (by omega), wr_ne (by omega)]) (by rw [e1, wr_ne (by omega), wr_ne (by omega)]) (by rw [e1, wr_ne (by omega), wr_ne (by omega)]) (by rw [e1, wr_ne (by omega), wr_ne (by omega)]) e0)) (Nat.le_refl _) (fun v ⟨v1, v2, v3, v4, v5, v6, v7⟩ => ?_)
    rw [v4]
    have vr1 : v.2 36 1 = 5 := by rw [v1, wq_2, if_pos ⟨rfl, rfl⟩]
    have v5' : v.1 5 = u.1 5 := v2 _ (by decide)
    generalize hlt : ltW (wfn (u.1 5) k) = lt
    let Fr : uS → Prop := fun w => w.2 = v.2 ∧ sb1 v w [51, 52, 53, 54, 55, 56]
    have frA : ∀ w, Fr w → cA w g := fun w hw => cA_of v6 hw.1 (hw.2 _ (by decide)) (hw.2 _ (by decide)) (hw.2 _ (by decide)) (hw.2 _ (by decide)) (hw.2 _ (by decide))
    have frP : ∀ w, Fr w → cPr w g := fun w hw => cPr_of v7 (hw.2 _ (by decide)) (hw.2 _ (by decide)) (hw.2 _ (by decide)) (hw.2 _ (by decide)) (by rw [hw.2 36 (by decide)])
    have store : ∀ (n y : Nat) (w : uS), y + n = gv g → Fr w → (∀ z, iR (gv g) z → 1 ≤ k → w.1 51 ((z * 41 + 0) * 41 + 0 + k) = cl (tT g lt (fun p => p) k z 0)) → (∀ z : Int, 0 ≤ z → z < y → w.1 56 z = cl (TW z)) → K_103 (d + 10) 43 [.ref 36, .retAddr 0, .retAddr 0, .retAddr 0, iV x, iV (y : Int)] [] w Q := by
      intro n
      induction n with
      | zero =>
        intro y w hy hF h51 h56
        obtain ⟨c0, c1, -⟩ := frA w hF
        refine k_103_43 ?_
        rw [c0, c1]
        refine ⟨sx_6, ⟨by omega, by omega⟩, ⟨by omega, by omega⟩, ?_⟩
        rw [if_neg (by omega)]
        intro z ez
        refine ⟨x0, by omega, ?_⟩
        have z56 : ∀ y', iR (gv g) y' → z.1 56 y' = cl (TW y') := fun y' hy' => by
          rw [ez, wr_ne (by omega)]
          exact h56 y' hy'.1 (by have := hy'.2; omega)
        have z2 : z.2 = v.2 := by rw [ez, wr_2]; exact hF.1
        rw [← hQQ]
        refine ⟨z56 x hx, fun b hb => ?_, fun i i2 i3 i8 i16 => ?_, by rw [ez, wr_uf, uf_eq], z56, fun b hb => ?_, Or.inl (by rw [z2]; exact vr1)⟩
        · simp only [List.mem_cons, List.not_mem_nil, or_false, not_or] at hb
          rw [ez, wr_ne hb.1, hF.2 b (by simp only [List.mem_cons, List.not_mem_nil, or_false]; omega), v2 b (by simp only [List.mem_cons, List.not_mem_nil, or_false]; omega)]
        · rw [ez, wr_uf, uf_ne i16, hF.2 36 (by decide)]
          exact v3 i i2 i3 i8
        · rw [z2, v1, wq_ne hb, wq_ne hb]
      | succ n ih =>
        intro y w hy hF h51 h56
        have hyR : iR (gv g) (y : Int) := ⟨by omega, by omega⟩
        obtain ⟨c0, c1, -⟩ := frA w hF
        have w36 : w.1 36 = v.1 36 := hF.2 _ (by decide)
        refine k_103_43 ?_
        rw [c0, c1, w36, v4, v5]
        refine ⟨sx_6, ⟨by omega, by omega⟩, ⟨by omega, by omega⟩, ?_⟩
        rw [if_pos (by omega)]
        refine ⟨⟨by omega, by omega⟩, ?_⟩
        have put : ∀ c : Int, c = cl (TW y) → ∀ z : uS, z = wr w 56 (y : Int) c → K_103 (d + 10) 43 [.ref 36, .retAddr 0, .retAddr 0, .retAddr 0, iV x, iV ((y : Int) + 1)] [] z Q := by
          intro c hc' z ez
          have := ih (y + 1) z (by omega) ⟨by rw [ez, wr_2]; exact hF.1, by rw [ez]; exact sb1_wr hF.2 (by decide)⟩ (by rw [ez, wr_ne (by omega)]; exact h51) (fun z' q0 q1 => ?_)
          · rw [Int.natCast_succ] at this
            exact this
          · rw [ez, wr_uf]
            by_cases e : z' = y
            · rw [e, uf_eq]; exact hc'
            · rw [uf_ne e]; exact h56 z' q0 (by omega)
        by_cases hk0 : (k : Int) = 0
        · rw [if_pos hk0]
          refine ⟨by omega, by omega, put _ ?_⟩
          rw [(frP w hF).1 y hyR, ← hT]
          unfold tW
          rw [if_pos (by omega)]
        · rw [if_neg hk0]
          refine ⟨by decide, ?_⟩
          rw [if_pos rfl]
          refine ⟨by omega, by omega, by omega, by omega, put _ ?_⟩
          have := h51 y hyR (by omega)
          rw [show ((y : Int) * 41 + 0 - 0) * 41 + (k : Int) - 0 = ((y : Int) * 41 + 0) * 41 + 0 + k by omega, this, ← hT]
          unfold tW
          rw [if_neg (by omega), hlt]
    have firsts : ∀ (f : Nat) (w : uS), f ≤ k → Fr w → (∀ (m : Nat) (y p : Int), 1 ≤ m → iR (gv g) y → f ≤ p → p + m ≤ k → w.1 51 ((y * 41 + p) * 41 + p + m) = cl (tT g lt (fun p => p) m y p)) → K_103 (d + 10) 23 [.ref 36, .retAddr 0, .retAddr 0, .retAddr 0, iV x, iV ((f : Int) - 1)] [] w Q := by
      intro f
      induction f with
      | zero =>
        intro w hf hF hTab
        refine k_103_23 ⟨⟨by omega, by omega⟩, ?_⟩
        rw [if_pos (by omega)]
        exact store (gv g) 0 w (by omega) hF (fun z hz hk1 => hTab k z 0 hk1 hz (Int.le_refl 0) (by omega)) (fun z q0 q1 => by omega)
      | succ f ih =>
        intro w hf hF hTab
        refine k_103_23 ⟨⟨by omega, by omega⟩, ?_⟩
        rw [if_neg (by omega), show ((f + 1 : Nat) : Int) - 1 = f by omega]
        have w36 : w.1 36 = v.1 36 := hF.2 _ (by decide)
        have w5 : w.1 5 = u.1 5 := (hF.2 _ (by decide)).trans v5'
        refine cV.mono (q_114 (d := d + 4) (len := k) (L := 5) (g := g) (lt := lt) (pi := fun p => p) (i := (f : Int)) (b := 0) hg (frA w hF) (frP w hF) (by omega) (by omega) hk (by rw [w36]; exact v4) (Or.inl rfl) (by rw [w36]; exact v5) (fun p => by rw [if_pos rfl]) rfl (by rw [hF.1]; exact vr1) sx_5 (by omega) (fun q s q1 q2 => ?_) (fun _ q q0 q1 => by rw [w5]; exact hw q q0 q1) (fun _ m y p r1 r2 r3 r4 => hTab m y p r1 r2 (by omega) r4)) (Nat.le_refl _) (fun z ⟨z1, z2, z3⟩ => ?_)
        · rw [← hlt, w5]
          unfold ltW
          rw [wfn_in (by omega) (by omega)]
          exact ⟨fun h => Or.inr h, fun h => by rcases h with h | h; exact absurd rfl h; exact h⟩
        · refine ih z (by omega) ⟨z1.trans hF.1, fun b hb => (z2 b (fun hh => hb (by simp only [List.mem_cons, List.not_mem_nil, or_false] at hh ⊢; omega))).trans (hF.2 b hb)⟩ (fun m y p r1 r2 r3 r4 => ?_)
          refine z3 m y p r1 r2 ?_ r4
          by_cases e : p = f
          · exact Or.inr e
          · exact Or.inl ⟨rfl, by omega⟩
    exact firsts k v (Nat.le_refl _) ⟨rfl, sb1_refl _ _⟩ (fun m y p r1 r2 r3 r4 => by omega)
  · rw [if_neg h0]
    have h1 : u.1 36 16 = 1 := by omega
    refine ⟨x0, by omega, ?_⟩
    rw [← hQQ]
    exact ⟨hc h1 x hx, sb1_refl _ _, fun _ _ _ _ _ => rfl, h1, hc h1, fun _ _ => rfl, Or.inr rfl⟩
theorem q_126 {d n L : Nat} {u : uS} {g : Gm} (hg : gK g) (hv : 1 ≤ gv g) (hA : ∀ v : uS, v.1 6 = u.1 6 → v.1 8 = u.1 8 → v.1 9 = u.1 9 → v.1 10 = u.1 10 → v.1 11 = u.1 11 → v.2 36 0 = 6 → cA v g) (hn : n ≤ 40) (hL : u.2 36 1 = L) (hLA : isA L 0 40) (hLn : L < 47) (h17 : u.1 36 17 = 0 ∨ u.1 36 17 = 1) (hc : u.1 36 17 = 1 → ∀ n : Nat, n ≤ 40 → u.1 57 n = cl (tL g n)) : cL (d + 11) 126 [.ref 36, .ref 6, iV (n : Int)] u (fun c u' => c = cl (tL g n) ∧ sb1 u u' [36, 47, 48, 49, 50, 51, 52, 53, 54, 55, 57] ∧ (∀ i : Int, i ≠ 2 → i ≠ 3 → i ≠ 8 → i ≠ 17 → u'.1 36 i = u.1 36 i) ∧ u'.1 36 17 = 1 ∧ (∀ n : Nat, n ≤ 40 → u'.1 57 n = cl (tL g n)) ∧ (∀ b, b ≠ 36 → u'.2 b = u.2 b) ∧ u'.2 36 1 = u.2 36 1) := by
  have g1 := hg.1
  have hz0 : iR (gv g) 0 := ⟨by omega, by omega⟩
  generalize hQQ : (fun (c : Int) (u' : uS) => c = cl (tL g n) ∧ sb1 u u' [36, 47, 48, 49, 50, 51, 52, 53, 54, 55, 57] ∧ (∀ i : Int, i ≠ 2 → i ≠ 3 → i ≠ 8 → i ≠ 17 → u'.1 36 i = u.1 36 i) ∧ u'.1 36 17 = 1 ∧ (∀ n : Nat, n ≤ 40 → u'.1 57 n = cl (tL g n)) ∧ (∀ b, b ≠ 36 → u'.2 b = u.2 b) ∧ u'.2 36 1 = u.2 36 1) = Q
  refine e_126 sx_6 ⟨by rcases h17 with q | q <;> rw [q] <;> decide, ?_⟩
  by_cases h0 : u.1 36 17 = 0
  · rw [if_pos h0, hL]
    refine cV.mono (q_104 (d := d + 1) (L := L) (g := g) (k := 40) (b := 1) hg hLA (Or.inr rfl) (fun v e1 e0 => hA v (by rw [e1, wr_ne (by omega), wr_ne (by omega)]) (by rw [e1, wr_ne (by omega), wr_ne (by omega)]) (by rw [e1, wr_ne (by omega), wr_ne (by omega)]) (by rw [e1, wr_ne (by omega), wr_ne (by omega)]) (by rw [e1, wr_ne (by omega), wr_ne (by omega)]) e0)) (Nat.le_refl _) (fun v ⟨v1, v2, v3, v4, v5, v6, v7⟩ => ?_)
    have vr1 : v.2 36 1 = L := by rw [v1, wq_2, if_pos ⟨rfl, rfl⟩]
    refine cV.mono (q_114 (d := d + 4) (len := 40) (L := L) (g := g) (lt := fun _ _ => True) (pi := fun _ => 0) (i := 0) (b := 1) hg v6 v7 (Int.le_refl 0) (by omega) (Nat.le_refl _) v4 (Or.inr rfl) v5 (fun p => by rw [if_neg (by decide)]) rfl vr1 hLA hLn (fun q s q1 q2 => ⟨fun _ => Or.inl (by decide), fun _ => trivial⟩) (fun h => absurd h (by decide)) (fun h => absurd h (by decide))) (Nat.le_refl _) (fun w ⟨w1, w2, w3⟩ z ez => ?_)
    have w47 : w.1 47 0 = cl (tL g 0) := by
      rw [w2 47 (by decide), v7.1 0 hz0]
      rfl
    have loop : ∀ (m t : Nat) (y : uS), t + m = 41 → 1 ≤ t → y.2 = v.2 → sb1 w y [57] → (∀ t' : Nat, t' < t → y.1 57 t' = cl (tL g t')) → K_126 (d + 10) 38 [.ref 36, .retAddr 0, iV (n : Int), iV (t : Int)] [] y Q := by
      intro m
      induction m with
      | zero =>
        intro t y ht ht1 y2 ys h57
        refine k_126_38 ⟨⟨by omega, by omega⟩, ?_⟩
        rw [if_pos (by omega)]
        intro q eq
        refine ⟨by omega, by omega, ?_⟩
        have q57 : ∀ n : Nat, n ≤ 40 → q.1 57 n = cl (tL g n) := fun n' hn' => by
          rw [eq, wr_ne (by omega)]
          exact h57 n' (by omega)
        have q2 : q.2 = v.2 := by rw [eq, wr_2]; exact y2
        rw [← hQQ]
        refine ⟨q57 n hn, fun b hb => ?_, fun i i2 i3 i8 i17 => ?_, by rw [eq, wr_uf, uf_eq], q57, fun b hb => ?_, by rw [q2, vr1, hL]⟩
        · simp only [List.mem_cons, List.not_mem_nil, or_false, not_or] at hb
          rw [eq, wr_ne hb.1, ys b (by simp only [List.mem_cons, List.not_mem_nil, or_false]; omega), w2 b (by simp only [List.mem_cons, List.not_mem_nil, or_false]; omega), v2 b (by simp only [List.mem_cons, List.not_mem_nil, or_false]; omega)]
        · rw [eq, wr_uf, uf_ne i17, ys 36 (by decide), w2 36 (by decide)]
          exact v3 i i2 i3 i8
        · rw [q2, v1, wq_ne hb, wq_ne hb]
      | succ m ih =>
        intro t y ht ht1 y2 ys h57
        refine k_126_38 ⟨⟨by omega, by omega⟩, ?_⟩
        rw [if_neg (by omega), ys 36 (by decide), w2 36 (by decide), v5]
        refine ⟨by decide, ?_⟩
        rw [if_neg (by decide)]
        refine ⟨by omega, by omega, by omega, by omega, fun q eq => ?_⟩
        have hval : y.1 51 ((0 * 41 + 0 - 0) * 41 + (t : Int) - 0) = cl (tL g t) := by
          have := w3 t 0 0 ht1 hz0 (Or.inr rfl) (by omega)
          rw [ys 51 (by decide), show ((0 : Int) * 41 + 0 - 0) * 41 + (t : Int) - 0 = (0 * 41 + 0) * 41 + 0 + t by omega, this]
          unfold tL
          rw [if_neg (by omega)]
        have := ih (t + 1) q (by omega) (by omega) (by rw [eq, wr_2]; exact y2) (by rw [eq]; exact sb1_wr ys (by decide)) (fun t' ht' => ?_)
        · rw [Int.natCast_succ] at this
          exact this
        · rw [eq, wr_uf]
          by_cases e : t' = t
          · rw [e, uf_eq]; exact hval
          · rw [uf_ne (by omega)]; exact h57 t' (by omega)
    refine loop 40 1 z (by omega) (Nat.le_refl _) (by rw [ez, wr_2]; exact w1) (by rw [ez]; exact sb1_wr (sb1_refl _ _) (by decide)) (fun t' ht' => ?_)
    have : t' = 0 := by omega
    rw [this, ez, wr_uf]
    show uf (w.1 57) 0 (w.1 47 0) 0 = _
    rw [uf_eq]
    exact w47
  · rw [if_neg h0]
    have h1 : u.1 36 17 = 1 := by omega
    refine ⟨by omega, by omega, ?_⟩
    rw [← hQQ]
    exact ⟨hc h1 n hn, sb1_refl _ _, fun _ _ _ _ _ => rfl, h1, hc h1, fun _ _ => rfl, rfl⟩
theorem told_eq {a : Int} (h : cv a) : (if cl a = 9000000000000000000 then -2 else cl a) = tld a := by
  unfold tld
  by_cases e : a = 5000000000000000000
  · rw [if_pos e, if_pos ((cl_9 h).mpr e)]
  · rw [if_neg e, if_neg (fun q => e ((cl_9 h).mp q)), cl_n e]
theorem st_trees {d : Nat} {u : uS} {x : Int} (hx : rI x) (hG : invG u) (hL : invL u) (hW : invW u) (hT : invT u) : cL (d + 12) 102 [.ref 0, iV x] u (fun r u1 => cL (d + 12) 223 [.ref 271, iV x] u1 (fun r' u2 => r' = r ∧ invT u2 ∧ fr1 tcP u u2 ∧ (∀ b, b ≠ 36 → u2.2 b = u.2 b))) := by
  obtain ⟨k1, k2, k3⟩ := gC_all hG hL
  obtain ⟨wk, w1, w2, w3, w4⟩ := id hW
  obtain ⟨t1, t2, t3, t4, t5⟩ := id hT
  obtain ⟨nv, nr, b1, b2', b3, b4, b5, b6, b7, b8, b9⟩ := id hG
  have en : gv (gC u) = nv := by show (u.1 6 0).toNat = nv; omega
  have ek : (u.1 0 2).toNat = wk := by omega
  rw [ek] at t4
  have bad : (x < 0 ∨ nv ≤ x) → cL (d + 12) 223 [.ref 271, iV x] u (fun r' u2 => r' = -1 ∧ invT u2 ∧ fr1 tcP u u2 ∧ (∀ b, b ≠ 36 → u2.2 b = u.2 b)) := by
    intro hb
    refine e_223 ⟨hx, ?_⟩
    rw [b4]
    refine ⟨⟨by omega, by omega⟩, ?_⟩
    split
    · exact ⟨rfl, hT, fun _ _ _ => rfl, fun _ _ => rfl⟩
    · rw [if_pos (by omega)]
      exact ⟨rfl, hT, fun _ _ _ => rfl, fun _ _ => rfl⟩
  refine e_102 ⟨hx, ?_⟩
  by_cases hx0 : x < 0
  · rw [if_pos hx0]; exact bad (Or.inl hx0)
  · rw [if_neg hx0, b3]
    refine ⟨⟨by omega, by omega⟩, ?_⟩
    by_cases hx1 : x < nv
    · rw [if_pos hx1, w2]
      have hxR : iR (gv (gC u)) x := ⟨by omega, by rw [en]; exact hx1⟩
      refine cL.mono (q_103 (d := d) (k := wk) (x := x) k1 k2 hxR w1 (fun q q0 q1 => by
        obtain ⟨-, q2, q3⟩ := w4 q.toNat (by omega)
        rw [show ((q.toNat : Nat) : Int) = q by omega] at q2 q3
        exact ⟨by omega, by omega⟩) t1 t4) (Nat.le_refl _) (fun c v ⟨c1, c2, c3, c4, c5, c6, c7⟩ => ?_)
      have vf : ∀ b, b ≠ 36 → (b < 47 ∨ 56 < b) → v.1 b = u.1 b := fun b hb hb' => c2 b (by simp only [List.mem_cons, List.not_mem_nil, or_false]; omega)
      have hrA : rA v (gC u) := rA_of k3 (by rw [vf 271 (by omega) (by omega)]) (by rw [vf 271 (by omega) (by omega)]) (vf _ (by omega) (by omega)) (vf _ (by omega) (by omega)) (vf _ (by omega) (by omega)) (vf _ (by omega) (by omega))
      have hwf : ∀ q s : Int, 1 ≤ q → q ≤ wk → (ltW (wfn (u.1 5) wk) q s ↔ v.1 273 (q - 1) = s) := fun q s q1 q2 => by
        unfold ltW
        rw [wfn_in (by omega) (by omega), vf 273 (by omega) (by omega)]
        obtain ⟨z1, -, -⟩ := w4 (q - 1).toNat (by omega)
        rw [show (((q - 1).toNat : Nat) : Int) = q - 1 by omega] at z1
        rw [z1]
      have h23 := q_223 (d := d + 5) (k := wk) (u := v) (g := gC u) (x := x) (lt := ltW (wfn (u.1 5) wk)) k1 hrA hwf hxR w1 (by rw [vf 271 (by omega) (by omega)]; exact w3) (fun q q0 q1 => by
        obtain ⟨z1, q2, q3⟩ := w4 q.toNat (by omega)
        rw [show ((q.toNat : Nat) : Int) = q by omega] at z1 q2 q3
        rw [vf 273 (by omega) (by omega), z1]
        exact ⟨by omega, by omega⟩)
      have fin : ∀ r : Int, r = tld (tW (gC u) (u.1 5) wk x) → cL (d + 12) 223 [.ref 271, iV x] v (fun r' u2 => r' = r ∧ invT u2 ∧ fr1 tcP u u2 ∧ (∀ b, b ≠ 36 → u2.2 b = u.2 b)) := by
        intro r hr
        refine cL.mono h23 (Nat.le_refl _) (fun c' z ⟨z1, z2, z3, z4⟩ => ?_)
        have zf : ∀ b, b ≠ 36 → b ≠ 271 → (b < 47 ∨ 57 < b) → (b < 292 ∨ 300 < b) → z.1 b = u.1 b := fun b h1 h2 h3 h4 => (z2 b (by simp only [fQ, List.mem_cons, List.not_mem_nil, or_false]; omega)).trans (vf b h1 (by omega))
        have zlo : ∀ b, b < 271 → z.1 b = v.1 b := fun b hb => z2 b (by simp only [fQ, List.mem_cons, List.not_mem_nil, or_false]; omega)
        have egC : gC z = gC u := gC_of (by rw [zf 6 (by omega) (by omega) (by omega) (by omega)]) (by rw [zf 6 (by omega) (by omega) (by omega) (by omega)]) (zf _ (by omega) (by omega) (by omega) (by omega)) (zf _ (by omega) (by omega) (by omega) (by omega)) (zf _ (by omega) (by omega) (by omega) (by omega)) (zf _ (by omega) (by omega) (by omega) (by omega))
        refine ⟨by rw [z4, hr]; rfl, ⟨?_, ?_, ?_, fun _ y hy => ?_, fun h n hn => ?_⟩, fun b j hb => ?_, fun b hb => by rw [z1]; exact c6 b hb⟩
        · rw [zlo 36 (by omega), c4]; exact Or.inr rfl
        · rw [zlo 36 (by omega), c3 17 (by decide) (by decide) (by decide) (by decide)]; exact t2
        · rw [z1]
          rcases c7 with q | q
          · exact Or.inr q
          · rw [q]; exact t3
        · rw [egC] at hy ⊢
          rw [zlo 56 (by omega), c5 y hy, zf 5 (by omega) (by omega) (by omega) (by omega), zf 0 (by omega) (by omega) (by omega) (by omega), ek]
        · rw [egC]
          rw [zlo 36 (by omega), c3 17 (by decide) (by decide) (by decide) (by decide)] at h
          rw [zlo 57 (by omega), vf 57 (by omega) (by omega)]
          exact t5 h n hn
        · simp only [tcP, not_or, not_and] at hb
          by_cases e36 : b = 36
          · have hj := hb.1 e36
            rw [e36, zlo 36 (by omega)]
            exact c3 j (by omega) (by omega) (by omega) (by omega)
          · by_cases e271 : b = 271
            · rw [e271, z3 j (hb.2.2.2 e271), vf 271 (by omega) (by omega)]
            · rw [zf b e36 e271 (by omega) (by omega)]
      refine ⟨by rw [c1]; exact rLc (tW_cv _ _ _ _), ?_⟩
      have ht := told_eq (tW_cv (gC u) (u.1 5) wk x)
      rw [← c1] at ht
      by_cases e9 : c = 9000000000000000000
      · rw [if_pos e9]
        rw [if_pos e9] at ht
        exact fin _ ht
      · rw [if_neg e9]
        rw [if_neg e9] at ht
        exact fin _ ht
    · rw [if_neg hx1]; exact bad (Or.inr (by omega))
theorem st_treesOf {d : Nat} {u : uS} {x : Int} (hx : rI x) (hG : invG u) (hL : invL u) (hT : invT u) : cL (d + 12) 124 [.ref 0, iV x] u (fun r u1 => cL (d + 12) 234 [.ref 271, iV x] u1 (fun r' u2 => r' = r ∧ invT u2 ∧ fr1 tcP u u2 ∧ (∀ b, b ≠ 36 → u2.2 b = u.2 b))) := by
  obtain ⟨k1, k2, k3⟩ := gC_all hG hL
  obtain ⟨t1, t2, t3, t4, t5⟩ := id hT
  obtain ⟨nv, nr, b1, b2', b3, b4, b5, b6, b7, b8, b9⟩ := id hG
  have en : gv (gC u) = nv := by show (u.1 6 0).toNat = nv; omega
  have bad : (nr = 0 ∨ x < 0 ∨ 40 < x) → cL (d + 12) 234 [.ref 271, iV x] u (fun r' u2 => r' = -1 ∧ invT u2 ∧ fr1 tcP u u2 ∧ (∀ b, b ≠ 36 → u2.2 b = u.2 b)) := by
    intro hb
    refine e_234 ?_
    rw [b7]
    refine ⟨by split <;> decide, ?_⟩
    by_cases h0 : nr = 0
    · rw [if_pos h0, if_pos rfl]
      exact ⟨rfl, hT, fun _ _ _ => rfl, fun _ _ => rfl⟩
    · rw [if_neg h0, if_neg (by decide)]
      refine ⟨hx, ?_⟩
      split
      · exact ⟨rfl, hT, fun _ _ _ => rfl, fun _ _ => rfl⟩
      · rw [if_pos (by omega)]
        exact ⟨rfl, hT, fun _ _ _ => rfl, fun _ _ => rfl⟩
  refine e_124 ?_
  rw [b5]
  refine ⟨⟨by omega, by omega⟩, ?_⟩
  by_cases h0 : nr = 0
  · rw [if_neg (by omega)]; exact bad (Or.inl h0)
  · rw [if_pos (by omega)]
    refine ⟨hx, ?_⟩
    by_cases hx0 : x < 0
    · rw [if_pos hx0]; exact bad (by omega)
    · rw [if_neg hx0]
      by_cases hx1 : 40 < x
      · rw [if_pos hx1]; exact bad (by omega)
      · rw [if_neg hx1]
        obtain ⟨n, hn⟩ : ∃ n : Nat, x = n := ⟨x.toNat, by omega⟩
        rw [hn]
        have hn40 : n ≤ 40 := by omega
        have hv1 : 1 ≤ gv (gC u) := by
          obtain ⟨-, -, c3, c4, -⟩ := b9 0 (Int.le_refl 0) (by omega)
          rw [en]
          omega
        refine cL.mono (q_126 (d := d) (n := n) (L := u.2 36 1) k1 hv1 k2 hn40 rfl (by rcases t3 with q | q <;> rw [q] <;> first | exact sx_46 | exact sx_5) (by rcases t3 with q | q <;> omega) t2 t5) (Nat.le_refl _) (fun c v ⟨c1, c2, c3, c4, c5, c6, c7⟩ => ?_)
        have vf : ∀ b, b ≠ 36 → (b < 47 ∨ 57 < b ∨ b = 56) → v.1 b = u.1 b := fun b hb hb' => c2 b (by simp only [List.mem_cons, List.not_mem_nil, or_false]; omega)
        have hrA : rA v (gC u) := rA_of k3 (by rw [vf 271 (by omega) (by omega)]) (by rw [vf 271 (by omega) (by omega)]) (vf _ (by omega) (by omega)) (vf _ (by omega) (by omega)) (vf _ (by omega) (by omega)) (vf _ (by omega) (by omega))
        have h34 := q_234 (d := d + 5) (k := n) (u := v) (g := gC u) k1 hrA hv1 (by rw [vf 271 (by omega) (by omega), b7, if_neg h0]) hn40
        have fin : ∀ r : Int, r = tld (tL (gC u) n) → cL (d + 12) 234 [.ref 271, iV (n : Int)] v (fun r' u2 => r' = r ∧ invT u2 ∧ fr1 tcP u u2 ∧ (∀ b, b ≠ 36 → u2.2 b = u.2 b)) := by
          intro r hr
          refine cL.mono h34 (Nat.le_refl _) (fun c' z ⟨z1, z2, z3, z4⟩ => ?_)
          have zf : ∀ b, b ≠ 36 → b ≠ 271 → (b < 47 ∨ 57 < b) → (b < 292 ∨ 300 < b) → z.1 b = u.1 b := fun b h1 h2 h3 h4 => (z2 b (by simp only [fQ, List.mem_cons, List.not_mem_nil, or_false]; omega)).trans (vf b h1 (by omega))
          have zlo : ∀ b, b < 271 → z.1 b = v.1 b := fun b hb => z2 b (by simp only [fQ, List.mem_cons, List.not_mem_nil, or_false]; omega)
          have egC : gC z = gC u := gC_of (by rw [zf 6 (by omega) (by omega) (by omega) (by omega)]) (by rw [zf 6 (by omega) (by omega) (by omega) (by omega)]) (zf _ (by omega) (by omega) (by omega) (by omega)) (zf _ (by omega) (by omega) (by omega) (by omega)) (zf _ (by omega) (by omega) (by omega) (by omega)) (zf _ (by omega) (by omega) (by omega) (by omega))
          refine ⟨by rw [z4, hr]; rfl, ⟨?_, ?_, ?_, fun h y hy => ?_, fun _ n hn => ?_⟩, fun b j hb => ?_, fun b hb => by rw [z1]; exact c6 b hb⟩
          · rw [zlo 36 (by omega), c3 16 (by decide) (by decide) (by decide) (by decide)]; exact t1
          · rw [zlo 36 (by omega), c4]; exact Or.inr rfl
          · rw [z1, c7]; exact t3
          · rw [egC] at hy ⊢
            rw [zlo 36 (by omega), c3 16 (by decide) (by decide) (by decide) (by decide)] at h
            rw [zlo 56 (by omega), vf 56 (by omega) (by omega), zf 5 (by omega) (by omega) (by omega) (by omega), zf 0 (by omega) (by omega) (by omega) (by omega)]
            exact t4 h y hy
          · rw [egC, zlo 57 (by omega)]
            exact c5 n hn
          · simp only [tcP, not_or, not_and] at hb
            by_cases e36 : b = 36
            · have hj := hb.1 e36
              rw [e36, zlo 36 (by omega)]
              exact c3 j (by omega) (by omega) (by omega) (by omega)
            · by_cases e271 : b = 271
              · rw [e271, z3 j (hb.2.2.2 e271), vf 271 (by omega) (by omega)]
              · rw [zf b e36 e271 (by omega) (by omega)]
        refine ⟨by rw [c1]; exact rLc (tL_cv _ _), ?_⟩
        have ht := told_eq (tL_cv (gC u) n)
        rw [← c1] at ht
        by_cases e9 : c = 9000000000000000000
        · rw [if_pos e9]
          rw [if_pos e9] at ht
          exact fin _ ht
        · rw [if_neg e9]
          rw [if_neg e9] at ht
          exact fin _ ht
