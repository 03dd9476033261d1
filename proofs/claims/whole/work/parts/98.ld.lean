/-! apart, once more: where nothing is apart the word stays -/
set_option maxRecDepth 4000 in
theorem st_apartx {d : Nat} {u : uS} {w : Int} (hw : rI w) (hM : invM u) (hW : invW u) : cI (d + 4) 131 [.ref 0, iV w] u (fun r u1 => cI (d + 4) 265 [.ref 271, iV w] u1 (fun r' u2 => r' = r ∧ invW u2 ∧ fr1 apP u u2 ∧ (∀ b, b ≠ 185 → u2.2 b = u.2 b) ∧ ((u2.1 36 = u.1 36 ∧ u2.1 0 = u.1 0 ∧ u2.1 5 = u.1 5) ∨ u2.1 36 16 = 0))) := by
  refine e_131 (d := d + 1) ⟨hw, ?_⟩
  by_cases hw0 : w < 0
  · rw [if_pos hw0]
    refine e_265 (d := d + 2) ⟨hw, ?_⟩
    rw [if_pos hw0]
    exact ⟨rfl, hW, fun _ _ _ => rfl, fun _ _ => rfl, Or.inl ⟨rfl, rfl, rfl⟩⟩
  rw [if_neg hw0]
  by_cases hw3 : 3 < w
  · rw [if_pos hw3]
    refine e_265 (d := d + 2) ⟨hw, ?_⟩
    rw [if_neg hw0, if_pos hw3]
    exact ⟨rfl, hW, fun _ _ _ => rfl, fun _ _ => rfl, Or.inl ⟨rfl, rfl, rfl⟩⟩
  rw [if_neg hw3]
  obtain ⟨⟨n0, a1, a2, a3, a4, a5, a6⟩, ⟨n1, b1, b2', b3, b4, b5, b6⟩⟩ := id hM
  have hT : okT n0 n1 (fM u 60) (fM u 62) := by
    intro p c hp h0 h1
    obtain ⟨g1, g2, g3, g4, g5, g6⟩ := hp
    have x1 := a5 (p.tdiv 40) c g3 g4 h0 h1
    have x2 := b5 (p.tmod 40) c g5 g6 h0 h1
    exact inP_mk a2 b2' x1.2.1 x1.2.2 x2.2.1 x2.2.2
  refine cI.mono (q_132 (d := d) ⟨a2, b2'⟩ ⟨a1, b1⟩ hT (by omega) (by omega)) (Nat.le_refl _) (fun r u4 hr => ?_)
  obtain ⟨i, hE, R, hr⟩ := hr
  have hJ := jA_S a1 b1 hT i
  have hrest : ∀ {v : uS}, sb1 u v [0, 5, 36, 185, 186, 187, 188, 189] → ∀ {Q : Int → uS → Prop}, (∀ u', (aS (fM u 60) (fM u 62) i).1[i]? = none → Rr v u' (aS (fM u 60) (fM u 62) i) → Q (-2) u') → (∀ p u', (aS (fM u 60) (fM u 62) i).1[i]? = some p → Rr v u' (aS (fM u 60) (fM u 62) i) → cI (d + 3) 267 [.ref 271, iV p] u' Q) → cI (d + 4) 265 [.ref 271, iV w] v Q := by
    intro v hs Q k1 k2
    have c2 := hs 302 (by decide)
    have c3 := hs 303 (by decide)
    refine l_265 (d := d + 2) (f := fM u 60) (g := fM u 62) (wn := wnC u w) ⟨a2, b2'⟩ ⟨a1, b1⟩ hT (fun p c hp h0 h1 => ?_) (fun p hp => ?_) (fun p hp => ?_) hw (by omega) (by omega) (fun j u' hj hn R' => ?_) (fun j p u' hj hn R' => ?_)
    · obtain ⟨g1, g2, g3, g4, g5, g6⟩ := hp
      have x1 := (a5 (p.tdiv 40) c g3 g4 h0 h1).1
      have x2 := (b5 (p.tmod 40) c g5 g6 h0 h1).1
      rw [c2]
      show _ = u.1 60 (p.tdiv 40 * 10 + c) * 40 + u.1 62 (p.tmod 40 * 10 + c)
      have x1 : u.1 302 (10 * p.tdiv 40 + c) = u.1 60 (p.tdiv 40 * 10 + c) := by
        rw [show 400 * ((0 : Nat) : Int) + 10 * p.tdiv 40 + c = 10 * p.tdiv 40 + c by omega] at x1
        exact x1
      have x2 : u.1 302 (400 + 10 * p.tmod 40 + c) = u.1 62 (p.tmod 40 * 10 + c) := by
        rw [← x2]
        congr 1
      rw [x1, x2]
      omega
    · obtain ⟨g1, g2, g3, g4, g5, g6⟩ := hp
      have x1 := a6 (p.tdiv 40) g3 g4
      have x2 := b6 (p.tmod 40) g5 g6
      have x1 : u.1 303 (p.tdiv 40) = b2 (bt (u.1 59 1) (p.tdiv 40).toNat) := by
        rw [show 40 * ((0 : Nat) : Int) + p.tdiv 40 = p.tdiv 40 by omega] at x1
        exact x1
      have x2 : u.1 303 (40 + p.tmod 40) = b2 (bt (u.1 61 1) (p.tmod 40).toNat) := by
        rw [← x2]
        congr 1
      unfold wnR wnC
      rw [c3, x1, x2, bit_l g3 (by omega), bit_l g5 (by omega)]
      rfl
    · obtain ⟨g1, g2, g3, g4, g5, g6⟩ := hp
      have x1 := a6 (p.tdiv 40) g3 g4
      have x2 := b6 (p.tmod 40) g5 g6
      have x1 : u.1 303 (p.tdiv 40) = b2 (bt (u.1 59 1) (p.tdiv 40).toNat) := by
        rw [show 40 * ((0 : Nat) : Int) + p.tdiv 40 = p.tdiv 40 by omega] at x1
        exact x1
      have x2 : u.1 303 (40 + p.tmod 40) = b2 (bt (u.1 61 1) (p.tmod 40).toNat) := by
        rw [← x2]
        congr 1
      rw [c3, x1, x2]
      exact ⟨ri_b2 _, ri_b2 _⟩
    · rw [aE_eq hE hj] at hn R'
      exact k1 u' hn R'
    · rw [aE_eq hE hj] at hn R'
      exact k2 p u' hn R'
  obtain ⟨hsb, r4, r5, r5', r6, rq, rt⟩ := id R
  have hsb4 : sb1 u u4 [0, 5, 36, 185, 186, 187, 188, 189] := fun b hb => hsb b (fun q => hb (by
    simp only [List.mem_cons, List.not_mem_nil, or_false] at q ⊢
    omega))
  have frm : ∀ {v v' : uS} {l1 l2 : List Nat} (b : Nat), sb1 u v l1 → sb1 v v' l2 → b ∉ l1 → b ∉ l2 → v'.1 b = u.1 b := fun b h1 h2 g1 g2 => (h2 b g2).trans (h1 b g1)
  rcases hr with ⟨p, hp, e1, e7⟩ | ⟨hn, e1⟩
  · rw [e1]
    refine ⟨⟨by omega, by omega⟩, ?_⟩
    rw [if_neg (by decide)]
    refine cI.mono (q_135 (d := d + 2) hJ R hp e7) (Nat.le_refl _) (fun r9 u8 hr9 => ?_)
    obtain ⟨g1, g2⟩ := hr9
    obtain ⟨hP, hp9, hpd⟩ := hJ.1 i p hp
    have hi := (List.getElem?_eq_some_iff.mp hp).1
    have hl := jA_len hJ
    generalize hD : (aS (fM u 60) (fM u 62) i).2.2.2 p = n at g1 hpd
    rw [g2, g1]
    refine ⟨⟨by omega, by omega⟩, ?_⟩
    by_cases h40 : (40 : Int) < n
    · rw [if_pos h40]
      refine hrest hsb4 (fun u' hn => by rw [hp] at hn; cases hn) (fun p' u' hp' R' => ?_)
      rw [hp] at hp'
      have e : p = p' := Option.some.inj hp'
      rw [← e]
      refine l_267 (d := d + 2) hJ R' hp (fun _ => ?_) (fun q => ?_)
      · refine ⟨rfl, ?_, fun b j hb => ?_, fun b hb => ?_, Or.inl ⟨?_, ?_, ?_⟩⟩
        · obtain ⟨k, k1, k2, k3, k4⟩ := hW
          refine ⟨k, k1, ?_, ?_, fun i hi => ?_⟩
          · rw [frm 0 hsb R'.1 (by decide) (by decide)]
            exact k2
          · rw [frm 271 hsb R'.1 (by decide) (by decide)]
            exact k3
          · rw [frm 273 hsb R'.1 (by decide) (by decide), frm 5 hsb R'.1 (by decide) (by decide)]
            exact k4 i hi
        · rw [frm b hsb R'.1 (fun q => hb (Or.inl (by
            simp only [List.mem_cons, List.not_mem_nil, or_false] at q ⊢
            omega))) (fun q => hb (Or.inl (by
            simp only [List.mem_cons, List.not_mem_nil, or_false] at q ⊢
            omega)))]
        · rw [R'.2.1]
          exact r5' b hb
        · exact frm 36 hsb R'.1 (by decide) (by decide)
        · exact frm 0 hsb R'.1 (by decide) (by decide)
        · exact frm 5 hsb R'.1 (by decide) (by decide)
      · omega
    · rw [if_neg h40]
      refine cV.mono (q_136 (d := d + 2) hJ R hp e7 hD (by omega)) (Nat.le_refl _) (fun u12 hu => ?_)
      obtain ⟨s1, s2, s3⟩ := hu
      intro u13 e13 u15 e15
      have t15 : sb1 u4 u15 [0, 5, 36] := by
        rw [e15, e13]
        exact sb1_wr (sb1_wr (fun b hb => s1 b (fun q => hb (by
          simp only [List.mem_cons, List.not_mem_nil, or_false] at q ⊢
          omega))) (by decide)) (by decide)
      have hs15 : sb1 u u15 [0, 5, 36, 185, 186, 187, 188, 189] := fun b hb => (t15 b (fun q => hb (by
        simp only [List.mem_cons, List.not_mem_nil, or_false] at q ⊢
        omega))).trans (hsb4 b hb)
      have f5 : u15.1 5 = wlF (aS (fM u 60) (fM u 62) i).2.1 (aS (fM u 60) (fM u 62) i).2.2.1 n p (u4.1 5) := by
        rw [e15, e13, wr_ne (by decide), wr_ne (by decide)]
        exact s3
      have f0 : u15.1 0 2 = n := by
        rw [e15, e13, wr_ne (by decide), wr_self]
      have f0' : ∀ j, j ≠ 2 → u15.1 0 j = u.1 0 j := by
        intro j hj
        rw [e15, e13, wr_ne (by decide), wr_1, if_neg (fun q => hj q.2), s1 0 (by decide), hsb 0 (by decide)]
      have f36 : u15.1 36 16 = 0 := by
        rw [e15, wr_self]
      have f36' : ∀ j, j ≠ 16 → u15.1 36 j = u.1 36 j := by
        intro j hj
        rw [e15, e13, wr_1, if_neg (fun q => hj q.2), wr_ne (by decide), s1 36 (by decide), hsb 36 (by decide)]
      have f2 : u15.2 = u4.2 := by
        rw [e15, e13, wr_2, wr_2, s2]
      refine hrest hs15 (fun u' hn => by rw [hp] at hn; cases hn) (fun p' u' hp' R' => ?_)
      rw [hp] at hp'
      have e : p = p' := Option.some.inj hp'
      rw [← e]
      refine l_267 (d := d + 2) hJ R' hp (fun q => ?_) (fun q u2 z1 z2 z3 z4 => ?_)
      · omega
      · rw [hD] at z3 z4 ⊢
        have w5 : u2.1 5 = u15.1 5 := by rw [z1 5 (by decide), R'.1 5 (by decide)]
        refine ⟨rfl, ⟨n, by omega, ?_, ?_, fun k hk => ?_⟩, fun b j hb => ?_, fun b hb => ?_, Or.inr ?_⟩
        · rw [z1 0 (by decide), R'.1 0 (by decide)]
          exact f0
        · rw [z3]
          exact wr_self
        · rw [w5, f5, z4, wlF_lt n p _ (u4.1 5) k (by omega) (by omega)]
          have := wlF_r hJ n p (u4.1 5) k hP.1 hP.2.1 hp9 hD (by omega) (by omega)
          exact ⟨rfl, this.1, this.2⟩
        · by_cases hb0 : b = 0
          · rw [hb0] at hb ⊢
            rw [z1 0 (by decide), R'.1 0 (by decide)]
            exact f0' j (fun q => hb (Or.inr (Or.inl ⟨rfl, q⟩)))
          · by_cases hb36 : b = 36
            · rw [hb36] at hb ⊢
              rw [z1 36 (by decide), R'.1 36 (by decide)]
              exact f36' j (fun q => hb (Or.inr (Or.inr (Or.inl ⟨rfl, q⟩))))
            · have hR : b ∉ [321, 322, 323] := fun q => hb (Or.inl (by
                simp only [List.mem_cons, List.not_mem_nil, or_false] at q ⊢
                omega))
              have h15 : b ∉ [0, 5, 36, 185, 186, 187, 188, 189] := fun q => by
                simp only [List.mem_cons, List.not_mem_nil, or_false] at q
                refine hb (Or.inl ?_)
                simp only [List.mem_cons, List.not_mem_nil, or_false]
                omega
              by_cases hb271 : b = 271
              · rw [hb271] at hb ⊢
                rw [z3, wr_1, if_neg (fun q => hb (Or.inr (Or.inr (Or.inr ⟨rfl, q.2⟩)))), R'.1 271 (by decide), hs15 271 (by decide)]
              · have h2 : b ∉ [271, 273] := fun q => by
                  simp only [List.mem_cons, List.not_mem_nil, or_false] at q
                  refine hb (Or.inl ?_)
                  simp only [List.mem_cons, List.not_mem_nil, or_false]
                  omega
                rw [z1 b h2, R'.1 b hR, hs15 b h15]
        · rw [z2, R'.2.1, f2]
          exact r5' b hb
        · rw [z1 36 (by decide), R'.1 36 (by decide)]
          exact f36
  · rw [e1]
    refine ⟨⟨by omega, by omega⟩, ?_⟩
    rw [if_pos rfl]
    refine hrest hsb4 (fun u' hn' R' => ?_) (fun p' u' hp' R' => by rw [hn] at hp'; cases hp')
    refine ⟨rfl, ?_, fun b j hb => ?_, fun b hb => ?_, Or.inl ?_⟩
    · obtain ⟨k, k1, k2, k3, k4⟩ := hW
      refine ⟨k, k1, ?_, ?_, fun i hi => ?_⟩
      · rw [frm 0 hsb R'.1 (by decide) (by decide)]
        exact k2
      · rw [frm 271 hsb R'.1 (by decide) (by decide)]
        exact k3
      · rw [frm 273 hsb R'.1 (by decide) (by decide), frm 5 hsb R'.1 (by decide) (by decide)]
        exact k4 i hi
    · rw [frm b hsb R'.1 (fun q => hb (Or.inl (by
        simp only [List.mem_cons, List.not_mem_nil, or_false] at q ⊢
        omega))) (fun q => hb (Or.inl (by
        simp only [List.mem_cons, List.not_mem_nil, or_false] at q ⊢
        omega)))]
    · rw [R'.2.1]
      exact r5' b hb
    · exact ⟨frm 36 hsb R'.1 (by decide) (by decide), frm 0 hsb R'.1 (by decide) (by decide), frm 5 hsb R'.1 (by decide) (by decide)⟩
