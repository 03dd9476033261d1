/-! One side's gathering, whole -/
def MF (u u' : uS) : Prop := u'.2 = u.2 ∧ ∀ (b : Nat) (j : Int), b ∉ [67, 68, 69, 70, 71] → (b = 64 → j ≠ 3 ∧ j ≠ 4) → u'.1 b j = u.1 b j
theorem cMa_of {u u' : uS} {p : Nat} {m : Ma} (h : cMa u p m) (h0 : u'.1 p 0 = u.1 p 0) (h1 : u'.1 p 1 = u.1 p 1) (h2 : u'.1 (p + 1) = u.1 (p + 1)) : cMa u' p m := by
  unfold cMa at *
  rw [h0, h1, h2]
  exact h
theorem mkH_of {u u' : uS} {k : Int} {A B : Ma} (h : mkH u k A B) (h2 : u'.2 64 = u.2 64) (h0 : u'.1 64 0 = u.1 64 0) (h77 : ∀ b : Nat, 77 < b → u'.1 b = u.1 b) : mkH u' k A B := by
  obtain ⟨lp, rp, ol, or, l77, r77, k0, k1, k2, e1, e2, mA, mB, hA, hB⟩ := h
  exact ⟨lp, rp, ol, or, l77, r77, by rw [h0]; exact k0, k1, k2, by rw [h2]; exact e1, by rw [h2]; exact e2, cMa_of mA (by rw [h77 lp l77]) (by rw [h77 lp l77]) (h77 _ (by omega)), cMa_of mB (by rw [h77 rp r77]) (by rw [h77 rp r77]) (h77 _ (by omega)), hA, hB⟩
theorem MF_77 {u u' : uS} (h : MF u u') : ∀ b : Nat, 77 < b → u'.1 b = u.1 b := fun b hb => funext (fun j => h.2 b j (by simp only [List.mem_cons, List.not_mem_nil, or_false, not_or]; omega) (fun e => by omega))
theorem MF_mkH {u u' : uS} {k : Int} {A B : Ma} (h : MF u u') (hH : mkH u k A B) : mkH u' k A B := mkH_of hH (by rw [h.1]) (h.2 64 0 (by decide) (fun _ => ⟨by decide, by decide⟩)) (MF_77 h)
theorem CPf_MF {u u' : uS} (h : CPf u u') : MF u u' := ⟨h.1, fun b j hb hj => by
  simp only [List.mem_cons, List.not_mem_nil, or_false, not_or] at hb
  exact h.2 b j (by simp only [List.mem_cons, List.not_mem_nil, or_false, not_or]; omega) (fun e => (hj e).1)⟩
theorem MF_refl (u : uS) : MF u u := ⟨rfl, fun _ _ _ _ => rfl⟩
theorem MF_trans {u v w : uS} (h : MF u v) (h' : MF v w) : MF u w := ⟨h'.1.trans h.1, fun b j hb hj => (h'.2 b j hb hj).trans (h.2 b j hb hj)⟩
theorem MF_69 {u v : uS} {i x : Int} (h : MF u v) : MF u (wr v 69 i x) := ⟨h.1, fun b j hb hj => by
  rw [wr_ne (fun e => hb (by rw [e]; decide))]
  exact h.2 b j hb hj⟩
theorem MF_64 {u v : uS} {i x : Int} (hi : i = 3 ∨ i = 4) (h : MF u v) : MF u (wr v 64 i x) := ⟨h.1, fun b j hb hj => by
  rw [wr_1, if_neg (fun e => by have := hj e.1; omega)]
  exact h.2 b j hb hj⟩
theorem CP_of {u u' : uS} {n : Nat} {f g : Int → Int} (h : CP u n f g) (h3 : u'.1 64 3 = u.1 64 3) (h67 : u'.1 67 = u.1 67) (h68 : u'.1 68 = u.1 68) (h70 : u'.1 70 = u.1 70) (h71 : u'.1 71 = u.1 71) : CP u' n f g := by
  unfold CP at *
  rw [h3, h67, h68, h70, h71]
  exact h
theorem CP_69 {u : uS} {n : Nat} {f g : Int → Int} {i x : Int} (h : CP u n f g) : CP (wr u 69 i x) n f g := CP_of h (by rw [wr_ne (by decide)]) (wr_ne (by decide)) (wr_ne (by decide)) (wr_ne (by decide)) (wr_ne (by decide))
theorem CP_644 {u : uS} {n : Nat} {f g : Int → Int} {x : Int} (h : CP u n f g) : CP (wr u 64 4 x) n f g := CP_of h (by rw [wr_1, if_neg (by decide)]) (wr_ne (by decide)) (wr_ne (by decide)) (wr_ne (by decide)) (wr_ne (by decide))
def GAT (go : Int → Int → Int → Int × Int) (a b : Int) (u u' : uS) : Prop := MF u u' ∧ ((u'.1 64 4 = 0 ∧ ∃ i : Nat, plE go a b i ∧ CP u' (plG go a b i).1 (plG go a b i).2.1 (plG go a b i).2.2.1 ∧ ∀ j : Nat, j < i → u'.1 69 j = (plG go a b i).2.2.2 j) ∨ (u'.1 64 4 = 1 ∧ ∃ (i n : Nat) (f g : Int → Int), plB go a b i ∧ CP u' n f g))
set_option maxRecDepth 4000 in
theorem l_70 {d : Nat} {u : uS} {k : Int} {A B : Ma} (hH : mkH u k A B) : ∀ (m i : Nat) (v : uS), i + m = 20000 → i / 10 < (plG (goK 0 k A B) (st1 k) (st2 0 k A) i).1 → plL (goK 0 k A B) (st1 k) (st2 0 k A) i → MF u v → v.1 64 4 = 0 → CP v (plG (goK 0 k A B) (st1 k) (st2 0 k A) i).1 (plG (goK 0 k A B) (st1 k) (st2 0 k A) i).2.1 (plG (goK 0 k A B) (st1 k) (st2 0 k A) i).2.2.1 → (∀ j : Nat, j < i → v.1 69 j = (plG (goK 0 k A B) (st1 k) (st2 0 k A) i).2.2.2 j) → K_70 (d + 4) 114 [.ref 64, iV ((i / 10 : Nat) : Int), iV ((i % 10 : Nat) : Int)] [] v (GAT (goK 0 k A B) (st1 k) (st2 0 k A) u) := by
  obtain ⟨-, -, -, -, -, -, -, -, -, -, -, -, -, hA, hB⟩ := id hH
  have hok := plG_good (P := okK k A B) (okK_st hA hB (Or.inl rfl)) (okK_go (as := 0) hA hB)
  generalize hGG : plG (goK 0 k A B) (st1 k) (st2 0 k A) = G at hok ⊢
  have hplS : ∀ i : Nat, G (i + 1) = plS (goK 0 k A B) i (G i) := fun i => by rw [← hGG]; rfl
  intro m
  induction m with
  | zero =>
    intro i v hi h1 h2 h3 h4 h5 h6
    have := plL_le h2
    rw [hGG] at this
    omega
  | succ m ih =>
    intro i v hi h1 h2 h3 h4 h5 h6
    have hn := plL_le h2
    rw [hGG] at hn
    have c3 := h5.2.2.1 (i / 10) h1
    refine k_70_114 (d := d + 3) ⟨⟨by omega, by omega⟩, ?_⟩
    rw [if_pos (by omega)]
    refine ⟨⟨by omega, by omega⟩, ?_⟩
    rw [if_pos h4]
    refine ⟨by omega, by omega, ?_⟩
    rw [c3.1, c3.2.1]
    refine (p_74 (d := d) (MF_mkH h3 hH) h5 (hok i _) (by omega) (by omega)).mono (Nat.le_refl _) (fun r u7 h7 => ⟨by omega, by omega, fun u11 e11 => ?_⟩)
    have ej : ((i / 10 : Nat) : Int) * 10 + ((i % 10 : Nat) : Int) = (i : Int) := by omega
    rw [ej] at e11
    have hS := hplS i
    unfold plS plA at hS
    simp only at hS
    generalize goK 0 k A B ((G i).2.1 ((i / 10 : Nat) : Int)) ((G i).2.2.1 ((i / 10 : Nat) : Int)) ((i % 10 : Nat) : Int) = kk at hS h7
    rcases h7 with ⟨g1, g2, g3, g4⟩ | ⟨g1, g2, g3, g4⟩
    · -- too many
      have hB : plB (goK 0 k A B) (st1 k) (st2 0 k A) i := by
        refine ⟨h2, by rw [hGG]; exact h1, ?_⟩
        rw [hGG, hS]
        show max (G i).1 (fdk _ _ _ _ _ + 1) = 2001
        omega
      have f11 : u11.1 64 4 = 1 := by rw [e11, wr_ne (by decide), g4, wr_self]
      have m11 : MF u u11 := by rw [e11, g4]; exact MF_69 (MF_64 (Or.inr rfl) h3)
      have c11 : CP u11 (G i).1 (G i).2.1 (G i).2.2.1 := by rw [e11, g4]; exact CP_69 (CP_644 h5)
      have done : GAT (goK 0 k A B) (st1 k) (st2 0 k A) u u11 := ⟨m11, Or.inr ⟨f11, i, _, _, _, hB, c11⟩⟩
      have row : K_70 (d + 4) 90 [.ref 64, iV (((i / 10 : Nat) : Int) + 1), .retAddr 0] [] u11 (GAT (goK 0 k A B) (st1 k) (st2 0 k A) u) := by
        have c2 := c11.2.1
        refine k_70_90 (d := d + 3) ⟨⟨by omega, by omega⟩, ⟨by omega, by omega⟩, ?_⟩
        by_cases cc : ((i / 10 : Nat) : Int) + 1 < u11.1 64 3
        · rw [if_pos cc, if_pos (by have := c11.1; omega)]
          refine ⟨⟨by omega, by omega⟩, ?_⟩
          rw [if_neg (by omega)]
          exact done
        · rw [if_neg cc]
          exact done
      refine k_70_114 (d := d + 3) ⟨⟨by omega, by omega⟩, ?_⟩
      by_cases cc : ((i % 10 : Nat) : Int) + 1 < 10
      · rw [if_pos cc]
        refine ⟨⟨by omega, by omega⟩, ?_⟩
        rw [if_neg (by omega)]
        exact row
      · rw [if_neg cc]
        exact row
    · -- one more step
      generalize hq : fdk (G i).2.1 (G i).2.2.1 kk.1 kk.2 (G i).1 = q at hS g1 g2 g3
      have eN : (G (i + 1)).1 = max (G i).1 (q + 1) := by rw [hS]
      have eF : (G (i + 1)).2.1 = uf (G i).2.1 (q : Nat) kk.1 := by rw [hS]
      have eG : (G (i + 1)).2.2.1 = uf (G i).2.2.1 (q : Nat) kk.2 := by rw [hS]
      have eX : (G (i + 1)).2.2.2 = uf (G i).2.2.2 (i : Int) (q : Nat) := by rw [hS]
      have hL : plL (goK 0 k A B) (st1 k) (st2 0 k A) (i + 1) := plL_s h2 (by rw [hGG]; exact h1) (by rw [hGG, eN]; omega)
      have m11 : MF u u11 := by rw [e11]; exact MF_69 (MF_trans h3 (CPf_MF g4))
      have f11 : u11.1 64 4 = 0 := by
        rw [e11, wr_ne (by decide), g4.2 64 4 (by decide) (fun _ => by decide)]
        exact h4
      have c11 : CP u11 (G (i + 1)).1 (G (i + 1)).2.1 (G (i + 1)).2.2.1 := by
        rw [e11, eN, eF, eG]
        exact CP_69 g3
      have x11 : ∀ j : Nat, j < i + 1 → u11.1 69 j = (G (i + 1)).2.2.2 j := by
        intro j hj
        rw [e11, wr_uf, eX]
        by_cases e : j = i
        · rw [e, uf_eq, uf_eq]; exact g2
        · rw [uf_ne (by omega), uf_ne (by omega)]
          have : u7.1 69 = v.1 69 := funext (fun y => g4.2 69 y (by decide) (fun hh => absurd hh (by decide)))
          rw [this]
          exact h6 j (by omega)
      have hmono : (G i).1 ≤ (G (i + 1)).1 := by rw [eN]; omega
      by_cases c : i % 10 = 9
      · refine k_70_114 (d := d + 3) ⟨⟨by omega, by omega⟩, ?_⟩
        rw [if_neg (by omega)]
        have c2 := c11.2.1
        have c1 := c11.1
        refine k_70_90 (d := d + 3) ⟨⟨by omega, by omega⟩, ⟨by omega, by omega⟩, ?_⟩
        by_cases c' : ((i / 10 : Nat) : Int) + 1 < u11.1 64 3
        · rw [if_pos c', if_pos (by omega)]
          refine ⟨⟨by omega, by omega⟩, ?_⟩
          rw [if_pos f11]
          have h0 := ih (i + 1) u11 (by omega) (by omega) hL m11 f11 c11 x11
          rw [show (i + 1) / 10 = i / 10 + 1 by omega, show (i + 1) % 10 = 0 by omega] at h0
          exact h0
        · rw [if_neg c']
          refine ⟨m11, Or.inl ⟨f11, i + 1, ⟨hL, ?_⟩, ?_, ?_⟩⟩
          · rw [hGG]; omega
          · rw [hGG]; exact c11
          · rw [hGG]; exact x11
      · have h0 := ih (i + 1) u11 (by omega) (by omega) hL m11 f11 c11 x11
        rw [show (i + 1) / 10 = i / 10 by omega, show (i + 1) % 10 = i % 10 + 1 by omega] at h0
        exact h0
set_option maxRecDepth 4000 in
theorem q_70 {d : Nat} {u : uS} {k : Int} {A B : Ma} (hH : mkH u k A B) (h4 : u.1 64 4 = 0) (hz : ∀ s : Int, 0 ≤ s → s < 4096 → u.1 70 s = 0) : cV (d + 5) 70 [.ref 64] u (GAT (goK 0 k A B) (st1 k) (st2 0 k A) u) := by
  obtain ⟨lp, rp, ol, or, l77, r77, k0, k1, k2, e1, e2, mA, mB, hA, hB⟩ := id hH
  have hr := okK_r hA hB (okK_st (as := 0) (k := k) hA hB (Or.inl rfl))
  refine e_70 (d := d + 3) (fun u1 f1 => ?_)
  have m1 : MF u u1 := by rw [f1]; exact MF_64 (Or.inl rfl) (MF_refl u)
  have c1 : CP u1 0 (fun _ => st1 k) (fun _ => st2 0 k A) := by
    refine ⟨by omega, by rw [f1, wr_self]; rfl, fun q hq => absurd hq (Nat.not_lt_zero q), HT_0 (by omega) (fun s s1 s2 => ?_), fun s s1 s2 hne => ?_, fun q hq => absurd hq (Nat.not_lt_zero q), fun p q _ hq => absurd hq (Nat.not_lt_zero q)⟩
    · show u1.1 70 s - 1 = -1
      rw [f1, wr_ne (by decide), hz s s1 (by omega)]
      rfl
    · rw [f1, wr_ne (by decide), hz s s1 s2] at hne
      exact absurd rfl hne
  have call : ∀ x y : Int, x = st1 k → y = st2 0 k A → cI (d + 4) 72 [.ref 64, iV x, lV y] u1 (fun r8 u7 => K_70 (d + 4) 90 [.ref 64, iV 0, .retAddr 0] [] u7 (GAT (goK 0 k A B) (st1 k) (st2 0 k A) u)) := by
    intro x y ex ey
    rw [← ex, ← ey] at hr c1
    refine (p_72 (d := d + 2) c1 hr.1 hr.2).mono (Nat.le_refl _) (fun r u7 h7 => ?_)
    rcases h7 with ⟨g1, g2, g3, g4⟩ | ⟨g1, g2, g3, g4⟩
    · omega
    · have e0 : fdk (fun _ => x) (fun _ => y) x y 0 = 0 := rfl
      have g3 : CP u7 1 (fun _ => x) (fun _ => y) := by
        rw [e0] at g3
        have : max 0 (0 + 1) = 1 := rfl
        rw [this, uf_same rfl, uf_same rfl] at g3
        exact g3
      have m7 : MF u u7 := MF_trans m1 (CPf_MF g4)
      have f7 : u7.1 64 4 = 0 := by
        rw [g4.2 64 4 (by decide) (fun _ => by decide), f1, wr_1, if_neg (by decide)]
        exact h4
      have c2 := g3.2.1
      refine k_70_90 (d := d + 3) ⟨⟨by omega, by omega⟩, ⟨by omega, by omega⟩, ?_⟩
      rw [if_pos (by omega), if_pos (by omega)]
      refine ⟨⟨by omega, by omega⟩, ?_⟩
      rw [if_pos f7]
      rw [ex, ey] at g3
      exact l_70 hH 20000 0 u7 (by omega) (by show 0 < 1; omega) plL_0 m7 f7 g3 (fun j hj => absurd hj (Nat.not_lt_zero j))
  have kk : u1.1 64 0 = k := by rw [f1, wr_1, if_neg (by decide)]; exact k0
  refine ⟨⟨by omega, by omega⟩, ?_⟩
  rw [kk]
  by_cases d2 : k = 2
  · rw [if_pos d2]
    have e1' : u1.2 64 1 = lp := by rw [f1, wr_2]; exact e1
    have mA' : cMa u1 lp A := by
      rw [f1]
      exact cMa_of mA (by rw [wr_ne (by omega)]) (by rw [wr_ne (by omega)]) (wr_ne (by omega))
    have a1 := hA.1
    rw [e1', last_if (s := 0) hA mA' ⟨by omega, by omega⟩]
    refine ⟨ol, ?_⟩
    have e0 : A.2.2 (Int.toNat 0) = A.2.2 0 := rfl
    rw [e0]
    cases hb : A.2.2 0 with
    | false =>
      rw [if_pos b2f]
      exact call 0 0 (by unfold st1; rw [if_neg (by omega)]) (by unfold st2; rw [if_pos d2, hb]; rfl)
    | true =>
      rw [if_neg (by decide)]
      exact call 0 1 (by unfold st1; rw [if_neg (by omega)]) (by unfold st2; rw [if_pos d2, hb]; rfl)
  · rw [if_neg d2]
    by_cases d3 : k = 3
    · rw [if_pos d3]
      exact call 0 1 (by unfold st1; rw [if_neg (by omega)]) (by unfold st2; rw [if_neg d2, if_pos d3])
    · rw [if_neg d3]
      by_cases d4 : k = 4
      · rw [if_pos d4]
        exact call 1 0 (by unfold st1; rw [if_pos d4]) (by unfold st2; rw [if_neg d2, if_neg d3, if_pos d4])
      · rw [if_neg d4]
        exact call 0 0 (by unfold st1; rw [if_neg d4]) (by unfold st2; rw [if_neg d2, if_neg d3, if_neg d4])
