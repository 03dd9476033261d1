/-! apart: the pairs' walk of one side -/
def fM (u : uS) (a : Nat) : Int → Int → Int := fun s c => u.1 a (s * 10 + c)
def Rc (u0 : uS) (w : Int) (u : uS) (a : aA) : Prop := sb1 u0 u [185, 186, 187, 188, 189] ∧ u.2 185 4 = 59 ∧ u.2 185 5 = 61 ∧ (∀ b, b ≠ 185 → u.2 b = u0.2 b) ∧ u.1 185 6 = w ∧ (∀ (k : Nat) t, a.1[k]? = some t → u.1 186 k = t) ∧ (∀ t, 0 ≤ t → t < 1600 → u.1 189 t = (if a.2.1 t = -9 then 0 else 1) ∧ (a.2.1 t ≠ -9 → u.1 187 t = a.2.1 t ∧ (t ≠ 0 → u.1 188 t = a.2.2.1 t)))
theorem Rc_add {u0 u : uS} {w p t c : Int} {a : aA} (R : Rc u0 w u a) (hp : p ≠ -9) {D : Int → Nat} : Rc u0 w (wr (wr (wr (wr u 189 t 1) 187 t p) 188 t c) 186 a.1.length t) (a.1 ++ [t], uf a.2.1 t p, uf a.2.2.1 t c, D) := by
  obtain ⟨hsb, r4, r5, r5', r6, rq, rt⟩ := R
  refine ⟨sb1_wr (sb1_wr (sb1_wr (sb1_wr hsb (by decide)) (by decide)) (by decide)) (by decide), r4, r5, r5', ?_, fun k t' hk => ?_, fun t' a1 a2 => ?_⟩
  · rw [wr_ne (by decide), wr_ne (by decide), wr_ne (by decide), wr_ne (by decide)]
    exact r6
  · rw [wr_uf, wr_ne (by decide), wr_ne (by decide), wr_ne (by decide)]
    dsimp only at hk
    by_cases hl : k < a.1.length
    · rw [List.getElem?_append_left hl] at hk
      rw [uf_ne (by omega)]
      exact rq k t' hk
    · rw [List.getElem?_append_right (by omega)] at hk
      have hz : k - a.1.length < 1 := (List.getElem?_eq_some_iff.mp hk).1
      rw [show k - a.1.length = 0 by omega] at hk
      have e : t = t' := Option.some.inj hk
      rw [show (k : Int) = (a.1.length : Int) by omega, uf_eq]
      exact e
  · rw [wr_ne (b := 189) (by decide), wr_ne (b := 189) (by decide), wr_ne (b := 189) (by decide), wr_uf, wr_ne (b := 187) (by decide), wr_ne (b := 187) (by decide), wr_uf, wr_ne (b := 187) (by decide), wr_ne (b := 188) (by decide), wr_uf, wr_ne (b := 188) (by decide), wr_ne (b := 188) (by decide)]
    show uf (u.1 189) t 1 t' = (if uf a.2.1 t p t' = -9 then 0 else 1) ∧ (uf a.2.1 t p t' ≠ -9 → uf (u.1 187) t p t' = uf a.2.1 t p t' ∧ (t' ≠ 0 → uf (u.1 188) t c t' = uf a.2.2.1 t c t'))
    by_cases e : t' = t
    · rw [e, uf_eq, uf_eq, uf_eq, uf_eq, uf_eq, if_neg hp]
      exact ⟨rfl, fun _ => ⟨rfl, fun _ => rfl⟩⟩
    · rw [uf_ne e, uf_ne e, uf_ne e, uf_ne e, uf_ne e]
      exact rt t' a1 a2
theorem aw1_pos {f g : Int → Int → Int} {p c : Int} {a : aA} (h : a.2.1 (tgt f g p c) = -9) : aw1 f g p c a = (a.1 ++ [tgt f g p c], uf a.2.1 (tgt f g p c) p, uf a.2.2.1 (tgt f g p c) c, fun t => if t = tgt f g p c then a.2.2.2 p + 1 else a.2.2.2 t) := if_pos h
theorem aw1_neg {f g : Int → Int → Int} {p c : Int} {a : aA} (h : ¬ a.2.1 (tgt f g p c) = -9) : aw1 f g p c a = a := if_neg h
theorem q_134 {d : Nat} {u0 u : uS} {w p : Int} {a : aA} {i n0 n1 : Nat} (h40 : n0 ≤ 40 ∧ n1 ≤ 40) (hT : okT n0 n1 (fM u0 60) (fM u0 62)) (hJ : jA n0 n1 a) (hp : a.1[i]? = some p) (R : Rc u0 w u a) : cI (d + 2) 134 [.ref 185, iV p, iV a.1.length] u (fun r u' => r = (awN (fM u0 60) (fM u0 62) p a 10).1.length ∧ Rc u0 w u' (awN (fM u0 60) (fM u0 62) p a 10)) := by
  refine e_134 ?_
  have loop : ∀ (m c : Nat) (u : uS), c + m = 10 → Rc u0 w u (awN (fM u0 60) (fM u0 62) p a c) → K_134 (d + 1) 5 [.ref 185, iV p, .retAddr 0, iV (awN (fM u0 60) (fM u0 62) p a c).1.length, iV c, .retAddr 0] [] u (fun r u' => r = (awN (fM u0 60) (fM u0 62) p a 10).1.length ∧ Rc u0 w u' (awN (fM u0 60) (fM u0 62) p a 10)) := by
    intro m
    induction m with
    | zero =>
      intro c u hc R
      refine k_134_5 ⟨⟨by omega, by omega⟩, ?_⟩
      rw [if_neg (by omega)]
      rw [show c = 10 by omega] at R ⊢
      exact ⟨rfl, R⟩
    | succ m ih =>
      intro c u hc R
      obtain ⟨hJc, hpc⟩ := jA_awN hT hJ hp c (by omega)
      obtain ⟨hsb, r4, r5, r5', r6, rq, rt⟩ := id R
      obtain ⟨hP, hp9, -⟩ := hJc.1 i p hpc
      have hI := hT p c hP (by omega) (by omega)
      have hJ' := jA_aw1 hT hJc hpc (c := c) (by omega) (by omega)
      have hl' := jA_len hJ'
      obtain ⟨b1, b2, b3, b4, b5, b6⟩ := hP
      refine k_134_5 ⟨⟨by omega, by omega⟩, ?_⟩
      rw [if_pos (by omega), r4, r5]
      have e1 : u.1 (59 + 1) = u0.1 60 := hsb 60 (by decide)
      have e2 : u.1 (61 + 1) = u0.1 62 := hsb 62 (by decide)
      have ht : u0.1 60 (p.tdiv 40 * 10 + c) * 40 + u0.1 62 (p.tmod 40 * 10 + c) = tgt (fM u0 60) (fM u0 62) p c := rfl
      rw [e1, e2, ht]
      refine ⟨⟨by omega, by omega⟩, sx_59, by omega, by omega, sx_61, by omega, by omega, hI.1, hI.2.1, ?_⟩
      rw [(rt _ hI.1 hI.2.1).1]
      by_cases h9 : (awN (fM u0 60) (fM u0 62) p a c).2.1 (tgt (fM u0 60) (fM u0 62) p c) = -9
      · rw [if_pos h9]
        refine ⟨⟨by omega, by omega⟩, ?_⟩
        rw [if_pos rfl]
        intro u14 e14 u16 e16 u18 e18
        rw [aw1_pos h9] at hl'
        dsimp only at hl'
        rw [List.length_append] at hl'
        have hl1 : ([tgt (fM u0 60) (fM u0 62) p c] : List Int).length = 1 := rfl
        refine ⟨by omega, by omega, fun u22 e22 => ?_⟩
        have hR : Rc u0 w u22 (awN (fM u0 60) (fM u0 62) p a (c + 1)) := by
          show Rc u0 w u22 (aw1 (fM u0 60) (fM u0 62) p c (awN (fM u0 60) (fM u0 62) p a c))
          rw [aw1_pos h9, e22, e18, e16, e14]
          exact Rc_add R (by omega)
        have hlen : ((awN (fM u0 60) (fM u0 62) p a c).1.length : Int) + 1 = ((awN (fM u0 60) (fM u0 62) p a (c + 1)).1.length : Int) := by
          show _ = ((aw1 (fM u0 60) (fM u0 62) p c (awN (fM u0 60) (fM u0 62) p a c)).1.length : Int)
          rw [aw1_pos h9]
          dsimp only
          rw [List.length_append]
          omega
        rw [hlen]
        exact ih (c + 1) u22 (by omega) hR
      · rw [if_neg h9]
        refine ⟨⟨by omega, by omega⟩, ?_⟩
        rw [if_neg (by decide)]
        have hA : awN (fM u0 60) (fM u0 62) p a (c + 1) = awN (fM u0 60) (fM u0 62) p a c := aw1_neg h9
        have := ih (c + 1) u (by omega) (by rw [hA]; exact R)
        rw [hA] at this
        exact this
  exact loop 10 0 u rfl R
def wnC (u0 : uS) (w p : Int) : Int := W2 w (land (lushr (u0.1 59 1) (p.tdiv 40)) 1) (land (lushr (u0.1 61 1) (p.tmod 40)) 1)
theorem q_133 {d : Nat} {u0 u : uS} {w p : Int} {a : aA} (hw0 : 0 ≤ w) (hw3 : w ≤ 3) (h0 : 0 ≤ p) (h1 : p < 1600) (R : Rc u0 w u a) : cI (d + 2) 133 [.ref 185, iV p] u (fun r u' => r = wnC u0 w p ∧ u' = u) := by
  obtain ⟨hsb, r4, r5, r5', r6, rq, rt⟩ := id R
  refine e_133 ⟨⟨by omega, by omega⟩, ?_⟩
  have e1 : u.1 59 = u0.1 59 := hsb 59 (by decide)
  have e2 : u.1 61 = u0.1 61 := hsb 61 (by decide)
  rw [r4, r5, r6, e1, e2]
  unfold wnC
  generalize land (lushr (u0.1 59 1) (p.tdiv 40)) 1 = x
  generalize land (lushr (u0.1 61 1) (p.tmod 40)) 1 = y
  have hwr : rI w := ⟨by omega, by omega⟩
  unfold W2
  refine ⟨sx_59, ?_⟩
  by_cases hx : x = 0
  · rw [if_pos hx]
    refine ⟨sx_61, ?_⟩
    by_cases hy : y = 0
    · rw [if_pos hy]
      refine ⟨hwr, ?_⟩
      simp only [hx, hy, if_true]
      repeat' split
      all_goals first | exact ⟨rfl, rfl⟩ | exact ⟨rfl, trivial⟩
    · rw [if_neg hy]
      refine ⟨hwr, ?_⟩
      simp only [hx, hy, if_true, if_false]
      repeat' split
      all_goals first | exact ⟨rfl, rfl⟩ | exact ⟨rfl, trivial⟩
  · rw [if_neg hx]
    refine ⟨sx_61, ?_⟩
    by_cases hy : y = 0
    · rw [if_pos hy]
      refine ⟨hwr, ?_⟩
      simp only [hx, hy, if_true, if_false]
      repeat' split
      all_goals first | exact ⟨rfl, rfl⟩ | exact ⟨rfl, trivial⟩
    · rw [if_neg hy]
      refine ⟨hwr, ?_⟩
      simp only [hx, hy, if_false]
      repeat' split
      all_goals first | exact ⟨rfl, rfl⟩ | exact ⟨rfl, trivial⟩
theorem W2_r (w x y : Int) : W2 w x y = 0 ∨ W2 w x y = 1 := by
  unfold W2
  repeat' split
  all_goals first | exact Or.inl rfl | exact Or.inr rfl
theorem q_132 {d : Nat} {u0 : uS} {w : Int} {n0 n1 : Nat} (h40 : n0 ≤ 40 ∧ n1 ≤ 40) (h1 : 1 ≤ n0 ∧ 1 ≤ n1) (hT : okT n0 n1 (fM u0 60) (fM u0 62)) (hw0 : 0 ≤ w) (hw3 : w ≤ 3) : cI (d + 3) 132 [.ref 185, .ref 59, .ref 61, iV w] u0 (fun r u' => ∃ i, aE (fM u0 60) (fM u0 62) (wnC u0 w) i ∧ Rc u0 w u' (aS (fM u0 60) (fM u0 62) i) ∧ ((∃ p, (aS (fM u0 60) (fM u0 62) i).1[i]? = some p ∧ r = 1 ∧ u'.1 185 7 = p) ∨ ((aS (fM u0 60) (fM u0 62) i).1[i]? = none ∧ r = 0))) := by
  refine e_132 sx_59 sx_61 (fun u1 e1 u3 e3 u5 e5 => ?_)
  have main : ∀ (m i : Nat) (u : uS), i + m = 1600 → (∀ j, j < i → ∃ p, (aS (fM u0 60) (fM u0 62) j).1[j]? = some p ∧ wnC u0 w p = 0) → Rc u0 w u (aS (fM u0 60) (fM u0 62) i) → K_132 (d + 2) 67 [.ref 185, .retAddr 0, .retAddr 0, .retAddr 0, iV (aS (fM u0 60) (fM u0 62) i).1.length, iV i, .retAddr 0] [] u (fun r u' => ∃ i, aE (fM u0 60) (fM u0 62) (wnC u0 w) i ∧ Rc u0 w u' (aS (fM u0 60) (fM u0 62) i) ∧ ((∃ p, (aS (fM u0 60) (fM u0 62) i).1[i]? = some p ∧ r = 1 ∧ u'.1 185 7 = p) ∨ ((aS (fM u0 60) (fM u0 62) i).1[i]? = none ∧ r = 0))) := by
    intro m
    induction m with
    | zero =>
      intro i u hi hb R
      have hl := jA_len (jA_S h1.1 h1.2 hT i)
      refine k_132_67 ⟨⟨by omega, by omega⟩, ⟨by omega, by omega⟩, ?_⟩
      rw [if_neg (by omega)]
      have hn : (aS (fM u0 60) (fM u0 62) i).1[i]? = none := List.getElem?_eq_none (by omega)
      exact ⟨i, ⟨hb, fun p hp => by rw [hn] at hp; cases hp⟩, R, Or.inr ⟨hn, rfl⟩⟩
    | succ m ih =>
      intro i u hi hb R
      have hJ := jA_S h1.1 h1.2 hT i
      have hl := jA_len hJ
      refine k_132_67 ⟨⟨by omega, by omega⟩, ⟨by omega, by omega⟩, ?_⟩
      cases hn : (aS (fM u0 60) (fM u0 62) i).1[i]? with
      | none =>
        have := List.getElem?_eq_none_iff.mp hn
        rw [if_neg (by omega)]
        exact ⟨i, ⟨hb, fun p hp => by rw [hn] at hp; cases hp⟩, R, Or.inr ⟨hn, rfl⟩⟩
      | some p =>
        have hlt := (List.getElem?_eq_some_iff.mp hn).1
        obtain ⟨hP, hp9, -⟩ := hJ.1 i p hn
        rw [if_pos (by omega), if_pos (by omega)]
        refine ⟨by omega, ?_⟩
        have hq : u.1 186 i = p := R.2.2.2.2.2.1 i p hn
        rw [hq]
        refine cI.mono (q_133 (d := d) hw0 hw3 hP.1 hP.2.1 R) (Nat.le_refl _) (fun r u6 hr => ?_)
        obtain ⟨hr, hu⟩ := hr
        rw [hu]
        have hW := W2_r w (land (lushr (u0.1 59 1) (p.tdiv 40)) 1) (land (lushr (u0.1 61 1) (p.tmod 40)) 1)
        have hW : wnC u0 w p = 0 ∨ wnC u0 w p = 1 := hW
        refine ⟨⟨by omega, by omega⟩, ?_⟩
        by_cases h0 : r = 0
        · rw [if_pos h0]
          refine cI.mono (q_134 (d := d) h40 hT hJ hn R) (Nat.le_refl _) (fun r' u7 hr' => ?_)
          obtain ⟨g1, g2⟩ := hr'
          rw [g1]
          have hs := aS_some hn
          rw [← hs] at g2 ⊢
          refine ih (i + 1) u7 (by omega) (fun j hj => ?_) g2
          by_cases e : j = i
          · rw [e]
            exact ⟨p, hn, by omega⟩
          · exact hb j (by omega)
        · rw [if_neg h0]
          intro u12 e12
          refine ⟨i, ⟨hb, fun p' hp' => ?_⟩, ?_, Or.inl ⟨p, hn, rfl, by rw [e12]; exact wr_self⟩⟩
          · rw [hn] at hp'
            have e : p = p' := Option.some.inj hp'
            rw [← e]
            omega
          · rw [e12]
            obtain ⟨hsb, r4, r5, r5', r6, rq, rt⟩ := R
            refine ⟨sb1_wr hsb (by decide), r4, r5, r5', ?_, fun k t hk => ?_, fun t a1 a2 => ?_⟩
            · rw [wr_1, if_neg (by decide)]
              exact r6
            · rw [wr_ne (by decide)]
              exact rq k t hk
            · rw [wr_ne (by decide), wr_ne (by decide), wr_ne (by decide)]
              exact rt t a1 a2
  have init : ∀ (m k : Nat) (u : uS), k + m = 1600 → sb1 u0 u [185, 186, 187, 188, 189] → u.2 = u5.2 → u.1 185 = u5.1 185 → (∀ t : Int, 0 ≤ t → t < k → u.1 189 t = 0) → K_132 (d + 2) 18 [.ref 185, .retAddr 0, .retAddr 0, .retAddr 0, iV k, .retAddr 0, .retAddr 0] [] u (fun r u' => ∃ i, aE (fM u0 60) (fM u0 62) (wnC u0 w) i ∧ Rc u0 w u' (aS (fM u0 60) (fM u0 62) i) ∧ ((∃ p, (aS (fM u0 60) (fM u0 62) i).1[i]? = some p ∧ r = 1 ∧ u'.1 185 7 = p) ∨ ((aS (fM u0 60) (fM u0 62) i).1[i]? = none ∧ r = 0))) := by
    intro m
    induction m with
    | zero =>
      intro k u hk hsb h2 h3 ht
      refine k_132_18 ⟨⟨by omega, by omega⟩, ?_⟩
      rw [if_neg (by omega)]
      intro u6 e6 u8 e8 u10 e10
      refine main 1600 0 u10 rfl (fun j hj => absurd hj (Nat.not_lt_zero j)) ?_
      rw [e10, e8, e6]
      refine ⟨sb1_wr (sb1_wr (sb1_wr hsb (by decide)) (by decide)) (by decide), ?_, ?_, ?_, ?_, fun k' t hk' => ?_, fun t a1 a2 => ?_⟩
      · rw [wr_2, wr_2, wr_2, h2, e5, wr_2, e3, wq_2, if_neg (by decide), e1, wq_2, if_pos (by decide)]
      · rw [wr_2, wr_2, wr_2, h2, e5, wr_2, e3, wq_2, if_pos (by decide)]
      · intro b hb
        rw [wr_2, wr_2, wr_2, h2, e5, wr_2, e3, wq_ne hb, e1, wq_ne hb]
      · rw [wr_ne (by decide), wr_ne (by decide), wr_ne (by decide), h3, e5, wr_self]
      · have hz : k' < 1 := (List.getElem?_eq_some_iff.mp hk').1
        have hz : k' = 0 := by omega
        subst hz
        have e : (0 : Int) = t := Option.some.inj hk'
        rw [← e]
        exact wr_self
      · rw [wr_ne (b := 189) (by decide), wr_ne (b := 189) (by decide), wr_uf, wr_ne (b := 187) (by decide), wr_uf]
        show uf (u.1 189) 0 1 t = (if uf (fun _ => -9) 0 (-1) t = -9 then 0 else 1) ∧ (uf (fun _ => -9) 0 (-1) t ≠ -9 → _ = uf (fun _ => -9) 0 (-1) t ∧ _)
        by_cases e : t = 0
        · rw [e, uf_eq, uf_eq, uf_eq, if_neg (by decide)]
          exact ⟨rfl, fun _ => ⟨rfl, fun q => absurd rfl q⟩⟩
        · rw [uf_ne e, uf_ne (f := fun _ => -9) e, if_pos rfl]
          exact ⟨ht t a1 (by omega), fun q => absurd rfl q⟩
    | succ m ih =>
      intro k u hk hsb h2 h3 ht
      refine k_132_18 ⟨⟨by omega, by omega⟩, ?_⟩
      rw [if_pos (by omega)]
      refine ⟨by omega, fun u4 e4 => ?_⟩
      refine ih (k + 1) u4 (by omega) (by rw [e4]; exact sb1_wr hsb (by decide)) (by rw [e4, wr_2]; exact h2) (by rw [e4, wr_ne (by decide)]; exact h3) (fun t a1 a2 => ?_)
      rw [e4, wr_uf]
      by_cases e : t = k
      · rw [e, uf_eq]
      · rw [uf_ne e]
        exact ht t a1 (by omega)
  exact init 1600 0 u5 rfl (by rw [e5, e3, e1]; exact sb1_wr (sb1_refl _ _) (by decide)) rfl rfl (fun t a1 a2 => by omega)
theorem q_135 {d : Nat} {u0 u : uS} {w p : Int} {a : aA} {i n0 n1 : Nat} (hJ : jA n0 n1 a) (R : Rc u0 w u a) (hp : a.1[i]? = some p) (ht : u.1 185 7 = p) : cI (d + 1) 135 [.ref 185] u (fun r u' => r = a.2.2.2 p ∧ u' = u) := by
  obtain ⟨hsb, r4, r5, r5', r6, rq, rt⟩ := id R
  obtain ⟨hP, hp9, hpd⟩ := hJ.1 i p hp
  have hi := (List.getElem?_eq_some_iff.mp hp).1
  have hl := jA_len hJ
  refine e_135 ?_
  rw [ht]
  have loop : ∀ (n : Nat) (t : Int) (m : Nat), 0 ≤ t → t < 1600 → a.2.1 t ≠ -9 → a.2.2.2 t = n → m + n = a.2.2.2 p → K_135 d 9 [.ref 185, iV m, iV t, iV m] [] u (fun r u' => r = a.2.2.2 p ∧ u' = u) := by
    intro n
    induction n with
    | zero =>
      intro t m h0 h1 h9 hd hm
      rcases hJ.2.2.1 t h0 h1 h9 with ⟨q1, q2, -⟩ | ⟨q1, q2, q3, q4, q5, q6, q7⟩
      · refine k_135_9 ⟨⟨by omega, by omega⟩, ?_⟩
        rw [if_pos (by omega), ((rt t h0 h1).2 h9).1, q2]
        refine ⟨h0, h1, ⟨by omega, by omega⟩, ?_⟩
        rw [if_pos (by decide)]
        exact ⟨by omega, rfl⟩
      · omega
    | succ n ih =>
      intro t m h0 h1 h9 hd hm
      rcases hJ.2.2.1 t h0 h1 h9 with ⟨q1, q2, q3⟩ | ⟨q1, q2, q3, q4, q5, q6, q7⟩
      · omega
      · refine k_135_9 ⟨⟨by omega, by omega⟩, ?_⟩
        rw [if_pos (by omega), ((rt t h0 h1).2 h9).1]
        refine ⟨h0, h1, ⟨by omega, by omega⟩, ?_⟩
        rw [if_neg (by omega)]
        exact ih (a.2.1 t) (m + 1) q2 q3 q4 (by omega) (by omega)
  exact loop (a.2.2.2 p) p 0 hP.1 hP.2.1 hp9 rfl (by omega)
theorem q_136 {d : Nat} {u0 u : uS} {w p : Int} {a : aA} {i n0 n1 n : Nat} (hJ : jA n0 n1 a) (R : Rc u0 w u a) (hp : a.1[i]? = some p) (ht : u.1 185 7 = p) (hn : a.2.2.2 p = n) (h40 : n ≤ 40) : cV (d + 1) 136 [.ref 185, .ref 5, iV n] u (fun u' => sb1 u u' [5] ∧ u'.2 = u.2 ∧ u'.1 5 = wlF a.2.1 a.2.2.1 n p (u.1 5)) := by
  obtain ⟨hsb, r4, r5, r5', r6, rq, rt⟩ := id R
  obtain ⟨hP, hp9, hpd⟩ := hJ.1 i p hp
  refine e_136 sx_5 ?_
  rw [ht]
  have loop : ∀ (k : Nat) (t : Int) (u1 : uS), 0 ≤ t → t < 1600 → a.2.1 t ≠ -9 → a.2.2.2 t = k → k ≤ 40 → sb1 u u1 [5] → u1.2 = u.2 → wlF a.2.1 a.2.2.1 k t (u1.1 5) = wlF a.2.1 a.2.2.1 n p (u.1 5) → K_136 d 10 [.ref 185, .ref 5, .retAddr 0, iV t, iV ((k : Int) - 1)] [] u1 (fun u' => sb1 u u' [5] ∧ u'.2 = u.2 ∧ u'.1 5 = wlF a.2.1 a.2.2.1 n p (u.1 5)) := by
    intro k
    induction k with
    | zero =>
      intro t u1 h0 h1 h9 hd hk hs h2 hw
      refine k_136_10 sx_5 ⟨⟨by omega, by omega⟩, ?_⟩
      rw [if_pos (by omega)]
      exact ⟨hs, h2, hw⟩
    | succ k ih =>
      intro t u1 h0 h1 h9 hd hk hs h2 hw
      rcases hJ.2.2.1 t h0 h1 h9 with ⟨q1, q2, q3⟩ | ⟨q1, q2, q3, q4, q5, q6, q7⟩
      · omega
      · have e7 : u1.1 187 t = a.2.1 t := by rw [hs 187 (by decide)]; exact ((rt t h0 h1).2 h9).1
        have e8 : u1.1 188 t = a.2.2.1 t := by rw [hs 188 (by decide)]; exact ((rt t h0 h1).2 h9).2 q1
        refine k_136_10 sx_5 ⟨⟨by omega, by omega⟩, ?_⟩
        rw [if_neg (by omega), e7, e8]
        refine ⟨h0, h1, ⟨by omega, by omega⟩, ?_⟩
        rw [if_neg (by omega)]
        refine ⟨by omega, fun u8 e => ?_⟩
        have ek : ((k + 1 : Nat) : Int) - 1 = (k : Int) := by omega
        rw [ek] at e ⊢
        have e9 : u8.1 187 t = a.2.1 t := by rw [e, wr_ne (by decide)]; exact e7
        rw [e9, show (k : Int) + -1 = (k : Int) - 1 by omega]
        refine ih (a.2.1 t) u8 q2 q3 q4 (by omega) (by omega) (by rw [e]; exact sb1_wr hs (by decide)) (by rw [e, wr_2]; exact h2) ?_
        rw [e, wr_uf]
        exact hw
  exact loop n p u hP.1 hP.2.1 hp9 hn h40 (sb1_refl _ _) rfl rfl
