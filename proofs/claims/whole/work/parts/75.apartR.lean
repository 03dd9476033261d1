/-! apart: the pairs' walk of the other side; both alike -/
def Rr (u0 : uS) (u : uS) (a : aA) : Prop := sb1 u0 u [321, 322, 323] ∧ u.2 = u0.2 ∧ (∀ (k : Nat) t, a.1[k]? = some t → u.1 323 k = t) ∧ (∀ t, 0 ≤ t → t < 1600 → u.1 321 t = a.2.1 t ∧ (a.2.1 t ≠ -9 → t ≠ 0 → u.1 322 t = a.2.2.1 t))
theorem Rr_add {u0 u : uS} {p t c : Int} {a : aA} (R : Rr u0 u a) {D : Int → Nat} : Rr u0 (wr (wr (wr u 321 t p) 322 t c) 323 a.1.length t) (a.1 ++ [t], uf a.2.1 t p, uf a.2.2.1 t c, D) := by
  obtain ⟨hsb, r2, rq, rt⟩ := R
  refine ⟨sb1_wr (sb1_wr (sb1_wr hsb (by decide)) (by decide)) (by decide), r2, fun k t' hk => ?_, fun t' a1 a2 => ?_⟩
  · rw [wr_uf, wr_ne (by decide), wr_ne (by decide)]
    dsimp only at hk
    by_cases hl : k < a.1.length
    · rw [List.getElem?_append_left hl] at hk
      rw [uf_ne (by omega)]
      exact rq k t' hk
    · rw [List.getElem?_append_right (by omega)] at hk
      have hz : k - a.1.length < 1 := (List.getElem?_eq_some_iff.mp hk).1
      rw [show k - a.1.length = 0 by omega] at hk
      have e : t = t' := Option.some.inj hk
      rw [show (k : Int) = (a.1.length : Int) by omega, uf_eq]
      exact e
  · rw [wr_ne (b := 321) (by decide), wr_ne (b := 321) (by decide), wr_uf, wr_ne (b := 322) (by decide), wr_uf, wr_ne (b := 322) (by decide)]
    dsimp only
    by_cases e : t' = t
    · rw [e, uf_eq, uf_eq, uf_eq, uf_eq]
      exact ⟨rfl, fun _ _ => rfl⟩
    · rw [uf_ne e, uf_ne e, uf_ne e, uf_ne e]
      exact rt t' a1 a2
def wnR (u0 : uS) (w p : Int) : Int := W2 w (u0.1 303 (p.tdiv 40)) (u0.1 303 (40 + p.tmod 40))
theorem q_266 {d : Nat} {u : uS} {w x y : Int} (hw : rI w) (hx : rI x) (hy : rI y) : cI (d + 1) 266 [iV w, iV x, iV y] u (fun r u' => r = W2 w x y ∧ u' = u) := by
  refine e_266 ⟨hw, ?_⟩
  unfold W2
  repeat' split
  all_goals first
    | exact ⟨rfl, rfl⟩
    | (refine ⟨hx, ?_⟩
       repeat' split
       all_goals first
         | exact ⟨rfl, rfl⟩
         | (refine ⟨hy, ?_⟩
            repeat' split
            all_goals first | exact ⟨rfl, rfl⟩ | (exfalso; omega))
         | (exfalso; omega))
    | (refine ⟨hy, ?_⟩
       repeat' split
       all_goals first
         | exact ⟨rfl, rfl⟩
         | (refine ⟨hx, ?_⟩
            repeat' split
            all_goals first | exact ⟨rfl, rfl⟩ | (exfalso; omega))
         | (exfalso; omega))
    | (exfalso; omega)
theorem l_267 {d : Nat} {u0 u : uS} {p : Int} {a : aA} {i n0 n1 : Nat} {Q : Int → uS → Prop} (hJ : jA n0 n1 a) (R : Rr u0 u a) (hp : a.1[i]? = some p) (hQ3 : 40 < a.2.2.2 p → Q (-3) u) (hQ : a.2.2.2 p ≤ 40 → ∀ u', sb1 u u' [271, 273] → u'.2 = u.2 → u'.1 271 = (wr u 271 3 (a.2.2.2 p : Nat)).1 271 → u'.1 273 = wlF a.2.1 a.2.2.1 (a.2.2.2 p) p (u.1 273) → Q (a.2.2.2 p : Nat) u') : cI (d + 1) 267 [.ref 271, iV p] u Q := by
  obtain ⟨hsb, r2, rq, rt⟩ := id R
  obtain ⟨hP, hp9, hpd⟩ := hJ.1 i p hp
  have hi := (List.getElem?_eq_some_iff.mp hp).1
  have hl := jA_len hJ
  refine e_267 ?_
  have back : ∀ (k : Nat) (t : Int) (u1 : uS), a.2.2.2 p ≤ 40 → 0 ≤ t → t < 1600 → a.2.1 t ≠ -9 → a.2.2.2 t = k → k ≤ 40 → sb1 u u1 [271, 273] → u1.2 = u.2 → u1.1 271 = (wr u 271 3 (a.2.2.2 p : Nat)).1 271 → wlF a.2.1 a.2.2.1 k t (u1.1 273) = wlF a.2.1 a.2.2.1 (a.2.2.2 p) p (u.1 273) → K_267 d 46 [.ref 271, .retAddr 0, iV (a.2.2.2 p : Nat), iV k, iV t] [] u1 Q := by
    intro k
    induction k with
    | zero =>
      intro t u1 h40 h0 h1 h9 hd hk hs h2 h7 hw
      rcases hJ.2.2.1 t h0 h1 h9 with ⟨q1, q2, -⟩ | ⟨q1, q2, q3, q4, q5, q6, q7⟩
      · refine k_267_46 ⟨h0, h1, ?_⟩
        rw [hs 321 (by decide), (rt t h0 h1).1, q2]
        refine ⟨⟨by omega, by omega⟩, ?_⟩
        rw [if_pos rfl]
        exact hQ h40 u1 hs h2 h7 hw
      · omega
    | succ k ih =>
      intro t u1 h40 h0 h1 h9 hd hk hs h2 h7 hw
      rcases hJ.2.2.1 t h0 h1 h9 with ⟨q1, q2, q3⟩ | ⟨q1, q2, q3, q4, q5, q6, q7⟩
      · omega
      · have e7 : u1.1 321 t = a.2.1 t := by rw [hs 321 (by decide)]; exact (rt t h0 h1).1
        have e8 : u1.1 322 t = a.2.2.1 t := by rw [hs 322 (by decide)]; exact (rt t h0 h1).2 h9 q1
        refine k_267_46 ⟨h0, h1, ?_⟩
        rw [e7, e8]
        refine ⟨⟨by omega, by omega⟩, ?_⟩
        rw [if_neg (by omega)]
        refine ⟨by omega, by omega, fun u8 e => ?_⟩
        have ek : ((k + 1 : Nat) : Int) + -1 = (k : Int) := by omega
        rw [ek] at e ⊢
        have e9 : u8.1 321 t = a.2.1 t := by rw [e, wr_ne (by decide)]; exact e7
        rw [e9]
        refine ih (a.2.1 t) u8 h40 q2 q3 q4 (by omega) (by omega) (by rw [e]; exact sb1_wr hs (by decide)) (by rw [e, wr_2]; exact h2) (by rw [e, wr_ne (by decide)]; exact h7) ?_
        rw [e, wr_uf]
        exact hw
  have loop : ∀ (n : Nat) (t : Int) (m : Nat), 0 ≤ t → t < 1600 → a.2.1 t ≠ -9 → a.2.2.2 t = n → m + n = a.2.2.2 p → K_267 d 4 [.ref 271, iV p, iV m, iV t, .retAddr 0] [] u Q := by
    intro n
    induction n with
    | zero =>
      intro t m h0 h1 h9 hd hm
      rcases hJ.2.2.1 t h0 h1 h9 with ⟨q1, q2, -⟩ | ⟨q1, q2, q3, q4, q5, q6, q7⟩
      · refine k_267_4 ⟨h0, h1, ?_⟩
        rw [(rt t h0 h1).1, q2]
        refine ⟨⟨by omega, by omega⟩, ?_⟩
        rw [if_pos rfl]
        refine ⟨⟨by omega, by omega⟩, ?_⟩
        have em : m = a.2.2.2 p := by omega
        rw [em]
        by_cases h40 : (40 : Int) < (a.2.2.2 p : Nat)
        · rw [if_pos h40]
          exact hQ3 (by omega)
        · rw [if_neg h40]
          intro u7 e7
          refine back (a.2.2.2 p) p u7 (by omega) hP.1 hP.2.1 hp9 rfl (by omega) (by rw [e7]; exact sb1_wr (sb1_refl _ _) (by decide)) (by rw [e7, wr_2]) (by rw [e7]) ?_
          rw [e7, wr_ne (by decide)]
      · omega
    | succ n ih =>
      intro t m h0 h1 h9 hd hm
      rcases hJ.2.2.1 t h0 h1 h9 with ⟨q1, q2, q3⟩ | ⟨q1, q2, q3, q4, q5, q6, q7⟩
      · omega
      · refine k_267_4 ⟨h0, h1, ?_⟩
        rw [(rt t h0 h1).1]
        refine ⟨⟨by omega, by omega⟩, ?_⟩
        rw [if_neg (by omega)]
        exact ih (a.2.1 t) (m + 1) q2 q3 q4 (by omega) (by omega)
  exact loop (a.2.2.2 p) p 0 hP.1 hP.2.1 hp9 rfl (by omega)
theorem l_265 {d : Nat} {u0 : uS} {w : Int} {n0 n1 : Nat} {f g : Int → Int → Int} {wn : Int → Int} {Q : Int → uS → Prop} (h40 : n0 ≤ 40 ∧ n1 ≤ 40) (h1 : 1 ≤ n0 ∧ 1 ≤ n1) (hT : okT n0 n1 f g) (hfg : ∀ p c : Int, inP n0 n1 p → 0 ≤ c → c < 10 → 40 * u0.1 302 (10 * p.tdiv 40 + c) + u0.1 302 (400 + 10 * p.tmod 40 + c) = tgt f g p c) (hwn : ∀ p : Int, inP n0 n1 p → wnR u0 w p = wn p) (hb3 : ∀ p : Int, inP n0 n1 p → rI (u0.1 303 (p.tdiv 40)) ∧ rI (u0.1 303 (40 + p.tmod 40))) (hw : rI w) (hw0 : 0 ≤ w) (hw3 : w ≤ 3) (hN : ∀ i u', aE f g wn i → (aS f g i).1[i]? = none → Rr u0 u' (aS f g i) → Q (-2) u') (hS : ∀ i p u', aE f g wn i → (aS f g i).1[i]? = some p → Rr u0 u' (aS f g i) → cI (d + 1) 267 [.ref 271, iV p] u' Q) : cI (d + 2) 265 [.ref 271, iV w] u0 Q := by
  refine e_265 ⟨hw, ?_⟩
  rw [if_neg (by omega), if_neg (by omega)]
  have main : ∀ (m i : Nat) (u : uS), i + m = 1601 → (∀ j, j < i → ∃ p, (aS f g j).1[j]? = some p ∧ wn p = 0) → Rr u0 u (aS f g i) → K_265 (d + 1) 55 [.ref 271, iV w, iV (aS f g i).1.length, iV i, .retAddr 0, .retAddr 0, .retAddr 0, .retAddr 0] [] u Q := by
    intro m
    induction m with
    | zero =>
      intro i u hi hb R
      have hl := jA_len (jA_S h1.1 h1.2 hT i)
      refine k_265_55 ⟨⟨by omega, by omega⟩, ⟨by omega, by omega⟩, ?_⟩
      rw [if_neg (by omega)]
      have hn : (aS f g i).1[i]? = none := List.getElem?_eq_none (by omega)
      exact hN i u ⟨hb, fun p hp => by rw [hn] at hp; cases hp⟩ hn R
    | succ m ih =>
      intro i u hi hb R
      have hJ := jA_S h1.1 h1.2 hT i
      have hl := jA_len hJ
      refine k_265_55 ⟨⟨by omega, by omega⟩, ⟨by omega, by omega⟩, ?_⟩
      cases hn : (aS f g i).1[i]? with
      | none =>
        have := List.getElem?_eq_none_iff.mp hn
        rw [if_neg (by omega)]
        exact hN i u ⟨hb, fun p hp => by rw [hn] at hp; cases hp⟩ hn R
      | some p =>
        have hlt := (List.getElem?_eq_some_iff.mp hn).1
        obtain ⟨hP, hp9, -⟩ := hJ.1 i p hn
        obtain ⟨b1, b2, b3, b4, b5, b6⟩ := id hP
        have hq : u.1 323 i = p := R.2.2.1 i p hn
        rw [if_pos (by omega), hq, R.1 303 (by decide)]
        refine ⟨by omega, by omega, ⟨by omega, by omega⟩, by omega, by omega, by omega, by omega, ?_⟩
        refine cI.mono (q_266 (d := d) hw (hb3 p hP).1 (hb3 p hP).2) (Nat.le_refl _) (fun r u6 hr => ?_)
        obtain ⟨hr, hu⟩ := hr
        rw [hu]
        have hW := W2_r w (u0.1 303 (p.tdiv 40)) (u0.1 303 (40 + p.tmod 40))
        have hrw : r = wn p := hr.trans (hwn p hP)
        refine ⟨⟨by omega, by omega⟩, ?_⟩
        by_cases h0 : r = 0
        · rw [if_pos h0]
          have inner : ∀ (m' c : Nat) (u : uS), c + m' = 10 → Rr u0 u (awN f g p (aS f g i) c) → K_265 (d + 1) 120 [.ref 271, iV w, iV (awN f g p (aS f g i) c).1.length, iV i, iV (p.tdiv 40), iV (p.tmod 40), iV c, .retAddr 0] [] u Q := by
            intro m'
            induction m' with
            | zero =>
              intro c u hc R
              refine k_265_120 ⟨⟨by omega, by omega⟩, ?_⟩
              rw [if_neg (by omega)]
              rw [show c = 10 by omega, ← aS_some hn] at R ⊢
              refine ih (i + 1) u (by omega) (fun j hj => ?_) R
              by_cases e : j = i
              · rw [e]
                exact ⟨p, hn, by omega⟩
              · exact hb j (by omega)
            | succ m' ih' =>
              intro c u hc R
              obtain ⟨hJc, hpc⟩ := jA_awN hT hJ hn c (by omega)
              have hI := hT p c hP (by omega) (by omega)
              have hJ' := jA_aw1 hT hJc hpc (c := c) (by omega) (by omega)
              have hl' := jA_len hJ'
              have ht := hfg p c hP (by omega) (by omega)
              refine k_265_120 ⟨⟨by omega, by omega⟩, ?_⟩
              rw [if_pos (by omega), R.1 302 (by decide), ht, (R.2.2.2 _ hI.1 hI.2.1).1]
              have hqi : u.1 323 i = p := R.2.2.1 i p hpc
              refine ⟨by omega, by omega, by omega, by omega, hI.1, hI.2.1, ?_⟩
              by_cases h9 : (awN f g p (aS f g i) c).2.1 (tgt f g p c) = -9
              · rw [h9]
                refine ⟨⟨by omega, by omega⟩, ?_⟩
                rw [if_pos rfl, hqi]
                refine ⟨by omega, by omega, fun u13 e13 u15 e15 => ?_⟩
                rw [aw1_pos h9] at hl'
                dsimp only at hl'
                rw [List.length_append] at hl'
                have hl1 : ([tgt f g p c] : List Int).length = 1 := rfl
                refine ⟨by omega, by omega, fun u19 e19 => ?_⟩
                have hR : Rr u0 u19 (awN f g p (aS f g i) (c + 1)) := by
                  show Rr u0 u19 (aw1 f g p c (awN f g p (aS f g i) c))
                  rw [aw1_pos h9, e19, e15, e13]
                  exact Rr_add R
                have hlen : ((awN f g p (aS f g i) c).1.length : Int) + 1 = ((awN f g p (aS f g i) (c + 1)).1.length : Int) := by
                  show _ = ((aw1 f g p c (awN f g p (aS f g i) c)).1.length : Int)
                  rw [aw1_pos h9]
                  dsimp only
                  rw [List.length_append]
                  omega
                rw [hlen]
                exact ih' (c + 1) u19 (by omega) hR
              · have hA : awN f g p (aS f g i) (c + 1) = awN f g p (aS f g i) c := aw1_neg h9
                have hrI : rI ((awN f g p (aS f g i) c).2.1 (tgt f g p c)) := by
                  rcases hJc.2.2.1 _ hI.1 hI.2.1 h9 with ⟨-, q, -⟩ | ⟨-, q1, q2, -⟩
                  · exact ⟨by omega, by omega⟩
                  · exact ⟨by omega, by omega⟩
                refine ⟨hrI, ?_⟩
                rw [if_neg h9]
                have := ih' (c + 1) u (by omega) (by rw [hA]; exact R)
                rw [hA] at this
                exact this
          exact inner 10 0 u rfl R
        · rw [if_neg h0]
          rw [hq]
          exact cI.mono (hS i p u ⟨hb, fun p' hp' => by
            rw [hn] at hp'
            have e : p = p' := Option.some.inj hp'
            rw [← e]
            omega⟩ hn R) (Nat.le_refl _) (fun _ _ h => h)
  have init : ∀ (m k : Nat) (u : uS), k + m = 1600 → sb1 u0 u [321, 322, 323] → u.2 = u0.2 → (∀ t : Int, 0 ≤ t → t < k → u.1 321 t = -9) → K_265 (d + 1) 16 [.ref 271, iV w, iV k, .retAddr 0, .retAddr 0, .retAddr 0, .retAddr 0, .retAddr 0] [] u Q := by
    intro m
    induction m with
    | zero =>
      intro k u hk hsb h2 ht
      refine k_265_16 ⟨⟨by omega, by omega⟩, ?_⟩
      rw [if_neg (by omega)]
      intro u6 e6 u8 e8
      refine main 1601 0 u8 rfl (fun j hj => absurd hj (Nat.not_lt_zero j)) ?_
      rw [e8, e6]
      refine ⟨sb1_wr (sb1_wr hsb (by decide)) (by decide), h2, fun k' t hk' => ?_, fun t a1 a2 => ?_⟩
      · have hz : k' < 1 := (List.getElem?_eq_some_iff.mp hk').1
        have hz : k' = 0 := by omega
        subst hz
        have e : (0 : Int) = t := Option.some.inj hk'
        rw [← e, wr_ne (by decide)]
        exact wr_self
      · rw [wr_uf, wr_ne (b := 321) (by decide)]
        show uf (u.1 321) 0 (-1) t = uf (fun _ => -9) 0 (-1) t ∧ (uf (fun _ => -9) 0 (-1) t ≠ -9 → _)
        by_cases e : t = 0
        · rw [e, uf_eq, uf_eq]
          exact ⟨rfl, fun _ q => absurd rfl q⟩
        · rw [uf_ne e, uf_ne (f := fun _ => -9) e]
          exact ⟨ht t a1 (by omega), fun q => absurd rfl q⟩
    | succ m ih =>
      intro k u hk hsb h2 ht
      refine k_265_16 ⟨⟨by omega, by omega⟩, ?_⟩
      rw [if_pos (by omega)]
      refine ⟨by omega, fun u4 e4 => ?_⟩
      refine ih (k + 1) u4 (by omega) (by rw [e4]; exact sb1_wr hsb (by decide)) (by rw [e4, wr_2]; exact h2) (fun t a1 a2 => ?_)
      rw [e4, wr_uf]
      by_cases e : t = k
      · rw [e, uf_eq]
      · rw [uf_ne e]
        exact ht t a1 (by omega)
  exact init 1600 0 u0 rfl (sb1_refl _ _) rfl (fun t a1 a2 => by omega)
/-- all numbers but what P names are as they were -/
def fr1 (P : Nat → Int → Prop) (u u' : uS) : Prop := ∀ b j, ¬ P b j → u'.1 b j = u.1 b j
abbrev apP (b : Nat) (j : Int) : Prop := b ∈ [5, 185, 186, 187, 188, 189, 273, 321, 322, 323] ∨ (b = 0 ∧ j = 2) ∨ (b = 36 ∧ j = 16) ∨ (b = 271 ∧ j = 3)
set_option maxRecDepth 4000 in
theorem st_apart {d : Nat} {u : uS} {w : Int} (hw : rI w) (hM : invM u) (hW : invW u) : cI (d + 4) 131 [.ref 0, iV w] u (fun r u1 => cI (d + 4) 265 [.ref 271, iV w] u1 (fun r' u2 => r' = r ∧ invW u2 ∧ fr1 apP u u2 ∧ (∀ b, b ≠ 185 → u2.2 b = u.2 b) ∧ (u2.1 36 = u.1 36 ∨ u2.1 36 16 = 0))) := by
  refine e_131 (d := d + 1) ⟨hw, ?_⟩
  by_cases hw0 : w < 0
  · rw [if_pos hw0]
    refine e_265 (d := d + 2) ⟨hw, ?_⟩
    rw [if_pos hw0]
    exact ⟨rfl, hW, fun _ _ _ => rfl, fun _ _ => rfl, Or.inl rfl⟩
  rw [if_neg hw0]
  by_cases hw3 : 3 < w
  · rw [if_pos hw3]
    refine e_265 (d := d + 2) ⟨hw, ?_⟩
    rw [if_neg hw0, if_pos hw3]
    exact ⟨rfl, hW, fun _ _ _ => rfl, fun _ _ => rfl, Or.inl rfl⟩
  rw [if_neg hw3]
  obtain ⟨⟨n0, a1, a2, a3, a4, a5, a6⟩, ⟨n1, b1, b2', b3, b4, b5, b6⟩⟩ := id hM
  have hT : okT n0 n1 (fM u 60) (fM u 62) := by
    intro p c hp h0 h1
    obtain ⟨g1, g2, g3, g4, g5, g6⟩ := hp
    have x1 := a5 (p.tdiv 40) c g3 g4 h0 h1
    have x2 := b5 (p.tmod 40) c g5 g6 h0 h1
    exact inP_mk a2 b2' x1.2.1 x1.2.2 x2.2.1 x2.2.2
  refine cI.mono (q_132 (d := d) ⟨a2, b2'⟩ ⟨a1, b1⟩ hT (by omega) (by omega)) (Nat.le_refl _) (fun r u4 hr => ?_)
  obtain ⟨i, hE, R, hr⟩ := hr
  have hJ := jA_S a1 b1 hT i
  have hrest : ∀ {v : uS}, sb1 u v [0, 5, 36, 185, 186, 187, 188, 189] → ∀ {Q : Int → uS → Prop}, (∀ u', (aS (fM u 60) (fM u 62) i).1[i]? = none → Rr v u' (aS (fM u 60) (fM u 62) i) → Q (-2) u') → (∀ p u', (aS (fM u 60) (fM u 62) i).1[i]? = some p → Rr v u' (aS (fM u 60) (fM u 62) i) → cI (d + 3) 267 [.ref 271, iV p] u' Q) → cI (d + 4) 265 [.ref 271, iV w] v Q := by
    intro v hs Q k1 k2
    have c2 := hs 302 (by decide)
    have c3 := hs 303 (by decide)
    refine l_265 (d := d + 2) (f := fM u 60) (g := fM u 62) (wn := wnC u w) ⟨a2, b2'⟩ ⟨a1, b1⟩ hT (fun p c hp h0 h1 => ?_) (fun p hp => ?_) (fun p hp => ?_) hw (by omega) (by omega) (fun j u' hj hn R' => ?_) (fun j p u' hj hn R' => ?_)
    · obtain ⟨g1, g2, g3, g4, g5, g6⟩ := hp
      have x1 := (a5 (p.tdiv 40) c g3 g4 h0 h1).1
      have x2 := (b5 (p.tmod 40) c g5 g6 h0 h1).1
      rw [c2]
      show _ = u.1 60 (p.tdiv 40 * 10 + c) * 40 + u.1 62 (p.tmod 40 * 10 + c)
      have x1 : u.1 302 (10 * p.tdiv 40 + c) = u.1 60 (p.tdiv 40 * 10 + c) := by
        rw [show 400 * ((0 : Nat) : Int) + 10 * p.tdiv 40 + c = 10 * p.tdiv 40 + c by omega] at x1
        exact x1
      have x2 : u.1 302 (400 + 10 * p.tmod 40 + c) = u.1 62 (p.tmod 40 * 10 + c) := by
        rw [← x2]
        congr 1
      rw [x1, x2]
      omega
    · obtain ⟨g1, g2, g3, g4, g5, g6⟩ := hp
      have x1 := a6 (p.tdiv 40) g3 g4
      have x2 := b6 (p.tmod 40) g5 g6
      have x1 : u.1 303 (p.tdiv 40) = b2 (bt (u.1 59 1) (p.tdiv 40).toNat) := by
        rw [show 40 * ((0 : Nat) : Int) + p.tdiv 40 = p.tdiv 40 by omega] at x1
        exact x1
      have x2 : u.1 303 (40 + p.tmod 40) = b2 (bt (u.1 61 1) (p.tmod 40).toNat) := by
        rw [← x2]
        congr 1
      unfold wnR wnC
      rw [c3, x1, x2, bit_l g3 (by omega), bit_l g5 (by omega)]
      rfl
    · obtain ⟨g1, g2, g3, g4, g5, g6⟩ := hp
      have x1 := a6 (p.tdiv 40) g3 g4
      have x2 := b6 (p.tmod 40) g5 g6
      have x1 : u.1 303 (p.tdiv 40) = b2 (bt (u.1 59 1) (p.tdiv 40).toNat) := by
        rw [show 40 * ((0 : Nat) : Int) + p.tdiv 40 = p.tdiv 40 by omega] at x1
        exact x1
      have x2 : u.1 303 (40 + p.tmod 40) = b2 (bt (u.1 61 1) (p.tmod 40).toNat) := by
        rw [← x2]
        congr 1
      rw [c3, x1, x2]
      exact ⟨ri_b2 _, ri_b2 _⟩
    · rw [aE_eq hE hj] at hn R'
      exact k1 u' hn R'
    · rw [aE_eq hE hj] at hn R'
      exact k2 p u' hn R'
  obtain ⟨hsb, r4, r5, r5', r6, rq, rt⟩ := id R
  have hsb4 : sb1 u u4 [0, 5, 36, 185, 186, 187, 188, 189] := fun b hb => hsb b (fun q => hb (by
    simp only [List.mem_cons, List.not_mem_nil, or_false] at q ⊢
    omega))
  have frm : ∀ {v v' : uS} {l1 l2 : List Nat} (b : Nat), sb1 u v l1 → sb1 v v' l2 → b ∉ l1 → b ∉ l2 → v'.1 b = u.1 b := fun b h1 h2 g1 g2 => (h2 b g2).trans (h1 b g1)
  rcases hr with ⟨p, hp, e1, e7⟩ | ⟨hn, e1⟩
  · rw [e1]
    refine ⟨⟨by omega, by omega⟩, ?_⟩
    rw [if_neg (by decide)]
    refine cI.mono (q_135 (d := d + 2) hJ R hp e7) (Nat.le_refl _) (fun r9 u8 hr9 => ?_)
    obtain ⟨g1, g2⟩ := hr9
    obtain ⟨hP, hp9, hpd⟩ := hJ.1 i p hp
    have hi := (List.getElem?_eq_some_iff.mp hp).1
    have hl := jA_len hJ
    generalize hD : (aS (fM u 60) (fM u 62) i).2.2.2 p = n at g1 hpd
    rw [g2, g1]
    refine ⟨⟨by omega, by omega⟩, ?_⟩
    by_cases h40 : (40 : Int) < n
    · rw [if_pos h40]
      refine hrest hsb4 (fun u' hn => by rw [hp] at hn; cases hn) (fun p' u' hp' R' => ?_)
      rw [hp] at hp'
      have e : p = p' := Option.some.inj hp'
      rw [← e]
      refine l_267 (d := d + 2) hJ R' hp (fun _ => ?_) (fun q => ?_)
      · refine ⟨rfl, ?_, fun b j hb => ?_, fun b hb => ?_, Or.inl ?_⟩
        · obtain ⟨k, k1, k2, k3, k4⟩ := hW
          refine ⟨k, k1, ?_, ?_, fun i hi => ?_⟩
          · rw [frm 0 hsb R'.1 (by decide) (by decide)]
            exact k2
          · rw [frm 271 hsb R'.1 (by decide) (by decide)]
            exact k3
          · rw [frm 273 hsb R'.1 (by decide) (by decide), frm 5 hsb R'.1 (by decide) (by decide)]
            exact k4 i hi
        · rw [frm b hsb R'.1 (fun q => hb (Or.inl (by
            simp only [List.mem_cons, List.not_mem_nil, or_false] at q ⊢
            omega))) (fun q => hb (Or.inl (by
            simp only [List.mem_cons, List.not_mem_nil, or_false] at q ⊢
            omega)))]
        · rw [R'.2.1]
          exact r5' b hb
        · exact frm 36 hsb R'.1 (by decide) (by decide)
      · omega
    · rw [if_neg h40]
      refine cV.mono (q_136 (d := d + 2) hJ R hp e7 hD (by omega)) (Nat.le_refl _) (fun u12 hu => ?_)
      obtain ⟨s1, s2, s3⟩ := hu
      intro u13 e13 u15 e15
      have t15 : sb1 u4 u15 [0, 5, 36] := by
        rw [e15, e13]
        exact sb1_wr (sb1_wr (fun b hb => s1 b (fun q => hb (by
          simp only [List.mem_cons, List.not_mem_nil, or_false] at q ⊢
          omega))) (by decide)) (by decide)
      have hs15 : sb1 u u15 [0, 5, 36, 185, 186, 187, 188, 189] := fun b hb => (t15 b (fun q => hb (by
        simp only [List.mem_cons, List.not_mem_nil, or_false] at q ⊢
        omega))).trans (hsb4 b hb)
      have f5 : u15.1 5 = wlF (aS (fM u 60) (fM u 62) i).2.1 (aS (fM u 60) (fM u 62) i).2.2.1 n p (u4.1 5) := by
        rw [e15, e13, wr_ne (by decide), wr_ne (by decide)]
        exact s3
      have f0 : u15.1 0 2 = n := by
        rw [e15, e13, wr_ne (by decide), wr_self]
      have f0' : ∀ j, j ≠ 2 → u15.1 0 j = u.1 0 j := by
        intro j hj
        rw [e15, e13, wr_ne (by decide), wr_1, if_neg (fun q => hj q.2), s1 0 (by decide), hsb 0 (by decide)]
      have f36 : u15.1 36 16 = 0 := by
        rw [e15, wr_self]
      have f36' : ∀ j, j ≠ 16 → u15.1 36 j = u.1 36 j := by
        intro j hj
        rw [e15, e13, wr_1, if_neg (fun q => hj q.2), wr_ne (by decide), s1 36 (by decide), hsb 36 (by decide)]
      have f2 : u15.2 = u4.2 := by
        rw [e15, e13, wr_2, wr_2, s2]
      refine hrest hs15 (fun u' hn => by rw [hp] at hn; cases hn) (fun p' u' hp' R' => ?_)
      rw [hp] at hp'
      have e : p = p' := Option.some.inj hp'
      rw [← e]
      refine l_267 (d := d + 2) hJ R' hp (fun q => ?_) (fun q u2 z1 z2 z3 z4 => ?_)
      · omega
      · rw [hD] at z3 z4 ⊢
        have w5 : u2.1 5 = u15.1 5 := by rw [z1 5 (by decide), R'.1 5 (by decide)]
        refine ⟨rfl, ⟨n, by omega, ?_, ?_, fun k hk => ?_⟩, fun b j hb => ?_, fun b hb => ?_, Or.inr ?_⟩
        · rw [z1 0 (by decide), R'.1 0 (by decide)]
          exact f0
        · rw [z3]
          exact wr_self
        · rw [w5, f5, z4, wlF_lt n p _ (u4.1 5) k (by omega) (by omega)]
          have := wlF_r hJ n p (u4.1 5) k hP.1 hP.2.1 hp9 hD (by omega) (by omega)
          exact ⟨rfl, this.1, this.2⟩
        · by_cases hb0 : b = 0
          · rw [hb0] at hb ⊢
            rw [z1 0 (by decide), R'.1 0 (by decide)]
            exact f0' j (fun q => hb (Or.inr (Or.inl ⟨rfl, q⟩)))
          · by_cases hb36 : b = 36
            · rw [hb36] at hb ⊢
              rw [z1 36 (by decide), R'.1 36 (by decide)]
              exact f36' j (fun q => hb (Or.inr (Or.inr (Or.inl ⟨rfl, q⟩))))
            · have hR : b ∉ [321, 322, 323] := fun q => hb (Or.inl (by
                simp only [List.mem_cons, List.not_mem_nil, or_false] at q ⊢
                omega))
              have h15 : b ∉ [0, 5, 36, 185, 186, 187, 188, 189] := fun q => by
                simp only [List.mem_cons, List.not_mem_nil, or_false] at q
                refine hb (Or.inl ?_)
                simp only [List.mem_cons, List.not_mem_nil, or_false]
                omega
              by_cases hb271 : b = 271
              · rw [hb271] at hb ⊢
                rw [z3, wr_1, if_neg (fun q => hb (Or.inr (Or.inr (Or.inr ⟨rfl, q.2⟩)))), R'.1 271 (by decide), hs15 271 (by decide)]
              · have h2 : b ∉ [271, 273] := fun q => by
                  simp only [List.mem_cons, List.not_mem_nil, or_false] at q
                  refine hb (Or.inl ?_)
                  simp only [List.mem_cons, List.not_mem_nil, or_false]
                  omega
                rw [z1 b h2, R'.1 b hR, hs15 b h15]
        · rw [z2, R'.2.1, f2]
          exact r5' b hb
        · rw [z1 36 (by decide), R'.1 36 (by decide)]
          exact f36
  · rw [e1]
    refine ⟨⟨by omega, by omega⟩, ?_⟩
    rw [if_pos rfl]
    refine hrest hsb4 (fun u' hn' R' => ?_) (fun p' u' hp' R' => by rw [hn] at hp'; cases hp')
    refine ⟨rfl, ?_, fun b j hb => ?_, fun b hb => ?_, Or.inl ?_⟩
    · obtain ⟨k, k1, k2, k3, k4⟩ := hW
      refine ⟨k, k1, ?_, ?_, fun i hi => ?_⟩
      · rw [frm 0 hsb R'.1 (by decide) (by decide)]
        exact k2
      · rw [frm 271 hsb R'.1 (by decide) (by decide)]
        exact k3
      · rw [frm 273 hsb R'.1 (by decide) (by decide), frm 5 hsb R'.1 (by decide) (by decide)]
        exact k4 i hi
    · rw [frm b hsb R'.1 (fun q => hb (Or.inl (by
        simp only [List.mem_cons, List.not_mem_nil, or_false] at q ⊢
        omega))) (fun q => hb (Or.inl (by
        simp only [List.mem_cons, List.not_mem_nil, or_false] at q ⊢
        omega)))]
    · rw [R'.2.1]
      exact r5' b hb
    · exact frm 36 hsb R'.1 (by decide) (by decide)
