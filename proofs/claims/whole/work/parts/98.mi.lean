/-! One side's writing of the least machine -/
def WF (l1 : Nat) (u u' : uS) : Prop := u'.2 = u.2 ∧ ∀ b : Nat, b ∉ [76, 77, l1, l1 + 1] → u'.1 b = u.1 b
theorem WF_wr {l1 : Nat} {u v : uS} {a : Nat} {i y : Int} (ha : a ∈ [76, 77, l1, l1 + 1]) (h : WF l1 u v) : WF l1 u (wr v a i y) := ⟨h.1, fun b hb => by
  rw [wr_ne (fun e => hb (by rw [e]; exact ha))]
  exact h.2 b hb⟩
/-- where the writing stands: steps up to i, last states up to R -/
def WI (gd : Nat → Bool) (x : Int → Int) (P : Nat) (gr : Nat → Nat) (l1 : Nat) (u v : uS) (i R : Nat) : Prop := WF l1 u v ∧ plL (fun a _ c => ((cnr gd x P (nxt x a.toNat c.toNat) : Nat), 0)) (cnr gd x P 0 : Nat) 0 i ∧ (∀ s : Nat, s < (nuG gd x P i).1 → 0 ≤ v.1 77 s ∧ v.1 77 s < P ∧ nE gd x (v.1 77 s).toNat ((nuG gd x P i).2.1 s).toNat) ∧ (∀ p : Nat, p < P → v.1 76 (gr p : Nat) = if fdk (nuG gd x P i).2.1 (nuG gd x P i).2.2.1 (cnr gd x P p : Nat) 0 (nuG gd x P i).1 < (nuG gd x P i).1 then ((fdk (nuG gd x P i).2.1 (nuG gd x P i).2.2.1 (cnr gd x P p : Nat) 0 (nuG gd x P i).1 : Nat) : Int) else -1) ∧ (∀ j : Nat, j < i → v.1 (l1 + 1) j = (nuG gd x P i).2.2.2 j) ∧ rL (v.1 l1 1) ∧ ∀ t : Nat, bt (v.1 l1 1) t = (decide (t < R) && gd ((nuG gd x P i).2.1 t).toNat)
def WR (gd : Nat → Bool) (x : Int → Int) (P : Nat) (l1 : Nat) (u u' : uS) : Prop := WF l1 u u' ∧ ∃ i : Nat, nuE gd x P i ∧ okM (nuM gd x P i) ∧ cMa u' l1 (nuM gd x P i)
theorem nuM_ok {gd : Nat → Bool} {x : Int → Int} {P n : Nat} {gr : Nat → Nat} {i : Nat} (hP : 0 < P) (hx : ∀ p c, p < P → c < 10 → nxt x p c < P) (hF : FPt gd x P gr n) (hi : nuE gd x P i) : okM (nuM gd x P i) := by
  have hle := nuG_le hP hx hF i
  have h40 := hF.1
  refine ⟨plG_pos i, Nat.le_trans hle h40, fun s c hs c0 c1 => ?_, fun t ht => ?_⟩
  · have hs1 := hs.1
    have hs2 : s < ((nuG gd x P i).1 : Nat) := hs.2
    have e : i = 10 * (nuG gd x P i).1 := hi.2
    obtain ⟨q, q1, q2, -⟩ := plL_x hi.1 (j := (10 * s + c).toNat) (by omega)
    show iR (nuG gd x P i).1 ((nuG gd x P i).2.2.2 (10 * s + c))
    rw [show (((10 * s + c).toNat : Nat) : Int) = 10 * s + c by omega] at q2
    have q2 : (nuG gd x P i).2.2.2 (10 * s + c) = q := q2
    have q1 : q < (nuG gd x P i).1 := q1
    rw [q2]
    exact ⟨by omega, by omega⟩
  · have ht : (decide (t < (nuG gd x P i).1) && gd ((nuG gd x P i).2.1 (t : Nat)).toNat) = true := ht
    rw [Bool.and_eq_true, decide_eq_true_eq] at ht
    exact ht.1
set_option maxRecDepth 4000 in
theorem r_85 {d P n l1 : Nat} {gd : Nat → Bool} {x : Int → Int} {gr : Nat → Nat} {u : uS} (hO : isO l1 5) (h77 : 77 < l1) (hx : DV u P x) (hF : FPt gd x P gr n) (hg : ∀ p : Nat, p < P → u.1 73 p = gr p ∧ u.1 72 p = b2 (gd p)) {i : Nat} (hi : i % 10 = 0) (H : ∀ v : uS, i / 10 < (nuG gd x P i).1 → WI gd x P gr l1 u v i (i / 10 + 1) → K_85 (d + 2) 81 [.ref 64, .ref l1, iV ((nuG gd x P i).1 : Nat), iV ((i / 10 : Nat) : Int), iV ((i % 10 : Nat) : Int), .retAddr 0] [] v (WR gd x P l1 u)) {v : uS} (hv : WI gd x P gr l1 u v i (i / 10)) (hle : i / 10 ≤ (nuG gd x P i).1) : K_85 (d + 2) 41 [.ref 64, .ref l1, iV ((nuG gd x P i).1 : Nat), iV ((i / 10 : Nat) : Int), .retAddr 0, .retAddr 0] [] v (WR gd x P l1 u) := by
  have hN := nuG_le (by have := hx.1; omega) (DV_n hx) hF i
  have h40 := hF.1
  obtain ⟨v1, v2, v3, v4, v5, v6, v7⟩ := id hv
  refine k_85_41 hO ⟨⟨by omega, by omega⟩, ⟨by omega, by omega⟩, ?_⟩
  by_cases c : ((i / 10 : Nat) : Int) < ((nuG gd x P i).1 : Nat)
  · rw [if_pos c, if_pos (by omega)]
    have cs : i / 10 < (nuG gd x P i).1 := by omega
    obtain ⟨s1, s2, s3⟩ := v3 (i / 10) cs
    have h72 : v.1 72 (v.1 77 ((i / 10 : Nat) : Int)) = b2 (gd ((nuG gd x P i).2.1 ((i / 10 : Nat) : Int)).toNat) := by
      have e : (((v.1 77 ((i / 10 : Nat) : Int)).toNat : Nat) : Int) = v.1 77 ((i / 10 : Nat) : Int) := by omega
      rw [v1.2 72 (by simp only [List.mem_cons, List.not_mem_nil, or_false, not_or]; omega), ← e, (hg _ (by omega)).2, nE_gd s3]
    rw [h72]
    have P2 := hx.2.1
    refine ⟨by omega, s1, by omega, by have := b2_r (gd ((nuG gd x P i).2.1 ((i / 10 : Nat) : Int)).toNat); exact ⟨by omega, by omega⟩, ?_⟩
    cases hgd : gd ((nuG gd x P i).2.1 ((i / 10 : Nat) : Int)).toNat with
    | false =>
      rw [if_pos b2f]
      have h0 := H v cs ⟨v1, v2, v3, v4, v5, v6, fun t => ?_⟩
      · rw [hi] at h0
        exact h0
      · rw [v7 t]
        by_cases ct : t = i / 10
        · rw [ct, hgd, Bool.and_false, Bool.and_false]
        · have : decide (t < i / 10) = decide (t < i / 10 + 1) := by
            by_cases c3 : t < i / 10
            · rw [decide_eq_true c3, decide_eq_true (show t < i / 10 + 1 by omega)]
            · rw [decide_eq_false c3, decide_eq_false (show ¬ t < i / 10 + 1 by omega)]
          rw [this]
    | true =>
      rw [if_neg (by decide)]
      intro u10 e10
      have hoth : ∀ b : Nat, b ≠ l1 → u10.1 b = v.1 b := fun b hb => by rw [e10, wr_ne hb]
      have h1 : u10.1 l1 1 = lor (v.1 l1 1) (lshl 1 ((i / 10 : Nat) : Int)) := by rw [e10, wr_self]
      have h0 := H u10 cs ⟨by rw [e10]; exact WF_wr (by simp) v1, v2, fun s hs => ?_, fun p hp => ?_, fun j hj => ?_, by rw [h1]; exact rl_lor _ _, fun t => ?_⟩
      · rw [hi] at h0
        exact h0
      · rw [hoth 77 (by omega)]; exact v3 s hs
      · rw [hoth 76 (by omega)]; exact v4 p hp
      · rw [hoth (l1 + 1) (by omega)]; exact v5 j hj
      · rw [h1, bt_lor, v7 t, bt_bit (by omega) (by omega), show (((i / 10 : Nat) : Int)).toNat = i / 10 by omega]
        by_cases ct : t = i / 10
        · rw [decide_eq_true ct, Bool.or_true, ct, hgd, decide_eq_true (show i / 10 < i / 10 + 1 by omega)]
          rfl
        · rw [decide_eq_false ct, Bool.or_false]
          have : decide (t < i / 10) = decide (t < i / 10 + 1) := by
            by_cases c3 : t < i / 10
            · rw [decide_eq_true c3, decide_eq_true (show t < i / 10 + 1 by omega)]
            · rw [decide_eq_false c3, decide_eq_false (show ¬ t < i / 10 + 1 by omega)]
          rw [this]
  · rw [if_neg c]
    intro u14 e14
    have ei : i / 10 = (nuG gd x P i).1 := by omega
    have hE : nuE gd x P i := ⟨v2, by show i = 10 * (nuG gd x P i).1; omega⟩
    refine ⟨by rw [e14]; exact WF_wr (by simp) v1, i, hE, nuM_ok (by have := hx.1; omega) (DV_n hx) hF hE, by rw [e14, wr_self]; rfl, fun s c' hs c0 c1 => ?_, ?_, fun t => ?_⟩
    · have hs1 := hs.1
      have hs2 : s < ((nuG gd x P i).1 : Nat) := hs.2
      rw [e14, wr_ne (by omega)]
      have := v5 (10 * s + c').toNat (by omega)
      rw [show (((10 * s + c').toNat : Nat) : Int) = 10 * s + c' by omega] at this
      rw [show s * 10 + c' = 10 * s + c' by omega]
      exact this
    · rw [e14, wr_1, if_neg (by omega)]; exact v6
    · rw [e14, wr_1, if_neg (by omega), v7 t, ei]
      rfl
set_option maxRecDepth 4000 in
theorem l_85 {d P n l1 : Nat} {gd : Nat → Bool} {x : Int → Int} {gr : Nat → Nat} {u : uS} (hO : isO l1 5) (h77 : 77 < l1) (hx : DV u P x) (hF : FPt gd x P gr n) (hg : ∀ p : Nat, p < P → u.1 73 p = gr p ∧ u.1 72 p = b2 (gd p)) : ∀ (m i : Nat) (v : uS), i + m = 400 → i / 10 < (nuG gd x P i).1 → WI gd x P gr l1 u v i (i / 10 + 1) → K_85 (d + 2) 81 [.ref 64, .ref l1, iV ((nuG gd x P i).1 : Nat), iV ((i / 10 : Nat) : Int), iV ((i % 10 : Nat) : Int), .retAddr 0] [] v (WR gd x P l1 u) := by
  have h40 := hF.1
  have hNle : ∀ i, (nuG gd x P i).1 ≤ n := nuG_le (by have := hx.1; omega) (DV_n hx) hF
  intro m
  induction m with
  | zero =>
    intro i v hi h1 hv
    have := hNle i
    omega
  | succ m ih =>
    intro i v hi h1 hv
    obtain ⟨v1, v2, v3, v4, v5, v6, v7⟩ := id hv
    obtain ⟨s1, s2, s3⟩ := v3 (i / 10) h1
    have P2 := hx.2.1
    have hc : i % 10 < 10 := by omega
    obtain ⟨sp, hsp⟩ : ∃ sp : Nat, v.1 77 ((i / 10 : Nat) : Int) = sp := ⟨(v.1 77 ((i / 10 : Nat) : Int)).toNat, by omega⟩
    have hspP : sp < P := by omega
    have e69 : v.1 69 ((sp : Int) * 10 + ((i % 10 : Nat) : Int)) = (nxt x sp (i % 10) : Nat) := by
      rw [v1.2 69 (by simp only [List.mem_cons, List.not_mem_nil, or_false, not_or]; omega)]
      exact DV_x hx hspP hc
    have npl := DV_n hx sp (i % 10) hspP hc
    have e73 : v.1 73 (nxt x sp (i % 10) : Nat) = (gr (nxt x sp (i % 10)) : Nat) := by
      rw [v1.2 73 (by simp only [List.mem_cons, List.not_mem_nil, or_false, not_or]; omega)]
      exact (hg _ npl).1
    have hgr := hF.2.1.1 _ npl
    rw [hsp] at s3
    have s3 : nE gd x sp ((nuG gd x P i).2.1 ((i / 10 : Nat) : Int)).toNat := by
      rw [Int.toNat_natCast] at s3
      exact s3
    have hkey : cnr gd x P (nxt x sp (i % 10)) = cnr gd x P (nxt x ((nuG gd x P i).2.1 ((i / 10 : Nat) : Int)).toNat (i % 10)) := cnr_eq (nE_go s3 hc)
    -- the next of the numbering
    have hS : nuG gd x P (i + 1) = plS (fun a _ c => ((cnr gd x P (nxt x a.toNat c.toNat) : Nat), 0)) i (nuG gd x P i) := rfl
    unfold plS plA at hS
    simp only at hS
    rw [Int.toNat_natCast, ← hkey] at hS
    generalize hpl : nxt x sp (i % 10) = pl at *
    generalize hq : fdk (nuG gd x P i).2.1 (nuG gd x P i).2.2.1 (cnr gd x P pl : Nat) 0 (nuG gd x P i).1 = q at hS
    have hql : q ≤ (nuG gd x P i).1 := by rw [← hq]; exact fdk_le _ _ _ _ _
    have eN : (nuG gd x P (i + 1)).1 = max (nuG gd x P i).1 (q + 1) := by rw [hS]
    have eF : (nuG gd x P (i + 1)).2.1 = uf (nuG gd x P i).2.1 (q : Nat) (cnr gd x P pl : Nat) := by rw [hS]
    have eG : (nuG gd x P (i + 1)).2.2.1 = uf (nuG gd x P i).2.2.1 (q : Nat) 0 := by rw [hS]
    have eX : (nuG gd x P (i + 1)).2.2.2 = uf (nuG gd x P i).2.2.2 (i : Int) (q : Nat) := by rw [hS]
    have hN1 := hNle (i + 1)
    have hL : plL (fun a _ c => ((cnr gd x P (nxt x a.toNat c.toNat) : Nat), 0)) (cnr gd x P 0 : Nat) 0 (i + 1) := plL_s v2 h1 (by
      have h : (nuG gd x P (i + 1)).1 ≤ n := hN1
      exact Nat.le_trans h (by omega))
    have v4p := v4 pl npl
    rw [hq] at v4p
    have ej : ((i / 10 : Nat) : Int) * 10 + ((i % 10 : Nat) : Int) = (i : Int) := by omega
    -- behind the step
    have next : ∀ w : uS, WI gd x P gr l1 u w (i + 1) (i / 10 + 1) → K_85 (d + 2) 81 [.ref 64, .ref l1, iV ((nuG gd x P (i + 1)).1 : Nat), iV ((i / 10 : Nat) : Int), iV (((i % 10 : Nat) : Int) + 1), .retAddr 0] [] w (WR gd x P l1 u) := by
      intro w hw
      by_cases c9 : i % 10 = 9
      · refine k_85_81 hO ⟨⟨by omega, by omega⟩, ?_⟩
        rw [if_neg (by omega)]
        have e1 : (i + 1) / 10 = i / 10 + 1 := by omega
        have hw' : WI gd x P gr l1 u w (i + 1) ((i + 1) / 10) := by rw [e1]; exact hw
        have h0 := r_85 (d := d) hO h77 hx hF hg (i := i + 1) (by omega) (fun v' h1' h2' => ih (i + 1) v' (by omega) h1' h2') hw' (by rw [eN]; omega)
        rw [e1] at h0
        exact h0
      · have e1 : (i + 1) / 10 = i / 10 := by omega
        have h0 := ih (i + 1) w (by omega) (by rw [eN]; omega) (by rw [e1]; exact hw)
        rw [e1, show (i + 1) % 10 = i % 10 + 1 by omega] at h0
        exact h0
    refine k_85_81 hO ⟨⟨by omega, by omega⟩, ?_⟩
    rw [if_pos (by omega), hsp, e69, e73, v4p, ej]
    refine ⟨by omega, by omega, by omega, by omega, by omega, by omega, by omega, by omega, by split <;> exact ⟨by omega, by omega⟩, ?_⟩
    by_cases cq : q < (nuG gd x P i).1
    · -- known already
      rw [if_pos cq, if_neg (by omega)]
      refine ⟨by omega, by omega, fun u27 e27 => ?_⟩
      have hhit := fdk_hit (f := (nuG gd x P i).2.1) (g := (nuG gd x P i).2.2.1) (a := (cnr gd x P pl : Nat)) (b := 0) (n := (nuG gd x P i).1) (by rw [hq]; exact cq)
      rw [hq] at hhit
      rw [uf_same hhit.1] at eF
      rw [uf_same hhit.2] at eG
      have eN' : (nuG gd x P (i + 1)).1 = (nuG gd x P i).1 := by rw [eN]; omega
      have hoth : ∀ b : Nat, b ≠ l1 + 1 → u27.1 b = v.1 b := fun b hb => by rw [e27, wr_ne hb]
      have h0 := next u27 ⟨by rw [e27]; exact WF_wr (by simp) v1, hL, ?_, ?_, fun j hj => ?_, by rw [hoth l1 (by omega)]; exact v6, ?_⟩
      · rw [eN'] at h0
        exact h0
      · rw [eN', eF, hoth 77 (by omega)]; exact v3
      · rw [eN', eF, eG, hoth 76 (by omega)]; exact v4
      · rw [e27, wr_uf, eX]
        by_cases e : j = i
        · rw [e, uf_eq, uf_eq]
        · rw [uf_ne (by omega), uf_ne (by omega)]; exact v5 j (by omega)
      · rw [eF, hoth l1 (by omega)]; exact v7
    · -- new
      have eq : q = (nuG gd x P i).1 := by omega
      rw [if_neg cq, if_pos (by omega)]
      rw [eq] at eN eF eG eX
      have eN' : (nuG gd x P (i + 1)).1 = (nuG gd x P i).1 + 1 := by rw [eN]; omega
      intro u13 e13
      refine ⟨by omega, by omega, fun u17 e17 => ?_⟩
      have k73 : u17.1 73 (pl : Nat) = (gr pl : Nat) := by
        rw [e17, wr_ne (by decide), e13, wr_ne (by decide)]
        exact e73
      have k76 : u17.1 76 (gr pl : Nat) = ((nuG gd x P i).1 : Nat) := by rw [e17, wr_ne (by decide), e13, wr_self]
      rw [k73, k76]
      refine ⟨by omega, by omega, by omega, by omega, fun u23 e23 => ?_⟩
      have h76 : u23.1 76 = uf (v.1 76) (gr pl : Nat) ((nuG gd x P i).1 : Nat) := by rw [e23, wr_ne (by omega), e17, wr_ne (by decide), e13, wr_uf]
      have h77' : u23.1 77 = uf (v.1 77) ((nuG gd x P i).1 : Nat) (pl : Nat) := by rw [e23, wr_ne (by omega), e17, wr_uf, e13, wr_ne (by decide)]
      have hl1 : u23.1 l1 = v.1 l1 := by rw [e23, wr_ne (by omega), e17, wr_ne (by omega), e13, wr_ne (by omega)]
      have h0 := next u23 ⟨by rw [e23, e17, e13]; exact WF_wr (by simp) (WF_wr (by simp) (WF_wr (by simp) v1)), hL, fun s hs => ?_, fun p hp => ?_, fun j hj => ?_, by rw [hl1]; exact v6, fun t => ?_⟩
      · rw [eN'] at h0
        exact h0
      · rw [eF, h77']
        by_cases e : s = (nuG gd x P i).1
        · rw [e, uf_eq, uf_eq, Int.toNat_natCast, Int.toNat_natCast]
          exact ⟨by omega, by omega, nE_symm (cnr_spec gd x npl).2⟩
        · rw [uf_ne (by omega), uf_ne (by omega)]
          exact v3 s (by omega)
      · rw [h76, eN', eF, eG]
        have hstep : fdk (uf (nuG gd x P i).2.1 ((nuG gd x P i).1 : Nat) (cnr gd x P pl : Nat)) (uf (nuG gd x P i).2.2.1 ((nuG gd x P i).1 : Nat) 0) (cnr gd x P p : Nat) 0 ((nuG gd x P i).1 + 1) = if fdk (nuG gd x P i).2.1 (nuG gd x P i).2.2.1 (cnr gd x P p : Nat) 0 (nuG gd x P i).1 < (nuG gd x P i).1 then fdk (nuG gd x P i).2.1 (nuG gd x P i).2.2.1 (cnr gd x P p : Nat) 0 (nuG gd x P i).1 else if cnr gd x P pl = cnr gd x P p then (nuG gd x P i).1 else (nuG gd x P i).1 + 1 := by
          simp only [fdk]
          rw [fdk_congr (f := (nuG gd x P i).2.1) (g := (nuG gd x P i).2.2.1) (fun q hq => ⟨uf_ne (by omega), uf_ne (by omega)⟩), uf_eq, uf_eq]
          split
          · rfl
          · by_cases ce : cnr gd x P pl = cnr gd x P p
            · rw [if_pos ce, if_pos ⟨by rw [ce], rfl⟩]
            · rw [if_neg ce, if_neg (fun hh => ce (by have := hh.1; omega))]
        rw [hstep]
        have v4p' := v4 p hp
        by_cases ce : cnr gd x P pl = cnr gd x P p
        · have eg : gr p = gr pl := (hF.2.2 p pl hp npl).mpr (nE_symm ((cnr_iff npl hp).mp ce))
          have hin : (if fdk (nuG gd x P i).2.1 (nuG gd x P i).2.2.1 (cnr gd x P p : Nat) 0 (nuG gd x P i).1 < (nuG gd x P i).1 then fdk (nuG gd x P i).2.1 (nuG gd x P i).2.2.1 (cnr gd x P p : Nat) 0 (nuG gd x P i).1 else if cnr gd x P pl = cnr gd x P p then (nuG gd x P i).1 else (nuG gd x P i).1 + 1) = (nuG gd x P i).1 := by
            rw [← ce, hq, eq, if_neg (Nat.lt_irrefl _), if_pos rfl]
          rw [hin, eg, uf_eq, if_pos (by omega)]
        · have eg : gr p ≠ gr pl := fun e => ce (cnr_eq (nE_symm ((hF.2.2 p pl hp npl).mp e)))
          rw [uf_ne (by omega), v4p', if_neg ce]
          split
          · rw [if_pos (by omega)]
          · rw [if_neg (by omega)]
      · rw [e23, wr_uf, eX]
        by_cases e : j = i
        · rw [e, uf_eq, uf_eq]
        · rw [uf_ne (by omega), uf_ne (by omega), e17, wr_ne (by omega), e13, wr_ne (by omega)]
          exact v5 j (by omega)
      · rw [hl1, v7 t, eF]
        by_cases ct : t < i / 10 + 1
        · rw [uf_ne (by omega)]
        · rw [decide_eq_false ct, Bool.false_and, Bool.false_and]
set_option maxRecDepth 4000 in
theorem q_85 {d P n l1 : Nat} {gd : Nat → Bool} {x : Int → Int} {gr : Nat → Nat} {u : uS} (hO : isO l1 5) (h77 : 77 < l1) (hx : DV u P x) (hF : FPt gd x P gr n) (h14 : u.1 64 14 = n) (hg : ∀ p : Nat, p < P → u.1 73 p = gr p ∧ u.1 72 p = b2 (gd p)) : cV (d + 3) 85 [.ref 64, .ref l1] u (WR gd x P l1 u) := by
  have P1 := hx.1
  have h40 := hF.1
  have g0 := hF.2.1.1 0 (by omega)
  refine e_85 hO ⟨by omega, by omega, fun u3 e3 => ?_⟩
  have hoth3 : ∀ b : Nat, b ≠ 76 → u3.1 b = u.1 b := by
    intro b hb
    rw [e3]
    funext j
    show (if b = 76 ∧ _ then _ else _) = _
    rw [if_neg (fun hh => hb hh.1)]
  have k73 : u3.1 73 0 = (gr 0 : Nat) := by rw [hoth3 73 (by decide)]; exact (hg 0 (by omega)).1
  rw [k73]
  refine ⟨by omega, by omega, fun u7 e7 u9 e9 u11 e11 => ?_⟩
  have h76 : u11.1 76 = uf (u3.1 76) (gr 0 : Nat) 0 := by rw [e11, wr_ne (by omega), e9, wr_ne (by decide), e7, wr_uf]
  have hs := cnr_spec gd x (P := P) (p := 0) (by omega)
  have h0 := r_85 (d := d) (i := 0) (v := u11) hO h77 hx hF hg rfl (fun v' a b => l_85 hO h77 hx hF hg 400 0 v' (by omega) a b) ⟨?_, plL_0, fun s hs' => ?_, fun p hp => ?_, fun j hj => absurd hj (Nat.not_lt_zero j), ?_, fun t => ?_⟩ (Nat.zero_le _)
  · exact h0
  · rw [e11, e9, e7]
    refine WF_wr (by simp) (WF_wr (by simp) (WF_wr (by simp) ⟨by rw [e3]; rfl, fun b hb => hoth3 b (fun e => hb (by rw [e]; simp))⟩))
  · have hs' : s < 1 := hs'
    have e0 : s = 0 := by omega
    have h77' : u11.1 77 0 = 0 := by rw [e11, wr_ne (by omega), e9, wr_self]
    rw [e0]
    show 0 ≤ u11.1 77 0 ∧ u11.1 77 0 < P ∧ nE gd x (u11.1 77 0).toNat ((cnr gd x P 0 : Nat) : Int).toNat
    rw [h77', Int.toNat_natCast]
    exact ⟨by omega, by omega, nE_symm hs.2⟩
  · rw [h76]
    show _ = if fdk (fun _ => ((cnr gd x P 0 : Nat) : Int)) (fun _ => 0) (cnr gd x P p : Nat) 0 1 < 1 then _ else _
    have hfd : fdk (fun _ => ((cnr gd x P 0 : Nat) : Int)) (fun _ => 0) (cnr gd x P p : Nat) 0 1 = if cnr gd x P 0 = cnr gd x P p then 0 else 1 := by
      simp only [fdk]
      by_cases ce : cnr gd x P 0 = cnr gd x P p
      · rw [if_neg (by omega), if_pos ce, if_pos ⟨by rw [ce], trivial⟩]
      · rw [if_neg (by omega), if_neg ce, if_neg (fun hh => ce (by have := hh.1; omega))]
    by_cases ce : cnr gd x P 0 = cnr gd x P p
    · have eg : gr p = gr 0 := (hF.2.2 p 0 hp (by omega)).mpr (nE_symm ((cnr_iff (by omega) hp).mp ce))
      rw [hfd, if_pos ce, if_pos (by omega), eg, uf_eq]
      show (0 : Int) = ((fdk (fun _ => ((cnr gd x P 0 : Nat) : Int)) (fun _ => 0) (cnr gd x P p : Nat) 0 1 : Nat) : Int)
      rw [hfd, if_pos ce]
      rfl
    · have eg : gr p ≠ gr 0 := fun e => ce (cnr_eq (nE_symm ((hF.2.2 p 0 hp (by omega)).mp e)))
      rw [hfd, if_neg ce, if_neg (by omega), uf_ne (by omega), e3]
      have := hF.2.1.1 p hp
      show (if (76 : Nat) = 76 ∧ (0 : Int) ≤ ((gr p : Nat) : Int) ∧ ((gr p : Nat) : Int) < u.1 64 14 then (-1 : Int) else _) = -1
      rw [if_pos ⟨rfl, by omega, by omega⟩]
  · rw [e11, wr_self]
    exact ⟨by omega, by omega⟩
  · rw [e11, wr_self, bt_0, decide_eq_false (by omega), Bool.false_and]
