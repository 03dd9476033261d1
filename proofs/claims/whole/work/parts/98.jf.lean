/-! The search: a settled triple is put behind all parts that wait for it -/
def CIk (M : Mg) (K : P3) (L H : T3) (v : uS) (r : Int) (d : Nat) (p q : Int) : Prop := ∀ c g, vl M v r d p q c g → ∀ q' c1 g1, iR (xn M) q' → stk M K L H (xy M r d) q q' c1 g1 → c + c1 < 4000000000000000000 → rc M v r (d + 1) p q' (c + c1) (max g g1)
theorem vl_sm {M : Mg} {v w : uS} {r : Int} {d : Nat} {p q c g : Int} (hs : smE M v w r d p q) (h : vl M w r d p q c g) : vl M v r d p q c g := by
  unfold vl at h ⊢
  by_cases e : d = 0
  · rw [if_pos e] at h ⊢; exact h
  · rw [if_neg e] at h ⊢
    rcases hs with z | ⟨a1, a2⟩
    · exact absurd z e
    · rw [a1, a2] at h; exact h
theorem CIk_mono {M : Mg} {K : P3} {L H : T3} {v w : uS} {r : Int} {d : Nat} {p q : Int} (hm : rcM M v w) (r0 : 0 ≤ r) (r1 : r < xr M) (hd : (d : Int) < xl M r) (hp : iR (xn M) p) (hs : smE M v w r d p q) (h : CIk M K L H v r d p q) : CIk M K L H w r d p q := fun c g hv q' c1 g1 hq' hst hlt => hm r (d + 1) p q' _ _ r0 r1 (by omega) (Or.inl (by omega)) hp hq' (h c g (vl_sm hs hv) q' c1 g1 hq' hst hlt)
theorem rc_le {M : Mg} {v : uS} {r : Int} {d : Nat} {p q c g c' g' : Int} (h : rc M v r d p q c g) (hl : c < c' ∨ c = c' ∧ g ≤ g') : rc M v r d p q c' g' := by
  unfold rc at h ⊢
  split
  · next e => rw [if_pos e] at h; omega
  · next e =>
    rw [if_neg e] at h
    rcases h with h | ⟨h1, h2⟩
    · exact Or.inl h
    · exact Or.inr ⟨h1, by omega⟩
/-- with all parts closed all ways are recorded -/
theorem all_rc {M : Mg} {mk : Nat} {L H : T3} {v : uS} (hS : LHs M L H) (hR : RIv M mk L H v) (hC : ∀ (r : Int) (d : Nat) (p q : Int), 0 ≤ r → r < xr M → (d : Int) < xl M r → iR (xn M) p → iR (xn M) q → CI M L H v r d p q) (h0 : ∀ r p : Int, 0 ≤ r → r < xr M → xl M r = 0 → iR (xn M) p → rc M v r 0 p p 0 0) {r p : Int} (r0 : 0 ≤ r) (r1 : r < xr M) (hp : iR (xn M) p) : ∀ (d : Nat) (q c g : Int), (d : Int) ≤ xl M r → iR (xn M) q → wk M (Kv M v) L H r p d q c g → c < 4000000000000000000 → (1 ≤ d ∨ xl M r = 0) → rc M v r d p q c g
  | 0, q, c, g, hd, hq, hw, hc, h1 => by
    obtain ⟨e1, e2, e3⟩ := hw
    rw [e1, e2, e3]
    exact h0 r p r0 r1 (by omega) hp
  | d + 1, q, c, g, hd, hq, ⟨o, c', g', c1, g1, ho, hw, hst, hc', hg'⟩, hc, h1 => by
    have hKF : ∀ x o b, Kv M v x o b → Fe M L x o b := fun x o b h => (hR.2.2.2.1 x o b h).1
    have b1 := wk_b hS hKF _ _ _ _ hw
    have c10 : 0 ≤ c1 := by
      unfold stk at hst
      by_cases e : xy M r d < 100
      · rw [if_pos e] at hst; omega
      · rw [if_neg e] at hst
        obtain ⟨a1, a2, a3, a4⟩ := hKF _ _ _ hst.1
        rcases hS.1 _ _ _ a1 a2 a3 with z | ⟨z1, -⟩
        · exact absurd z a4
        · have := z1.1
          have e2 := hst.2.1
          omega
    rw [hc', hg']
    by_cases hd0 : d = 0
    · rw [hd0] at hw hst ⊢
      obtain ⟨e1, e2, e3⟩ := id hw
      have hv : vl M v r 0 p o c' g' := by
        unfold vl
        rw [if_pos rfl]
        exact ⟨e1, e2, e3⟩
      exact hC r 0 p o r0 r1 (by omega) hp ho c' g' hv q c1 g1 hq hst (by omega)
    · have ih := all_rc hS hR hC h0 r0 r1 hp d o c' g' (by omega) ho hw (by omega) (Or.inl (by omega))
      have hdl : (d : Int) < xl M r := by omega
      unfold rc at ih
      rw [if_pos hdl] at ih
      have hne : v.1 250 (pcx M v r d p o) ≠ 9000000000000000000 := by omega
      have hv : vl M v r d p o (v.1 250 (pcx M v r d p o)) (v.1 251 (pcx M v r d p o)) := by
        unfold vl
        rw [if_neg hd0]
        exact ⟨rfl, rfl, hne⟩
      exact rc_le (hC r d p o r0 r1 hdl hp ho _ _ hv q c1 g1 hq hst (by omega)) (by omega)
def Ent (M : Mg) (r : Int) (d : Nat) (p q : Int) : Prop := 0 ≤ r ∧ r < xr M ∧ (d : Int) < xl M r ∧ iR (xn M) p ∧ iR (xn M) q
/-- all parts are closed, or wait for their turn -/
def Wt (M : Mg) (K : P3) (L H : T3) (D : Int → Nat → Int → Int → Prop) (z : uS) : Prop := ∀ (r : Int) (d : Nat) (p q : Int), Ent M r d p q → CI M L H z r d p q ∨ (¬ D r d p q ∧ CIk M K L H z r d p q)
theorem Wt_step {M : Mg} {K : P3} {L H : T3} {D : Int → Nat → Int → Int → Prop} {z w : uS} (hF : RF M z w) (hm : rcM M z w) (hP : P2 M L H z w) (h : Wt M K L H D z) : Wt M K L H D w := by
  intro r d p q he
  obtain ⟨r0, r1, hd, hp, hq⟩ := id he
  rcases hP r d p q r0 r1 hd hp hq with s | s
  · rcases h r d p q he with a | ⟨a1, a2⟩
    · exact Or.inl (CI_mono hF hm r0 r1 hd hp s a)
    · exact Or.inr ⟨a1, CIk_mono hm r0 r1 hd hp s a2⟩
  · exact Or.inl s
theorem q_161 {dd mk d : Nat} {M : Mg} {L H : T3} {K : P3} {D : Int → Nat → Int → Int → Prop} {v : uS} {r y a b : Int} (hmk : mk = 59 ∨ mk = 61) (hMO : isO mk 5) (hM : Mok M) (hS : LHs M L H) (hR : RIv M mk L H v) (r0 : 0 ≤ r) (r1 : r < xr M) (h1 : 1 ≤ d) (h2 : (d : Int) < xl M r) (hk : Kv M v y a b) (hsy : xy M r d = 100 + y) (hKv : ∀ x o q, Kv M v x o q → K x o q ∨ (x = y ∧ o = a ∧ q = b)) (hW : Wt M K L H D v) : cV (dd + 13) 161 [.ref 232, iV r, iV (d : Int), iV (tcx (xn M) y a b)] v (fun w => RIv M mk L H w ∧ RF M v w ∧ rcM M v w ∧ Wt M K L H D w ∧ ∀ p q, iR (xn M) p → iR (xn M) q → CI M L H w r d p q) := by
  obtain ⟨m1, m2, m3, m4, m5, m6⟩ := id hM
  obtain ⟨hx, ha, hb, -⟩ := id hk
  obtain ⟨nb1, nb2, nb3, nb4⟩ := nn_b m1 m4
  obtain ⟨b1, b2, b3, b4⟩ := tcx_b hx ha hb
  obtain ⟨d1, d2, d3, d4⟩ := tcx_d (x := y) ha hb
  obtain ⟨l1, l2, l3, l4⟩ := m5 r r0 r1
  have hfe := (hR.2.2.2.1 y a b hk).1
  have hLb : cB (L y a b) ∧ 1 ≤ H y a b ∧ H y a b ≤ 16000 := by
    rcases hS.1 y a b hx ha hb with z | z
    · exact absurd z hfe.2.2.2
    · exact z
  have hs9 : v.1 232 2 = xn M := hR.1.2.2.2.2.2.2.2.2
  generalize hQQ : (fun w : uS => RIv M mk L H w ∧ RF M v w ∧ rcM M v w ∧ Wt M K L H D w ∧ ∀ p q, iR (xn M) p → iR (xn M) q → CI M L H w r d p q) = Q
  -- what is done for a first state
  have loop : ∀ (m : Nat) (p : Int) (z : uS), 0 ≤ p → p + m = xn M → RIv M mk L H z → RF M v z → rcM M v z → Wt M K L H D z → (∀ p' q, iR (xn M) p' → p' < p → iR (xn M) q → CI M L H z r d p' q) → K_161 (dd + 12) 17 [.ref 232, iV r, iV (d : Int), iV (tcx (xn M) y a b), iV a, iV b, iV p, .retAddr 0] [] z Q := by
    intro m
    induction m with
    | zero =>
      intro p z p0 pe zR zF zm zW zc
      have z9 : z.1 232 2 = xn M := zR.1.2.2.2.2.2.2.2.2
      refine k_161_17 ⟨⟨by omega, by omega⟩, ?_⟩
      rw [z9]
      refine ⟨⟨by omega, by omega⟩, ?_⟩
      rw [if_neg (by omega), ← hQQ]
      exact ⟨zR, zF, zm, zW, fun p' q hp' hq => zc p' q hp' (by have := hp'.2; omega) hq⟩
    | succ m ih =>
      intro p z p0 pe zR zF zm zW zc
      have hpR : iR (xn M) p := ⟨p0, by omega⟩
      obtain ⟨a1, a2, a3, a4, a5, a6, a7, a8, a9⟩ := id zR
      have z9 : z.1 232 2 = xn M := a1.2.2.2.2.2.2.2.2
      obtain ⟨eK, -⟩ := RF_K zF
      have hkz : Kv M z y a b := by rw [eK]; exact hk
      obtain ⟨-, v44, v45⟩ := a4 y a b hkz
      obtain ⟨c1, c2, c3, c4⟩ := pcx_b hM a3 r0 r1 hpR ha h1 h2
      have eix : z.1 252 r + (((d : Int) - 1) * (xn M : Int) + p) * (xn M : Int) + a = pcx M z r d p a := by
        show _ = z.1 252 r + (((((d : Int) - 1) * (xn M : Int) + p) * (xn M : Int)) + a)
        omega
      have h50 := a9 r p a r0 r1 hpR ha d h1 h2
      have hKF : ∀ x o b, Kv M z x o b → Fe M L x o b := fun x o b h => (a4 x o b h).1
      -- entries at other ends don't wait for this triple
      have oth : ∀ (w : uS) (p' q : Int), Wt M K L H D w → iR (xn M) p' → iR (xn M) q → q ≠ a → RF M v w → CI M L H w r d p' q := fun w p' q hw hp' hq hne hF => by
        rcases hw r d p' q ⟨r0, r1, h2, hp', hq⟩ with e | ⟨-, e⟩
        · exact e
        · intro c g hv q' c1 g1 hq' hst hlt
          refine e c g hv q' c1 g1 hq' ?_ hlt
          unfold stk at hst ⊢
          rw [hsy, if_neg (by omega)] at hst ⊢
          refine ⟨?_, hst.2⟩
          have hh := hst.1
          rw [(RF_K hF).1] at hh
          rcases hKv _ _ _ hh with z | ⟨-, z, -⟩
          · exact z
          · exact absurd z hne
      refine k_161_17 ⟨⟨by omega, by omega⟩, ?_⟩
      rw [z9]
      refine ⟨⟨by omega, by omega⟩, ?_⟩
      rw [if_pos (by omega), eix]
      refine ⟨r0, by omega, c3, c4, ?_, ?_⟩
      · rcases h50 with z | ⟨z1, z2⟩
        · rw [z]; decide
        · have := wk_b hS hKF _ _ _ _ z1
          exact ⟨by omega, by omega⟩
      · by_cases he : z.1 250 (pcx M z r d p a) = 9000000000000000000
        · rw [if_pos he]
          refine ih (p + 1) z (by omega) (by omega) zR zF zm zW (fun p' q hp' hlt hq => ?_)
          by_cases e : p' = p
          · rw [e]
            by_cases e2 : q = a
            · rw [e2]
              intro c g hv
              unfold vl at hv
              rw [if_neg (by omega)] at hv
              exact absurd (hv.1.symm.trans he) hv.2.2
            · exact oth z p q zW hpR hq e2 zF
          · exact zc p' q hp' (by omega) hq
        · rw [if_neg he]
          obtain ⟨z1, z2⟩ : wk M (Kv M z) L H r p d a (z.1 250 (pcx M z r d p a)) (z.1 251 (pcx M z r d p a)) ∧ z.1 250 (pcx M z r d p a) < 4000000000000000000 := by
            rcases h50 with e | e
            · exact absurd e he
            · exact e
          have hb' := wk_b hS hKF _ _ _ _ z1
          generalize hc0 : z.1 250 (pcx M z r d p a) = cc at z1 z2 hb'
          generalize hg0 : z.1 251 (pcx M z r d p a) = gg at z1 hb'
          rw [v44, v45]
          refine ⟨b3, by omega, ⟨by omega, by omega⟩, ⟨by omega, by omega⟩, ?_⟩
          have hwk : wk M (Kv M z) L H r p (d + 1) b (cc + L y a b) (max gg (H y a b)) := by
            refine ⟨a, cc, gg, _, _, ha, z1, ?_, rfl, rfl⟩
            unfold stk
            rw [hsy, if_neg (by omega), show 100 + y - 100 = y by omega]
            exact ⟨hkz, rfl, rfl⟩
          have q46 := q_146 hmk hMO hM hS r0 r1 hpR (xl M r - (d + 1)).toNat dd (d + 1) z b (cc + L y a b) (max gg (H y a b)) (by omega) zR hb hwk (by have := hLb.1.2; omega)
          rw [Int.natCast_succ] at q46
          refine cV.mono q46 (by omega) (fun w ⟨y1, y2, y3, y4, y5, y6⟩ => ?_)
          have wW := Wt_step y2 y3 y4 zW
          refine ih (p + 1) w (by omega) (by omega) y1 (RF_tr zF y2) (rcM_tr zm y3) wW (fun p' q hp' hlt hq => ?_)
          by_cases e : p' = p
          · rw [e]
            by_cases e2 : q = a
            · rw [e2]
              have hsE := y5 d a (by omega) h2 ha
              rcases zW r d p a ⟨r0, r1, h2, hpR, ha⟩ with f | ⟨-, f⟩
              · exact CI_mono y2 y3 r0 r1 h2 hpR hsE f
              · have f' := CIk_mono y3 r0 r1 h2 hpR hsE f
                intro c g hv q' c1 g1 hq' hst hlt'
                by_cases e3 : q' = b
                · have hv' := vl_sm hsE hv
                  unfold vl at hv'
                  rw [if_neg (by omega), hc0, hg0] at hv'
                  unfold stk at hst
                  rw [hsy, if_neg (by omega), show 100 + y - 100 = y by omega] at hst
                  rw [e3] at hst ⊢
                  rw [← hv'.1, ← hv'.2.1, hst.2.1, hst.2.2]
                  rw [← hv'.1, hst.2.1] at hlt'
                  exact (y6 hlt').2 (Or.inl (by omega))
                · refine f' c g hv q' c1 g1 hq' ?_ hlt'
                  unfold stk at hst ⊢
                  rw [hsy, if_neg (by omega)] at hst ⊢
                  refine ⟨?_, hst.2⟩
                  have hh := hst.1
                  rw [(RF_K (RF_tr zF y2)).1] at hh
                  rcases hKv _ _ _ hh with z | ⟨-, -, z⟩
                  · exact z
                  · exact absurd z e3
            · exact oth w p q wW hpR hq e2 (RF_tr zF y2)
          · rcases y4 r d p' q r0 r1 h2 hp' hq with f | f
            · exact CI_mono y2 y3 r0 r1 h2 hp' f (zc p' q hp' (by omega) hq)
            · exact f
  refine e_161 ⟨⟨by omega, by omega⟩, ?_⟩
  rw [hs9, Int.tdiv_eq_ediv_of_nonneg b3, Int.tmod_eq_emod_of_nonneg b3, d1, d2, Int.tmod_eq_emod_of_nonneg b1, d4]
  exact ⟨⟨by omega, by omega⟩, by omega, ⟨by omega, by omega⟩, loop (xn M) 0 v (Int.le_refl 0) (by omega) hR (RF_refl v) (fun _ _ _ _ _ _ _ _ _ _ _ _ h => h) hW (fun p' q hp' hlt => by have := hp'.1; omega)⟩
def Dn (r0 : Int) (d0 : Nat) (r : Int) (d : Nat) (_ _ : Int) : Prop := r < r0 ∨ (r = r0 ∧ d < d0)
theorem q_160 {dd mk : Nat} {M : Mg} {L H : T3} {K : P3} {v : uS} {y a b : Int} (hmk : mk = 59 ∨ mk = 61) (hMO : isO mk 5) (hM : Mok M) (hS : LHs M L H) (hR : RIv M mk L H v) (hk : Kv M v y a b) (hLM : L y a b < 4000000000000000000) (hKv : ∀ x o q, Kv M v x o q → K x o q ∨ (x = y ∧ o = a ∧ q = b)) (hC : ∀ (r : Int) (d : Nat) (p q : Int), Ent M r d p q → CIk M K L H v r d p q) : cV (dd + 15) 160 [.ref 232, iV (tcx (xn M) y a b)] v (fun w => RIv M mk L H w ∧ RF M v w ∧ rcM M v w ∧ ∀ (r : Int) (d : Nat) (p q : Int), Ent M r d p q → CI M L H w r d p q) := by
  obtain ⟨m1, m2, m3, m4, m5, m6⟩ := id hM
  obtain ⟨hx, ha, hb, -⟩ := id hk
  obtain ⟨nb1, nb2, nb3, nb4⟩ := nn_b m1 m4
  obtain ⟨b1, b2, b3, b4⟩ := tcx_b hx ha hb
  obtain ⟨d1, d2, d3, d4⟩ := tcx_d (x := y) ha hb
  have hfe := (hR.2.2.2.1 y a b hk).1
  have hLb : cB (L y a b) ∧ 1 ≤ H y a b ∧ H y a b ≤ 16000 := by
    rcases hS.1 y a b hx ha hb with z | z
    · exact absurd z hfe.2.2.2
    · exact z
  have hLb0 := hLb.1.1
  have y0 := hx.1
  have y1 := hx.2
  have hs9 : v.1 232 2 = xn M := hR.1.2.2.2.2.2.2.2.2
  generalize hQQ : (fun w : uS => RIv M mk L H w ∧ RF M v w ∧ rcM M v w ∧ ∀ (r : Int) (d : Nat) (p q : Int), Ent M r d p q → CI M L H w r d p q) = Q
  have rules : ∀ (m r : Nat) (z : uS), r + m = xr M → RIv M mk L H z → RF M v z → rcM M v z → Wt M K L H (Dn r 0) z → K_160 (dd + 14) 25 [.ref 232, iV (tcx (xn M) y a b), iV (100 + y), iV a, iV b, iV (r : Int), .retAddr 0] [] z Q := by
    intro m
    induction m with
    | zero =>
      intro r z hr zR zF zm zW
      obtain ⟨s1, s2, s3, s4, s5, s6, s7, s8, s9⟩ := zR.1
      refine k_160_25 ?_
      rw [s1, s4]
      refine ⟨sx_6, ⟨by omega, by omega⟩, ⟨by omega, by omega⟩, ?_⟩
      rw [if_neg (by omega), ← hQQ]
      refine ⟨zR, zF, zm, fun r' d p q he => ?_⟩
      rcases zW r' d p q he with e | ⟨e, -⟩
      · exact e
      · exact absurd (Or.inl (by have := he.2.1; omega)) e
    | succ m ih =>
      intro r z hr zR zF zm zW
      obtain ⟨s1, s2, s3, s4, s5, s6, s7, s8, s9⟩ := zR.1
      have r0 : (0 : Int) ≤ r := by omega
      have r1 : (r : Int) < xr M := by omega
      obtain ⟨l1, l2, l3, l4⟩ := m5 r r0 r1
      refine k_160_25 ?_
      rw [s1, s4]
      refine ⟨sx_6, ⟨by omega, by omega⟩, ⟨by omega, by omega⟩, ?_⟩
      rw [if_pos (by omega)]
      have syms : ∀ (n d : Nat) (z : uS), (d : Int) + n = xl M r → RIv M mk L H z → RF M v z → rcM M v z → Wt M K L H (Dn r d) z → K_160 (dd + 14) 40 [.ref 232, iV (tcx (xn M) y a b), iV (100 + y), iV a, iV b, iV (r : Int), iV (d : Int)] [] z Q := by
        intro n
        induction n with
        | zero =>
          intro d z hd zR zF zm zW
          obtain ⟨s1, s2, s3, s4, s5, s6, s7, s8, s9⟩ := zR.1
          refine k_160_40 ?_
          rw [s1, show z.1 (6 + 3) = z.1 9 from rfl, s6]
          refine ⟨sx_6, r0, by omega, ⟨by omega, by omega⟩, ⟨by omega, by omega⟩, ?_⟩
          rw [if_neg (by omega)]
          have := ih (r + 1) z (by omega) zR zF zm (fun r' d' p q he => ?_)
          · rw [Int.natCast_succ] at this
            exact this
          · rcases zW r' d' p q he with e | ⟨e, e'⟩
            · exact Or.inl e
            · refine Or.inr ⟨fun hD => e ?_, e'⟩
              have h3 := he.2.2.1
              rcases hD with hD | hD
              · by_cases e2 : r' = r
                · rw [e2] at h3
                  exact Or.inr ⟨e2, by omega⟩
                · exact Or.inl (by omega)
              · omega
        | succ n ihn =>
          intro d z hd zR zF zm zW
          obtain ⟨s1, s2, s3, s4, s5, s6, s7, s8, s9⟩ := zR.1
          have hdl : (d : Int) < xl M r := by omega
          have hsy := l4 d (by omega) hdl
          have hkz : Kv M z y a b := by rw [(RF_K zF).1]; exact hk
          obtain ⟨-, v44, v45⟩ := zR.2.2.2.1 y a b hkz
          -- on with the next symbol
          have on : ∀ w : uS, RIv M mk L H w → RF M v w → rcM M v w → Wt M K L H (Dn r d) w → (∀ p q, iR (xn M) p → iR (xn M) q → CI M L H w r d p q) → K_160 (dd + 14) 40 [.ref 232, iV (tcx (xn M) y a b), iV (100 + y), iV a, iV b, iV (r : Int), iV ((d : Int) + 1)] [] w Q := by
            intro w wR wF wm wW wc
            have := ihn (d + 1) w (by omega) wR wF wm (fun r' d' p q he => ?_)
            · rw [Int.natCast_succ] at this
              exact this
            · by_cases e : r' = r ∧ d' = d
              · obtain ⟨-, -, -, hp, hq⟩ := he
                rw [e.1, e.2]
                exact Or.inl (wc p q hp hq)
              · rcases wW r' d' p q he with f | ⟨f, f'⟩
                · exact Or.inl f
                · refine Or.inr ⟨fun hD => f ?_, f'⟩
                  rcases hD with hD | hD
                  · exact Or.inl hD
                  · exact Or.inr ⟨hD.1, by omega⟩
          refine k_160_40 ?_
          rw [s1, show z.1 (6 + 3) = z.1 9 from rfl, show z.1 (6 + 4) = z.1 10 from rfl, s6, s7]
          refine ⟨sx_6, r0, by omega, ⟨by omega, by omega⟩, ⟨by omega, by omega⟩, ?_⟩
          rw [if_pos hdl]
          refine ⟨by omega, by omega, by rcases hsy with q | q <;> exact ⟨by omega, by omega⟩, ⟨by omega, by omega⟩, ?_⟩
          by_cases es : xy M r d = 100 + y
          · rw [if_pos es]
            by_cases ed : (d : Int) = 0
            · rw [if_pos ed, v44, v45]
              have ed' : d = 0 := by omega
              have hwk : wk M (Kv M z) L H r a 1 b (L y a b) (H y a b) := by
                refine ⟨a, 0, 0, L y a b, H y a b, ha, ⟨rfl, rfl, rfl⟩, ?_, by omega, by omega⟩
                rw [ed'] at es
                unfold stk
                rw [es, if_neg (by omega), show 100 + y - 100 = y by omega]
                exact ⟨hkz, rfl, rfl⟩
              have q46 := q_146 hmk hMO hM hS r0 r1 ha (xl M r - 1).toNat (dd + 1) 1 z b (L y a b) (H y a b) (by omega) zR hb hwk (by omega)
              refine ⟨b3, by omega, cV.mono q46 (by omega) (fun w ⟨k1, k2, k3, k4, k5, k6⟩ => ?_)⟩
              have wW := Wt_step k2 k3 k4 zW
              refine on w k1 (RF_tr zF k2) (rcM_tr zm k3) wW (fun p q hp hq => ?_)
              rw [ed'] at es ⊢
              rcases wW r d p q ⟨r0, r1, hdl, hp, hq⟩ with f | ⟨-, f⟩
              · rw [ed'] at f; exact f
              · rw [ed'] at f
                intro c g hv q' c1 g1 hq' hst hlt
                by_cases e3 : q = a ∧ q' = b
                · have hv' := hv
                  unfold vl at hv'
                  rw [if_pos rfl] at hv'
                  unfold stk at hst
                  rw [es, if_neg (by omega), show 100 + y - 100 = y by omega] at hst
                  rw [e3.1, e3.2] at hst
                  have epa : p = a := by rw [← hv'.1]; exact e3.1
                  rw [e3.2, hv'.2.1, hv'.2.2, hst.2.1, hst.2.2, epa, show (0 : Int) + L y a b = L y a b by omega, show max (0 : Int) (H y a b) = H y a b by omega]
                  exact (k6 hLM).2 (Or.inl (by omega))
                · refine f c g hv q' c1 g1 hq' ?_ hlt
                  unfold stk at hst ⊢
                  rw [es, if_neg (by omega)] at hst ⊢
                  refine ⟨?_, hst.2⟩
                  have hh := hst.1
                  rw [(RF_K (RF_tr zF k2)).1] at hh
                  rcases hKv _ _ _ hh with z | ⟨-, z1, z2⟩
                  · exact z
                  · exact absurd ⟨z1, z2⟩ e3
            · rw [if_neg ed]
              refine cV.mono (q_161 (dd := dd + 1) (D := Dn r d) hmk hMO hM hS zR r0 r1 (by omega) hdl hkz es (fun x o q h => by rw [(RF_K zF).1] at h; exact hKv x o q h) zW) (by omega) (fun w ⟨k1, k2, k3, k4, k5⟩ => ?_)
              exact on w k1 (RF_tr zF k2) (rcM_tr zm k3) k4 k5
          · rw [if_neg es]
            refine on z zR zF zm zW (fun p q hp hq => ?_)
            rcases zW r d p q ⟨r0, r1, hdl, hp, hq⟩ with f | ⟨-, f⟩
            · exact f
            · intro c g hv q' c1 g1 hq' hst hlt
              refine f c g hv q' c1 g1 hq' ?_ hlt
              unfold stk at hst ⊢
              by_cases h100 : xy M r d < 100
              · rw [if_pos h100] at hst ⊢; exact hst
              · rw [if_neg h100] at hst ⊢
                refine ⟨?_, hst.2⟩
                have hh := hst.1
                rw [(RF_K zF).1] at hh
                rcases hKv _ _ _ hh with z | ⟨z, -⟩
                · exact z
                · exact absurd (by omega) es
      exact syms (xl M r).toNat 0 z (by omega) zR zF zm zW
  refine e_160 ⟨⟨by omega, by omega⟩, ?_⟩
  rw [hs9, Int.tdiv_eq_ediv_of_nonneg b3, Int.tmod_eq_emod_of_nonneg b3, d1, d2, Int.tdiv_eq_ediv_of_nonneg b1, Int.tmod_eq_emod_of_nonneg b1, d3, d4]
  refine ⟨⟨by omega, by omega⟩, by omega, ⟨by omega, by omega⟩, rules (xr M) 0 v (by omega) hR (RF_refl v) (fun _ _ _ _ _ _ _ _ _ _ _ _ h => h) (fun r d p q he => Or.inr ⟨fun hD => ?_, hC r d p q he⟩)⟩
  have := he.1
  rcases hD with hD | hD <;> omega
