/-! The witness: below, markBelow, countNodes -/
theorem ct_onto : ∀ (m N : Nat) (p : Nat → Bool) (f : Nat → Nat), (∀ a, a < N → p a = true → ∃ i, i < m ∧ f i = a) → ct p N ≤ m
  | 0, N, p, f, h => by
    rw [ct_zero N (fun a ha => by
      cases hp : p a with
      | false => rfl
      | true =>
        obtain ⟨i, hi, -⟩ := h a ha hp
        omega)]
    exact Nat.le_refl 0
  | m + 1, N, p, f, h => by
    have ih := ct_onto m N (fun a => p a && decide (a ≠ f m)) f (fun a ha hp => by
      rw [Bool.and_eq_true, decide_eq_true_eq] at hp
      obtain ⟨i, hi, e⟩ := h a ha hp.1
      refine ⟨i, ?_, e⟩
      by_cases ei : i = m
      · rw [ei] at e
        exact absurd e.symm hp.2
      · omega)
    by_cases c : f m < N ∧ p (f m) = true
    · have := ct_upd (p := fun a => p a && decide (a ≠ f m)) (p' := p) (j := f m) N c.1 (fun i _ hne => by simp [hne]) (by simp) c.2
      omega
    · have : ct p N = ct (fun a => p a && decide (a ≠ f m)) N := ct_ext N (fun i hi => by
        constructor
        · intro hp
          rw [Bool.and_eq_true, decide_eq_true_eq]
          exact ⟨hp, fun e => c ⟨by rw [← e]; exact hi, by rw [← e]; exact hp⟩⟩
        · intro hp
          rw [Bool.and_eq_true] at hp
          exact hp.1)
      omega
theorem OD_inj {M : Mg} {L H : T3} {v : uS} {s : Nat} (h : OD M L H v s) {i j : Int} (i0 : 0 ≤ i) (hij : i < j) (hj : j < s) : v.1 246 i ≠ v.1 246 j := by
  intro e
  obtain ⟨h1, h2, h3, h4, h5⟩ := h
  have := ct_onto (s - 1) 16000 (fun a => pd (∃ x o q, Kv M v x o q ∧ (a : Int) = tcx (xn M) x o q)) (fun k => (v.1 246 (if (k : Int) < j then (k : Int) else (k : Int) + 1)).toNat) (fun a ha hp => by
    rw [pd_t] at hp
    obtain ⟨x, o, q, hk, ea⟩ := hp
    obtain ⟨l, l0, l1, l2⟩ := h4 x o q hk
    rw [← ea] at l2
    rcases Int.lt_trichotomy l j with z | z | z
    · refine ⟨l.toNat, by omega, ?_⟩
      rw [if_pos (by omega), show ((l.toNat : Nat) : Int) = l by omega, l2]
      rfl
    · refine ⟨i.toNat, by omega, ?_⟩
      rw [if_pos (by omega), show ((i.toNat : Nat) : Int) = i by omega, e, ← z, l2]
      rfl
    · refine ⟨(l - 1).toNat, by omega, ?_⟩
      rw [if_neg (by omega), show (((l - 1).toNat : Nat) : Int) + 1 = l by omega, l2]
      rfl)
  omega
theorem CH_iR {M : Mg} {L H : T3} {x p q r : Int} {S : Nat → Int} (hS : LHs M L H) (hp : iR (xn M) p) (h : CH M L H x p q r S) {k : Nat} (hk : k ≤ (xl M r).toNat) : iR (xn M) (S k) := by
  obtain ⟨a1, a2, a3, a4, a5, C, a6⟩ := h
  exact (sts_wk hS hp k (sts_mono a6 hk)).1
abbrev sbx (M : Mg) (r : Int) (S : Nat → Int) (k : Nat) : Int := tcx (xn M) (xy M r k - 100) (S k) (S (k + 1))
theorem q_172 {e mk : Nat} {M : Mg} {L H : T3} {u : uS} {x p q r : Int} {S : Nat → Int} {k : Nat} (hM : Mok M) (hS : LHs M L H) (hW : sW M mk L H u) (hx : Fe M L x p q) (hc : CHc M L H u x p q r S) (hk : k < (xl M r).toNat) : cI (e + 3) 172 [.ref 231, iV (tcx (xn M) x p q), iV (k : Int)] u (fun c w => w = u ∧ c = sbx M r S k) := by
  obtain ⟨m1, m2, m3, m4, m5, m6⟩ := id hM
  obtain ⟨nb1, nb2, nb3, nb4⟩ := nn_b m1 m4
  obtain ⟨w1, w2, w3, w4, w5, w6, w7⟩ := id hW
  obtain ⟨hr, hch, hpk⟩ := hc
  obtain ⟨r0, r1, rx, -⟩ := id hch
  obtain ⟨l1, l2, l3, l4⟩ := m5 r r0 r1
  obtain ⟨a1, a2, a3⟩ := w3 r r0 r1
  have hp := hx.2.1
  have hq := hx.2.2.1
  obtain ⟨b1, b2, b3, b4⟩ := tcx_b hx.1 hp hq
  obtain ⟨d1, d2, d3, d4⟩ := tcx_d (x := x) hp hq
  have hS0 : S 0 = p := by
    obtain ⟨_, _, _, _, _, C, hs⟩ := hch
    exact hs.1
  have hSl := sts_end hch
  have hRk := CH_iR hS hp hch (k := k) (by omega)
  have hRk1 := CH_iR hS hp hch (k := k + 1) (by omega)
  have k0 := hRk.1
  have k1 := hRk.2
  have k10 := hRk1.1
  have k11 := hRk1.2
  generalize ht : tcx (xn M) x p q = t at *
  refine e_172 ?_
  rw [hr, a2, a3 k (by omega) (by omega), w5, Int.tdiv_eq_ediv_of_nonneg b3, d1, Int.tmod_eq_emod_of_nonneg b1, d4, Int.tmod_eq_emod_of_nonneg b3, d2]
  refine ⟨b3, by omega, r0, by omega, ⟨by omega, by omega⟩, ⟨by omega, by omega⟩, ?_⟩
  have from0 : (k : Int) ≠ 0 → iand (iushr (u.1 267 t) (6 * ((k : Int) - 1))) 63 = S k := fun hk0 => by
    have := pk_get (l := (k : Int) - 1) (k := k - 1) hpk (by omega) (by omega) (by omega) (by rw [show k - 1 + 1 = k by omega]; exact k0) (by rw [show k - 1 + 1 = k by omega]; omega)
    rw [show k - 1 + 1 = k by omega] at this
    exact this
  by_cases c1 : (k : Int) = xl M r - 1
  · rw [if_pos c1]
    have eq : S (k + 1) = q := by
      rw [show k + 1 = (xl M r).toNat by omega]
      exact hSl
    refine ⟨⟨by omega, by omega⟩, ⟨by omega, by omega⟩, by omega, by omega, by omega, ?_⟩
    by_cases c2 : (k : Int) = 0
    · rw [if_pos c2]
      refine ⟨⟨by omega, by omega⟩, rfl, ?_⟩
      unfold sbx tcx
      rw [eq, show k = 0 by omega, hS0]
    · rw [if_neg c2, from0 c2]
      refine ⟨rfl, ?_⟩
      unfold sbx tcx
      rw [eq]
  · rw [if_neg c1, if_neg (by omega)]
    refine ⟨⟨by omega, by omega⟩, by omega, by omega, ?_⟩
    have to0 : iand (iushr (u.1 267 t) (6 * ((k : Int) + 1 - 1))) 63 = S (k + 1) := pk_get (l := (k : Int) + 1 - 1) (k := k) hpk (by omega) (by omega) (by omega) k10 (by omega)
    rw [to0]
    by_cases c2 : (k : Int) = 0
    · rw [if_pos c2]
      refine ⟨⟨by omega, by omega⟩, ⟨by omega, by omega⟩, by omega, ⟨by omega, by omega⟩, rfl, ?_⟩
      unfold sbx tcx
      rw [show k = 0 by omega, hS0]
    · rw [if_neg c2, from0 c2]
      exact ⟨rfl, rfl⟩
/-- where a part of a chosen triple lies -/
theorem sbx_b {M : Mg} {L H : T3} {x p q r : Int} {S : Nat → Int} (hM : Mok M) (hS : LHs M L H) (hx : Fe M L x p q) (h : CH M L H x p q r S) {k : Nat} (hk : k < (xl M r).toNat) (hy : ¬ xy M r k < 100) : 0 ≤ sbx M r S k ∧ sbx M r S k < 16000 := by
  obtain ⟨m1, m2, m3, m4, m5, m6⟩ := id hM
  obtain ⟨nb1, nb2, nb3, nb4⟩ := nn_b m1 m4
  obtain ⟨f, -, -⟩ := CH_sub hS hx h hk hy
  obtain ⟨b1, b2, b3, b4⟩ := tcx_b f.1 f.2.1 f.2.2.1
  exact ⟨b3, Int.lt_of_lt_of_le b4 nb3⟩
theorem q_171 {e mk : Nat} {M : Mg} {L H : T3} {u : uS} {x p q r : Int} {S : Nat → Int} (hmk : mk = 59 ∨ mk = 61) (hM : Mok M) (hS : LHs M L H) (hW : sW M mk L H u) (hx : Fe M L x p q) (hc : CHc M L H u x p q r S) : cV (e + 5) 171 [.ref 231, iV (tcx (xn M) x p q)] u (fun w => w.2 = u.2 ∧ sb1 u w [268] ∧ (∀ k, k < (xl M r).toNat → ¬ xy M r k < 100 → w.1 268 (sbx M r S k) = 1) ∧ ∀ t, w.1 268 t = u.1 268 t ∨ (w.1 268 t = 1 ∧ ∃ k, k < (xl M r).toNat ∧ ¬ xy M r k < 100 ∧ t = sbx M r S k)) := by
  obtain ⟨m1, m2, m3, m4, m5, m6⟩ := id hM
  obtain ⟨nb1, nb2, nb3, nb4⟩ := nn_b m1 m4
  obtain ⟨hr, hch, hpk⟩ := id hc
  obtain ⟨r0, r1, rx, -⟩ := id hch
  obtain ⟨l1, l2, l3, l4⟩ := m5 r r0 r1
  obtain ⟨b1, b2, b3, b4⟩ := tcx_b hx.1 hx.2.1 hx.2.2.1
  generalize hQQ : (fun (w : uS) => w.2 = u.2 ∧ sb1 u w [268] ∧ (∀ k, k < (xl M r).toNat → ¬ xy M r k < 100 → w.1 268 (sbx M r S k) = 1) ∧ ∀ t, w.1 268 t = u.1 268 t ∨ (w.1 268 t = 1 ∧ ∃ k, k < (xl M r).toNat ∧ ¬ xy M r k < 100 ∧ t = sbx M r S k)) = Q
  have loop : ∀ (m' m : Nat) (w : uS), m + m' = (xl M r).toNat → w.2 = u.2 → sb1 u w [268] → (∀ k, k < m → ¬ xy M r k < 100 → w.1 268 (sbx M r S k) = 1) → (∀ t, w.1 268 t = u.1 268 t ∨ (w.1 268 t = 1 ∧ ∃ k, k < (xl M r).toNat ∧ ¬ xy M r k < 100 ∧ t = sbx M r S k)) → K_171 (e + 4) 9 [.ref 231, iV (tcx (xn M) x p q), iV r, iV (m : Int)] [] w Q := by
    intro m'
    induction m' with
    | zero =>
      intro m w hm w2 ws wk wt
      have hWw : sW M mk L H w := sW_tr hmk hW w2 (sb1_sub ws (by decide))
      obtain ⟨a1, a2, a3⟩ := hWw.2.2.1 r r0 r1
      refine k_171_9 ⟨r0, by omega, ⟨by omega, by omega⟩, ?_⟩
      rw [a2]
      refine ⟨⟨by omega, by omega⟩, ?_⟩
      rw [if_neg (by omega), ← hQQ]
      exact ⟨w2, ws, fun k hk hy => wk k (by omega) hy, wt⟩
    | succ m' ih =>
      intro m w hm w2 ws wk wt
      have hWw : sW M mk L H w := sW_tr hmk hW w2 (sb1_sub ws (by decide))
      obtain ⟨a1, a2, a3⟩ := hWw.2.2.1 r r0 r1
      have hsy := l4 m (by omega) (by omega)
      have ecast : ((m + 1 : Nat) : Int) = (m : Int) + 1 := by omega
      refine k_171_9 ⟨r0, by omega, ⟨by omega, by omega⟩, ?_⟩
      rw [a2, a3 m (by omega) (by omega)]
      refine ⟨⟨by omega, by omega⟩, ?_⟩
      rw [if_pos (by omega)]
      refine ⟨by omega, by omega, ?_, ?_⟩
      · unfold symR at hsy
        exact ⟨by omega, by omega⟩
      by_cases cx : xy M r m < 100
      · rw [if_pos cx, ← ecast]
        refine ih (m + 1) w (by omega) w2 ws (fun k hk hy => ?_) wt
        by_cases ek : k = m
        · rw [ek] at hy; exact absurd cx hy
        · exact wk k (by omega) hy
      · rw [if_neg cx]
        have hcw : CHc M L H w x p q r S := by
          unfold CHc
          rw [ws 266 (by decide), ws 267 (by decide)]
          exact hc
        refine cI.mono (q_172 (e := e + 1) (k := m) hM hS hWw hx hcw (by omega)) (Nat.le_refl _) (fun c z ⟨ez, ec⟩ => ?_)
        obtain ⟨sb0, sb1'⟩ := sbx_b hM hS hx hch (k := m) (by omega) cx
        rw [ez, ec, ← ecast]
        refine ⟨sb0, sb1', fun y ey => ?_⟩
        have y68 : y.1 268 = uf (w.1 268) (sbx M r S m) 1 := by rw [ey, wr_uf]
        refine ih (m + 1) y (by omega) (by rw [ey, wr_2]; exact w2) (by rw [ey]; exact sb1_wr ws (by decide)) (fun k hk hy => ?_) (fun t => ?_)
        · rw [y68]
          by_cases et : sbx M r S k = sbx M r S m
          · rw [et, uf_eq]
          · rw [uf_ne et]
            by_cases ek : k = m
            · rw [ek] at et; exact absurd rfl et
            · exact wk k (by omega) hy
        · rw [y68]
          by_cases et : t = sbx M r S m
          · rw [et, uf_eq]
            exact Or.inr ⟨rfl, m, by omega, cx, rfl⟩
          · rw [uf_ne et]
            exact wt t
  refine e_171 ⟨b3, by omega, ?_⟩
  rw [hr]
  exact loop (xl M r).toNat 0 u (by omega) rfl (sb1_refl _ _) (fun k hk => by omega) (fun t => Or.inl rfl)
/-- the nodes of a triple, out of those of its parts -/
def nsz (M : Mg) (N : Int → Int) (r : Int) (S : Nat → Int) : Nat → Int
  | 0 => 1
  | k + 1 => if xy M r k < 100 then nsz M N r S k else sq (nsz M N r S k) (N (sbx M r S k))
theorem nsz_congr {M : Mg} {N N' : Int → Int} {r : Int} {S : Nat → Int} : ∀ k : Nat, (∀ i : Nat, i < k → ¬ xy M r i < 100 → N (sbx M r S i) = N' (sbx M r S i)) → nsz M N r S k = nsz M N' r S k
  | 0, _ => rfl
  | k + 1, h => by
    unfold nsz
    rw [nsz_congr k (fun i hi => h i (by omega))]
    by_cases e : xy M r k < 100
    · rw [if_pos e, if_pos e]
    · rw [if_neg e, if_neg e, h k (by omega) e]
theorem nsz_b {M : Mg} {N : Int → Int} {r : Int} {S : Nat → Int} : ∀ k : Nat, (∀ i : Nat, i < k → ¬ xy M r i < 100 → cB (N (sbx M r S i))) → 1 ≤ nsz M N r S k ∧ nsz M N r S k ≤ 4000000000000000000
  | 0, _ => ⟨by unfold nsz; omega, by unfold nsz; omega⟩
  | k + 1, h => by
    have ih := nsz_b k (fun i hi => h i (by omega))
    unfold nsz
    by_cases e : xy M r k < 100
    · rw [if_pos e]; exact ih
    · have hb := h k (by omega) e
      unfold cB at hb
      rw [if_neg e]
      unfold sq
      omega
theorem q_174 {e mk : Nat} {M : Mg} {L H : T3} {u : uS} {x p q r : Int} {S : Nat → Int} (hM : Mok M) (hS : LHs M L H) (hW : sW M mk L H u) (hx : Fe M L x p q) (hc : CHc M L H u x p q r S) (hN : ∀ k : Nat, k < (xl M r).toNat → ¬ xy M r k < 100 → cB (u.1 268 (sbx M r S k))) : cL (e + 5) 174 [.ref 231, iV (tcx (xn M) x p q)] u (fun c w => w = u ∧ c = nsz M (u.1 268) r S (xl M r).toNat) := by
  obtain ⟨m1, m2, m3, m4, m5, m6⟩ := id hM
  obtain ⟨nb1, nb2, nb3, nb4⟩ := nn_b m1 m4
  obtain ⟨hr, hch, hpk⟩ := id hc
  obtain ⟨r0, r1, rx, -⟩ := id hch
  obtain ⟨l1, l2, l3, l4⟩ := m5 r r0 r1
  obtain ⟨a1, a2, a3⟩ := hW.2.2.1 r r0 r1
  obtain ⟨b1, b2, b3, b4⟩ := tcx_b hx.1 hx.2.1 hx.2.2.1
  generalize hQQ : (fun (c : Int) (w : uS) => w = u ∧ c = nsz M (u.1 268) r S (xl M r).toNat) = Q
  have loop : ∀ (m' m : Nat), m + m' = (xl M r).toNat → K_174 (e + 4) 12 [.ref 231, iV (tcx (xn M) x p q), iV r, lV (nsz M (u.1 268) r S m), .retAddr 0, iV (m : Int)] [] u Q := by
    intro m'
    induction m' with
    | zero =>
      intro m hm
      refine k_174_12 ⟨r0, by omega, ⟨by omega, by omega⟩, ?_⟩
      rw [a2]
      refine ⟨⟨by omega, by omega⟩, ?_⟩
      rw [if_neg (by omega), ← hQQ, show m = (xl M r).toNat by omega]
      exact ⟨rfl, rfl⟩
    | succ m' ih =>
      intro m hm
      have hsy := l4 m (by omega) (by omega)
      have ecast : ((m + 1 : Nat) : Int) = (m : Int) + 1 := by omega
      have hb := nsz_b (N := u.1 268) (S := S) (r := r) (M := M) m (fun i hi hy => hN i (by omega) hy)
      have hn := ih (m + 1) (by omega)
      refine k_174_12 ⟨r0, by omega, ⟨by omega, by omega⟩, ?_⟩
      rw [a2, a3 m (by omega) (by omega)]
      refine ⟨⟨by omega, by omega⟩, ?_⟩
      rw [if_pos (by omega)]
      refine ⟨by omega, by omega, ?_, ?_⟩
      · unfold symR at hsy
        exact ⟨by omega, by omega⟩
      by_cases cx : xy M r m < 100
      · rw [if_pos cx, ← ecast]
        have e1 : nsz M (u.1 268) r S (m + 1) = nsz M (u.1 268) r S m := by
          show (if xy M r m < 100 then nsz M (u.1 268) r S m else sq (nsz M (u.1 268) r S m) (u.1 268 (sbx M r S m))) = _
          rw [if_pos cx]
        rw [e1] at hn
        exact hn
      · rw [if_neg cx]
        refine cI.mono (q_172 (e := e + 1) (k := m) hM hS hW hx hc (by omega)) (Nat.le_refl _) (fun c z ⟨ez, ec⟩ => ?_)
        obtain ⟨sb0, sb1'⟩ := sbx_b hM hS hx hch (k := m) (by omega) cx
        have hbm := hN m (by omega) cx
        have e1 : nsz M (u.1 268) r S (m + 1) = pl 9000000000000000000 (nsz M (u.1 268) r S m) (u.1 268 (sbx M r S m)) := by
          show (if xy M r m < 100 then nsz M (u.1 268) r S m else sq (nsz M (u.1 268) r S m) (u.1 268 (sbx M r S m))) = _
          unfold cB at hbm
          rw [if_neg cx]
          unfold pl sq
          rw [if_neg (by omega)]
        rw [ez, ec, ← ecast, ← e1]
        exact ⟨sb0, sb1', Or.inr ⟨by omega, by omega⟩, Or.inr hbm, hn⟩
  refine e_174 ⟨b3, by omega, ?_⟩
  rw [hr]
  exact loop (xl M r).toNat 0 (by omega)
