/-! node: the class -/
def nlk (M : Mg) (N : Int → Int) (r : Int) (S : Nat → Int) (k : Nat) : Int := if xy M r k < 100 then 0 else N (sbx M r S k)
def nps (M : Mg) (N : Int → Int) (r : Int) (S : Nat → Int) : Nat → Int
  | 0 => 0
  | k + 1 => nps M N r S k + nlk M N r S k
theorem nps_b {M : Mg} {N : Int → Int} {r : Int} {S : Nat → Int} : ∀ k : Nat, (∀ i : Nat, i < k → ¬ xy M r i < 100 → cB (N (sbx M r S i))) → 0 ≤ nps M N r S k ∧ nsz M N r S k = min 4000000000000000000 (1 + nps M N r S k)
  | 0, _ => ⟨by show (0 : Int) ≤ 0; omega, by show (1 : Int) = min 4000000000000000000 (1 + 0); omega⟩
  | k + 1, h => by
    obtain ⟨i1, i2⟩ := nps_b k (fun i hi => h i (by omega))
    have e1 : nps M N r S (k + 1) = nps M N r S k + nlk M N r S k := rfl
    have e2 : nsz M N r S (k + 1) = if xy M r k < 100 then nsz M N r S k else sq (nsz M N r S k) (N (sbx M r S k)) := rfl
    rw [e1, e2]
    unfold nlk
    by_cases e : xy M r k < 100
    · rw [if_pos e, if_pos e]
      exact ⟨by omega, by rw [i2]; omega⟩
    · have hb := h k (by omega) e
      unfold cB at hb
      rw [if_neg e, if_neg e, i2]
      unfold sq
      exact ⟨by omega, by omega⟩
theorem nps_ex {M : Mg} {N : Int → Int} {r i : Int} {S : Nat → Int} (i0 : 0 ≤ i) : ∀ m : Nat, i < nps M N r S m → ∃ j : Nat, j < m ∧ ¬ xy M r j < 100 ∧ (∀ l : Nat, l < j → nps M N r S (l + 1) ≤ i) ∧ i < nps M N r S (j + 1)
  | 0, h => by
    have : nps M N r S 0 = 0 := rfl
    omega
  | m + 1, h => by
    by_cases c : i < nps M N r S m
    · obtain ⟨j, j1, j2, j3, j4⟩ := nps_ex i0 m c
      exact ⟨j, by omega, j2, j3, j4⟩
    · by_cases c2 : ∃ j : Nat, j < m ∧ i < nps M N r S (j + 1)
      · obtain ⟨j, j1, j2⟩ := c2
        obtain ⟨j', k1, k2, k3, k4⟩ := nps_ex i0 (j + 1) j2
        by_cases ej : j + 1 ≤ m
        · exact ⟨j', by omega, k2, k3, k4⟩
        · omega
      · refine ⟨m, by omega, fun e => ?_, fun l hl => ?_, h⟩
        · have e1 : nps M N r S (m + 1) = nps M N r S m + nlk M N r S m := rfl
          unfold nlk at e1
          rw [if_pos e] at e1
          omega
        · rcases Int.lt_or_le i (nps M N r S (l + 1)) with z | z
          · exact absurd ⟨l, hl, z⟩ c2
          · exact z
  termination_by m => m
/-- node number k of a triple's tree, with c letters before it -/
def NA (M : Mg) (L H : T3) (N : Int → Int) : Nat → Int → Int → Int → Int → Int → Int → Int → Int → Int → Prop
  | 0 => fun _ _ _ _ _ _ _ _ _ => False
  | h + 1 => fun x p q k c x' p' q' c' => (k = 0 ∧ x' = x ∧ p' = p ∧ q' = q ∧ c' = c) ∨ (0 < k ∧ ∃ r S, ∃ j : Nat, CH M L H x p q r S ∧ j < (xl M r).toNat ∧ ¬ xy M r j < 100 ∧ (∀ l : Nat, l < j → nps M N r S (l + 1) ≤ k - 1) ∧ k - 1 < nps M N r S (j + 1) ∧ NA M L H N h (xy M r j - 100) (S j) (S (j + 1)) (k - 1 - nps M N r S j) (min 4000000000000000000 (c + psm M L r S j)) x' p' q' c')
theorem nps_S {M : Mg} {N : Int → Int} {r : Int} {S S' : Nat → Int} : ∀ k : Nat, (∀ i : Nat, i ≤ k → S i = S' i) → nps M N r S k = nps M N r S' k
  | 0, _ => rfl
  | k + 1, h => by
    unfold nps nlk sbx
    rw [nps_S k (fun i hi => h i (by omega)), h k (by omega), h (k + 1) (Nat.le_refl _)]
theorem NA_u {M : Mg} {L H : T3} {N : Int → Int} : ∀ (h h' : Nat) (x p q k c x1 p1 q1 c1 x2 p2 q2 c2 : Int), NA M L H N h x p q k c x1 p1 q1 c1 → NA M L H N h' x p q k c x2 p2 q2 c2 → x1 = x2 ∧ p1 = p2 ∧ q1 = q2 ∧ c1 = c2
  | 0, _, _, _, _, _, _, _, _, _, _, _, _, _, _, l, _ => l.elim
  | _ + 1, 0, _, _, _, _, _, _, _, _, _, _, _, _, _, _, l => l.elim
  | h + 1, h' + 1, x, p, q, k, c, x1, p1, q1, c1, x2, p2, q2, c2, a, b => by
    rcases a with ⟨a0, a1, a2, a3, a4⟩ | ⟨a0, r, S, j, e1, e2, e3, e4, e5, e6⟩
    · rcases b with ⟨b0, b1, b2, b3, b4⟩ | ⟨b0, -⟩
      · exact ⟨a1.trans b1.symm, a2.trans b2.symm, a3.trans b3.symm, a4.trans b4.symm⟩
      · omega
    · rcases b with ⟨b0, -⟩ | ⟨b0, r', S', j', d1, d2, d3, d4, d5, d6⟩
      · omega
      · obtain ⟨u1, u2⟩ := CH_uniq e1 d1
        rw [← u1] at d1 d2 d3 d4 d5 d6
        have dS : ∀ l : Nat, l ≤ (xl M r).toNat → nps M N r S' l = nps M N r S l := fun l hl => (nps_S l (fun i hi => u2 i (by omega))).symm
        have ej : j = j' := by
          rcases Nat.lt_trichotomy j j' with z | z | z
          · have := d4 j z
            rw [dS (j + 1) (by omega)] at this
            omega
          · exact z
          · have := e4 j' z
            rw [dS (j' + 1) (by omega)] at d5
            omega
        rw [← ej, dS j (by omega), ← psm_S j (fun i hi => u2 i (by omega)), ← u2 j (by omega), ← u2 (j + 1) (by omega)] at d6
        exact NA_u h h' _ _ _ _ _ _ _ _ _ _ _ _ _ e6 d6
def P9 : Int → Prop := fun j => j = 9 ∨ j = 10
theorem q_186 {e : Nat} {M : Mg} {L H : T3} {u : uS} {x p q r i c : Int} {S : Nat → Int} {j : Nat} (hM : Mok M) (hS : LHs M L H) (hV : sV M L H u) (hx : Fe M L x p q) (hc : CHc M L H u x p q r S) (hp : ∀ k : Nat, k < (xl M r).toNat → ¬ xy M r k < 100 → Kv M u (xy M r k - 100) (S k) (S (k + 1)) ∧ cB (u.1 268 (sbx M r S k))) (hj : j < (xl M r).toNat) (hjv : ¬ xy M r j < 100) (j1 : ∀ l : Nat, l < j → nps M (u.1 268) r S (l + 1) ≤ i) (j2 : i < nps M (u.1 268) r S (j + 1)) (hi : cB i) (hcb : cB c) (h9 : u.1 231 9 = i) (h10 : u.1 231 10 = c) : cI (e + 5) 186 [.ref 231, iV (tcx (xn M) x p q)] u (fun a w => a = sbx M r S j ∧ F231 u w P9 ∧ w.1 231 9 = i - nps M (u.1 268) r S j ∧ w.1 231 10 = min 4000000000000000000 (c + psm M L r S j)) := by
  obtain ⟨m1, m2, m3, m4, m5, m6⟩ := id hM
  obtain ⟨nb1, nb2, nb3, nb4⟩ := nn_b m1 m4
  obtain ⟨hr, hch, hpk⟩ := id hc
  obtain ⟨r0, r1, rx, -⟩ := id hch
  obtain ⟨l1, l2, l3, l4⟩ := m5 r r0 r1
  obtain ⟨b1, b2, b3, b4⟩ := tcx_b hx.1 hx.2.1 hx.2.2.1
  unfold cB at hi hcb
  generalize hQQ : (fun (a : Int) (w : uS) => a = sbx M r S j ∧ F231 u w P9 ∧ w.1 231 9 = i - nps M (u.1 268) r S j ∧ w.1 231 10 = min 4000000000000000000 (c + psm M L r S j)) = Q
  have loop : ∀ (k' k : Nat) (w : uS), k + k' = j → F231 u w P9 → w.1 231 9 = i - nps M (u.1 268) r S k → w.1 231 10 = min 4000000000000000000 (c + psm M L r S k) → K_186 (e + 4) 9 [.ref 231, iV (tcx (xn M) x p q), iV r, iV (k : Int), .retAddr 0] [] w Q := by
    intro k'
    induction k' with
    | zero =>
      intro k w hk wF w9 w10
      have ek : k = j := by omega
      rw [ek] at w9 w10 ⊢
      have hVw := sV_tr wF.2.1 hV
      obtain ⟨a1, a2, a3⟩ := hVw.2.1 r r0 r1
      have hsy := l4 j (by omega) (by omega)
      have hnb := (nps_b (N := u.1 268) (M := M) (r := r) (S := S) j (fun i hi hy => (hp i (by omega) hy).2)).1
      have hjl : nps M (u.1 268) r S (j + 1) = nps M (u.1 268) r S j + nlk M (u.1 268) r S j := rfl
      have hln : nlk M (u.1 268) r S j = u.1 268 (sbx M r S j) := by unfold nlk; rw [if_neg hjv]
      have hlo : nps M (u.1 268) r S j ≤ i := by
        by_cases e0 : j = 0
        · rw [e0]; exact hi.1
        · have := j1 (j - 1) (by omega)
          rw [show j - 1 + 1 = j by omega] at this
          exact this
      refine k_186_9 ⟨r0, by omega, ⟨by omega, by omega⟩, ?_⟩
      rw [a2, a3 j (by omega) (by omega)]
      refine ⟨⟨by omega, by omega⟩, ?_⟩
      rw [if_pos (by omega)]
      refine ⟨by omega, by omega, ?_, ?_⟩
      · rcases hsy with z | z <;> exact ⟨by omega, by omega⟩
      rw [if_neg hjv]
      refine cI.mono (q_172v (e := e + 1) (k := j) hM hS hVw hx (CHc_tr wF.2.1 hc) hj) (Nat.le_refl _) (fun a z ⟨ez, ea⟩ => ?_)
      obtain ⟨sb0, sb1'⟩ := sbx_b hM hS hx hch hj hjv
      obtain ⟨hkk, hcc⟩ := hp j hj hjv
      unfold cB at hcc
      rw [ez, ea, wF.2.1 268 (by decide), w9]
      refine ⟨sb0, sb1', ⟨by omega, by omega⟩, ⟨by omega, by omega⟩, ?_⟩
      rw [if_pos (by omega), ← hQQ]
      exact ⟨rfl, wF, w9, w10⟩
    | succ k' ih =>
      intro k w hk wF w9 w10
      have hVw := sV_tr wF.2.1 hV
      obtain ⟨a1, a2, a3⟩ := hVw.2.1 r r0 r1
      have hsy := l4 k (by omega) (by omega)
      have hnb := (nps_b (N := u.1 268) (M := M) (r := r) (S := S) k (fun i hi hy => (hp i (by omega) hy).2)).1
      have hup := j1 k (by omega)
      have hjl : nps M (u.1 268) r S (k + 1) = nps M (u.1 268) r S k + nlk M (u.1 268) r S k := rfl
      have hpl : psm M L r S (k + 1) = psm M L r S k + lnk M L r S k := rfl
      have hps := psm_mono hS hx hch 0 k (by omega) (by omega)
      have hps0 : psm M L r S 0 = 0 := rfl
      have ecast : ((k + 1 : Nat) : Int) = (k : Int) + 1 := by omega
      refine k_186_9 ⟨r0, by omega, ⟨by omega, by omega⟩, ?_⟩
      rw [a2, a3 k (by omega) (by omega)]
      refine ⟨⟨by omega, by omega⟩, ?_⟩
      rw [if_pos (by omega)]
      refine ⟨by omega, by omega, ?_, ?_⟩
      · rcases hsy with z | z <;> exact ⟨by omega, by omega⟩
      by_cases cx : xy M r k < 100
      · have hl : lnk M L r S k = 1 := by unfold lnk; rw [if_pos cx]
        have hnl : nlk M (u.1 268) r S k = 0 := by unfold nlk; rw [if_pos cx]
        have epl : pl 9000000000000000000 (min 4000000000000000000 (c + psm M L r S k)) 1 = min 4000000000000000000 (c + psm M L r S (k + 1)) := by
          unfold pl
          rw [if_neg (by omega), hpl, hl]
          omega
        rw [if_pos cx, w10, epl]
        refine ⟨Or.inr ⟨by omega, by omega⟩, Or.inr (by omega), fun y ey => ?_⟩
        rw [← ecast]
        refine ih (k + 1) y (by omega) (by rw [ey]; exact F231_wr wF (Or.inr rfl)) ?_ (by rw [ey, wr_self])
        rw [ey, wr_1, if_neg (by decide), w9, hjl, hnl]
        omega
      · rw [if_neg cx]
        refine cI.mono (q_172v (e := e + 1) (k := k) hM hS hVw hx (CHc_tr wF.2.1 hc) (by omega)) (Nat.le_refl _) (fun a z ⟨ez, ea⟩ => ?_)
        obtain ⟨sb0, sb1'⟩ := sbx_b hM hS hx hch (k := k) (by omega) cx
        obtain ⟨hkk, hcc⟩ := hp k (by omega) cx
        unfold cB at hcc
        obtain ⟨kf, k44, k45⟩ := hV.2.2.2.2 _ _ _ hkk
        have kfb := (Fe_b hS kf).1
        unfold cB at kfb
        have hl : lnk M L r S k = L (xy M r k - 100) (S k) (S (k + 1)) := by unfold lnk; rw [if_neg cx]
        have hnl : nlk M (u.1 268) r S k = u.1 268 (sbx M r S k) := by unfold nlk; rw [if_neg cx]
        rw [ez, ea, wF.2.1 268 (by decide), w9]
        refine ⟨sb0, sb1', ⟨by omega, by omega⟩, ⟨by omega, by omega⟩, ?_⟩
        rw [if_neg (by omega)]
        intro y ey
        have y10 : y.1 231 10 = min 4000000000000000000 (c + psm M L r S k) := by rw [ey, wr_1, if_neg (by decide)]; exact w10
        have y44 : y.1 244 (sbx M r S k) = L (xy M r k - 100) (S k) (S (k + 1)) := by rw [ey, wr_ne (by decide), wF.2.1 244 (by decide)]; exact k44
        have epl : pl 9000000000000000000 (min 4000000000000000000 (c + psm M L r S k)) (L (xy M r k - 100) (S k) (S (k + 1))) = min 4000000000000000000 (c + psm M L r S (k + 1)) := by
          unfold pl
          rw [if_neg (by omega), hpl, hl]
          omega
        rw [y10, y44, epl]
        refine ⟨Or.inr ⟨by omega, by omega⟩, Or.inr kfb, fun o eo => ?_⟩
        rw [← ecast]
        refine ih (k + 1) o (by omega) (by rw [eo, ey]; exact F231_wr (F231_wr wF (Or.inl rfl)) (Or.inr rfl)) ?_ (by rw [eo, wr_self])
        rw [eo, wr_1, if_neg (by decide), ey, wr_self, hjl, hnl]
        omega
  refine e_186 ⟨b3, by omega, ?_⟩
  rw [hr]
  refine loop j 0 u (by omega) ⟨rfl, fun _ _ => rfl, fun _ _ => rfl⟩ (by rw [h9]; show i = i - 0; omega) ?_
  rw [h10]
  show c = min 4000000000000000000 (c + 0)
  omega
