/-! Ways counted: the numbers, and the other side -/
theorem pl_sq9 {a b : Int} (ha : cB a) (hb : cB b) : pl 9000000000000000000 a b = sq a b := by
  unfold cB at *
  unfold pl sq
  rw [if_neg (by omega)]
theorem sq_0 {a : Int} (ha : cB a) : sq a 0 = a := by
  unfold cB at ha
  unfold sq
  omega
theorem cB0 : cB 0 := ⟨by omega, by omega⟩
theorem cB1 : cB 1 := ⟨by omega, by omega⟩
def acW (st : Int → Int → Bool) (h : Int → Int) (q : Int) : Nat → Int
  | 0 => 0
  | o + 1 => if st o q = true then sq (acW st h q o) (h o) else acW st h q o
def nWy (st : Int → Int → Int → Bool) (l : Int → Int) (n : Nat) (p : Int) : Nat → Int → Int
  | 0 => fun q => if q = p then 1 else 0
  | k + 1 => fun q => acW (st (l k)) (nWy st l n p k) q n
def foP (f : Int → Int) (acc : Int) : Nat → Int
  | 0 => acc
  | p + 1 => sq (foP f acc p) (f p)
def foR (f : Int → Int → Int) (n : Nat) : Nat → Int
  | 0 => 0
  | r + 1 => foP (f r) (foR f n r) n
theorem acW_R {st : Int → Int → Bool} {h : Int → Int} {q : Int} : ∀ (n : Nat), (∀ o : Nat, o < n → cB (h o)) → cB (acW st h q n)
  | 0, _ => cB0
  | n + 1, hh => by
    simp only [acW]
    split
    · exact sq_R (acW_R n (fun o ho => hh o (by omega))) (hh n (by omega))
    · exact acW_R n (fun o ho => hh o (by omega))
theorem nWy_R {st : Int → Int → Int → Bool} {l : Int → Int} {n : Nat} {p : Int} : ∀ (k : Nat) (q : Int), cB (nWy st l n p k q)
  | 0, q => by
    simp only [nWy]
    split
    · exact cB1
    · exact cB0
  | k + 1, q => acW_R n (fun o _ => nWy_R k o)
theorem foP_R {f : Int → Int} {acc : Int} (ha : cB acc) : ∀ (n : Nat), (∀ o : Nat, o < n → cB (f o)) → cB (foP f acc n)
  | 0, _ => ha
  | n + 1, hh => sq_R (foP_R ha n (fun o ho => hh o (by omega))) (hh n (by omega))
def stRf (L : Int → Int) (dl : Int → Int → Int) (s o q : Int) : Bool := if s < 100 then decide (q = dl o s) else decide (L (tix o (s - 100) q) ≠ 6000000000000000000)
theorem q_289 {d nv nr n : Nat} {u : uS} {m r p : Int} (hG : RGc u nv nr n m) (hr0 : 0 ≤ r) (hr1 : r < nr) (hp : iR n p) (hL : okL (u.1 324) (u.1 325)) : cL (d + 2) 289 [.ref 271, iV m, iV r, iV p] u (fun c u' => u'.2 = u.2 ∧ sb1 u u' [345] ∧ c = foP (nWy (stRf (u.1 324) (dlR u m)) (rwR u r) n p (u.1 276 r).toNat) 0 n) := by
  obtain ⟨g1, g2, g3, g4, g5, g6, g7, g8, g9⟩ := id hG
  obtain ⟨x1, x2, x3, x4⟩ := g4 r hr0 hr1
  have x5 : ∀ k : Int, 0 ≤ k → k < u.1 276 r → symR 10 (rwR u r k) := fun k k0 k1 => symR10 g1 (x4 k k0 k1)
  generalize hN : nWy (stRf (u.1 324) (dlR u m)) (rwR u r) n p = N
  have hNR : ∀ k q, cB (N k q) := fun k q => by rw [← hN]; exact nWy_R k q
  have hN0 : ∀ q, N 0 q = if q = p then 1 else 0 := fun q => by rw [← hN]; rfl
  have hNs : ∀ k q, N (k + 1) q = acW (stRf (u.1 324) (dlR u m) (rwR u r k)) (N k) q n := fun k q => by rw [← hN]; rfl
  clear hN
  have levels : ∀ (m' k : Nat) (v : uS), (k : Int) + 1 + m' = u.1 276 r + 1 → v.2 = u.2 → sb1 u v [345] → (∀ q, iR n q → v.1 345 (40 * (k : Int) + q) = N k q) → K_289 (d + 1) 45 [.ref 271, iV m, iV r, .retAddr 0, iV n, iV ((k : Int) + 1), .retAddr 0, .retAddr 0, .retAddr 0, .retAddr 0, .retAddr 0] [] v (fun c u' => u'.2 = u.2 ∧ sb1 u u' [345] ∧ c = foP (N (u.1 276 r).toNat) 0 n) := by
    intro m'
    induction m' with
    | zero =>
      intro k v he h2 hs hg
      have v6 : v.1 276 = u.1 276 := hs _ (by simp)
      refine k_289_45 (d := d) ⟨hr0, by omega, ⟨by omega, by omega⟩, ?_⟩
      rw [v6]
      refine ⟨⟨by omega, by omega⟩, ?_⟩
      rw [if_pos (by omega)]
      have ek : (u.1 276 r).toNat = k := by omega
      have last : ∀ (m2 o : Nat), o + m2 = n → K_289 (d + 1) 298 [.ref 271, .retAddr 0, iV r, .retAddr 0, iV n, lV (foP (N k) 0 o), .retAddr 0, iV (o : Int), .retAddr 0, .retAddr 0, .retAddr 0] [] v (fun c u' => u'.2 = u.2 ∧ sb1 u u' [345] ∧ c = foP (N (u.1 276 r).toNat) 0 n) := by
        intro m2
        induction m2 with
        | zero =>
          intro o ho
          have e : o = n := by omega
          rw [e]
          refine k_289_298 (d := d) ⟨⟨by omega, by omega⟩, ⟨by omega, by omega⟩, ?_⟩
          rw [if_neg (by omega)]
          exact ⟨h2, hs, by rw [ek]⟩
        | succ m2 ih2 =>
          intro o ho
          refine k_289_298 (d := d) ⟨⟨by omega, by omega⟩, ⟨by omega, by omega⟩, ?_⟩
          rw [if_pos (by omega), v6]
          have e1 : 40 * u.1 276 r + (o : Int) = 40 * (k : Int) + (o : Int) := by omega
          have ha : cB (foP (N k) 0 o) := foP_R cB0 o (fun i _ => hNR k i)
          rw [e1, hg o ⟨by omega, by omega⟩, pl_sq ha (hNR k o)]
          refine ⟨hr0, by omega, by omega, by omega, cB_cn ha, cB_cn (hNR k o), ?_⟩
          have := ih2 (o + 1) (by omega)
          rw [show ((o + 1 : Nat) : Int) = (o : Int) + 1 by omega] at this
          exact this
      exact last n 0 (by omega)
    | succ m' ih =>
      intro k v he h2 hs hg
      have v6 : v.1 276 = u.1 276 := hs _ (by simp)
      have v7 : v.1 277 = u.1 277 := hs _ (by simp)
      have hsym := x5 k (by omega) (by omega)
      refine k_289_45 (d := d) ⟨hr0, by omega, ⟨by omega, by omega⟩, ?_⟩
      rw [v6]
      refine ⟨⟨by omega, by omega⟩, ?_⟩
      rw [if_neg (by omega)]
      refine ⟨by omega, by omega, ?_⟩
      have es : v.1 277 (6 * r + ((k : Int) + 1) - 1) = rwR u r k := by
        have e : 6 * r + ((k : Int) + 1) - 1 = 6 * r + k := by omega
        rw [v7, e]
      rw [es]
      have hsI : rI (rwR u r k) := by rcases hsym with z | z <;> exact ⟨by omega, by omega⟩
      have hNk := hNs k
      generalize hss : rwR u r k = s at hsym hsI hNk ⊢
      have overO : ∀ (m2 o : Nat) (w : uS), o + m2 = n → w.2 = u.2 → sb1 u w [345] → (∀ q, iR n q → w.1 345 (40 * (k : Int) + q) = N k q) → (∀ q, iR n q → w.1 345 (40 * ((k : Int) + 1) + q) = acW (stRf (u.1 324) (dlR u m) s) (N k) q o) → K_289 (d + 1) 105 [.ref 271, iV m, iV r, .retAddr 0, iV n, iV ((k : Int) + 1), iV s, iV (o : Int), .retAddr 0, .retAddr 0, .retAddr 0] [] w (fun c u' => u'.2 = u.2 ∧ sb1 u u' [345] ∧ c = foP (N (u.1 276 r).toNat) 0 n) := by
        intro m2
        induction m2 with
        | zero =>
          intro o w hoe w2 ws wg wn
          refine k_289_105 (d := d) ⟨⟨by omega, by omega⟩, ⟨by omega, by omega⟩, ?_⟩
          rw [if_neg (by omega)]
          have := ih (k + 1) w (by omega) w2 ws (fun q hq => by
            have e2 : (((k + 1 : Nat) : Int)) = (k : Int) + 1 := by omega
            have e3 : o = n := by omega
            rw [e2, wn q hq, hNk q, e3])
          rw [show (((k + 1 : Nat) : Int)) = (k : Int) + 1 by omega] at this
          exact this
        | succ m2 ih2 =>
          intro o w hoe w2 ws wg wn
          have ek : 40 * ((k : Int) + 1 - 1) + (o : Int) = 40 * (k : Int) + (o : Int) := by omega
          have hoR : iR n (o : Int) := ⟨by omega, by omega⟩
          have w02 : w.1 302 = u.1 302 := ws _ (by simp)
          have w24 : w.1 324 = u.1 324 := ws _ (by simp)
          have hhad := hNR k o
          refine k_289_105 (d := d) ⟨⟨by omega, by omega⟩, ⟨by omega, by omega⟩, ?_⟩
          rw [if_pos (by omega), ek, wg o hoR]
          refine ⟨by omega, by omega, lR_L (Or.inl hhad), ?_⟩
          have aR : ∀ q, cB (acW (stRf (u.1 324) (dlR u m) s) (N k) q o) := fun q => acW_R o (fun i _ => hNR k i)
          -- the next state
          have step : ∀ w' : uS, w'.2 = u.2 → sb1 u w' [345] → (∀ q, iR n q → w'.1 345 (40 * (k : Int) + q) = N k q) → (∀ q, iR n q → w'.1 345 (40 * ((k : Int) + 1) + q) = acW (stRf (u.1 324) (dlR u m) s) (N k) q (o + 1)) → K_289 (d + 1) 105 [.ref 271, iV m, iV r, .retAddr 0, iV n, iV ((k : Int) + 1), iV s, iV ((o : Int) + 1), .retAddr 0, .retAddr 0, .retAddr 0] [] w' (fun c u' => u'.2 = u.2 ∧ sb1 u u' [345] ∧ c = foP (N (u.1 276 r).toNat) 0 n) := by
            intro w' a1 a2 a3 a4
            have := ih2 (o + 1) w' (by omega) a1 a2 a3 a4
            rw [show (((o + 1 : Nat) : Int)) = (o : Int) + 1 by omega] at this
            exact this
          by_cases hpos : 0 < N k o
          · rw [if_pos hpos]
            refine ⟨hsI, ?_⟩
            by_cases hs100 : s < 100
            · rw [if_pos hs100, w02]
              have hs10 : 0 ≤ s ∧ s < 10 := by rcases hsym with z | z <;> omega
              have hdq : iR n (u.1 302 (400 * m + 10 * (o : Int) + s)) := g9 o s hoR hs10.1 hs10.2
              have hd0 := hdq.1
              have hd1 := hdq.2
              have hst : ∀ q, stRf (u.1 324) (dlR u m) s o q = decide (q = u.1 302 (400 * m + 10 * (o : Int) + s)) := fun q => by
                unfold stRf
                rw [if_pos hs100]
              refine ⟨by rcases g8 with z | z <;> rw [z] <;> omega, by rcases g8 with z | z <;> rw [z] <;> omega, by omega, by omega, ?_⟩
              rw [wn _ hdq, pl_sq (aR _) hhad]
              refine ⟨cB_cn (aR _), cB_cn hhad, fun w' e' => ?_⟩
              refine k_289_198 (d := d) ⟨⟨by omega, by omega⟩, ⟨by omega, by omega⟩, ?_⟩
              rw [if_pos (by omega)]
              refine ⟨lR_L (Or.inl hhad), ?_⟩
              rw [if_pos hpos]
              refine ⟨hsI, ?_⟩
              rw [if_pos hs100]
              refine step w' (by rw [e', wr_2, w2]) (by rw [e']; exact sb1_wr ws (by simp)) (fun q hq => ?_) (fun q hq => ?_)
              · have hq1 := hq.1
                have hq2 := hq.2
                rw [e', wr_1, if_neg (by omega)]
                exact wg q hq
              · show _ = if stRf (u.1 324) (dlR u m) s o q = true then sq (acW (stRf (u.1 324) (dlR u m) s) (N k) q o) (N k o) else acW (stRf (u.1 324) (dlR u m) s) (N k) q o
                rw [hst q]
                by_cases e : q = u.1 302 (400 * m + 10 * (o : Int) + s)
                · rw [if_pos (by simpa using e), e', e, wr_self]
                · rw [if_neg (by simpa using e), e', wr_1, if_neg (by omega)]
                  exact wn q hq
            · rw [if_neg hs100]
              have hx10 : 0 ≤ s - 100 ∧ s - 100 < 10 := by rcases hsym with z | z <;> omega
              have hst : ∀ q, stRf (u.1 324) (dlR u m) s o q = decide (u.1 324 (tix o (s - 100) q) ≠ 6000000000000000000) := fun q => by
                unfold stRf
                rw [if_neg hs100]
              have overQ : ∀ (m3 : Nat) (q : Int) (w' : uS), 0 ≤ q → q + m3 = n → w'.2 = u.2 → sb1 u w' [345] → (∀ q, iR n q → w'.1 345 (40 * (k : Int) + q) = N k q) → (∀ q', iR n q' → w'.1 345 (40 * ((k : Int) + 1) + q') = if q' < q then acW (stRf (u.1 324) (dlR u m) s) (N k) q' (o + 1) else acW (stRf (u.1 324) (dlR u m) s) (N k) q' o) → K_289 (d + 1) 198 [.ref 271, iV m, iV r, .retAddr 0, iV n, iV ((k : Int) + 1), iV s, iV (o : Int), lV (N k o), .retAddr 0, iV q] [] w' (fun c u' => u'.2 = u.2 ∧ sb1 u u' [345] ∧ c = foP (N (u.1 276 r).toNat) 0 n) := by
                intro m3
                induction m3 with
                | zero =>
                  intro q w' hq hqe a1 a2 a3 a4
                  refine k_289_198 (d := d) ⟨⟨by omega, by omega⟩, ⟨by omega, by omega⟩, ?_⟩
                  rw [if_neg (by omega)]
                  refine step w' a1 a2 a3 (fun q' hq' => ?_)
                  have := hq'.2
                  rw [a4 q' hq', if_pos (by omega)]
                | succ m3 ih3 =>
                  intro q w' hq hqe a1 a2 a3 a4
                  have a24 : w'.1 324 = u.1 324 := a2 _ (by simp)
                  have ht := tix_R (o := (o : Int)) (x := s - 100) (q := q) ⟨by omega, by omega⟩ hx10 ⟨hq, by omega⟩
                  obtain ⟨t1, t2⟩ := hL _ ht.1 ht.2
                  refine k_289_198 (d := d) ⟨⟨by omega, by omega⟩, ⟨by omega, by omega⟩, ?_⟩
                  rw [if_pos (by omega)]
                  refine ⟨lR_L (Or.inl hhad), ?_⟩
                  rw [if_pos hpos]
                  refine ⟨hsI, ?_⟩
                  rw [if_neg hs100, a24]
                  rw [show (10 * (o : Int) + (s - 100)) * 40 + q = tix o (s - 100) q from rfl]
                  refine ⟨ht.1, ht.2, lR_L t1, ?_⟩
                  have hac : ∀ q' : Int, acW (stRf (u.1 324) (dlR u m) s) (N k) q' (o + 1) = if stRf (u.1 324) (dlR u m) s o q' = true then sq (acW (stRf (u.1 324) (dlR u m) s) (N k) q' o) (N k o) else acW (stRf (u.1 324) (dlR u m) s) (N k) q' o := fun _ => rfl
                  by_cases htf : u.1 324 (tix o (s - 100) q) = 6000000000000000000
                  · rw [if_pos htf]
                    refine ih3 (q + 1) w' (by omega) (by omega) a1 a2 a3 (fun q' hq' => ?_)
                    rw [a4 q' hq']
                    by_cases e : q' = q
                    · rw [e, if_neg (by omega), if_pos (by omega), hac, hst, if_neg (by simp [htf])]
                    · by_cases e2 : q' < q
                      · rw [if_pos e2, if_pos (by omega)]
                      · rw [if_neg e2, if_neg (by omega)]
                  · rw [if_neg htf]
                    have hqR : iR n q := ⟨hq, by omega⟩
                    refine ⟨by omega, by omega, ?_⟩
                    rw [a4 q hqR, if_neg (by omega), pl_sq (aR q) hhad]
                    refine ⟨cB_cn (aR q), cB_cn hhad, fun w'' e'' => ?_⟩
                    refine ih3 (q + 1) w'' (by omega) (by omega) (by rw [e'', wr_2, a1]) (by rw [e'']; exact sb1_wr a2 (by simp)) (fun q' hq' => ?_) (fun q' hq' => ?_)
                    · have hq1 := hq'.1
                      have hq2 := hq'.2
                      rw [e'', wr_1, if_neg (by omega)]
                      exact a3 q' hq'
                    · by_cases e : q' = q
                      · rw [e, if_pos (by omega), hac, hst, if_pos (by simpa using htf), e'', wr_self]
                      · rw [e'', wr_1, if_neg (by omega), a4 q' hq']
                        by_cases e2 : q' < q
                        · rw [if_pos e2, if_pos (by omega)]
                        · rw [if_neg e2, if_neg (by omega)]
              refine overQ n 0 w (Int.le_refl 0) (by omega) w2 ws wg (fun q' hq' => ?_)
              have := hq'.1
              rw [if_neg (by omega)]
              exact wn q' hq'
          · rw [if_neg hpos]
            have h0 : N k o = 0 := by
              have := hhad.1
              omega
            refine k_289_198 (d := d) ⟨⟨by omega, by omega⟩, ⟨by omega, by omega⟩, ?_⟩
            rw [if_pos (by omega)]
            refine ⟨lR_L (Or.inl hhad), ?_⟩
            rw [if_neg hpos]
            refine step w w2 ws wg (fun q hq => ?_)
            rw [wn q hq]
            show _ = if stRf (u.1 324) (dlR u m) s o q = true then sq (acW (stRf (u.1 324) (dlR u m) s) (N k) q o) (N k o) else acW (stRf (u.1 324) (dlR u m) s) (N k) q o
            rw [h0, sq_0 (aR q), ite_self]
      have clear : ∀ (m2 : Nat) (o : Int) (w : uS), 0 ≤ o → o + m2 = n → w.2 = u.2 → sb1 u w [345] → (∀ q, iR n q → w.1 345 (40 * (k : Int) + q) = N k q) → (∀ q, iR n q → q < o → w.1 345 (40 * ((k : Int) + 1) + q) = 0) → K_289 (d + 1) 75 [.ref 271, iV m, iV r, .retAddr 0, iV n, iV ((k : Int) + 1), iV s, iV o, .retAddr 0, .retAddr 0, .retAddr 0] [] w (fun c u' => u'.2 = u.2 ∧ sb1 u u' [345] ∧ c = foP (N (u.1 276 r).toNat) 0 n) := by
        intro m2
        induction m2 with
        | zero =>
          intro o w ho hoe w2 ws wg wn
          refine k_289_75 (d := d) ⟨⟨by omega, by omega⟩, ⟨by omega, by omega⟩, ?_⟩
          rw [if_neg (by omega)]
          exact overO n 0 w (by omega) w2 ws wg (fun q hq => wn q hq (by have := hq.2; omega))
        | succ m2 ih2 =>
          intro o w ho hoe w2 ws wg wn
          refine k_289_75 (d := d) ⟨⟨by omega, by omega⟩, ⟨by omega, by omega⟩, ?_⟩
          rw [if_pos (by omega)]
          refine ⟨by omega, by omega, fun w' e' => ?_⟩
          refine ih2 (o + 1) w' (by omega) (by omega) (by rw [e', wr_2, w2]) (by rw [e']; exact sb1_wr ws (by simp)) (fun q hq => ?_) (fun q hq hlt => ?_)
          · have hq1 := hq.1
            have hq2 := hq.2
            rw [e', wr_1, if_neg (by omega)]
            exact wg q hq
          · rw [e', wr_1]
            split
            · rfl
            · next z => exact wn q hq (by omega)
      exact clear n 0 v (Int.le_refl 0) (by omega) h2 hs hg (fun q hq hlt => by have := hq.1; omega)
  have start : ∀ (m2 : Nat) (o : Int) (w : uS), 0 ≤ o → o + m2 = n → w.2 = u.2 → sb1 u w [345] → (∀ q, iR n q → q < o → w.1 345 q = N 0 q) → K_289 (d + 1) 11 [.ref 271, iV m, iV r, iV p, iV n, iV o, .retAddr 0, .retAddr 0, .retAddr 0, .retAddr 0, .retAddr 0] [] w (fun c u' => u'.2 = u.2 ∧ sb1 u u' [345] ∧ c = foP (N (u.1 276 r).toNat) 0 n) := by
    intro m2
    induction m2 with
    | zero =>
      intro o w ho hoe w2 ws wn
      refine k_289_11 (d := d) ⟨⟨by omega, by omega⟩, ⟨by omega, by omega⟩, ?_⟩
      rw [if_neg (by omega)]
      refine levels (u.1 276 r).toNat 0 w (by omega) w2 ws (fun q hq => ?_)
      rw [show 40 * ((0 : Nat) : Int) + q = q by omega]
      exact wn q hq (by have := hq.2; omega)
    | succ m2 ih2 =>
      intro o w ho hoe w2 ws wn
      have hp0 := hp.1
      have hp1 := hp.2
      refine k_289_11 (d := d) ⟨⟨by omega, by omega⟩, ⟨by omega, by omega⟩, ?_⟩
      rw [if_pos (by omega)]
      refine ⟨⟨by omega, by omega⟩, ?_⟩
      have put : ∀ (c : Int) (w' : uS), w' = wr w 345 o c → c = N 0 o → K_289 (d + 1) 11 [.ref 271, iV m, iV r, iV p, iV n, iV (o + 1), .retAddr 0, .retAddr 0, .retAddr 0, .retAddr 0, .retAddr 0] [] w' (fun c u' => u'.2 = u.2 ∧ sb1 u u' [345] ∧ c = foP (N (u.1 276 r).toNat) 0 n) := by
        intro c w' e' hc
        refine ih2 (o + 1) w' (by omega) (by omega) (by rw [e', wr_2, w2]) (by rw [e']; exact sb1_wr ws (by simp)) (fun q hq hlt => ?_)
        by_cases e : q = o
        · rw [e, e', wr_self, hc]
        · rw [e', wr_1, if_neg (by omega)]
          exact wn q hq (by omega)
      by_cases e : o = p
      · rw [if_pos e]
        exact ⟨ho, by omega, fun w' e' => put 1 w' e' (by rw [hN0, if_pos e])⟩
      · rw [if_neg e]
        exact ⟨ho, by omega, fun w' e' => put 0 w' e' (by rw [hN0, if_neg e])⟩
  have hm0 : 0 ≤ m ∧ m < 100 := by rcases g8 with z | z <;> rw [z] <;> omega
  refine e_289 (d := d) ⟨hm0.1, hm0.2, ?_⟩
  rw [g7]
  exact start n 0 u (Int.le_refl 0) (by omega) rfl (sb1_refl _ _) (fun q hq hlt => by have := hq.1; omega)
