/-! Ways counted: the first side -/
def stCf (u : uS) (a mk : Nat) (s o q : Int) : Bool := if s < 100 then decide (q = u.1 (mk + 1) (o * 10 + s)) else bt (u.1 (a + 1) ((s - 100) * 40 + o)) q.toNat
theorem q_198 {d a nv n mk : Nat} {u : uS} {s o : Int} (hO : isO a 9) (hM : isO mk 5) (hmk : mk = 59 ∨ mk = 61) (ha : a = 193 ∨ a = 212) (hv : nv ≤ 10) (hn : n ≤ 40) (e3 : u.2 a 3 = mk) (hs : symR nv s) (ho : iR n o) (hd : ∀ s c, iR n s → 0 ≤ c → c < 10 → iR n (u.1 (mk + 1) (s * 10 + c))) (hF : okF nv n (u.1 (a + 1))) (h7 : ∀ q, iR n q → cB (u.1 (a + 17) q)) (h8 : ∀ q, iR n q → cB (u.1 (a + 18) q)) : cV (d + 3) 198 [.ref a, iV s, iV o] u (fun u' => u'.2 = u.2 ∧ sb1 u u' [a + 18] ∧ ∀ q, iR n q → u'.1 (a + 18) q = if stCf u a mk s o q = true then sq (u.1 (a + 18) q) (u.1 (a + 17) o) else u.1 (a + 18) q) := by
  obtain ⟨o0, o1⟩ := id ho
  have loop : ∀ (X : Int), (∀ i : Nat, bt X i = true → (i : Int) < n) → (∀ q, iR n q → stCf u a mk s o q = bt X q.toNat) → ∀ (m : Nat) (x : Int) (v : uS), ct (bt x) 64 ≤ m → rL x → (∀ i, bt x i = true → bt X i = true) → v.2 = u.2 → sb1 u v [a + 18] → (∀ q, iR n q → v.1 (a + 18) q = if bt X q.toNat = true ∧ bt x q.toNat = false then sq (u.1 (a + 18) q) (u.1 (a + 17) o) else u.1 (a + 18) q) → K_198 (d + 2) 37 [.ref a, .retAddr 0, iV o, .retAddr 0, .retAddr 0, lV x, .retAddr 0, .retAddr 0] [] v (fun u' => u'.2 = u.2 ∧ sb1 u u' [a + 18] ∧ ∀ q, iR n q → u'.1 (a + 18) q = if stCf u a mk s o q = true then sq (u.1 (a + 18) q) (u.1 (a + 17) o) else u.1 (a + 18) q) := by
    intro X hXn hXs m
    induction m with
    | zero =>
      intro x v hm hx hsub h2 hs1 hi
      have hx0 : x = 0 := by
        refine bt_ext hx ⟨by omega, by omega⟩ (fun i hi64 => ?_)
        rw [bt_0]
        cases hb : bt x i with
        | false => rfl
        | true =>
          have := ct_lt (p := fun _ => false) (q := bt x) 64 (fun _ _ h => by cases h) ⟨i, hi64, rfl, hb⟩
          omega
      refine k_198_37 (d := d) hO ⟨hx, ?_⟩
      rw [if_pos hx0]
      refine ⟨h2, hs1, fun q hq => ?_⟩
      rw [hi q hq, hXs q hq, hx0, bt_0]
      simp
    | succ m ih =>
      intro x v hm hx hsub h2 hs1 hi
      refine k_198_37 (d := d) hO ⟨hx, ?_⟩
      by_cases hx0 : x = 0
      · rw [if_pos hx0]
        refine ⟨h2, hs1, fun q hq => ?_⟩
        rw [hi q hq, hXs q hq, hx0, bt_0]
        simp
      · rw [if_neg hx0]
        obtain ⟨t, t1, t2, t3, t4, t5⟩ := bits_ct hx hx0
        have tX := hsub t t3
        have tn := hXn t tX
        have tR : iR n (t : Int) := ⟨by omega, tn⟩
        have v7 : v.1 (a + 17) = u.1 (a + 17) := hs1 _ (by simp)
        have et : ((t : Int)).toNat = t := by omega
        have e8 : v.1 (a + 18) (t : Int) = u.1 (a + 18) (t : Int) := by
          rw [hi t tR, et, t3]
          simp
        rw [t2, v7, e8, pl_sq9 (h8 t tR) (h7 o ho)]
        refine ⟨by omega, by omega, o0, by omega, Or.inr (h8 t tR), Or.inr (h7 o ho), fun v' e' => ?_⟩
        refine ih _ v' (by omega) (rl_land _ _) (fun i h => ?_) (by rw [e', wr_2, h2]) (by rw [e']; exact sb1_wr hs1 (by simp)) (fun q hq => ?_)
        · rw [t4, Bool.and_eq_true] at h
          exact hsub i h.1
        · have hq0 := hq.1
          by_cases e : q = t
          · have e2 : q.toNat = t := by omega
            rw [e2, if_pos ⟨tX, by rw [t4]; simp⟩, e', e, wr_self]
          · have e2 : q.toNat ≠ t := by omega
            rw [e', wr_1, if_neg (by omega), hi q hq, t4]
            simp [e2]
  refine e_198 (d := d) hO ⟨by rcases hs with z | z <;> exact ⟨by omega, by omega⟩, ?_⟩
  by_cases hs100 : s < 100
  · rw [if_pos hs100, e3]
    have hs10 : 0 ≤ s ∧ s < 10 := by rcases hs with z | z <;> omega
    have hdq := hd o s ho hs10.1 hs10.2
    obtain ⟨d0, d1⟩ := id hdq
    have hX := stB_1 (n := n) hn hdq
    refine ⟨hM, by omega, by omega, loop _ (fun i hb => ((hX.2 i).mp hb).1) (fun q hq => ?_) 64 _ u (ct_le _ 64) hX.1 (fun i h => h) rfl (sb1_refl _ _) (fun q hq => ?_)⟩
    · unfold stCf
      rw [if_pos hs100, bt_bit d0 (by omega)]
      have hq0 := hq.1
      by_cases e : q = u.1 (mk + 1) (o * 10 + s)
      · rw [decide_eq_true e, e]; simp
      · rw [decide_eq_false e, decide_eq_false (by omega)]
    · cases bt (lshl 1 (u.1 (mk + 1) (o * 10 + s))) q.toNat <;> simp
  · rw [if_neg hs100]
    have hx : 0 ≤ s - 100 ∧ s - 100 < nv := by rcases hs with z | z <;> omega
    have hX := stB_F hF (x := s - 100) (o := o) hx ho
    refine ⟨by omega, by omega, loop _ (fun i hb => ((hX.2 i).mp hb).1) (fun q hq => ?_) 64 _ u (ct_le _ 64) hX.1 (fun i h => h) rfl (sb1_refl _ _) (fun q hq => ?_)⟩
    · unfold stCf
      rw [if_neg hs100]
    · cases bt (u.1 (a + 1) ((s - 100) * 40 + o)) q.toNat <;> simp
theorem q_197 {d a nv nr n mk : Nat} {u : uS} {r p : Int} (ha : a = 193 ∨ a = 212) (hmk : mk = 59 ∨ mk = 61) (hO : isO a 9) (hM : isO mk 5) (hG : GMc u nv nr n mk) (e2 : u.2 a 2 = 6) (e3 : u.2 a 3 = mk) (hr0 : 0 ≤ r) (hr1 : r < nr) (hp : iR n p) (hk : okF nv n (u.1 (a + 1))) : cL (d + 5) 197 [.ref a, iV r, iV p] u (fun c u' => u'.2 = u.2 ∧ sb1 u u' [a + 17, a + 18] ∧ c = foP (nWy (stCf u a mk) (lrw u r) n p (u.1 9 r).toNat) 0 n) := by
  obtain ⟨g1, g2, g3, g4, g5, g6, g7, g8, g9⟩ := id hG
  obtain ⟨x1, x2, x3, x4⟩ := g5 r hr0 hr1
  obtain ⟨p0, p1⟩ := id hp
  generalize hN : nWy (stCf u a mk) (lrw u r) n p = N
  have hNR : ∀ k q, cB (N k q) := fun k q => by rw [← hN]; exact nWy_R k q
  have hN0 : ∀ q, N 0 q = if q = p then 1 else 0 := fun q => by rw [← hN]; rfl
  have hNs : ∀ k q, N (k + 1) q = acW (stCf u a mk (lrw u r k)) (N k) q n := fun k q => by rw [← hN]; rfl
  clear hN
  have hstv : ∀ v : uS, sb1 u v [a + 17, a + 18] → stCf v a mk = stCf u a mk := fun v hs => by
    funext s o q
    unfold stCf
    rw [hs (mk + 1) (by simp only [List.mem_cons, List.not_mem_nil, or_false]; omega), hs (a + 1) (by simp)]
  have levels : ∀ (m' k : Nat) (v : uS), (k : Int) + m' = u.1 9 r → v.2 = u.2 → sb1 u v [a + 17, a + 18] → (∀ q, iR n q → v.1 (a + 17) q = N k q) → K_197 (d + 4) 17 [.ref a, iV r, .retAddr 0, iV (k : Int), .retAddr 0, .retAddr 0] [] v (fun c u' => u'.2 = u.2 ∧ sb1 u u' [a + 17, a + 18] ∧ c = foP (N (u.1 9 r).toNat) 0 n) := by
    intro m'
    induction m' with
    | zero =>
      intro k v he h2 hs hg
      have v2 : v.2 a 2 = 6 := by rw [h2]; exact e2
      have v3 : v.2 a 3 = mk := by rw [h2]; exact e3
      have v9 : v.1 (6 + 3) = u.1 9 := hs 9 (by simp only [List.mem_cons, List.not_mem_nil, or_false]; omega)
      have vm : v.1 mk = u.1 mk := hs mk (by simp only [List.mem_cons, List.not_mem_nil, or_false]; omega)
      refine k_197_17 (d := d + 3) hO ?_
      rw [v2, v9]
      refine ⟨sx_6, hr0, by omega, ⟨by omega, by omega⟩, ⟨by omega, by omega⟩, ?_⟩
      rw [if_neg (by omega)]
      have ek : (u.1 9 r).toNat = k := by omega
      have last : ∀ (m2 o : Nat), o + m2 = n → K_197 (d + 4) 117 [.ref a, .retAddr 0, .retAddr 0, lV (foP (N k) 0 o), .retAddr 0, iV (o : Int)] [] v (fun c u' => u'.2 = u.2 ∧ sb1 u u' [a + 17, a + 18] ∧ c = foP (N (u.1 9 r).toNat) 0 n) := by
        intro m2
        induction m2 with
        | zero =>
          intro o ho
          have e : o = n := by omega
          rw [e]
          refine k_197_117 (d := d + 3) hO ?_
          rw [v3, vm, g8]
          refine ⟨hM, ⟨by omega, by omega⟩, ⟨by omega, by omega⟩, ?_⟩
          rw [if_neg (by omega)]
          exact ⟨h2, hs, by rw [ek]⟩
        | succ m2 ih2 =>
          intro o ho
          refine k_197_117 (d := d + 3) hO ?_
          rw [v3, vm, g8]
          refine ⟨hM, ⟨by omega, by omega⟩, ⟨by omega, by omega⟩, ?_⟩
          have hac : cB (foP (N k) 0 o) := foP_R cB0 o (fun i _ => hNR k i)
          rw [if_pos (by omega), hg o ⟨by omega, by omega⟩, pl_sq9 hac (hNR k o)]
          refine ⟨by omega, by omega, Or.inr hac, Or.inr (hNR k o), ?_⟩
          have := ih2 (o + 1) (by omega)
          rw [show ((o + 1 : Nat) : Int) = (o : Int) + 1 by omega] at this
          exact this
      exact last n 0 (by omega)
    | succ m' ih =>
      intro k v he h2 hs hg
      have v2 : v.2 a 2 = 6 := by rw [h2]; exact e2
      have v9 : v.1 (6 + 3) = u.1 9 := hs 9 (by simp only [List.mem_cons, List.not_mem_nil, or_false]; omega)
      refine k_197_17 (d := d + 3) hO ?_
      rw [v2, v9]
      refine ⟨sx_6, hr0, by omega, ⟨by omega, by omega⟩, ⟨by omega, by omega⟩, ?_⟩
      rw [if_pos (by omega)]
      intro v7 e7
      have hsym := x4 k (by omega) (by omega)
      have hNk := hNs k
      have overO : ∀ (m2 o : Nat) (w : uS), o + m2 = n → w.2 = u.2 → sb1 u w [a + 17, a + 18] → (∀ q, iR n q → w.1 (a + 17) q = N k q) → (∀ q, iR n q → w.1 (a + 18) q = acW (stCf u a mk (lrw u r k)) (N k) q o) → K_197 (d + 4) 41 [.ref a, iV r, .retAddr 0, iV (k : Int), iV (o : Int), .retAddr 0] [] w (fun c u' => u'.2 = u.2 ∧ sb1 u u' [a + 17, a + 18] ∧ c = foP (N (u.1 9 r).toNat) 0 n) := by
        intro m2
        induction m2 with
        | zero =>
          intro o w hoe w2 ws wg wn
          have w3 : w.2 a 3 = mk := by rw [w2]; exact e3
          have wm : w.1 mk = u.1 mk := ws mk (by simp only [List.mem_cons, List.not_mem_nil, or_false]; omega)
          refine k_197_41 (d := d + 3) hO ?_
          rw [w3, wm, g8]
          refine ⟨hM, ⟨by omega, by omega⟩, ⟨by omega, by omega⟩, ?_⟩
          rw [if_neg (by omega)]
          refine ⟨by omega, by omega, fun w' e' => ?_⟩
          have := ih (k + 1) w' (by omega) (by rw [e', cpy_2, w2]) (fun b hb => by
            rw [e', cpy_ne (fun e => hb (by rw [e]; simp))]
            exact ws b hb) (fun q hq => by
            have hq0 := hq.1
            have hq1 := hq.2
            rw [e', cpy_1, if_pos ⟨rfl, by omega, by omega⟩]
            have e5 : 0 + (q - 0) = q := by omega
            rw [e5, wn q hq, hNk q]
            have e6 : o = n := by omega
            rw [e6])
          rw [show (((k + 1 : Nat) : Int)) = (k : Int) + 1 by omega] at this
          exact this
        | succ m2 ih2 =>
          intro o w hoe w2 ws wg wn
          have hoR : iR n (o : Int) := ⟨by omega, by omega⟩
          have w3 : w.2 a 3 = mk := by rw [w2]; exact e3
          have w22 : w.2 a 2 = 6 := by rw [w2]; exact e2
          have wm : w.1 mk = u.1 mk := ws mk (by simp only [List.mem_cons, List.not_mem_nil, or_false]; omega)
          have wm1 : w.1 (mk + 1) = u.1 (mk + 1) := ws _ (by simp only [List.mem_cons, List.not_mem_nil, or_false]; omega)
          have w10 : w.1 (6 + 4) = u.1 10 := ws 10 (by simp only [List.mem_cons, List.not_mem_nil, or_false]; omega)
          have w1 : w.1 (a + 1) = u.1 (a + 1) := ws _ (by simp)
          have aR : ∀ q, cB (acW (stCf u a mk (lrw u r k)) (N k) q o) := fun q => acW_R o (fun i _ => hNR k i)
          refine k_197_41 (d := d + 3) hO ?_
          rw [w3, wm, g8]
          refine ⟨hM, ⟨by omega, by omega⟩, ⟨by omega, by omega⟩, ?_⟩
          rw [if_pos (by omega), wg o hoR]
          refine ⟨by omega, by omega, lR_L (Or.inl (hNR k o)), ?_⟩
          have step : ∀ w' : uS, w'.2 = u.2 → sb1 u w' [a + 17, a + 18] → (∀ q, iR n q → w'.1 (a + 17) q = N k q) → (∀ q, iR n q → w'.1 (a + 18) q = acW (stCf u a mk (lrw u r k)) (N k) q (o + 1)) → K_197 (d + 4) 41 [.ref a, iV r, .retAddr 0, iV (k : Int), iV ((o : Int) + 1), .retAddr 0] [] w' (fun c u' => u'.2 = u.2 ∧ sb1 u u' [a + 17, a + 18] ∧ c = foP (N (u.1 9 r).toNat) 0 n) := by
            intro w' b1 b2 b3 b4
            have := ih2 (o + 1) w' (by omega) b1 b2 b3 b4
            rw [show (((o + 1 : Nat) : Int)) = (o : Int) + 1 by omega] at this
            exact this
          have hac : ∀ q' : Int, acW (stCf u a mk (lrw u r k)) (N k) q' (o + 1) = if stCf u a mk (lrw u r k) o q' = true then sq (acW (stCf u a mk (lrw u r k)) (N k) q' o) (N k o) else acW (stCf u a mk (lrw u r k)) (N k) q' o := fun _ => rfl
          by_cases hz : N k o = 0
          · rw [if_pos hz]
            refine step w w2 ws wg (fun q hq => ?_)
            rw [wn q hq, hac, hz, sq_0 (aR q), ite_self]
          · rw [if_neg hz, w22, w10]
            refine ⟨sx_6, by omega, by omega, ?_⟩
            have hq8 := q_198 (d := d + 1) (u := w) (s := lrw u r k) (o := (o : Int)) hO hM hmk ha g1 g7 w3 hsym hoR (by rw [wm1]; exact g9) (by rw [w1]; exact hk) (fun q hq => by rw [wg q hq]; exact hNR k q) (fun q hq => by rw [wn q hq]; exact aR q)
            refine cV.mono hq8 (Nat.le_refl _) (fun w' ⟨y1, y2, y3⟩ => ?_)
            refine step w' (y1.trans w2) (fun b hb => ?_) (fun q hq => ?_) (fun q hq => ?_)
            · simp only [List.mem_cons, List.not_mem_nil, or_false, not_or] at hb
              rw [y2 b (by simp; exact hb.2)]
              exact ws b (by simp; exact hb)
            · rw [y2 (a + 17) (by simp)]
              exact wg q hq
            · rw [y3 q hq, hstv w ws, wn q hq, wg o hoR, hac]
      refine overO n 0 v7 (by omega) (by rw [e7, fil_2, h2]) (fun b hb => ?_) (fun q hq => ?_) (fun q hq => ?_)
      · rw [e7, fil_ne (fun e => hb (by rw [e]; simp))]
        exact hs b hb
      · rw [e7, fil_ne (by omega)]
        exact hg q hq
      · have hq0 := hq.1
        have hq1 := hq.2
        rw [e7, fil_1, if_pos ⟨rfl, hq0, by omega⟩]
        rfl
  refine e_197 (d := d + 3) hO (fun u1 e1 => ⟨p0, by omega, fun u5 e5 => ?_⟩)
  refine levels (u.1 9 r).toNat 0 u5 (by omega) (by rw [e5, wr_2, e1, fil_2]) (fun b hb => ?_) (fun q hq => ?_)
  · simp only [List.mem_cons, List.not_mem_nil, or_false, not_or] at hb
    rw [e5, wr_ne hb.1, e1, fil_ne hb.1]
  · have hq0 := hq.1
    have hq1 := hq.2
    rw [hN0, e5, wr_1, e1]
    by_cases e : q = p
    · rw [if_pos ⟨rfl, e⟩, if_pos e]
    · rw [if_neg (by omega), if_neg e, fil_1, if_pos ⟨rfl, hq0, by omega⟩]
theorem q_196 {d a nv nr n mk : Nat} {u : uS} (ha : a = 193 ∨ a = 212) (hmk : mk = 59 ∨ mk = 61) (hO : isO a 9) (hM : isO mk 5) (hG : GMc u nv nr n mk) (e2 : u.2 a 2 = 6) (e3 : u.2 a 3 = mk) (hk : okF nv n (u.1 (a + 1))) : cL (d + 7) 196 [.ref a] u (fun c u' => u'.2 = u.2 ∧ sb1 u u' [a + 17, a + 18] ∧ c = foR (fun r p => foP (nWy (stCf u a mk) (lrw u r) n p (u.1 9 r).toNat) 0 n) n nr) := by
  obtain ⟨g1, g2, g3, g4, g5, g6, g7, g8, g9⟩ := id hG
  have hfR : ∀ r p : Int, cB (foP (nWy (stCf u a mk) (lrw u r) n p (u.1 9 r).toNat) 0 n) := fun r p => foP_R cB0 n (fun i _ => nWy_R _ _)
  generalize hf : (fun r p => foP (nWy (stCf u a mk) (lrw u r) n p (u.1 9 r).toNat) 0 n) = f
  have hfR' : ∀ r p : Int, cB (f r p) := fun r p => by rw [← hf]; exact hfR r p
  have hRR : ∀ r : Nat, cB (foR f n r) := fun r => by
    induction r with
    | zero => exact cB0
    | succ r ih => exact foP_R ih n (fun i _ => hfR' _ _)
  have outer : ∀ (k r : Nat) (v : uS), r + k = nr → v.2 = u.2 → sb1 u v [a + 17, a + 18] → K_196 (d + 6) 4 [.ref a, lV (foR f n r), .retAddr 0, iV (r : Int), .retAddr 0] [] v (fun c u' => u'.2 = u.2 ∧ sb1 u u' [a + 17, a + 18] ∧ c = foR f n nr) := by
    intro k
    induction k with
    | zero =>
      intro r v hr h2 hs
      have v2 : v.2 a 2 = 6 := by rw [h2]; exact e2
      have v61 : v.1 6 1 = nr := by rw [hs 6 (by simp only [List.mem_cons, List.not_mem_nil, or_false]; omega)]; exact g4
      refine k_196_4 (d := d + 5) hO ?_
      rw [v2, v61]
      refine ⟨sx_6, ⟨by omega, by omega⟩, ⟨by omega, by omega⟩, ?_⟩
      rw [if_neg (by omega)]
      have e : r = nr := by omega
      exact ⟨h2, hs, by rw [e]⟩
    | succ k ih =>
      intro r v hr h2 hs
      have v2 : v.2 a 2 = 6 := by rw [h2]; exact e2
      have v61 : v.1 6 1 = nr := by rw [hs 6 (by simp only [List.mem_cons, List.not_mem_nil, or_false]; omega)]; exact g4
      refine k_196_4 (d := d + 5) hO ?_
      rw [v2, v61]
      refine ⟨sx_6, ⟨by omega, by omega⟩, ⟨by omega, by omega⟩, ?_⟩
      rw [if_pos (by omega)]
      have inner : ∀ (k' p : Nat) (w : uS), p + k' = n → w.2 = u.2 → sb1 u w [a + 17, a + 18] → K_196 (d + 6) 18 [.ref a, lV (foP (f r) (foR f n r) p), .retAddr 0, iV (r : Int), iV (p : Int)] [] w (fun c u' => u'.2 = u.2 ∧ sb1 u u' [a + 17, a + 18] ∧ c = foR f n nr) := by
        intro k'
        induction k' with
        | zero =>
          intro p w hp w2 ws
          have w3 : w.2 a 3 = mk := by rw [w2]; exact e3
          have wm : w.1 mk = u.1 mk := ws mk (by simp only [List.mem_cons, List.not_mem_nil, or_false]; omega)
          refine k_196_18 (d := d + 5) hO ?_
          rw [w3, wm, g8]
          refine ⟨hM, ⟨by omega, by omega⟩, ⟨by omega, by omega⟩, ?_⟩
          rw [if_neg (by omega)]
          have := ih (r + 1) w (by omega) w2 ws
          rw [show ((r + 1 : Nat) : Int) = (r : Int) + 1 by omega] at this
          have e : p = n := by omega
          rw [e]
          exact this
        | succ k' ih' =>
          intro p w hp w2 ws
          have w3 : w.2 a 3 = mk := by rw [w2]; exact e3
          have w22 : w.2 a 2 = 6 := by rw [w2]; exact e2
          have wm : w.1 mk = u.1 mk := ws mk (by simp only [List.mem_cons, List.not_mem_nil, or_false]; omega)
          refine k_196_18 (d := d + 5) hO ?_
          rw [w3, wm, g8]
          refine ⟨hM, ⟨by omega, by omega⟩, ⟨by omega, by omega⟩, ?_⟩
          rw [if_pos (by omega)]
          have hGw : GMc w nv nr n mk := GMc_of hG (by rw [ws 6 (by simp only [List.mem_cons, List.not_mem_nil, or_false]; omega)]) (by rw [ws 6 (by simp only [List.mem_cons, List.not_mem_nil, or_false]; omega)]) (ws 8 (by simp only [List.mem_cons, List.not_mem_nil, or_false]; omega)) (ws 9 (by simp only [List.mem_cons, List.not_mem_nil, or_false]; omega)) (ws 10 (by simp only [List.mem_cons, List.not_mem_nil, or_false]; omega)) (by rw [wm]) (ws _ (by simp only [List.mem_cons, List.not_mem_nil, or_false]; omega))
          refine cL.mono (q_197 (d := d + 1) (r := (r : Int)) (p := (p : Int)) ha hmk hO hM hGw w22 w3 (by omega) (by omega) ⟨by omega, by omega⟩ (by rw [ws (a + 1) (by simp)]; exact hk)) (Nat.le_refl _) (fun c w' ⟨y1, y2, y3⟩ => ?_)
          have est : stCf w a mk = stCf u a mk := by
            funext s o q
            unfold stCf
            rw [ws (mk + 1) (by simp only [List.mem_cons, List.not_mem_nil, or_false]; omega), ws (a + 1) (by simp)]
          have elr : lrw w r = lrw u r := by unfold lrw; rw [ws 10 (by simp only [List.mem_cons, List.not_mem_nil, or_false]; omega)]
          have e9 : w.1 9 = u.1 9 := ws 9 (by simp only [List.mem_cons, List.not_mem_nil, or_false]; omega)
          rw [est, elr, e9] at y3
          have ec : c = f r p := by rw [← hf]; exact y3
          have hacc : cB (foP (f r) (foR f n r) p) := foP_R (hRR r) p (fun i _ => hfR' _ _)
          rw [ec]
          refine ⟨Or.inr hacc, Or.inr (hfR' _ _), ?_⟩
          rw [pl_sq9 hacc (hfR' _ _)]
          have := ih' (p + 1) w' (by omega) (y1.trans w2) (fun b hb => (y2 b hb).trans (ws b hb))
          rw [show ((p + 1 : Nat) : Int) = (p : Int) + 1 by omega] at this
          exact this
      exact inner n 0 v (by omega) h2 hs
  exact e_196 (d := d + 5) hO (outer nr 0 u (by omega) rfl (sb1_refl _ _))
theorem acW_congr {st st' : Int → Int → Bool} {h h' : Int → Int} {q : Int} : ∀ (n : Nat), (∀ o : Nat, o < n → st o q = st' o q ∧ h o = h' o) → acW st h q n = acW st' h' q n
  | 0, _ => rfl
  | n + 1, hh => by
    simp only [acW]
    rw [acW_congr n (fun o ho => hh o (by omega)), (hh n (by omega)).1, (hh n (by omega)).2]
theorem nWy_congr {st st' : Int → Int → Int → Bool} {l l' : Int → Int} {n : Nat} {p : Int} : ∀ (k : Nat), (∀ i : Nat, i < k → ∀ o q, iR n o → iR n q → st (l i) o q = st' (l' i) o q) → ∀ q, iR n q → nWy st l n p k q = nWy st' l' n p k q
  | 0, _, _, _ => rfl
  | k + 1, h, q, hq => acW_congr n (fun o ho => ⟨h k (by omega) o q ⟨by omega, by omega⟩ hq, nWy_congr k (fun i hi => h i (by omega)) o ⟨by omega, by omega⟩⟩)
theorem foP_congr {f g : Int → Int} {acc : Int} : ∀ (n : Nat), (∀ o : Nat, o < n → f o = g o) → foP f acc n = foP g acc n
  | 0, _ => rfl
  | n + 1, h => by
    simp only [foP]
    rw [foP_congr n (fun o ho => h o (by omega)), h n (by omega)]
theorem foR_congr {f g : Int → Int → Int} {n : Nat} : ∀ (k : Nat), (∀ r p : Nat, r < k → p < n → f r p = g r p) → foR f n k = foR g n k
  | 0, _ => rfl
  | k + 1, h => by
    simp only [foR]
    rw [foR_congr k (fun r p hr hp => h r p (by omega) hp)]
    exact foP_congr n (fun p hp => h k p (by omega) hp)
