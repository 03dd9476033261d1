/-! The witness: leastStates, choose, below -/
theorem sts_ext {M : Mg} {L H : T3} {x p q r : Int} {S C : Nat → Int} {m : Nat} {b : Int} (h : sts M L H x p q r S C m) (hn : nx M L H x p q r m (S m) (C m) b) (hl : ∀ b', 0 ≤ b' → b' < b → ¬ nx M L H x p q r m (S m) (C m) b') {c1 g1 : Int} (hs : stk M (Fe M L) L H (xy M r m) (S m) b c1 g1) : ∃ S' C', sts M L H x p q r S' C' (m + 1) ∧ S' (m + 1) = b ∧ C' (m + 1) = C m + c1 ∧ ∀ k, k ≤ m → S k = S' k :=
  ⟨_, _, sts_add h hn hl hs, if_pos rfl, if_pos rfl, fun k hk => (if_neg (by omega)).symm⟩
theorem q_169 {e mk : Nat} {M : Mg} {L H : T3} {u : uS} {x p q r : Int} (hmk : mk = 59 ∨ mk = 61) (hMO : isO mk 5) (hM : Mok M) (hS : LHs M L H) (hW : sW M mk L H u) (hk : Kv M u x p q) (hcl : clK M L H (Kv M u) x p q) (r0 : 0 ≤ r) (r1 : r < xr M) (rh : xh M r = x) (hfit : fit M L H x p q r) (hR : RV M L H (Kv M u) (H x p q) r p q 0 u) : cI (e + 4) 169 [.ref 231, iV r, iV (tcx (xn M) x p q)] u (fun c w => w = u ∧ ∃ S C, sts M L H x p q r S C (xl M r).toNat ∧ pk c S ((xl M r).toNat - 1)) := by
  obtain ⟨m1, m2, m3, m4, m5, m6⟩ := id hM
  obtain ⟨nb1, nb2, nb3, nb4⟩ := nn_b m1 m4
  obtain ⟨l1, l2, l3, l4⟩ := m5 r r0 r1
  obtain ⟨w1, w2, w3, w4, w5, w6, w7⟩ := id hW
  obtain ⟨a1, a2, a3⟩ := w3 r r0 r1
  obtain ⟨hx, hp, hq, -⟩ := id hk
  obtain ⟨b1, b2, b3, b4⟩ := tcx_b hx hp hq
  obtain ⟨d1, d2, d3, d4⟩ := tcx_d (x := x) hp hq
  obtain ⟨hfe, v44, v45⟩ := w7 x p q hk
  have p0 := hp.1
  have p1 := hp.2
  generalize ht : tcx (xn M) x p q = t at *
  generalize hQQ : (fun (c : Int) (w : uS) => w = u ∧ ∃ S C, sts M L H x p q r S C (xl M r).toNat ∧ pk c S ((xl M r).toNat - 1)) = Q
  have loop : ∀ (m' m : Nat) (S C : Nat → Int) (v : Int), m + m' = (xl M r).toNat → sts M L H x p q r S C m → pk v S (min m ((xl M r).toNat - 1)) → K_169 (e + 3) 18 [.ref 231, iV r, iV t, iV v, iV (S m), lV (min 4000000000000000000 (C m)), .retAddr 0, iV (m : Int), .retAddr 0, .retAddr 0] [] u Q := by
    intro m'
    induction m' with
    | zero =>
      intro m S C v hm hs hpk
      refine k_169_18 ⟨r0, by omega, ⟨by omega, by omega⟩, ?_⟩
      rw [a2]
      refine ⟨⟨by omega, by omega⟩, ?_⟩
      rw [if_neg (by omega), ← hQQ]
      rw [show m = (xl M r).toNat by omega] at hs hpk
      rw [show min (xl M r).toNat ((xl M r).toNat - 1) = (xl M r).toNat - 1 by omega] at hpk
      exact ⟨rfl, S, C, hs, hpk⟩
    | succ m' ih =>
      intro m S C v hm hs hpk
      have hmi : (m : Int) < xl M r := by omega
      have hml : m < (xl M r).toNat := by omega
      have hC := sts_C hS hp hs
      have hSm := (sts_wk hS hp m hs).1
      have s0 := hSm.1
      have s1 := hSm.2
      have hsy := l4 m (by omega) hmi
      have tail : ∀ b c1 g1, nx M L H x p q r m (S m) (C m) b → (∀ b', 0 ≤ b' → b' < b → ¬ nx M L H x p q r m (S m) (C m) b') → stk M (Fe M L) L H (xy M r m) (S m) b c1 g1 → (if (m : Int) < xl M r - 1 then K_169 (e + 3) 18 [.ref 231, iV r, iV t, iV (ior v (ishl b (6 * (m : Int)))), iV b, lV (min 4000000000000000000 (C m + c1)), .retAddr 0, iV ((m : Int) + 1), .retAddr 0, .retAddr 0] [] u Q else K_169 (e + 3) 18 [.ref 231, iV r, iV t, iV v, iV b, lV (min 4000000000000000000 (C m + c1)), .retAddr 0, iV ((m : Int) + 1), .retAddr 0, .retAddr 0] [] u Q) := fun b c1 g1 hn hl hst => by
        obtain ⟨S', C', k1, k2, k3, k4⟩ := sts_ext hs hn hl hst
        have hbR : iR (xn M) b := by
          obtain ⟨_, _, _, _, hb, _⟩ := hn
          exact hb
        have hb0 := hbR.1
        have hb1 := hbR.2
        by_cases c : (m : Int) < xl M r - 1
        · rw [if_pos c]
          rw [show min m ((xl M r).toNat - 1) = m by omega] at hpk
          have hpk' := pk_add (pk_congr hpk k4) (by omega) hb0 (by omega) k2
          have := ih (m + 1) S' C' _ (by omega) k1 (by rw [show min (m + 1) ((xl M r).toNat - 1) = m + 1 by omega]; exact hpk')
          rw [k2, k3, show ((m + 1 : Nat) : Int) = (m : Int) + 1 by omega] at this
          exact this
        · rw [if_neg c]
          have hpk' := pk_congr hpk (fun k hk' => k4 k (by omega))
          have := ih (m + 1) S' C' v (by omega) k1 (by rw [show min (m + 1) ((xl M r).toNat - 1) = min m ((xl M r).toNat - 1) by omega]; exact hpk')
          rw [k2, k3, show ((m + 1 : Nat) : Int) = (m : Int) + 1 by omega] at this
          exact this
      refine k_169_18 ⟨r0, by omega, ⟨by omega, by omega⟩, ?_⟩
      rw [a2, a3 m (by omega) hmi, w1]
      refine ⟨⟨by omega, by omega⟩, ?_⟩
      rw [if_pos hmi]
      refine ⟨by omega, by omega, ?_, ?_⟩
      · unfold symR at hsy
        exact ⟨by omega, by omega⟩
      by_cases cx : xy M r m < 100
      · rw [if_pos cx, w4]
        have hs10 : 0 ≤ xy M r m ∧ xy M r m < 10 := by unfold symR at hsy; omega
        obtain ⟨b, hb⟩ := sts_next hfit hml hs
        have eb : ∀ b', nx M L H x p q r m (S m) (C m) b' → b' = xd M (S m) (xy M r m) := fun b' h' => by
          rcases nx_K hS hfe hcl hC h' with ⟨-, z⟩ | ⟨z, -⟩
          · exact z
          · exact absurd cx z
        have hb' := hb
        rw [eb b hb] at hb'
        have epl : pl 9000000000000000000 (min 4000000000000000000 (C m)) 1 = min 4000000000000000000 (C m + 1) := by
          unfold pl
          rw [if_neg (by omega)]
          omega
        rw [epl]
        refine ⟨hMO, by omega, by omega, Or.inr ⟨by omega, by omega⟩, Or.inr (by omega), ⟨by omega, by omega⟩, ?_⟩
        exact tail _ 1 0 hb' (fun b' _ hlt hn' => by have := eb b' hn'; omega) (by unfold stk; rw [if_pos cx]; exact ⟨rfl, rfl, rfl⟩)
      · rw [if_neg cx]
        have h170 := q_170 (e := e) (m := m) hmk hM hS hW hk hcl r0 r1 rh hfit hR hml hs cx
        rw [ht] at h170
        refine cI.mono h170 (Nat.le_refl _) (fun b w ⟨ew, hn, hkb, hl⟩ => ?_)
        rw [ew]
        obtain ⟨kfe, k44, k45⟩ := w7 _ _ _ hkb
        obtain ⟨kf1, kf2, kf3⟩ := Fe_b hS kfe
        obtain ⟨pb1, pb2, pb3, pb4⟩ := tcx_b hkb.1 hkb.2.1 hkb.2.2.1
        rw [w5, show ((xy M r m - 100) * (xn M : Int) + S m) * (xn M : Int) + b = tcx (xn M) (xy M r m - 100) (S m) b from rfl, k44]
        have epl : pl 9000000000000000000 (min 4000000000000000000 (C m)) (L (xy M r m - 100) (S m) b) = min 4000000000000000000 (C m + L (xy M r m - 100) (S m) b) := by
          unfold cB at kf1
          unfold pl
          rw [if_neg (by omega)]
          omega
        rw [epl, a2]
        refine ⟨pb3, by omega, Or.inr ⟨by omega, by omega⟩, Or.inr kf1, ⟨by omega, by omega⟩, ?_⟩
        exact tail b _ _ hn hl (by unfold stk; rw [if_neg cx]; exact ⟨kfe, rfl, rfl⟩)
  refine e_169 ?_
  rw [w5, Int.tdiv_eq_ediv_of_nonneg b3, d1, Int.tmod_eq_emod_of_nonneg b1, d4]
  refine ⟨⟨by omega, by omega⟩, ⟨by omega, by omega⟩, by omega, ⟨by omega, by omega⟩, ?_⟩
  have := loop (xl M r).toNat 0 (fun _ => p) (fun _ => 0) 0 (by omega) ⟨rfl, rfl, fun i hi => by omega⟩ (by rw [Nat.zero_min]; exact pk_0 _)
  exact this
/-- what is chosen for a triple -/
def CHc (M : Mg) (L H : T3) (v : uS) (x p q r : Int) (S : Nat → Int) : Prop := v.1 266 (tcx (xn M) x p q) = r ∧ CH M L H x p q r S ∧ pk (v.1 267 (tcx (xn M) x p q)) S ((xl M r).toNat - 1)
theorem q_166 {e mk : Nat} {M : Mg} {L H : T3} {u : uS} {x p q : Int} (hmk : mk = 59 ∨ mk = 61) (hMO : isO mk 5) (hM : Mok M) (hS : LHs M L H) (hW : sW M mk L H u) (hk : Kv M u x p q) (hcl : clK M L H (Kv M u) x p q) : cV (e + 8) 166 [.ref 231, iV (tcx (xn M) x p q)] u (fun w => w.2 = u.2 ∧ sb1 u w [266, 267, 269, 270] ∧ (∀ t, t ≠ tcx (xn M) x p q → w.1 266 t = u.1 266 t ∧ w.1 267 t = u.1 267 t) ∧ ∃ r S, CHc M L H w x p q r S) := by
  obtain ⟨m1, m2, m3, m4, m5, m6⟩ := id hM
  obtain ⟨nb1, nb2, nb3, nb4⟩ := nn_b m1 m4
  obtain ⟨w1, w2, w3, w4, w5, w6, w7⟩ := id hW
  obtain ⟨hx, hp, hq, -⟩ := id hk
  obtain ⟨b1, b2, b3, b4⟩ := tcx_b hx hp hq
  obtain ⟨d1, d2, d3, d4⟩ := tcx_d (x := x) hp hq
  obtain ⟨hfe, v44, v45⟩ := w7 x p q hk
  have x0 := hx.1
  have x1 := hx.2
  generalize hQQ : (fun (w : uS) => w.2 = u.2 ∧ sb1 u w [266, 267, 269, 270] ∧ (∀ t, t ≠ tcx (xn M) x p q → w.1 266 t = u.1 266 t ∧ w.1 267 t = u.1 267 t) ∧ ∃ r S, CHc M L H w x p q r S) = Q
  have loop : ∀ (m : Nat) (r : Int) (w : uS), 0 ≤ r → r + m = xr M → (∀ r', 0 ≤ r' → r' < r → xh M r' = x → ¬ fit M L H x p q r') → w.2 = u.2 → sb1 u w [269, 270] → K_166 (e + 7) 11 [.ref 231, iV (tcx (xn M) x p q), iV x, iV r] [] w Q := by
    intro m
    induction m with
    | zero =>
      intro r w r0 re hno w2' ws
      exfalso
      obtain ⟨r', q1, q2, q3, q4⟩ := fit_ex hM hS hfe
      exact hno r' q1 (by omega) q3 q4
    | succ m ih =>
      intro r w r0 re hno w2' ws
      have r1 : r < xr M := by omega
      have hWw : sW M mk L H w := sW_tr hmk hW w2' (sb1_sub ws (by decide))
      have eKw : Kv M w = Kv M u := Kv_eq (ws 247 (by decide))
      obtain ⟨l1, l2, l3, l4⟩ := m5 r r0 r1
      have l10 := l1.1
      have l11 := l1.2
      obtain ⟨a1, a2, a3⟩ := hWw.2.2.1 r r0 r1
      refine k_166_11 ⟨⟨by omega, by omega⟩, ?_⟩
      rw [hWw.2.1, a1]
      refine ⟨⟨by omega, by omega⟩, ?_⟩
      rw [if_pos r1]
      refine ⟨r0, by omega, ⟨by omega, by omega⟩, ⟨by omega, by omega⟩, ?_⟩
      by_cases ex : xh M r = x
      · rw [if_pos ex]
        refine cI.mono (q_167 (e := e) hmk hMO hM hS hWw (by rw [eKw]; exact hk) (by rw [eKw]; exact hcl) r0 r1 ex) (Nat.le_refl _) (fun c z ⟨z2, zs, zc, zR⟩ => ?_)
        have z2' : z.2 = u.2 := z2.trans w2'
        have zs' : sb1 u z [269, 270] := sb1_trans ws zs
        rcases zc with ⟨c1, hf⟩ | ⟨c0, hf⟩
        · rw [c1]
          refine ⟨⟨by omega, by omega⟩, ?_⟩
          rw [if_neg (by omega)]
          refine ⟨b3, by omega, fun y ey => ?_⟩
          have y2 : y.2 = u.2 := by rw [ey, wr_2]; exact z2'
          have ys : sb1 u y [266, 267, 269, 270] := by
            rw [ey]
            exact sb1_wr (sb1_sub zs' (by decide)) (by decide)
          have hWy : sW M mk L H y := sW_tr hmk hW y2 (sb1_sub ys (by decide))
          have eKy : Kv M y = Kv M u := Kv_eq (ys 247 (by decide))
          have y70 : y.1 270 = z.1 270 := by rw [ey, wr_ne (by omega)]
          have hRy : RV M L H (Kv M y) (H x p q) r p q 0 y := fun d hd hl b hb hfo => by
            rw [y70, eKy]
            rw [eKy] at hfo
            have := zR d hd hl b hb (by rw [eKw]; exact hfo)
            rw [eKw] at this
            exact this
          refine cI.mono (q_169 (e := e + 3) hmk hMO hM hS hWy (by rw [eKy]; exact hk) (by rw [eKy]; exact hcl) r0 r1 ex hf hRy) (Nat.le_refl _) (fun c' o ⟨eo, S, C, hs, hpk⟩ => ?_)
          rw [eo]
          intro o' eo'
          rw [← hQQ]
          have o66 : o'.1 266 = uf (z.1 266) (tcx (xn M) x p q) r := by rw [eo', wr_ne (by omega), ey, wr_uf]
          have o67 : o'.1 267 = uf (z.1 267) (tcx (xn M) x p q) c' := by rw [eo', wr_uf, ey, wr_ne (by omega)]
          refine ⟨by rw [eo', wr_2]; exact y2, by rw [eo']; exact sb1_wr ys (by decide), fun t ht => ?_, r, S, by rw [o66, uf_eq], ⟨r0, r1, ex, hf, hno, C, hs⟩, by rw [o67, uf_eq]; exact hpk⟩
          rw [o66, o67, uf_ne ht, uf_ne ht, zs' 266 (by decide), zs' 267 (by decide)]
          exact ⟨rfl, rfl⟩
        · rw [c0]
          refine ⟨⟨by omega, by omega⟩, ?_⟩
          rw [if_pos rfl]
          refine ih (r + 1) z (by omega) (by omega) (fun r' q1 q2 q3 => ?_) z2' zs'
          by_cases er : r' = r
          · rw [er]; exact hf
          · exact hno r' q1 (by omega) q3
      · rw [if_neg ex]
        refine ih (r + 1) w (by omega) (by omega) (fun r' q1 q2 q3 => ?_) w2' ws
        by_cases er : r' = r
        · rw [er] at q3; exact absurd q3 ex
        · exact hno r' q1 (by omega) q3
  refine e_166 ?_
  rw [w5, Int.tdiv_eq_ediv_of_nonneg b3, d1, Int.tdiv_eq_ediv_of_nonneg b1, d3]
  refine ⟨⟨by omega, by omega⟩, ⟨by omega, by omega⟩, by omega, ⟨by omega, by omega⟩, ?_⟩
  exact loop (xr M) 0 u (Int.le_refl 0) (by omega) (fun r' q1 q2 => by omega) rfl (sb1_refl _ _)
