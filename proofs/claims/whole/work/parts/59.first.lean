/-! The other side's first calls; the first state u0 -/
def one (u : uS) (m : Int) : uS := fil (wr (wr u 301 m 1) 303 (40 * m) 0) 302 (400 * m) (400 * m + 10) 0
theorem q_201 {d : Nat} {u : uS} {m : Int} (h0 : 0 ≤ m) (h1 : m < 100) : cV (d + 1) 201 [.ref 271, iV m] u (fun u' => u' = one u m) := by
  refine e_201 ⟨h0, h1, fun u2 e2 => ⟨by omega, by omega, fun u3 e3 => ?_⟩⟩
  have e4 : u3 = wr (wr u 301 m 1) 303 (40 * m) 0 := by rw [e3, e2]
  have loop : ∀ (k : Nat) (i : Int) (v : uS), 0 ≤ i → i + k = 10 → v = fil u3 302 (400 * m) (400 * m + i) 0 → K_201 d 19 [.ref 271, iV m, iV i] [] v (fun u' => u' = one u m) := by
    intro k
    induction k with
    | zero =>
      intro i v hi he hv
      refine k_201_19 ⟨⟨by omega, by omega⟩, ?_⟩
      rw [if_neg (by omega), hv, show i = 10 by omega, e4]
      rfl
    | succ k ih =>
      intro i v hi he hv
      refine k_201_19 ⟨⟨by omega, by omega⟩, ?_⟩
      rw [if_pos (by omega)]
      refine ⟨by omega, by omega, fun v2 e => ?_⟩
      refine ih (i + 1) v2 (by omega) (by omega) ?_
      rw [e, hv, fil_s (by omega), show 400 * m + i + 1 = 400 * m + (i + 1) by omega]
  exact loop 10 0 u3 (Int.le_refl 0) rfl (by rw [show 400 * m + 0 = 400 * m by omega, fil_0])
def u0 : uS := one (one u1 0) 1
theorem okx_okU {d own nL : Nat} {ini : Bool} {ret : Option FieldType} {cc : ByteArray} {pc : Nat} {lv : ev_L} {st : List Value} {u v : uS} (h : okU d own nL ini ret cc (qV (fun u' => u' = v)) pc lv st u) : okx d own nL ini ret cc pc lv st (wo u) (wo v) 0 0 := by
  obtain ⟨f, o, w', h1, u', e, ho, hq⟩ := h
  refine ⟨f, fun k n => ?_⟩
  rw [h1 k n, e, ho, hq]
  rfl
theorem mk12_b {d : Nat} : okx (d + 2) 12 1 true none prog_14_method_1_code 629 [.ref 271] [] (blk_0 0 ++ blk_12 271) (wo u0) 0 0 := by
  rw [w1_eq]
  refine okx_okU ?_
  refine u_ld (v := .ref 271) (pc := 629) (dec_at lsk_200 (k := 298) rfl) rfl ?_
  refine u_ld (v := iV 0) (pc := 630) (dec_at lsk_200 (k := 299) rfl) rfl ?_
  refine u_cvV (As := [iV 0]) (rb := 271) (st2 := []) (pc := 631) (dec_at lsk_200 (k := 300) rfl) m_12_238 (Or.inl rfl) rfl (Nat.zero_le _) sx_271 me_201 rfl (q_201 (Int.le_refl 0) (by decide)) (fun u' e1 => ?_)
  refine u_ld (v := .ref 271) (pc := 634) (dec_at lsk_200 (k := 301) rfl) rfl ?_
  refine u_ld (v := iV 1) (pc := 635) (dec_at lsk_200 (k := 302) rfl) rfl ?_
  refine u_cvV (As := [iV 1]) (rb := 271) (st2 := []) (pc := 636) (dec_at lsk_200 (k := 303) rfl) m_12_238 (Or.inl rfl) rfl (Nat.zero_le _) sx_271 me_201 rfl (q_201 (by decide) (by decide)) (fun u'' e2 => ?_)
  exact u_rV (pc := 639) (dec_at lsk_200 (k := 304) rfl) rfl (by rw [e2, e1]; rfl)
/-- both makers, one behind the other: the world is wo u0 -/
theorem mk_both {d : Nat} : okmx (d + 5) 0 [.ref 0] [.inr (0, (ev_cty 0).map defaultValue)] (blk_0 0) 270 709852 ∧ okmx (d + 3) 200 [.ref 271] (blk_0 0 ++ [.inr (12, (ev_cty 12).map defaultValue)]) (wo u0) 74 564272 := by
  refine ⟨?_, mk_12 (blk_0_len 0) mk12_b⟩
  exact mk_0 [] rfl
