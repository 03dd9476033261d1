/-! Conditions (wip/tools/gen_k.py) -/
/-- method 201 -/
def K_201 (d pc : Nat) (lv : ev_L) (st : List Value) (u : uS) (Q : uS → Prop) : Prop := okU d 12 3 false none prog_14_method_36_code (qV Q) pc lv st u
theorem e_201 {d : Nat} {Q : uS → Prop} {u : uS} {l1 : Int} (h : (0 ≤ l1) ∧ ((l1 < 100) ∧ (∀ u3 : uS, u3 = wr u 301 l1 1 → ((0 ≤ 40 * l1) ∧ ((40 * l1 < 4000) ∧ (∀ u7 : uS, u7 = wr u3 303 (40 * l1) 0 → (K_201 d 19 [.ref 271, iV l1, iV 0] [] u7 Q))))))) : cV (d + 1) 201 [.ref 271, iV l1] u Q := by
  refine u_of me_201 (Nat.le_of_ble_eq_true rfl) ?_
  refine u_ld (v := .ref 271) (pc := 0) (dec_at lsk_201 (k := 0) rfl) rfl ?_
  refine u_gS (o := 30) (p := 301) (pc := 1) (dec_at lsk_201 (k := 1) rfl) f_12_99 sx_271 rfl rfl ?_
  refine u_ld (v := iV l1) (pc := 4) (dec_at lsk_201 (k := 2) rfl) rfl ?_
  refine u_ld (v := iV 1) (pc := 5) (dec_at lsk_201 (k := 3) rfl) rfl ?_
  have g1 := h.1
  have h := h.2
  have g2 := h.1
  have h := h.2
  refine u_iast (pc := 6) (dec_at lsk_201 (k := 4) rfl) sx_301 g1 g2 (fun u3 e4 => ?_)
  have h := h u3 e4
  refine u_ld (v := .ref 271) (pc := 7) (dec_at lsk_201 (k := 5) rfl) rfl ?_
  refine u_gS (o := 32) (p := 303) (pc := 8) (dec_at lsk_201 (k := 6) rfl) f_12_106 sx_271 rfl rfl ?_
  refine u_c (x := 40) (pc := 11) (dec_at lsk_201 (k := 7) rfl) rfl (by decide) ?_
  refine u_ld (v := iV l1) (pc := 13) (dec_at lsk_201 (k := 8) rfl) rfl ?_
  refine u_imul (pc := 14) (dec_at lsk_201 (k := 9) rfl) ?_
  refine u_ld (v := iV 0) (pc := 15) (dec_at lsk_201 (k := 10) rfl) rfl ?_
  have g5 := h.1
  have h := h.2
  have g6 := h.1
  have h := h.2
  refine u_zast (pc := 16) (dec_at lsk_201 (k := 11) rfl) sx_303 g5 g6 (by decide) (fun u7 e8 => ?_)
  have h := h u7 e8
  refine u_ld (v := iV 0) (pc := 17) (dec_at lsk_201 (k := 12) rfl) rfl ?_
  refine u_sto (lv' := [.ref 271, iV l1, iV 0]) (pc := 18) (dec_at lsk_201 (k := 13) rfl) rfl ?_
  exact h
theorem k_201_19 {d : Nat} {Q : uS → Prop} {u : uS} {l1 l2 : Int} (h : (rI l2) ∧ (if l2 < 10 then ((0 ≤ (400 * l1) + l2) ∧ (((400 * l1) + l2 < 40000) ∧ (∀ u5 : uS, u5 = wr u 302 ((400 * l1) + l2) 0 → (K_201 d 19 [.ref 271, iV l1, iV (l2 + 1)] [] u5 Q)))) else (Q u))) : K_201 d 19 [.ref 271, iV l1, iV l2] [] u Q := by
  unfold K_201
  refine u_ld (v := iV l2) (pc := 19) (dec_at lsk_201 (k := 14) rfl) rfl ?_
  refine u_c (x := 10) (pc := 20) (dec_at lsk_201 (k := 15) rfl) rfl (by decide) ?_
  have g1 := h.1
  have h := h.2
  refine u_icF (pc := 22) (tgt := 44) (dec_at lsk_201 (k := 16) rfl) rfl (ci_ge g1 (by decide)) (fun e2 => ?_) (fun e2 => ?_)
  · have h := ifT e2 h
    refine u_ld (v := .ref 271) (pc := 25) (dec_at lsk_201 (k := 17) rfl) rfl ?_
    refine u_gS (o := 31) (p := 302) (pc := 26) (dec_at lsk_201 (k := 18) rfl) f_12_103 sx_271 rfl rfl ?_
    refine u_c (x := 400) (pc := 29) (dec_at lsk_201 (k := 19) rfl) rfl (by decide) ?_
    refine u_ld (v := iV l1) (pc := 32) (dec_at lsk_201 (k := 20) rfl) rfl ?_
    refine u_imul (pc := 33) (dec_at lsk_201 (k := 21) rfl) ?_
    refine u_ld (v := iV l2) (pc := 34) (dec_at lsk_201 (k := 22) rfl) rfl ?_
    refine u_iadd (pc := 35) (dec_at lsk_201 (k := 23) rfl) ?_
    refine u_ld (v := iV 0) (pc := 36) (dec_at lsk_201 (k := 24) rfl) rfl ?_
    have g3 := h.1
    have h := h.2
    have g4 := h.1
    have h := h.2
    refine u_iast (pc := 37) (dec_at lsk_201 (k := 25) rfl) sx_302 g3 g4 (fun u5 e6 => ?_)
    have h := h u5 e6
    refine u_inc (lv' := [.ref 271, iV l1, iV (l2 + 1)]) (pc := 38) (dec_at lsk_201 (k := 26) rfl) rfl (by decide) rfl ?_
    refine u_goto (pc := 41) (tgt := 19) (dec_at lsk_201 (k := 27) rfl) rfl ?_
    exact h
  · have h := ifF e2 h
    exact u_rV (pc := 44) (dec_at lsk_201 (k := 28) rfl) rfl h
/-- method 202 -/
def K_202 (d pc : Nat) (lv : ev_L) (st : List Value) (u : uS) (Q : Int → uS → Prop) : Prop := okU d 12 2 false (some .int) prog_14_method_6_code (qI Q) pc lv st u
theorem e_202 {d : Nat} {Q : Int → uS → Prop} {u : uS} {l1 : Int} (h : (rI l1) ∧ (if l1 < 32 then (Q (-1) u) else (if 126 < l1 then (Q (-1) u) else ((rI (u.1 271 1)) ∧ (if u.1 271 1 = 300 then (Q (-1) u) else ((0 ≤ u.1 271 1) ∧ ((u.1 271 1 < 300) ∧ (∀ u8 : uS, u8 = wr u 272 (u.1 271 1) l1 → (∀ u10 : uS, u10 = wr u8 271 1 ((u8.1 271 1) + 1) → (Q (u10.1 271 1) u10)))))))))) : cI (d + 2) 202 [.ref 271, iV l1] u Q := by
  refine u_of me_202 (Nat.le_of_ble_eq_true rfl) ?_
  refine u_ld (v := iV l1) (pc := 0) (dec_at lsk_202 (k := 0) rfl) rfl ?_
  have g1 := h.1
  have h := h.2
  refine u_i2l (pc := 1) (dec_at lsk_202 (k := 1) rfl) g1 ?_
  refine u_ldc2 (x := 32) (pc := 2) (dec_at lsk_202 (k := 2) rfl) con_12_246 (by decide) ?_
  refine u_ldc2 (x := 126) (pc := 5) (dec_at lsk_202 (k := 3) rfl) con_12_248 (by decide) ?_
  refine u_csI (As := [lV l1, lV 32, lV 126]) (st2 := []) (pc := 8) (dec_at lsk_202 (k := 4) rfl) m_12_250 (Or.inl rfl) rfl (Nat.le_of_ble_eq_true rfl) ?_ (fun _ _ h_ => h_)
  refine u_of me_203 (Nat.le_of_ble_eq_true rfl) ?_
  refine u_ld (v := lV l1) (pc := 0) (dec_at lsk_203 (k := 0) rfl) rfl ?_
  refine u_ld (v := lV 32) (pc := 1) (dec_at lsk_203 (k := 1) rfl) rfl ?_
  refine u_st (st' := [.int (lg_cmp (Int64.ofInt l1) (Int64.ofInt 32))]) (pc := 2) (dec_at lsk_203 (k := 2) rfl) rfl ?_
  refine u_ifT (pc := 3) (tgt := 17) (dec_at lsk_203 (k := 3) rfl) rfl (cl_lt (rl_ri g1) (by decide)) (fun e2 => ?_) (fun e2 => ?_)
  · have h := ifT e2 h
    refine u_ld (v := iV 0) (pc := 17) (dec_at lsk_203 (k := 10) rfl) rfl ?_
    refine u_rZ (pc := 18) (dec_at lsk_203 (k := 11) rfl) rfl (by decide) ?_
    refine u_ifT (pc := 11) (tgt := 24) (dec_at lsk_202 (k := 5) rfl) rfl (c0_eq (by decide)) (fun _ => ?_) (fun e => absurd e (by decide))
    refine u_ld (v := iV (-1)) (pc := 24) (dec_at lsk_202 (k := 10) rfl) rfl ?_
    exact u_rI (pc := 25) (dec_at lsk_202 (k := 11) rfl) rfl h
  · have h := ifF e2 h
    refine u_ld (v := lV l1) (pc := 6) (dec_at lsk_203 (k := 4) rfl) rfl ?_
    refine u_ld (v := lV 126) (pc := 7) (dec_at lsk_203 (k := 5) rfl) rfl ?_
    refine u_st (st' := [.int (lg_cmp (Int64.ofInt l1) (Int64.ofInt 126))]) (pc := 9) (dec_at lsk_203 (k := 6) rfl) rfl ?_
    refine u_ifT (pc := 10) (tgt := 17) (dec_at lsk_203 (k := 7) rfl) rfl (cl_gt (rl_ri g1) (by decide)) (fun e3 => ?_) (fun e3 => ?_)
    · have h := ifT e3 h
      refine u_ld (v := iV 0) (pc := 17) (dec_at lsk_203 (k := 10) rfl) rfl ?_
      refine u_rZ (pc := 18) (dec_at lsk_203 (k := 11) rfl) rfl (by decide) ?_
      refine u_ifT (pc := 11) (tgt := 24) (dec_at lsk_202 (k := 5) rfl) rfl (c0_eq (by decide)) (fun _ => ?_) (fun e => absurd e (by decide))
      refine u_ld (v := iV (-1)) (pc := 24) (dec_at lsk_202 (k := 10) rfl) rfl ?_
      exact u_rI (pc := 25) (dec_at lsk_202 (k := 11) rfl) rfl h
    · have h := ifF e3 h
      refine u_ld (v := iV 1) (pc := 13) (dec_at lsk_203 (k := 8) rfl) rfl ?_
      refine u_goto (pc := 14) (tgt := 18) (dec_at lsk_203 (k := 9) rfl) rfl ?_
      refine u_rZ (pc := 18) (dec_at lsk_203 (k := 11) rfl) rfl (by decide) ?_
      refine u_ifT (pc := 11) (tgt := 24) (dec_at lsk_202 (k := 5) rfl) rfl (c0_eq (by decide)) (fun e => absurd e (by decide)) (fun _ => ?_)
      refine u_ld (v := .ref 271) (pc := 14) (dec_at lsk_202 (k := 6) rfl) rfl ?_
      refine u_gI (z := 1) (pc := 15) (dec_at lsk_202 (k := 7) rfl) f_12_254 sx_271 rfl rfl ?_
      refine u_c (x := 300) (pc := 18) (dec_at lsk_202 (k := 8) rfl) rfl (by decide) ?_
      have g4 := h.1
      have h := h.2
      refine u_icF (pc := 21) (tgt := 26) (dec_at lsk_202 (k := 9) rfl) rfl (ci_ne g4 (by decide)) (fun e5 => ?_) (fun e5 => ?_)
      · have h := ifT e5 h
        refine u_ld (v := iV (-1)) (pc := 24) (dec_at lsk_202 (k := 10) rfl) rfl ?_
        exact u_rI (pc := 25) (dec_at lsk_202 (k := 11) rfl) rfl h
      · have h := ifF e5 h
        refine u_ld (v := .ref 271) (pc := 26) (dec_at lsk_202 (k := 12) rfl) rfl ?_
        refine u_gS (o := 1) (p := 272) (pc := 27) (dec_at lsk_202 (k := 13) rfl) f_12_7 sx_271 rfl rfl ?_
        refine u_ld (v := .ref 271) (pc := 30) (dec_at lsk_202 (k := 14) rfl) rfl ?_
        refine u_gI (z := 1) (pc := 31) (dec_at lsk_202 (k := 15) rfl) f_12_254 sx_271 rfl rfl ?_
        refine u_ld (v := iV l1) (pc := 34) (dec_at lsk_202 (k := 16) rfl) rfl ?_
        have g6 := h.1
        have h := h.2
        have g7 := h.1
        have h := h.2
        refine u_iast (pc := 35) (dec_at lsk_202 (k := 17) rfl) sx_272 g6 g7 (fun u8 e9 => ?_)
        have h := h u8 e9
        refine u_ld (v := .ref 271) (pc := 36) (dec_at lsk_202 (k := 18) rfl) rfl ?_
        refine u_ld (v := .ref 271) (pc := 37) (dec_at lsk_202 (k := 19) rfl) rfl ?_
        refine u_gI (z := 1) (pc := 38) (dec_at lsk_202 (k := 20) rfl) f_12_254 sx_271 rfl rfl ?_
        refine u_ld (v := iV 1) (pc := 41) (dec_at lsk_202 (k := 21) rfl) rfl ?_
        refine u_iadd (pc := 42) (dec_at lsk_202 (k := 22) rfl) ?_
        refine u_pI (z := 1) (pc := 43) (dec_at lsk_202 (k := 23) rfl) f_12_254 sx_271 rfl rfl rfl rfl (fun u10 e11 => ?_)
        have h := h u10 e11
        refine u_ld (v := .ref 271) (pc := 46) (dec_at lsk_202 (k := 24) rfl) rfl ?_
        refine u_gI (z := 1) (pc := 47) (dec_at lsk_202 (k := 25) rfl) f_12_254 sx_271 rfl rfl ?_
        exact u_rI (pc := 50) (dec_at lsk_202 (k := 26) rfl) rfl h
/-- method 204 -/
def K_204 (d pc : Nat) (lv : ev_L) (st : List Value) (u : uS) (Q : Int → uS → Prop) : Prop := okU d 12 4 false (some .int) prog_14_method_8_code (qI Q) pc lv st u
theorem e_204 {d : Nat} {Q : Int → uS → Prop} {u : uS} (h : K_204 (d + 1) 7 [.ref 271, iV 0, iV (-2), iV 0] [] u Q) : cI (d + 2) 204 [.ref 271] u Q := by
  refine u_of me_204 (Nat.le_of_ble_eq_true rfl) ?_
  refine u_ld (v := iV 0) (pc := 0) (dec_at lsk_204 (k := 0) rfl) rfl ?_
  refine u_sto (lv' := [.ref 271, iV 0, .retAddr 0, .retAddr 0]) (pc := 1) (dec_at lsk_204 (k := 1) rfl) rfl ?_
  refine u_c (x := (-2)) (pc := 2) (dec_at lsk_204 (k := 2) rfl) rfl (by decide) ?_
  refine u_sto (lv' := [.ref 271, iV 0, iV (-2), .retAddr 0]) (pc := 4) (dec_at lsk_204 (k := 3) rfl) rfl ?_
  refine u_ld (v := iV 0) (pc := 5) (dec_at lsk_204 (k := 4) rfl) rfl ?_
  refine u_sto (lv' := [.ref 271, iV 0, iV (-2), iV 0]) (pc := 6) (dec_at lsk_204 (k := 5) rfl) rfl ?_
  exact h
theorem k_204_7 {d : Nat} {Q : Int → uS → Prop} {u : uS} {l1 l2 l3 : Int} (h : (rI l3) ∧ ((rI (u.1 271 1)) ∧ (if l3 < u.1 271 1 then ((rI l2) ∧ (if l2 = (-2) then ((0 ≤ l3) ∧ ((l3 < 300) ∧ ((rI (u.1 272 l3)) ∧ (if u.1 272 l3 = 32 then (K_204 (d + 1) 7 [.ref 271, iV l1, iV l2, iV (l3 + 1)] [] u Q) else (if u.1 272 l3 < 97 then (K_204 (d + 1) 7 [.ref 271, iV (l1 + 1), iV l3, iV (l3 + 1)] [] u Q) else (if 106 < u.1 272 l3 then (K_204 (d + 1) 7 [.ref 271, iV (l1 + 1), iV l3, iV (l3 + 1)] [] u Q) else ((rI l1) ∧ (if l1 = 40 then (K_204 (d + 1) 7 [.ref 271, iV (l1 + 1), iV l3, iV (l3 + 1)] [] u Q) else (K_204 (d + 1) 7 [.ref 271, iV (l1 + 1), iV (-2), iV (l3 + 1)] [] u Q))))))))) else (∀ u15 : uS, u15 = wr u 271 1 0 → (Q ((-2) - l2) u15)))) else ((rI l2) ∧ (if l2 = (-2) then (∀ u20 : uS, u20 = wr u 271 3 0 → (K_204 (d + 1) 79 [.ref 271, iV l1, iV l2, iV 0] [] u20 Q)) else (∀ u22 : uS, u22 = wr u 271 1 0 → (Q ((-2) - l2) u22))))))) : K_204 (d + 1) 7 [.ref 271, iV l1, iV l2, iV l3] [] u Q := by
  unfold K_204
  refine u_ld (v := iV l3) (pc := 7) (dec_at lsk_204 (k := 6) rfl) rfl ?_
  refine u_ld (v := .ref 271) (pc := 8) (dec_at lsk_204 (k := 7) rfl) rfl ?_
  refine u_gI (z := 1) (pc := 9) (dec_at lsk_204 (k := 8) rfl) f_12_254 sx_271 rfl rfl ?_
  have g1 := h.1
  have h := h.2
  have g2 := h.1
  have h := h.2
  refine u_icF (pc := 12) (tgt := 66) (dec_at lsk_204 (k := 9) rfl) rfl (ci_ge g1 g2) (fun e3 => ?_) (fun e3 => ?_)
  · have h := ifT e3 h
    refine u_ld (v := iV l2) (pc := 15) (dec_at lsk_204 (k := 10) rfl) rfl ?_
    refine u_c (x := (-2)) (pc := 16) (dec_at lsk_204 (k := 11) rfl) rfl (by decide) ?_
    have g4 := h.1
    have h := h.2
    refine u_icF (pc := 18) (tgt := 66) (dec_at lsk_204 (k := 12) rfl) rfl (ci_ne g4 (by decide)) (fun e5 => ?_) (fun e5 => ?_)
    · have h := ifT e5 h
      refine u_ld (v := .ref 271) (pc := 21) (dec_at lsk_204 (k := 13) rfl) rfl ?_
      refine u_gS (o := 1) (p := 272) (pc := 22) (dec_at lsk_204 (k := 14) rfl) f_12_7 sx_271 rfl rfl ?_
      refine u_ld (v := iV l3) (pc := 25) (dec_at lsk_204 (k := 15) rfl) rfl ?_
      have g6 := h.1
      have h := h.2
      have g7 := h.1
      have h := h.2
      refine u_iald (pc := 26) (dec_at lsk_204 (k := 16) rfl) sx_272 g6 g7 ?_
      refine u_c (x := 32) (pc := 27) (dec_at lsk_204 (k := 17) rfl) rfl (by decide) ?_
      have g8 := h.1
      have h := h.2
      refine u_icT (pc := 29) (tgt := 60) (dec_at lsk_204 (k := 18) rfl) rfl (ci_eq g8 (by decide)) (fun e9 => ?_) (fun e9 => ?_)
      · have h := ifT e9 h
        refine u_inc (lv' := [.ref 271, iV l1, iV l2, iV (l3 + 1)]) (pc := 60) (dec_at lsk_204 (k := 33) rfl) rfl (by decide) rfl ?_
        refine u_goto (pc := 63) (tgt := 7) (dec_at lsk_204 (k := 34) rfl) rfl ?_
        exact h
      · have h := ifF e9 h
        refine u_ld (v := .ref 271) (pc := 32) (dec_at lsk_204 (k := 19) rfl) rfl ?_
        refine u_gS (o := 1) (p := 272) (pc := 33) (dec_at lsk_204 (k := 20) rfl) f_12_7 sx_271 rfl rfl ?_
        refine u_ld (v := iV l3) (pc := 36) (dec_at lsk_204 (k := 21) rfl) rfl ?_
        refine u_iald (pc := 37) (dec_at lsk_204 (k := 22) rfl) sx_272 g6 g7 ?_
        refine u_csI (As := [iV (u.1 272 l3)]) (st2 := []) (pc := 38) (dec_at lsk_204 (k := 23) rfl) m_12_258 (Or.inl rfl) rfl (Nat.le_of_ble_eq_true rfl) ?_ (fun _ _ h_ => h_)
        refine u_of me_205 (Nat.le_of_ble_eq_true rfl) ?_
        refine u_ld (v := iV (u.1 272 l3)) (pc := 0) (dec_at lsk_205 (k := 0) rfl) rfl ?_
        refine u_c (x := 97) (pc := 1) (dec_at lsk_205 (k := 1) rfl) rfl (by decide) ?_
        refine u_icT (pc := 3) (tgt := 16) (dec_at lsk_205 (k := 2) rfl) rfl (ci_lt g8 (by decide)) (fun e10 => ?_) (fun e10 => ?_)
        · have h := ifT e10 h
          refine u_ld (v := iV 0) (pc := 16) (dec_at lsk_205 (k := 8) rfl) rfl ?_
          refine u_rZ (pc := 17) (dec_at lsk_205 (k := 9) rfl) rfl (by decide) ?_
          refine u_ifT (pc := 41) (tgt := 50) (dec_at lsk_204 (k := 24) rfl) rfl (c0_eq (by decide)) (fun _ => ?_) (fun e => absurd e (by decide))
          refine u_ld (v := iV l3) (pc := 50) (dec_at lsk_204 (k := 28) rfl) rfl ?_
          refine u_goto (pc := 51) (tgt := 56) (dec_at lsk_204 (k := 29) rfl) rfl ?_
          refine u_sto (lv' := [.ref 271, iV l1, iV l3, iV l3]) (pc := 56) (dec_at lsk_204 (k := 31) rfl) rfl ?_
          refine u_inc (lv' := [.ref 271, iV (l1 + 1), iV l3, iV l3]) (pc := 57) (dec_at lsk_204 (k := 32) rfl) rfl (by decide) rfl ?_
          refine u_inc (lv' := [.ref 271, iV (l1 + 1), iV l3, iV (l3 + 1)]) (pc := 60) (dec_at lsk_204 (k := 33) rfl) rfl (by decide) rfl ?_
          refine u_goto (pc := 63) (tgt := 7) (dec_at lsk_204 (k := 34) rfl) rfl ?_
          exact h
        · have h := ifF e10 h
          refine u_ld (v := iV (u.1 272 l3)) (pc := 6) (dec_at lsk_205 (k := 3) rfl) rfl ?_
          refine u_c (x := 106) (pc := 7) (dec_at lsk_205 (k := 4) rfl) rfl (by decide) ?_
          refine u_icT (pc := 9) (tgt := 16) (dec_at lsk_205 (k := 5) rfl) rfl (ci_gt g8 (by decide)) (fun e11 => ?_) (fun e11 => ?_)
          · have h := ifT e11 h
            refine u_ld (v := iV 0) (pc := 16) (dec_at lsk_205 (k := 8) rfl) rfl ?_
            refine u_rZ (pc := 17) (dec_at lsk_205 (k := 9) rfl) rfl (by decide) ?_
            refine u_ifT (pc := 41) (tgt := 50) (dec_at lsk_204 (k := 24) rfl) rfl (c0_eq (by decide)) (fun _ => ?_) (fun e => absurd e (by decide))
            refine u_ld (v := iV l3) (pc := 50) (dec_at lsk_204 (k := 28) rfl) rfl ?_
            refine u_goto (pc := 51) (tgt := 56) (dec_at lsk_204 (k := 29) rfl) rfl ?_
            refine u_sto (lv' := [.ref 271, iV l1, iV l3, iV l3]) (pc := 56) (dec_at lsk_204 (k := 31) rfl) rfl ?_
            refine u_inc (lv' := [.ref 271, iV (l1 + 1), iV l3, iV l3]) (pc := 57) (dec_at lsk_204 (k := 32) rfl) rfl (by decide) rfl ?_
            refine u_inc (lv' := [.ref 271, iV (l1 + 1), iV l3, iV (l3 + 1)]) (pc := 60) (dec_at lsk_204 (k := 33) rfl) rfl (by decide) rfl ?_
            refine u_goto (pc := 63) (tgt := 7) (dec_at lsk_204 (k := 34) rfl) rfl ?_
            exact h
          · have h := ifF e11 h
            refine u_ld (v := iV 1) (pc := 12) (dec_at lsk_205 (k := 6) rfl) rfl ?_
            refine u_goto (pc := 13) (tgt := 17) (dec_at lsk_205 (k := 7) rfl) rfl ?_
            refine u_rZ (pc := 17) (dec_at lsk_205 (k := 9) rfl) rfl (by decide) ?_
            refine u_ifT (pc := 41) (tgt := 50) (dec_at lsk_204 (k := 24) rfl) rfl (c0_eq (by decide)) (fun e => absurd e (by decide)) (fun _ => ?_)
            refine u_ld (v := iV l1) (pc := 44) (dec_at lsk_204 (k := 25) rfl) rfl ?_
            refine u_c (x := 40) (pc := 45) (dec_at lsk_204 (k := 26) rfl) rfl (by decide) ?_
            have g12 := h.1
            have h := h.2
            refine u_icF (pc := 47) (tgt := 54) (dec_at lsk_204 (k := 27) rfl) rfl (ci_ne g12 (by decide)) (fun e13 => ?_) (fun e13 => ?_)
            · have h := ifT e13 h
              refine u_ld (v := iV l3) (pc := 50) (dec_at lsk_204 (k := 28) rfl) rfl ?_
              refine u_goto (pc := 51) (tgt := 56) (dec_at lsk_204 (k := 29) rfl) rfl ?_
              refine u_sto (lv' := [.ref 271, iV l1, iV l3, iV l3]) (pc := 56) (dec_at lsk_204 (k := 31) rfl) rfl ?_
              refine u_inc (lv' := [.ref 271, iV (l1 + 1), iV l3, iV l3]) (pc := 57) (dec_at lsk_204 (k := 32) rfl) rfl (by decide) rfl ?_
              refine u_inc (lv' := [.ref 271, iV (l1 + 1), iV l3, iV (l3 + 1)]) (pc := 60) (dec_at lsk_204 (k := 33) rfl) rfl (by decide) rfl ?_
              refine u_goto (pc := 63) (tgt := 7) (dec_at lsk_204 (k := 34) rfl) rfl ?_
              exact h
            · have h := ifF e13 h
              refine u_c (x := (-2)) (pc := 54) (dec_at lsk_204 (k := 30) rfl) rfl (by decide) ?_
              refine u_sto (lv' := [.ref 271, iV l1, iV (-2), iV l3]) (pc := 56) (dec_at lsk_204 (k := 31) rfl) rfl ?_
              refine u_inc (lv' := [.ref 271, iV (l1 + 1), iV (-2), iV l3]) (pc := 57) (dec_at lsk_204 (k := 32) rfl) rfl (by decide) rfl ?_
              refine u_inc (lv' := [.ref 271, iV (l1 + 1), iV (-2), iV (l3 + 1)]) (pc := 60) (dec_at lsk_204 (k := 33) rfl) rfl (by decide) rfl ?_
              refine u_goto (pc := 63) (tgt := 7) (dec_at lsk_204 (k := 34) rfl) rfl ?_
              exact h
    · have h := ifF e5 h
      refine u_ld (v := iV l2) (pc := 66) (dec_at lsk_204 (k := 35) rfl) rfl ?_
      refine u_c (x := (-2)) (pc := 67) (dec_at lsk_204 (k := 36) rfl) rfl (by decide) ?_
      refine u_icF (pc := 69) (tgt := 132) (dec_at lsk_204 (k := 37) rfl) rfl (ci_ne g4 (by decide)) (fun e14 => absurd e14 e5) (fun _ => ?_)
      refine u_ld (v := .ref 271) (pc := 132) (dec_at lsk_204 (k := 72) rfl) rfl ?_
      refine u_ld (v := iV 0) (pc := 133) (dec_at lsk_204 (k := 73) rfl) rfl ?_
      refine u_pI (z := 1) (pc := 134) (dec_at lsk_204 (k := 74) rfl) f_12_254 sx_271 rfl rfl rfl rfl (fun u15 e16 => ?_)
      have h := h u15 e16
      refine u_ld (v := iV l2) (pc := 137) (dec_at lsk_204 (k := 75) rfl) rfl ?_
      refine u_c (x := (-2)) (pc := 138) (dec_at lsk_204 (k := 76) rfl) rfl (by decide) ?_
      refine u_icF (pc := 140) (tgt := 147) (dec_at lsk_204 (k := 77) rfl) rfl (ci_ne g4 (by decide)) (fun e17 => absurd e17 e5) (fun _ => ?_)
      refine u_c (x := (-2)) (pc := 147) (dec_at lsk_204 (k := 80) rfl) rfl (by decide) ?_
      refine u_ld (v := iV l2) (pc := 149) (dec_at lsk_204 (k := 81) rfl) rfl ?_
      refine u_isub (pc := 150) (dec_at lsk_204 (k := 82) rfl) ?_
      exact u_rI (pc := 151) (dec_at lsk_204 (k := 83) rfl) rfl h
  · have h := ifF e3 h
    refine u_ld (v := iV l2) (pc := 66) (dec_at lsk_204 (k := 35) rfl) rfl ?_
    refine u_c (x := (-2)) (pc := 67) (dec_at lsk_204 (k := 36) rfl) rfl (by decide) ?_
    have g18 := h.1
    have h := h.2
    refine u_icF (pc := 69) (tgt := 132) (dec_at lsk_204 (k := 37) rfl) rfl (ci_ne g18 (by decide)) (fun e19 => ?_) (fun e19 => ?_)
    · have h := ifT e19 h
      refine u_ld (v := .ref 271) (pc := 72) (dec_at lsk_204 (k := 38) rfl) rfl ?_
      refine u_ld (v := iV 0) (pc := 73) (dec_at lsk_204 (k := 39) rfl) rfl ?_
      refine u_pI (z := 3) (pc := 74) (dec_at lsk_204 (k := 40) rfl) f_12_262 sx_271 rfl rfl rfl rfl (fun u20 e21 => ?_)
      have h := h u20 e21
      refine u_ld (v := iV 0) (pc := 77) (dec_at lsk_204 (k := 41) rfl) rfl ?_
      refine u_sto (lv' := [.ref 271, iV l1, iV l2, iV 0]) (pc := 78) (dec_at lsk_204 (k := 42) rfl) rfl ?_
      exact h
    · have h := ifF e19 h
      refine u_ld (v := .ref 271) (pc := 132) (dec_at lsk_204 (k := 72) rfl) rfl ?_
      refine u_ld (v := iV 0) (pc := 133) (dec_at lsk_204 (k := 73) rfl) rfl ?_
      refine u_pI (z := 1) (pc := 134) (dec_at lsk_204 (k := 74) rfl) f_12_254 sx_271 rfl rfl rfl rfl (fun u22 e23 => ?_)
      have h := h u22 e23
      refine u_ld (v := iV l2) (pc := 137) (dec_at lsk_204 (k := 75) rfl) rfl ?_
      refine u_c (x := (-2)) (pc := 138) (dec_at lsk_204 (k := 76) rfl) rfl (by decide) ?_
      refine u_icF (pc := 140) (tgt := 147) (dec_at lsk_204 (k := 77) rfl) rfl (ci_ne g18 (by decide)) (fun e24 => absurd e24 e19) (fun _ => ?_)
      refine u_c (x := (-2)) (pc := 147) (dec_at lsk_204 (k := 80) rfl) rfl (by decide) ?_
      refine u_ld (v := iV l2) (pc := 149) (dec_at lsk_204 (k := 81) rfl) rfl ?_
      refine u_isub (pc := 150) (dec_at lsk_204 (k := 82) rfl) ?_
      exact u_rI (pc := 151) (dec_at lsk_204 (k := 83) rfl) rfl h
theorem k_204_79 {d : Nat} {Q : Int → uS → Prop} {u : uS} {l1 l2 l3 : Int} (h : (rI l3) ∧ ((rI (u.1 271 1)) ∧ (if l3 < u.1 271 1 then ((0 ≤ l3) ∧ ((l3 < 300) ∧ ((rI (u.1 272 l3)) ∧ (if u.1 272 l3 = 32 then (K_204 (d + 1) 79 [.ref 271, iV l1, iV l2, iV (l3 + 1)] [] u Q) else ((0 ≤ u.1 271 3) ∧ ((u.1 271 3 < 40) ∧ (∀ u10 : uS, u10 = wr u 273 (u.1 271 3) ((u.1 272 l3) - 97) → (∀ u12 : uS, u12 = wr u10 271 3 ((u10.1 271 3) + 1) → (K_204 (d + 1) 79 [.ref 271, iV l1, iV l2, iV (l3 + 1)] [] u12 Q))))))))) else (∀ u14 : uS, u14 = wr u 271 1 0 → ((rI l2) ∧ (if l2 = (-2) then (Q l1 u14) else (Q ((-2) - l2) u14))))))) : K_204 (d + 1) 79 [.ref 271, iV l1, iV l2, iV l3] [] u Q := by
  unfold K_204
  refine u_ld (v := iV l3) (pc := 79) (dec_at lsk_204 (k := 43) rfl) rfl ?_
  refine u_ld (v := .ref 271) (pc := 80) (dec_at lsk_204 (k := 44) rfl) rfl ?_
  refine u_gI (z := 1) (pc := 81) (dec_at lsk_204 (k := 45) rfl) f_12_254 sx_271 rfl rfl ?_
  have g1 := h.1
  have h := h.2
  have g2 := h.1
  have h := h.2
  refine u_icF (pc := 84) (tgt := 132) (dec_at lsk_204 (k := 46) rfl) rfl (ci_ge g1 g2) (fun e3 => ?_) (fun e3 => ?_)
  · have h := ifT e3 h
    refine u_ld (v := .ref 271) (pc := 87) (dec_at lsk_204 (k := 47) rfl) rfl ?_
    refine u_gS (o := 1) (p := 272) (pc := 88) (dec_at lsk_204 (k := 48) rfl) f_12_7 sx_271 rfl rfl ?_
    refine u_ld (v := iV l3) (pc := 91) (dec_at lsk_204 (k := 49) rfl) rfl ?_
    have g4 := h.1
    have h := h.2
    have g5 := h.1
    have h := h.2
    refine u_iald (pc := 92) (dec_at lsk_204 (k := 50) rfl) sx_272 g4 g5 ?_
    refine u_c (x := 32) (pc := 93) (dec_at lsk_204 (k := 51) rfl) rfl (by decide) ?_
    have g6 := h.1
    have h := h.2
    refine u_icT (pc := 95) (tgt := 126) (dec_at lsk_204 (k := 52) rfl) rfl (ci_eq g6 (by decide)) (fun e7 => ?_) (fun e7 => ?_)
    · have h := ifT e7 h
      refine u_inc (lv' := [.ref 271, iV l1, iV l2, iV (l3 + 1)]) (pc := 126) (dec_at lsk_204 (k := 70) rfl) rfl (by decide) rfl ?_
      refine u_goto (pc := 129) (tgt := 79) (dec_at lsk_204 (k := 71) rfl) rfl ?_
      exact h
    · have h := ifF e7 h
      refine u_ld (v := .ref 271) (pc := 98) (dec_at lsk_204 (k := 53) rfl) rfl ?_
      refine u_gS (o := 2) (p := 273) (pc := 99) (dec_at lsk_204 (k := 54) rfl) f_12_13 sx_271 rfl rfl ?_
      refine u_ld (v := .ref 271) (pc := 102) (dec_at lsk_204 (k := 55) rfl) rfl ?_
      refine u_gI (z := 3) (pc := 103) (dec_at lsk_204 (k := 56) rfl) f_12_262 sx_271 rfl rfl ?_
      refine u_ld (v := .ref 271) (pc := 106) (dec_at lsk_204 (k := 57) rfl) rfl ?_
      refine u_gS (o := 1) (p := 272) (pc := 107) (dec_at lsk_204 (k := 58) rfl) f_12_7 sx_271 rfl rfl ?_
      refine u_ld (v := iV l3) (pc := 110) (dec_at lsk_204 (k := 59) rfl) rfl ?_
      refine u_iald (pc := 111) (dec_at lsk_204 (k := 60) rfl) sx_272 g4 g5 ?_
      refine u_c (x := 97) (pc := 112) (dec_at lsk_204 (k := 61) rfl) rfl (by decide) ?_
      refine u_isub (pc := 114) (dec_at lsk_204 (k := 62) rfl) ?_
      have g8 := h.1
      have h := h.2
      have g9 := h.1
      have h := h.2
      refine u_iast (pc := 115) (dec_at lsk_204 (k := 63) rfl) sx_273 g8 g9 (fun u10 e11 => ?_)
      have h := h u10 e11
      refine u_ld (v := .ref 271) (pc := 116) (dec_at lsk_204 (k := 64) rfl) rfl ?_
      refine u_ld (v := .ref 271) (pc := 117) (dec_at lsk_204 (k := 65) rfl) rfl ?_
      refine u_gI (z := 3) (pc := 118) (dec_at lsk_204 (k := 66) rfl) f_12_262 sx_271 rfl rfl ?_
      refine u_ld (v := iV 1) (pc := 121) (dec_at lsk_204 (k := 67) rfl) rfl ?_
      refine u_iadd (pc := 122) (dec_at lsk_204 (k := 68) rfl) ?_
      refine u_pI (z := 3) (pc := 123) (dec_at lsk_204 (k := 69) rfl) f_12_262 sx_271 rfl rfl rfl rfl (fun u12 e13 => ?_)
      have h := h u12 e13
      refine u_inc (lv' := [.ref 271, iV l1, iV l2, iV (l3 + 1)]) (pc := 126) (dec_at lsk_204 (k := 70) rfl) rfl (by decide) rfl ?_
      refine u_goto (pc := 129) (tgt := 79) (dec_at lsk_204 (k := 71) rfl) rfl ?_
      exact h
  · have h := ifF e3 h
    refine u_ld (v := .ref 271) (pc := 132) (dec_at lsk_204 (k := 72) rfl) rfl ?_
    refine u_ld (v := iV 0) (pc := 133) (dec_at lsk_204 (k := 73) rfl) rfl ?_
    refine u_pI (z := 1) (pc := 134) (dec_at lsk_204 (k := 74) rfl) f_12_254 sx_271 rfl rfl rfl rfl (fun u14 e15 => ?_)
    have h := h u14 e15
    refine u_ld (v := iV l2) (pc := 137) (dec_at lsk_204 (k := 75) rfl) rfl ?_
    refine u_c (x := (-2)) (pc := 138) (dec_at lsk_204 (k := 76) rfl) rfl (by decide) ?_
    have g16 := h.1
    have h := h.2
    refine u_icF (pc := 140) (tgt := 147) (dec_at lsk_204 (k := 77) rfl) rfl (ci_ne g16 (by decide)) (fun e17 => ?_) (fun e17 => ?_)
    · have h := ifT e17 h
      refine u_ld (v := iV l1) (pc := 143) (dec_at lsk_204 (k := 78) rfl) rfl ?_
      refine u_goto (pc := 144) (tgt := 151) (dec_at lsk_204 (k := 79) rfl) rfl ?_
      exact u_rI (pc := 151) (dec_at lsk_204 (k := 83) rfl) rfl h
    · have h := ifF e17 h
      refine u_c (x := (-2)) (pc := 147) (dec_at lsk_204 (k := 80) rfl) rfl (by decide) ?_
      refine u_ld (v := iV l2) (pc := 149) (dec_at lsk_204 (k := 81) rfl) rfl ?_
      refine u_isub (pc := 150) (dec_at lsk_204 (k := 82) rfl) ?_
      exact u_rI (pc := 151) (dec_at lsk_204 (k := 83) rfl) rfl h
/-- method 206 -/
def K_206 (d pc : Nat) (lv : ev_L) (st : List Value) (u : uS) (Q : Int → uS → Prop) : Prop := okU d 12 4 false (some .int) prog_14_method_16_code (qI Q) pc lv st u
theorem e_206 {d : Nat} {Q : Int → uS → Prop} {u : uS} (h : ∀ u1 : uS, u1 = wr u 271 4 0 → (∀ u3 : uS, u3 = wr u1 271 19 (-2) → (∀ u5 : uS, u5 = wr u3 271 12 0 → (∀ u7 : uS, u7 = wr u5 271 13 0 → (K_206 d 23 [.ref 271, iV 1, .retAddr 0, .retAddr 0] [] u7 Q))))) : cI (d + 1) 206 [.ref 271] u Q := by
  refine u_of me_206 (Nat.le_of_ble_eq_true rfl) ?_
  refine u_ld (v := .ref 271) (pc := 0) (dec_at lsk_206 (k := 0) rfl) rfl ?_
  refine u_ld (v := iV 0) (pc := 1) (dec_at lsk_206 (k := 1) rfl) rfl ?_
  refine u_pI (z := 4) (pc := 2) (dec_at lsk_206 (k := 2) rfl) f_12_265 sx_271 rfl rfl rfl rfl (fun u1 e2 => ?_)
  have h := h u1 e2
  refine u_ld (v := .ref 271) (pc := 5) (dec_at lsk_206 (k := 3) rfl) rfl ?_
  refine u_c (x := (-2)) (pc := 6) (dec_at lsk_206 (k := 4) rfl) rfl (by decide) ?_
  refine u_pI (z := 19) (pc := 8) (dec_at lsk_206 (k := 5) rfl) f_12_271 sx_271 rfl rfl rfl rfl (fun u3 e4 => ?_)
  have h := h u3 e4
  refine u_ld (v := .ref 271) (pc := 11) (dec_at lsk_206 (k := 6) rfl) rfl ?_
  refine u_ld (v := iV 0) (pc := 12) (dec_at lsk_206 (k := 7) rfl) rfl ?_
  refine u_pI (z := 12) (pc := 13) (dec_at lsk_206 (k := 8) rfl) f_12_287 sx_271 rfl rfl rfl rfl (fun u5 e6 => ?_)
  have h := h u5 e6
  refine u_ld (v := .ref 271) (pc := 16) (dec_at lsk_206 (k := 9) rfl) rfl ?_
  refine u_ld (v := iV 0) (pc := 17) (dec_at lsk_206 (k := 10) rfl) rfl ?_
  refine u_pI (z := 13) (pc := 18) (dec_at lsk_206 (k := 11) rfl) f_12_278 sx_271 rfl rfl rfl rfl (fun u7 e8 => ?_)
  have h := h u7 e8
  refine u_ld (v := iV 1) (pc := 21) (dec_at lsk_206 (k := 12) rfl) rfl ?_
  refine u_sto (lv' := [.ref 271, iV 1, .retAddr 0, .retAddr 0]) (pc := 22) (dec_at lsk_206 (k := 13) rfl) rfl ?_
  exact h
theorem k_206_23 {d : Nat} {Q : Int → uS → Prop} {u : uS} {l1 : Int} (h : (rI l1) ∧ (if l1 = 0 then (K_206 d 56 [.ref 271, .retAddr 0, .retAddr 0, .retAddr 0] [] u Q) else ((rI (u.1 271 19)) ∧ (if u.1 271 19 = (-2) then (cV d 207 [.ref 271] u (fun u5 => cI d 208 [.ref 271] u5 (fun r7 u6 => (rI r7) ∧ (if r7 = 0 then (K_206 d 23 [.ref 271, iV 0, .retAddr 0, .retAddr 0] [] u6 Q) else (K_206 d 23 [.ref 271, iV 1, .retAddr 0, .retAddr 0] [] u6 Q))))) else (K_206 d 56 [.ref 271, .retAddr 0, .retAddr 0, .retAddr 0] [] u Q))))) : K_206 d 23 [.ref 271, iV l1, .retAddr 0, .retAddr 0] [] u Q := by
  unfold K_206
  refine u_ld (v := iV l1) (pc := 23) (dec_at lsk_206 (k := 14) rfl) rfl ?_
  have g1 := h.1
  have h := h.2
  refine u_ifT (pc := 24) (tgt := 56) (dec_at lsk_206 (k := 15) rfl) rfl (c0_eq g1) (fun e2 => ?_) (fun e2 => ?_)
  · have h := ifT e2 h
    exact u_weak (sbK (sbD (sbK (sbK sb0)))) h
  · have h := ifF e2 h
    refine u_ld (v := .ref 271) (pc := 27) (dec_at lsk_206 (k := 16) rfl) rfl ?_
    refine u_gI (z := 19) (pc := 28) (dec_at lsk_206 (k := 17) rfl) f_12_271 sx_271 rfl rfl ?_
    refine u_c (x := (-2)) (pc := 31) (dec_at lsk_206 (k := 18) rfl) rfl (by decide) ?_
    have g3 := h.1
    have h := h.2
    refine u_icF (pc := 33) (tgt := 56) (dec_at lsk_206 (k := 19) rfl) rfl (ci_ne g3 (by decide)) (fun e4 => ?_) (fun e4 => ?_)
    · have h := ifT e4 h
      refine u_ld (v := .ref 271) (pc := 36) (dec_at lsk_206 (k := 20) rfl) rfl ?_
      refine u_cvV (As := []) (rb := 271) (st2 := []) (pc := 37) (dec_at lsk_206 (k := 21) rfl) m_12_293 (Or.inl rfl) rfl (Nat.le_of_ble_eq_true rfl) sx_271 me_207 rfl h (fun u5 h => ?_)
      refine u_ld (v := .ref 271) (pc := 40) (dec_at lsk_206 (k := 22) rfl) rfl ?_
      refine u_cvI (As := []) (rb := 271) (st2 := []) (pc := 41) (dec_at lsk_206 (k := 23) rfl) m_12_274 (Or.inl rfl) rfl (Nat.le_of_ble_eq_true rfl) sx_271 me_208 rfl h (fun r7 u6 h => ?_)
      have g8 := h.1
      have h := h.2
      refine u_ifT (pc := 44) (tgt := 51) (dec_at lsk_206 (k := 24) rfl) rfl (c0_eq g8) (fun e9 => ?_) (fun e9 => ?_)
      · have h := ifT e9 h
        refine u_ld (v := iV 0) (pc := 51) (dec_at lsk_206 (k := 27) rfl) rfl ?_
        refine u_sto (lv' := [.ref 271, iV 0, .retAddr 0, .retAddr 0]) (pc := 52) (dec_at lsk_206 (k := 28) rfl) rfl ?_
        refine u_goto (pc := 53) (tgt := 23) (dec_at lsk_206 (k := 29) rfl) rfl ?_
        exact h
      · have h := ifF e9 h
        refine u_ld (v := iV 1) (pc := 47) (dec_at lsk_206 (k := 25) rfl) rfl ?_
        refine u_goto (pc := 48) (tgt := 52) (dec_at lsk_206 (k := 26) rfl) rfl ?_
        refine u_sto (lv' := [.ref 271, iV 1, .retAddr 0, .retAddr 0]) (pc := 52) (dec_at lsk_206 (k := 28) rfl) rfl ?_
        refine u_goto (pc := 53) (tgt := 23) (dec_at lsk_206 (k := 29) rfl) rfl ?_
        exact h
    · have h := ifF e4 h
      exact u_weak (sbK (sbD (sbK (sbK sb0)))) h
theorem k_206_56 {d : Nat} {Q : Int → uS → Prop} {u : uS} (h : (rI (u.1 271 19)) ∧ (if u.1 271 19 = (-2) then (cV d 213 [.ref 271] u (fun u3 => ∀ u4 : uS, u4 = wr u3 271 1 0 → ((rI (u4.1 271 19)) ∧ (if u4.1 271 19 = (-2) then (∀ u8 : uS, u8 = wr u4 271 11 1 → (∀ u10 : uS, u10 = wr u8 271 5 (u8.1 271 12) → (∀ u12 : uS, u12 = wr u10 271 6 (u10.1 271 13) → (K_206 d 114 [.ref 271, .retAddr 0, iV 0, .retAddr 0] [] u12 Q)))) else (Q ((-2) - (u4.1 271 19)) u4))))) else (∀ u14 : uS, u14 = wr u 271 1 0 → ((rI (u14.1 271 19)) ∧ (if u14.1 271 19 = (-2) then (∀ u18 : uS, u18 = wr u14 271 11 1 → (∀ u20 : uS, u20 = wr u18 271 5 (u18.1 271 12) → (∀ u22 : uS, u22 = wr u20 271 6 (u20.1 271 13) → (K_206 d 114 [.ref 271, .retAddr 0, iV 0, .retAddr 0] [] u22 Q)))) else (Q ((-2) - (u14.1 271 19)) u14)))))) : K_206 d 56 [.ref 271, .retAddr 0, .retAddr 0, .retAddr 0] [] u Q := by
  unfold K_206
  refine u_ld (v := .ref 271) (pc := 56) (dec_at lsk_206 (k := 30) rfl) rfl ?_
  refine u_gI (z := 19) (pc := 57) (dec_at lsk_206 (k := 31) rfl) f_12_271 sx_271 rfl rfl ?_
  refine u_c (x := (-2)) (pc := 60) (dec_at lsk_206 (k := 32) rfl) rfl (by decide) ?_
  have g1 := h.1
  have h := h.2
  refine u_icF (pc := 62) (tgt := 69) (dec_at lsk_206 (k := 33) rfl) rfl (ci_ne g1 (by decide)) (fun e2 => ?_) (fun e2 => ?_)
  · have h := ifT e2 h
    refine u_ld (v := .ref 271) (pc := 65) (dec_at lsk_206 (k := 34) rfl) rfl ?_
    refine u_cvV (As := []) (rb := 271) (st2 := []) (pc := 66) (dec_at lsk_206 (k := 35) rfl) m_12_296 (Or.inl rfl) rfl (Nat.le_of_ble_eq_true rfl) sx_271 me_213 rfl h (fun u3 h => ?_)
    refine u_ld (v := .ref 271) (pc := 69) (dec_at lsk_206 (k := 36) rfl) rfl ?_
    refine u_ld (v := iV 0) (pc := 70) (dec_at lsk_206 (k := 37) rfl) rfl ?_
    refine u_pI (z := 1) (pc := 71) (dec_at lsk_206 (k := 38) rfl) f_12_254 sx_271 rfl rfl rfl rfl (fun u4 e5 => ?_)
    have h := h u4 e5
    refine u_ld (v := .ref 271) (pc := 74) (dec_at lsk_206 (k := 39) rfl) rfl ?_
    refine u_gI (z := 19) (pc := 75) (dec_at lsk_206 (k := 40) rfl) f_12_271 sx_271 rfl rfl ?_
    refine u_c (x := (-2)) (pc := 78) (dec_at lsk_206 (k := 41) rfl) rfl (by decide) ?_
    have g6 := h.1
    have h := h.2
    refine u_icT (pc := 80) (tgt := 91) (dec_at lsk_206 (k := 42) rfl) rfl (ci_eq g6 (by decide)) (fun e7 => ?_) (fun e7 => ?_)
    · have h := ifT e7 h
      refine u_ld (v := .ref 271) (pc := 91) (dec_at lsk_206 (k := 48) rfl) rfl ?_
      refine u_ld (v := iV 1) (pc := 92) (dec_at lsk_206 (k := 49) rfl) rfl ?_
      refine u_pZ (z := 11) (pc := 93) (dec_at lsk_206 (k := 50) rfl) f_12_299 sx_271 rfl rfl rfl rfl (by decide) (fun u8 e9 => ?_)
      have h := h u8 e9
      refine u_ld (v := .ref 271) (pc := 96) (dec_at lsk_206 (k := 51) rfl) rfl ?_
      refine u_ld (v := .ref 271) (pc := 97) (dec_at lsk_206 (k := 52) rfl) rfl ?_
      refine u_gI (z := 12) (pc := 98) (dec_at lsk_206 (k := 53) rfl) f_12_287 sx_271 rfl rfl ?_
      refine u_pI (z := 5) (pc := 101) (dec_at lsk_206 (k := 54) rfl) f_12_303 sx_271 rfl rfl rfl rfl (fun u10 e11 => ?_)
      have h := h u10 e11
      refine u_ld (v := .ref 271) (pc := 104) (dec_at lsk_206 (k := 55) rfl) rfl ?_
      refine u_ld (v := .ref 271) (pc := 105) (dec_at lsk_206 (k := 56) rfl) rfl ?_
      refine u_gI (z := 13) (pc := 106) (dec_at lsk_206 (k := 57) rfl) f_12_278 sx_271 rfl rfl ?_
      refine u_pI (z := 6) (pc := 109) (dec_at lsk_206 (k := 58) rfl) f_12_306 sx_271 rfl rfl rfl rfl (fun u12 e13 => ?_)
      have h := h u12 e13
      refine u_ld (v := iV 0) (pc := 112) (dec_at lsk_206 (k := 59) rfl) rfl ?_
      refine u_sto (lv' := [.ref 271, .retAddr 0, iV 0, .retAddr 0]) (pc := 113) (dec_at lsk_206 (k := 60) rfl) rfl ?_
      exact h
    · have h := ifF e7 h
      refine u_c (x := (-2)) (pc := 83) (dec_at lsk_206 (k := 43) rfl) rfl (by decide) ?_
      refine u_ld (v := .ref 271) (pc := 85) (dec_at lsk_206 (k := 44) rfl) rfl ?_
      refine u_gI (z := 19) (pc := 86) (dec_at lsk_206 (k := 45) rfl) f_12_271 sx_271 rfl rfl ?_
      refine u_isub (pc := 89) (dec_at lsk_206 (k := 46) rfl) ?_
      exact u_rI (pc := 90) (dec_at lsk_206 (k := 47) rfl) rfl h
  · have h := ifF e2 h
    refine u_ld (v := .ref 271) (pc := 69) (dec_at lsk_206 (k := 36) rfl) rfl ?_
    refine u_ld (v := iV 0) (pc := 70) (dec_at lsk_206 (k := 37) rfl) rfl ?_
    refine u_pI (z := 1) (pc := 71) (dec_at lsk_206 (k := 38) rfl) f_12_254 sx_271 rfl rfl rfl rfl (fun u14 e15 => ?_)
    have h := h u14 e15
    refine u_ld (v := .ref 271) (pc := 74) (dec_at lsk_206 (k := 39) rfl) rfl ?_
    refine u_gI (z := 19) (pc := 75) (dec_at lsk_206 (k := 40) rfl) f_12_271 sx_271 rfl rfl ?_
    refine u_c (x := (-2)) (pc := 78) (dec_at lsk_206 (k := 41) rfl) rfl (by decide) ?_
    have g16 := h.1
    have h := h.2
    refine u_icT (pc := 80) (tgt := 91) (dec_at lsk_206 (k := 42) rfl) rfl (ci_eq g16 (by decide)) (fun e17 => ?_) (fun e17 => ?_)
    · have h := ifT e17 h
      refine u_ld (v := .ref 271) (pc := 91) (dec_at lsk_206 (k := 48) rfl) rfl ?_
      refine u_ld (v := iV 1) (pc := 92) (dec_at lsk_206 (k := 49) rfl) rfl ?_
      refine u_pZ (z := 11) (pc := 93) (dec_at lsk_206 (k := 50) rfl) f_12_299 sx_271 rfl rfl rfl rfl (by decide) (fun u18 e19 => ?_)
      have h := h u18 e19
      refine u_ld (v := .ref 271) (pc := 96) (dec_at lsk_206 (k := 51) rfl) rfl ?_
      refine u_ld (v := .ref 271) (pc := 97) (dec_at lsk_206 (k := 52) rfl) rfl ?_
      refine u_gI (z := 12) (pc := 98) (dec_at lsk_206 (k := 53) rfl) f_12_287 sx_271 rfl rfl ?_
      refine u_pI (z := 5) (pc := 101) (dec_at lsk_206 (k := 54) rfl) f_12_303 sx_271 rfl rfl rfl rfl (fun u20 e21 => ?_)
      have h := h u20 e21
      refine u_ld (v := .ref 271) (pc := 104) (dec_at lsk_206 (k := 55) rfl) rfl ?_
      refine u_ld (v := .ref 271) (pc := 105) (dec_at lsk_206 (k := 56) rfl) rfl ?_
      refine u_gI (z := 13) (pc := 106) (dec_at lsk_206 (k := 57) rfl) f_12_278 sx_271 rfl rfl ?_
      refine u_pI (z := 6) (pc := 109) (dec_at lsk_206 (k := 58) rfl) f_12_306 sx_271 rfl rfl rfl rfl (fun u22 e23 => ?_)
      have h := h u22 e23
      refine u_ld (v := iV 0) (pc := 112) (dec_at lsk_206 (k := 59) rfl) rfl ?_
      refine u_sto (lv' := [.ref 271, .retAddr 0, iV 0, .retAddr 0]) (pc := 113) (dec_at lsk_206 (k := 60) rfl) rfl ?_
      exact h
    · have h := ifF e17 h
      refine u_c (x := (-2)) (pc := 83) (dec_at lsk_206 (k := 43) rfl) rfl (by decide) ?_
      refine u_ld (v := .ref 271) (pc := 85) (dec_at lsk_206 (k := 44) rfl) rfl ?_
      refine u_gI (z := 19) (pc := 86) (dec_at lsk_206 (k := 45) rfl) f_12_271 sx_271 rfl rfl ?_
      refine u_isub (pc := 89) (dec_at lsk_206 (k := 46) rfl) ?_
      exact u_rI (pc := 90) (dec_at lsk_206 (k := 47) rfl) rfl h
theorem k_206_114 {d : Nat} {Q : Int → uS → Prop} {u : uS} {l2 : Int} (h : (rI l2) ∧ ((rI (u.1 271 5)) ∧ (if l2 < u.1 271 5 then ((0 ≤ l2) ∧ ((l2 < 10) ∧ (∀ u6 : uS, u6 = wr u 274 l2 (u.1 278 l2) → (K_206 d 114 [.ref 271, .retAddr 0, iV (l2 + 1), .retAddr 0] [] u6 Q)))) else (K_206 d 142 [.ref 271, .retAddr 0, iV 0, .retAddr 0] [] u Q)))) : K_206 d 114 [.ref 271, .retAddr 0, iV l2, .retAddr 0] [] u Q := by
  unfold K_206
  refine u_ld (v := iV l2) (pc := 114) (dec_at lsk_206 (k := 61) rfl) rfl ?_
  refine u_ld (v := .ref 271) (pc := 115) (dec_at lsk_206 (k := 62) rfl) rfl ?_
  refine u_gI (z := 5) (pc := 116) (dec_at lsk_206 (k := 63) rfl) f_12_303 sx_271 rfl rfl ?_
  have g1 := h.1
  have h := h.2
  have g2 := h.1
  have h := h.2
  refine u_icF (pc := 119) (tgt := 140) (dec_at lsk_206 (k := 64) rfl) rfl (ci_ge g1 g2) (fun e3 => ?_) (fun e3 => ?_)
  · have h := ifT e3 h
    refine u_ld (v := .ref 271) (pc := 122) (dec_at lsk_206 (k := 65) rfl) rfl ?_
    refine u_gS (o := 3) (p := 274) (pc := 123) (dec_at lsk_206 (k := 66) rfl) f_12_16 sx_271 rfl rfl ?_
    refine u_ld (v := iV l2) (pc := 126) (dec_at lsk_206 (k := 67) rfl) rfl ?_
    refine u_ld (v := .ref 271) (pc := 127) (dec_at lsk_206 (k := 68) rfl) rfl ?_
    refine u_gS (o := 7) (p := 278) (pc := 128) (dec_at lsk_206 (k := 69) rfl) f_12_28 sx_271 rfl rfl ?_
    refine u_ld (v := iV l2) (pc := 131) (dec_at lsk_206 (k := 70) rfl) rfl ?_
    have g4 := h.1
    have h := h.2
    have g5 := h.1
    have h := h.2
    refine u_iald (pc := 132) (dec_at lsk_206 (k := 71) rfl) sx_278 g4 g5 ?_
    refine u_iast (pc := 133) (dec_at lsk_206 (k := 72) rfl) sx_274 g4 g5 (fun u6 e7 => ?_)
    have h := h u6 e7
    refine u_inc (lv' := [.ref 271, .retAddr 0, iV (l2 + 1), .retAddr 0]) (pc := 134) (dec_at lsk_206 (k := 73) rfl) rfl (by decide) rfl ?_
    refine u_goto (pc := 137) (tgt := 114) (dec_at lsk_206 (k := 74) rfl) rfl ?_
    exact h
  · have h := ifF e3 h
    refine u_ld (v := iV 0) (pc := 140) (dec_at lsk_206 (k := 75) rfl) rfl ?_
    refine u_sto (lv' := [.ref 271, .retAddr 0, iV 0, .retAddr 0]) (pc := 141) (dec_at lsk_206 (k := 76) rfl) rfl ?_
    exact h
theorem k_206_142 {d : Nat} {Q : Int → uS → Prop} {u : uS} {l2 : Int} (h : (rI l2) ∧ ((rI (u.1 271 6)) ∧ (if l2 < u.1 271 6 then ((0 ≤ l2) ∧ ((l2 < 30) ∧ (∀ u6 : uS, u6 = wr u 275 l2 (u.1 279 l2) → (∀ u8 : uS, u8 = wr u6 276 l2 (u6.1 280 l2) → (K_206 d 176 [.ref 271, .retAddr 0, iV l2, iV 0] [] u8 Q))))) else (cV d 214 [.ref 271] u (fun u10 => Q (u10.1 271 6) u10))))) : K_206 d 142 [.ref 271, .retAddr 0, iV l2, .retAddr 0] [] u Q := by
  unfold K_206
  refine u_ld (v := iV l2) (pc := 142) (dec_at lsk_206 (k := 77) rfl) rfl ?_
  refine u_ld (v := .ref 271) (pc := 143) (dec_at lsk_206 (k := 78) rfl) rfl ?_
  refine u_gI (z := 6) (pc := 144) (dec_at lsk_206 (k := 79) rfl) f_12_306 sx_271 rfl rfl ?_
  have g1 := h.1
  have h := h.2
  have g2 := h.1
  have h := h.2
  refine u_icF (pc := 147) (tgt := 216) (dec_at lsk_206 (k := 80) rfl) rfl (ci_ge g1 g2) (fun e3 => ?_) (fun e3 => ?_)
  · have h := ifT e3 h
    refine u_ld (v := .ref 271) (pc := 150) (dec_at lsk_206 (k := 81) rfl) rfl ?_
    refine u_gS (o := 4) (p := 275) (pc := 151) (dec_at lsk_206 (k := 82) rfl) f_12_19 sx_271 rfl rfl ?_
    refine u_ld (v := iV l2) (pc := 154) (dec_at lsk_206 (k := 83) rfl) rfl ?_
    refine u_ld (v := .ref 271) (pc := 155) (dec_at lsk_206 (k := 84) rfl) rfl ?_
    refine u_gS (o := 8) (p := 279) (pc := 156) (dec_at lsk_206 (k := 85) rfl) f_12_31 sx_271 rfl rfl ?_
    refine u_ld (v := iV l2) (pc := 159) (dec_at lsk_206 (k := 86) rfl) rfl ?_
    have g4 := h.1
    have h := h.2
    have g5 := h.1
    have h := h.2
    refine u_iald (pc := 160) (dec_at lsk_206 (k := 87) rfl) sx_279 g4 g5 ?_
    refine u_iast (pc := 161) (dec_at lsk_206 (k := 88) rfl) sx_275 g4 g5 (fun u6 e7 => ?_)
    have h := h u6 e7
    refine u_ld (v := .ref 271) (pc := 162) (dec_at lsk_206 (k := 89) rfl) rfl ?_
    refine u_gS (o := 5) (p := 276) (pc := 163) (dec_at lsk_206 (k := 90) rfl) f_12_22 sx_271 rfl rfl ?_
    refine u_ld (v := iV l2) (pc := 166) (dec_at lsk_206 (k := 91) rfl) rfl ?_
    refine u_ld (v := .ref 271) (pc := 167) (dec_at lsk_206 (k := 92) rfl) rfl ?_
    refine u_gS (o := 9) (p := 280) (pc := 168) (dec_at lsk_206 (k := 93) rfl) f_12_34 sx_271 rfl rfl ?_
    refine u_ld (v := iV l2) (pc := 171) (dec_at lsk_206 (k := 94) rfl) rfl ?_
    refine u_iald (pc := 172) (dec_at lsk_206 (k := 95) rfl) sx_280 g4 g5 ?_
    refine u_iast (pc := 173) (dec_at lsk_206 (k := 96) rfl) sx_276 g4 g5 (fun u8 e9 => ?_)
    have h := h u8 e9
    refine u_ld (v := iV 0) (pc := 174) (dec_at lsk_206 (k := 97) rfl) rfl ?_
    refine u_sto (lv' := [.ref 271, .retAddr 0, iV l2, iV 0]) (pc := 175) (dec_at lsk_206 (k := 98) rfl) rfl ?_
    exact h
  · have h := ifF e3 h
    refine u_ld (v := .ref 271) (pc := 216) (dec_at lsk_206 (k := 122) rfl) rfl ?_
    refine u_cvV (As := []) (rb := 271) (st2 := []) (pc := 217) (dec_at lsk_206 (k := 123) rfl) m_12_309 (Or.inl rfl) rfl (Nat.le_of_ble_eq_true rfl) sx_271 me_214 rfl h (fun u10 h => ?_)
    refine u_ld (v := .ref 271) (pc := 220) (dec_at lsk_206 (k := 124) rfl) rfl ?_
    refine u_gI (z := 6) (pc := 221) (dec_at lsk_206 (k := 125) rfl) f_12_306 sx_271 rfl rfl ?_
    exact u_rI (pc := 224) (dec_at lsk_206 (k := 126) rfl) rfl h
theorem k_206_176 {d : Nat} {Q : Int → uS → Prop} {u : uS} {l2 l3 : Int} (h : (rI l3) ∧ (if l3 < 6 then ((0 ≤ (6 * l2) + l3) ∧ (((6 * l2) + l3 < 180) ∧ (∀ u5 : uS, u5 = wr u 277 ((6 * l2) + l3) (u.1 281 ((6 * l2) + l3)) → (K_206 d 176 [.ref 271, .retAddr 0, iV l2, iV (l3 + 1)] [] u5 Q)))) else (K_206 d 142 [.ref 271, .retAddr 0, iV (l2 + 1), .retAddr 0] [] u Q))) : K_206 d 176 [.ref 271, .retAddr 0, iV l2, iV l3] [] u Q := by
  unfold K_206
  refine u_ld (v := iV l3) (pc := 176) (dec_at lsk_206 (k := 99) rfl) rfl ?_
  refine u_c (x := 6) (pc := 177) (dec_at lsk_206 (k := 100) rfl) rfl (by decide) ?_
  have g1 := h.1
  have h := h.2
  refine u_icF (pc := 179) (tgt := 210) (dec_at lsk_206 (k := 101) rfl) rfl (ci_ge g1 (by decide)) (fun e2 => ?_) (fun e2 => ?_)
  · have h := ifT e2 h
    refine u_ld (v := .ref 271) (pc := 182) (dec_at lsk_206 (k := 102) rfl) rfl ?_
    refine u_gS (o := 6) (p := 277) (pc := 183) (dec_at lsk_206 (k := 103) rfl) f_12_25 sx_271 rfl rfl ?_
    refine u_c (x := 6) (pc := 186) (dec_at lsk_206 (k := 104) rfl) rfl (by decide) ?_
    refine u_ld (v := iV l2) (pc := 188) (dec_at lsk_206 (k := 105) rfl) rfl ?_
    refine u_imul (pc := 189) (dec_at lsk_206 (k := 106) rfl) ?_
    refine u_ld (v := iV l3) (pc := 190) (dec_at lsk_206 (k := 107) rfl) rfl ?_
    refine u_iadd (pc := 191) (dec_at lsk_206 (k := 108) rfl) ?_
    refine u_ld (v := .ref 271) (pc := 192) (dec_at lsk_206 (k := 109) rfl) rfl ?_
    refine u_gS (o := 10) (p := 281) (pc := 193) (dec_at lsk_206 (k := 110) rfl) f_12_37 sx_271 rfl rfl ?_
    refine u_c (x := 6) (pc := 196) (dec_at lsk_206 (k := 111) rfl) rfl (by decide) ?_
    refine u_ld (v := iV l2) (pc := 198) (dec_at lsk_206 (k := 112) rfl) rfl ?_
    refine u_imul (pc := 199) (dec_at lsk_206 (k := 113) rfl) ?_
    refine u_ld (v := iV l3) (pc := 200) (dec_at lsk_206 (k := 114) rfl) rfl ?_
    refine u_iadd (pc := 201) (dec_at lsk_206 (k := 115) rfl) ?_
    have g3 := h.1
    have h := h.2
    have g4 := h.1
    have h := h.2
    refine u_iald (pc := 202) (dec_at lsk_206 (k := 116) rfl) sx_281 g3 g4 ?_
    refine u_iast (pc := 203) (dec_at lsk_206 (k := 117) rfl) sx_277 g3 g4 (fun u5 e6 => ?_)
    have h := h u5 e6
    refine u_inc (lv' := [.ref 271, .retAddr 0, iV l2, iV (l3 + 1)]) (pc := 204) (dec_at lsk_206 (k := 118) rfl) rfl (by decide) rfl ?_
    refine u_goto (pc := 207) (tgt := 176) (dec_at lsk_206 (k := 119) rfl) rfl ?_
    exact h
  · have h := ifF e2 h
    refine u_inc (lv' := [.ref 271, .retAddr 0, iV (l2 + 1), iV l3]) (pc := 210) (dec_at lsk_206 (k := 120) rfl) rfl (by decide) rfl ?_
    refine u_goto (pc := 213) (tgt := 142) (dec_at lsk_206 (k := 121) rfl) rfl ?_
    exact u_weak (sbK (sbK (sbK (sbD sb0)))) h
/-- method 207 -/
def K_207 (d pc : Nat) (lv : ev_L) (st : List Value) (u : uS) (Q : uS → Prop) : Prop := okU d 12 4 false none prog_14_method_14_code (qV Q) pc lv st u
theorem e_207 {d : Nat} {Q : uS → Prop} {u : uS} (h : cI (d + 1) 208 [.ref 271] u (fun r2 u1 => K_207 (d + 1) 9 [.ref 271, iV r2, iV 0, iV 0] [] u1 Q)) : cV (d + 2) 207 [.ref 271] u Q := by
  refine u_of me_207 (Nat.le_of_ble_eq_true rfl) ?_
  refine u_ld (v := .ref 271) (pc := 0) (dec_at lsk_207 (k := 0) rfl) rfl ?_
  refine u_cvI (As := []) (rb := 271) (st2 := []) (pc := 1) (dec_at lsk_207 (k := 1) rfl) m_12_274 (Or.inl rfl) rfl (Nat.le_of_ble_eq_true rfl) sx_271 me_208 rfl h (fun r2 u1 h => ?_)
  refine u_sto (lv' := [.ref 271, iV r2, .retAddr 0, .retAddr 0]) (pc := 4) (dec_at lsk_207 (k := 2) rfl) rfl ?_
  refine u_ld (v := iV 0) (pc := 5) (dec_at lsk_207 (k := 3) rfl) rfl ?_
  refine u_sto (lv' := [.ref 271, iV r2, iV 0, .retAddr 0]) (pc := 6) (dec_at lsk_207 (k := 4) rfl) rfl ?_
  refine u_ld (v := iV 0) (pc := 7) (dec_at lsk_207 (k := 5) rfl) rfl ?_
  refine u_sto (lv' := [.ref 271, iV r2, iV 0, iV 0]) (pc := 8) (dec_at lsk_207 (k := 6) rfl) rfl ?_
  exact h
theorem k_207_9 {d : Nat} {Q : uS → Prop} {u : uS} {l1 l2 l3 : Int} (h : (rI l3) ∧ ((rI (u.1 271 12)) ∧ (if l3 < u.1 271 12 then ((rI l2) ∧ (if l2 = 0 then ((0 ≤ l3) ∧ ((l3 < 10) ∧ ((rI (u.1 278 l3)) ∧ ((rI l1) ∧ (if u.1 278 l3 = l1 then (K_207 (d + 1) 9 [.ref 271, iV l1, iV 1, iV (l3 + 1)] [] u Q) else (K_207 (d + 1) 9 [.ref 271, iV l1, iV 0, iV (l3 + 1)] [] u Q)))))) else (K_207 (d + 1) 9 [.ref 271, iV l1, iV 1, iV (l3 + 1)] [] u Q))) else ((rI l1) ∧ (if l1 < 65 then ((rI (u.1 271 19)) ∧ (if u.1 271 19 = (-2) then (∀ u15 : uS, u15 = wr u 271 19 (u.1 271 4) → (Q u15)) else (∀ u17 : uS, u17 = wr u 271 19 (u.1 271 19) → (Q u17)))) else (if 90 < l1 then ((rI (u.1 271 19)) ∧ (if u.1 271 19 = (-2) then (∀ u22 : uS, u22 = wr u 271 19 (u.1 271 4) → (Q u22)) else (∀ u24 : uS, u24 = wr u 271 19 (u.1 271 19) → (Q u24)))) else ((rI l2) ∧ (if l2 = 0 then (if u.1 271 12 = 10 then ((rI (u.1 271 19)) ∧ (if u.1 271 19 = (-2) then (∀ u31 : uS, u31 = wr u 271 19 (u.1 271 4) → (Q u31)) else (∀ u33 : uS, u33 = wr u 271 19 (u.1 271 19) → (Q u33)))) else ((0 ≤ u.1 271 12) ∧ ((u.1 271 12 < 10) ∧ (∀ u37 : uS, u37 = wr u 278 (u.1 271 12) l1 → (∀ u39 : uS, u39 = wr u37 271 12 ((u37.1 271 12) + 1) → (∀ u41 : uS, u41 = wr u39 271 4 ((u39.1 271 4) + 1) → (cI (d + 1) 208 [.ref 271] u41 (fun r44 u43 => (rI r44) ∧ (if r44 = 61 then (∀ u47 : uS, u47 = wr u43 271 4 ((u43.1 271 4) + 1) → (cV (d + 1) 212 [.ref 271, iV (u.1 271 12)] u47 (fun u49 => K_207 (d + 1) 129 [.ref 271, .retAddr 0, .retAddr 0, iV (u.1 271 12)] [] u49 Q))) else ((rI (u43.1 271 19)) ∧ (if u43.1 271 19 = (-2) then (∀ u52 : uS, u52 = wr u43 271 19 (u43.1 271 4) → (Q u52)) else (∀ u54 : uS, u54 = wr u43 271 19 (u43.1 271 19) → (Q u54))))))))))))) else ((rI (u.1 271 19)) ∧ (if u.1 271 19 = (-2) then (∀ u58 : uS, u58 = wr u 271 19 (u.1 271 4) → (Q u58)) else (∀ u60 : uS, u60 = wr u 271 19 (u.1 271 19) → (Q u60)))))))))))) : K_207 (d + 1) 9 [.ref 271, iV l1, iV l2, iV l3] [] u Q := by
  unfold K_207
  refine u_ld (v := iV l3) (pc := 9) (dec_at lsk_207 (k := 7) rfl) rfl ?_
  refine u_ld (v := .ref 271) (pc := 10) (dec_at lsk_207 (k := 8) rfl) rfl ?_
  refine u_gI (z := 12) (pc := 11) (dec_at lsk_207 (k := 9) rfl) f_12_287 sx_271 rfl rfl ?_
  have g1 := h.1
  have h := h.2
  have g2 := h.1
  have h := h.2
  refine u_icF (pc := 14) (tgt := 43) (dec_at lsk_207 (k := 10) rfl) rfl (ci_ge g1 g2) (fun e3 => ?_) (fun e3 => ?_)
  · have h := ifT e3 h
    refine u_ld (v := iV l2) (pc := 17) (dec_at lsk_207 (k := 11) rfl) rfl ?_
    have g4 := h.1
    have h := h.2
    refine u_ifF (pc := 18) (tgt := 31) (dec_at lsk_207 (k := 12) rfl) rfl (c0_ne g4) (fun e5 => ?_) (fun e5 => ?_)
    · have h := ifT e5 h
      refine u_ld (v := .ref 271) (pc := 21) (dec_at lsk_207 (k := 13) rfl) rfl ?_
      refine u_gS (o := 7) (p := 278) (pc := 22) (dec_at lsk_207 (k := 14) rfl) f_12_28 sx_271 rfl rfl ?_
      refine u_ld (v := iV l3) (pc := 25) (dec_at lsk_207 (k := 15) rfl) rfl ?_
      have g6 := h.1
      have h := h.2
      have g7 := h.1
      have h := h.2
      refine u_iald (pc := 26) (dec_at lsk_207 (k := 16) rfl) sx_278 g6 g7 ?_
      refine u_ld (v := iV l1) (pc := 27) (dec_at lsk_207 (k := 17) rfl) rfl ?_
      have g8 := h.1
      have h := h.2
      have g9 := h.1
      have h := h.2
      refine u_icF (pc := 28) (tgt := 35) (dec_at lsk_207 (k := 18) rfl) rfl (ci_ne g8 g9) (fun e10 => ?_) (fun e10 => ?_)
      · have h := ifT e10 h
        refine u_ld (v := iV 1) (pc := 31) (dec_at lsk_207 (k := 19) rfl) rfl ?_
        refine u_goto (pc := 32) (tgt := 36) (dec_at lsk_207 (k := 20) rfl) rfl ?_
        refine u_sto (lv' := [.ref 271, iV l1, iV 1, iV l3]) (pc := 36) (dec_at lsk_207 (k := 22) rfl) rfl ?_
        refine u_inc (lv' := [.ref 271, iV l1, iV 1, iV (l3 + 1)]) (pc := 37) (dec_at lsk_207 (k := 23) rfl) rfl (by decide) rfl ?_
        refine u_goto (pc := 40) (tgt := 9) (dec_at lsk_207 (k := 24) rfl) rfl ?_
        exact h
      · have h := ifF e10 h
        refine u_ld (v := iV 0) (pc := 35) (dec_at lsk_207 (k := 21) rfl) rfl ?_
        refine u_sto (lv' := [.ref 271, iV l1, iV 0, iV l3]) (pc := 36) (dec_at lsk_207 (k := 22) rfl) rfl ?_
        refine u_inc (lv' := [.ref 271, iV l1, iV 0, iV (l3 + 1)]) (pc := 37) (dec_at lsk_207 (k := 23) rfl) rfl (by decide) rfl ?_
        refine u_goto (pc := 40) (tgt := 9) (dec_at lsk_207 (k := 24) rfl) rfl ?_
        exact h
    · have h := ifF e5 h
      refine u_ld (v := iV 1) (pc := 31) (dec_at lsk_207 (k := 19) rfl) rfl ?_
      refine u_goto (pc := 32) (tgt := 36) (dec_at lsk_207 (k := 20) rfl) rfl ?_
      refine u_sto (lv' := [.ref 271, iV l1, iV 1, iV l3]) (pc := 36) (dec_at lsk_207 (k := 22) rfl) rfl ?_
      refine u_inc (lv' := [.ref 271, iV l1, iV 1, iV (l3 + 1)]) (pc := 37) (dec_at lsk_207 (k := 23) rfl) rfl (by decide) rfl ?_
      refine u_goto (pc := 40) (tgt := 9) (dec_at lsk_207 (k := 24) rfl) rfl ?_
      exact h
  · have h := ifF e3 h
    refine u_ld (v := iV l1) (pc := 43) (dec_at lsk_207 (k := 25) rfl) rfl ?_
    refine u_csI (As := [iV l1]) (st2 := []) (pc := 44) (dec_at lsk_207 (k := 26) rfl) m_12_284 (Or.inl rfl) rfl (Nat.le_of_ble_eq_true rfl) ?_ (fun _ _ h_ => h_)
    refine u_of me_210 (Nat.le_of_ble_eq_true rfl) ?_
    refine u_ld (v := iV l1) (pc := 0) (dec_at lsk_210 (k := 0) rfl) rfl ?_
    refine u_c (x := 65) (pc := 1) (dec_at lsk_210 (k := 1) rfl) rfl (by decide) ?_
    have g11 := h.1
    have h := h.2
    refine u_icT (pc := 3) (tgt := 16) (dec_at lsk_210 (k := 2) rfl) rfl (ci_lt g11 (by decide)) (fun e12 => ?_) (fun e12 => ?_)
    · have h := ifT e12 h
      refine u_ld (v := iV 0) (pc := 16) (dec_at lsk_210 (k := 8) rfl) rfl ?_
      refine u_rZ (pc := 17) (dec_at lsk_210 (k := 9) rfl) rfl (by decide) ?_
      refine u_ifT (pc := 47) (tgt := 63) (dec_at lsk_207 (k := 27) rfl) rfl (c0_eq (by decide)) (fun _ => ?_) (fun e => absurd e (by decide))
      refine u_ld (v := .ref 271) (pc := 63) (dec_at lsk_207 (k := 34) rfl) rfl ?_
      refine u_cvV (As := []) (rb := 271) (st2 := []) (pc := 64) (dec_at lsk_207 (k := 35) rfl) m_12_281 (Or.inl rfl) rfl (Nat.le_of_ble_eq_true rfl) sx_271 me_211 rfl ?_ (fun _ h_ => h_)
      refine u_of me_211 (Nat.le_of_ble_eq_true rfl) ?_
      refine u_ld (v := .ref 271) (pc := 0) (dec_at lsk_211 (k := 0) rfl) rfl ?_
      refine u_ld (v := .ref 271) (pc := 1) (dec_at lsk_211 (k := 1) rfl) rfl ?_
      refine u_gI (z := 19) (pc := 2) (dec_at lsk_211 (k := 2) rfl) f_12_271 sx_271 rfl rfl ?_
      refine u_c (x := (-2)) (pc := 5) (dec_at lsk_211 (k := 3) rfl) rfl (by decide) ?_
      have g13 := h.1
      have h := h.2
      refine u_icF (pc := 7) (tgt := 17) (dec_at lsk_211 (k := 4) rfl) rfl (ci_ne g13 (by decide)) (fun e14 => ?_) (fun e14 => ?_)
      · have h := ifT e14 h
        refine u_ld (v := .ref 271) (pc := 10) (dec_at lsk_211 (k := 5) rfl) rfl ?_
        refine u_gI (z := 4) (pc := 11) (dec_at lsk_211 (k := 6) rfl) f_12_265 sx_271 rfl rfl ?_
        refine u_goto (pc := 14) (tgt := 21) (dec_at lsk_211 (k := 7) rfl) rfl ?_
        refine u_pI (z := 19) (pc := 21) (dec_at lsk_211 (k := 10) rfl) f_12_271 sx_271 rfl rfl rfl rfl (fun u15 e16 => ?_)
        have h := h u15 e16
        refine u_rV (pc := 24) (dec_at lsk_211 (k := 11) rfl) rfl ?_
        exact u_rV (pc := 67) (dec_at lsk_207 (k := 36) rfl) rfl h
      · have h := ifF e14 h
        refine u_ld (v := .ref 271) (pc := 17) (dec_at lsk_211 (k := 8) rfl) rfl ?_
        refine u_gI (z := 19) (pc := 18) (dec_at lsk_211 (k := 9) rfl) f_12_271 sx_271 rfl rfl ?_
        refine u_pI (z := 19) (pc := 21) (dec_at lsk_211 (k := 10) rfl) f_12_271 sx_271 rfl rfl rfl rfl (fun u17 e18 => ?_)
        have h := h u17 e18
        refine u_rV (pc := 24) (dec_at lsk_211 (k := 11) rfl) rfl ?_
        exact u_rV (pc := 67) (dec_at lsk_207 (k := 36) rfl) rfl h
    · have h := ifF e12 h
      refine u_ld (v := iV l1) (pc := 6) (dec_at lsk_210 (k := 3) rfl) rfl ?_
      refine u_c (x := 90) (pc := 7) (dec_at lsk_210 (k := 4) rfl) rfl (by decide) ?_
      refine u_icT (pc := 9) (tgt := 16) (dec_at lsk_210 (k := 5) rfl) rfl (ci_gt g11 (by decide)) (fun e19 => ?_) (fun e19 => ?_)
      · have h := ifT e19 h
        refine u_ld (v := iV 0) (pc := 16) (dec_at lsk_210 (k := 8) rfl) rfl ?_
        refine u_rZ (pc := 17) (dec_at lsk_210 (k := 9) rfl) rfl (by decide) ?_
        refine u_ifT (pc := 47) (tgt := 63) (dec_at lsk_207 (k := 27) rfl) rfl (c0_eq (by decide)) (fun _ => ?_) (fun e => absurd e (by decide))
        refine u_ld (v := .ref 271) (pc := 63) (dec_at lsk_207 (k := 34) rfl) rfl ?_
        refine u_cvV (As := []) (rb := 271) (st2 := []) (pc := 64) (dec_at lsk_207 (k := 35) rfl) m_12_281 (Or.inl rfl) rfl (Nat.le_of_ble_eq_true rfl) sx_271 me_211 rfl ?_ (fun _ h_ => h_)
        refine u_of me_211 (Nat.le_of_ble_eq_true rfl) ?_
        refine u_ld (v := .ref 271) (pc := 0) (dec_at lsk_211 (k := 0) rfl) rfl ?_
        refine u_ld (v := .ref 271) (pc := 1) (dec_at lsk_211 (k := 1) rfl) rfl ?_
        refine u_gI (z := 19) (pc := 2) (dec_at lsk_211 (k := 2) rfl) f_12_271 sx_271 rfl rfl ?_
        refine u_c (x := (-2)) (pc := 5) (dec_at lsk_211 (k := 3) rfl) rfl (by decide) ?_
        have g20 := h.1
        have h := h.2
        refine u_icF (pc := 7) (tgt := 17) (dec_at lsk_211 (k := 4) rfl) rfl (ci_ne g20 (by decide)) (fun e21 => ?_) (fun e21 => ?_)
        · have h := ifT e21 h
          refine u_ld (v := .ref 271) (pc := 10) (dec_at lsk_211 (k := 5) rfl) rfl ?_
          refine u_gI (z := 4) (pc := 11) (dec_at lsk_211 (k := 6) rfl) f_12_265 sx_271 rfl rfl ?_
          refine u_goto (pc := 14) (tgt := 21) (dec_at lsk_211 (k := 7) rfl) rfl ?_
          refine u_pI (z := 19) (pc := 21) (dec_at lsk_211 (k := 10) rfl) f_12_271 sx_271 rfl rfl rfl rfl (fun u22 e23 => ?_)
          have h := h u22 e23
          refine u_rV (pc := 24) (dec_at lsk_211 (k := 11) rfl) rfl ?_
          exact u_rV (pc := 67) (dec_at lsk_207 (k := 36) rfl) rfl h
        · have h := ifF e21 h
          refine u_ld (v := .ref 271) (pc := 17) (dec_at lsk_211 (k := 8) rfl) rfl ?_
          refine u_gI (z := 19) (pc := 18) (dec_at lsk_211 (k := 9) rfl) f_12_271 sx_271 rfl rfl ?_
          refine u_pI (z := 19) (pc := 21) (dec_at lsk_211 (k := 10) rfl) f_12_271 sx_271 rfl rfl rfl rfl (fun u24 e25 => ?_)
          have h := h u24 e25
          refine u_rV (pc := 24) (dec_at lsk_211 (k := 11) rfl) rfl ?_
          exact u_rV (pc := 67) (dec_at lsk_207 (k := 36) rfl) rfl h
      · have h := ifF e19 h
        refine u_ld (v := iV 1) (pc := 12) (dec_at lsk_210 (k := 6) rfl) rfl ?_
        refine u_goto (pc := 13) (tgt := 17) (dec_at lsk_210 (k := 7) rfl) rfl ?_
        refine u_rZ (pc := 17) (dec_at lsk_210 (k := 9) rfl) rfl (by decide) ?_
        refine u_ifT (pc := 47) (tgt := 63) (dec_at lsk_207 (k := 27) rfl) rfl (c0_eq (by decide)) (fun e => absurd e (by decide)) (fun _ => ?_)
        refine u_ld (v := iV l2) (pc := 50) (dec_at lsk_207 (k := 28) rfl) rfl ?_
        have g26 := h.1
        have h := h.2
        refine u_ifF (pc := 51) (tgt := 63) (dec_at lsk_207 (k := 29) rfl) rfl (c0_ne g26) (fun e27 => ?_) (fun e27 => ?_)
        · have h := ifT e27 h
          refine u_ld (v := .ref 271) (pc := 54) (dec_at lsk_207 (k := 30) rfl) rfl ?_
          refine u_gI (z := 12) (pc := 55) (dec_at lsk_207 (k := 31) rfl) f_12_287 sx_271 rfl rfl ?_
          refine u_c (x := 10) (pc := 58) (dec_at lsk_207 (k := 32) rfl) rfl (by decide) ?_
          refine u_icF (pc := 60) (tgt := 68) (dec_at lsk_207 (k := 33) rfl) rfl (ci_ne g2 (by decide)) (fun e28 => ?_) (fun e28 => ?_)
          · have h := ifT e28 h
            refine u_ld (v := .ref 271) (pc := 63) (dec_at lsk_207 (k := 34) rfl) rfl ?_
            refine u_cvV (As := []) (rb := 271) (st2 := []) (pc := 64) (dec_at lsk_207 (k := 35) rfl) m_12_281 (Or.inl rfl) rfl (Nat.le_of_ble_eq_true rfl) sx_271 me_211 rfl ?_ (fun _ h_ => h_)
            refine u_of me_211 (Nat.le_of_ble_eq_true rfl) ?_
            refine u_ld (v := .ref 271) (pc := 0) (dec_at lsk_211 (k := 0) rfl) rfl ?_
            refine u_ld (v := .ref 271) (pc := 1) (dec_at lsk_211 (k := 1) rfl) rfl ?_
            refine u_gI (z := 19) (pc := 2) (dec_at lsk_211 (k := 2) rfl) f_12_271 sx_271 rfl rfl ?_
            refine u_c (x := (-2)) (pc := 5) (dec_at lsk_211 (k := 3) rfl) rfl (by decide) ?_
            have g29 := h.1
            have h := h.2
            refine u_icF (pc := 7) (tgt := 17) (dec_at lsk_211 (k := 4) rfl) rfl (ci_ne g29 (by decide)) (fun e30 => ?_) (fun e30 => ?_)
            · have h := ifT e30 h
              refine u_ld (v := .ref 271) (pc := 10) (dec_at lsk_211 (k := 5) rfl) rfl ?_
              refine u_gI (z := 4) (pc := 11) (dec_at lsk_211 (k := 6) rfl) f_12_265 sx_271 rfl rfl ?_
              refine u_goto (pc := 14) (tgt := 21) (dec_at lsk_211 (k := 7) rfl) rfl ?_
              refine u_pI (z := 19) (pc := 21) (dec_at lsk_211 (k := 10) rfl) f_12_271 sx_271 rfl rfl rfl rfl (fun u31 e32 => ?_)
              have h := h u31 e32
              refine u_rV (pc := 24) (dec_at lsk_211 (k := 11) rfl) rfl ?_
              exact u_rV (pc := 67) (dec_at lsk_207 (k := 36) rfl) rfl h
            · have h := ifF e30 h
              refine u_ld (v := .ref 271) (pc := 17) (dec_at lsk_211 (k := 8) rfl) rfl ?_
              refine u_gI (z := 19) (pc := 18) (dec_at lsk_211 (k := 9) rfl) f_12_271 sx_271 rfl rfl ?_
              refine u_pI (z := 19) (pc := 21) (dec_at lsk_211 (k := 10) rfl) f_12_271 sx_271 rfl rfl rfl rfl (fun u33 e34 => ?_)
              have h := h u33 e34
              refine u_rV (pc := 24) (dec_at lsk_211 (k := 11) rfl) rfl ?_
              exact u_rV (pc := 67) (dec_at lsk_207 (k := 36) rfl) rfl h
          · have h := ifF e28 h
            refine u_ld (v := .ref 271) (pc := 68) (dec_at lsk_207 (k := 37) rfl) rfl ?_
            refine u_gI (z := 12) (pc := 69) (dec_at lsk_207 (k := 38) rfl) f_12_287 sx_271 rfl rfl ?_
            refine u_sto (lv' := [.ref 271, iV l1, iV l2, iV (u.1 271 12)]) (pc := 72) (dec_at lsk_207 (k := 39) rfl) rfl ?_
            refine u_ld (v := .ref 271) (pc := 73) (dec_at lsk_207 (k := 40) rfl) rfl ?_
            refine u_gS (o := 7) (p := 278) (pc := 74) (dec_at lsk_207 (k := 41) rfl) f_12_28 sx_271 rfl rfl ?_
            refine u_ld (v := iV (u.1 271 12)) (pc := 77) (dec_at lsk_207 (k := 42) rfl) rfl ?_
            refine u_ld (v := iV l1) (pc := 78) (dec_at lsk_207 (k := 43) rfl) rfl ?_
            have g35 := h.1
            have h := h.2
            have g36 := h.1
            have h := h.2
            refine u_iast (pc := 79) (dec_at lsk_207 (k := 44) rfl) sx_278 g35 g36 (fun u37 e38 => ?_)
            have h := h u37 e38
            refine u_ld (v := .ref 271) (pc := 80) (dec_at lsk_207 (k := 45) rfl) rfl ?_
            refine u_ld (v := .ref 271) (pc := 81) (dec_at lsk_207 (k := 46) rfl) rfl ?_
            refine u_gI (z := 12) (pc := 82) (dec_at lsk_207 (k := 47) rfl) f_12_287 sx_271 rfl rfl ?_
            refine u_ld (v := iV 1) (pc := 85) (dec_at lsk_207 (k := 48) rfl) rfl ?_
            refine u_iadd (pc := 86) (dec_at lsk_207 (k := 49) rfl) ?_
            refine u_pI (z := 12) (pc := 87) (dec_at lsk_207 (k := 50) rfl) f_12_287 sx_271 rfl rfl rfl rfl (fun u39 e40 => ?_)
            have h := h u39 e40
            refine u_ld (v := .ref 271) (pc := 90) (dec_at lsk_207 (k := 51) rfl) rfl ?_
            refine u_ld (v := .ref 271) (pc := 91) (dec_at lsk_207 (k := 52) rfl) rfl ?_
            refine u_gI (z := 4) (pc := 92) (dec_at lsk_207 (k := 53) rfl) f_12_265 sx_271 rfl rfl ?_
            refine u_ld (v := iV 1) (pc := 95) (dec_at lsk_207 (k := 54) rfl) rfl ?_
            refine u_iadd (pc := 96) (dec_at lsk_207 (k := 55) rfl) ?_
            refine u_pI (z := 4) (pc := 97) (dec_at lsk_207 (k := 56) rfl) f_12_265 sx_271 rfl rfl rfl rfl (fun u41 e42 => ?_)
            have h := h u41 e42
            refine u_ld (v := .ref 271) (pc := 100) (dec_at lsk_207 (k := 57) rfl) rfl ?_
            refine u_cvI (As := []) (rb := 271) (st2 := []) (pc := 101) (dec_at lsk_207 (k := 58) rfl) m_12_274 (Or.inl rfl) rfl (Nat.le_of_ble_eq_true rfl) sx_271 me_208 rfl h (fun r44 u43 h => ?_)
            refine u_c (x := 61) (pc := 104) (dec_at lsk_207 (k := 59) rfl) rfl (by decide) ?_
            have g45 := h.1
            have h := h.2
            refine u_icT (pc := 106) (tgt := 114) (dec_at lsk_207 (k := 60) rfl) rfl (ci_eq g45 (by decide)) (fun e46 => ?_) (fun e46 => ?_)
            · have h := ifT e46 h
              refine u_ld (v := .ref 271) (pc := 114) (dec_at lsk_207 (k := 64) rfl) rfl ?_
              refine u_ld (v := .ref 271) (pc := 115) (dec_at lsk_207 (k := 65) rfl) rfl ?_
              refine u_gI (z := 4) (pc := 116) (dec_at lsk_207 (k := 66) rfl) f_12_265 sx_271 rfl rfl ?_
              refine u_ld (v := iV 1) (pc := 119) (dec_at lsk_207 (k := 67) rfl) rfl ?_
              refine u_iadd (pc := 120) (dec_at lsk_207 (k := 68) rfl) ?_
              refine u_pI (z := 4) (pc := 121) (dec_at lsk_207 (k := 69) rfl) f_12_265 sx_271 rfl rfl rfl rfl (fun u47 e48 => ?_)
              have h := h u47 e48
              refine u_ld (v := .ref 271) (pc := 124) (dec_at lsk_207 (k := 70) rfl) rfl ?_
              refine u_ld (v := iV (u.1 271 12)) (pc := 125) (dec_at lsk_207 (k := 71) rfl) rfl ?_
              refine u_cvV (As := [iV (u.1 271 12)]) (rb := 271) (st2 := []) (pc := 126) (dec_at lsk_207 (k := 72) rfl) m_12_290 (Or.inl rfl) rfl (Nat.le_of_ble_eq_true rfl) sx_271 me_212 rfl h (fun u49 h => ?_)
              exact u_weak (sbK (sbD (sbD (sbK sb0)))) h
            · have h := ifF e46 h
              refine u_ld (v := .ref 271) (pc := 109) (dec_at lsk_207 (k := 61) rfl) rfl ?_
              refine u_cvV (As := []) (rb := 271) (st2 := []) (pc := 110) (dec_at lsk_207 (k := 62) rfl) m_12_281 (Or.inl rfl) rfl (Nat.le_of_ble_eq_true rfl) sx_271 me_211 rfl ?_ (fun _ h_ => h_)
              refine u_of me_211 (Nat.le_of_ble_eq_true rfl) ?_
              refine u_ld (v := .ref 271) (pc := 0) (dec_at lsk_211 (k := 0) rfl) rfl ?_
              refine u_ld (v := .ref 271) (pc := 1) (dec_at lsk_211 (k := 1) rfl) rfl ?_
              refine u_gI (z := 19) (pc := 2) (dec_at lsk_211 (k := 2) rfl) f_12_271 sx_271 rfl rfl ?_
              refine u_c (x := (-2)) (pc := 5) (dec_at lsk_211 (k := 3) rfl) rfl (by decide) ?_
              have g50 := h.1
              have h := h.2
              refine u_icF (pc := 7) (tgt := 17) (dec_at lsk_211 (k := 4) rfl) rfl (ci_ne g50 (by decide)) (fun e51 => ?_) (fun e51 => ?_)
              · have h := ifT e51 h
                refine u_ld (v := .ref 271) (pc := 10) (dec_at lsk_211 (k := 5) rfl) rfl ?_
                refine u_gI (z := 4) (pc := 11) (dec_at lsk_211 (k := 6) rfl) f_12_265 sx_271 rfl rfl ?_
                refine u_goto (pc := 14) (tgt := 21) (dec_at lsk_211 (k := 7) rfl) rfl ?_
                refine u_pI (z := 19) (pc := 21) (dec_at lsk_211 (k := 10) rfl) f_12_271 sx_271 rfl rfl rfl rfl (fun u52 e53 => ?_)
                have h := h u52 e53
                refine u_rV (pc := 24) (dec_at lsk_211 (k := 11) rfl) rfl ?_
                exact u_rV (pc := 113) (dec_at lsk_207 (k := 63) rfl) rfl h
              · have h := ifF e51 h
                refine u_ld (v := .ref 271) (pc := 17) (dec_at lsk_211 (k := 8) rfl) rfl ?_
                refine u_gI (z := 19) (pc := 18) (dec_at lsk_211 (k := 9) rfl) f_12_271 sx_271 rfl rfl ?_
                refine u_pI (z := 19) (pc := 21) (dec_at lsk_211 (k := 10) rfl) f_12_271 sx_271 rfl rfl rfl rfl (fun u54 e55 => ?_)
                have h := h u54 e55
                refine u_rV (pc := 24) (dec_at lsk_211 (k := 11) rfl) rfl ?_
                exact u_rV (pc := 113) (dec_at lsk_207 (k := 63) rfl) rfl h
        · have h := ifF e27 h
          refine u_ld (v := .ref 271) (pc := 63) (dec_at lsk_207 (k := 34) rfl) rfl ?_
          refine u_cvV (As := []) (rb := 271) (st2 := []) (pc := 64) (dec_at lsk_207 (k := 35) rfl) m_12_281 (Or.inl rfl) rfl (Nat.le_of_ble_eq_true rfl) sx_271 me_211 rfl ?_ (fun _ h_ => h_)
          refine u_of me_211 (Nat.le_of_ble_eq_true rfl) ?_
          refine u_ld (v := .ref 271) (pc := 0) (dec_at lsk_211 (k := 0) rfl) rfl ?_
          refine u_ld (v := .ref 271) (pc := 1) (dec_at lsk_211 (k := 1) rfl) rfl ?_
          refine u_gI (z := 19) (pc := 2) (dec_at lsk_211 (k := 2) rfl) f_12_271 sx_271 rfl rfl ?_
          refine u_c (x := (-2)) (pc := 5) (dec_at lsk_211 (k := 3) rfl) rfl (by decide) ?_
          have g56 := h.1
          have h := h.2
          refine u_icF (pc := 7) (tgt := 17) (dec_at lsk_211 (k := 4) rfl) rfl (ci_ne g56 (by decide)) (fun e57 => ?_) (fun e57 => ?_)
          · have h := ifT e57 h
            refine u_ld (v := .ref 271) (pc := 10) (dec_at lsk_211 (k := 5) rfl) rfl ?_
            refine u_gI (z := 4) (pc := 11) (dec_at lsk_211 (k := 6) rfl) f_12_265 sx_271 rfl rfl ?_
            refine u_goto (pc := 14) (tgt := 21) (dec_at lsk_211 (k := 7) rfl) rfl ?_
            refine u_pI (z := 19) (pc := 21) (dec_at lsk_211 (k := 10) rfl) f_12_271 sx_271 rfl rfl rfl rfl (fun u58 e59 => ?_)
            have h := h u58 e59
            refine u_rV (pc := 24) (dec_at lsk_211 (k := 11) rfl) rfl ?_
            exact u_rV (pc := 67) (dec_at lsk_207 (k := 36) rfl) rfl h
          · have h := ifF e57 h
            refine u_ld (v := .ref 271) (pc := 17) (dec_at lsk_211 (k := 8) rfl) rfl ?_
            refine u_gI (z := 19) (pc := 18) (dec_at lsk_211 (k := 9) rfl) f_12_271 sx_271 rfl rfl ?_
            refine u_pI (z := 19) (pc := 21) (dec_at lsk_211 (k := 10) rfl) f_12_271 sx_271 rfl rfl rfl rfl (fun u60 e61 => ?_)
            have h := h u60 e61
            refine u_rV (pc := 24) (dec_at lsk_211 (k := 11) rfl) rfl ?_
            exact u_rV (pc := 67) (dec_at lsk_207 (k := 36) rfl) rfl h
theorem k_207_129 {d : Nat} {Q : uS → Prop} {u : uS} {l3 : Int} (h : (rI (u.1 271 19)) ∧ (if u.1 271 19 = (-2) then (cI (d + 1) 208 [.ref 271] u (fun r4 u3 => (rI r4) ∧ (if r4 = 124 then (∀ u7 : uS, u7 = wr u3 271 4 ((u3.1 271 4) + 1) → (cV (d + 1) 212 [.ref 271, iV l3] u7 (fun u9 => K_207 (d + 1) 129 [.ref 271, .retAddr 0, .retAddr 0, iV l3] [] u9 Q))) else ((rI (u3.1 271 19)) ∧ (if u3.1 271 19 = (-2) then (cI (d + 1) 208 [.ref 271] u3 (fun r13 u12 => (rI r13) ∧ (if r13 = 59 then (∀ u16 : uS, u16 = wr u12 271 4 ((u12.1 271 4) + 1) → (Q u16)) else ((rI (u12.1 271 19)) ∧ (if u12.1 271 19 = (-2) then (∀ u20 : uS, u20 = wr u12 271 19 (u12.1 271 4) → (∀ u22 : uS, u22 = wr u20 271 4 ((u20.1 271 4) + 1) → (Q u22))) else (∀ u24 : uS, u24 = wr u12 271 19 (u12.1 271 19) → (∀ u26 : uS, u26 = wr u24 271 4 ((u24.1 271 4) + 1) → (Q u26)))))))) else (∀ u28 : uS, u28 = wr u3 271 4 ((u3.1 271 4) + 1) → (Q u28))))))) else (∀ u31 : uS, u31 = wr u 271 4 ((u.1 271 4) + 1) → (Q u31)))) : K_207 (d + 1) 129 [.ref 271, .retAddr 0, .retAddr 0, iV l3] [] u Q := by
  unfold K_207
  refine u_ld (v := .ref 271) (pc := 129) (dec_at lsk_207 (k := 73) rfl) rfl ?_
  refine u_gI (z := 19) (pc := 130) (dec_at lsk_207 (k := 74) rfl) f_12_271 sx_271 rfl rfl ?_
  refine u_c (x := (-2)) (pc := 133) (dec_at lsk_207 (k := 75) rfl) rfl (by decide) ?_
  have g1 := h.1
  have h := h.2
  refine u_icF (pc := 135) (tgt := 165) (dec_at lsk_207 (k := 76) rfl) rfl (ci_ne g1 (by decide)) (fun e2 => ?_) (fun e2 => ?_)
  · have h := ifT e2 h
    refine u_ld (v := .ref 271) (pc := 138) (dec_at lsk_207 (k := 77) rfl) rfl ?_
    refine u_cvI (As := []) (rb := 271) (st2 := []) (pc := 139) (dec_at lsk_207 (k := 78) rfl) m_12_274 (Or.inl rfl) rfl (Nat.le_of_ble_eq_true rfl) sx_271 me_208 rfl h (fun r4 u3 h => ?_)
    refine u_c (x := 124) (pc := 142) (dec_at lsk_207 (k := 79) rfl) rfl (by decide) ?_
    have g5 := h.1
    have h := h.2
    refine u_icF (pc := 144) (tgt := 165) (dec_at lsk_207 (k := 80) rfl) rfl (ci_ne g5 (by decide)) (fun e6 => ?_) (fun e6 => ?_)
    · have h := ifT e6 h
      refine u_ld (v := .ref 271) (pc := 147) (dec_at lsk_207 (k := 81) rfl) rfl ?_
      refine u_ld (v := .ref 271) (pc := 148) (dec_at lsk_207 (k := 82) rfl) rfl ?_
      refine u_gI (z := 4) (pc := 149) (dec_at lsk_207 (k := 83) rfl) f_12_265 sx_271 rfl rfl ?_
      refine u_ld (v := iV 1) (pc := 152) (dec_at lsk_207 (k := 84) rfl) rfl ?_
      refine u_iadd (pc := 153) (dec_at lsk_207 (k := 85) rfl) ?_
      refine u_pI (z := 4) (pc := 154) (dec_at lsk_207 (k := 86) rfl) f_12_265 sx_271 rfl rfl rfl rfl (fun u7 e8 => ?_)
      have h := h u7 e8
      refine u_ld (v := .ref 271) (pc := 157) (dec_at lsk_207 (k := 87) rfl) rfl ?_
      refine u_ld (v := iV l3) (pc := 158) (dec_at lsk_207 (k := 88) rfl) rfl ?_
      refine u_cvV (As := [iV l3]) (rb := 271) (st2 := []) (pc := 159) (dec_at lsk_207 (k := 89) rfl) m_12_290 (Or.inl rfl) rfl (Nat.le_of_ble_eq_true rfl) sx_271 me_212 rfl h (fun u9 h => ?_)
      refine u_goto (pc := 162) (tgt := 129) (dec_at lsk_207 (k := 90) rfl) rfl ?_
      exact h
    · have h := ifF e6 h
      refine u_ld (v := .ref 271) (pc := 165) (dec_at lsk_207 (k := 91) rfl) rfl ?_
      refine u_gI (z := 19) (pc := 166) (dec_at lsk_207 (k := 92) rfl) f_12_271 sx_271 rfl rfl ?_
      refine u_c (x := (-2)) (pc := 169) (dec_at lsk_207 (k := 93) rfl) rfl (by decide) ?_
      have g10 := h.1
      have h := h.2
      refine u_icF (pc := 171) (tgt := 187) (dec_at lsk_207 (k := 94) rfl) rfl (ci_ne g10 (by decide)) (fun e11 => ?_) (fun e11 => ?_)
      · have h := ifT e11 h
        refine u_ld (v := .ref 271) (pc := 174) (dec_at lsk_207 (k := 95) rfl) rfl ?_
        refine u_cvI (As := []) (rb := 271) (st2 := []) (pc := 175) (dec_at lsk_207 (k := 96) rfl) m_12_274 (Or.inl rfl) rfl (Nat.le_of_ble_eq_true rfl) sx_271 me_208 rfl h (fun r13 u12 h => ?_)
        refine u_c (x := 59) (pc := 178) (dec_at lsk_207 (k := 97) rfl) rfl (by decide) ?_
        have g14 := h.1
        have h := h.2
        refine u_icT (pc := 180) (tgt := 187) (dec_at lsk_207 (k := 98) rfl) rfl (ci_eq g14 (by decide)) (fun e15 => ?_) (fun e15 => ?_)
        · have h := ifT e15 h
          refine u_ld (v := .ref 271) (pc := 187) (dec_at lsk_207 (k := 101) rfl) rfl ?_
          refine u_ld (v := .ref 271) (pc := 188) (dec_at lsk_207 (k := 102) rfl) rfl ?_
          refine u_gI (z := 4) (pc := 189) (dec_at lsk_207 (k := 103) rfl) f_12_265 sx_271 rfl rfl ?_
          refine u_ld (v := iV 1) (pc := 192) (dec_at lsk_207 (k := 104) rfl) rfl ?_
          refine u_iadd (pc := 193) (dec_at lsk_207 (k := 105) rfl) ?_
          refine u_pI (z := 4) (pc := 194) (dec_at lsk_207 (k := 106) rfl) f_12_265 sx_271 rfl rfl rfl rfl (fun u16 e17 => ?_)
          have h := h u16 e17
          exact u_rV (pc := 197) (dec_at lsk_207 (k := 107) rfl) rfl h
        · have h := ifF e15 h
          refine u_ld (v := .ref 271) (pc := 183) (dec_at lsk_207 (k := 99) rfl) rfl ?_
          refine u_cvV (As := []) (rb := 271) (st2 := []) (pc := 184) (dec_at lsk_207 (k := 100) rfl) m_12_281 (Or.inl rfl) rfl (Nat.le_of_ble_eq_true rfl) sx_271 me_211 rfl ?_ (fun _ h_ => h_)
          refine u_of me_211 (Nat.le_of_ble_eq_true rfl) ?_
          refine u_ld (v := .ref 271) (pc := 0) (dec_at lsk_211 (k := 0) rfl) rfl ?_
          refine u_ld (v := .ref 271) (pc := 1) (dec_at lsk_211 (k := 1) rfl) rfl ?_
          refine u_gI (z := 19) (pc := 2) (dec_at lsk_211 (k := 2) rfl) f_12_271 sx_271 rfl rfl ?_
          refine u_c (x := (-2)) (pc := 5) (dec_at lsk_211 (k := 3) rfl) rfl (by decide) ?_
          have g18 := h.1
          have h := h.2
          refine u_icF (pc := 7) (tgt := 17) (dec_at lsk_211 (k := 4) rfl) rfl (ci_ne g18 (by decide)) (fun e19 => ?_) (fun e19 => ?_)
          · have h := ifT e19 h
            refine u_ld (v := .ref 271) (pc := 10) (dec_at lsk_211 (k := 5) rfl) rfl ?_
            refine u_gI (z := 4) (pc := 11) (dec_at lsk_211 (k := 6) rfl) f_12_265 sx_271 rfl rfl ?_
            refine u_goto (pc := 14) (tgt := 21) (dec_at lsk_211 (k := 7) rfl) rfl ?_
            refine u_pI (z := 19) (pc := 21) (dec_at lsk_211 (k := 10) rfl) f_12_271 sx_271 rfl rfl rfl rfl (fun u20 e21 => ?_)
            have h := h u20 e21
            refine u_rV (pc := 24) (dec_at lsk_211 (k := 11) rfl) rfl ?_
            refine u_ld (v := .ref 271) (pc := 187) (dec_at lsk_207 (k := 101) rfl) rfl ?_
            refine u_ld (v := .ref 271) (pc := 188) (dec_at lsk_207 (k := 102) rfl) rfl ?_
            refine u_gI (z := 4) (pc := 189) (dec_at lsk_207 (k := 103) rfl) f_12_265 sx_271 rfl rfl ?_
            refine u_ld (v := iV 1) (pc := 192) (dec_at lsk_207 (k := 104) rfl) rfl ?_
            refine u_iadd (pc := 193) (dec_at lsk_207 (k := 105) rfl) ?_
            refine u_pI (z := 4) (pc := 194) (dec_at lsk_207 (k := 106) rfl) f_12_265 sx_271 rfl rfl rfl rfl (fun u22 e23 => ?_)
            have h := h u22 e23
            exact u_rV (pc := 197) (dec_at lsk_207 (k := 107) rfl) rfl h
          · have h := ifF e19 h
            refine u_ld (v := .ref 271) (pc := 17) (dec_at lsk_211 (k := 8) rfl) rfl ?_
            refine u_gI (z := 19) (pc := 18) (dec_at lsk_211 (k := 9) rfl) f_12_271 sx_271 rfl rfl ?_
            refine u_pI (z := 19) (pc := 21) (dec_at lsk_211 (k := 10) rfl) f_12_271 sx_271 rfl rfl rfl rfl (fun u24 e25 => ?_)
            have h := h u24 e25
            refine u_rV (pc := 24) (dec_at lsk_211 (k := 11) rfl) rfl ?_
            refine u_ld (v := .ref 271) (pc := 187) (dec_at lsk_207 (k := 101) rfl) rfl ?_
            refine u_ld (v := .ref 271) (pc := 188) (dec_at lsk_207 (k := 102) rfl) rfl ?_
            refine u_gI (z := 4) (pc := 189) (dec_at lsk_207 (k := 103) rfl) f_12_265 sx_271 rfl rfl ?_
            refine u_ld (v := iV 1) (pc := 192) (dec_at lsk_207 (k := 104) rfl) rfl ?_
            refine u_iadd (pc := 193) (dec_at lsk_207 (k := 105) rfl) ?_
            refine u_pI (z := 4) (pc := 194) (dec_at lsk_207 (k := 106) rfl) f_12_265 sx_271 rfl rfl rfl rfl (fun u26 e27 => ?_)
            have h := h u26 e27
            exact u_rV (pc := 197) (dec_at lsk_207 (k := 107) rfl) rfl h
      · have h := ifF e11 h
        refine u_ld (v := .ref 271) (pc := 187) (dec_at lsk_207 (k := 101) rfl) rfl ?_
        refine u_ld (v := .ref 271) (pc := 188) (dec_at lsk_207 (k := 102) rfl) rfl ?_
        refine u_gI (z := 4) (pc := 189) (dec_at lsk_207 (k := 103) rfl) f_12_265 sx_271 rfl rfl ?_
        refine u_ld (v := iV 1) (pc := 192) (dec_at lsk_207 (k := 104) rfl) rfl ?_
        refine u_iadd (pc := 193) (dec_at lsk_207 (k := 105) rfl) ?_
        refine u_pI (z := 4) (pc := 194) (dec_at lsk_207 (k := 106) rfl) f_12_265 sx_271 rfl rfl rfl rfl (fun u28 e29 => ?_)
        have h := h u28 e29
        exact u_rV (pc := 197) (dec_at lsk_207 (k := 107) rfl) rfl h
  · have h := ifF e2 h
    refine u_ld (v := .ref 271) (pc := 165) (dec_at lsk_207 (k := 91) rfl) rfl ?_
    refine u_gI (z := 19) (pc := 166) (dec_at lsk_207 (k := 92) rfl) f_12_271 sx_271 rfl rfl ?_
    refine u_c (x := (-2)) (pc := 169) (dec_at lsk_207 (k := 93) rfl) rfl (by decide) ?_
    refine u_icF (pc := 171) (tgt := 187) (dec_at lsk_207 (k := 94) rfl) rfl (ci_ne g1 (by decide)) (fun e30 => absurd e30 e2) (fun _ => ?_)
    refine u_ld (v := .ref 271) (pc := 187) (dec_at lsk_207 (k := 101) rfl) rfl ?_
    refine u_ld (v := .ref 271) (pc := 188) (dec_at lsk_207 (k := 102) rfl) rfl ?_
    refine u_gI (z := 4) (pc := 189) (dec_at lsk_207 (k := 103) rfl) f_12_265 sx_271 rfl rfl ?_
    refine u_ld (v := iV 1) (pc := 192) (dec_at lsk_207 (k := 104) rfl) rfl ?_
    refine u_iadd (pc := 193) (dec_at lsk_207 (k := 105) rfl) ?_
    refine u_pI (z := 4) (pc := 194) (dec_at lsk_207 (k := 106) rfl) f_12_265 sx_271 rfl rfl rfl rfl (fun u31 e32 => ?_)
    have h := h u31 e32
    exact u_rV (pc := 197) (dec_at lsk_207 (k := 107) rfl) rfl h
/-- method 208 -/
def K_208 (d pc : Nat) (lv : ev_L) (st : List Value) (u : uS) (Q : Int → uS → Prop) : Prop := okU d 12 1 false (some .int) prog_14_method_10_code (qI Q) pc lv st u
theorem e_208 {d : Nat} {Q : Int → uS → Prop} {u : uS} (h : cV d 209 [.ref 271] u (fun u1 => (rI (u1.1 271 4)) ∧ ((rI (u1.1 271 1)) ∧ (if u1.1 271 4 < u1.1 271 1 then ((0 ≤ u1.1 271 4) ∧ ((u1.1 271 4 < 300) ∧ (Q (u1.1 272 (u1.1 271 4)) u1))) else (Q 0 u1))))) : cI (d + 1) 208 [.ref 271] u Q := by
  refine u_of me_208 (Nat.le_of_ble_eq_true rfl) ?_
  refine u_ld (v := .ref 271) (pc := 0) (dec_at lsk_208 (k := 0) rfl) rfl ?_
  refine u_cvV (As := []) (rb := 271) (st2 := []) (pc := 1) (dec_at lsk_208 (k := 1) rfl) m_12_268 (Or.inl rfl) rfl (Nat.le_of_ble_eq_true rfl) sx_271 me_209 rfl h (fun u1 h => ?_)
  refine u_ld (v := .ref 271) (pc := 4) (dec_at lsk_208 (k := 2) rfl) rfl ?_
  refine u_gI (z := 4) (pc := 5) (dec_at lsk_208 (k := 3) rfl) f_12_265 sx_271 rfl rfl ?_
  refine u_ld (v := .ref 271) (pc := 8) (dec_at lsk_208 (k := 4) rfl) rfl ?_
  refine u_gI (z := 1) (pc := 9) (dec_at lsk_208 (k := 5) rfl) f_12_254 sx_271 rfl rfl ?_
  have g2 := h.1
  have h := h.2
  have g3 := h.1
  have h := h.2
  refine u_icF (pc := 12) (tgt := 27) (dec_at lsk_208 (k := 6) rfl) rfl (ci_ge g2 g3) (fun e4 => ?_) (fun e4 => ?_)
  · have h := ifT e4 h
    refine u_ld (v := .ref 271) (pc := 15) (dec_at lsk_208 (k := 7) rfl) rfl ?_
    refine u_gS (o := 1) (p := 272) (pc := 16) (dec_at lsk_208 (k := 8) rfl) f_12_7 sx_271 rfl rfl ?_
    refine u_ld (v := .ref 271) (pc := 19) (dec_at lsk_208 (k := 9) rfl) rfl ?_
    refine u_gI (z := 4) (pc := 20) (dec_at lsk_208 (k := 10) rfl) f_12_265 sx_271 rfl rfl ?_
    have g5 := h.1
    have h := h.2
    have g6 := h.1
    have h := h.2
    refine u_iald (pc := 23) (dec_at lsk_208 (k := 11) rfl) sx_272 g5 g6 ?_
    refine u_goto (pc := 24) (tgt := 28) (dec_at lsk_208 (k := 12) rfl) rfl ?_
    exact u_rI (pc := 28) (dec_at lsk_208 (k := 14) rfl) rfl h
  · have h := ifF e4 h
    refine u_ld (v := iV 0) (pc := 27) (dec_at lsk_208 (k := 13) rfl) rfl ?_
    exact u_rI (pc := 28) (dec_at lsk_208 (k := 14) rfl) rfl h
/-- method 209 -/
def K_209 (d pc : Nat) (lv : ev_L) (st : List Value) (u : uS) (Q : uS → Prop) : Prop := okU d 12 1 false none prog_14_method_9_code (qV Q) pc lv st u
theorem e_209 {d : Nat} {Q : uS → Prop} {u : uS} (h : K_209 d 0 [.ref 271] [] u Q) : cV (d + 1) 209 [.ref 271] u Q := by
  refine u_of me_209 (Nat.le_of_ble_eq_true rfl) ?_
  exact h
theorem k_209_0 {d : Nat} {Q : uS → Prop} {u : uS} (h : (rI (u.1 271 4)) ∧ ((rI (u.1 271 1)) ∧ (if u.1 271 4 < u.1 271 1 then ((0 ≤ u.1 271 4) ∧ ((u.1 271 4 < 300) ∧ ((rI (u.1 272 (u.1 271 4))) ∧ (if u.1 272 (u.1 271 4) = 32 then (∀ u8 : uS, u8 = wr u 271 4 ((u.1 271 4) + 1) → (K_209 d 0 [.ref 271] [] u8 Q)) else (Q u))))) else (Q u)))) : K_209 d 0 [.ref 271] [] u Q := by
  unfold K_209
  refine u_ld (v := .ref 271) (pc := 0) (dec_at lsk_209 (k := 0) rfl) rfl ?_
  refine u_gI (z := 4) (pc := 1) (dec_at lsk_209 (k := 1) rfl) f_12_265 sx_271 rfl rfl ?_
  refine u_ld (v := .ref 271) (pc := 4) (dec_at lsk_209 (k := 2) rfl) rfl ?_
  refine u_gI (z := 1) (pc := 5) (dec_at lsk_209 (k := 3) rfl) f_12_254 sx_271 rfl rfl ?_
  have g1 := h.1
  have h := h.2
  have g2 := h.1
  have h := h.2
  refine u_icF (pc := 8) (tgt := 38) (dec_at lsk_209 (k := 4) rfl) rfl (ci_ge g1 g2) (fun e3 => ?_) (fun e3 => ?_)
  · have h := ifT e3 h
    refine u_ld (v := .ref 271) (pc := 11) (dec_at lsk_209 (k := 5) rfl) rfl ?_
    refine u_gS (o := 1) (p := 272) (pc := 12) (dec_at lsk_209 (k := 6) rfl) f_12_7 sx_271 rfl rfl ?_
    refine u_ld (v := .ref 271) (pc := 15) (dec_at lsk_209 (k := 7) rfl) rfl ?_
    refine u_gI (z := 4) (pc := 16) (dec_at lsk_209 (k := 8) rfl) f_12_265 sx_271 rfl rfl ?_
    have g4 := h.1
    have h := h.2
    have g5 := h.1
    have h := h.2
    refine u_iald (pc := 19) (dec_at lsk_209 (k := 9) rfl) sx_272 g4 g5 ?_
    refine u_c (x := 32) (pc := 20) (dec_at lsk_209 (k := 10) rfl) rfl (by decide) ?_
    have g6 := h.1
    have h := h.2
    refine u_icF (pc := 22) (tgt := 38) (dec_at lsk_209 (k := 11) rfl) rfl (ci_ne g6 (by decide)) (fun e7 => ?_) (fun e7 => ?_)
    · have h := ifT e7 h
      refine u_ld (v := .ref 271) (pc := 25) (dec_at lsk_209 (k := 12) rfl) rfl ?_
      refine u_ld (v := .ref 271) (pc := 26) (dec_at lsk_209 (k := 13) rfl) rfl ?_
      refine u_gI (z := 4) (pc := 27) (dec_at lsk_209 (k := 14) rfl) f_12_265 sx_271 rfl rfl ?_
      refine u_ld (v := iV 1) (pc := 30) (dec_at lsk_209 (k := 15) rfl) rfl ?_
      refine u_iadd (pc := 31) (dec_at lsk_209 (k := 16) rfl) ?_
      refine u_pI (z := 4) (pc := 32) (dec_at lsk_209 (k := 17) rfl) f_12_265 sx_271 rfl rfl rfl rfl (fun u8 e9 => ?_)
      have h := h u8 e9
      refine u_goto (pc := 35) (tgt := 0) (dec_at lsk_209 (k := 18) rfl) rfl ?_
      exact h
    · have h := ifF e7 h
      exact u_rV (pc := 38) (dec_at lsk_209 (k := 19) rfl) rfl h
  · have h := ifF e3 h
    exact u_rV (pc := 38) (dec_at lsk_209 (k := 19) rfl) rfl h
/-- method 212 -/
def K_212 (d pc : Nat) (lv : ev_L) (st : List Value) (u : uS) (Q : uS → Prop) : Prop := okU d 12 4 false none prog_14_method_13_code (qV Q) pc lv st u
theorem e_212 {d : Nat} {Q : uS → Prop} {u : uS} {l1 : Int} (h : cI (d + 1) 208 [.ref 271] u (fun r2 u1 => (rI (u1.1 271 13)) ∧ (if u1.1 271 13 = 30 then ((rI (u1.1 271 19)) ∧ (if u1.1 271 19 = (-2) then (∀ u7 : uS, u7 = wr u1 271 19 (u1.1 271 4) → (Q u7)) else (∀ u9 : uS, u9 = wr u1 271 19 (u1.1 271 19) → (Q u9)))) else (∀ u11 : uS, u11 = wr u1 271 13 ((u1.1 271 13) + 1) → ((0 ≤ u1.1 271 13) ∧ ((u1.1 271 13 < 30) ∧ (∀ u15 : uS, u15 = wr u11 279 (u1.1 271 13) l1 → (∀ u17 : uS, u17 = wr u15 280 (u1.1 271 13) 0 → (K_212 (d + 1) 48 [.ref 271, .retAddr 0, iV r2, iV (u1.1 271 13)] [] u17 Q))))))))) : cV (d + 2) 212 [.ref 271, iV l1] u Q := by
  refine u_of me_212 (Nat.le_of_ble_eq_true rfl) ?_
  refine u_ld (v := .ref 271) (pc := 0) (dec_at lsk_212 (k := 0) rfl) rfl ?_
  refine u_cvI (As := []) (rb := 271) (st2 := []) (pc := 1) (dec_at lsk_212 (k := 1) rfl) m_12_274 (Or.inl rfl) rfl (Nat.le_of_ble_eq_true rfl) sx_271 me_208 rfl h (fun r2 u1 h => ?_)
  refine u_sto (lv' := [.ref 271, iV l1, iV r2, .retAddr 0]) (pc := 4) (dec_at lsk_212 (k := 2) rfl) rfl ?_
  refine u_ld (v := .ref 271) (pc := 5) (dec_at lsk_212 (k := 3) rfl) rfl ?_
  refine u_gI (z := 13) (pc := 6) (dec_at lsk_212 (k := 4) rfl) f_12_278 sx_271 rfl rfl ?_
  refine u_c (x := 30) (pc := 9) (dec_at lsk_212 (k := 5) rfl) rfl (by decide) ?_
  have g3 := h.1
  have h := h.2
  refine u_icF (pc := 11) (tgt := 19) (dec_at lsk_212 (k := 6) rfl) rfl (ci_ne g3 (by decide)) (fun e4 => ?_) (fun e4 => ?_)
  · have h := ifT e4 h
    refine u_ld (v := .ref 271) (pc := 14) (dec_at lsk_212 (k := 7) rfl) rfl ?_
    refine u_cvV (As := []) (rb := 271) (st2 := []) (pc := 15) (dec_at lsk_212 (k := 8) rfl) m_12_281 (Or.inl rfl) rfl (Nat.le_of_ble_eq_true rfl) sx_271 me_211 rfl ?_ (fun _ h_ => h_)
    refine u_of me_211 (Nat.le_of_ble_eq_true rfl) ?_
    refine u_ld (v := .ref 271) (pc := 0) (dec_at lsk_211 (k := 0) rfl) rfl ?_
    refine u_ld (v := .ref 271) (pc := 1) (dec_at lsk_211 (k := 1) rfl) rfl ?_
    refine u_gI (z := 19) (pc := 2) (dec_at lsk_211 (k := 2) rfl) f_12_271 sx_271 rfl rfl ?_
    refine u_c (x := (-2)) (pc := 5) (dec_at lsk_211 (k := 3) rfl) rfl (by decide) ?_
    have g5 := h.1
    have h := h.2
    refine u_icF (pc := 7) (tgt := 17) (dec_at lsk_211 (k := 4) rfl) rfl (ci_ne g5 (by decide)) (fun e6 => ?_) (fun e6 => ?_)
    · have h := ifT e6 h
      refine u_ld (v := .ref 271) (pc := 10) (dec_at lsk_211 (k := 5) rfl) rfl ?_
      refine u_gI (z := 4) (pc := 11) (dec_at lsk_211 (k := 6) rfl) f_12_265 sx_271 rfl rfl ?_
      refine u_goto (pc := 14) (tgt := 21) (dec_at lsk_211 (k := 7) rfl) rfl ?_
      refine u_pI (z := 19) (pc := 21) (dec_at lsk_211 (k := 10) rfl) f_12_271 sx_271 rfl rfl rfl rfl (fun u7 e8 => ?_)
      have h := h u7 e8
      refine u_rV (pc := 24) (dec_at lsk_211 (k := 11) rfl) rfl ?_
      exact u_rV (pc := 18) (dec_at lsk_212 (k := 9) rfl) rfl h
    · have h := ifF e6 h
      refine u_ld (v := .ref 271) (pc := 17) (dec_at lsk_211 (k := 8) rfl) rfl ?_
      refine u_gI (z := 19) (pc := 18) (dec_at lsk_211 (k := 9) rfl) f_12_271 sx_271 rfl rfl ?_
      refine u_pI (z := 19) (pc := 21) (dec_at lsk_211 (k := 10) rfl) f_12_271 sx_271 rfl rfl rfl rfl (fun u9 e10 => ?_)
      have h := h u9 e10
      refine u_rV (pc := 24) (dec_at lsk_211 (k := 11) rfl) rfl ?_
      exact u_rV (pc := 18) (dec_at lsk_212 (k := 9) rfl) rfl h
  · have h := ifF e4 h
    refine u_ld (v := .ref 271) (pc := 19) (dec_at lsk_212 (k := 10) rfl) rfl ?_
    refine u_gI (z := 13) (pc := 20) (dec_at lsk_212 (k := 11) rfl) f_12_278 sx_271 rfl rfl ?_
    refine u_sto (lv' := [.ref 271, iV l1, iV r2, iV (u1.1 271 13)]) (pc := 23) (dec_at lsk_212 (k := 12) rfl) rfl ?_
    refine u_ld (v := .ref 271) (pc := 24) (dec_at lsk_212 (k := 13) rfl) rfl ?_
    refine u_ld (v := .ref 271) (pc := 25) (dec_at lsk_212 (k := 14) rfl) rfl ?_
    refine u_gI (z := 13) (pc := 26) (dec_at lsk_212 (k := 15) rfl) f_12_278 sx_271 rfl rfl ?_
    refine u_ld (v := iV 1) (pc := 29) (dec_at lsk_212 (k := 16) rfl) rfl ?_
    refine u_iadd (pc := 30) (dec_at lsk_212 (k := 17) rfl) ?_
    refine u_pI (z := 13) (pc := 31) (dec_at lsk_212 (k := 18) rfl) f_12_278 sx_271 rfl rfl rfl rfl (fun u11 e12 => ?_)
    have h := h u11 e12
    refine u_ld (v := .ref 271) (pc := 34) (dec_at lsk_212 (k := 19) rfl) rfl ?_
    refine u_gS (o := 8) (p := 279) (pc := 35) (dec_at lsk_212 (k := 20) rfl) f_12_31 sx_271 rfl rfl ?_
    refine u_ld (v := iV (u1.1 271 13)) (pc := 38) (dec_at lsk_212 (k := 21) rfl) rfl ?_
    refine u_ld (v := iV l1) (pc := 39) (dec_at lsk_212 (k := 22) rfl) rfl ?_
    have g13 := h.1
    have h := h.2
    have g14 := h.1
    have h := h.2
    refine u_iast (pc := 40) (dec_at lsk_212 (k := 23) rfl) sx_279 g13 g14 (fun u15 e16 => ?_)
    have h := h u15 e16
    refine u_ld (v := .ref 271) (pc := 41) (dec_at lsk_212 (k := 24) rfl) rfl ?_
    refine u_gS (o := 9) (p := 280) (pc := 42) (dec_at lsk_212 (k := 25) rfl) f_12_34 sx_271 rfl rfl ?_
    refine u_ld (v := iV (u1.1 271 13)) (pc := 45) (dec_at lsk_212 (k := 26) rfl) rfl ?_
    refine u_ld (v := iV 0) (pc := 46) (dec_at lsk_212 (k := 27) rfl) rfl ?_
    refine u_iast (pc := 47) (dec_at lsk_212 (k := 28) rfl) sx_280 g13 g14 (fun u17 e18 => ?_)
    have h := h u17 e18
    exact u_weak (sbK (sbD (sbK (sbK sb0)))) h
theorem k_212_48 {d : Nat} {Q : uS → Prop} {u : uS} {l2 l3 : Int} (h : (rI l2) ∧ (if l2 < 97 then (if l2 < 65 then (Q u) else (if 90 < l2 then (Q u) else (K_212 (d + 1) 62 [.ref 271, .retAddr 0, iV l2, iV l3] [] u Q))) else (if 106 < l2 then (if l2 < 65 then (Q u) else (if 90 < l2 then (Q u) else (K_212 (d + 1) 62 [.ref 271, .retAddr 0, iV l2, iV l3] [] u Q))) else (K_212 (d + 1) 62 [.ref 271, .retAddr 0, iV l2, iV l3] [] u Q)))) : K_212 (d + 1) 48 [.ref 271, .retAddr 0, iV l2, iV l3] [] u Q := by
  unfold K_212
  refine u_ld (v := iV l2) (pc := 48) (dec_at lsk_212 (k := 29) rfl) rfl ?_
  refine u_csI (As := [iV l2]) (st2 := []) (pc := 49) (dec_at lsk_212 (k := 30) rfl) m_12_258 (Or.inl rfl) rfl (Nat.le_of_ble_eq_true rfl) ?_ (fun _ _ h_ => h_)
  refine u_of me_205 (Nat.le_of_ble_eq_true rfl) ?_
  refine u_ld (v := iV l2) (pc := 0) (dec_at lsk_205 (k := 0) rfl) rfl ?_
  refine u_c (x := 97) (pc := 1) (dec_at lsk_205 (k := 1) rfl) rfl (by decide) ?_
  have g1 := h.1
  have h := h.2
  refine u_icT (pc := 3) (tgt := 16) (dec_at lsk_205 (k := 2) rfl) rfl (ci_lt g1 (by decide)) (fun e2 => ?_) (fun e2 => ?_)
  · have h := ifT e2 h
    refine u_ld (v := iV 0) (pc := 16) (dec_at lsk_205 (k := 8) rfl) rfl ?_
    refine u_rZ (pc := 17) (dec_at lsk_205 (k := 9) rfl) rfl (by decide) ?_
    refine u_ifF (pc := 52) (tgt := 62) (dec_at lsk_212 (k := 31) rfl) rfl (c0_ne (by decide)) (fun _ => ?_) (fun e => absurd e (by decide))
    refine u_ld (v := iV l2) (pc := 55) (dec_at lsk_212 (k := 32) rfl) rfl ?_
    refine u_csI (As := [iV l2]) (st2 := []) (pc := 56) (dec_at lsk_212 (k := 33) rfl) m_12_284 (Or.inl rfl) rfl (Nat.le_of_ble_eq_true rfl) ?_ (fun _ _ h_ => h_)
    refine u_of me_210 (Nat.le_of_ble_eq_true rfl) ?_
    refine u_ld (v := iV l2) (pc := 0) (dec_at lsk_210 (k := 0) rfl) rfl ?_
    refine u_c (x := 65) (pc := 1) (dec_at lsk_210 (k := 1) rfl) rfl (by decide) ?_
    refine u_icT (pc := 3) (tgt := 16) (dec_at lsk_210 (k := 2) rfl) rfl (ci_lt g1 (by decide)) (fun e3 => ?_) (fun e3 => ?_)
    · have h := ifT e3 h
      refine u_ld (v := iV 0) (pc := 16) (dec_at lsk_210 (k := 8) rfl) rfl ?_
      refine u_rZ (pc := 17) (dec_at lsk_210 (k := 9) rfl) rfl (by decide) ?_
      refine u_ifT (pc := 59) (tgt := 170) (dec_at lsk_212 (k := 34) rfl) rfl (c0_eq (by decide)) (fun _ => ?_) (fun e => absurd e (by decide))
      exact u_rV (pc := 170) (dec_at lsk_212 (k := 100) rfl) rfl h
    · have h := ifF e3 h
      refine u_ld (v := iV l2) (pc := 6) (dec_at lsk_210 (k := 3) rfl) rfl ?_
      refine u_c (x := 90) (pc := 7) (dec_at lsk_210 (k := 4) rfl) rfl (by decide) ?_
      refine u_icT (pc := 9) (tgt := 16) (dec_at lsk_210 (k := 5) rfl) rfl (ci_gt g1 (by decide)) (fun e4 => ?_) (fun e4 => ?_)
      · have h := ifT e4 h
        refine u_ld (v := iV 0) (pc := 16) (dec_at lsk_210 (k := 8) rfl) rfl ?_
        refine u_rZ (pc := 17) (dec_at lsk_210 (k := 9) rfl) rfl (by decide) ?_
        refine u_ifT (pc := 59) (tgt := 170) (dec_at lsk_212 (k := 34) rfl) rfl (c0_eq (by decide)) (fun _ => ?_) (fun e => absurd e (by decide))
        exact u_rV (pc := 170) (dec_at lsk_212 (k := 100) rfl) rfl h
      · have h := ifF e4 h
        refine u_ld (v := iV 1) (pc := 12) (dec_at lsk_210 (k := 6) rfl) rfl ?_
        refine u_goto (pc := 13) (tgt := 17) (dec_at lsk_210 (k := 7) rfl) rfl ?_
        refine u_rZ (pc := 17) (dec_at lsk_210 (k := 9) rfl) rfl (by decide) ?_
        refine u_ifT (pc := 59) (tgt := 170) (dec_at lsk_212 (k := 34) rfl) rfl (c0_eq (by decide)) (fun e => absurd e (by decide)) (fun _ => ?_)
        exact h
  · have h := ifF e2 h
    refine u_ld (v := iV l2) (pc := 6) (dec_at lsk_205 (k := 3) rfl) rfl ?_
    refine u_c (x := 106) (pc := 7) (dec_at lsk_205 (k := 4) rfl) rfl (by decide) ?_
    refine u_icT (pc := 9) (tgt := 16) (dec_at lsk_205 (k := 5) rfl) rfl (ci_gt g1 (by decide)) (fun e5 => ?_) (fun e5 => ?_)
    · have h := ifT e5 h
      refine u_ld (v := iV 0) (pc := 16) (dec_at lsk_205 (k := 8) rfl) rfl ?_
      refine u_rZ (pc := 17) (dec_at lsk_205 (k := 9) rfl) rfl (by decide) ?_
      refine u_ifF (pc := 52) (tgt := 62) (dec_at lsk_212 (k := 31) rfl) rfl (c0_ne (by decide)) (fun _ => ?_) (fun e => absurd e (by decide))
      refine u_ld (v := iV l2) (pc := 55) (dec_at lsk_212 (k := 32) rfl) rfl ?_
      refine u_csI (As := [iV l2]) (st2 := []) (pc := 56) (dec_at lsk_212 (k := 33) rfl) m_12_284 (Or.inl rfl) rfl (Nat.le_of_ble_eq_true rfl) ?_ (fun _ _ h_ => h_)
      refine u_of me_210 (Nat.le_of_ble_eq_true rfl) ?_
      refine u_ld (v := iV l2) (pc := 0) (dec_at lsk_210 (k := 0) rfl) rfl ?_
      refine u_c (x := 65) (pc := 1) (dec_at lsk_210 (k := 1) rfl) rfl (by decide) ?_
      refine u_icT (pc := 3) (tgt := 16) (dec_at lsk_210 (k := 2) rfl) rfl (ci_lt g1 (by decide)) (fun e6 => ?_) (fun e6 => ?_)
      · have h := ifT e6 h
        refine u_ld (v := iV 0) (pc := 16) (dec_at lsk_210 (k := 8) rfl) rfl ?_
        refine u_rZ (pc := 17) (dec_at lsk_210 (k := 9) rfl) rfl (by decide) ?_
        refine u_ifT (pc := 59) (tgt := 170) (dec_at lsk_212 (k := 34) rfl) rfl (c0_eq (by decide)) (fun _ => ?_) (fun e => absurd e (by decide))
        exact u_rV (pc := 170) (dec_at lsk_212 (k := 100) rfl) rfl h
      · have h := ifF e6 h
        refine u_ld (v := iV l2) (pc := 6) (dec_at lsk_210 (k := 3) rfl) rfl ?_
        refine u_c (x := 90) (pc := 7) (dec_at lsk_210 (k := 4) rfl) rfl (by decide) ?_
        refine u_icT (pc := 9) (tgt := 16) (dec_at lsk_210 (k := 5) rfl) rfl (ci_gt g1 (by decide)) (fun e7 => ?_) (fun e7 => ?_)
        · have h := ifT e7 h
          refine u_ld (v := iV 0) (pc := 16) (dec_at lsk_210 (k := 8) rfl) rfl ?_
          refine u_rZ (pc := 17) (dec_at lsk_210 (k := 9) rfl) rfl (by decide) ?_
          refine u_ifT (pc := 59) (tgt := 170) (dec_at lsk_212 (k := 34) rfl) rfl (c0_eq (by decide)) (fun _ => ?_) (fun e => absurd e (by decide))
          exact u_rV (pc := 170) (dec_at lsk_212 (k := 100) rfl) rfl h
        · have h := ifF e7 h
          refine u_ld (v := iV 1) (pc := 12) (dec_at lsk_210 (k := 6) rfl) rfl ?_
          refine u_goto (pc := 13) (tgt := 17) (dec_at lsk_210 (k := 7) rfl) rfl ?_
          refine u_rZ (pc := 17) (dec_at lsk_210 (k := 9) rfl) rfl (by decide) ?_
          refine u_ifT (pc := 59) (tgt := 170) (dec_at lsk_212 (k := 34) rfl) rfl (c0_eq (by decide)) (fun e => absurd e (by decide)) (fun _ => ?_)
          exact h
    · have h := ifF e5 h
      refine u_ld (v := iV 1) (pc := 12) (dec_at lsk_205 (k := 6) rfl) rfl ?_
      refine u_goto (pc := 13) (tgt := 17) (dec_at lsk_205 (k := 7) rfl) rfl ?_
      refine u_rZ (pc := 17) (dec_at lsk_205 (k := 9) rfl) rfl (by decide) ?_
      refine u_ifF (pc := 52) (tgt := 62) (dec_at lsk_212 (k := 31) rfl) rfl (c0_ne (by decide)) (fun e => absurd e (by decide)) (fun _ => ?_)
      exact h
theorem k_212_62 {d : Nat} {Q : uS → Prop} {u : uS} {l2 l3 : Int} (h : (rI (u.1 271 19)) ∧ (if u.1 271 19 = (-2) then ((0 ≤ l3) ∧ ((l3 < 30) ∧ ((rI (u.1 280 l3)) ∧ (if u.1 280 l3 = 6 then (∀ u8 : uS, u8 = wr u 271 19 (u.1 271 4) → (Q u8)) else ((rI l2) ∧ (if l2 < 97 then ((0 ≤ (6 * l3) + (u.1 280 l3)) ∧ (((6 * l3) + (u.1 280 l3) < 180) ∧ (∀ u14 : uS, u14 = wr u 281 ((6 * l3) + (u.1 280 l3)) (1000 + l2) → ((0 ≤ (6 * l3) + (u14.1 280 l3)) ∧ (((6 * l3) + (u14.1 280 l3) < 180) ∧ (∀ u18 : uS, u18 = wr u14 282 ((6 * l3) + (u14.1 280 l3)) (u14.1 271 4) → (∀ u20 : uS, u20 = wr u18 280 l3 ((u18.1 280 l3) + 1) → (∀ u22 : uS, u22 = wr u20 271 4 ((u20.1 271 4) + 1) → (cI (d + 1) 208 [.ref 271] u22 (fun r25 u24 => K_212 (d + 1) 48 [.ref 271, .retAddr 0, iV r25, iV l3] [] u24 Q)))))))))) else (if 106 < l2 then ((0 ≤ (6 * l3) + (u.1 280 l3)) ∧ (((6 * l3) + (u.1 280 l3) < 180) ∧ (∀ u29 : uS, u29 = wr u 281 ((6 * l3) + (u.1 280 l3)) (1000 + l2) → ((0 ≤ (6 * l3) + (u29.1 280 l3)) ∧ (((6 * l3) + (u29.1 280 l3) < 180) ∧ (∀ u33 : uS, u33 = wr u29 282 ((6 * l3) + (u29.1 280 l3)) (u29.1 271 4) → (∀ u35 : uS, u35 = wr u33 280 l3 ((u33.1 280 l3) + 1) → (∀ u37 : uS, u37 = wr u35 271 4 ((u35.1 271 4) + 1) → (cI (d + 1) 208 [.ref 271] u37 (fun r40 u39 => K_212 (d + 1) 48 [.ref 271, .retAddr 0, iV r40, iV l3] [] u39 Q)))))))))) else ((0 ≤ (6 * l3) + (u.1 280 l3)) ∧ (((6 * l3) + (u.1 280 l3) < 180) ∧ (∀ u43 : uS, u43 = wr u 281 ((6 * l3) + (u.1 280 l3)) (l2 - 97) → ((0 ≤ (6 * l3) + (u43.1 280 l3)) ∧ (((6 * l3) + (u43.1 280 l3) < 180) ∧ (∀ u47 : uS, u47 = wr u43 282 ((6 * l3) + (u43.1 280 l3)) (u43.1 271 4) → (∀ u49 : uS, u49 = wr u47 280 l3 ((u47.1 280 l3) + 1) → (∀ u51 : uS, u51 = wr u49 271 4 ((u49.1 271 4) + 1) → (cI (d + 1) 208 [.ref 271] u51 (fun r54 u53 => K_212 (d + 1) 48 [.ref 271, .retAddr 0, iV r54, iV l3] [] u53 Q))))))))))))))))) else (Q u))) : K_212 (d + 1) 62 [.ref 271, .retAddr 0, iV l2, iV l3] [] u Q := by
  unfold K_212
  refine u_ld (v := .ref 271) (pc := 62) (dec_at lsk_212 (k := 35) rfl) rfl ?_
  refine u_gI (z := 19) (pc := 63) (dec_at lsk_212 (k := 36) rfl) f_12_271 sx_271 rfl rfl ?_
  refine u_c (x := (-2)) (pc := 66) (dec_at lsk_212 (k := 37) rfl) rfl (by decide) ?_
  have g1 := h.1
  have h := h.2
  refine u_icF (pc := 68) (tgt := 170) (dec_at lsk_212 (k := 38) rfl) rfl (ci_ne g1 (by decide)) (fun e2 => ?_) (fun e2 => ?_)
  · have h := ifT e2 h
    refine u_ld (v := .ref 271) (pc := 71) (dec_at lsk_212 (k := 39) rfl) rfl ?_
    refine u_gS (o := 9) (p := 280) (pc := 72) (dec_at lsk_212 (k := 40) rfl) f_12_34 sx_271 rfl rfl ?_
    refine u_ld (v := iV l3) (pc := 75) (dec_at lsk_212 (k := 41) rfl) rfl ?_
    have g3 := h.1
    have h := h.2
    have g4 := h.1
    have h := h.2
    refine u_iald (pc := 76) (dec_at lsk_212 (k := 42) rfl) sx_280 g3 g4 ?_
    refine u_c (x := 6) (pc := 77) (dec_at lsk_212 (k := 43) rfl) rfl (by decide) ?_
    have g5 := h.1
    have h := h.2
    refine u_icF (pc := 79) (tgt := 87) (dec_at lsk_212 (k := 44) rfl) rfl (ci_ne g5 (by decide)) (fun e6 => ?_) (fun e6 => ?_)
    · have h := ifT e6 h
      refine u_ld (v := .ref 271) (pc := 82) (dec_at lsk_212 (k := 45) rfl) rfl ?_
      refine u_cvV (As := []) (rb := 271) (st2 := []) (pc := 83) (dec_at lsk_212 (k := 46) rfl) m_12_281 (Or.inl rfl) rfl (Nat.le_of_ble_eq_true rfl) sx_271 me_211 rfl ?_ (fun _ h_ => h_)
      refine u_of me_211 (Nat.le_of_ble_eq_true rfl) ?_
      refine u_ld (v := .ref 271) (pc := 0) (dec_at lsk_211 (k := 0) rfl) rfl ?_
      refine u_ld (v := .ref 271) (pc := 1) (dec_at lsk_211 (k := 1) rfl) rfl ?_
      refine u_gI (z := 19) (pc := 2) (dec_at lsk_211 (k := 2) rfl) f_12_271 sx_271 rfl rfl ?_
      refine u_c (x := (-2)) (pc := 5) (dec_at lsk_211 (k := 3) rfl) rfl (by decide) ?_
      refine u_icF (pc := 7) (tgt := 17) (dec_at lsk_211 (k := 4) rfl) rfl (ci_ne g1 (by decide)) (fun _ => ?_) (fun e7 => absurd e2 e7)
      refine u_ld (v := .ref 271) (pc := 10) (dec_at lsk_211 (k := 5) rfl) rfl ?_
      refine u_gI (z := 4) (pc := 11) (dec_at lsk_211 (k := 6) rfl) f_12_265 sx_271 rfl rfl ?_
      refine u_goto (pc := 14) (tgt := 21) (dec_at lsk_211 (k := 7) rfl) rfl ?_
      refine u_pI (z := 19) (pc := 21) (dec_at lsk_211 (k := 10) rfl) f_12_271 sx_271 rfl rfl rfl rfl (fun u8 e9 => ?_)
      have h := h u8 e9
      refine u_rV (pc := 24) (dec_at lsk_211 (k := 11) rfl) rfl ?_
      exact u_rV (pc := 86) (dec_at lsk_212 (k := 47) rfl) rfl h
    · have h := ifF e6 h
      refine u_ld (v := .ref 271) (pc := 87) (dec_at lsk_212 (k := 48) rfl) rfl ?_
      refine u_gS (o := 10) (p := 281) (pc := 88) (dec_at lsk_212 (k := 49) rfl) f_12_37 sx_271 rfl rfl ?_
      refine u_c (x := 6) (pc := 91) (dec_at lsk_212 (k := 50) rfl) rfl (by decide) ?_
      refine u_ld (v := iV l3) (pc := 93) (dec_at lsk_212 (k := 51) rfl) rfl ?_
      refine u_imul (pc := 94) (dec_at lsk_212 (k := 52) rfl) ?_
      refine u_ld (v := .ref 271) (pc := 95) (dec_at lsk_212 (k := 53) rfl) rfl ?_
      refine u_gS (o := 9) (p := 280) (pc := 96) (dec_at lsk_212 (k := 54) rfl) f_12_34 sx_271 rfl rfl ?_
      refine u_ld (v := iV l3) (pc := 99) (dec_at lsk_212 (k := 55) rfl) rfl ?_
      refine u_iald (pc := 100) (dec_at lsk_212 (k := 56) rfl) sx_280 g3 g4 ?_
      refine u_iadd (pc := 101) (dec_at lsk_212 (k := 57) rfl) ?_
      refine u_ld (v := iV l2) (pc := 102) (dec_at lsk_212 (k := 58) rfl) rfl ?_
      refine u_csI (As := [iV l2]) (st2 := [iV ((6 * l3) + (u.1 280 l3)), .ref 281]) (pc := 103) (dec_at lsk_212 (k := 59) rfl) m_12_258 (Or.inl rfl) rfl (Nat.le_of_ble_eq_true rfl) ?_ (fun _ _ h_ => h_)
      refine u_of me_205 (Nat.le_of_ble_eq_true rfl) ?_
      refine u_ld (v := iV l2) (pc := 0) (dec_at lsk_205 (k := 0) rfl) rfl ?_
      refine u_c (x := 97) (pc := 1) (dec_at lsk_205 (k := 1) rfl) rfl (by decide) ?_
      have g10 := h.1
      have h := h.2
      refine u_icT (pc := 3) (tgt := 16) (dec_at lsk_205 (k := 2) rfl) rfl (ci_lt g10 (by decide)) (fun e11 => ?_) (fun e11 => ?_)
      · have h := ifT e11 h
        refine u_ld (v := iV 0) (pc := 16) (dec_at lsk_205 (k := 8) rfl) rfl ?_
        refine u_rZ (pc := 17) (dec_at lsk_205 (k := 9) rfl) rfl (by decide) ?_
        refine u_ifT (pc := 106) (tgt := 116) (dec_at lsk_212 (k := 60) rfl) rfl (c0_eq (by decide)) (fun _ => ?_) (fun e => absurd e (by decide))
        refine u_c (x := 1000) (pc := 116) (dec_at lsk_212 (k := 65) rfl) rfl (by decide) ?_
        refine u_ld (v := iV l2) (pc := 119) (dec_at lsk_212 (k := 66) rfl) rfl ?_
        refine u_iadd (pc := 120) (dec_at lsk_212 (k := 67) rfl) ?_
        have g12 := h.1
        have h := h.2
        have g13 := h.1
        have h := h.2
        refine u_iast (pc := 121) (dec_at lsk_212 (k := 68) rfl) sx_281 g12 g13 (fun u14 e15 => ?_)
        have h := h u14 e15
        refine u_ld (v := .ref 271) (pc := 122) (dec_at lsk_212 (k := 69) rfl) rfl ?_
        refine u_gS (o := 11) (p := 282) (pc := 123) (dec_at lsk_212 (k := 70) rfl) f_12_40 sx_271 rfl rfl ?_
        refine u_c (x := 6) (pc := 126) (dec_at lsk_212 (k := 71) rfl) rfl (by decide) ?_
        refine u_ld (v := iV l3) (pc := 128) (dec_at lsk_212 (k := 72) rfl) rfl ?_
        refine u_imul (pc := 129) (dec_at lsk_212 (k := 73) rfl) ?_
        refine u_ld (v := .ref 271) (pc := 130) (dec_at lsk_212 (k := 74) rfl) rfl ?_
        refine u_gS (o := 9) (p := 280) (pc := 131) (dec_at lsk_212 (k := 75) rfl) f_12_34 sx_271 rfl rfl ?_
        refine u_ld (v := iV l3) (pc := 134) (dec_at lsk_212 (k := 76) rfl) rfl ?_
        refine u_iald (pc := 135) (dec_at lsk_212 (k := 77) rfl) sx_280 g3 g4 ?_
        refine u_iadd (pc := 136) (dec_at lsk_212 (k := 78) rfl) ?_
        refine u_ld (v := .ref 271) (pc := 137) (dec_at lsk_212 (k := 79) rfl) rfl ?_
        refine u_gI (z := 4) (pc := 138) (dec_at lsk_212 (k := 80) rfl) f_12_265 sx_271 rfl rfl ?_
        have g16 := h.1
        have h := h.2
        have g17 := h.1
        have h := h.2
        refine u_iast (pc := 141) (dec_at lsk_212 (k := 81) rfl) sx_282 g16 g17 (fun u18 e19 => ?_)
        have h := h u18 e19
        refine u_ld (v := .ref 271) (pc := 142) (dec_at lsk_212 (k := 82) rfl) rfl ?_
        refine u_gS (o := 9) (p := 280) (pc := 143) (dec_at lsk_212 (k := 83) rfl) f_12_34 sx_271 rfl rfl ?_
        refine u_ld (v := iV l3) (pc := 146) (dec_at lsk_212 (k := 84) rfl) rfl ?_
        refine u_st (st' := [iV l3, .ref 280, iV l3, .ref 280]) (pc := 147) (dec_at lsk_212 (k := 85) rfl) rfl ?_
        refine u_iald (pc := 148) (dec_at lsk_212 (k := 86) rfl) sx_280 g3 g4 ?_
        refine u_ld (v := iV 1) (pc := 149) (dec_at lsk_212 (k := 87) rfl) rfl ?_
        refine u_iadd (pc := 150) (dec_at lsk_212 (k := 88) rfl) ?_
        refine u_iast (pc := 151) (dec_at lsk_212 (k := 89) rfl) sx_280 g3 g4 (fun u20 e21 => ?_)
        have h := h u20 e21
        refine u_ld (v := .ref 271) (pc := 152) (dec_at lsk_212 (k := 90) rfl) rfl ?_
        refine u_ld (v := .ref 271) (pc := 153) (dec_at lsk_212 (k := 91) rfl) rfl ?_
        refine u_gI (z := 4) (pc := 154) (dec_at lsk_212 (k := 92) rfl) f_12_265 sx_271 rfl rfl ?_
        refine u_ld (v := iV 1) (pc := 157) (dec_at lsk_212 (k := 93) rfl) rfl ?_
        refine u_iadd (pc := 158) (dec_at lsk_212 (k := 94) rfl) ?_
        refine u_pI (z := 4) (pc := 159) (dec_at lsk_212 (k := 95) rfl) f_12_265 sx_271 rfl rfl rfl rfl (fun u22 e23 => ?_)
        have h := h u22 e23
        refine u_ld (v := .ref 271) (pc := 162) (dec_at lsk_212 (k := 96) rfl) rfl ?_
        refine u_cvI (As := []) (rb := 271) (st2 := []) (pc := 163) (dec_at lsk_212 (k := 97) rfl) m_12_274 (Or.inl rfl) rfl (Nat.le_of_ble_eq_true rfl) sx_271 me_208 rfl h (fun r25 u24 h => ?_)
        refine u_sto (lv' := [.ref 271, .retAddr 0, iV r25, iV l3]) (pc := 166) (dec_at lsk_212 (k := 98) rfl) rfl ?_
        refine u_goto (pc := 167) (tgt := 48) (dec_at lsk_212 (k := 99) rfl) rfl ?_
        exact h
      · have h := ifF e11 h
        refine u_ld (v := iV l2) (pc := 6) (dec_at lsk_205 (k := 3) rfl) rfl ?_
        refine u_c (x := 106) (pc := 7) (dec_at lsk_205 (k := 4) rfl) rfl (by decide) ?_
        refine u_icT (pc := 9) (tgt := 16) (dec_at lsk_205 (k := 5) rfl) rfl (ci_gt g10 (by decide)) (fun e26 => ?_) (fun e26 => ?_)
        · have h := ifT e26 h
          refine u_ld (v := iV 0) (pc := 16) (dec_at lsk_205 (k := 8) rfl) rfl ?_
          refine u_rZ (pc := 17) (dec_at lsk_205 (k := 9) rfl) rfl (by decide) ?_
          refine u_ifT (pc := 106) (tgt := 116) (dec_at lsk_212 (k := 60) rfl) rfl (c0_eq (by decide)) (fun _ => ?_) (fun e => absurd e (by decide))
          refine u_c (x := 1000) (pc := 116) (dec_at lsk_212 (k := 65) rfl) rfl (by decide) ?_
          refine u_ld (v := iV l2) (pc := 119) (dec_at lsk_212 (k := 66) rfl) rfl ?_
          refine u_iadd (pc := 120) (dec_at lsk_212 (k := 67) rfl) ?_
          have g27 := h.1
          have h := h.2
          have g28 := h.1
          have h := h.2
          refine u_iast (pc := 121) (dec_at lsk_212 (k := 68) rfl) sx_281 g27 g28 (fun u29 e30 => ?_)
          have h := h u29 e30
          refine u_ld (v := .ref 271) (pc := 122) (dec_at lsk_212 (k := 69) rfl) rfl ?_
          refine u_gS (o := 11) (p := 282) (pc := 123) (dec_at lsk_212 (k := 70) rfl) f_12_40 sx_271 rfl rfl ?_
          refine u_c (x := 6) (pc := 126) (dec_at lsk_212 (k := 71) rfl) rfl (by decide) ?_
          refine u_ld (v := iV l3) (pc := 128) (dec_at lsk_212 (k := 72) rfl) rfl ?_
          refine u_imul (pc := 129) (dec_at lsk_212 (k := 73) rfl) ?_
          refine u_ld (v := .ref 271) (pc := 130) (dec_at lsk_212 (k := 74) rfl) rfl ?_
          refine u_gS (o := 9) (p := 280) (pc := 131) (dec_at lsk_212 (k := 75) rfl) f_12_34 sx_271 rfl rfl ?_
          refine u_ld (v := iV l3) (pc := 134) (dec_at lsk_212 (k := 76) rfl) rfl ?_
          refine u_iald (pc := 135) (dec_at lsk_212 (k := 77) rfl) sx_280 g3 g4 ?_
          refine u_iadd (pc := 136) (dec_at lsk_212 (k := 78) rfl) ?_
          refine u_ld (v := .ref 271) (pc := 137) (dec_at lsk_212 (k := 79) rfl) rfl ?_
          refine u_gI (z := 4) (pc := 138) (dec_at lsk_212 (k := 80) rfl) f_12_265 sx_271 rfl rfl ?_
          have g31 := h.1
          have h := h.2
          have g32 := h.1
          have h := h.2
          refine u_iast (pc := 141) (dec_at lsk_212 (k := 81) rfl) sx_282 g31 g32 (fun u33 e34 => ?_)
          have h := h u33 e34
          refine u_ld (v := .ref 271) (pc := 142) (dec_at lsk_212 (k := 82) rfl) rfl ?_
          refine u_gS (o := 9) (p := 280) (pc := 143) (dec_at lsk_212 (k := 83) rfl) f_12_34 sx_271 rfl rfl ?_
          refine u_ld (v := iV l3) (pc := 146) (dec_at lsk_212 (k := 84) rfl) rfl ?_
          refine u_st (st' := [iV l3, .ref 280, iV l3, .ref 280]) (pc := 147) (dec_at lsk_212 (k := 85) rfl) rfl ?_
          refine u_iald (pc := 148) (dec_at lsk_212 (k := 86) rfl) sx_280 g3 g4 ?_
          refine u_ld (v := iV 1) (pc := 149) (dec_at lsk_212 (k := 87) rfl) rfl ?_
          refine u_iadd (pc := 150) (dec_at lsk_212 (k := 88) rfl) ?_
          refine u_iast (pc := 151) (dec_at lsk_212 (k := 89) rfl) sx_280 g3 g4 (fun u35 e36 => ?_)
          have h := h u35 e36
          refine u_ld (v := .ref 271) (pc := 152) (dec_at lsk_212 (k := 90) rfl) rfl ?_
          refine u_ld (v := .ref 271) (pc := 153) (dec_at lsk_212 (k := 91) rfl) rfl ?_
          refine u_gI (z := 4) (pc := 154) (dec_at lsk_212 (k := 92) rfl) f_12_265 sx_271 rfl rfl ?_
          refine u_ld (v := iV 1) (pc := 157) (dec_at lsk_212 (k := 93) rfl) rfl ?_
          refine u_iadd (pc := 158) (dec_at lsk_212 (k := 94) rfl) ?_
          refine u_pI (z := 4) (pc := 159) (dec_at lsk_212 (k := 95) rfl) f_12_265 sx_271 rfl rfl rfl rfl (fun u37 e38 => ?_)
          have h := h u37 e38
          refine u_ld (v := .ref 271) (pc := 162) (dec_at lsk_212 (k := 96) rfl) rfl ?_
          refine u_cvI (As := []) (rb := 271) (st2 := []) (pc := 163) (dec_at lsk_212 (k := 97) rfl) m_12_274 (Or.inl rfl) rfl (Nat.le_of_ble_eq_true rfl) sx_271 me_208 rfl h (fun r40 u39 h => ?_)
          refine u_sto (lv' := [.ref 271, .retAddr 0, iV r40, iV l3]) (pc := 166) (dec_at lsk_212 (k := 98) rfl) rfl ?_
          refine u_goto (pc := 167) (tgt := 48) (dec_at lsk_212 (k := 99) rfl) rfl ?_
          exact h
        · have h := ifF e26 h
          refine u_ld (v := iV 1) (pc := 12) (dec_at lsk_205 (k := 6) rfl) rfl ?_
          refine u_goto (pc := 13) (tgt := 17) (dec_at lsk_205 (k := 7) rfl) rfl ?_
          refine u_rZ (pc := 17) (dec_at lsk_205 (k := 9) rfl) rfl (by decide) ?_
          refine u_ifT (pc := 106) (tgt := 116) (dec_at lsk_212 (k := 60) rfl) rfl (c0_eq (by decide)) (fun e => absurd e (by decide)) (fun _ => ?_)
          refine u_ld (v := iV l2) (pc := 109) (dec_at lsk_212 (k := 61) rfl) rfl ?_
          refine u_c (x := 97) (pc := 110) (dec_at lsk_212 (k := 62) rfl) rfl (by decide) ?_
          refine u_isub (pc := 112) (dec_at lsk_212 (k := 63) rfl) ?_
          refine u_goto (pc := 113) (tgt := 121) (dec_at lsk_212 (k := 64) rfl) rfl ?_
          have g41 := h.1
          have h := h.2
          have g42 := h.1
          have h := h.2
          refine u_iast (pc := 121) (dec_at lsk_212 (k := 68) rfl) sx_281 g41 g42 (fun u43 e44 => ?_)
          have h := h u43 e44
          refine u_ld (v := .ref 271) (pc := 122) (dec_at lsk_212 (k := 69) rfl) rfl ?_
          refine u_gS (o := 11) (p := 282) (pc := 123) (dec_at lsk_212 (k := 70) rfl) f_12_40 sx_271 rfl rfl ?_
          refine u_c (x := 6) (pc := 126) (dec_at lsk_212 (k := 71) rfl) rfl (by decide) ?_
          refine u_ld (v := iV l3) (pc := 128) (dec_at lsk_212 (k := 72) rfl) rfl ?_
          refine u_imul (pc := 129) (dec_at lsk_212 (k := 73) rfl) ?_
          refine u_ld (v := .ref 271) (pc := 130) (dec_at lsk_212 (k := 74) rfl) rfl ?_
          refine u_gS (o := 9) (p := 280) (pc := 131) (dec_at lsk_212 (k := 75) rfl) f_12_34 sx_271 rfl rfl ?_
          refine u_ld (v := iV l3) (pc := 134) (dec_at lsk_212 (k := 76) rfl) rfl ?_
          refine u_iald (pc := 135) (dec_at lsk_212 (k := 77) rfl) sx_280 g3 g4 ?_
          refine u_iadd (pc := 136) (dec_at lsk_212 (k := 78) rfl) ?_
          refine u_ld (v := .ref 271) (pc := 137) (dec_at lsk_212 (k := 79) rfl) rfl ?_
          refine u_gI (z := 4) (pc := 138) (dec_at lsk_212 (k := 80) rfl) f_12_265 sx_271 rfl rfl ?_
          have g45 := h.1
          have h := h.2
          have g46 := h.1
          have h := h.2
          refine u_iast (pc := 141) (dec_at lsk_212 (k := 81) rfl) sx_282 g45 g46 (fun u47 e48 => ?_)
          have h := h u47 e48
          refine u_ld (v := .ref 271) (pc := 142) (dec_at lsk_212 (k := 82) rfl) rfl ?_
          refine u_gS (o := 9) (p := 280) (pc := 143) (dec_at lsk_212 (k := 83) rfl) f_12_34 sx_271 rfl rfl ?_
          refine u_ld (v := iV l3) (pc := 146) (dec_at lsk_212 (k := 84) rfl) rfl ?_
          refine u_st (st' := [iV l3, .ref 280, iV l3, .ref 280]) (pc := 147) (dec_at lsk_212 (k := 85) rfl) rfl ?_
          refine u_iald (pc := 148) (dec_at lsk_212 (k := 86) rfl) sx_280 g3 g4 ?_
          refine u_ld (v := iV 1) (pc := 149) (dec_at lsk_212 (k := 87) rfl) rfl ?_
          refine u_iadd (pc := 150) (dec_at lsk_212 (k := 88) rfl) ?_
          refine u_iast (pc := 151) (dec_at lsk_212 (k := 89) rfl) sx_280 g3 g4 (fun u49 e50 => ?_)
          have h := h u49 e50
          refine u_ld (v := .ref 271) (pc := 152) (dec_at lsk_212 (k := 90) rfl) rfl ?_
          refine u_ld (v := .ref 271) (pc := 153) (dec_at lsk_212 (k := 91) rfl) rfl ?_
          refine u_gI (z := 4) (pc := 154) (dec_at lsk_212 (k := 92) rfl) f_12_265 sx_271 rfl rfl ?_
          refine u_ld (v := iV 1) (pc := 157) (dec_at lsk_212 (k := 93) rfl) rfl ?_
          refine u_iadd (pc := 158) (dec_at lsk_212 (k := 94) rfl) ?_
          refine u_pI (z := 4) (pc := 159) (dec_at lsk_212 (k := 95) rfl) f_12_265 sx_271 rfl rfl rfl rfl (fun u51 e52 => ?_)
          have h := h u51 e52
          refine u_ld (v := .ref 271) (pc := 162) (dec_at lsk_212 (k := 96) rfl) rfl ?_
          refine u_cvI (As := []) (rb := 271) (st2 := []) (pc := 163) (dec_at lsk_212 (k := 97) rfl) m_12_274 (Or.inl rfl) rfl (Nat.le_of_ble_eq_true rfl) sx_271 me_208 rfl h (fun r54 u53 h => ?_)
          refine u_sto (lv' := [.ref 271, .retAddr 0, iV r54, iV l3]) (pc := 166) (dec_at lsk_212 (k := 98) rfl) rfl ?_
          refine u_goto (pc := 167) (tgt := 48) (dec_at lsk_212 (k := 99) rfl) rfl ?_
          exact h
  · have h := ifF e2 h
    exact u_rV (pc := 170) (dec_at lsk_212 (k := 100) rfl) rfl h
/-- method 213 -/
def K_213 (d pc : Nat) (lv : ev_L) (st : List Value) (u : uS) (Q : uS → Prop) : Prop := okU d 12 6 false none prog_14_method_15_code (qV Q) pc lv st u
theorem e_213 {d : Nat} {Q : uS → Prop} {u : uS} (h : K_213 d 2 [.ref 271, iV 0, .retAddr 0, .retAddr 0, .retAddr 0, .retAddr 0] [] u Q) : cV (d + 1) 213 [.ref 271] u Q := by
  refine u_of me_213 (Nat.le_of_ble_eq_true rfl) ?_
  refine u_ld (v := iV 0) (pc := 0) (dec_at lsk_213 (k := 0) rfl) rfl ?_
  refine u_sto (lv' := [.ref 271, iV 0, .retAddr 0, .retAddr 0, .retAddr 0, .retAddr 0]) (pc := 1) (dec_at lsk_213 (k := 1) rfl) rfl ?_
  exact h
theorem k_213_2 {d : Nat} {Q : uS → Prop} {u : uS} {l1 : Int} (h : (rI l1) ∧ ((rI (u.1 271 13)) ∧ (if l1 < u.1 271 13 then ((rI (u.1 271 19)) ∧ (if u.1 271 19 = (-2) then (K_213 d 21 [.ref 271, iV l1, iV 0, .retAddr 0, .retAddr 0, .retAddr 0] [] u Q) else (Q u))) else (Q u)))) : K_213 d 2 [.ref 271, iV l1, .retAddr 0, .retAddr 0, .retAddr 0, .retAddr 0] [] u Q := by
  unfold K_213
  refine u_ld (v := iV l1) (pc := 2) (dec_at lsk_213 (k := 2) rfl) rfl ?_
  refine u_ld (v := .ref 271) (pc := 3) (dec_at lsk_213 (k := 3) rfl) rfl ?_
  refine u_gI (z := 13) (pc := 4) (dec_at lsk_213 (k := 4) rfl) f_12_278 sx_271 rfl rfl ?_
  have g1 := h.1
  have h := h.2
  have g2 := h.1
  have h := h.2
  refine u_icF (pc := 7) (tgt := 155) (dec_at lsk_213 (k := 5) rfl) rfl (ci_ge g1 g2) (fun e3 => ?_) (fun e3 => ?_)
  · have h := ifT e3 h
    refine u_ld (v := .ref 271) (pc := 10) (dec_at lsk_213 (k := 6) rfl) rfl ?_
    refine u_gI (z := 19) (pc := 11) (dec_at lsk_213 (k := 7) rfl) f_12_271 sx_271 rfl rfl ?_
    refine u_c (x := (-2)) (pc := 14) (dec_at lsk_213 (k := 8) rfl) rfl (by decide) ?_
    have g4 := h.1
    have h := h.2
    refine u_icF (pc := 16) (tgt := 155) (dec_at lsk_213 (k := 9) rfl) rfl (ci_ne g4 (by decide)) (fun e5 => ?_) (fun e5 => ?_)
    · have h := ifT e5 h
      refine u_ld (v := iV 0) (pc := 19) (dec_at lsk_213 (k := 10) rfl) rfl ?_
      refine u_sto (lv' := [.ref 271, iV l1, iV 0, .retAddr 0, .retAddr 0, .retAddr 0]) (pc := 20) (dec_at lsk_213 (k := 11) rfl) rfl ?_
      exact h
    · have h := ifF e5 h
      exact u_rV (pc := 155) (dec_at lsk_213 (k := 84) rfl) rfl h
  · have h := ifF e3 h
    exact u_rV (pc := 155) (dec_at lsk_213 (k := 84) rfl) rfl h
theorem k_213_21 {d : Nat} {Q : uS → Prop} {u : uS} {l1 l2 : Int} (h : (0 ≤ l1) ∧ ((l1 < 30) ∧ ((rI l2) ∧ ((rI (u.1 280 l1)) ∧ (if l2 < u.1 280 l1 then ((rI (u.1 271 19)) ∧ (if u.1 271 19 = (-2) then ((0 ≤ (6 * l1) + l2) ∧ (((6 * l1) + l2 < 180) ∧ ((rI (u.1 281 ((6 * l1) + l2))) ∧ (if u.1 281 ((6 * l1) + l2) < 1000 then (K_213 d 21 [.ref 271, iV l1, iV (l2 + 1), .retAddr 0, .retAddr 0, .retAddr 0] [] u Q) else (K_213 d 66 [.ref 271, iV l1, iV l2, iV (u.1 281 ((6 * l1) + l2)), iV (-2), iV 0] [] u Q))))) else (K_213 d 2 [.ref 271, iV (l1 + 1), .retAddr 0, .retAddr 0, .retAddr 0, .retAddr 0] [] u Q))) else (K_213 d 2 [.ref 271, iV (l1 + 1), .retAddr 0, .retAddr 0, .retAddr 0, .retAddr 0] [] u Q)))))) : K_213 d 21 [.ref 271, iV l1, iV l2, .retAddr 0, .retAddr 0, .retAddr 0] [] u Q := by
  unfold K_213
  refine u_ld (v := iV l2) (pc := 21) (dec_at lsk_213 (k := 12) rfl) rfl ?_
  refine u_ld (v := .ref 271) (pc := 22) (dec_at lsk_213 (k := 13) rfl) rfl ?_
  refine u_gS (o := 9) (p := 280) (pc := 23) (dec_at lsk_213 (k := 14) rfl) f_12_34 sx_271 rfl rfl ?_
  refine u_ld (v := iV l1) (pc := 26) (dec_at lsk_213 (k := 15) rfl) rfl ?_
  have g1 := h.1
  have h := h.2
  have g2 := h.1
  have h := h.2
  refine u_iald (pc := 27) (dec_at lsk_213 (k := 16) rfl) sx_280 g1 g2 ?_
  have g3 := h.1
  have h := h.2
  have g4 := h.1
  have h := h.2
  refine u_icF (pc := 28) (tgt := 149) (dec_at lsk_213 (k := 17) rfl) rfl (ci_ge g3 g4) (fun e5 => ?_) (fun e5 => ?_)
  · have h := ifT e5 h
    refine u_ld (v := .ref 271) (pc := 31) (dec_at lsk_213 (k := 18) rfl) rfl ?_
    refine u_gI (z := 19) (pc := 32) (dec_at lsk_213 (k := 19) rfl) f_12_271 sx_271 rfl rfl ?_
    refine u_c (x := (-2)) (pc := 35) (dec_at lsk_213 (k := 20) rfl) rfl (by decide) ?_
    have g6 := h.1
    have h := h.2
    refine u_icF (pc := 37) (tgt := 149) (dec_at lsk_213 (k := 21) rfl) rfl (ci_ne g6 (by decide)) (fun e7 => ?_) (fun e7 => ?_)
    · have h := ifT e7 h
      refine u_ld (v := .ref 271) (pc := 40) (dec_at lsk_213 (k := 22) rfl) rfl ?_
      refine u_gS (o := 10) (p := 281) (pc := 41) (dec_at lsk_213 (k := 23) rfl) f_12_37 sx_271 rfl rfl ?_
      refine u_c (x := 6) (pc := 44) (dec_at lsk_213 (k := 24) rfl) rfl (by decide) ?_
      refine u_ld (v := iV l1) (pc := 46) (dec_at lsk_213 (k := 25) rfl) rfl ?_
      refine u_imul (pc := 47) (dec_at lsk_213 (k := 26) rfl) ?_
      refine u_ld (v := iV l2) (pc := 48) (dec_at lsk_213 (k := 27) rfl) rfl ?_
      refine u_iadd (pc := 49) (dec_at lsk_213 (k := 28) rfl) ?_
      have g8 := h.1
      have h := h.2
      have g9 := h.1
      have h := h.2
      refine u_iald (pc := 50) (dec_at lsk_213 (k := 29) rfl) sx_281 g8 g9 ?_
      refine u_sto (lv' := [.ref 271, iV l1, iV l2, iV (u.1 281 ((6 * l1) + l2)), .retAddr 0, .retAddr 0]) (pc := 51) (dec_at lsk_213 (k := 30) rfl) rfl ?_
      refine u_ld (v := iV (u.1 281 ((6 * l1) + l2))) (pc := 52) (dec_at lsk_213 (k := 31) rfl) rfl ?_
      refine u_c (x := 1000) (pc := 53) (dec_at lsk_213 (k := 32) rfl) rfl (by decide) ?_
      have g10 := h.1
      have h := h.2
      refine u_icT (pc := 56) (tgt := 143) (dec_at lsk_213 (k := 33) rfl) rfl (ci_lt g10 (by decide)) (fun e11 => ?_) (fun e11 => ?_)
      · have h := ifT e11 h
        refine u_inc (lv' := [.ref 271, iV l1, iV (l2 + 1), iV (u.1 281 ((6 * l1) + l2)), .retAddr 0, .retAddr 0]) (pc := 143) (dec_at lsk_213 (k := 80) rfl) rfl (by decide) rfl ?_
        refine u_goto (pc := 146) (tgt := 21) (dec_at lsk_213 (k := 81) rfl) rfl ?_
        exact u_weak (sbK (sbK (sbK (sbD (sbK (sbK sb0)))))) h
      · have h := ifF e11 h
        refine u_c (x := (-2)) (pc := 59) (dec_at lsk_213 (k := 34) rfl) rfl (by decide) ?_
        refine u_sto (lv' := [.ref 271, iV l1, iV l2, iV (u.1 281 ((6 * l1) + l2)), iV (-2), .retAddr 0]) (pc := 61) (dec_at lsk_213 (k := 35) rfl) rfl ?_
        refine u_ld (v := iV 0) (pc := 63) (dec_at lsk_213 (k := 36) rfl) rfl ?_
        refine u_sto (lv' := [.ref 271, iV l1, iV l2, iV (u.1 281 ((6 * l1) + l2)), iV (-2), iV 0]) (pc := 64) (dec_at lsk_213 (k := 37) rfl) rfl ?_
        exact h
    · have h := ifF e7 h
      refine u_inc (lv' := [.ref 271, iV (l1 + 1), iV l2, .retAddr 0, .retAddr 0, .retAddr 0]) (pc := 149) (dec_at lsk_213 (k := 82) rfl) rfl (by decide) rfl ?_
      refine u_goto (pc := 152) (tgt := 2) (dec_at lsk_213 (k := 83) rfl) rfl ?_
      exact u_weak (sbK (sbK (sbD (sbK (sbK (sbK sb0)))))) h
  · have h := ifF e5 h
    refine u_inc (lv' := [.ref 271, iV (l1 + 1), iV l2, .retAddr 0, .retAddr 0, .retAddr 0]) (pc := 149) (dec_at lsk_213 (k := 82) rfl) rfl (by decide) rfl ?_
    refine u_goto (pc := 152) (tgt := 2) (dec_at lsk_213 (k := 83) rfl) rfl ?_
    exact u_weak (sbK (sbK (sbD (sbK (sbK (sbK sb0)))))) h
theorem k_213_66 {d : Nat} {Q : uS → Prop} {u : uS} {l1 l2 l3 l4 l5 : Int} (h : (rI l5) ∧ ((rI (u.1 271 12)) ∧ (if l5 < u.1 271 12 then ((0 ≤ l5) ∧ ((l5 < 10) ∧ ((rI (u.1 278 l5)) ∧ ((rI (l3 - 1000)) ∧ (if u.1 278 l5 = l3 - 1000 then (K_213 d 66 [.ref 271, iV l1, iV l2, iV l3, iV l5, iV (l5 + 1)] [] u Q) else (K_213 d 66 [.ref 271, iV l1, iV l2, iV l3, iV l4, iV (l5 + 1)] [] u Q)))))) else ((rI l4) ∧ (if l4 = (-2) then ((0 ≤ (6 * l1) + l2) ∧ (((6 * l1) + l2 < 180) ∧ (∀ u13 : uS, u13 = wr u 271 19 (u.1 282 ((6 * l1) + l2)) → (∀ u15 : uS, u15 = wr u13 281 ((6 * l1) + l2) (100 + l4) → (K_213 d 21 [.ref 271, iV l1, iV (l2 + 1), .retAddr 0, .retAddr 0, .retAddr 0] [] u15 Q))))) else ((0 ≤ (6 * l1) + l2) ∧ (((6 * l1) + l2 < 180) ∧ (∀ u19 : uS, u19 = wr u 281 ((6 * l1) + l2) (100 + l4) → (K_213 d 21 [.ref 271, iV l1, iV (l2 + 1), .retAddr 0, .retAddr 0, .retAddr 0] [] u19 Q))))))))) : K_213 d 66 [.ref 271, iV l1, iV l2, iV l3, iV l4, iV l5] [] u Q := by
  unfold K_213
  refine u_ld (v := iV l5) (pc := 66) (dec_at lsk_213 (k := 38) rfl) rfl ?_
  refine u_ld (v := .ref 271) (pc := 68) (dec_at lsk_213 (k := 39) rfl) rfl ?_
  refine u_gI (z := 12) (pc := 69) (dec_at lsk_213 (k := 40) rfl) f_12_287 sx_271 rfl rfl ?_
  have g1 := h.1
  have h := h.2
  have g2 := h.1
  have h := h.2
  refine u_icF (pc := 72) (tgt := 105) (dec_at lsk_213 (k := 41) rfl) rfl (ci_ge g1 g2) (fun e3 => ?_) (fun e3 => ?_)
  · have h := ifT e3 h
    refine u_ld (v := .ref 271) (pc := 75) (dec_at lsk_213 (k := 42) rfl) rfl ?_
    refine u_gS (o := 7) (p := 278) (pc := 76) (dec_at lsk_213 (k := 43) rfl) f_12_28 sx_271 rfl rfl ?_
    refine u_ld (v := iV l5) (pc := 79) (dec_at lsk_213 (k := 44) rfl) rfl ?_
    have g4 := h.1
    have h := h.2
    have g5 := h.1
    have h := h.2
    refine u_iald (pc := 81) (dec_at lsk_213 (k := 45) rfl) sx_278 g4 g5 ?_
    refine u_ld (v := iV l3) (pc := 82) (dec_at lsk_213 (k := 46) rfl) rfl ?_
    refine u_c (x := 1000) (pc := 83) (dec_at lsk_213 (k := 47) rfl) rfl (by decide) ?_
    refine u_isub (pc := 86) (dec_at lsk_213 (k := 48) rfl) ?_
    have g6 := h.1
    have h := h.2
    have g7 := h.1
    have h := h.2
    refine u_icF (pc := 87) (tgt := 95) (dec_at lsk_213 (k := 49) rfl) rfl (ci_ne g6 g7) (fun e8 => ?_) (fun e8 => ?_)
    · have h := ifT e8 h
      refine u_ld (v := iV l5) (pc := 90) (dec_at lsk_213 (k := 50) rfl) rfl ?_
      refine u_goto (pc := 92) (tgt := 97) (dec_at lsk_213 (k := 51) rfl) rfl ?_
      refine u_sto (lv' := [.ref 271, iV l1, iV l2, iV l3, iV l5, iV l5]) (pc := 97) (dec_at lsk_213 (k := 53) rfl) rfl ?_
      refine u_inc (lv' := [.ref 271, iV l1, iV l2, iV l3, iV l5, iV (l5 + 1)]) (pc := 99) (dec_at lsk_213 (k := 54) rfl) rfl (by decide) rfl ?_
      refine u_goto (pc := 102) (tgt := 66) (dec_at lsk_213 (k := 55) rfl) rfl ?_
      exact h
    · have h := ifF e8 h
      refine u_ld (v := iV l4) (pc := 95) (dec_at lsk_213 (k := 52) rfl) rfl ?_
      refine u_sto (lv' := [.ref 271, iV l1, iV l2, iV l3, iV l4, iV l5]) (pc := 97) (dec_at lsk_213 (k := 53) rfl) rfl ?_
      refine u_inc (lv' := [.ref 271, iV l1, iV l2, iV l3, iV l4, iV (l5 + 1)]) (pc := 99) (dec_at lsk_213 (k := 54) rfl) rfl (by decide) rfl ?_
      refine u_goto (pc := 102) (tgt := 66) (dec_at lsk_213 (k := 55) rfl) rfl ?_
      exact h
  · have h := ifF e3 h
    refine u_ld (v := iV l4) (pc := 105) (dec_at lsk_213 (k := 56) rfl) rfl ?_
    refine u_c (x := (-2)) (pc := 107) (dec_at lsk_213 (k := 57) rfl) rfl (by decide) ?_
    have g9 := h.1
    have h := h.2
    refine u_icF (pc := 109) (tgt := 127) (dec_at lsk_213 (k := 58) rfl) rfl (ci_ne g9 (by decide)) (fun e10 => ?_) (fun e10 => ?_)
    · have h := ifT e10 h
      refine u_ld (v := .ref 271) (pc := 112) (dec_at lsk_213 (k := 59) rfl) rfl ?_
      refine u_ld (v := .ref 271) (pc := 113) (dec_at lsk_213 (k := 60) rfl) rfl ?_
      refine u_gS (o := 11) (p := 282) (pc := 114) (dec_at lsk_213 (k := 61) rfl) f_12_40 sx_271 rfl rfl ?_
      refine u_c (x := 6) (pc := 117) (dec_at lsk_213 (k := 62) rfl) rfl (by decide) ?_
      refine u_ld (v := iV l1) (pc := 119) (dec_at lsk_213 (k := 63) rfl) rfl ?_
      refine u_imul (pc := 120) (dec_at lsk_213 (k := 64) rfl) ?_
      refine u_ld (v := iV l2) (pc := 121) (dec_at lsk_213 (k := 65) rfl) rfl ?_
      refine u_iadd (pc := 122) (dec_at lsk_213 (k := 66) rfl) ?_
      have g11 := h.1
      have h := h.2
      have g12 := h.1
      have h := h.2
      refine u_iald (pc := 123) (dec_at lsk_213 (k := 67) rfl) sx_282 g11 g12 ?_
      refine u_pI (z := 19) (pc := 124) (dec_at lsk_213 (k := 68) rfl) f_12_271 sx_271 rfl rfl rfl rfl (fun u13 e14 => ?_)
      have h := h u13 e14
      refine u_ld (v := .ref 271) (pc := 127) (dec_at lsk_213 (k := 69) rfl) rfl ?_
      refine u_gS (o := 10) (p := 281) (pc := 128) (dec_at lsk_213 (k := 70) rfl) f_12_37 sx_271 rfl rfl ?_
      refine u_c (x := 6) (pc := 131) (dec_at lsk_213 (k := 71) rfl) rfl (by decide) ?_
      refine u_ld (v := iV l1) (pc := 133) (dec_at lsk_213 (k := 72) rfl) rfl ?_
      refine u_imul (pc := 134) (dec_at lsk_213 (k := 73) rfl) ?_
      refine u_ld (v := iV l2) (pc := 135) (dec_at lsk_213 (k := 74) rfl) rfl ?_
      refine u_iadd (pc := 136) (dec_at lsk_213 (k := 75) rfl) ?_
      refine u_c (x := 100) (pc := 137) (dec_at lsk_213 (k := 76) rfl) rfl (by decide) ?_
      refine u_ld (v := iV l4) (pc := 139) (dec_at lsk_213 (k := 77) rfl) rfl ?_
      refine u_iadd (pc := 141) (dec_at lsk_213 (k := 78) rfl) ?_
      refine u_iast (pc := 142) (dec_at lsk_213 (k := 79) rfl) sx_281 g11 g12 (fun u15 e16 => ?_)
      have h := h u15 e16
      refine u_inc (lv' := [.ref 271, iV l1, iV (l2 + 1), iV l3, iV l4, iV l5]) (pc := 143) (dec_at lsk_213 (k := 80) rfl) rfl (by decide) rfl ?_
      refine u_goto (pc := 146) (tgt := 21) (dec_at lsk_213 (k := 81) rfl) rfl ?_
      exact u_weak (sbK (sbK (sbK (sbD (sbD (sbD sb0)))))) h
    · have h := ifF e10 h
      refine u_ld (v := .ref 271) (pc := 127) (dec_at lsk_213 (k := 69) rfl) rfl ?_
      refine u_gS (o := 10) (p := 281) (pc := 128) (dec_at lsk_213 (k := 70) rfl) f_12_37 sx_271 rfl rfl ?_
      refine u_c (x := 6) (pc := 131) (dec_at lsk_213 (k := 71) rfl) rfl (by decide) ?_
      refine u_ld (v := iV l1) (pc := 133) (dec_at lsk_213 (k := 72) rfl) rfl ?_
      refine u_imul (pc := 134) (dec_at lsk_213 (k := 73) rfl) ?_
      refine u_ld (v := iV l2) (pc := 135) (dec_at lsk_213 (k := 74) rfl) rfl ?_
      refine u_iadd (pc := 136) (dec_at lsk_213 (k := 75) rfl) ?_
      refine u_c (x := 100) (pc := 137) (dec_at lsk_213 (k := 76) rfl) rfl (by decide) ?_
      refine u_ld (v := iV l4) (pc := 139) (dec_at lsk_213 (k := 77) rfl) rfl ?_
      refine u_iadd (pc := 141) (dec_at lsk_213 (k := 78) rfl) ?_
      have g17 := h.1
      have h := h.2
      have g18 := h.1
      have h := h.2
      refine u_iast (pc := 142) (dec_at lsk_213 (k := 79) rfl) sx_281 g17 g18 (fun u19 e20 => ?_)
      have h := h u19 e20
      refine u_inc (lv' := [.ref 271, iV l1, iV (l2 + 1), iV l3, iV l4, iV l5]) (pc := 143) (dec_at lsk_213 (k := 80) rfl) rfl (by decide) rfl ?_
      refine u_goto (pc := 146) (tgt := 21) (dec_at lsk_213 (k := 81) rfl) rfl ?_
      exact u_weak (sbK (sbK (sbK (sbD (sbD (sbD sb0)))))) h
/-- method 214 -/
def K_214 (d pc : Nat) (lv : ev_L) (st : List Value) (u : uS) (Q : uS → Prop) : Prop := okU d 12 6 false none prog_14_method_20_code (qV Q) pc lv st u
theorem e_214 {d : Nat} {Q : uS → Prop} {u : uS} (h : K_214 d 2 [.ref 271, iV 0, .retAddr 0, .retAddr 0, .retAddr 0, .retAddr 0] [] u Q) : cV (d + 1) 214 [.ref 271] u Q := by
  refine u_of me_214 (Nat.le_of_ble_eq_true rfl) ?_
  refine u_ld (v := iV 0) (pc := 0) (dec_at lsk_214 (k := 0) rfl) rfl ?_
  refine u_sto (lv' := [.ref 271, iV 0, .retAddr 0, .retAddr 0, .retAddr 0, .retAddr 0]) (pc := 1) (dec_at lsk_214 (k := 1) rfl) rfl ?_
  exact h
theorem k_214_2 {d : Nat} {Q : uS → Prop} {u : uS} {l1 : Int} (h : (rI l1) ∧ (if l1 < 10 then ((0 ≤ l1) ∧ (∀ u4 : uS, u4 = wr u 283 l1 0 → (∀ u6 : uS, u6 = wr u4 284 l1 0 → (∀ u8 : uS, u8 = wr u6 285 l1 0 → (∀ u10 : uS, u10 = wr u8 286 l1 0 → (∀ u12 : uS, u12 = wr u10 288 l1 4000000000000000001 → (∀ u14 : uS, u14 = wr u12 289 l1 4000000000000000001 → (K_214 d 2 [.ref 271, iV (l1 + 1), .retAddr 0, .retAddr 0, .retAddr 0, .retAddr 0] [] u14 Q)))))))) else (K_214 d 62 [.ref 271, iV 1, .retAddr 0, .retAddr 0, .retAddr 0, .retAddr 0] [] u Q))) : K_214 d 2 [.ref 271, iV l1, .retAddr 0, .retAddr 0, .retAddr 0, .retAddr 0] [] u Q := by
  unfold K_214
  refine u_ld (v := iV l1) (pc := 2) (dec_at lsk_214 (k := 2) rfl) rfl ?_
  refine u_c (x := 10) (pc := 3) (dec_at lsk_214 (k := 3) rfl) rfl (by decide) ?_
  have g1 := h.1
  have h := h.2
  refine u_icF (pc := 5) (tgt := 60) (dec_at lsk_214 (k := 4) rfl) rfl (ci_ge g1 (by decide)) (fun e2 => ?_) (fun e2 => ?_)
  · have h := ifT e2 h
    refine u_ld (v := .ref 271) (pc := 8) (dec_at lsk_214 (k := 5) rfl) rfl ?_
    refine u_gS (o := 12) (p := 283) (pc := 9) (dec_at lsk_214 (k := 6) rfl) f_12_43 sx_271 rfl rfl ?_
    refine u_ld (v := iV l1) (pc := 12) (dec_at lsk_214 (k := 7) rfl) rfl ?_
    refine u_ld (v := iV 0) (pc := 13) (dec_at lsk_214 (k := 8) rfl) rfl ?_
    have g3 := h.1
    have h := h.2
    refine u_zast (pc := 14) (dec_at lsk_214 (k := 9) rfl) sx_283 g3 e2 (by decide) (fun u4 e5 => ?_)
    have h := h u4 e5
    refine u_ld (v := .ref 271) (pc := 15) (dec_at lsk_214 (k := 10) rfl) rfl ?_
    refine u_gS (o := 13) (p := 284) (pc := 16) (dec_at lsk_214 (k := 11) rfl) f_12_47 sx_271 rfl rfl ?_
    refine u_ld (v := iV l1) (pc := 19) (dec_at lsk_214 (k := 12) rfl) rfl ?_
    refine u_ld (v := iV 0) (pc := 20) (dec_at lsk_214 (k := 13) rfl) rfl ?_
    refine u_zast (pc := 21) (dec_at lsk_214 (k := 14) rfl) sx_284 g3 e2 (by decide) (fun u6 e7 => ?_)
    have h := h u6 e7
    refine u_ld (v := .ref 271) (pc := 22) (dec_at lsk_214 (k := 15) rfl) rfl ?_
    refine u_gS (o := 14) (p := 285) (pc := 23) (dec_at lsk_214 (k := 16) rfl) f_12_50 sx_271 rfl rfl ?_
    refine u_ld (v := iV l1) (pc := 26) (dec_at lsk_214 (k := 17) rfl) rfl ?_
    refine u_ld (v := iV 0) (pc := 27) (dec_at lsk_214 (k := 18) rfl) rfl ?_
    refine u_zast (pc := 28) (dec_at lsk_214 (k := 19) rfl) sx_285 g3 e2 (by decide) (fun u8 e9 => ?_)
    have h := h u8 e9
    refine u_ld (v := .ref 271) (pc := 29) (dec_at lsk_214 (k := 20) rfl) rfl ?_
    refine u_gS (o := 15) (p := 286) (pc := 30) (dec_at lsk_214 (k := 21) rfl) f_12_53 sx_271 rfl rfl ?_
    refine u_ld (v := iV l1) (pc := 33) (dec_at lsk_214 (k := 22) rfl) rfl ?_
    refine u_ld (v := iV 0) (pc := 34) (dec_at lsk_214 (k := 23) rfl) rfl ?_
    refine u_zast (pc := 35) (dec_at lsk_214 (k := 24) rfl) sx_286 g3 e2 (by decide) (fun u10 e11 => ?_)
    have h := h u10 e11
    refine u_ld (v := .ref 271) (pc := 36) (dec_at lsk_214 (k := 25) rfl) rfl ?_
    refine u_gS (o := 17) (p := 288) (pc := 37) (dec_at lsk_214 (k := 26) rfl) f_12_59 sx_271 rfl rfl ?_
    refine u_ld (v := iV l1) (pc := 40) (dec_at lsk_214 (k := 27) rfl) rfl ?_
    refine u_ldc2 (x := 4000000000000000001) (pc := 41) (dec_at lsk_214 (k := 28) rfl) con_12_312 (by decide) ?_
    refine u_last (pc := 44) (dec_at lsk_214 (k := 29) rfl) sx_288 g3 e2 (fun u12 e13 => ?_)
    have h := h u12 e13
    refine u_ld (v := .ref 271) (pc := 45) (dec_at lsk_214 (k := 30) rfl) rfl ?_
    refine u_gS (o := 18) (p := 289) (pc := 46) (dec_at lsk_214 (k := 31) rfl) f_12_63 sx_271 rfl rfl ?_
    refine u_ld (v := iV l1) (pc := 49) (dec_at lsk_214 (k := 32) rfl) rfl ?_
    refine u_ldc2 (x := 4000000000000000001) (pc := 50) (dec_at lsk_214 (k := 33) rfl) con_12_312 (by decide) ?_
    refine u_last (pc := 53) (dec_at lsk_214 (k := 34) rfl) sx_289 g3 e2 (fun u14 e15 => ?_)
    have h := h u14 e15
    refine u_inc (lv' := [.ref 271, iV (l1 + 1), .retAddr 0, .retAddr 0, .retAddr 0, .retAddr 0]) (pc := 54) (dec_at lsk_214 (k := 35) rfl) rfl (by decide) rfl ?_
    refine u_goto (pc := 57) (tgt := 2) (dec_at lsk_214 (k := 36) rfl) rfl ?_
    exact h
  · have h := ifF e2 h
    refine u_ld (v := iV 1) (pc := 60) (dec_at lsk_214 (k := 37) rfl) rfl ?_
    refine u_sto (lv' := [.ref 271, iV 1, .retAddr 0, .retAddr 0, .retAddr 0, .retAddr 0]) (pc := 61) (dec_at lsk_214 (k := 38) rfl) rfl ?_
    exact h
theorem k_214_62 {d : Nat} {Q : uS → Prop} {u : uS} {l1 : Int} (h : (rI l1) ∧ (if l1 = 0 then ((u.1 283 0 = 0 ∨ u.1 283 0 = 1) ∧ (∀ u4 : uS, u4 = wr u 284 0 (u.1 283 0) → (K_214 d 119 [.ref 271, .retAddr 0, iV 0, .retAddr 0, .retAddr 0, .retAddr 0] [] u4 Q))) else (K_214 d 70 [.ref 271, iV 0, iV 0, .retAddr 0, .retAddr 0, .retAddr 0] [] u Q))) : K_214 d 62 [.ref 271, iV l1, .retAddr 0, .retAddr 0, .retAddr 0, .retAddr 0] [] u Q := by
  unfold K_214
  refine u_ld (v := iV l1) (pc := 62) (dec_at lsk_214 (k := 39) rfl) rfl ?_
  have g1 := h.1
  have h := h.2
  refine u_ifT (pc := 63) (tgt := 105) (dec_at lsk_214 (k := 40) rfl) rfl (c0_eq g1) (fun e2 => ?_) (fun e2 => ?_)
  · have h := ifT e2 h
    refine u_ld (v := .ref 271) (pc := 105) (dec_at lsk_214 (k := 62) rfl) rfl ?_
    refine u_gS (o := 13) (p := 284) (pc := 106) (dec_at lsk_214 (k := 63) rfl) f_12_47 sx_271 rfl rfl ?_
    refine u_ld (v := iV 0) (pc := 109) (dec_at lsk_214 (k := 64) rfl) rfl ?_
    refine u_ld (v := .ref 271) (pc := 110) (dec_at lsk_214 (k := 65) rfl) rfl ?_
    refine u_gS (o := 12) (p := 283) (pc := 111) (dec_at lsk_214 (k := 66) rfl) f_12_43 sx_271 rfl rfl ?_
    refine u_ld (v := iV 0) (pc := 114) (dec_at lsk_214 (k := 67) rfl) rfl ?_
    refine u_zald (pc := 115) (dec_at lsk_214 (k := 68) rfl) sx_283 (by decide) (by decide) ?_
    have g3 := h.1
    have h := h.2
    refine u_zast (pc := 116) (dec_at lsk_214 (k := 69) rfl) sx_284 (by decide) (by decide) g3 (fun u4 e5 => ?_)
    have h := h u4 e5
    refine u_ld (v := iV 0) (pc := 117) (dec_at lsk_214 (k := 70) rfl) rfl ?_
    refine u_sto (lv' := [.ref 271, iV l1, iV 0, .retAddr 0, .retAddr 0, .retAddr 0]) (pc := 118) (dec_at lsk_214 (k := 71) rfl) rfl ?_
    exact u_weak (sbK (sbD (sbK (sbK (sbK (sbK sb0)))))) h
  · have h := ifF e2 h
    refine u_ld (v := iV 0) (pc := 66) (dec_at lsk_214 (k := 41) rfl) rfl ?_
    refine u_sto (lv' := [.ref 271, iV 0, .retAddr 0, .retAddr 0, .retAddr 0, .retAddr 0]) (pc := 67) (dec_at lsk_214 (k := 42) rfl) rfl ?_
    refine u_ld (v := iV 0) (pc := 68) (dec_at lsk_214 (k := 43) rfl) rfl ?_
    refine u_sto (lv' := [.ref 271, iV 0, iV 0, .retAddr 0, .retAddr 0, .retAddr 0]) (pc := 69) (dec_at lsk_214 (k := 44) rfl) rfl ?_
    exact h
theorem k_214_70 {d : Nat} {Q : uS → Prop} {u : uS} {l1 l2 : Int} (h : (rI l2) ∧ ((rI (u.1 271 6)) ∧ (if l2 < u.1 271 6 then (cI d 215 [.ref 271, iV l2] u (fun r5 u4 => (rI r5) ∧ (if r5 = 0 then ((rI l1) ∧ (if l1 = 0 then (K_214 d 70 [.ref 271, iV 0, iV (l2 + 1), .retAddr 0, .retAddr 0, .retAddr 0] [] u4 Q) else (K_214 d 70 [.ref 271, iV 1, iV (l2 + 1), .retAddr 0, .retAddr 0, .retAddr 0] [] u4 Q))) else (K_214 d 70 [.ref 271, iV 1, iV (l2 + 1), .retAddr 0, .retAddr 0, .retAddr 0] [] u4 Q)))) else (K_214 d 62 [.ref 271, iV l1, .retAddr 0, .retAddr 0, .retAddr 0, .retAddr 0] [] u Q)))) : K_214 d 70 [.ref 271, iV l1, iV l2, .retAddr 0, .retAddr 0, .retAddr 0] [] u Q := by
  unfold K_214
  refine u_ld (v := iV l2) (pc := 70) (dec_at lsk_214 (k := 45) rfl) rfl ?_
  refine u_ld (v := .ref 271) (pc := 71) (dec_at lsk_214 (k := 46) rfl) rfl ?_
  refine u_gI (z := 6) (pc := 72) (dec_at lsk_214 (k := 47) rfl) f_12_306 sx_271 rfl rfl ?_
  have g1 := h.1
  have h := h.2
  have g2 := h.1
  have h := h.2
  refine u_icF (pc := 75) (tgt := 102) (dec_at lsk_214 (k := 48) rfl) rfl (ci_ge g1 g2) (fun e3 => ?_) (fun e3 => ?_)
  · have h := ifT e3 h
    refine u_ld (v := .ref 271) (pc := 78) (dec_at lsk_214 (k := 49) rfl) rfl ?_
    refine u_ld (v := iV l2) (pc := 79) (dec_at lsk_214 (k := 50) rfl) rfl ?_
    refine u_cvI (As := [iV l2]) (rb := 271) (st2 := []) (pc := 80) (dec_at lsk_214 (k := 51) rfl) m_12_314 (Or.inl rfl) rfl (Nat.le_of_ble_eq_true rfl) sx_271 me_215 rfl h (fun r5 u4 h => ?_)
    have g6 := h.1
    have h := h.2
    refine u_ifF (pc := 83) (tgt := 90) (dec_at lsk_214 (k := 52) rfl) rfl (c0_ne g6) (fun e7 => ?_) (fun e7 => ?_)
    · have h := ifT e7 h
      refine u_ld (v := iV l1) (pc := 86) (dec_at lsk_214 (k := 53) rfl) rfl ?_
      have g8 := h.1
      have h := h.2
      refine u_ifT (pc := 87) (tgt := 94) (dec_at lsk_214 (k := 54) rfl) rfl (c0_eq g8) (fun e9 => ?_) (fun e9 => ?_)
      · have h := ifT e9 h
        refine u_ld (v := iV 0) (pc := 94) (dec_at lsk_214 (k := 57) rfl) rfl ?_
        refine u_sto (lv' := [.ref 271, iV 0, iV l2, .retAddr 0, .retAddr 0, .retAddr 0]) (pc := 95) (dec_at lsk_214 (k := 58) rfl) rfl ?_
        refine u_inc (lv' := [.ref 271, iV 0, iV (l2 + 1), .retAddr 0, .retAddr 0, .retAddr 0]) (pc := 96) (dec_at lsk_214 (k := 59) rfl) rfl (by decide) rfl ?_
        refine u_goto (pc := 99) (tgt := 70) (dec_at lsk_214 (k := 60) rfl) rfl ?_
        exact h
      · have h := ifF e9 h
        refine u_ld (v := iV 1) (pc := 90) (dec_at lsk_214 (k := 55) rfl) rfl ?_
        refine u_goto (pc := 91) (tgt := 95) (dec_at lsk_214 (k := 56) rfl) rfl ?_
        refine u_sto (lv' := [.ref 271, iV 1, iV l2, .retAddr 0, .retAddr 0, .retAddr 0]) (pc := 95) (dec_at lsk_214 (k := 58) rfl) rfl ?_
        refine u_inc (lv' := [.ref 271, iV 1, iV (l2 + 1), .retAddr 0, .retAddr 0, .retAddr 0]) (pc := 96) (dec_at lsk_214 (k := 59) rfl) rfl (by decide) rfl ?_
        refine u_goto (pc := 99) (tgt := 70) (dec_at lsk_214 (k := 60) rfl) rfl ?_
        exact h
    · have h := ifF e7 h
      refine u_ld (v := iV 1) (pc := 90) (dec_at lsk_214 (k := 55) rfl) rfl ?_
      refine u_goto (pc := 91) (tgt := 95) (dec_at lsk_214 (k := 56) rfl) rfl ?_
      refine u_sto (lv' := [.ref 271, iV 1, iV l2, .retAddr 0, .retAddr 0, .retAddr 0]) (pc := 95) (dec_at lsk_214 (k := 58) rfl) rfl ?_
      refine u_inc (lv' := [.ref 271, iV 1, iV (l2 + 1), .retAddr 0, .retAddr 0, .retAddr 0]) (pc := 96) (dec_at lsk_214 (k := 59) rfl) rfl (by decide) rfl ?_
      refine u_goto (pc := 99) (tgt := 70) (dec_at lsk_214 (k := 60) rfl) rfl ?_
      exact h
  · have h := ifF e3 h
    refine u_goto (pc := 102) (tgt := 62) (dec_at lsk_214 (k := 61) rfl) rfl ?_
    exact u_weak (sbK (sbK (sbD (sbK (sbK (sbK sb0)))))) h
theorem k_214_119 {d : Nat} {Q : uS → Prop} {u : uS} {l2 : Int} (h : (rI l2) ∧ (if l2 < 10 then (K_214 d 127 [.ref 271, .retAddr 0, iV l2, iV 0, .retAddr 0, .retAddr 0] [] u Q) else (cV d 218 [.ref 271] u (fun u3 => Q u3)))) : K_214 d 119 [.ref 271, .retAddr 0, iV l2, .retAddr 0, .retAddr 0, .retAddr 0] [] u Q := by
  unfold K_214
  refine u_ld (v := iV l2) (pc := 119) (dec_at lsk_214 (k := 72) rfl) rfl ?_
  refine u_c (x := 10) (pc := 120) (dec_at lsk_214 (k := 73) rfl) rfl (by decide) ?_
  have g1 := h.1
  have h := h.2
  refine u_icF (pc := 122) (tgt := 221) (dec_at lsk_214 (k := 74) rfl) rfl (ci_ge g1 (by decide)) (fun e2 => ?_) (fun e2 => ?_)
  · have h := ifT e2 h
    refine u_ld (v := iV 0) (pc := 125) (dec_at lsk_214 (k := 75) rfl) rfl ?_
    refine u_sto (lv' := [.ref 271, .retAddr 0, iV l2, iV 0, .retAddr 0, .retAddr 0]) (pc := 126) (dec_at lsk_214 (k := 76) rfl) rfl ?_
    exact h
  · have h := ifF e2 h
    refine u_ld (v := .ref 271) (pc := 221) (dec_at lsk_214 (k := 126) rfl) rfl ?_
    refine u_cvV (As := []) (rb := 271) (st2 := []) (pc := 222) (dec_at lsk_214 (k := 127) rfl) m_12_320 (Or.inl rfl) rfl (Nat.le_of_ble_eq_true rfl) sx_271 me_218 rfl h (fun u3 h => ?_)
    exact u_rV (pc := 225) (dec_at lsk_214 (k := 128) rfl) rfl h
theorem k_214_127 {d : Nat} {Q : uS → Prop} {u : uS} {l2 l3 : Int} (h : (rI l3) ∧ ((rI (u.1 271 6)) ∧ (if l3 < u.1 271 6 then (K_214 d 138 [.ref 271, .retAddr 0, iV l2, iV l3, iV 0, .retAddr 0] [] u Q) else (K_214 d 119 [.ref 271, .retAddr 0, iV (l2 + 1), .retAddr 0, .retAddr 0, .retAddr 0] [] u Q)))) : K_214 d 127 [.ref 271, .retAddr 0, iV l2, iV l3, .retAddr 0, .retAddr 0] [] u Q := by
  unfold K_214
  refine u_ld (v := iV l3) (pc := 127) (dec_at lsk_214 (k := 77) rfl) rfl ?_
  refine u_ld (v := .ref 271) (pc := 128) (dec_at lsk_214 (k := 78) rfl) rfl ?_
  refine u_gI (z := 6) (pc := 129) (dec_at lsk_214 (k := 79) rfl) f_12_306 sx_271 rfl rfl ?_
  have g1 := h.1
  have h := h.2
  have g2 := h.1
  have h := h.2
  refine u_icF (pc := 132) (tgt := 215) (dec_at lsk_214 (k := 80) rfl) rfl (ci_ge g1 g2) (fun e3 => ?_) (fun e3 => ?_)
  · have h := ifT e3 h
    refine u_ld (v := iV 0) (pc := 135) (dec_at lsk_214 (k := 81) rfl) rfl ?_
    refine u_sto (lv' := [.ref 271, .retAddr 0, iV l2, iV l3, iV 0, .retAddr 0]) (pc := 136) (dec_at lsk_214 (k := 82) rfl) rfl ?_
    exact h
  · have h := ifF e3 h
    refine u_inc (lv' := [.ref 271, .retAddr 0, iV (l2 + 1), iV l3, .retAddr 0, .retAddr 0]) (pc := 215) (dec_at lsk_214 (k := 124) rfl) rfl (by decide) rfl ?_
    refine u_goto (pc := 218) (tgt := 119) (dec_at lsk_214 (k := 125) rfl) rfl ?_
    exact u_weak (sbK (sbK (sbK (sbD (sbK (sbK sb0)))))) h
theorem k_214_138 {d : Nat} {Q : uS → Prop} {u : uS} {l2 l3 l4 : Int} (h : (0 ≤ l3) ∧ ((l3 < 30) ∧ ((rI l4) ∧ ((rI (u.1 276 l3)) ∧ (if l4 < u.1 276 l3 then ((0 ≤ u.1 275 l3) ∧ ((u.1 275 l3 < 10) ∧ ((rI (u.1 284 (u.1 275 l3))) ∧ (if u.1 284 (u.1 275 l3) = 0 then (K_214 d 127 [.ref 271, .retAddr 0, iV l2, iV (l3 + 1), .retAddr 0, .retAddr 0] [] u Q) else (cI d 216 [.ref 271, iV l3] u (fun r11 u10 => (rI r11) ∧ (if r11 = 0 then (K_214 d 127 [.ref 271, .retAddr 0, iV l2, iV (l3 + 1), .retAddr 0, .retAddr 0] [] u10 Q) else ((0 ≤ (6 * l3) + l4) ∧ (((6 * l3) + l4 < 180) ∧ ((rI (u10.1 277 ((6 * l3) + l4))) ∧ (if u10.1 277 ((6 * l3) + l4) < 100 then (K_214 d 138 [.ref 271, .retAddr 0, iV l2, iV l3, iV (l4 + 1), .retAddr 0] [] u10 Q) else ((0 ≤ (u10.1 277 ((6 * l3) + l4)) - 100) ∧ (((u10.1 277 ((6 * l3) + l4)) - 100 < 10) ∧ (∀ u20 : uS, u20 = wr u10 284 ((u10.1 277 ((6 * l3) + l4)) - 100) 1 → (K_214 d 138 [.ref 271, .retAddr 0, iV l2, iV l3, iV (l4 + 1), .retAddr 0] [] u20 Q))))))))))))))) else (K_214 d 127 [.ref 271, .retAddr 0, iV l2, iV (l3 + 1), .retAddr 0, .retAddr 0] [] u Q)))))) : K_214 d 138 [.ref 271, .retAddr 0, iV l2, iV l3, iV l4, .retAddr 0] [] u Q := by
  unfold K_214
  refine u_ld (v := iV l4) (pc := 138) (dec_at lsk_214 (k := 83) rfl) rfl ?_
  refine u_ld (v := .ref 271) (pc := 140) (dec_at lsk_214 (k := 84) rfl) rfl ?_
  refine u_gS (o := 5) (p := 276) (pc := 141) (dec_at lsk_214 (k := 85) rfl) f_12_22 sx_271 rfl rfl ?_
  refine u_ld (v := iV l3) (pc := 144) (dec_at lsk_214 (k := 86) rfl) rfl ?_
  have g1 := h.1
  have h := h.2
  have g2 := h.1
  have h := h.2
  refine u_iald (pc := 145) (dec_at lsk_214 (k := 87) rfl) sx_276 g1 g2 ?_
  have g3 := h.1
  have h := h.2
  have g4 := h.1
  have h := h.2
  refine u_icF (pc := 146) (tgt := 209) (dec_at lsk_214 (k := 88) rfl) rfl (ci_ge g3 g4) (fun e5 => ?_) (fun e5 => ?_)
  · have h := ifT e5 h
    refine u_ld (v := .ref 271) (pc := 149) (dec_at lsk_214 (k := 89) rfl) rfl ?_
    refine u_gS (o := 13) (p := 284) (pc := 150) (dec_at lsk_214 (k := 90) rfl) f_12_47 sx_271 rfl rfl ?_
    refine u_ld (v := .ref 271) (pc := 153) (dec_at lsk_214 (k := 91) rfl) rfl ?_
    refine u_gS (o := 4) (p := 275) (pc := 154) (dec_at lsk_214 (k := 92) rfl) f_12_19 sx_271 rfl rfl ?_
    refine u_ld (v := iV l3) (pc := 157) (dec_at lsk_214 (k := 93) rfl) rfl ?_
    refine u_iald (pc := 158) (dec_at lsk_214 (k := 94) rfl) sx_275 g1 g2 ?_
    have g6 := h.1
    have h := h.2
    have g7 := h.1
    have h := h.2
    refine u_zald (pc := 159) (dec_at lsk_214 (k := 95) rfl) sx_284 g6 g7 ?_
    have g8 := h.1
    have h := h.2
    refine u_ifT (pc := 160) (tgt := 209) (dec_at lsk_214 (k := 96) rfl) rfl (c0_eq g8) (fun e9 => ?_) (fun e9 => ?_)
    · have h := ifT e9 h
      refine u_inc (lv' := [.ref 271, .retAddr 0, iV l2, iV (l3 + 1), iV l4, .retAddr 0]) (pc := 209) (dec_at lsk_214 (k := 122) rfl) rfl (by decide) rfl ?_
      refine u_goto (pc := 212) (tgt := 127) (dec_at lsk_214 (k := 123) rfl) rfl ?_
      exact u_weak (sbK (sbK (sbK (sbK (sbD (sbK sb0)))))) h
    · have h := ifF e9 h
      refine u_ld (v := .ref 271) (pc := 163) (dec_at lsk_214 (k := 97) rfl) rfl ?_
      refine u_ld (v := iV l3) (pc := 164) (dec_at lsk_214 (k := 98) rfl) rfl ?_
      refine u_cvI (As := [iV l3]) (rb := 271) (st2 := []) (pc := 165) (dec_at lsk_214 (k := 99) rfl) m_12_317 (Or.inl rfl) rfl (Nat.le_of_ble_eq_true rfl) sx_271 me_216 rfl h (fun r11 u10 h => ?_)
      have g12 := h.1
      have h := h.2
      refine u_ifT (pc := 168) (tgt := 209) (dec_at lsk_214 (k := 100) rfl) rfl (c0_eq g12) (fun e13 => ?_) (fun e13 => ?_)
      · have h := ifT e13 h
        refine u_inc (lv' := [.ref 271, .retAddr 0, iV l2, iV (l3 + 1), iV l4, .retAddr 0]) (pc := 209) (dec_at lsk_214 (k := 122) rfl) rfl (by decide) rfl ?_
        refine u_goto (pc := 212) (tgt := 127) (dec_at lsk_214 (k := 123) rfl) rfl ?_
        exact u_weak (sbK (sbK (sbK (sbK (sbD (sbK sb0)))))) h
      · have h := ifF e13 h
        refine u_ld (v := .ref 271) (pc := 171) (dec_at lsk_214 (k := 101) rfl) rfl ?_
        refine u_gS (o := 6) (p := 277) (pc := 172) (dec_at lsk_214 (k := 102) rfl) f_12_25 sx_271 rfl rfl ?_
        refine u_c (x := 6) (pc := 175) (dec_at lsk_214 (k := 103) rfl) rfl (by decide) ?_
        refine u_ld (v := iV l3) (pc := 177) (dec_at lsk_214 (k := 104) rfl) rfl ?_
        refine u_imul (pc := 178) (dec_at lsk_214 (k := 105) rfl) ?_
        refine u_ld (v := iV l4) (pc := 179) (dec_at lsk_214 (k := 106) rfl) rfl ?_
        refine u_iadd (pc := 181) (dec_at lsk_214 (k := 107) rfl) ?_
        have g14 := h.1
        have h := h.2
        have g15 := h.1
        have h := h.2
        refine u_iald (pc := 182) (dec_at lsk_214 (k := 108) rfl) sx_277 g14 g15 ?_
        refine u_sto (lv' := [.ref 271, .retAddr 0, iV l2, iV l3, iV l4, iV (u10.1 277 ((6 * l3) + l4))]) (pc := 183) (dec_at lsk_214 (k := 109) rfl) rfl ?_
        refine u_ld (v := iV (u10.1 277 ((6 * l3) + l4))) (pc := 185) (dec_at lsk_214 (k := 110) rfl) rfl ?_
        refine u_c (x := 100) (pc := 187) (dec_at lsk_214 (k := 111) rfl) rfl (by decide) ?_
        have g16 := h.1
        have h := h.2
        refine u_icT (pc := 189) (tgt := 203) (dec_at lsk_214 (k := 112) rfl) rfl (ci_lt g16 (by decide)) (fun e17 => ?_) (fun e17 => ?_)
        · have h := ifT e17 h
          refine u_inc (lv' := [.ref 271, .retAddr 0, iV l2, iV l3, iV (l4 + 1), iV (u10.1 277 ((6 * l3) + l4))]) (pc := 203) (dec_at lsk_214 (k := 120) rfl) rfl (by decide) rfl ?_
          refine u_goto (pc := 206) (tgt := 138) (dec_at lsk_214 (k := 121) rfl) rfl ?_
          exact u_weak (sbK (sbK (sbK (sbK (sbK (sbD sb0)))))) h
        · have h := ifF e17 h
          refine u_ld (v := .ref 271) (pc := 192) (dec_at lsk_214 (k := 113) rfl) rfl ?_
          refine u_gS (o := 13) (p := 284) (pc := 193) (dec_at lsk_214 (k := 114) rfl) f_12_47 sx_271 rfl rfl ?_
          refine u_ld (v := iV (u10.1 277 ((6 * l3) + l4))) (pc := 196) (dec_at lsk_214 (k := 115) rfl) rfl ?_
          refine u_c (x := 100) (pc := 198) (dec_at lsk_214 (k := 116) rfl) rfl (by decide) ?_
          refine u_isub (pc := 200) (dec_at lsk_214 (k := 117) rfl) ?_
          refine u_ld (v := iV 1) (pc := 201) (dec_at lsk_214 (k := 118) rfl) rfl ?_
          have g18 := h.1
          have h := h.2
          have g19 := h.1
          have h := h.2
          refine u_zast (pc := 202) (dec_at lsk_214 (k := 119) rfl) sx_284 g18 g19 (by decide) (fun u20 e21 => ?_)
          have h := h u20 e21
          refine u_inc (lv' := [.ref 271, .retAddr 0, iV l2, iV l3, iV (l4 + 1), iV (u10.1 277 ((6 * l3) + l4))]) (pc := 203) (dec_at lsk_214 (k := 120) rfl) rfl (by decide) rfl ?_
          refine u_goto (pc := 206) (tgt := 138) (dec_at lsk_214 (k := 121) rfl) rfl ?_
          exact u_weak (sbK (sbK (sbK (sbK (sbK (sbD sb0)))))) h
  · have h := ifF e5 h
    refine u_inc (lv' := [.ref 271, .retAddr 0, iV l2, iV (l3 + 1), iV l4, .retAddr 0]) (pc := 209) (dec_at lsk_214 (k := 122) rfl) rfl (by decide) rfl ?_
    refine u_goto (pc := 212) (tgt := 127) (dec_at lsk_214 (k := 123) rfl) rfl ?_
    exact u_weak (sbK (sbK (sbK (sbK (sbD (sbK sb0)))))) h
/-- method 215 -/
def K_215 (d pc : Nat) (lv : ev_L) (st : List Value) (u : uS) (Q : Int → uS → Prop) : Prop := okU d 12 11 false (some .boolean) prog_14_method_21_code (qI Q) pc lv st u
theorem e_215 {d : Nat} {Q : Int → uS → Prop} {u : uS} {l1 : Int} (h : cI (d + 1) 216 [.ref 271, iV l1] u (fun r2 u1 => (rI r2) ∧ (if r2 = 0 then (Q 0 u1) else ((0 ≤ l1) ∧ ((l1 < 30) ∧ (K_215 (d + 1) 31 [.ref 271, iV l1, iV (u1.1 275 l1), lV 0, .retAddr 0, lV 0, .retAddr 0, iV 1, iV 0, iV 0, .retAddr 0] [] u1 Q)))))) : cI (d + 2) 215 [.ref 271, iV l1] u Q := by
  refine u_of me_215 (Nat.le_of_ble_eq_true rfl) ?_
  refine u_ld (v := .ref 271) (pc := 0) (dec_at lsk_215 (k := 0) rfl) rfl ?_
  refine u_ld (v := iV l1) (pc := 1) (dec_at lsk_215 (k := 1) rfl) rfl ?_
  refine u_cvI (As := [iV l1]) (rb := 271) (st2 := []) (pc := 2) (dec_at lsk_215 (k := 2) rfl) m_12_317 (Or.inl rfl) rfl (Nat.le_of_ble_eq_true rfl) sx_271 me_216 rfl h (fun r2 u1 h => ?_)
  have g3 := h.1
  have h := h.2
  refine u_ifF (pc := 5) (tgt := 10) (dec_at lsk_215 (k := 3) rfl) rfl (c0_ne g3) (fun e4 => ?_) (fun e4 => ?_)
  · have h := ifT e4 h
    refine u_ld (v := iV 0) (pc := 8) (dec_at lsk_215 (k := 4) rfl) rfl ?_
    exact u_rZ (pc := 9) (dec_at lsk_215 (k := 5) rfl) rfl (by decide) h
  · have h := ifF e4 h
    refine u_ld (v := .ref 271) (pc := 10) (dec_at lsk_215 (k := 6) rfl) rfl ?_
    refine u_gS (o := 4) (p := 275) (pc := 11) (dec_at lsk_215 (k := 7) rfl) f_12_19 sx_271 rfl rfl ?_
    refine u_ld (v := iV l1) (pc := 14) (dec_at lsk_215 (k := 8) rfl) rfl ?_
    have g5 := h.1
    have h := h.2
    have g6 := h.1
    have h := h.2
    refine u_iald (pc := 15) (dec_at lsk_215 (k := 9) rfl) sx_275 g5 g6 ?_
    refine u_sto (lv' := [.ref 271, iV l1, iV (u1.1 275 l1), .retAddr 0, .retAddr 0, .retAddr 0, .retAddr 0, .retAddr 0, .retAddr 0, .retAddr 0, .retAddr 0]) (pc := 16) (dec_at lsk_215 (k := 10) rfl) rfl ?_
    refine u_cl (x := 0) (pc := 17) (dec_at lsk_215 (k := 11) rfl) rfl (by decide) ?_
    refine u_sto (lv' := [.ref 271, iV l1, iV (u1.1 275 l1), lV 0, .retAddr 0, .retAddr 0, .retAddr 0, .retAddr 0, .retAddr 0, .retAddr 0, .retAddr 0]) (pc := 18) (dec_at lsk_215 (k := 12) rfl) rfl ?_
    refine u_cl (x := 0) (pc := 19) (dec_at lsk_215 (k := 13) rfl) rfl (by decide) ?_
    refine u_sto (lv' := [.ref 271, iV l1, iV (u1.1 275 l1), lV 0, .retAddr 0, lV 0, .retAddr 0, .retAddr 0, .retAddr 0, .retAddr 0, .retAddr 0]) (pc := 20) (dec_at lsk_215 (k := 14) rfl) rfl ?_
    refine u_ld (v := iV 1) (pc := 22) (dec_at lsk_215 (k := 15) rfl) rfl ?_
    refine u_sto (lv' := [.ref 271, iV l1, iV (u1.1 275 l1), lV 0, .retAddr 0, lV 0, .retAddr 0, iV 1, .retAddr 0, .retAddr 0, .retAddr 0]) (pc := 23) (dec_at lsk_215 (k := 16) rfl) rfl ?_
    refine u_ld (v := iV 0) (pc := 25) (dec_at lsk_215 (k := 17) rfl) rfl ?_
    refine u_sto (lv' := [.ref 271, iV l1, iV (u1.1 275 l1), lV 0, .retAddr 0, lV 0, .retAddr 0, iV 1, iV 0, .retAddr 0, .retAddr 0]) (pc := 26) (dec_at lsk_215 (k := 18) rfl) rfl ?_
    refine u_ld (v := iV 0) (pc := 28) (dec_at lsk_215 (k := 19) rfl) rfl ?_
    refine u_sto (lv' := [.ref 271, iV l1, iV (u1.1 275 l1), lV 0, .retAddr 0, lV 0, .retAddr 0, iV 1, iV 0, iV 0, .retAddr 0]) (pc := 29) (dec_at lsk_215 (k := 20) rfl) rfl ?_
    exact h
theorem k_215_31 {d : Nat} {Q : Int → uS → Prop} {u : uS} {l1 l2 l3 l5 l7 l8 l9 : Int} (h : (0 ≤ l1) ∧ ((l1 < 30) ∧ ((rI l9) ∧ ((rI (u.1 276 l1)) ∧ (if l9 < u.1 276 l1 then ((0 ≤ (6 * l1) + l9) ∧ (((6 * l1) + l9 < 180) ∧ ((rI (u.1 277 ((6 * l1) + l9))) ∧ (if u.1 277 ((6 * l1) + l9) < 100 then ((cn 5000000000000000000 l3) ∧ ((cn 5000000000000000000 1) ∧ (K_215 (d + 1) 120 [.ref 271, iV l1, iV l2, lV (pl 5000000000000000000 l3 1), .retAddr 0, .retAddr 0, .retAddr 0, iV l7, iV l8, iV l9, iV (u.1 277 ((6 * l1) + l9))] [lV l5] u Q))) else ((0 ≤ (u.1 277 ((6 * l1) + l9)) - 100) ∧ (((u.1 277 ((6 * l1) + l9)) - 100 < 10) ∧ ((cn 5000000000000000000 l3) ∧ ((cn 5000000000000000000 (u.1 288 ((u.1 277 ((6 * l1) + l9)) - 100))) ∧ ((rL (u.1 289 ((u.1 277 ((6 * l1) + l9)) - 100))) ∧ ((rL l5) ∧ (if l5 < u.1 289 ((u.1 277 ((6 * l1) + l9)) - 100) then (K_215 (d + 1) 120 [.ref 271, iV l1, iV l2, lV (pl 5000000000000000000 l3 (u.1 288 ((u.1 277 ((6 * l1) + l9)) - 100))), .retAddr 0, .retAddr 0, .retAddr 0, iV l7, iV l8, iV l9, iV (u.1 277 ((6 * l1) + l9))] [lV (u.1 289 ((u.1 277 ((6 * l1) + l9)) - 100))] u Q) else (K_215 (d + 1) 120 [.ref 271, iV l1, iV l2, lV (pl 5000000000000000000 l3 (u.1 288 ((u.1 277 ((6 * l1) + l9)) - 100))), .retAddr 0, .retAddr 0, .retAddr 0, iV l7, iV l8, iV l9, iV (u.1 277 ((6 * l1) + l9))] [lV l5] u Q)))))))))))) else ((0 ≤ l2) ∧ ((l2 < 10) ∧ ((rI (u.1 283 l2)) ∧ (if u.1 283 l2 = 0 then (K_215 (d + 1) 259 [.ref 271, .retAddr 0, iV l2, lV l3, .retAddr 0, lV l5, .retAddr 0, iV l7, iV l8, .retAddr 0, .retAddr 0] [iV 1] u Q) else ((rL l3) ∧ ((rL (u.1 288 l2)) ∧ (if l3 < u.1 288 l2 then (K_215 (d + 1) 259 [.ref 271, .retAddr 0, iV l2, lV l3, .retAddr 0, lV l5, .retAddr 0, iV l7, iV l8, .retAddr 0, .retAddr 0] [iV 1] u Q) else ((rL (l5 + 1)) ∧ ((rL (u.1 289 l2)) ∧ (if l5 + 1 < u.1 289 l2 then (K_215 (d + 1) 259 [.ref 271, .retAddr 0, iV l2, lV l3, .retAddr 0, lV l5, .retAddr 0, iV l7, iV l8, .retAddr 0, .retAddr 0] [iV 1] u Q) else ((rI l7) ∧ (if l7 = 0 then ((rI l8) ∧ (if l8 = 0 then (K_215 (d + 1) 259 [.ref 271, .retAddr 0, iV l2, lV l3, .retAddr 0, lV l5, .retAddr 0, iV l7, iV l8, .retAddr 0, .retAddr 0] [iV 0] u Q) else ((rI (u.1 286 l2)) ∧ (if u.1 286 l2 = 0 then (K_215 (d + 1) 259 [.ref 271, .retAddr 0, iV l2, lV l3, .retAddr 0, lV l5, .retAddr 0, iV l7, iV l8, .retAddr 0, .retAddr 0] [iV 1] u Q) else (K_215 (d + 1) 259 [.ref 271, .retAddr 0, iV l2, lV l3, .retAddr 0, lV l5, .retAddr 0, iV l7, iV l8, .retAddr 0, .retAddr 0] [iV 0] u Q))))) else ((rI (u.1 285 l2)) ∧ (if u.1 285 l2 = 0 then (K_215 (d + 1) 259 [.ref 271, .retAddr 0, iV l2, lV l3, .retAddr 0, lV l5, .retAddr 0, iV l7, iV l8, .retAddr 0, .retAddr 0] [iV 1] u Q) else ((rI l8) ∧ (if l8 = 0 then (K_215 (d + 1) 259 [.ref 271, .retAddr 0, iV l2, lV l3, .retAddr 0, lV l5, .retAddr 0, iV l7, iV l8, .retAddr 0, .retAddr 0] [iV 0] u Q) else ((rI (u.1 286 l2)) ∧ (if u.1 286 l2 = 0 then (K_215 (d + 1) 259 [.ref 271, .retAddr 0, iV l2, lV l3, .retAddr 0, lV l5, .retAddr 0, iV l7, iV l8, .retAddr 0, .retAddr 0] [iV 1] u Q) else (K_215 (d + 1) 259 [.ref 271, .retAddr 0, iV l2, lV l3, .retAddr 0, lV l5, .retAddr 0, iV l7, iV l8, .retAddr 0, .retAddr 0] [iV 0] u Q)))))))))))))))))))))))) : K_215 (d + 1) 31 [.ref 271, iV l1, iV l2, lV l3, .retAddr 0, lV l5, .retAddr 0, iV l7, iV l8, iV l9, .retAddr 0] [] u Q := by
  unfold K_215
  refine u_ld (v := iV l9) (pc := 31) (dec_at lsk_215 (k := 21) rfl) rfl ?_
  refine u_ld (v := .ref 271) (pc := 33) (dec_at lsk_215 (k := 22) rfl) rfl ?_
  refine u_gS (o := 5) (p := 276) (pc := 34) (dec_at lsk_215 (k := 23) rfl) f_12_22 sx_271 rfl rfl ?_
  refine u_ld (v := iV l1) (pc := 37) (dec_at lsk_215 (k := 24) rfl) rfl ?_
  have g1 := h.1
  have h := h.2
  have g2 := h.1
  have h := h.2
  refine u_iald (pc := 38) (dec_at lsk_215 (k := 25) rfl) sx_276 g1 g2 ?_
  have g3 := h.1
  have h := h.2
  have g4 := h.1
  have h := h.2
  refine u_icF (pc := 39) (tgt := 192) (dec_at lsk_215 (k := 26) rfl) rfl (ci_ge g3 g4) (fun e5 => ?_) (fun e5 => ?_)
  · have h := ifT e5 h
    refine u_ld (v := .ref 271) (pc := 42) (dec_at lsk_215 (k := 27) rfl) rfl ?_
    refine u_gS (o := 6) (p := 277) (pc := 43) (dec_at lsk_215 (k := 28) rfl) f_12_25 sx_271 rfl rfl ?_
    refine u_c (x := 6) (pc := 46) (dec_at lsk_215 (k := 29) rfl) rfl (by decide) ?_
    refine u_ld (v := iV l1) (pc := 48) (dec_at lsk_215 (k := 30) rfl) rfl ?_
    refine u_imul (pc := 49) (dec_at lsk_215 (k := 31) rfl) ?_
    refine u_ld (v := iV l9) (pc := 50) (dec_at lsk_215 (k := 32) rfl) rfl ?_
    refine u_iadd (pc := 52) (dec_at lsk_215 (k := 33) rfl) ?_
    have g6 := h.1
    have h := h.2
    have g7 := h.1
    have h := h.2
    refine u_iald (pc := 53) (dec_at lsk_215 (k := 34) rfl) sx_277 g6 g7 ?_
    refine u_sto (lv' := [.ref 271, iV l1, iV l2, lV l3, .retAddr 0, lV l5, .retAddr 0, iV l7, iV l8, iV l9, iV (u.1 277 ((6 * l1) + l9))]) (pc := 54) (dec_at lsk_215 (k := 35) rfl) rfl ?_
    refine u_ld (v := lV l3) (pc := 56) (dec_at lsk_215 (k := 36) rfl) rfl ?_
    refine u_ld (v := iV (u.1 277 ((6 * l1) + l9))) (pc := 57) (dec_at lsk_215 (k := 37) rfl) rfl ?_
    refine u_c (x := 100) (pc := 59) (dec_at lsk_215 (k := 38) rfl) rfl (by decide) ?_
    have g8 := h.1
    have h := h.2
    refine u_icF (pc := 61) (tgt := 68) (dec_at lsk_215 (k := 39) rfl) rfl (ci_ge g8 (by decide)) (fun e9 => ?_) (fun e9 => ?_)
    · have h := ifT e9 h
      refine u_cl (x := 1) (pc := 64) (dec_at lsk_215 (k := 40) rfl) rfl (by decide) ?_
      refine u_goto (pc := 65) (tgt := 78) (dec_at lsk_215 (k := 41) rfl) rfl ?_
      have g10 := h.1
      have h := h.2
      have g11 := h.1
      have h := h.2
      refine u_csL (As := [lV l3, lV 1]) (st2 := []) (pc := 78) (dec_at lsk_215 (k := 48) rfl) m_12_323 (Or.inl rfl) rfl (Nat.le_of_ble_eq_true rfl) (p_217 g10 g11) (fun r_ u_ h_ => ?_)
      rw [h_.1, h_.2]
      refine u_sto (lv' := [.ref 271, iV l1, iV l2, lV (pl 5000000000000000000 l3 1), .retAddr 0, lV l5, .retAddr 0, iV l7, iV l8, iV l9, iV (u.1 277 ((6 * l1) + l9))]) (pc := 81) (dec_at lsk_215 (k := 49) rfl) rfl ?_
      refine u_ld (v := iV (u.1 277 ((6 * l1) + l9))) (pc := 82) (dec_at lsk_215 (k := 50) rfl) rfl ?_
      refine u_c (x := 100) (pc := 84) (dec_at lsk_215 (k := 51) rfl) rfl (by decide) ?_
      refine u_icT (pc := 86) (tgt := 118) (dec_at lsk_215 (k := 52) rfl) rfl (ci_lt g8 (by decide)) (fun _ => ?_) (fun e12 => absurd e9 e12)
      refine u_ld (v := lV l5) (pc := 118) (dec_at lsk_215 (k := 69) rfl) rfl ?_
      exact u_weak (sbK (sbK (sbK (sbK (sbK (sbD (sbK (sbK (sbK (sbK (sbK sb0))))))))))) h
    · have h := ifF e9 h
      refine u_ld (v := .ref 271) (pc := 68) (dec_at lsk_215 (k := 42) rfl) rfl ?_
      refine u_gS (o := 17) (p := 288) (pc := 69) (dec_at lsk_215 (k := 43) rfl) f_12_59 sx_271 rfl rfl ?_
      refine u_ld (v := iV (u.1 277 ((6 * l1) + l9))) (pc := 72) (dec_at lsk_215 (k := 44) rfl) rfl ?_
      refine u_c (x := 100) (pc := 74) (dec_at lsk_215 (k := 45) rfl) rfl (by decide) ?_
      refine u_isub (pc := 76) (dec_at lsk_215 (k := 46) rfl) ?_
      have g13 := h.1
      have h := h.2
      have g14 := h.1
      have h := h.2
      refine u_lald (pc := 77) (dec_at lsk_215 (k := 47) rfl) sx_288 g13 g14 ?_
      have g15 := h.1
      have h := h.2
      have g16 := h.1
      have h := h.2
      refine u_csL (As := [lV l3, lV (u.1 288 ((u.1 277 ((6 * l1) + l9)) - 100))]) (st2 := []) (pc := 78) (dec_at lsk_215 (k := 48) rfl) m_12_323 (Or.inl rfl) rfl (Nat.le_of_ble_eq_true rfl) (p_217 g15 g16) (fun r_ u_ h_ => ?_)
      rw [h_.1, h_.2]
      refine u_sto (lv' := [.ref 271, iV l1, iV l2, lV (pl 5000000000000000000 l3 (u.1 288 ((u.1 277 ((6 * l1) + l9)) - 100))), .retAddr 0, lV l5, .retAddr 0, iV l7, iV l8, iV l9, iV (u.1 277 ((6 * l1) + l9))]) (pc := 81) (dec_at lsk_215 (k := 49) rfl) rfl ?_
      refine u_ld (v := iV (u.1 277 ((6 * l1) + l9))) (pc := 82) (dec_at lsk_215 (k := 50) rfl) rfl ?_
      refine u_c (x := 100) (pc := 84) (dec_at lsk_215 (k := 51) rfl) rfl (by decide) ?_
      refine u_icT (pc := 86) (tgt := 118) (dec_at lsk_215 (k := 52) rfl) rfl (ci_lt g8 (by decide)) (fun e17 => absurd e17 e9) (fun _ => ?_)
      refine u_ld (v := .ref 271) (pc := 89) (dec_at lsk_215 (k := 53) rfl) rfl ?_
      refine u_gS (o := 18) (p := 289) (pc := 90) (dec_at lsk_215 (k := 54) rfl) f_12_63 sx_271 rfl rfl ?_
      refine u_ld (v := iV (u.1 277 ((6 * l1) + l9))) (pc := 93) (dec_at lsk_215 (k := 55) rfl) rfl ?_
      refine u_c (x := 100) (pc := 95) (dec_at lsk_215 (k := 56) rfl) rfl (by decide) ?_
      refine u_isub (pc := 97) (dec_at lsk_215 (k := 57) rfl) ?_
      refine u_lald (pc := 98) (dec_at lsk_215 (k := 58) rfl) sx_289 g13 g14 ?_
      refine u_ld (v := lV l5) (pc := 99) (dec_at lsk_215 (k := 59) rfl) rfl ?_
      refine u_st (st' := [.int (lg_cmp (Int64.ofInt (u.1 289 ((u.1 277 ((6 * l1) + l9)) - 100))) (Int64.ofInt l5))]) (pc := 101) (dec_at lsk_215 (k := 60) rfl) rfl ?_
      have g18 := h.1
      have h := h.2
      have g19 := h.1
      have h := h.2
      refine u_ifF (pc := 102) (tgt := 118) (dec_at lsk_215 (k := 61) rfl) rfl (cl_le g18 g19) (fun e20 => ?_) (fun e20 => ?_)
      · have h := ifT e20 h
        refine u_ld (v := .ref 271) (pc := 105) (dec_at lsk_215 (k := 62) rfl) rfl ?_
        refine u_gS (o := 18) (p := 289) (pc := 106) (dec_at lsk_215 (k := 63) rfl) f_12_63 sx_271 rfl rfl ?_
        refine u_ld (v := iV (u.1 277 ((6 * l1) + l9))) (pc := 109) (dec_at lsk_215 (k := 64) rfl) rfl ?_
        refine u_c (x := 100) (pc := 111) (dec_at lsk_215 (k := 65) rfl) rfl (by decide) ?_
        refine u_isub (pc := 113) (dec_at lsk_215 (k := 66) rfl) ?_
        refine u_lald (pc := 114) (dec_at lsk_215 (k := 67) rfl) sx_289 g13 g14 ?_
        refine u_goto (pc := 115) (tgt := 120) (dec_at lsk_215 (k := 68) rfl) rfl ?_
        exact u_weak (sbK (sbK (sbK (sbK (sbK (sbD (sbK (sbK (sbK (sbK (sbK sb0))))))))))) h
      · have h := ifF e20 h
        refine u_ld (v := lV l5) (pc := 118) (dec_at lsk_215 (k := 69) rfl) rfl ?_
        exact u_weak (sbK (sbK (sbK (sbK (sbK (sbD (sbK (sbK (sbK (sbK (sbK sb0))))))))))) h
  · have h := ifF e5 h
    refine u_ld (v := .ref 271) (pc := 192) (dec_at lsk_215 (k := 105) rfl) rfl ?_
    refine u_gS (o := 12) (p := 283) (pc := 193) (dec_at lsk_215 (k := 106) rfl) f_12_43 sx_271 rfl rfl ?_
    refine u_ld (v := iV l2) (pc := 196) (dec_at lsk_215 (k := 107) rfl) rfl ?_
    have g21 := h.1
    have h := h.2
    have g22 := h.1
    have h := h.2
    refine u_zald (pc := 197) (dec_at lsk_215 (k := 108) rfl) sx_283 g21 g22 ?_
    have g23 := h.1
    have h := h.2
    refine u_ifT (pc := 198) (tgt := 254) (dec_at lsk_215 (k := 109) rfl) rfl (c0_eq g23) (fun e24 => ?_) (fun e24 => ?_)
    · have h := ifT e24 h
      refine u_ld (v := iV 1) (pc := 254) (dec_at lsk_215 (k := 140) rfl) rfl ?_
      refine u_goto (pc := 255) (tgt := 259) (dec_at lsk_215 (k := 141) rfl) rfl ?_
      exact u_weak (sbK (sbD (sbK (sbK (sbK (sbK (sbK (sbK (sbK (sbD (sbK sb0))))))))))) h
    · have h := ifF e24 h
      refine u_ld (v := lV l3) (pc := 201) (dec_at lsk_215 (k := 110) rfl) rfl ?_
      refine u_ld (v := .ref 271) (pc := 202) (dec_at lsk_215 (k := 111) rfl) rfl ?_
      refine u_gS (o := 17) (p := 288) (pc := 203) (dec_at lsk_215 (k := 112) rfl) f_12_59 sx_271 rfl rfl ?_
      refine u_ld (v := iV l2) (pc := 206) (dec_at lsk_215 (k := 113) rfl) rfl ?_
      refine u_lald (pc := 207) (dec_at lsk_215 (k := 114) rfl) sx_288 g21 g22 ?_
      refine u_st (st' := [.int (lg_cmp (Int64.ofInt l3) (Int64.ofInt (u.1 288 l2)))]) (pc := 208) (dec_at lsk_215 (k := 115) rfl) rfl ?_
      have g25 := h.1
      have h := h.2
      have g26 := h.1
      have h := h.2
      refine u_ifT (pc := 209) (tgt := 254) (dec_at lsk_215 (k := 116) rfl) rfl (cl_lt g25 g26) (fun e27 => ?_) (fun e27 => ?_)
      · have h := ifT e27 h
        refine u_ld (v := iV 1) (pc := 254) (dec_at lsk_215 (k := 140) rfl) rfl ?_
        refine u_goto (pc := 255) (tgt := 259) (dec_at lsk_215 (k := 141) rfl) rfl ?_
        exact u_weak (sbK (sbD (sbK (sbK (sbK (sbK (sbK (sbK (sbK (sbD (sbK sb0))))))))))) h
      · have h := ifF e27 h
        refine u_ld (v := lV l5) (pc := 212) (dec_at lsk_215 (k := 117) rfl) rfl ?_
        refine u_cl (x := 1) (pc := 214) (dec_at lsk_215 (k := 118) rfl) rfl (by decide) ?_
        refine u_ladd (pc := 215) (dec_at lsk_215 (k := 119) rfl) ?_
        refine u_ld (v := .ref 271) (pc := 216) (dec_at lsk_215 (k := 120) rfl) rfl ?_
        refine u_gS (o := 18) (p := 289) (pc := 217) (dec_at lsk_215 (k := 121) rfl) f_12_63 sx_271 rfl rfl ?_
        refine u_ld (v := iV l2) (pc := 220) (dec_at lsk_215 (k := 122) rfl) rfl ?_
        refine u_lald (pc := 221) (dec_at lsk_215 (k := 123) rfl) sx_289 g21 g22 ?_
        refine u_st (st' := [.int (lg_cmp (Int64.ofInt (l5 + 1)) (Int64.ofInt (u.1 289 l2)))]) (pc := 222) (dec_at lsk_215 (k := 124) rfl) rfl ?_
        have g28 := h.1
        have h := h.2
        have g29 := h.1
        have h := h.2
        refine u_ifT (pc := 223) (tgt := 254) (dec_at lsk_215 (k := 125) rfl) rfl (cl_lt g28 g29) (fun e30 => ?_) (fun e30 => ?_)
        · have h := ifT e30 h
          refine u_ld (v := iV 1) (pc := 254) (dec_at lsk_215 (k := 140) rfl) rfl ?_
          refine u_goto (pc := 255) (tgt := 259) (dec_at lsk_215 (k := 141) rfl) rfl ?_
          exact u_weak (sbK (sbD (sbK (sbK (sbK (sbK (sbK (sbK (sbK (sbD (sbK sb0))))))))))) h
        · have h := ifF e30 h
          refine u_ld (v := iV l7) (pc := 226) (dec_at lsk_215 (k := 126) rfl) rfl ?_
          have g31 := h.1
          have h := h.2
          refine u_ifT (pc := 228) (tgt := 240) (dec_at lsk_215 (k := 127) rfl) rfl (c0_eq g31) (fun e32 => ?_) (fun e32 => ?_)
          · have h := ifT e32 h
            refine u_ld (v := iV l8) (pc := 240) (dec_at lsk_215 (k := 133) rfl) rfl ?_
            have g33 := h.1
            have h := h.2
            refine u_ifT (pc := 242) (tgt := 258) (dec_at lsk_215 (k := 134) rfl) rfl (c0_eq g33) (fun e34 => ?_) (fun e34 => ?_)
            · have h := ifT e34 h
              refine u_ld (v := iV 0) (pc := 258) (dec_at lsk_215 (k := 142) rfl) rfl ?_
              exact u_weak (sbK (sbD (sbK (sbK (sbK (sbK (sbK (sbK (sbK (sbD (sbK sb0))))))))))) h
            · have h := ifF e34 h
              refine u_ld (v := .ref 271) (pc := 245) (dec_at lsk_215 (k := 135) rfl) rfl ?_
              refine u_gS (o := 15) (p := 286) (pc := 246) (dec_at lsk_215 (k := 136) rfl) f_12_53 sx_271 rfl rfl ?_
              refine u_ld (v := iV l2) (pc := 249) (dec_at lsk_215 (k := 137) rfl) rfl ?_
              refine u_zald (pc := 250) (dec_at lsk_215 (k := 138) rfl) sx_286 g21 g22 ?_
              have g35 := h.1
              have h := h.2
              refine u_ifF (pc := 251) (tgt := 258) (dec_at lsk_215 (k := 139) rfl) rfl (c0_ne g35) (fun e36 => ?_) (fun e36 => ?_)
              · have h := ifT e36 h
                refine u_ld (v := iV 1) (pc := 254) (dec_at lsk_215 (k := 140) rfl) rfl ?_
                refine u_goto (pc := 255) (tgt := 259) (dec_at lsk_215 (k := 141) rfl) rfl ?_
                exact u_weak (sbK (sbD (sbK (sbK (sbK (sbK (sbK (sbK (sbK (sbD (sbK sb0))))))))))) h
              · have h := ifF e36 h
                refine u_ld (v := iV 0) (pc := 258) (dec_at lsk_215 (k := 142) rfl) rfl ?_
                exact u_weak (sbK (sbD (sbK (sbK (sbK (sbK (sbK (sbK (sbK (sbD (sbK sb0))))))))))) h
          · have h := ifF e32 h
            refine u_ld (v := .ref 271) (pc := 231) (dec_at lsk_215 (k := 128) rfl) rfl ?_
            refine u_gS (o := 14) (p := 285) (pc := 232) (dec_at lsk_215 (k := 129) rfl) f_12_50 sx_271 rfl rfl ?_
            refine u_ld (v := iV l2) (pc := 235) (dec_at lsk_215 (k := 130) rfl) rfl ?_
            refine u_zald (pc := 236) (dec_at lsk_215 (k := 131) rfl) sx_285 g21 g22 ?_
            have g37 := h.1
            have h := h.2
            refine u_ifT (pc := 237) (tgt := 254) (dec_at lsk_215 (k := 132) rfl) rfl (c0_eq g37) (fun e38 => ?_) (fun e38 => ?_)
            · have h := ifT e38 h
              refine u_ld (v := iV 1) (pc := 254) (dec_at lsk_215 (k := 140) rfl) rfl ?_
              refine u_goto (pc := 255) (tgt := 259) (dec_at lsk_215 (k := 141) rfl) rfl ?_
              exact u_weak (sbK (sbD (sbK (sbK (sbK (sbK (sbK (sbK (sbK (sbD (sbK sb0))))))))))) h
            · have h := ifF e38 h
              refine u_ld (v := iV l8) (pc := 240) (dec_at lsk_215 (k := 133) rfl) rfl ?_
              have g39 := h.1
              have h := h.2
              refine u_ifT (pc := 242) (tgt := 258) (dec_at lsk_215 (k := 134) rfl) rfl (c0_eq g39) (fun e40 => ?_) (fun e40 => ?_)
              · have h := ifT e40 h
                refine u_ld (v := iV 0) (pc := 258) (dec_at lsk_215 (k := 142) rfl) rfl ?_
                exact u_weak (sbK (sbD (sbK (sbK (sbK (sbK (sbK (sbK (sbK (sbD (sbK sb0))))))))))) h
              · have h := ifF e40 h
                refine u_ld (v := .ref 271) (pc := 245) (dec_at lsk_215 (k := 135) rfl) rfl ?_
                refine u_gS (o := 15) (p := 286) (pc := 246) (dec_at lsk_215 (k := 136) rfl) f_12_53 sx_271 rfl rfl ?_
                refine u_ld (v := iV l2) (pc := 249) (dec_at lsk_215 (k := 137) rfl) rfl ?_
                refine u_zald (pc := 250) (dec_at lsk_215 (k := 138) rfl) sx_286 g21 g22 ?_
                have g41 := h.1
                have h := h.2
                refine u_ifF (pc := 251) (tgt := 258) (dec_at lsk_215 (k := 139) rfl) rfl (c0_ne g41) (fun e42 => ?_) (fun e42 => ?_)
                · have h := ifT e42 h
                  refine u_ld (v := iV 1) (pc := 254) (dec_at lsk_215 (k := 140) rfl) rfl ?_
                  refine u_goto (pc := 255) (tgt := 259) (dec_at lsk_215 (k := 141) rfl) rfl ?_
                  exact u_weak (sbK (sbD (sbK (sbK (sbK (sbK (sbK (sbK (sbK (sbD (sbK sb0))))))))))) h
                · have h := ifF e42 h
                  refine u_ld (v := iV 0) (pc := 258) (dec_at lsk_215 (k := 142) rfl) rfl ?_
                  exact u_weak (sbK (sbD (sbK (sbK (sbK (sbK (sbK (sbK (sbK (sbD (sbK sb0))))))))))) h
theorem k_215_120 {d : Nat} {Q : Int → uS → Prop} {u : uS} {l1 l2 l3 l7 l8 l9 l10 s0 : Int} (h : (rI l7) ∧ (if l7 = 0 then (K_215 (d + 1) 151 [.ref 271, iV l1, iV l2, lV l3, .retAddr 0, lV s0, .retAddr 0, .retAddr 0, iV l8, iV l9, iV l10] [] u Q) else ((rI l10) ∧ (if l10 < 100 then (K_215 (d + 1) 151 [.ref 271, iV l1, iV l2, lV l3, .retAddr 0, lV s0, .retAddr 0, .retAddr 0, iV l8, iV l9, iV l10] [] u Q) else ((0 ≤ l10 - 100) ∧ ((l10 - 100 < 10) ∧ ((rI (u.1 285 (l10 - 100))) ∧ (if u.1 285 (l10 - 100) = 0 then (K_215 (d + 1) 151 [.ref 271, iV l1, iV l2, lV l3, .retAddr 0, lV s0, .retAddr 0, .retAddr 0, iV l8, iV l9, iV l10] [] u Q) else ((rI l8) ∧ (if l8 = 0 then ((rI (u.1 286 (l10 - 100))) ∧ (if u.1 286 (l10 - 100) = 0 then (K_215 (d + 1) 31 [.ref 271, iV l1, iV l2, lV l3, .retAddr 0, lV s0, .retAddr 0, iV 1, iV 0, iV (l9 + 1), .retAddr 0] [] u Q) else (K_215 (d + 1) 31 [.ref 271, iV l1, iV l2, lV l3, .retAddr 0, lV s0, .retAddr 0, iV 1, iV 1, iV (l9 + 1), .retAddr 0] [] u Q))) else (K_215 (d + 1) 31 [.ref 271, iV l1, iV l2, lV l3, .retAddr 0, lV s0, .retAddr 0, iV 1, iV 1, iV (l9 + 1), .retAddr 0] [] u Q))))))))))) : K_215 (d + 1) 120 [.ref 271, iV l1, iV l2, lV l3, .retAddr 0, .retAddr 0, .retAddr 0, iV l7, iV l8, iV l9, iV l10] [lV s0] u Q := by
  unfold K_215
  refine u_sto (lv' := [.ref 271, iV l1, iV l2, lV l3, .retAddr 0, lV s0, .retAddr 0, iV l7, iV l8, iV l9, iV l10]) (pc := 120) (dec_at lsk_215 (k := 70) rfl) rfl ?_
  refine u_ld (v := iV l7) (pc := 122) (dec_at lsk_215 (k := 71) rfl) rfl ?_
  have g1 := h.1
  have h := h.2
  refine u_ifT (pc := 124) (tgt := 151) (dec_at lsk_215 (k := 72) rfl) rfl (c0_eq g1) (fun e2 => ?_) (fun e2 => ?_)
  · have h := ifT e2 h
    exact u_weak (sbK (sbK (sbK (sbK (sbK (sbK (sbK (sbD (sbK (sbK (sbK sb0))))))))))) h
  · have h := ifF e2 h
    refine u_ld (v := iV l10) (pc := 127) (dec_at lsk_215 (k := 73) rfl) rfl ?_
    refine u_c (x := 100) (pc := 129) (dec_at lsk_215 (k := 74) rfl) rfl (by decide) ?_
    have g3 := h.1
    have h := h.2
    refine u_icT (pc := 131) (tgt := 151) (dec_at lsk_215 (k := 75) rfl) rfl (ci_lt g3 (by decide)) (fun e4 => ?_) (fun e4 => ?_)
    · have h := ifT e4 h
      exact u_weak (sbK (sbK (sbK (sbK (sbK (sbK (sbK (sbD (sbK (sbK (sbK sb0))))))))))) h
    · have h := ifF e4 h
      refine u_ld (v := .ref 271) (pc := 134) (dec_at lsk_215 (k := 76) rfl) rfl ?_
      refine u_gS (o := 14) (p := 285) (pc := 135) (dec_at lsk_215 (k := 77) rfl) f_12_50 sx_271 rfl rfl ?_
      refine u_ld (v := iV l10) (pc := 138) (dec_at lsk_215 (k := 78) rfl) rfl ?_
      refine u_c (x := 100) (pc := 140) (dec_at lsk_215 (k := 79) rfl) rfl (by decide) ?_
      refine u_isub (pc := 142) (dec_at lsk_215 (k := 80) rfl) ?_
      have g5 := h.1
      have h := h.2
      have g6 := h.1
      have h := h.2
      refine u_zald (pc := 143) (dec_at lsk_215 (k := 81) rfl) sx_285 g5 g6 ?_
      have g7 := h.1
      have h := h.2
      refine u_ifT (pc := 144) (tgt := 151) (dec_at lsk_215 (k := 82) rfl) rfl (c0_eq g7) (fun e8 => ?_) (fun e8 => ?_)
      · have h := ifT e8 h
        exact u_weak (sbK (sbK (sbK (sbK (sbK (sbK (sbK (sbD (sbK (sbK (sbK sb0))))))))))) h
      · have h := ifF e8 h
        refine u_ld (v := iV 1) (pc := 147) (dec_at lsk_215 (k := 83) rfl) rfl ?_
        refine u_goto (pc := 148) (tgt := 152) (dec_at lsk_215 (k := 84) rfl) rfl ?_
        refine u_sto (lv' := [.ref 271, iV l1, iV l2, lV l3, .retAddr 0, lV s0, .retAddr 0, iV 1, iV l8, iV l9, iV l10]) (pc := 152) (dec_at lsk_215 (k := 86) rfl) rfl ?_
        refine u_ld (v := iV l8) (pc := 154) (dec_at lsk_215 (k := 87) rfl) rfl ?_
        have g9 := h.1
        have h := h.2
        refine u_ifF (pc := 156) (tgt := 179) (dec_at lsk_215 (k := 88) rfl) rfl (c0_ne g9) (fun e10 => ?_) (fun e10 => ?_)
        · have h := ifT e10 h
          refine u_ld (v := iV l10) (pc := 159) (dec_at lsk_215 (k := 89) rfl) rfl ?_
          refine u_c (x := 100) (pc := 161) (dec_at lsk_215 (k := 90) rfl) rfl (by decide) ?_
          refine u_icT (pc := 163) (tgt := 179) (dec_at lsk_215 (k := 91) rfl) rfl (ci_lt g3 (by decide)) (fun e11 => absurd e11 e4) (fun _ => ?_)
          refine u_ld (v := .ref 271) (pc := 166) (dec_at lsk_215 (k := 92) rfl) rfl ?_
          refine u_gS (o := 15) (p := 286) (pc := 167) (dec_at lsk_215 (k := 93) rfl) f_12_53 sx_271 rfl rfl ?_
          refine u_ld (v := iV l10) (pc := 170) (dec_at lsk_215 (k := 94) rfl) rfl ?_
          refine u_c (x := 100) (pc := 172) (dec_at lsk_215 (k := 95) rfl) rfl (by decide) ?_
          refine u_isub (pc := 174) (dec_at lsk_215 (k := 96) rfl) ?_
          refine u_zald (pc := 175) (dec_at lsk_215 (k := 97) rfl) sx_286 g5 g6 ?_
          have g12 := h.1
          have h := h.2
          refine u_ifT (pc := 176) (tgt := 183) (dec_at lsk_215 (k := 98) rfl) rfl (c0_eq g12) (fun e13 => ?_) (fun e13 => ?_)
          · have h := ifT e13 h
            refine u_ld (v := iV 0) (pc := 183) (dec_at lsk_215 (k := 101) rfl) rfl ?_
            refine u_sto (lv' := [.ref 271, iV l1, iV l2, lV l3, .retAddr 0, lV s0, .retAddr 0, iV 1, iV 0, iV l9, iV l10]) (pc := 184) (dec_at lsk_215 (k := 102) rfl) rfl ?_
            refine u_inc (lv' := [.ref 271, iV l1, iV l2, lV l3, .retAddr 0, lV s0, .retAddr 0, iV 1, iV 0, iV (l9 + 1), iV l10]) (pc := 186) (dec_at lsk_215 (k := 103) rfl) rfl (by decide) rfl ?_
            refine u_goto (pc := 189) (tgt := 31) (dec_at lsk_215 (k := 104) rfl) rfl ?_
            exact u_weak (sbK (sbK (sbK (sbK (sbK (sbK (sbK (sbK (sbK (sbK (sbD sb0))))))))))) h
          · have h := ifF e13 h
            refine u_ld (v := iV 1) (pc := 179) (dec_at lsk_215 (k := 99) rfl) rfl ?_
            refine u_goto (pc := 180) (tgt := 184) (dec_at lsk_215 (k := 100) rfl) rfl ?_
            refine u_sto (lv' := [.ref 271, iV l1, iV l2, lV l3, .retAddr 0, lV s0, .retAddr 0, iV 1, iV 1, iV l9, iV l10]) (pc := 184) (dec_at lsk_215 (k := 102) rfl) rfl ?_
            refine u_inc (lv' := [.ref 271, iV l1, iV l2, lV l3, .retAddr 0, lV s0, .retAddr 0, iV 1, iV 1, iV (l9 + 1), iV l10]) (pc := 186) (dec_at lsk_215 (k := 103) rfl) rfl (by decide) rfl ?_
            refine u_goto (pc := 189) (tgt := 31) (dec_at lsk_215 (k := 104) rfl) rfl ?_
            exact u_weak (sbK (sbK (sbK (sbK (sbK (sbK (sbK (sbK (sbK (sbK (sbD sb0))))))))))) h
        · have h := ifF e10 h
          refine u_ld (v := iV 1) (pc := 179) (dec_at lsk_215 (k := 99) rfl) rfl ?_
          refine u_goto (pc := 180) (tgt := 184) (dec_at lsk_215 (k := 100) rfl) rfl ?_
          refine u_sto (lv' := [.ref 271, iV l1, iV l2, lV l3, .retAddr 0, lV s0, .retAddr 0, iV 1, iV 1, iV l9, iV l10]) (pc := 184) (dec_at lsk_215 (k := 102) rfl) rfl ?_
          refine u_inc (lv' := [.ref 271, iV l1, iV l2, lV l3, .retAddr 0, lV s0, .retAddr 0, iV 1, iV 1, iV (l9 + 1), iV l10]) (pc := 186) (dec_at lsk_215 (k := 103) rfl) rfl (by decide) rfl ?_
          refine u_goto (pc := 189) (tgt := 31) (dec_at lsk_215 (k := 104) rfl) rfl ?_
          exact u_weak (sbK (sbK (sbK (sbK (sbK (sbK (sbK (sbK (sbK (sbK (sbD sb0))))))))))) h
theorem k_215_151 {d : Nat} {Q : Int → uS → Prop} {u : uS} {l1 l2 l3 l5 l8 l9 l10 : Int} (h : (rI l8) ∧ (if l8 = 0 then ((rI l10) ∧ (if l10 < 100 then (K_215 (d + 1) 31 [.ref 271, iV l1, iV l2, lV l3, .retAddr 0, lV l5, .retAddr 0, iV 0, iV 1, iV (l9 + 1), .retAddr 0] [] u Q) else ((0 ≤ l10 - 100) ∧ ((l10 - 100 < 10) ∧ ((rI (u.1 286 (l10 - 100))) ∧ (if u.1 286 (l10 - 100) = 0 then (K_215 (d + 1) 31 [.ref 271, iV l1, iV l2, lV l3, .retAddr 0, lV l5, .retAddr 0, iV 0, iV 0, iV (l9 + 1), .retAddr 0] [] u Q) else (K_215 (d + 1) 31 [.ref 271, iV l1, iV l2, lV l3, .retAddr 0, lV l5, .retAddr 0, iV 0, iV 1, iV (l9 + 1), .retAddr 0] [] u Q))))))) else (K_215 (d + 1) 31 [.ref 271, iV l1, iV l2, lV l3, .retAddr 0, lV l5, .retAddr 0, iV 0, iV 1, iV (l9 + 1), .retAddr 0] [] u Q))) : K_215 (d + 1) 151 [.ref 271, iV l1, iV l2, lV l3, .retAddr 0, lV l5, .retAddr 0, .retAddr 0, iV l8, iV l9, iV l10] [] u Q := by
  unfold K_215
  refine u_ld (v := iV 0) (pc := 151) (dec_at lsk_215 (k := 85) rfl) rfl ?_
  refine u_sto (lv' := [.ref 271, iV l1, iV l2, lV l3, .retAddr 0, lV l5, .retAddr 0, iV 0, iV l8, iV l9, iV l10]) (pc := 152) (dec_at lsk_215 (k := 86) rfl) rfl ?_
  refine u_ld (v := iV l8) (pc := 154) (dec_at lsk_215 (k := 87) rfl) rfl ?_
  have g1 := h.1
  have h := h.2
  refine u_ifF (pc := 156) (tgt := 179) (dec_at lsk_215 (k := 88) rfl) rfl (c0_ne g1) (fun e2 => ?_) (fun e2 => ?_)
  · have h := ifT e2 h
    refine u_ld (v := iV l10) (pc := 159) (dec_at lsk_215 (k := 89) rfl) rfl ?_
    refine u_c (x := 100) (pc := 161) (dec_at lsk_215 (k := 90) rfl) rfl (by decide) ?_
    have g3 := h.1
    have h := h.2
    refine u_icT (pc := 163) (tgt := 179) (dec_at lsk_215 (k := 91) rfl) rfl (ci_lt g3 (by decide)) (fun e4 => ?_) (fun e4 => ?_)
    · have h := ifT e4 h
      refine u_ld (v := iV 1) (pc := 179) (dec_at lsk_215 (k := 99) rfl) rfl ?_
      refine u_goto (pc := 180) (tgt := 184) (dec_at lsk_215 (k := 100) rfl) rfl ?_
      refine u_sto (lv' := [.ref 271, iV l1, iV l2, lV l3, .retAddr 0, lV l5, .retAddr 0, iV 0, iV 1, iV l9, iV l10]) (pc := 184) (dec_at lsk_215 (k := 102) rfl) rfl ?_
      refine u_inc (lv' := [.ref 271, iV l1, iV l2, lV l3, .retAddr 0, lV l5, .retAddr 0, iV 0, iV 1, iV (l9 + 1), iV l10]) (pc := 186) (dec_at lsk_215 (k := 103) rfl) rfl (by decide) rfl ?_
      refine u_goto (pc := 189) (tgt := 31) (dec_at lsk_215 (k := 104) rfl) rfl ?_
      exact u_weak (sbK (sbK (sbK (sbK (sbK (sbK (sbK (sbK (sbK (sbK (sbD sb0))))))))))) h
    · have h := ifF e4 h
      refine u_ld (v := .ref 271) (pc := 166) (dec_at lsk_215 (k := 92) rfl) rfl ?_
      refine u_gS (o := 15) (p := 286) (pc := 167) (dec_at lsk_215 (k := 93) rfl) f_12_53 sx_271 rfl rfl ?_
      refine u_ld (v := iV l10) (pc := 170) (dec_at lsk_215 (k := 94) rfl) rfl ?_
      refine u_c (x := 100) (pc := 172) (dec_at lsk_215 (k := 95) rfl) rfl (by decide) ?_
      refine u_isub (pc := 174) (dec_at lsk_215 (k := 96) rfl) ?_
      have g5 := h.1
      have h := h.2
      have g6 := h.1
      have h := h.2
      refine u_zald (pc := 175) (dec_at lsk_215 (k := 97) rfl) sx_286 g5 g6 ?_
      have g7 := h.1
      have h := h.2
      refine u_ifT (pc := 176) (tgt := 183) (dec_at lsk_215 (k := 98) rfl) rfl (c0_eq g7) (fun e8 => ?_) (fun e8 => ?_)
      · have h := ifT e8 h
        refine u_ld (v := iV 0) (pc := 183) (dec_at lsk_215 (k := 101) rfl) rfl ?_
        refine u_sto (lv' := [.ref 271, iV l1, iV l2, lV l3, .retAddr 0, lV l5, .retAddr 0, iV 0, iV 0, iV l9, iV l10]) (pc := 184) (dec_at lsk_215 (k := 102) rfl) rfl ?_
        refine u_inc (lv' := [.ref 271, iV l1, iV l2, lV l3, .retAddr 0, lV l5, .retAddr 0, iV 0, iV 0, iV (l9 + 1), iV l10]) (pc := 186) (dec_at lsk_215 (k := 103) rfl) rfl (by decide) rfl ?_
        refine u_goto (pc := 189) (tgt := 31) (dec_at lsk_215 (k := 104) rfl) rfl ?_
        exact u_weak (sbK (sbK (sbK (sbK (sbK (sbK (sbK (sbK (sbK (sbK (sbD sb0))))))))))) h
      · have h := ifF e8 h
        refine u_ld (v := iV 1) (pc := 179) (dec_at lsk_215 (k := 99) rfl) rfl ?_
        refine u_goto (pc := 180) (tgt := 184) (dec_at lsk_215 (k := 100) rfl) rfl ?_
        refine u_sto (lv' := [.ref 271, iV l1, iV l2, lV l3, .retAddr 0, lV l5, .retAddr 0, iV 0, iV 1, iV l9, iV l10]) (pc := 184) (dec_at lsk_215 (k := 102) rfl) rfl ?_
        refine u_inc (lv' := [.ref 271, iV l1, iV l2, lV l3, .retAddr 0, lV l5, .retAddr 0, iV 0, iV 1, iV (l9 + 1), iV l10]) (pc := 186) (dec_at lsk_215 (k := 103) rfl) rfl (by decide) rfl ?_
        refine u_goto (pc := 189) (tgt := 31) (dec_at lsk_215 (k := 104) rfl) rfl ?_
        exact u_weak (sbK (sbK (sbK (sbK (sbK (sbK (sbK (sbK (sbK (sbK (sbD sb0))))))))))) h
  · have h := ifF e2 h
    refine u_ld (v := iV 1) (pc := 179) (dec_at lsk_215 (k := 99) rfl) rfl ?_
    refine u_goto (pc := 180) (tgt := 184) (dec_at lsk_215 (k := 100) rfl) rfl ?_
    refine u_sto (lv' := [.ref 271, iV l1, iV l2, lV l3, .retAddr 0, lV l5, .retAddr 0, iV 0, iV 1, iV l9, iV l10]) (pc := 184) (dec_at lsk_215 (k := 102) rfl) rfl ?_
    refine u_inc (lv' := [.ref 271, iV l1, iV l2, lV l3, .retAddr 0, lV l5, .retAddr 0, iV 0, iV 1, iV (l9 + 1), iV l10]) (pc := 186) (dec_at lsk_215 (k := 103) rfl) rfl (by decide) rfl ?_
    refine u_goto (pc := 189) (tgt := 31) (dec_at lsk_215 (k := 104) rfl) rfl ?_
    exact u_weak (sbK (sbK (sbK (sbK (sbK (sbK (sbK (sbK (sbK (sbK (sbD sb0))))))))))) h
theorem k_215_259 {d : Nat} {Q : Int → uS → Prop} {u : uS} {l2 l3 l5 l7 l8 s0 : Int} (h : (0 ≤ l2) ∧ ((l2 < 10) ∧ (∀ u3 : uS, u3 = wr u 283 l2 1 → ((rL l3) ∧ ((rL (u3.1 288 l2)) ∧ (if l3 < u3.1 288 l2 then (∀ u8 : uS, u8 = wr u3 288 l2 l3 → ((rL (l5 + 1)) ∧ ((rL (u8.1 289 l2)) ∧ (if l5 + 1 < u8.1 289 l2 then (K_215 (d + 1) 327 [.ref 271, .retAddr 0, iV l2, .retAddr 0, .retAddr 0, .retAddr 0, .retAddr 0, iV l7, iV l8, iV s0, .retAddr 0] [lV (l5 + 1), iV l2, .ref 289] u8 Q) else (K_215 (d + 1) 327 [.ref 271, .retAddr 0, iV l2, .retAddr 0, .retAddr 0, .retAddr 0, .retAddr 0, iV l7, iV l8, iV s0, .retAddr 0] [lV (u8.1 289 l2), iV l2, .ref 289] u8 Q))))) else (∀ u13 : uS, u13 = wr u3 288 l2 (u3.1 288 l2) → ((rL (l5 + 1)) ∧ ((rL (u13.1 289 l2)) ∧ (if l5 + 1 < u13.1 289 l2 then (K_215 (d + 1) 327 [.ref 271, .retAddr 0, iV l2, .retAddr 0, .retAddr 0, .retAddr 0, .retAddr 0, iV l7, iV l8, iV s0, .retAddr 0] [lV (l5 + 1), iV l2, .ref 289] u13 Q) else (K_215 (d + 1) 327 [.ref 271, .retAddr 0, iV l2, .retAddr 0, .retAddr 0, .retAddr 0, .retAddr 0, iV l7, iV l8, iV s0, .retAddr 0] [lV (u13.1 289 l2), iV l2, .ref 289] u13 Q))))))))))) : K_215 (d + 1) 259 [.ref 271, .retAddr 0, iV l2, lV l3, .retAddr 0, lV l5, .retAddr 0, iV l7, iV l8, .retAddr 0, .retAddr 0] [iV s0] u Q := by
  unfold K_215
  refine u_sto (lv' := [.ref 271, .retAddr 0, iV l2, lV l3, .retAddr 0, lV l5, .retAddr 0, iV l7, iV l8, iV s0, .retAddr 0]) (pc := 259) (dec_at lsk_215 (k := 143) rfl) rfl ?_
  refine u_ld (v := .ref 271) (pc := 261) (dec_at lsk_215 (k := 144) rfl) rfl ?_
  refine u_gS (o := 12) (p := 283) (pc := 262) (dec_at lsk_215 (k := 145) rfl) f_12_43 sx_271 rfl rfl ?_
  refine u_ld (v := iV l2) (pc := 265) (dec_at lsk_215 (k := 146) rfl) rfl ?_
  refine u_ld (v := iV 1) (pc := 266) (dec_at lsk_215 (k := 147) rfl) rfl ?_
  have g1 := h.1
  have h := h.2
  have g2 := h.1
  have h := h.2
  refine u_zast (pc := 267) (dec_at lsk_215 (k := 148) rfl) sx_283 g1 g2 (by decide) (fun u3 e4 => ?_)
  have h := h u3 e4
  refine u_ld (v := .ref 271) (pc := 268) (dec_at lsk_215 (k := 149) rfl) rfl ?_
  refine u_gS (o := 17) (p := 288) (pc := 269) (dec_at lsk_215 (k := 150) rfl) f_12_59 sx_271 rfl rfl ?_
  refine u_ld (v := iV l2) (pc := 272) (dec_at lsk_215 (k := 151) rfl) rfl ?_
  refine u_ld (v := lV l3) (pc := 273) (dec_at lsk_215 (k := 152) rfl) rfl ?_
  refine u_ld (v := .ref 271) (pc := 274) (dec_at lsk_215 (k := 153) rfl) rfl ?_
  refine u_gS (o := 17) (p := 288) (pc := 275) (dec_at lsk_215 (k := 154) rfl) f_12_59 sx_271 rfl rfl ?_
  refine u_ld (v := iV l2) (pc := 278) (dec_at lsk_215 (k := 155) rfl) rfl ?_
  refine u_lald (pc := 279) (dec_at lsk_215 (k := 156) rfl) sx_288 g1 g2 ?_
  refine u_st (st' := [.int (lg_cmp (Int64.ofInt l3) (Int64.ofInt (u3.1 288 l2))), iV l2, .ref 288]) (pc := 280) (dec_at lsk_215 (k := 157) rfl) rfl ?_
  have g5 := h.1
  have h := h.2
  have g6 := h.1
  have h := h.2
  refine u_ifF (pc := 281) (tgt := 288) (dec_at lsk_215 (k := 158) rfl) rfl (cl_ge g5 g6) (fun e7 => ?_) (fun e7 => ?_)
  · have h := ifT e7 h
    refine u_ld (v := lV l3) (pc := 284) (dec_at lsk_215 (k := 159) rfl) rfl ?_
    refine u_goto (pc := 285) (tgt := 294) (dec_at lsk_215 (k := 160) rfl) rfl ?_
    refine u_last (pc := 294) (dec_at lsk_215 (k := 165) rfl) sx_288 g1 g2 (fun u8 e9 => ?_)
    have h := h u8 e9
    refine u_ld (v := .ref 271) (pc := 295) (dec_at lsk_215 (k := 166) rfl) rfl ?_
    refine u_gS (o := 18) (p := 289) (pc := 296) (dec_at lsk_215 (k := 167) rfl) f_12_63 sx_271 rfl rfl ?_
    refine u_ld (v := iV l2) (pc := 299) (dec_at lsk_215 (k := 168) rfl) rfl ?_
    refine u_ld (v := lV l5) (pc := 300) (dec_at lsk_215 (k := 169) rfl) rfl ?_
    refine u_cl (x := 1) (pc := 302) (dec_at lsk_215 (k := 170) rfl) rfl (by decide) ?_
    refine u_ladd (pc := 303) (dec_at lsk_215 (k := 171) rfl) ?_
    refine u_ld (v := .ref 271) (pc := 304) (dec_at lsk_215 (k := 172) rfl) rfl ?_
    refine u_gS (o := 18) (p := 289) (pc := 305) (dec_at lsk_215 (k := 173) rfl) f_12_63 sx_271 rfl rfl ?_
    refine u_ld (v := iV l2) (pc := 308) (dec_at lsk_215 (k := 174) rfl) rfl ?_
    refine u_lald (pc := 309) (dec_at lsk_215 (k := 175) rfl) sx_289 g1 g2 ?_
    refine u_st (st' := [.int (lg_cmp (Int64.ofInt (l5 + 1)) (Int64.ofInt (u8.1 289 l2))), iV l2, .ref 289]) (pc := 310) (dec_at lsk_215 (k := 176) rfl) rfl ?_
    have g10 := h.1
    have h := h.2
    have g11 := h.1
    have h := h.2
    refine u_ifF (pc := 311) (tgt := 321) (dec_at lsk_215 (k := 177) rfl) rfl (cl_ge g10 g11) (fun e12 => ?_) (fun e12 => ?_)
    · have h := ifT e12 h
      refine u_ld (v := lV l5) (pc := 314) (dec_at lsk_215 (k := 178) rfl) rfl ?_
      refine u_cl (x := 1) (pc := 316) (dec_at lsk_215 (k := 179) rfl) rfl (by decide) ?_
      refine u_ladd (pc := 317) (dec_at lsk_215 (k := 180) rfl) ?_
      refine u_goto (pc := 318) (tgt := 327) (dec_at lsk_215 (k := 181) rfl) rfl ?_
      exact u_weak (sbK (sbK (sbK (sbD (sbK (sbD (sbK (sbK (sbK (sbK (sbK sb0))))))))))) h
    · have h := ifF e12 h
      refine u_ld (v := .ref 271) (pc := 321) (dec_at lsk_215 (k := 182) rfl) rfl ?_
      refine u_gS (o := 18) (p := 289) (pc := 322) (dec_at lsk_215 (k := 183) rfl) f_12_63 sx_271 rfl rfl ?_
      refine u_ld (v := iV l2) (pc := 325) (dec_at lsk_215 (k := 184) rfl) rfl ?_
      refine u_lald (pc := 326) (dec_at lsk_215 (k := 185) rfl) sx_289 g1 g2 ?_
      exact u_weak (sbK (sbK (sbK (sbD (sbK (sbD (sbK (sbK (sbK (sbK (sbK sb0))))))))))) h
  · have h := ifF e7 h
    refine u_ld (v := .ref 271) (pc := 288) (dec_at lsk_215 (k := 161) rfl) rfl ?_
    refine u_gS (o := 17) (p := 288) (pc := 289) (dec_at lsk_215 (k := 162) rfl) f_12_59 sx_271 rfl rfl ?_
    refine u_ld (v := iV l2) (pc := 292) (dec_at lsk_215 (k := 163) rfl) rfl ?_
    refine u_lald (pc := 293) (dec_at lsk_215 (k := 164) rfl) sx_288 g1 g2 ?_
    refine u_last (pc := 294) (dec_at lsk_215 (k := 165) rfl) sx_288 g1 g2 (fun u13 e14 => ?_)
    have h := h u13 e14
    refine u_ld (v := .ref 271) (pc := 295) (dec_at lsk_215 (k := 166) rfl) rfl ?_
    refine u_gS (o := 18) (p := 289) (pc := 296) (dec_at lsk_215 (k := 167) rfl) f_12_63 sx_271 rfl rfl ?_
    refine u_ld (v := iV l2) (pc := 299) (dec_at lsk_215 (k := 168) rfl) rfl ?_
    refine u_ld (v := lV l5) (pc := 300) (dec_at lsk_215 (k := 169) rfl) rfl ?_
    refine u_cl (x := 1) (pc := 302) (dec_at lsk_215 (k := 170) rfl) rfl (by decide) ?_
    refine u_ladd (pc := 303) (dec_at lsk_215 (k := 171) rfl) ?_
    refine u_ld (v := .ref 271) (pc := 304) (dec_at lsk_215 (k := 172) rfl) rfl ?_
    refine u_gS (o := 18) (p := 289) (pc := 305) (dec_at lsk_215 (k := 173) rfl) f_12_63 sx_271 rfl rfl ?_
    refine u_ld (v := iV l2) (pc := 308) (dec_at lsk_215 (k := 174) rfl) rfl ?_
    refine u_lald (pc := 309) (dec_at lsk_215 (k := 175) rfl) sx_289 g1 g2 ?_
    refine u_st (st' := [.int (lg_cmp (Int64.ofInt (l5 + 1)) (Int64.ofInt (u13.1 289 l2))), iV l2, .ref 289]) (pc := 310) (dec_at lsk_215 (k := 176) rfl) rfl ?_
    have g15 := h.1
    have h := h.2
    have g16 := h.1
    have h := h.2
    refine u_ifF (pc := 311) (tgt := 321) (dec_at lsk_215 (k := 177) rfl) rfl (cl_ge g15 g16) (fun e17 => ?_) (fun e17 => ?_)
    · have h := ifT e17 h
      refine u_ld (v := lV l5) (pc := 314) (dec_at lsk_215 (k := 178) rfl) rfl ?_
      refine u_cl (x := 1) (pc := 316) (dec_at lsk_215 (k := 179) rfl) rfl (by decide) ?_
      refine u_ladd (pc := 317) (dec_at lsk_215 (k := 180) rfl) ?_
      refine u_goto (pc := 318) (tgt := 327) (dec_at lsk_215 (k := 181) rfl) rfl ?_
      exact u_weak (sbK (sbK (sbK (sbD (sbK (sbD (sbK (sbK (sbK (sbK (sbK sb0))))))))))) h
    · have h := ifF e17 h
      refine u_ld (v := .ref 271) (pc := 321) (dec_at lsk_215 (k := 182) rfl) rfl ?_
      refine u_gS (o := 18) (p := 289) (pc := 322) (dec_at lsk_215 (k := 183) rfl) f_12_63 sx_271 rfl rfl ?_
      refine u_ld (v := iV l2) (pc := 325) (dec_at lsk_215 (k := 184) rfl) rfl ?_
      refine u_lald (pc := 326) (dec_at lsk_215 (k := 185) rfl) sx_289 g1 g2 ?_
      exact u_weak (sbK (sbK (sbK (sbD (sbK (sbD (sbK (sbK (sbK (sbK (sbK sb0))))))))))) h
theorem k_215_327 {d : Nat} {Q : Int → uS → Prop} {u : uS} {s0 : Nat} {l2 l7 l8 l9 s1 s2 : Int} {ns0 : Nat} (hAs0 : isA s0 1 ns0) (h : (0 ≤ s1) ∧ ((s1 < (ns0 : Int)) ∧ (∀ u3 : uS, u3 = wr u s0 s1 s2 → ((0 ≤ l2) ∧ ((l2 < 10) ∧ ((rI (u3.1 285 l2)) ∧ (if u3.1 285 l2 = 0 then ((rI l7) ∧ (if l7 = 0 then (∀ u11 : uS, u11 = wr u3 285 l2 0 → ((rI (u11.1 286 l2)) ∧ (if u11.1 286 l2 = 0 then ((rI l8) ∧ (if l8 = 0 then (∀ u17 : uS, u17 = wr u11 286 l2 0 → ((l9 = 0 ∨ l9 = 1) ∧ (Q l9 u17))) else (∀ u20 : uS, u20 = wr u11 286 l2 1 → ((l9 = 0 ∨ l9 = 1) ∧ (Q l9 u20))))) else (∀ u23 : uS, u23 = wr u11 286 l2 1 → ((l9 = 0 ∨ l9 = 1) ∧ (Q l9 u23)))))) else (∀ u26 : uS, u26 = wr u3 285 l2 1 → ((rI (u26.1 286 l2)) ∧ (if u26.1 286 l2 = 0 then ((rI l8) ∧ (if l8 = 0 then (∀ u32 : uS, u32 = wr u26 286 l2 0 → ((l9 = 0 ∨ l9 = 1) ∧ (Q l9 u32))) else (∀ u35 : uS, u35 = wr u26 286 l2 1 → ((l9 = 0 ∨ l9 = 1) ∧ (Q l9 u35))))) else (∀ u38 : uS, u38 = wr u26 286 l2 1 → ((l9 = 0 ∨ l9 = 1) ∧ (Q l9 u38)))))))) else (∀ u41 : uS, u41 = wr u3 285 l2 1 → ((rI (u41.1 286 l2)) ∧ (if u41.1 286 l2 = 0 then ((rI l8) ∧ (if l8 = 0 then (∀ u47 : uS, u47 = wr u41 286 l2 0 → ((l9 = 0 ∨ l9 = 1) ∧ (Q l9 u47))) else (∀ u50 : uS, u50 = wr u41 286 l2 1 → ((l9 = 0 ∨ l9 = 1) ∧ (Q l9 u50))))) else (∀ u53 : uS, u53 = wr u41 286 l2 1 → ((l9 = 0 ∨ l9 = 1) ∧ (Q l9 u53))))))))))))) : K_215 (d + 1) 327 [.ref 271, .retAddr 0, iV l2, .retAddr 0, .retAddr 0, .retAddr 0, .retAddr 0, iV l7, iV l8, iV l9, .retAddr 0] [lV s2, iV s1, .ref s0] u Q := by
  unfold K_215
  have g1 := h.1
  have h := h.2
  have g2 := h.1
  have h := h.2
  refine u_last (pc := 327) (dec_at lsk_215 (k := 186) rfl) hAs0 g1 g2 (fun u3 e4 => ?_)
  have h := h u3 e4
  refine u_ld (v := .ref 271) (pc := 328) (dec_at lsk_215 (k := 187) rfl) rfl ?_
  refine u_gS (o := 14) (p := 285) (pc := 329) (dec_at lsk_215 (k := 188) rfl) f_12_50 sx_271 rfl rfl ?_
  refine u_ld (v := iV l2) (pc := 332) (dec_at lsk_215 (k := 189) rfl) rfl ?_
  refine u_ld (v := .ref 271) (pc := 333) (dec_at lsk_215 (k := 190) rfl) rfl ?_
  refine u_gS (o := 14) (p := 285) (pc := 334) (dec_at lsk_215 (k := 191) rfl) f_12_50 sx_271 rfl rfl ?_
  refine u_ld (v := iV l2) (pc := 337) (dec_at lsk_215 (k := 192) rfl) rfl ?_
  have g5 := h.1
  have h := h.2
  have g6 := h.1
  have h := h.2
  refine u_zald (pc := 338) (dec_at lsk_215 (k := 193) rfl) sx_285 g5 g6 ?_
  have g7 := h.1
  have h := h.2
  refine u_ifF (pc := 339) (tgt := 347) (dec_at lsk_215 (k := 194) rfl) rfl (c0_ne g7) (fun e8 => ?_) (fun e8 => ?_)
  · have h := ifT e8 h
    refine u_ld (v := iV l7) (pc := 342) (dec_at lsk_215 (k := 195) rfl) rfl ?_
    have g9 := h.1
    have h := h.2
    refine u_ifT (pc := 344) (tgt := 351) (dec_at lsk_215 (k := 196) rfl) rfl (c0_eq g9) (fun e10 => ?_) (fun e10 => ?_)
    · have h := ifT e10 h
      refine u_ld (v := iV 0) (pc := 351) (dec_at lsk_215 (k := 199) rfl) rfl ?_
      refine u_zast (pc := 352) (dec_at lsk_215 (k := 200) rfl) sx_285 g5 g6 (by decide) (fun u11 e12 => ?_)
      have h := h u11 e12
      refine u_ld (v := .ref 271) (pc := 353) (dec_at lsk_215 (k := 201) rfl) rfl ?_
      refine u_gS (o := 15) (p := 286) (pc := 354) (dec_at lsk_215 (k := 202) rfl) f_12_53 sx_271 rfl rfl ?_
      refine u_ld (v := iV l2) (pc := 357) (dec_at lsk_215 (k := 203) rfl) rfl ?_
      refine u_ld (v := .ref 271) (pc := 358) (dec_at lsk_215 (k := 204) rfl) rfl ?_
      refine u_gS (o := 15) (p := 286) (pc := 359) (dec_at lsk_215 (k := 205) rfl) f_12_53 sx_271 rfl rfl ?_
      refine u_ld (v := iV l2) (pc := 362) (dec_at lsk_215 (k := 206) rfl) rfl ?_
      refine u_zald (pc := 363) (dec_at lsk_215 (k := 207) rfl) sx_286 g5 g6 ?_
      have g13 := h.1
      have h := h.2
      refine u_ifF (pc := 364) (tgt := 372) (dec_at lsk_215 (k := 208) rfl) rfl (c0_ne g13) (fun e14 => ?_) (fun e14 => ?_)
      · have h := ifT e14 h
        refine u_ld (v := iV l8) (pc := 367) (dec_at lsk_215 (k := 209) rfl) rfl ?_
        have g15 := h.1
        have h := h.2
        refine u_ifT (pc := 369) (tgt := 376) (dec_at lsk_215 (k := 210) rfl) rfl (c0_eq g15) (fun e16 => ?_) (fun e16 => ?_)
        · have h := ifT e16 h
          refine u_ld (v := iV 0) (pc := 376) (dec_at lsk_215 (k := 213) rfl) rfl ?_
          refine u_zast (pc := 377) (dec_at lsk_215 (k := 214) rfl) sx_286 g5 g6 (by decide) (fun u17 e18 => ?_)
          have h := h u17 e18
          refine u_ld (v := iV l9) (pc := 378) (dec_at lsk_215 (k := 215) rfl) rfl ?_
          have g19 := h.1
          have h := h.2
          exact u_rZ (pc := 380) (dec_at lsk_215 (k := 216) rfl) rfl g19 h
        · have h := ifF e16 h
          refine u_ld (v := iV 1) (pc := 372) (dec_at lsk_215 (k := 211) rfl) rfl ?_
          refine u_goto (pc := 373) (tgt := 377) (dec_at lsk_215 (k := 212) rfl) rfl ?_
          refine u_zast (pc := 377) (dec_at lsk_215 (k := 214) rfl) sx_286 g5 g6 (by decide) (fun u20 e21 => ?_)
          have h := h u20 e21
          refine u_ld (v := iV l9) (pc := 378) (dec_at lsk_215 (k := 215) rfl) rfl ?_
          have g22 := h.1
          have h := h.2
          exact u_rZ (pc := 380) (dec_at lsk_215 (k := 216) rfl) rfl g22 h
      · have h := ifF e14 h
        refine u_ld (v := iV 1) (pc := 372) (dec_at lsk_215 (k := 211) rfl) rfl ?_
        refine u_goto (pc := 373) (tgt := 377) (dec_at lsk_215 (k := 212) rfl) rfl ?_
        refine u_zast (pc := 377) (dec_at lsk_215 (k := 214) rfl) sx_286 g5 g6 (by decide) (fun u23 e24 => ?_)
        have h := h u23 e24
        refine u_ld (v := iV l9) (pc := 378) (dec_at lsk_215 (k := 215) rfl) rfl ?_
        have g25 := h.1
        have h := h.2
        exact u_rZ (pc := 380) (dec_at lsk_215 (k := 216) rfl) rfl g25 h
    · have h := ifF e10 h
      refine u_ld (v := iV 1) (pc := 347) (dec_at lsk_215 (k := 197) rfl) rfl ?_
      refine u_goto (pc := 348) (tgt := 352) (dec_at lsk_215 (k := 198) rfl) rfl ?_
      refine u_zast (pc := 352) (dec_at lsk_215 (k := 200) rfl) sx_285 g5 g6 (by decide) (fun u26 e27 => ?_)
      have h := h u26 e27
      refine u_ld (v := .ref 271) (pc := 353) (dec_at lsk_215 (k := 201) rfl) rfl ?_
      refine u_gS (o := 15) (p := 286) (pc := 354) (dec_at lsk_215 (k := 202) rfl) f_12_53 sx_271 rfl rfl ?_
      refine u_ld (v := iV l2) (pc := 357) (dec_at lsk_215 (k := 203) rfl) rfl ?_
      refine u_ld (v := .ref 271) (pc := 358) (dec_at lsk_215 (k := 204) rfl) rfl ?_
      refine u_gS (o := 15) (p := 286) (pc := 359) (dec_at lsk_215 (k := 205) rfl) f_12_53 sx_271 rfl rfl ?_
      refine u_ld (v := iV l2) (pc := 362) (dec_at lsk_215 (k := 206) rfl) rfl ?_
      refine u_zald (pc := 363) (dec_at lsk_215 (k := 207) rfl) sx_286 g5 g6 ?_
      have g28 := h.1
      have h := h.2
      refine u_ifF (pc := 364) (tgt := 372) (dec_at lsk_215 (k := 208) rfl) rfl (c0_ne g28) (fun e29 => ?_) (fun e29 => ?_)
      · have h := ifT e29 h
        refine u_ld (v := iV l8) (pc := 367) (dec_at lsk_215 (k := 209) rfl) rfl ?_
        have g30 := h.1
        have h := h.2
        refine u_ifT (pc := 369) (tgt := 376) (dec_at lsk_215 (k := 210) rfl) rfl (c0_eq g30) (fun e31 => ?_) (fun e31 => ?_)
        · have h := ifT e31 h
          refine u_ld (v := iV 0) (pc := 376) (dec_at lsk_215 (k := 213) rfl) rfl ?_
          refine u_zast (pc := 377) (dec_at lsk_215 (k := 214) rfl) sx_286 g5 g6 (by decide) (fun u32 e33 => ?_)
          have h := h u32 e33
          refine u_ld (v := iV l9) (pc := 378) (dec_at lsk_215 (k := 215) rfl) rfl ?_
          have g34 := h.1
          have h := h.2
          exact u_rZ (pc := 380) (dec_at lsk_215 (k := 216) rfl) rfl g34 h
        · have h := ifF e31 h
          refine u_ld (v := iV 1) (pc := 372) (dec_at lsk_215 (k := 211) rfl) rfl ?_
          refine u_goto (pc := 373) (tgt := 377) (dec_at lsk_215 (k := 212) rfl) rfl ?_
          refine u_zast (pc := 377) (dec_at lsk_215 (k := 214) rfl) sx_286 g5 g6 (by decide) (fun u35 e36 => ?_)
          have h := h u35 e36
          refine u_ld (v := iV l9) (pc := 378) (dec_at lsk_215 (k := 215) rfl) rfl ?_
          have g37 := h.1
          have h := h.2
          exact u_rZ (pc := 380) (dec_at lsk_215 (k := 216) rfl) rfl g37 h
      · have h := ifF e29 h
        refine u_ld (v := iV 1) (pc := 372) (dec_at lsk_215 (k := 211) rfl) rfl ?_
        refine u_goto (pc := 373) (tgt := 377) (dec_at lsk_215 (k := 212) rfl) rfl ?_
        refine u_zast (pc := 377) (dec_at lsk_215 (k := 214) rfl) sx_286 g5 g6 (by decide) (fun u38 e39 => ?_)
        have h := h u38 e39
        refine u_ld (v := iV l9) (pc := 378) (dec_at lsk_215 (k := 215) rfl) rfl ?_
        have g40 := h.1
        have h := h.2
        exact u_rZ (pc := 380) (dec_at lsk_215 (k := 216) rfl) rfl g40 h
  · have h := ifF e8 h
    refine u_ld (v := iV 1) (pc := 347) (dec_at lsk_215 (k := 197) rfl) rfl ?_
    refine u_goto (pc := 348) (tgt := 352) (dec_at lsk_215 (k := 198) rfl) rfl ?_
    refine u_zast (pc := 352) (dec_at lsk_215 (k := 200) rfl) sx_285 g5 g6 (by decide) (fun u41 e42 => ?_)
    have h := h u41 e42
    refine u_ld (v := .ref 271) (pc := 353) (dec_at lsk_215 (k := 201) rfl) rfl ?_
    refine u_gS (o := 15) (p := 286) (pc := 354) (dec_at lsk_215 (k := 202) rfl) f_12_53 sx_271 rfl rfl ?_
    refine u_ld (v := iV l2) (pc := 357) (dec_at lsk_215 (k := 203) rfl) rfl ?_
    refine u_ld (v := .ref 271) (pc := 358) (dec_at lsk_215 (k := 204) rfl) rfl ?_
    refine u_gS (o := 15) (p := 286) (pc := 359) (dec_at lsk_215 (k := 205) rfl) f_12_53 sx_271 rfl rfl ?_
    refine u_ld (v := iV l2) (pc := 362) (dec_at lsk_215 (k := 206) rfl) rfl ?_
    refine u_zald (pc := 363) (dec_at lsk_215 (k := 207) rfl) sx_286 g5 g6 ?_
    have g43 := h.1
    have h := h.2
    refine u_ifF (pc := 364) (tgt := 372) (dec_at lsk_215 (k := 208) rfl) rfl (c0_ne g43) (fun e44 => ?_) (fun e44 => ?_)
    · have h := ifT e44 h
      refine u_ld (v := iV l8) (pc := 367) (dec_at lsk_215 (k := 209) rfl) rfl ?_
      have g45 := h.1
      have h := h.2
      refine u_ifT (pc := 369) (tgt := 376) (dec_at lsk_215 (k := 210) rfl) rfl (c0_eq g45) (fun e46 => ?_) (fun e46 => ?_)
      · have h := ifT e46 h
        refine u_ld (v := iV 0) (pc := 376) (dec_at lsk_215 (k := 213) rfl) rfl ?_
        refine u_zast (pc := 377) (dec_at lsk_215 (k := 214) rfl) sx_286 g5 g6 (by decide) (fun u47 e48 => ?_)
        have h := h u47 e48
        refine u_ld (v := iV l9) (pc := 378) (dec_at lsk_215 (k := 215) rfl) rfl ?_
        have g49 := h.1
        have h := h.2
        exact u_rZ (pc := 380) (dec_at lsk_215 (k := 216) rfl) rfl g49 h
      · have h := ifF e46 h
        refine u_ld (v := iV 1) (pc := 372) (dec_at lsk_215 (k := 211) rfl) rfl ?_
        refine u_goto (pc := 373) (tgt := 377) (dec_at lsk_215 (k := 212) rfl) rfl ?_
        refine u_zast (pc := 377) (dec_at lsk_215 (k := 214) rfl) sx_286 g5 g6 (by decide) (fun u50 e51 => ?_)
        have h := h u50 e51
        refine u_ld (v := iV l9) (pc := 378) (dec_at lsk_215 (k := 215) rfl) rfl ?_
        have g52 := h.1
        have h := h.2
        exact u_rZ (pc := 380) (dec_at lsk_215 (k := 216) rfl) rfl g52 h
    · have h := ifF e44 h
      refine u_ld (v := iV 1) (pc := 372) (dec_at lsk_215 (k := 211) rfl) rfl ?_
      refine u_goto (pc := 373) (tgt := 377) (dec_at lsk_215 (k := 212) rfl) rfl ?_
      refine u_zast (pc := 377) (dec_at lsk_215 (k := 214) rfl) sx_286 g5 g6 (by decide) (fun u53 e54 => ?_)
      have h := h u53 e54
      refine u_ld (v := iV l9) (pc := 378) (dec_at lsk_215 (k := 215) rfl) rfl ?_
      have g55 := h.1
      have h := h.2
      exact u_rZ (pc := 380) (dec_at lsk_215 (k := 216) rfl) rfl g55 h
/-- method 216 -/
def K_216 (d pc : Nat) (lv : ev_L) (st : List Value) (u : uS) (Q : Int → uS → Prop) : Prop := okU d 12 5 false (some .boolean) prog_14_method_19_code (qI Q) pc lv st u
theorem e_216 {d : Nat} {Q : Int → uS → Prop} {u : uS} {l1 : Int} (h : K_216 d 4 [.ref 271, iV l1, iV 1, iV 0, .retAddr 0] [] u Q) : cI (d + 1) 216 [.ref 271, iV l1] u Q := by
  refine u_of me_216 (Nat.le_of_ble_eq_true rfl) ?_
  refine u_ld (v := iV 1) (pc := 0) (dec_at lsk_216 (k := 0) rfl) rfl ?_
  refine u_sto (lv' := [.ref 271, iV l1, iV 1, .retAddr 0, .retAddr 0]) (pc := 1) (dec_at lsk_216 (k := 1) rfl) rfl ?_
  refine u_ld (v := iV 0) (pc := 2) (dec_at lsk_216 (k := 2) rfl) rfl ?_
  refine u_sto (lv' := [.ref 271, iV l1, iV 1, iV 0, .retAddr 0]) (pc := 3) (dec_at lsk_216 (k := 3) rfl) rfl ?_
  exact h
theorem k_216_4 {d : Nat} {Q : Int → uS → Prop} {u : uS} {l1 l2 l3 : Int} (h : (0 ≤ l1) ∧ ((l1 < 30) ∧ ((rI l3) ∧ ((rI (u.1 276 l1)) ∧ (if l3 < u.1 276 l1 then ((0 ≤ (6 * l1) + l3) ∧ (((6 * l1) + l3 < 180) ∧ ((rI l2) ∧ (if l2 = 0 then (K_216 d 4 [.ref 271, iV l1, iV 0, iV (l3 + 1), .retAddr 0] [] u Q) else ((rI (u.1 277 ((6 * l1) + l3))) ∧ (if u.1 277 ((6 * l1) + l3) < 100 then (K_216 d 4 [.ref 271, iV l1, iV 1, iV (l3 + 1), .retAddr 0] [] u Q) else ((0 ≤ (u.1 277 ((6 * l1) + l3)) - 100) ∧ (((u.1 277 ((6 * l1) + l3)) - 100 < 10) ∧ ((rI (u.1 283 ((u.1 277 ((6 * l1) + l3)) - 100))) ∧ (if u.1 283 ((u.1 277 ((6 * l1) + l3)) - 100) = 0 then (K_216 d 4 [.ref 271, iV l1, iV 0, iV (l3 + 1), .retAddr 0] [] u Q) else (K_216 d 4 [.ref 271, iV l1, iV 1, iV (l3 + 1), .retAddr 0] [] u Q))))))))))) else ((l2 = 0 ∨ l2 = 1) ∧ (Q l2 u))))))) : K_216 d 4 [.ref 271, iV l1, iV l2, iV l3, .retAddr 0] [] u Q := by
  unfold K_216
  refine u_ld (v := iV l3) (pc := 4) (dec_at lsk_216 (k := 4) rfl) rfl ?_
  refine u_ld (v := .ref 271) (pc := 5) (dec_at lsk_216 (k := 5) rfl) rfl ?_
  refine u_gS (o := 5) (p := 276) (pc := 6) (dec_at lsk_216 (k := 6) rfl) f_12_22 sx_271 rfl rfl ?_
  refine u_ld (v := iV l1) (pc := 9) (dec_at lsk_216 (k := 7) rfl) rfl ?_
  have g1 := h.1
  have h := h.2
  have g2 := h.1
  have h := h.2
  refine u_iald (pc := 10) (dec_at lsk_216 (k := 8) rfl) sx_276 g1 g2 ?_
  have g3 := h.1
  have h := h.2
  have g4 := h.1
  have h := h.2
  refine u_icF (pc := 11) (tgt := 63) (dec_at lsk_216 (k := 9) rfl) rfl (ci_ge g3 g4) (fun e5 => ?_) (fun e5 => ?_)
  · have h := ifT e5 h
    refine u_ld (v := .ref 271) (pc := 14) (dec_at lsk_216 (k := 10) rfl) rfl ?_
    refine u_gS (o := 6) (p := 277) (pc := 15) (dec_at lsk_216 (k := 11) rfl) f_12_25 sx_271 rfl rfl ?_
    refine u_c (x := 6) (pc := 18) (dec_at lsk_216 (k := 12) rfl) rfl (by decide) ?_
    refine u_ld (v := iV l1) (pc := 20) (dec_at lsk_216 (k := 13) rfl) rfl ?_
    refine u_imul (pc := 21) (dec_at lsk_216 (k := 14) rfl) ?_
    refine u_ld (v := iV l3) (pc := 22) (dec_at lsk_216 (k := 15) rfl) rfl ?_
    refine u_iadd (pc := 23) (dec_at lsk_216 (k := 16) rfl) ?_
    have g6 := h.1
    have h := h.2
    have g7 := h.1
    have h := h.2
    refine u_iald (pc := 24) (dec_at lsk_216 (k := 17) rfl) sx_277 g6 g7 ?_
    refine u_sto (lv' := [.ref 271, iV l1, iV l2, iV l3, iV (u.1 277 ((6 * l1) + l3))]) (pc := 25) (dec_at lsk_216 (k := 18) rfl) rfl ?_
    refine u_ld (v := iV l2) (pc := 27) (dec_at lsk_216 (k := 19) rfl) rfl ?_
    have g8 := h.1
    have h := h.2
    refine u_ifT (pc := 28) (tgt := 55) (dec_at lsk_216 (k := 20) rfl) rfl (c0_eq g8) (fun e9 => ?_) (fun e9 => ?_)
    · have h := ifT e9 h
      refine u_ld (v := iV 0) (pc := 55) (dec_at lsk_216 (k := 33) rfl) rfl ?_
      refine u_sto (lv' := [.ref 271, iV l1, iV 0, iV l3, iV (u.1 277 ((6 * l1) + l3))]) (pc := 56) (dec_at lsk_216 (k := 34) rfl) rfl ?_
      refine u_inc (lv' := [.ref 271, iV l1, iV 0, iV (l3 + 1), iV (u.1 277 ((6 * l1) + l3))]) (pc := 57) (dec_at lsk_216 (k := 35) rfl) rfl (by decide) rfl ?_
      refine u_goto (pc := 60) (tgt := 4) (dec_at lsk_216 (k := 36) rfl) rfl ?_
      exact u_weak (sbK (sbK (sbK (sbK (sbD sb0))))) h
    · have h := ifF e9 h
      refine u_ld (v := iV (u.1 277 ((6 * l1) + l3))) (pc := 31) (dec_at lsk_216 (k := 21) rfl) rfl ?_
      refine u_c (x := 100) (pc := 33) (dec_at lsk_216 (k := 22) rfl) rfl (by decide) ?_
      have g10 := h.1
      have h := h.2
      refine u_icT (pc := 35) (tgt := 51) (dec_at lsk_216 (k := 23) rfl) rfl (ci_lt g10 (by decide)) (fun e11 => ?_) (fun e11 => ?_)
      · have h := ifT e11 h
        refine u_ld (v := iV 1) (pc := 51) (dec_at lsk_216 (k := 31) rfl) rfl ?_
        refine u_goto (pc := 52) (tgt := 56) (dec_at lsk_216 (k := 32) rfl) rfl ?_
        refine u_sto (lv' := [.ref 271, iV l1, iV 1, iV l3, iV (u.1 277 ((6 * l1) + l3))]) (pc := 56) (dec_at lsk_216 (k := 34) rfl) rfl ?_
        refine u_inc (lv' := [.ref 271, iV l1, iV 1, iV (l3 + 1), iV (u.1 277 ((6 * l1) + l3))]) (pc := 57) (dec_at lsk_216 (k := 35) rfl) rfl (by decide) rfl ?_
        refine u_goto (pc := 60) (tgt := 4) (dec_at lsk_216 (k := 36) rfl) rfl ?_
        exact u_weak (sbK (sbK (sbK (sbK (sbD sb0))))) h
      · have h := ifF e11 h
        refine u_ld (v := .ref 271) (pc := 38) (dec_at lsk_216 (k := 24) rfl) rfl ?_
        refine u_gS (o := 12) (p := 283) (pc := 39) (dec_at lsk_216 (k := 25) rfl) f_12_43 sx_271 rfl rfl ?_
        refine u_ld (v := iV (u.1 277 ((6 * l1) + l3))) (pc := 42) (dec_at lsk_216 (k := 26) rfl) rfl ?_
        refine u_c (x := 100) (pc := 44) (dec_at lsk_216 (k := 27) rfl) rfl (by decide) ?_
        refine u_isub (pc := 46) (dec_at lsk_216 (k := 28) rfl) ?_
        have g12 := h.1
        have h := h.2
        have g13 := h.1
        have h := h.2
        refine u_zald (pc := 47) (dec_at lsk_216 (k := 29) rfl) sx_283 g12 g13 ?_
        have g14 := h.1
        have h := h.2
        refine u_ifT (pc := 48) (tgt := 55) (dec_at lsk_216 (k := 30) rfl) rfl (c0_eq g14) (fun e15 => ?_) (fun e15 => ?_)
        · have h := ifT e15 h
          refine u_ld (v := iV 0) (pc := 55) (dec_at lsk_216 (k := 33) rfl) rfl ?_
          refine u_sto (lv' := [.ref 271, iV l1, iV 0, iV l3, iV (u.1 277 ((6 * l1) + l3))]) (pc := 56) (dec_at lsk_216 (k := 34) rfl) rfl ?_
          refine u_inc (lv' := [.ref 271, iV l1, iV 0, iV (l3 + 1), iV (u.1 277 ((6 * l1) + l3))]) (pc := 57) (dec_at lsk_216 (k := 35) rfl) rfl (by decide) rfl ?_
          refine u_goto (pc := 60) (tgt := 4) (dec_at lsk_216 (k := 36) rfl) rfl ?_
          exact u_weak (sbK (sbK (sbK (sbK (sbD sb0))))) h
        · have h := ifF e15 h
          refine u_ld (v := iV 1) (pc := 51) (dec_at lsk_216 (k := 31) rfl) rfl ?_
          refine u_goto (pc := 52) (tgt := 56) (dec_at lsk_216 (k := 32) rfl) rfl ?_
          refine u_sto (lv' := [.ref 271, iV l1, iV 1, iV l3, iV (u.1 277 ((6 * l1) + l3))]) (pc := 56) (dec_at lsk_216 (k := 34) rfl) rfl ?_
          refine u_inc (lv' := [.ref 271, iV l1, iV 1, iV (l3 + 1), iV (u.1 277 ((6 * l1) + l3))]) (pc := 57) (dec_at lsk_216 (k := 35) rfl) rfl (by decide) rfl ?_
          refine u_goto (pc := 60) (tgt := 4) (dec_at lsk_216 (k := 36) rfl) rfl ?_
          exact u_weak (sbK (sbK (sbK (sbK (sbD sb0))))) h
  · have h := ifF e5 h
    refine u_ld (v := iV l2) (pc := 63) (dec_at lsk_216 (k := 37) rfl) rfl ?_
    have g16 := h.1
    have h := h.2
    exact u_rZ (pc := 64) (dec_at lsk_216 (k := 38) rfl) rfl g16 h
/-- method 218 -/
def K_218 (d pc : Nat) (lv : ev_L) (st : List Value) (u : uS) (Q : uS → Prop) : Prop := okU d 12 7 false none prog_14_method_22_code (qV Q) pc lv st u
theorem e_218 {d : Nat} {Q : uS → Prop} {u : uS} (h : K_218 d 2 [.ref 271, iV 0, .retAddr 0, .retAddr 0, .retAddr 0, .retAddr 0, .retAddr 0] [] u Q) : cV (d + 1) 218 [.ref 271] u Q := by
  refine u_of me_218 (Nat.le_of_ble_eq_true rfl) ?_
  refine u_ld (v := iV 0) (pc := 0) (dec_at lsk_218 (k := 0) rfl) rfl ?_
  refine u_sto (lv' := [.ref 271, iV 0, .retAddr 0, .retAddr 0, .retAddr 0, .retAddr 0, .retAddr 0]) (pc := 1) (dec_at lsk_218 (k := 1) rfl) rfl ?_
  exact h
theorem k_218_2 {d : Nat} {Q : uS → Prop} {u : uS} {l1 : Int} (h : (rI l1) ∧ (if l1 < 100 then ((0 ≤ l1) ∧ (∀ u4 : uS, u4 = wr u 290 l1 0 → (∀ u6 : uS, u6 = wr u4 291 l1 0 → (K_218 d 2 [.ref 271, iV (l1 + 1), .retAddr 0, .retAddr 0, .retAddr 0, .retAddr 0, .retAddr 0] [] u6 Q)))) else (K_218 d 30 [.ref 271, iV 0, .retAddr 0, .retAddr 0, .retAddr 0, .retAddr 0, .retAddr 0] [] u Q))) : K_218 d 2 [.ref 271, iV l1, .retAddr 0, .retAddr 0, .retAddr 0, .retAddr 0, .retAddr 0] [] u Q := by
  unfold K_218
  refine u_ld (v := iV l1) (pc := 2) (dec_at lsk_218 (k := 2) rfl) rfl ?_
  refine u_c (x := 100) (pc := 3) (dec_at lsk_218 (k := 3) rfl) rfl (by decide) ?_
  have g1 := h.1
  have h := h.2
  refine u_icF (pc := 5) (tgt := 28) (dec_at lsk_218 (k := 4) rfl) rfl (ci_ge g1 (by decide)) (fun e2 => ?_) (fun e2 => ?_)
  · have h := ifT e2 h
    refine u_ld (v := .ref 271) (pc := 8) (dec_at lsk_218 (k := 5) rfl) rfl ?_
    refine u_gS (o := 19) (p := 290) (pc := 9) (dec_at lsk_218 (k := 6) rfl) f_12_66 sx_271 rfl rfl ?_
    refine u_ld (v := iV l1) (pc := 12) (dec_at lsk_218 (k := 7) rfl) rfl ?_
    refine u_ld (v := iV 0) (pc := 13) (dec_at lsk_218 (k := 8) rfl) rfl ?_
    have g3 := h.1
    have h := h.2
    refine u_zast (pc := 14) (dec_at lsk_218 (k := 9) rfl) sx_290 g3 e2 (by decide) (fun u4 e5 => ?_)
    have h := h u4 e5
    refine u_ld (v := .ref 271) (pc := 15) (dec_at lsk_218 (k := 10) rfl) rfl ?_
    refine u_gS (o := 20) (p := 291) (pc := 16) (dec_at lsk_218 (k := 11) rfl) f_12_69 sx_271 rfl rfl ?_
    refine u_ld (v := iV l1) (pc := 19) (dec_at lsk_218 (k := 12) rfl) rfl ?_
    refine u_ld (v := iV 0) (pc := 20) (dec_at lsk_218 (k := 13) rfl) rfl ?_
    refine u_zast (pc := 21) (dec_at lsk_218 (k := 14) rfl) sx_291 g3 e2 (by decide) (fun u6 e7 => ?_)
    have h := h u6 e7
    refine u_inc (lv' := [.ref 271, iV (l1 + 1), .retAddr 0, .retAddr 0, .retAddr 0, .retAddr 0, .retAddr 0]) (pc := 22) (dec_at lsk_218 (k := 15) rfl) rfl (by decide) rfl ?_
    refine u_goto (pc := 25) (tgt := 2) (dec_at lsk_218 (k := 16) rfl) rfl ?_
    exact h
  · have h := ifF e2 h
    refine u_ld (v := iV 0) (pc := 28) (dec_at lsk_218 (k := 17) rfl) rfl ?_
    refine u_sto (lv' := [.ref 271, iV 0, .retAddr 0, .retAddr 0, .retAddr 0, .retAddr 0, .retAddr 0]) (pc := 29) (dec_at lsk_218 (k := 18) rfl) rfl ?_
    exact h
theorem k_218_30 {d : Nat} {Q : uS → Prop} {u : uS} {l1 : Int} (h : (rI l1) ∧ ((rI (u.1 271 6)) ∧ (if l1 < u.1 271 6 then (K_218 d 40 [.ref 271, iV l1, iV 0, .retAddr 0, .retAddr 0, .retAddr 0, .retAddr 0] [] u Q) else (K_218 d 149 [.ref 271, iV 0, .retAddr 0, .retAddr 0, .retAddr 0, .retAddr 0, .retAddr 0] [] u Q)))) : K_218 d 30 [.ref 271, iV l1, .retAddr 0, .retAddr 0, .retAddr 0, .retAddr 0, .retAddr 0] [] u Q := by
  unfold K_218
  refine u_ld (v := iV l1) (pc := 30) (dec_at lsk_218 (k := 19) rfl) rfl ?_
  refine u_ld (v := .ref 271) (pc := 31) (dec_at lsk_218 (k := 20) rfl) rfl ?_
  refine u_gI (z := 6) (pc := 32) (dec_at lsk_218 (k := 21) rfl) f_12_306 sx_271 rfl rfl ?_
  have g1 := h.1
  have h := h.2
  have g2 := h.1
  have h := h.2
  refine u_icF (pc := 35) (tgt := 147) (dec_at lsk_218 (k := 22) rfl) rfl (ci_ge g1 g2) (fun e3 => ?_) (fun e3 => ?_)
  · have h := ifT e3 h
    refine u_ld (v := iV 0) (pc := 38) (dec_at lsk_218 (k := 23) rfl) rfl ?_
    refine u_sto (lv' := [.ref 271, iV l1, iV 0, .retAddr 0, .retAddr 0, .retAddr 0, .retAddr 0]) (pc := 39) (dec_at lsk_218 (k := 24) rfl) rfl ?_
    exact h
  · have h := ifF e3 h
    refine u_ld (v := iV 0) (pc := 147) (dec_at lsk_218 (k := 89) rfl) rfl ?_
    refine u_sto (lv' := [.ref 271, iV 0, .retAddr 0, .retAddr 0, .retAddr 0, .retAddr 0, .retAddr 0]) (pc := 148) (dec_at lsk_218 (k := 90) rfl) rfl ?_
    exact h
theorem k_218_40 {d : Nat} {Q : uS → Prop} {u : uS} {l1 l2 : Int} (h : (0 ≤ l1) ∧ ((l1 < 30) ∧ ((rI l2) ∧ ((rI (u.1 276 l1)) ∧ (if l2 < u.1 276 l1 then (cI d 216 [.ref 271, iV l1] u (fun r7 u6 => (rI r7) ∧ (if r7 = 0 then (K_218 d 30 [.ref 271, iV (l1 + 1), .retAddr 0, .retAddr 0, .retAddr 0, .retAddr 0, .retAddr 0] [] u6 Q) else ((0 ≤ (6 * l1) + l2) ∧ (((6 * l1) + l2 < 180) ∧ ((rI (u6.1 277 ((6 * l1) + l2))) ∧ (if u6.1 277 ((6 * l1) + l2) < 100 then (K_218 d 40 [.ref 271, iV l1, iV (l2 + 1), .retAddr 0, .retAddr 0, .retAddr 0, .retAddr 0] [] u6 Q) else ((0 ≤ ((10 * (u6.1 275 l1)) + (u6.1 277 ((6 * l1) + l2))) - 100) ∧ ((((10 * (u6.1 275 l1)) + (u6.1 277 ((6 * l1) + l2))) - 100 < 100) ∧ (∀ u16 : uS, u16 = wr u6 290 (((10 * (u6.1 275 l1)) + (u6.1 277 ((6 * l1) + l2))) - 100) 1 → ((rI (u16.1 291 (((10 * (u6.1 275 l1)) + (u6.1 277 ((6 * l1) + l2))) - 100))) ∧ (if u16.1 291 (((10 * (u6.1 275 l1)) + (u6.1 277 ((6 * l1) + l2))) - 100) = 0 then (cI d 219 [.ref 271, iV l1, iV l2] u16 (fun r21 u20 => (rI r21) ∧ (if r21 = 0 then (∀ u24 : uS, u24 = wr u20 291 (((10 * (u6.1 275 l1)) + (u6.1 277 ((6 * l1) + l2))) - 100) 0 → (K_218 d 40 [.ref 271, iV l1, iV (l2 + 1), .retAddr 0, .retAddr 0, .retAddr 0, .retAddr 0] [] u24 Q)) else (∀ u26 : uS, u26 = wr u20 291 (((10 * (u6.1 275 l1)) + (u6.1 277 ((6 * l1) + l2))) - 100) 1 → (K_218 d 40 [.ref 271, iV l1, iV (l2 + 1), .retAddr 0, .retAddr 0, .retAddr 0, .retAddr 0] [] u26 Q))))) else (∀ u28 : uS, u28 = wr u16 291 (((10 * (u6.1 275 l1)) + (u6.1 277 ((6 * l1) + l2))) - 100) 1 → (K_218 d 40 [.ref 271, iV l1, iV (l2 + 1), .retAddr 0, .retAddr 0, .retAddr 0, .retAddr 0] [] u28 Q)))))))))))))) else (K_218 d 30 [.ref 271, iV (l1 + 1), .retAddr 0, .retAddr 0, .retAddr 0, .retAddr 0, .retAddr 0] [] u Q)))))) : K_218 d 40 [.ref 271, iV l1, iV l2, .retAddr 0, .retAddr 0, .retAddr 0, .retAddr 0] [] u Q := by
  unfold K_218
  refine u_ld (v := iV l2) (pc := 40) (dec_at lsk_218 (k := 25) rfl) rfl ?_
  refine u_ld (v := .ref 271) (pc := 41) (dec_at lsk_218 (k := 26) rfl) rfl ?_
  refine u_gS (o := 5) (p := 276) (pc := 42) (dec_at lsk_218 (k := 27) rfl) f_12_22 sx_271 rfl rfl ?_
  refine u_ld (v := iV l1) (pc := 45) (dec_at lsk_218 (k := 28) rfl) rfl ?_
  have g1 := h.1
  have h := h.2
  have g2 := h.1
  have h := h.2
  refine u_iald (pc := 46) (dec_at lsk_218 (k := 29) rfl) sx_276 g1 g2 ?_
  have g3 := h.1
  have h := h.2
  have g4 := h.1
  have h := h.2
  refine u_icF (pc := 47) (tgt := 141) (dec_at lsk_218 (k := 30) rfl) rfl (ci_ge g3 g4) (fun e5 => ?_) (fun e5 => ?_)
  · have h := ifT e5 h
    refine u_ld (v := .ref 271) (pc := 50) (dec_at lsk_218 (k := 31) rfl) rfl ?_
    refine u_ld (v := iV l1) (pc := 51) (dec_at lsk_218 (k := 32) rfl) rfl ?_
    refine u_cvI (As := [iV l1]) (rb := 271) (st2 := []) (pc := 52) (dec_at lsk_218 (k := 33) rfl) m_12_317 (Or.inl rfl) rfl (Nat.le_of_ble_eq_true rfl) sx_271 me_216 rfl h (fun r7 u6 h => ?_)
    have g8 := h.1
    have h := h.2
    refine u_ifT (pc := 55) (tgt := 141) (dec_at lsk_218 (k := 34) rfl) rfl (c0_eq g8) (fun e9 => ?_) (fun e9 => ?_)
    · have h := ifT e9 h
      refine u_inc (lv' := [.ref 271, iV (l1 + 1), iV l2, .retAddr 0, .retAddr 0, .retAddr 0, .retAddr 0]) (pc := 141) (dec_at lsk_218 (k := 87) rfl) rfl (by decide) rfl ?_
      refine u_goto (pc := 144) (tgt := 30) (dec_at lsk_218 (k := 88) rfl) rfl ?_
      exact u_weak (sbK (sbK (sbD (sbK (sbK (sbK (sbK sb0))))))) h
    · have h := ifF e9 h
      refine u_ld (v := .ref 271) (pc := 58) (dec_at lsk_218 (k := 35) rfl) rfl ?_
      refine u_gS (o := 6) (p := 277) (pc := 59) (dec_at lsk_218 (k := 36) rfl) f_12_25 sx_271 rfl rfl ?_
      refine u_c (x := 6) (pc := 62) (dec_at lsk_218 (k := 37) rfl) rfl (by decide) ?_
      refine u_ld (v := iV l1) (pc := 64) (dec_at lsk_218 (k := 38) rfl) rfl ?_
      refine u_imul (pc := 65) (dec_at lsk_218 (k := 39) rfl) ?_
      refine u_ld (v := iV l2) (pc := 66) (dec_at lsk_218 (k := 40) rfl) rfl ?_
      refine u_iadd (pc := 67) (dec_at lsk_218 (k := 41) rfl) ?_
      have g10 := h.1
      have h := h.2
      have g11 := h.1
      have h := h.2
      refine u_iald (pc := 68) (dec_at lsk_218 (k := 42) rfl) sx_277 g10 g11 ?_
      refine u_c (x := 100) (pc := 69) (dec_at lsk_218 (k := 43) rfl) rfl (by decide) ?_
      have g12 := h.1
      have h := h.2
      refine u_icT (pc := 71) (tgt := 135) (dec_at lsk_218 (k := 44) rfl) rfl (ci_lt g12 (by decide)) (fun e13 => ?_) (fun e13 => ?_)
      · have h := ifT e13 h
        refine u_inc (lv' := [.ref 271, iV l1, iV (l2 + 1), .retAddr 0, .retAddr 0, .retAddr 0, .retAddr 0]) (pc := 135) (dec_at lsk_218 (k := 85) rfl) rfl (by decide) rfl ?_
        refine u_goto (pc := 138) (tgt := 40) (dec_at lsk_218 (k := 86) rfl) rfl ?_
        exact h
      · have h := ifF e13 h
        refine u_c (x := 10) (pc := 74) (dec_at lsk_218 (k := 45) rfl) rfl (by decide) ?_
        refine u_ld (v := .ref 271) (pc := 76) (dec_at lsk_218 (k := 46) rfl) rfl ?_
        refine u_gS (o := 4) (p := 275) (pc := 77) (dec_at lsk_218 (k := 47) rfl) f_12_19 sx_271 rfl rfl ?_
        refine u_ld (v := iV l1) (pc := 80) (dec_at lsk_218 (k := 48) rfl) rfl ?_
        refine u_iald (pc := 81) (dec_at lsk_218 (k := 49) rfl) sx_275 g1 g2 ?_
        refine u_imul (pc := 82) (dec_at lsk_218 (k := 50) rfl) ?_
        refine u_ld (v := .ref 271) (pc := 83) (dec_at lsk_218 (k := 51) rfl) rfl ?_
        refine u_gS (o := 6) (p := 277) (pc := 84) (dec_at lsk_218 (k := 52) rfl) f_12_25 sx_271 rfl rfl ?_
        refine u_c (x := 6) (pc := 87) (dec_at lsk_218 (k := 53) rfl) rfl (by decide) ?_
        refine u_ld (v := iV l1) (pc := 89) (dec_at lsk_218 (k := 54) rfl) rfl ?_
        refine u_imul (pc := 90) (dec_at lsk_218 (k := 55) rfl) ?_
        refine u_ld (v := iV l2) (pc := 91) (dec_at lsk_218 (k := 56) rfl) rfl ?_
        refine u_iadd (pc := 92) (dec_at lsk_218 (k := 57) rfl) ?_
        refine u_iald (pc := 93) (dec_at lsk_218 (k := 58) rfl) sx_277 g10 g11 ?_
        refine u_iadd (pc := 94) (dec_at lsk_218 (k := 59) rfl) ?_
        refine u_c (x := 100) (pc := 95) (dec_at lsk_218 (k := 60) rfl) rfl (by decide) ?_
        refine u_isub (pc := 97) (dec_at lsk_218 (k := 61) rfl) ?_
        refine u_sto (lv' := [.ref 271, iV l1, iV l2, iV (((10 * (u6.1 275 l1)) + (u6.1 277 ((6 * l1) + l2))) - 100), .retAddr 0, .retAddr 0, .retAddr 0]) (pc := 98) (dec_at lsk_218 (k := 62) rfl) rfl ?_
        refine u_ld (v := .ref 271) (pc := 99) (dec_at lsk_218 (k := 63) rfl) rfl ?_
        refine u_gS (o := 19) (p := 290) (pc := 100) (dec_at lsk_218 (k := 64) rfl) f_12_66 sx_271 rfl rfl ?_
        refine u_ld (v := iV (((10 * (u6.1 275 l1)) + (u6.1 277 ((6 * l1) + l2))) - 100)) (pc := 103) (dec_at lsk_218 (k := 65) rfl) rfl ?_
        refine u_ld (v := iV 1) (pc := 104) (dec_at lsk_218 (k := 66) rfl) rfl ?_
        have g14 := h.1
        have h := h.2
        have g15 := h.1
        have h := h.2
        refine u_zast (pc := 105) (dec_at lsk_218 (k := 67) rfl) sx_290 g14 g15 (by decide) (fun u16 e17 => ?_)
        have h := h u16 e17
        refine u_ld (v := .ref 271) (pc := 106) (dec_at lsk_218 (k := 68) rfl) rfl ?_
        refine u_gS (o := 20) (p := 291) (pc := 107) (dec_at lsk_218 (k := 69) rfl) f_12_69 sx_271 rfl rfl ?_
        refine u_ld (v := iV (((10 * (u6.1 275 l1)) + (u6.1 277 ((6 * l1) + l2))) - 100)) (pc := 110) (dec_at lsk_218 (k := 70) rfl) rfl ?_
        refine u_ld (v := .ref 271) (pc := 111) (dec_at lsk_218 (k := 71) rfl) rfl ?_
        refine u_gS (o := 20) (p := 291) (pc := 112) (dec_at lsk_218 (k := 72) rfl) f_12_69 sx_271 rfl rfl ?_
        refine u_ld (v := iV (((10 * (u6.1 275 l1)) + (u6.1 277 ((6 * l1) + l2))) - 100)) (pc := 115) (dec_at lsk_218 (k := 73) rfl) rfl ?_
        refine u_zald (pc := 116) (dec_at lsk_218 (k := 74) rfl) sx_291 g14 g15 ?_
        have g18 := h.1
        have h := h.2
        refine u_ifF (pc := 117) (tgt := 129) (dec_at lsk_218 (k := 75) rfl) rfl (c0_ne g18) (fun e19 => ?_) (fun e19 => ?_)
        · have h := ifT e19 h
          refine u_ld (v := .ref 271) (pc := 120) (dec_at lsk_218 (k := 76) rfl) rfl ?_
          refine u_ld (v := iV l1) (pc := 121) (dec_at lsk_218 (k := 77) rfl) rfl ?_
          refine u_ld (v := iV l2) (pc := 122) (dec_at lsk_218 (k := 78) rfl) rfl ?_
          refine u_cvI (As := [iV l1, iV l2]) (rb := 271) (st2 := [iV (((10 * (u6.1 275 l1)) + (u6.1 277 ((6 * l1) + l2))) - 100), .ref 291]) (pc := 123) (dec_at lsk_218 (k := 79) rfl) m_12_327 (Or.inl rfl) rfl (Nat.le_of_ble_eq_true rfl) sx_271 me_219 rfl h (fun r21 u20 h => ?_)
          have g22 := h.1
          have h := h.2
          refine u_ifT (pc := 126) (tgt := 133) (dec_at lsk_218 (k := 80) rfl) rfl (c0_eq g22) (fun e23 => ?_) (fun e23 => ?_)
          · have h := ifT e23 h
            refine u_ld (v := iV 0) (pc := 133) (dec_at lsk_218 (k := 83) rfl) rfl ?_
            refine u_zast (pc := 134) (dec_at lsk_218 (k := 84) rfl) sx_291 g14 g15 (by decide) (fun u24 e25 => ?_)
            have h := h u24 e25
            refine u_inc (lv' := [.ref 271, iV l1, iV (l2 + 1), iV (((10 * (u6.1 275 l1)) + (u6.1 277 ((6 * l1) + l2))) - 100), .retAddr 0, .retAddr 0, .retAddr 0]) (pc := 135) (dec_at lsk_218 (k := 85) rfl) rfl (by decide) rfl ?_
            refine u_goto (pc := 138) (tgt := 40) (dec_at lsk_218 (k := 86) rfl) rfl ?_
            exact u_weak (sbK (sbK (sbK (sbD (sbK (sbK (sbK sb0))))))) h
          · have h := ifF e23 h
            refine u_ld (v := iV 1) (pc := 129) (dec_at lsk_218 (k := 81) rfl) rfl ?_
            refine u_goto (pc := 130) (tgt := 134) (dec_at lsk_218 (k := 82) rfl) rfl ?_
            refine u_zast (pc := 134) (dec_at lsk_218 (k := 84) rfl) sx_291 g14 g15 (by decide) (fun u26 e27 => ?_)
            have h := h u26 e27
            refine u_inc (lv' := [.ref 271, iV l1, iV (l2 + 1), iV (((10 * (u6.1 275 l1)) + (u6.1 277 ((6 * l1) + l2))) - 100), .retAddr 0, .retAddr 0, .retAddr 0]) (pc := 135) (dec_at lsk_218 (k := 85) rfl) rfl (by decide) rfl ?_
            refine u_goto (pc := 138) (tgt := 40) (dec_at lsk_218 (k := 86) rfl) rfl ?_
            exact u_weak (sbK (sbK (sbK (sbD (sbK (sbK (sbK sb0))))))) h
        · have h := ifF e19 h
          refine u_ld (v := iV 1) (pc := 129) (dec_at lsk_218 (k := 81) rfl) rfl ?_
          refine u_goto (pc := 130) (tgt := 134) (dec_at lsk_218 (k := 82) rfl) rfl ?_
          refine u_zast (pc := 134) (dec_at lsk_218 (k := 84) rfl) sx_291 g14 g15 (by decide) (fun u28 e29 => ?_)
          have h := h u28 e29
          refine u_inc (lv' := [.ref 271, iV l1, iV (l2 + 1), iV (((10 * (u6.1 275 l1)) + (u6.1 277 ((6 * l1) + l2))) - 100), .retAddr 0, .retAddr 0, .retAddr 0]) (pc := 135) (dec_at lsk_218 (k := 85) rfl) rfl (by decide) rfl ?_
          refine u_goto (pc := 138) (tgt := 40) (dec_at lsk_218 (k := 86) rfl) rfl ?_
          exact u_weak (sbK (sbK (sbK (sbD (sbK (sbK (sbK sb0))))))) h
  · have h := ifF e5 h
    refine u_inc (lv' := [.ref 271, iV (l1 + 1), iV l2, .retAddr 0, .retAddr 0, .retAddr 0, .retAddr 0]) (pc := 141) (dec_at lsk_218 (k := 87) rfl) rfl (by decide) rfl ?_
    refine u_goto (pc := 144) (tgt := 30) (dec_at lsk_218 (k := 88) rfl) rfl ?_
    exact u_weak (sbK (sbK (sbD (sbK (sbK (sbK (sbK sb0))))))) h
theorem k_218_149 {d : Nat} {Q : uS → Prop} {u : uS} {l1 : Int} (h : (rI l1) ∧ (if l1 < 10 then (K_218 d 157 [.ref 271, iV l1, iV 0, .retAddr 0, .retAddr 0, .retAddr 0, .retAddr 0] [] u Q) else (K_218 d 324 [.ref 271, iV 0, .retAddr 0, .retAddr 0, .retAddr 0, .retAddr 0, .retAddr 0] [] u Q))) : K_218 d 149 [.ref 271, iV l1, .retAddr 0, .retAddr 0, .retAddr 0, .retAddr 0, .retAddr 0] [] u Q := by
  unfold K_218
  refine u_ld (v := iV l1) (pc := 149) (dec_at lsk_218 (k := 91) rfl) rfl ?_
  refine u_c (x := 10) (pc := 150) (dec_at lsk_218 (k := 92) rfl) rfl (by decide) ?_
  have g1 := h.1
  have h := h.2
  refine u_icF (pc := 152) (tgt := 322) (dec_at lsk_218 (k := 93) rfl) rfl (ci_ge g1 (by decide)) (fun e2 => ?_) (fun e2 => ?_)
  · have h := ifT e2 h
    refine u_ld (v := iV 0) (pc := 155) (dec_at lsk_218 (k := 94) rfl) rfl ?_
    refine u_sto (lv' := [.ref 271, iV l1, iV 0, .retAddr 0, .retAddr 0, .retAddr 0, .retAddr 0]) (pc := 156) (dec_at lsk_218 (k := 95) rfl) rfl ?_
    exact h
  · have h := ifF e2 h
    refine u_ld (v := iV 0) (pc := 322) (dec_at lsk_218 (k := 194) rfl) rfl ?_
    refine u_sto (lv' := [.ref 271, iV 0, .retAddr 0, .retAddr 0, .retAddr 0, .retAddr 0, .retAddr 0]) (pc := 323) (dec_at lsk_218 (k := 195) rfl) rfl ?_
    exact h
theorem k_218_157 {d : Nat} {Q : uS → Prop} {u : uS} {l1 l2 : Int} (h : (rI l2) ∧ (if l2 < 10 then (K_218 d 165 [.ref 271, iV l1, iV l2, iV 0, .retAddr 0, .retAddr 0, .retAddr 0] [] u Q) else (K_218 d 149 [.ref 271, iV (l1 + 1), .retAddr 0, .retAddr 0, .retAddr 0, .retAddr 0, .retAddr 0] [] u Q))) : K_218 d 157 [.ref 271, iV l1, iV l2, .retAddr 0, .retAddr 0, .retAddr 0, .retAddr 0] [] u Q := by
  unfold K_218
  refine u_ld (v := iV l2) (pc := 157) (dec_at lsk_218 (k := 96) rfl) rfl ?_
  refine u_c (x := 10) (pc := 158) (dec_at lsk_218 (k := 97) rfl) rfl (by decide) ?_
  have g1 := h.1
  have h := h.2
  refine u_icF (pc := 160) (tgt := 316) (dec_at lsk_218 (k := 98) rfl) rfl (ci_ge g1 (by decide)) (fun e2 => ?_) (fun e2 => ?_)
  · have h := ifT e2 h
    refine u_ld (v := iV 0) (pc := 163) (dec_at lsk_218 (k := 99) rfl) rfl ?_
    refine u_sto (lv' := [.ref 271, iV l1, iV l2, iV 0, .retAddr 0, .retAddr 0, .retAddr 0]) (pc := 164) (dec_at lsk_218 (k := 100) rfl) rfl ?_
    exact h
  · have h := ifF e2 h
    refine u_inc (lv' := [.ref 271, iV (l1 + 1), iV l2, .retAddr 0, .retAddr 0, .retAddr 0, .retAddr 0]) (pc := 316) (dec_at lsk_218 (k := 192) rfl) rfl (by decide) rfl ?_
    refine u_goto (pc := 319) (tgt := 149) (dec_at lsk_218 (k := 193) rfl) rfl ?_
    exact u_weak (sbK (sbK (sbD (sbK (sbK (sbK (sbK sb0))))))) h
theorem k_218_165 {d : Nat} {Q : uS → Prop} {u : uS} {l1 l2 l3 : Int} (h : (rI l3) ∧ (if l3 < 10 then ((0 ≤ (10 * l2) + l1) ∧ (((10 * l2) + l1 < 100) ∧ ((rI (u.1 290 ((10 * l2) + l1))) ∧ (if u.1 290 ((10 * l2) + l1) = 0 then ((0 ≤ (10 * l2) + l3) ∧ (((10 * l2) + l3 < 100) ∧ ((rI (u.1 290 ((10 * l2) + l3))) ∧ (if u.1 290 ((10 * l2) + l3) = 0 then (K_218 d 240 [.ref 271, iV l1, iV l2, iV l3, iV 0, .retAddr 0, .retAddr 0] [iV 0, iV ((10 * l2) + l3), .ref 290] u Q) else (K_218 d 240 [.ref 271, iV l1, iV l2, iV l3, iV 0, .retAddr 0, .retAddr 0] [iV 1, iV ((10 * l2) + l3), .ref 290] u Q))))) else ((0 ≤ (10 * l1) + l3) ∧ (((10 * l1) + l3 < 100) ∧ ((rI (u.1 290 ((10 * l1) + l3))) ∧ (if u.1 290 ((10 * l1) + l3) = 0 then ((0 ≤ (10 * l2) + l3) ∧ (((10 * l2) + l3 < 100) ∧ ((rI (u.1 290 ((10 * l2) + l3))) ∧ (if u.1 290 ((10 * l2) + l3) = 0 then (K_218 d 240 [.ref 271, iV l1, iV l2, iV l3, iV 0, .retAddr 0, .retAddr 0] [iV 0, iV ((10 * l2) + l3), .ref 290] u Q) else (K_218 d 240 [.ref 271, iV l1, iV l2, iV l3, iV 0, .retAddr 0, .retAddr 0] [iV 1, iV ((10 * l2) + l3), .ref 290] u Q))))) else ((0 ≤ (10 * l2) + l3) ∧ (((10 * l2) + l3 < 100) ∧ ((rI (u.1 290 ((10 * l2) + l3))) ∧ (if u.1 290 ((10 * l2) + l3) = 0 then (K_218 d 240 [.ref 271, iV l1, iV l2, iV l3, iV 1, .retAddr 0, .retAddr 0] [iV 1, iV ((10 * l2) + l3), .ref 290] u Q) else (K_218 d 240 [.ref 271, iV l1, iV l2, iV l3, iV 1, .retAddr 0, .retAddr 0] [iV 1, iV ((10 * l2) + l3), .ref 290] u Q))))))))))))) else (K_218 d 157 [.ref 271, iV l1, iV (l2 + 1), .retAddr 0, .retAddr 0, .retAddr 0, .retAddr 0] [] u Q))) : K_218 d 165 [.ref 271, iV l1, iV l2, iV l3, .retAddr 0, .retAddr 0, .retAddr 0] [] u Q := by
  unfold K_218
  refine u_ld (v := iV l3) (pc := 165) (dec_at lsk_218 (k := 101) rfl) rfl ?_
  refine u_c (x := 10) (pc := 166) (dec_at lsk_218 (k := 102) rfl) rfl (by decide) ?_
  have g1 := h.1
  have h := h.2
  refine u_icF (pc := 168) (tgt := 310) (dec_at lsk_218 (k := 103) rfl) rfl (ci_ge g1 (by decide)) (fun e2 => ?_) (fun e2 => ?_)
  · have h := ifT e2 h
    refine u_ld (v := .ref 271) (pc := 171) (dec_at lsk_218 (k := 104) rfl) rfl ?_
    refine u_gS (o := 19) (p := 290) (pc := 172) (dec_at lsk_218 (k := 105) rfl) f_12_66 sx_271 rfl rfl ?_
    refine u_c (x := 10) (pc := 175) (dec_at lsk_218 (k := 106) rfl) rfl (by decide) ?_
    refine u_ld (v := iV l2) (pc := 177) (dec_at lsk_218 (k := 107) rfl) rfl ?_
    refine u_imul (pc := 178) (dec_at lsk_218 (k := 108) rfl) ?_
    refine u_ld (v := iV l1) (pc := 179) (dec_at lsk_218 (k := 109) rfl) rfl ?_
    refine u_iadd (pc := 180) (dec_at lsk_218 (k := 110) rfl) ?_
    have g3 := h.1
    have h := h.2
    have g4 := h.1
    have h := h.2
    refine u_zald (pc := 181) (dec_at lsk_218 (k := 111) rfl) sx_290 g3 g4 ?_
    have g5 := h.1
    have h := h.2
    refine u_ifT (pc := 182) (tgt := 203) (dec_at lsk_218 (k := 112) rfl) rfl (c0_eq g5) (fun e6 => ?_) (fun e6 => ?_)
    · have h := ifT e6 h
      refine u_ld (v := iV 0) (pc := 203) (dec_at lsk_218 (k := 124) rfl) rfl ?_
      refine u_sto (lv' := [.ref 271, iV l1, iV l2, iV l3, iV 0, .retAddr 0, .retAddr 0]) (pc := 204) (dec_at lsk_218 (k := 125) rfl) rfl ?_
      refine u_ld (v := .ref 271) (pc := 206) (dec_at lsk_218 (k := 126) rfl) rfl ?_
      refine u_gS (o := 19) (p := 290) (pc := 207) (dec_at lsk_218 (k := 127) rfl) f_12_66 sx_271 rfl rfl ?_
      refine u_c (x := 10) (pc := 210) (dec_at lsk_218 (k := 128) rfl) rfl (by decide) ?_
      refine u_ld (v := iV l2) (pc := 212) (dec_at lsk_218 (k := 129) rfl) rfl ?_
      refine u_imul (pc := 213) (dec_at lsk_218 (k := 130) rfl) ?_
      refine u_ld (v := iV l3) (pc := 214) (dec_at lsk_218 (k := 131) rfl) rfl ?_
      refine u_iadd (pc := 215) (dec_at lsk_218 (k := 132) rfl) ?_
      refine u_ld (v := .ref 271) (pc := 216) (dec_at lsk_218 (k := 133) rfl) rfl ?_
      refine u_gS (o := 19) (p := 290) (pc := 217) (dec_at lsk_218 (k := 134) rfl) f_12_66 sx_271 rfl rfl ?_
      refine u_c (x := 10) (pc := 220) (dec_at lsk_218 (k := 135) rfl) rfl (by decide) ?_
      refine u_ld (v := iV l2) (pc := 222) (dec_at lsk_218 (k := 136) rfl) rfl ?_
      refine u_imul (pc := 223) (dec_at lsk_218 (k := 137) rfl) ?_
      refine u_ld (v := iV l3) (pc := 224) (dec_at lsk_218 (k := 138) rfl) rfl ?_
      refine u_iadd (pc := 225) (dec_at lsk_218 (k := 139) rfl) ?_
      have g7 := h.1
      have h := h.2
      have g8 := h.1
      have h := h.2
      refine u_zald (pc := 226) (dec_at lsk_218 (k := 140) rfl) sx_290 g7 g8 ?_
      have g9 := h.1
      have h := h.2
      refine u_ifF (pc := 227) (tgt := 235) (dec_at lsk_218 (k := 141) rfl) rfl (c0_ne g9) (fun e10 => ?_) (fun e10 => ?_)
      · have h := ifT e10 h
        refine u_ld (v := iV 0) (pc := 230) (dec_at lsk_218 (k := 142) rfl) rfl ?_
        refine u_ifT (pc := 232) (tgt := 239) (dec_at lsk_218 (k := 143) rfl) rfl (c0_eq (by decide)) (fun _ => ?_) (fun e => absurd e (by decide))
        refine u_ld (v := iV 0) (pc := 239) (dec_at lsk_218 (k := 146) rfl) rfl ?_
        exact h
      · have h := ifF e10 h
        refine u_ld (v := iV 1) (pc := 235) (dec_at lsk_218 (k := 144) rfl) rfl ?_
        refine u_goto (pc := 236) (tgt := 240) (dec_at lsk_218 (k := 145) rfl) rfl ?_
        exact h
    · have h := ifF e6 h
      refine u_ld (v := .ref 271) (pc := 185) (dec_at lsk_218 (k := 113) rfl) rfl ?_
      refine u_gS (o := 19) (p := 290) (pc := 186) (dec_at lsk_218 (k := 114) rfl) f_12_66 sx_271 rfl rfl ?_
      refine u_c (x := 10) (pc := 189) (dec_at lsk_218 (k := 115) rfl) rfl (by decide) ?_
      refine u_ld (v := iV l1) (pc := 191) (dec_at lsk_218 (k := 116) rfl) rfl ?_
      refine u_imul (pc := 192) (dec_at lsk_218 (k := 117) rfl) ?_
      refine u_ld (v := iV l3) (pc := 193) (dec_at lsk_218 (k := 118) rfl) rfl ?_
      refine u_iadd (pc := 194) (dec_at lsk_218 (k := 119) rfl) ?_
      have g11 := h.1
      have h := h.2
      have g12 := h.1
      have h := h.2
      refine u_zald (pc := 195) (dec_at lsk_218 (k := 120) rfl) sx_290 g11 g12 ?_
      have g13 := h.1
      have h := h.2
      refine u_ifT (pc := 196) (tgt := 203) (dec_at lsk_218 (k := 121) rfl) rfl (c0_eq g13) (fun e14 => ?_) (fun e14 => ?_)
      · have h := ifT e14 h
        refine u_ld (v := iV 0) (pc := 203) (dec_at lsk_218 (k := 124) rfl) rfl ?_
        refine u_sto (lv' := [.ref 271, iV l1, iV l2, iV l3, iV 0, .retAddr 0, .retAddr 0]) (pc := 204) (dec_at lsk_218 (k := 125) rfl) rfl ?_
        refine u_ld (v := .ref 271) (pc := 206) (dec_at lsk_218 (k := 126) rfl) rfl ?_
        refine u_gS (o := 19) (p := 290) (pc := 207) (dec_at lsk_218 (k := 127) rfl) f_12_66 sx_271 rfl rfl ?_
        refine u_c (x := 10) (pc := 210) (dec_at lsk_218 (k := 128) rfl) rfl (by decide) ?_
        refine u_ld (v := iV l2) (pc := 212) (dec_at lsk_218 (k := 129) rfl) rfl ?_
        refine u_imul (pc := 213) (dec_at lsk_218 (k := 130) rfl) ?_
        refine u_ld (v := iV l3) (pc := 214) (dec_at lsk_218 (k := 131) rfl) rfl ?_
        refine u_iadd (pc := 215) (dec_at lsk_218 (k := 132) rfl) ?_
        refine u_ld (v := .ref 271) (pc := 216) (dec_at lsk_218 (k := 133) rfl) rfl ?_
        refine u_gS (o := 19) (p := 290) (pc := 217) (dec_at lsk_218 (k := 134) rfl) f_12_66 sx_271 rfl rfl ?_
        refine u_c (x := 10) (pc := 220) (dec_at lsk_218 (k := 135) rfl) rfl (by decide) ?_
        refine u_ld (v := iV l2) (pc := 222) (dec_at lsk_218 (k := 136) rfl) rfl ?_
        refine u_imul (pc := 223) (dec_at lsk_218 (k := 137) rfl) ?_
        refine u_ld (v := iV l3) (pc := 224) (dec_at lsk_218 (k := 138) rfl) rfl ?_
        refine u_iadd (pc := 225) (dec_at lsk_218 (k := 139) rfl) ?_
        have g15 := h.1
        have h := h.2
        have g16 := h.1
        have h := h.2
        refine u_zald (pc := 226) (dec_at lsk_218 (k := 140) rfl) sx_290 g15 g16 ?_
        have g17 := h.1
        have h := h.2
        refine u_ifF (pc := 227) (tgt := 235) (dec_at lsk_218 (k := 141) rfl) rfl (c0_ne g17) (fun e18 => ?_) (fun e18 => ?_)
        · have h := ifT e18 h
          refine u_ld (v := iV 0) (pc := 230) (dec_at lsk_218 (k := 142) rfl) rfl ?_
          refine u_ifT (pc := 232) (tgt := 239) (dec_at lsk_218 (k := 143) rfl) rfl (c0_eq (by decide)) (fun _ => ?_) (fun e => absurd e (by decide))
          refine u_ld (v := iV 0) (pc := 239) (dec_at lsk_218 (k := 146) rfl) rfl ?_
          exact h
        · have h := ifF e18 h
          refine u_ld (v := iV 1) (pc := 235) (dec_at lsk_218 (k := 144) rfl) rfl ?_
          refine u_goto (pc := 236) (tgt := 240) (dec_at lsk_218 (k := 145) rfl) rfl ?_
          exact h
      · have h := ifF e14 h
        refine u_ld (v := iV 1) (pc := 199) (dec_at lsk_218 (k := 122) rfl) rfl ?_
        refine u_goto (pc := 200) (tgt := 204) (dec_at lsk_218 (k := 123) rfl) rfl ?_
        refine u_sto (lv' := [.ref 271, iV l1, iV l2, iV l3, iV 1, .retAddr 0, .retAddr 0]) (pc := 204) (dec_at lsk_218 (k := 125) rfl) rfl ?_
        refine u_ld (v := .ref 271) (pc := 206) (dec_at lsk_218 (k := 126) rfl) rfl ?_
        refine u_gS (o := 19) (p := 290) (pc := 207) (dec_at lsk_218 (k := 127) rfl) f_12_66 sx_271 rfl rfl ?_
        refine u_c (x := 10) (pc := 210) (dec_at lsk_218 (k := 128) rfl) rfl (by decide) ?_
        refine u_ld (v := iV l2) (pc := 212) (dec_at lsk_218 (k := 129) rfl) rfl ?_
        refine u_imul (pc := 213) (dec_at lsk_218 (k := 130) rfl) ?_
        refine u_ld (v := iV l3) (pc := 214) (dec_at lsk_218 (k := 131) rfl) rfl ?_
        refine u_iadd (pc := 215) (dec_at lsk_218 (k := 132) rfl) ?_
        refine u_ld (v := .ref 271) (pc := 216) (dec_at lsk_218 (k := 133) rfl) rfl ?_
        refine u_gS (o := 19) (p := 290) (pc := 217) (dec_at lsk_218 (k := 134) rfl) f_12_66 sx_271 rfl rfl ?_
        refine u_c (x := 10) (pc := 220) (dec_at lsk_218 (k := 135) rfl) rfl (by decide) ?_
        refine u_ld (v := iV l2) (pc := 222) (dec_at lsk_218 (k := 136) rfl) rfl ?_
        refine u_imul (pc := 223) (dec_at lsk_218 (k := 137) rfl) ?_
        refine u_ld (v := iV l3) (pc := 224) (dec_at lsk_218 (k := 138) rfl) rfl ?_
        refine u_iadd (pc := 225) (dec_at lsk_218 (k := 139) rfl) ?_
        have g19 := h.1
        have h := h.2
        have g20 := h.1
        have h := h.2
        refine u_zald (pc := 226) (dec_at lsk_218 (k := 140) rfl) sx_290 g19 g20 ?_
        have g21 := h.1
        have h := h.2
        refine u_ifF (pc := 227) (tgt := 235) (dec_at lsk_218 (k := 141) rfl) rfl (c0_ne g21) (fun e22 => ?_) (fun e22 => ?_)
        · have h := ifT e22 h
          refine u_ld (v := iV 1) (pc := 230) (dec_at lsk_218 (k := 142) rfl) rfl ?_
          refine u_ifT (pc := 232) (tgt := 239) (dec_at lsk_218 (k := 143) rfl) rfl (c0_eq (by decide)) (fun e => absurd e (by decide)) (fun _ => ?_)
          refine u_ld (v := iV 1) (pc := 235) (dec_at lsk_218 (k := 144) rfl) rfl ?_
          refine u_goto (pc := 236) (tgt := 240) (dec_at lsk_218 (k := 145) rfl) rfl ?_
          exact h
        · have h := ifF e22 h
          refine u_ld (v := iV 1) (pc := 235) (dec_at lsk_218 (k := 144) rfl) rfl ?_
          refine u_goto (pc := 236) (tgt := 240) (dec_at lsk_218 (k := 145) rfl) rfl ?_
          exact h
  · have h := ifF e2 h
    refine u_inc (lv' := [.ref 271, iV l1, iV (l2 + 1), iV l3, .retAddr 0, .retAddr 0, .retAddr 0]) (pc := 310) (dec_at lsk_218 (k := 190) rfl) rfl (by decide) rfl ?_
    refine u_goto (pc := 313) (tgt := 157) (dec_at lsk_218 (k := 191) rfl) rfl ?_
    exact u_weak (sbK (sbK (sbK (sbD (sbK (sbK (sbK sb0))))))) h
theorem k_218_240 {d : Nat} {Q : uS → Prop} {u : uS} {s0 : Nat} {l1 l2 l3 l4 s1 s2 : Int} {ns0 : Nat} (hAs0 : isA s0 2 ns0) (h : (0 ≤ s1) ∧ ((s1 < (ns0 : Int)) ∧ ((s2 = 0 ∨ s2 = 1) ∧ (∀ u4 : uS, u4 = wr u s0 s1 s2 → ((0 ≤ (10 * l2) + l3) ∧ (((10 * l2) + l3 < 100) ∧ ((rI (u4.1 291 ((10 * l2) + l3))) ∧ (if u4.1 291 ((10 * l2) + l3) = 0 then ((rI l4) ∧ (if l4 = 0 then (∀ u12 : uS, u12 = wr u4 291 ((10 * l2) + l3) 0 → (K_218 d 165 [.ref 271, iV l1, iV l2, iV (l3 + 1), .retAddr 0, .retAddr 0, .retAddr 0] [] u12 Q)) else ((0 ≤ (10 * l2) + l1) ∧ (((10 * l2) + l1 < 100) ∧ ((rI (u4.1 291 ((10 * l2) + l1))) ∧ (if u4.1 291 ((10 * l2) + l1) = 0 then ((0 ≤ (10 * l1) + l3) ∧ (((10 * l1) + l3 < 100) ∧ ((rI (u4.1 291 ((10 * l1) + l3))) ∧ (if u4.1 291 ((10 * l1) + l3) = 0 then (∀ u22 : uS, u22 = wr u4 291 ((10 * l2) + l3) 0 → (K_218 d 165 [.ref 271, iV l1, iV l2, iV (l3 + 1), .retAddr 0, .retAddr 0, .retAddr 0] [] u22 Q)) else (∀ u24 : uS, u24 = wr u4 291 ((10 * l2) + l3) 1 → (K_218 d 165 [.ref 271, iV l1, iV l2, iV (l3 + 1), .retAddr 0, .retAddr 0, .retAddr 0] [] u24 Q)))))) else (∀ u26 : uS, u26 = wr u4 291 ((10 * l2) + l3) 1 → (K_218 d 165 [.ref 271, iV l1, iV l2, iV (l3 + 1), .retAddr 0, .retAddr 0, .retAddr 0] [] u26 Q)))))))) else (∀ u28 : uS, u28 = wr u4 291 ((10 * l2) + l3) 1 → (K_218 d 165 [.ref 271, iV l1, iV l2, iV (l3 + 1), .retAddr 0, .retAddr 0, .retAddr 0] [] u28 Q)))))))))) : K_218 d 240 [.ref 271, iV l1, iV l2, iV l3, iV l4, .retAddr 0, .retAddr 0] [iV s2, iV s1, .ref s0] u Q := by
  unfold K_218
  have g1 := h.1
  have h := h.2
  have g2 := h.1
  have h := h.2
  have g3 := h.1
  have h := h.2
  refine u_zast (pc := 240) (dec_at lsk_218 (k := 147) rfl) hAs0 g1 g2 g3 (fun u4 e5 => ?_)
  have h := h u4 e5
  refine u_ld (v := .ref 271) (pc := 241) (dec_at lsk_218 (k := 148) rfl) rfl ?_
  refine u_gS (o := 20) (p := 291) (pc := 242) (dec_at lsk_218 (k := 149) rfl) f_12_69 sx_271 rfl rfl ?_
  refine u_c (x := 10) (pc := 245) (dec_at lsk_218 (k := 150) rfl) rfl (by decide) ?_
  refine u_ld (v := iV l2) (pc := 247) (dec_at lsk_218 (k := 151) rfl) rfl ?_
  refine u_imul (pc := 248) (dec_at lsk_218 (k := 152) rfl) ?_
  refine u_ld (v := iV l3) (pc := 249) (dec_at lsk_218 (k := 153) rfl) rfl ?_
  refine u_iadd (pc := 250) (dec_at lsk_218 (k := 154) rfl) ?_
  refine u_ld (v := .ref 271) (pc := 251) (dec_at lsk_218 (k := 155) rfl) rfl ?_
  refine u_gS (o := 20) (p := 291) (pc := 252) (dec_at lsk_218 (k := 156) rfl) f_12_69 sx_271 rfl rfl ?_
  refine u_c (x := 10) (pc := 255) (dec_at lsk_218 (k := 157) rfl) rfl (by decide) ?_
  refine u_ld (v := iV l2) (pc := 257) (dec_at lsk_218 (k := 158) rfl) rfl ?_
  refine u_imul (pc := 258) (dec_at lsk_218 (k := 159) rfl) ?_
  refine u_ld (v := iV l3) (pc := 259) (dec_at lsk_218 (k := 160) rfl) rfl ?_
  refine u_iadd (pc := 260) (dec_at lsk_218 (k := 161) rfl) ?_
  have g6 := h.1
  have h := h.2
  have g7 := h.1
  have h := h.2
  refine u_zald (pc := 261) (dec_at lsk_218 (k := 162) rfl) sx_291 g6 g7 ?_
  have g8 := h.1
  have h := h.2
  refine u_ifF (pc := 262) (tgt := 298) (dec_at lsk_218 (k := 163) rfl) rfl (c0_ne g8) (fun e9 => ?_) (fun e9 => ?_)
  · have h := ifT e9 h
    refine u_ld (v := iV l4) (pc := 265) (dec_at lsk_218 (k := 164) rfl) rfl ?_
    have g10 := h.1
    have h := h.2
    refine u_ifT (pc := 267) (tgt := 302) (dec_at lsk_218 (k := 165) rfl) rfl (c0_eq g10) (fun e11 => ?_) (fun e11 => ?_)
    · have h := ifT e11 h
      refine u_ld (v := iV 0) (pc := 302) (dec_at lsk_218 (k := 186) rfl) rfl ?_
      refine u_zast (pc := 303) (dec_at lsk_218 (k := 187) rfl) sx_291 g6 g7 (by decide) (fun u12 e13 => ?_)
      have h := h u12 e13
      refine u_inc (lv' := [.ref 271, iV l1, iV l2, iV (l3 + 1), iV l4, .retAddr 0, .retAddr 0]) (pc := 304) (dec_at lsk_218 (k := 188) rfl) rfl (by decide) rfl ?_
      refine u_goto (pc := 307) (tgt := 165) (dec_at lsk_218 (k := 189) rfl) rfl ?_
      exact u_weak (sbK (sbK (sbK (sbK (sbD (sbK (sbK sb0))))))) h
    · have h := ifF e11 h
      refine u_ld (v := .ref 271) (pc := 270) (dec_at lsk_218 (k := 166) rfl) rfl ?_
      refine u_gS (o := 20) (p := 291) (pc := 271) (dec_at lsk_218 (k := 167) rfl) f_12_69 sx_271 rfl rfl ?_
      refine u_c (x := 10) (pc := 274) (dec_at lsk_218 (k := 168) rfl) rfl (by decide) ?_
      refine u_ld (v := iV l2) (pc := 276) (dec_at lsk_218 (k := 169) rfl) rfl ?_
      refine u_imul (pc := 277) (dec_at lsk_218 (k := 170) rfl) ?_
      refine u_ld (v := iV l1) (pc := 278) (dec_at lsk_218 (k := 171) rfl) rfl ?_
      refine u_iadd (pc := 279) (dec_at lsk_218 (k := 172) rfl) ?_
      have g14 := h.1
      have h := h.2
      have g15 := h.1
      have h := h.2
      refine u_zald (pc := 280) (dec_at lsk_218 (k := 173) rfl) sx_291 g14 g15 ?_
      have g16 := h.1
      have h := h.2
      refine u_ifF (pc := 281) (tgt := 298) (dec_at lsk_218 (k := 174) rfl) rfl (c0_ne g16) (fun e17 => ?_) (fun e17 => ?_)
      · have h := ifT e17 h
        refine u_ld (v := .ref 271) (pc := 284) (dec_at lsk_218 (k := 175) rfl) rfl ?_
        refine u_gS (o := 20) (p := 291) (pc := 285) (dec_at lsk_218 (k := 176) rfl) f_12_69 sx_271 rfl rfl ?_
        refine u_c (x := 10) (pc := 288) (dec_at lsk_218 (k := 177) rfl) rfl (by decide) ?_
        refine u_ld (v := iV l1) (pc := 290) (dec_at lsk_218 (k := 178) rfl) rfl ?_
        refine u_imul (pc := 291) (dec_at lsk_218 (k := 179) rfl) ?_
        refine u_ld (v := iV l3) (pc := 292) (dec_at lsk_218 (k := 180) rfl) rfl ?_
        refine u_iadd (pc := 293) (dec_at lsk_218 (k := 181) rfl) ?_
        have g18 := h.1
        have h := h.2
        have g19 := h.1
        have h := h.2
        refine u_zald (pc := 294) (dec_at lsk_218 (k := 182) rfl) sx_291 g18 g19 ?_
        have g20 := h.1
        have h := h.2
        refine u_ifT (pc := 295) (tgt := 302) (dec_at lsk_218 (k := 183) rfl) rfl (c0_eq g20) (fun e21 => ?_) (fun e21 => ?_)
        · have h := ifT e21 h
          refine u_ld (v := iV 0) (pc := 302) (dec_at lsk_218 (k := 186) rfl) rfl ?_
          refine u_zast (pc := 303) (dec_at lsk_218 (k := 187) rfl) sx_291 g6 g7 (by decide) (fun u22 e23 => ?_)
          have h := h u22 e23
          refine u_inc (lv' := [.ref 271, iV l1, iV l2, iV (l3 + 1), iV l4, .retAddr 0, .retAddr 0]) (pc := 304) (dec_at lsk_218 (k := 188) rfl) rfl (by decide) rfl ?_
          refine u_goto (pc := 307) (tgt := 165) (dec_at lsk_218 (k := 189) rfl) rfl ?_
          exact u_weak (sbK (sbK (sbK (sbK (sbD (sbK (sbK sb0))))))) h
        · have h := ifF e21 h
          refine u_ld (v := iV 1) (pc := 298) (dec_at lsk_218 (k := 184) rfl) rfl ?_
          refine u_goto (pc := 299) (tgt := 303) (dec_at lsk_218 (k := 185) rfl) rfl ?_
          refine u_zast (pc := 303) (dec_at lsk_218 (k := 187) rfl) sx_291 g6 g7 (by decide) (fun u24 e25 => ?_)
          have h := h u24 e25
          refine u_inc (lv' := [.ref 271, iV l1, iV l2, iV (l3 + 1), iV l4, .retAddr 0, .retAddr 0]) (pc := 304) (dec_at lsk_218 (k := 188) rfl) rfl (by decide) rfl ?_
          refine u_goto (pc := 307) (tgt := 165) (dec_at lsk_218 (k := 189) rfl) rfl ?_
          exact u_weak (sbK (sbK (sbK (sbK (sbD (sbK (sbK sb0))))))) h
      · have h := ifF e17 h
        refine u_ld (v := iV 1) (pc := 298) (dec_at lsk_218 (k := 184) rfl) rfl ?_
        refine u_goto (pc := 299) (tgt := 303) (dec_at lsk_218 (k := 185) rfl) rfl ?_
        refine u_zast (pc := 303) (dec_at lsk_218 (k := 187) rfl) sx_291 g6 g7 (by decide) (fun u26 e27 => ?_)
        have h := h u26 e27
        refine u_inc (lv' := [.ref 271, iV l1, iV l2, iV (l3 + 1), iV l4, .retAddr 0, .retAddr 0]) (pc := 304) (dec_at lsk_218 (k := 188) rfl) rfl (by decide) rfl ?_
        refine u_goto (pc := 307) (tgt := 165) (dec_at lsk_218 (k := 189) rfl) rfl ?_
        exact u_weak (sbK (sbK (sbK (sbK (sbD (sbK (sbK sb0))))))) h
  · have h := ifF e9 h
    refine u_ld (v := iV 1) (pc := 298) (dec_at lsk_218 (k := 184) rfl) rfl ?_
    refine u_goto (pc := 299) (tgt := 303) (dec_at lsk_218 (k := 185) rfl) rfl ?_
    refine u_zast (pc := 303) (dec_at lsk_218 (k := 187) rfl) sx_291 g6 g7 (by decide) (fun u28 e29 => ?_)
    have h := h u28 e29
    refine u_inc (lv' := [.ref 271, iV l1, iV l2, iV (l3 + 1), iV l4, .retAddr 0, .retAddr 0]) (pc := 304) (dec_at lsk_218 (k := 188) rfl) rfl (by decide) rfl ?_
    refine u_goto (pc := 307) (tgt := 165) (dec_at lsk_218 (k := 189) rfl) rfl ?_
    exact u_weak (sbK (sbK (sbK (sbK (sbD (sbK (sbK sb0))))))) h
theorem k_218_324 {d : Nat} {Q : uS → Prop} {u : uS} {l1 : Int} (h : (rI l1) ∧ (if l1 < 10 then (K_218 d 332 [.ref 271, iV l1, iV 0, .retAddr 0, .retAddr 0, .retAddr 0, .retAddr 0] [] u Q) else (K_218 d 479 [.ref 271, iV 0, .retAddr 0, .retAddr 0, .retAddr 0, .retAddr 0, .retAddr 0] [] u Q))) : K_218 d 324 [.ref 271, iV l1, .retAddr 0, .retAddr 0, .retAddr 0, .retAddr 0, .retAddr 0] [] u Q := by
  unfold K_218
  refine u_ld (v := iV l1) (pc := 324) (dec_at lsk_218 (k := 196) rfl) rfl ?_
  refine u_c (x := 10) (pc := 325) (dec_at lsk_218 (k := 197) rfl) rfl (by decide) ?_
  have g1 := h.1
  have h := h.2
  refine u_icF (pc := 327) (tgt := 477) (dec_at lsk_218 (k := 198) rfl) rfl (ci_ge g1 (by decide)) (fun e2 => ?_) (fun e2 => ?_)
  · have h := ifT e2 h
    refine u_ld (v := iV 0) (pc := 330) (dec_at lsk_218 (k := 199) rfl) rfl ?_
    refine u_sto (lv' := [.ref 271, iV l1, iV 0, .retAddr 0, .retAddr 0, .retAddr 0, .retAddr 0]) (pc := 331) (dec_at lsk_218 (k := 200) rfl) rfl ?_
    exact h
  · have h := ifF e2 h
    refine u_ld (v := iV 0) (pc := 477) (dec_at lsk_218 (k := 284) rfl) rfl ?_
    refine u_sto (lv' := [.ref 271, iV 0, .retAddr 0, .retAddr 0, .retAddr 0, .retAddr 0, .retAddr 0]) (pc := 478) (dec_at lsk_218 (k := 285) rfl) rfl ?_
    exact h
theorem k_218_332 {d : Nat} {Q : uS → Prop} {u : uS} {l1 l2 : Int} (h : (rI l2) ∧ (if l2 < 1000 then ((rI (l2.tdiv 10)) ∧ ((0 ≤ (10 * (l2.tdiv 100)) + ((l2.tdiv 10).tmod 10)) ∧ (((10 * (l2.tdiv 100)) + ((l2.tdiv 10).tmod 10) < 100) ∧ ((rI (u.1 290 ((10 * (l2.tdiv 100)) + ((l2.tdiv 10).tmod 10)))) ∧ (if u.1 290 ((10 * (l2.tdiv 100)) + ((l2.tdiv 10).tmod 10)) = 0 then (K_218 d 395 [.ref 271, iV l1, iV l2, iV (l2.tdiv 100), iV ((l2.tdiv 10).tmod 10), iV (l2.tmod 10), .retAddr 0] [iV 0] u Q) else ((0 ≤ (10 * ((l2.tdiv 10).tmod 10)) + (l2.tmod 10)) ∧ (((10 * ((l2.tdiv 10).tmod 10)) + (l2.tmod 10) < 100) ∧ ((rI (u.1 290 ((10 * ((l2.tdiv 10).tmod 10)) + (l2.tmod 10)))) ∧ (if u.1 290 ((10 * ((l2.tdiv 10).tmod 10)) + (l2.tmod 10)) = 0 then (K_218 d 395 [.ref 271, iV l1, iV l2, iV (l2.tdiv 100), iV ((l2.tdiv 10).tmod 10), iV (l2.tmod 10), .retAddr 0] [iV 0] u Q) else (K_218 d 395 [.ref 271, iV l1, iV l2, iV (l2.tdiv 100), iV ((l2.tdiv 10).tmod 10), iV (l2.tmod 10), .retAddr 0] [iV 1] u Q)))))))))) else (K_218 d 324 [.ref 271, iV (l1 + 1), .retAddr 0, .retAddr 0, .retAddr 0, .retAddr 0, .retAddr 0] [] u Q))) : K_218 d 332 [.ref 271, iV l1, iV l2, .retAddr 0, .retAddr 0, .retAddr 0, .retAddr 0] [] u Q := by
  unfold K_218
  refine u_ld (v := iV l2) (pc := 332) (dec_at lsk_218 (k := 201) rfl) rfl ?_
  refine u_c (x := 1000) (pc := 333) (dec_at lsk_218 (k := 202) rfl) rfl (by decide) ?_
  have g1 := h.1
  have h := h.2
  refine u_icF (pc := 336) (tgt := 471) (dec_at lsk_218 (k := 203) rfl) rfl (ci_ge g1 (by decide)) (fun e2 => ?_) (fun e2 => ?_)
  · have h := ifT e2 h
    refine u_ld (v := iV l2) (pc := 339) (dec_at lsk_218 (k := 204) rfl) rfl ?_
    refine u_c (x := 100) (pc := 340) (dec_at lsk_218 (k := 205) rfl) rfl (by decide) ?_
    refine u_idiv (pc := 342) (dec_at lsk_218 (k := 206) rfl) g1 (by decide) (by decide) ?_
    refine u_sto (lv' := [.ref 271, iV l1, iV l2, iV (l2.tdiv 100), .retAddr 0, .retAddr 0, .retAddr 0]) (pc := 343) (dec_at lsk_218 (k := 207) rfl) rfl ?_
    refine u_ld (v := iV l2) (pc := 344) (dec_at lsk_218 (k := 208) rfl) rfl ?_
    refine u_c (x := 10) (pc := 345) (dec_at lsk_218 (k := 209) rfl) rfl (by decide) ?_
    refine u_idiv (pc := 347) (dec_at lsk_218 (k := 210) rfl) g1 (by decide) (by decide) ?_
    refine u_c (x := 10) (pc := 348) (dec_at lsk_218 (k := 211) rfl) rfl (by decide) ?_
    have g3 := h.1
    have h := h.2
    refine u_irem (pc := 350) (dec_at lsk_218 (k := 212) rfl) g3 (by decide) (by decide) ?_
    refine u_sto (lv' := [.ref 271, iV l1, iV l2, iV (l2.tdiv 100), iV ((l2.tdiv 10).tmod 10), .retAddr 0, .retAddr 0]) (pc := 351) (dec_at lsk_218 (k := 213) rfl) rfl ?_
    refine u_ld (v := iV l2) (pc := 353) (dec_at lsk_218 (k := 214) rfl) rfl ?_
    refine u_c (x := 10) (pc := 354) (dec_at lsk_218 (k := 215) rfl) rfl (by decide) ?_
    refine u_irem (pc := 356) (dec_at lsk_218 (k := 216) rfl) g1 (by decide) (by decide) ?_
    refine u_sto (lv' := [.ref 271, iV l1, iV l2, iV (l2.tdiv 100), iV ((l2.tdiv 10).tmod 10), iV (l2.tmod 10), .retAddr 0]) (pc := 357) (dec_at lsk_218 (k := 217) rfl) rfl ?_
    refine u_ld (v := .ref 271) (pc := 359) (dec_at lsk_218 (k := 218) rfl) rfl ?_
    refine u_gS (o := 19) (p := 290) (pc := 360) (dec_at lsk_218 (k := 219) rfl) f_12_66 sx_271 rfl rfl ?_
    refine u_c (x := 10) (pc := 363) (dec_at lsk_218 (k := 220) rfl) rfl (by decide) ?_
    refine u_ld (v := iV (l2.tdiv 100)) (pc := 365) (dec_at lsk_218 (k := 221) rfl) rfl ?_
    refine u_imul (pc := 366) (dec_at lsk_218 (k := 222) rfl) ?_
    refine u_ld (v := iV ((l2.tdiv 10).tmod 10)) (pc := 367) (dec_at lsk_218 (k := 223) rfl) rfl ?_
    refine u_iadd (pc := 369) (dec_at lsk_218 (k := 224) rfl) ?_
    have g4 := h.1
    have h := h.2
    have g5 := h.1
    have h := h.2
    refine u_zald (pc := 370) (dec_at lsk_218 (k := 225) rfl) sx_290 g4 g5 ?_
    have g6 := h.1
    have h := h.2
    refine u_ifT (pc := 371) (tgt := 394) (dec_at lsk_218 (k := 226) rfl) rfl (c0_eq g6) (fun e7 => ?_) (fun e7 => ?_)
    · have h := ifT e7 h
      refine u_ld (v := iV 0) (pc := 394) (dec_at lsk_218 (k := 238) rfl) rfl ?_
      exact h
    · have h := ifF e7 h
      refine u_ld (v := .ref 271) (pc := 374) (dec_at lsk_218 (k := 227) rfl) rfl ?_
      refine u_gS (o := 19) (p := 290) (pc := 375) (dec_at lsk_218 (k := 228) rfl) f_12_66 sx_271 rfl rfl ?_
      refine u_c (x := 10) (pc := 378) (dec_at lsk_218 (k := 229) rfl) rfl (by decide) ?_
      refine u_ld (v := iV ((l2.tdiv 10).tmod 10)) (pc := 380) (dec_at lsk_218 (k := 230) rfl) rfl ?_
      refine u_imul (pc := 382) (dec_at lsk_218 (k := 231) rfl) ?_
      refine u_ld (v := iV (l2.tmod 10)) (pc := 383) (dec_at lsk_218 (k := 232) rfl) rfl ?_
      refine u_iadd (pc := 385) (dec_at lsk_218 (k := 233) rfl) ?_
      have g8 := h.1
      have h := h.2
      have g9 := h.1
      have h := h.2
      refine u_zald (pc := 386) (dec_at lsk_218 (k := 234) rfl) sx_290 g8 g9 ?_
      have g10 := h.1
      have h := h.2
      refine u_ifT (pc := 387) (tgt := 394) (dec_at lsk_218 (k := 235) rfl) rfl (c0_eq g10) (fun e11 => ?_) (fun e11 => ?_)
      · have h := ifT e11 h
        refine u_ld (v := iV 0) (pc := 394) (dec_at lsk_218 (k := 238) rfl) rfl ?_
        exact h
      · have h := ifF e11 h
        refine u_ld (v := iV 1) (pc := 390) (dec_at lsk_218 (k := 236) rfl) rfl ?_
        refine u_goto (pc := 391) (tgt := 395) (dec_at lsk_218 (k := 237) rfl) rfl ?_
        exact h
  · have h := ifF e2 h
    refine u_inc (lv' := [.ref 271, iV (l1 + 1), iV l2, .retAddr 0, .retAddr 0, .retAddr 0, .retAddr 0]) (pc := 471) (dec_at lsk_218 (k := 282) rfl) rfl (by decide) rfl ?_
    refine u_goto (pc := 474) (tgt := 324) (dec_at lsk_218 (k := 283) rfl) rfl ?_
    exact u_weak (sbK (sbK (sbD (sbK (sbK (sbK (sbK sb0))))))) h
theorem k_218_395 {d : Nat} {Q : uS → Prop} {u : uS} {l1 l2 l3 l4 l5 s0 : Int} (h : (0 ≤ (10 * l3) + l5) ∧ (((10 * l3) + l5 < 100) ∧ ((rI (u.1 291 ((10 * l3) + l5))) ∧ (if u.1 291 ((10 * l3) + l5) = 0 then ((rI s0) ∧ (if s0 = 0 then (∀ u7 : uS, u7 = wr u 291 ((10 * l3) + l5) 0 → (K_218 d 332 [.ref 271, iV l1, iV (l2 + 1), .retAddr 0, .retAddr 0, .retAddr 0, .retAddr 0] [] u7 Q)) else ((0 ≤ (10 * l3) + l4) ∧ (((10 * l3) + l4 < 100) ∧ ((rI (u.1 291 ((10 * l3) + l4))) ∧ (if u.1 291 ((10 * l3) + l4) = 0 then ((0 ≤ (10 * l4) + l5) ∧ (((10 * l4) + l5 < 100) ∧ ((rI (u.1 291 ((10 * l4) + l5))) ∧ (if u.1 291 ((10 * l4) + l5) = 0 then (∀ u17 : uS, u17 = wr u 291 ((10 * l3) + l5) 0 → (K_218 d 332 [.ref 271, iV l1, iV (l2 + 1), .retAddr 0, .retAddr 0, .retAddr 0, .retAddr 0] [] u17 Q)) else (∀ u19 : uS, u19 = wr u 291 ((10 * l3) + l5) 1 → (K_218 d 332 [.ref 271, iV l1, iV (l2 + 1), .retAddr 0, .retAddr 0, .retAddr 0, .retAddr 0] [] u19 Q)))))) else (∀ u21 : uS, u21 = wr u 291 ((10 * l3) + l5) 1 → (K_218 d 332 [.ref 271, iV l1, iV (l2 + 1), .retAddr 0, .retAddr 0, .retAddr 0, .retAddr 0] [] u21 Q)))))))) else (∀ u23 : uS, u23 = wr u 291 ((10 * l3) + l5) 1 → (K_218 d 332 [.ref 271, iV l1, iV (l2 + 1), .retAddr 0, .retAddr 0, .retAddr 0, .retAddr 0] [] u23 Q)))))) : K_218 d 395 [.ref 271, iV l1, iV l2, iV l3, iV l4, iV l5, .retAddr 0] [iV s0] u Q := by
  unfold K_218
  refine u_sto (lv' := [.ref 271, iV l1, iV l2, iV l3, iV l4, iV l5, iV s0]) (pc := 395) (dec_at lsk_218 (k := 239) rfl) rfl ?_
  refine u_ld (v := .ref 271) (pc := 397) (dec_at lsk_218 (k := 240) rfl) rfl ?_
  refine u_gS (o := 20) (p := 291) (pc := 398) (dec_at lsk_218 (k := 241) rfl) f_12_69 sx_271 rfl rfl ?_
  refine u_c (x := 10) (pc := 401) (dec_at lsk_218 (k := 242) rfl) rfl (by decide) ?_
  refine u_ld (v := iV l3) (pc := 403) (dec_at lsk_218 (k := 243) rfl) rfl ?_
  refine u_imul (pc := 404) (dec_at lsk_218 (k := 244) rfl) ?_
  refine u_ld (v := iV l5) (pc := 405) (dec_at lsk_218 (k := 245) rfl) rfl ?_
  refine u_iadd (pc := 407) (dec_at lsk_218 (k := 246) rfl) ?_
  refine u_ld (v := .ref 271) (pc := 408) (dec_at lsk_218 (k := 247) rfl) rfl ?_
  refine u_gS (o := 20) (p := 291) (pc := 409) (dec_at lsk_218 (k := 248) rfl) f_12_69 sx_271 rfl rfl ?_
  refine u_c (x := 10) (pc := 412) (dec_at lsk_218 (k := 249) rfl) rfl (by decide) ?_
  refine u_ld (v := iV l3) (pc := 414) (dec_at lsk_218 (k := 250) rfl) rfl ?_
  refine u_imul (pc := 415) (dec_at lsk_218 (k := 251) rfl) ?_
  refine u_ld (v := iV l5) (pc := 416) (dec_at lsk_218 (k := 252) rfl) rfl ?_
  refine u_iadd (pc := 418) (dec_at lsk_218 (k := 253) rfl) ?_
  have g1 := h.1
  have h := h.2
  have g2 := h.1
  have h := h.2
  refine u_zald (pc := 419) (dec_at lsk_218 (k := 254) rfl) sx_291 g1 g2 ?_
  have g3 := h.1
  have h := h.2
  refine u_ifF (pc := 420) (tgt := 459) (dec_at lsk_218 (k := 255) rfl) rfl (c0_ne g3) (fun e4 => ?_) (fun e4 => ?_)
  · have h := ifT e4 h
    refine u_ld (v := iV s0) (pc := 423) (dec_at lsk_218 (k := 256) rfl) rfl ?_
    have g5 := h.1
    have h := h.2
    refine u_ifT (pc := 425) (tgt := 463) (dec_at lsk_218 (k := 257) rfl) rfl (c0_eq g5) (fun e6 => ?_) (fun e6 => ?_)
    · have h := ifT e6 h
      refine u_ld (v := iV 0) (pc := 463) (dec_at lsk_218 (k := 278) rfl) rfl ?_
      refine u_zast (pc := 464) (dec_at lsk_218 (k := 279) rfl) sx_291 g1 g2 (by decide) (fun u7 e8 => ?_)
      have h := h u7 e8
      refine u_inc (lv' := [.ref 271, iV l1, iV (l2 + 1), iV l3, iV l4, iV l5, iV s0]) (pc := 465) (dec_at lsk_218 (k := 280) rfl) rfl (by decide) rfl ?_
      refine u_goto (pc := 468) (tgt := 332) (dec_at lsk_218 (k := 281) rfl) rfl ?_
      exact u_weak (sbK (sbK (sbK (sbD (sbD (sbD (sbD sb0))))))) h
    · have h := ifF e6 h
      refine u_ld (v := .ref 271) (pc := 428) (dec_at lsk_218 (k := 258) rfl) rfl ?_
      refine u_gS (o := 20) (p := 291) (pc := 429) (dec_at lsk_218 (k := 259) rfl) f_12_69 sx_271 rfl rfl ?_
      refine u_c (x := 10) (pc := 432) (dec_at lsk_218 (k := 260) rfl) rfl (by decide) ?_
      refine u_ld (v := iV l3) (pc := 434) (dec_at lsk_218 (k := 261) rfl) rfl ?_
      refine u_imul (pc := 435) (dec_at lsk_218 (k := 262) rfl) ?_
      refine u_ld (v := iV l4) (pc := 436) (dec_at lsk_218 (k := 263) rfl) rfl ?_
      refine u_iadd (pc := 438) (dec_at lsk_218 (k := 264) rfl) ?_
      have g9 := h.1
      have h := h.2
      have g10 := h.1
      have h := h.2
      refine u_zald (pc := 439) (dec_at lsk_218 (k := 265) rfl) sx_291 g9 g10 ?_
      have g11 := h.1
      have h := h.2
      refine u_ifF (pc := 440) (tgt := 459) (dec_at lsk_218 (k := 266) rfl) rfl (c0_ne g11) (fun e12 => ?_) (fun e12 => ?_)
      · have h := ifT e12 h
        refine u_ld (v := .ref 271) (pc := 443) (dec_at lsk_218 (k := 267) rfl) rfl ?_
        refine u_gS (o := 20) (p := 291) (pc := 444) (dec_at lsk_218 (k := 268) rfl) f_12_69 sx_271 rfl rfl ?_
        refine u_c (x := 10) (pc := 447) (dec_at lsk_218 (k := 269) rfl) rfl (by decide) ?_
        refine u_ld (v := iV l4) (pc := 449) (dec_at lsk_218 (k := 270) rfl) rfl ?_
        refine u_imul (pc := 451) (dec_at lsk_218 (k := 271) rfl) ?_
        refine u_ld (v := iV l5) (pc := 452) (dec_at lsk_218 (k := 272) rfl) rfl ?_
        refine u_iadd (pc := 454) (dec_at lsk_218 (k := 273) rfl) ?_
        have g13 := h.1
        have h := h.2
        have g14 := h.1
        have h := h.2
        refine u_zald (pc := 455) (dec_at lsk_218 (k := 274) rfl) sx_291 g13 g14 ?_
        have g15 := h.1
        have h := h.2
        refine u_ifT (pc := 456) (tgt := 463) (dec_at lsk_218 (k := 275) rfl) rfl (c0_eq g15) (fun e16 => ?_) (fun e16 => ?_)
        · have h := ifT e16 h
          refine u_ld (v := iV 0) (pc := 463) (dec_at lsk_218 (k := 278) rfl) rfl ?_
          refine u_zast (pc := 464) (dec_at lsk_218 (k := 279) rfl) sx_291 g1 g2 (by decide) (fun u17 e18 => ?_)
          have h := h u17 e18
          refine u_inc (lv' := [.ref 271, iV l1, iV (l2 + 1), iV l3, iV l4, iV l5, iV s0]) (pc := 465) (dec_at lsk_218 (k := 280) rfl) rfl (by decide) rfl ?_
          refine u_goto (pc := 468) (tgt := 332) (dec_at lsk_218 (k := 281) rfl) rfl ?_
          exact u_weak (sbK (sbK (sbK (sbD (sbD (sbD (sbD sb0))))))) h
        · have h := ifF e16 h
          refine u_ld (v := iV 1) (pc := 459) (dec_at lsk_218 (k := 276) rfl) rfl ?_
          refine u_goto (pc := 460) (tgt := 464) (dec_at lsk_218 (k := 277) rfl) rfl ?_
          refine u_zast (pc := 464) (dec_at lsk_218 (k := 279) rfl) sx_291 g1 g2 (by decide) (fun u19 e20 => ?_)
          have h := h u19 e20
          refine u_inc (lv' := [.ref 271, iV l1, iV (l2 + 1), iV l3, iV l4, iV l5, iV s0]) (pc := 465) (dec_at lsk_218 (k := 280) rfl) rfl (by decide) rfl ?_
          refine u_goto (pc := 468) (tgt := 332) (dec_at lsk_218 (k := 281) rfl) rfl ?_
          exact u_weak (sbK (sbK (sbK (sbD (sbD (sbD (sbD sb0))))))) h
      · have h := ifF e12 h
        refine u_ld (v := iV 1) (pc := 459) (dec_at lsk_218 (k := 276) rfl) rfl ?_
        refine u_goto (pc := 460) (tgt := 464) (dec_at lsk_218 (k := 277) rfl) rfl ?_
        refine u_zast (pc := 464) (dec_at lsk_218 (k := 279) rfl) sx_291 g1 g2 (by decide) (fun u21 e22 => ?_)
        have h := h u21 e22
        refine u_inc (lv' := [.ref 271, iV l1, iV (l2 + 1), iV l3, iV l4, iV l5, iV s0]) (pc := 465) (dec_at lsk_218 (k := 280) rfl) rfl (by decide) rfl ?_
        refine u_goto (pc := 468) (tgt := 332) (dec_at lsk_218 (k := 281) rfl) rfl ?_
        exact u_weak (sbK (sbK (sbK (sbD (sbD (sbD (sbD sb0))))))) h
  · have h := ifF e4 h
    refine u_ld (v := iV 1) (pc := 459) (dec_at lsk_218 (k := 276) rfl) rfl ?_
    refine u_goto (pc := 460) (tgt := 464) (dec_at lsk_218 (k := 277) rfl) rfl ?_
    refine u_zast (pc := 464) (dec_at lsk_218 (k := 279) rfl) sx_291 g1 g2 (by decide) (fun u23 e24 => ?_)
    have h := h u23 e24
    refine u_inc (lv' := [.ref 271, iV l1, iV (l2 + 1), iV l3, iV l4, iV l5, iV s0]) (pc := 465) (dec_at lsk_218 (k := 280) rfl) rfl (by decide) rfl ?_
    refine u_goto (pc := 468) (tgt := 332) (dec_at lsk_218 (k := 281) rfl) rfl ?_
    exact u_weak (sbK (sbK (sbK (sbD (sbD (sbD (sbD sb0))))))) h
theorem k_218_479 {d : Nat} {Q : uS → Prop} {u : uS} {l1 : Int} (h : (rI l1) ∧ (if l1 < 10 then ((0 ≤ l1) ∧ (∀ u4 : uS, u4 = wr u 287 l1 0 → (K_218 d 494 [.ref 271, iV l1, iV 0, .retAddr 0, .retAddr 0, .retAddr 0, .retAddr 0] [] u4 Q))) else (Q u))) : K_218 d 479 [.ref 271, iV l1, .retAddr 0, .retAddr 0, .retAddr 0, .retAddr 0, .retAddr 0] [] u Q := by
  unfold K_218
  refine u_ld (v := iV l1) (pc := 479) (dec_at lsk_218 (k := 286) rfl) rfl ?_
  refine u_c (x := 10) (pc := 480) (dec_at lsk_218 (k := 287) rfl) rfl (by decide) ?_
  have g1 := h.1
  have h := h.2
  refine u_icF (pc := 482) (tgt := 563) (dec_at lsk_218 (k := 288) rfl) rfl (ci_ge g1 (by decide)) (fun e2 => ?_) (fun e2 => ?_)
  · have h := ifT e2 h
    refine u_ld (v := .ref 271) (pc := 485) (dec_at lsk_218 (k := 289) rfl) rfl ?_
    refine u_gS (o := 16) (p := 287) (pc := 486) (dec_at lsk_218 (k := 290) rfl) f_12_56 sx_271 rfl rfl ?_
    refine u_ld (v := iV l1) (pc := 489) (dec_at lsk_218 (k := 291) rfl) rfl ?_
    refine u_ld (v := iV 0) (pc := 490) (dec_at lsk_218 (k := 292) rfl) rfl ?_
    have g3 := h.1
    have h := h.2
    refine u_zast (pc := 491) (dec_at lsk_218 (k := 293) rfl) sx_287 g3 e2 (by decide) (fun u4 e5 => ?_)
    have h := h u4 e5
    refine u_ld (v := iV 0) (pc := 492) (dec_at lsk_218 (k := 294) rfl) rfl ?_
    refine u_sto (lv' := [.ref 271, iV l1, iV 0, .retAddr 0, .retAddr 0, .retAddr 0, .retAddr 0]) (pc := 493) (dec_at lsk_218 (k := 295) rfl) rfl ?_
    exact h
  · have h := ifF e2 h
    exact u_rV (pc := 563) (dec_at lsk_218 (k := 334) rfl) rfl h
theorem k_218_494 {d : Nat} {Q : uS → Prop} {u : uS} {l1 l2 : Int} (h : (rI l2) ∧ (if l2 < 10 then ((0 ≤ l1) ∧ ((l1 < 10) ∧ ((rI (u.1 287 l1)) ∧ (if u.1 287 l1 = 0 then ((0 ≤ 11 * l2) ∧ ((11 * l2 < 100) ∧ ((rI (u.1 291 (11 * l2))) ∧ (if u.1 291 (11 * l2) = 0 then (∀ u11 : uS, u11 = wr u 287 l1 0 → (K_218 d 494 [.ref 271, iV l1, iV (l2 + 1), .retAddr 0, .retAddr 0, .retAddr 0, .retAddr 0] [] u11 Q)) else ((rI l1) ∧ (if l1 = l2 then (∀ u15 : uS, u15 = wr u 287 l1 1 → (K_218 d 494 [.ref 271, iV l1, iV (l2 + 1), .retAddr 0, .retAddr 0, .retAddr 0, .retAddr 0] [] u15 Q)) else ((0 ≤ (10 * l1) + l2) ∧ (((10 * l1) + l2 < 100) ∧ ((rI (u.1 290 ((10 * l1) + l2))) ∧ (if u.1 290 ((10 * l1) + l2) = 0 then (∀ u21 : uS, u21 = wr u 287 l1 0 → (K_218 d 494 [.ref 271, iV l1, iV (l2 + 1), .retAddr 0, .retAddr 0, .retAddr 0, .retAddr 0] [] u21 Q)) else (∀ u23 : uS, u23 = wr u 287 l1 1 → (K_218 d 494 [.ref 271, iV l1, iV (l2 + 1), .retAddr 0, .retAddr 0, .retAddr 0, .retAddr 0] [] u23 Q)))))))))))) else (∀ u25 : uS, u25 = wr u 287 l1 1 → (K_218 d 494 [.ref 271, iV l1, iV (l2 + 1), .retAddr 0, .retAddr 0, .retAddr 0, .retAddr 0] [] u25 Q)))))) else (K_218 d 479 [.ref 271, iV (l1 + 1), .retAddr 0, .retAddr 0, .retAddr 0, .retAddr 0, .retAddr 0] [] u Q))) : K_218 d 494 [.ref 271, iV l1, iV l2, .retAddr 0, .retAddr 0, .retAddr 0, .retAddr 0] [] u Q := by
  unfold K_218
  refine u_ld (v := iV l2) (pc := 494) (dec_at lsk_218 (k := 296) rfl) rfl ?_
  refine u_c (x := 10) (pc := 495) (dec_at lsk_218 (k := 297) rfl) rfl (by decide) ?_
  have g1 := h.1
  have h := h.2
  refine u_icF (pc := 497) (tgt := 557) (dec_at lsk_218 (k := 298) rfl) rfl (ci_ge g1 (by decide)) (fun e2 => ?_) (fun e2 => ?_)
  · have h := ifT e2 h
    refine u_ld (v := .ref 271) (pc := 500) (dec_at lsk_218 (k := 299) rfl) rfl ?_
    refine u_gS (o := 16) (p := 287) (pc := 501) (dec_at lsk_218 (k := 300) rfl) f_12_56 sx_271 rfl rfl ?_
    refine u_ld (v := iV l1) (pc := 504) (dec_at lsk_218 (k := 301) rfl) rfl ?_
    refine u_ld (v := .ref 271) (pc := 505) (dec_at lsk_218 (k := 302) rfl) rfl ?_
    refine u_gS (o := 16) (p := 287) (pc := 506) (dec_at lsk_218 (k := 303) rfl) f_12_56 sx_271 rfl rfl ?_
    refine u_ld (v := iV l1) (pc := 509) (dec_at lsk_218 (k := 304) rfl) rfl ?_
    have g3 := h.1
    have h := h.2
    have g4 := h.1
    have h := h.2
    refine u_zald (pc := 510) (dec_at lsk_218 (k := 305) rfl) sx_287 g3 g4 ?_
    have g5 := h.1
    have h := h.2
    refine u_ifF (pc := 511) (tgt := 545) (dec_at lsk_218 (k := 306) rfl) rfl (c0_ne g5) (fun e6 => ?_) (fun e6 => ?_)
    · have h := ifT e6 h
      refine u_ld (v := .ref 271) (pc := 514) (dec_at lsk_218 (k := 307) rfl) rfl ?_
      refine u_gS (o := 20) (p := 291) (pc := 515) (dec_at lsk_218 (k := 308) rfl) f_12_69 sx_271 rfl rfl ?_
      refine u_c (x := 11) (pc := 518) (dec_at lsk_218 (k := 309) rfl) rfl (by decide) ?_
      refine u_ld (v := iV l2) (pc := 520) (dec_at lsk_218 (k := 310) rfl) rfl ?_
      refine u_imul (pc := 521) (dec_at lsk_218 (k := 311) rfl) ?_
      have g7 := h.1
      have h := h.2
      have g8 := h.1
      have h := h.2
      refine u_zald (pc := 522) (dec_at lsk_218 (k := 312) rfl) sx_291 g7 g8 ?_
      have g9 := h.1
      have h := h.2
      refine u_ifT (pc := 523) (tgt := 549) (dec_at lsk_218 (k := 313) rfl) rfl (c0_eq g9) (fun e10 => ?_) (fun e10 => ?_)
      · have h := ifT e10 h
        refine u_ld (v := iV 0) (pc := 549) (dec_at lsk_218 (k := 328) rfl) rfl ?_
        refine u_zast (pc := 550) (dec_at lsk_218 (k := 329) rfl) sx_287 g3 g4 (by decide) (fun u11 e12 => ?_)
        have h := h u11 e12
        refine u_inc (lv' := [.ref 271, iV l1, iV (l2 + 1), .retAddr 0, .retAddr 0, .retAddr 0, .retAddr 0]) (pc := 551) (dec_at lsk_218 (k := 330) rfl) rfl (by decide) rfl ?_
        refine u_goto (pc := 554) (tgt := 494) (dec_at lsk_218 (k := 331) rfl) rfl ?_
        exact h
      · have h := ifF e10 h
        refine u_ld (v := iV l1) (pc := 526) (dec_at lsk_218 (k := 314) rfl) rfl ?_
        refine u_ld (v := iV l2) (pc := 527) (dec_at lsk_218 (k := 315) rfl) rfl ?_
        have g13 := h.1
        have h := h.2
        refine u_icT (pc := 528) (tgt := 545) (dec_at lsk_218 (k := 316) rfl) rfl (ci_eq g13 g1) (fun e14 => ?_) (fun e14 => ?_)
        · have h := ifT e14 h
          refine u_ld (v := iV 1) (pc := 545) (dec_at lsk_218 (k := 326) rfl) rfl ?_
          refine u_goto (pc := 546) (tgt := 550) (dec_at lsk_218 (k := 327) rfl) rfl ?_
          refine u_zast (pc := 550) (dec_at lsk_218 (k := 329) rfl) sx_287 g3 g4 (by decide) (fun u15 e16 => ?_)
          have h := h u15 e16
          refine u_inc (lv' := [.ref 271, iV l1, iV (l2 + 1), .retAddr 0, .retAddr 0, .retAddr 0, .retAddr 0]) (pc := 551) (dec_at lsk_218 (k := 330) rfl) rfl (by decide) rfl ?_
          refine u_goto (pc := 554) (tgt := 494) (dec_at lsk_218 (k := 331) rfl) rfl ?_
          exact h
        · have h := ifF e14 h
          refine u_ld (v := .ref 271) (pc := 531) (dec_at lsk_218 (k := 317) rfl) rfl ?_
          refine u_gS (o := 19) (p := 290) (pc := 532) (dec_at lsk_218 (k := 318) rfl) f_12_66 sx_271 rfl rfl ?_
          refine u_c (x := 10) (pc := 535) (dec_at lsk_218 (k := 319) rfl) rfl (by decide) ?_
          refine u_ld (v := iV l1) (pc := 537) (dec_at lsk_218 (k := 320) rfl) rfl ?_
          refine u_imul (pc := 538) (dec_at lsk_218 (k := 321) rfl) ?_
          refine u_ld (v := iV l2) (pc := 539) (dec_at lsk_218 (k := 322) rfl) rfl ?_
          refine u_iadd (pc := 540) (dec_at lsk_218 (k := 323) rfl) ?_
          have g17 := h.1
          have h := h.2
          have g18 := h.1
          have h := h.2
          refine u_zald (pc := 541) (dec_at lsk_218 (k := 324) rfl) sx_290 g17 g18 ?_
          have g19 := h.1
          have h := h.2
          refine u_ifT (pc := 542) (tgt := 549) (dec_at lsk_218 (k := 325) rfl) rfl (c0_eq g19) (fun e20 => ?_) (fun e20 => ?_)
          · have h := ifT e20 h
            refine u_ld (v := iV 0) (pc := 549) (dec_at lsk_218 (k := 328) rfl) rfl ?_
            refine u_zast (pc := 550) (dec_at lsk_218 (k := 329) rfl) sx_287 g3 g4 (by decide) (fun u21 e22 => ?_)
            have h := h u21 e22
            refine u_inc (lv' := [.ref 271, iV l1, iV (l2 + 1), .retAddr 0, .retAddr 0, .retAddr 0, .retAddr 0]) (pc := 551) (dec_at lsk_218 (k := 330) rfl) rfl (by decide) rfl ?_
            refine u_goto (pc := 554) (tgt := 494) (dec_at lsk_218 (k := 331) rfl) rfl ?_
            exact h
          · have h := ifF e20 h
            refine u_ld (v := iV 1) (pc := 545) (dec_at lsk_218 (k := 326) rfl) rfl ?_
            refine u_goto (pc := 546) (tgt := 550) (dec_at lsk_218 (k := 327) rfl) rfl ?_
            refine u_zast (pc := 550) (dec_at lsk_218 (k := 329) rfl) sx_287 g3 g4 (by decide) (fun u23 e24 => ?_)
            have h := h u23 e24
            refine u_inc (lv' := [.ref 271, iV l1, iV (l2 + 1), .retAddr 0, .retAddr 0, .retAddr 0, .retAddr 0]) (pc := 551) (dec_at lsk_218 (k := 330) rfl) rfl (by decide) rfl ?_
            refine u_goto (pc := 554) (tgt := 494) (dec_at lsk_218 (k := 331) rfl) rfl ?_
            exact h
    · have h := ifF e6 h
      refine u_ld (v := iV 1) (pc := 545) (dec_at lsk_218 (k := 326) rfl) rfl ?_
      refine u_goto (pc := 546) (tgt := 550) (dec_at lsk_218 (k := 327) rfl) rfl ?_
      refine u_zast (pc := 550) (dec_at lsk_218 (k := 329) rfl) sx_287 g3 g4 (by decide) (fun u25 e26 => ?_)
      have h := h u25 e26
      refine u_inc (lv' := [.ref 271, iV l1, iV (l2 + 1), .retAddr 0, .retAddr 0, .retAddr 0, .retAddr 0]) (pc := 551) (dec_at lsk_218 (k := 330) rfl) rfl (by decide) rfl ?_
      refine u_goto (pc := 554) (tgt := 494) (dec_at lsk_218 (k := 331) rfl) rfl ?_
      exact h
  · have h := ifF e2 h
    refine u_inc (lv' := [.ref 271, iV (l1 + 1), iV l2, .retAddr 0, .retAddr 0, .retAddr 0, .retAddr 0]) (pc := 557) (dec_at lsk_218 (k := 332) rfl) rfl (by decide) rfl ?_
    refine u_goto (pc := 560) (tgt := 479) (dec_at lsk_218 (k := 333) rfl) rfl ?_
    exact u_weak (sbK (sbK (sbD (sbK (sbK (sbK (sbK sb0))))))) h
/-- method 219 -/
def K_219 (d pc : Nat) (lv : ev_L) (st : List Value) (u : uS) (Q : Int → uS → Prop) : Prop := okU d 12 6 false (some .boolean) prog_14_method_23_code (qI Q) pc lv st u
theorem e_219 {d : Nat} {Q : Int → uS → Prop} {u : uS} {l1 l2 : Int} (h : K_219 d 5 [.ref 271, iV l1, iV l2, iV 0, iV 0, .retAddr 0] [] u Q) : cI (d + 1) 219 [.ref 271, iV l1, iV l2] u Q := by
  refine u_of me_219 (Nat.le_of_ble_eq_true rfl) ?_
  refine u_ld (v := iV 0) (pc := 0) (dec_at lsk_219 (k := 0) rfl) rfl ?_
  refine u_sto (lv' := [.ref 271, iV l1, iV l2, iV 0, .retAddr 0, .retAddr 0]) (pc := 1) (dec_at lsk_219 (k := 1) rfl) rfl ?_
  refine u_ld (v := iV 0) (pc := 2) (dec_at lsk_219 (k := 2) rfl) rfl ?_
  refine u_sto (lv' := [.ref 271, iV l1, iV l2, iV 0, iV 0, .retAddr 0]) (pc := 3) (dec_at lsk_219 (k := 3) rfl) rfl ?_
  exact h
theorem k_219_5 {d : Nat} {Q : Int → uS → Prop} {u : uS} {l1 l2 l3 l4 : Int} (h : (0 ≤ l1) ∧ ((l1 < 30) ∧ ((rI l4) ∧ ((rI (u.1 276 l1)) ∧ (if l4 < u.1 276 l1 then ((0 ≤ (6 * l1) + l4) ∧ (((6 * l1) + l4 < 180) ∧ ((rI l3) ∧ (if l3 = 0 then ((rI l2) ∧ (if l4 = l2 then (K_219 d 5 [.ref 271, iV l1, iV l2, iV 0, iV (l4 + 1), .retAddr 0] [] u Q) else ((rI (u.1 277 ((6 * l1) + l4))) ∧ (if u.1 277 ((6 * l1) + l4) < 100 then (K_219 d 5 [.ref 271, iV l1, iV l2, iV 1, iV (l4 + 1), .retAddr 0] [] u Q) else ((0 ≤ (u.1 277 ((6 * l1) + l4)) - 100) ∧ (((u.1 277 ((6 * l1) + l4)) - 100 < 10) ∧ ((rI (u.1 286 ((u.1 277 ((6 * l1) + l4)) - 100))) ∧ (if u.1 286 ((u.1 277 ((6 * l1) + l4)) - 100) = 0 then (K_219 d 5 [.ref 271, iV l1, iV l2, iV 0, iV (l4 + 1), .retAddr 0] [] u Q) else (K_219 d 5 [.ref 271, iV l1, iV l2, iV 1, iV (l4 + 1), .retAddr 0] [] u Q))))))))) else (K_219 d 5 [.ref 271, iV l1, iV l2, iV 1, iV (l4 + 1), .retAddr 0] [] u Q))))) else ((l3 = 0 ∨ l3 = 1) ∧ (Q l3 u))))))) : K_219 d 5 [.ref 271, iV l1, iV l2, iV l3, iV l4, .retAddr 0] [] u Q := by
  unfold K_219
  refine u_ld (v := iV l4) (pc := 5) (dec_at lsk_219 (k := 4) rfl) rfl ?_
  refine u_ld (v := .ref 271) (pc := 7) (dec_at lsk_219 (k := 5) rfl) rfl ?_
  refine u_gS (o := 5) (p := 276) (pc := 8) (dec_at lsk_219 (k := 6) rfl) f_12_22 sx_271 rfl rfl ?_
  refine u_ld (v := iV l1) (pc := 11) (dec_at lsk_219 (k := 7) rfl) rfl ?_
  have g1 := h.1
  have h := h.2
  have g2 := h.1
  have h := h.2
  refine u_iald (pc := 12) (dec_at lsk_219 (k := 8) rfl) sx_276 g1 g2 ?_
  have g3 := h.1
  have h := h.2
  have g4 := h.1
  have h := h.2
  refine u_icF (pc := 13) (tgt := 72) (dec_at lsk_219 (k := 9) rfl) rfl (ci_ge g3 g4) (fun e5 => ?_) (fun e5 => ?_)
  · have h := ifT e5 h
    refine u_ld (v := .ref 271) (pc := 16) (dec_at lsk_219 (k := 10) rfl) rfl ?_
    refine u_gS (o := 6) (p := 277) (pc := 17) (dec_at lsk_219 (k := 11) rfl) f_12_25 sx_271 rfl rfl ?_
    refine u_c (x := 6) (pc := 20) (dec_at lsk_219 (k := 12) rfl) rfl (by decide) ?_
    refine u_ld (v := iV l1) (pc := 22) (dec_at lsk_219 (k := 13) rfl) rfl ?_
    refine u_imul (pc := 23) (dec_at lsk_219 (k := 14) rfl) ?_
    refine u_ld (v := iV l4) (pc := 24) (dec_at lsk_219 (k := 15) rfl) rfl ?_
    refine u_iadd (pc := 26) (dec_at lsk_219 (k := 16) rfl) ?_
    have g6 := h.1
    have h := h.2
    have g7 := h.1
    have h := h.2
    refine u_iald (pc := 27) (dec_at lsk_219 (k := 17) rfl) sx_277 g6 g7 ?_
    refine u_sto (lv' := [.ref 271, iV l1, iV l2, iV l3, iV l4, iV (u.1 277 ((6 * l1) + l4))]) (pc := 28) (dec_at lsk_219 (k := 18) rfl) rfl ?_
    refine u_ld (v := iV l3) (pc := 30) (dec_at lsk_219 (k := 19) rfl) rfl ?_
    have g8 := h.1
    have h := h.2
    refine u_ifF (pc := 31) (tgt := 60) (dec_at lsk_219 (k := 20) rfl) rfl (c0_ne g8) (fun e9 => ?_) (fun e9 => ?_)
    · have h := ifT e9 h
      refine u_ld (v := iV l4) (pc := 34) (dec_at lsk_219 (k := 21) rfl) rfl ?_
      refine u_ld (v := iV l2) (pc := 36) (dec_at lsk_219 (k := 22) rfl) rfl ?_
      have g10 := h.1
      have h := h.2
      refine u_icT (pc := 37) (tgt := 64) (dec_at lsk_219 (k := 23) rfl) rfl (ci_eq g3 g10) (fun e11 => ?_) (fun e11 => ?_)
      · have h := ifT e11 h
        refine u_ld (v := iV 0) (pc := 64) (dec_at lsk_219 (k := 36) rfl) rfl ?_
        refine u_sto (lv' := [.ref 271, iV l1, iV l2, iV 0, iV l4, iV (u.1 277 ((6 * l1) + l4))]) (pc := 65) (dec_at lsk_219 (k := 37) rfl) rfl ?_
        refine u_inc (lv' := [.ref 271, iV l1, iV l2, iV 0, iV (l4 + 1), iV (u.1 277 ((6 * l1) + l4))]) (pc := 66) (dec_at lsk_219 (k := 38) rfl) rfl (by decide) rfl ?_
        refine u_goto (pc := 69) (tgt := 5) (dec_at lsk_219 (k := 39) rfl) rfl ?_
        exact u_weak (sbK (sbK (sbK (sbK (sbK (sbD sb0)))))) h
      · have h := ifF e11 h
        refine u_ld (v := iV (u.1 277 ((6 * l1) + l4))) (pc := 40) (dec_at lsk_219 (k := 24) rfl) rfl ?_
        refine u_c (x := 100) (pc := 42) (dec_at lsk_219 (k := 25) rfl) rfl (by decide) ?_
        have g12 := h.1
        have h := h.2
        refine u_icT (pc := 44) (tgt := 60) (dec_at lsk_219 (k := 26) rfl) rfl (ci_lt g12 (by decide)) (fun e13 => ?_) (fun e13 => ?_)
        · have h := ifT e13 h
          refine u_ld (v := iV 1) (pc := 60) (dec_at lsk_219 (k := 34) rfl) rfl ?_
          refine u_goto (pc := 61) (tgt := 65) (dec_at lsk_219 (k := 35) rfl) rfl ?_
          refine u_sto (lv' := [.ref 271, iV l1, iV l2, iV 1, iV l4, iV (u.1 277 ((6 * l1) + l4))]) (pc := 65) (dec_at lsk_219 (k := 37) rfl) rfl ?_
          refine u_inc (lv' := [.ref 271, iV l1, iV l2, iV 1, iV (l4 + 1), iV (u.1 277 ((6 * l1) + l4))]) (pc := 66) (dec_at lsk_219 (k := 38) rfl) rfl (by decide) rfl ?_
          refine u_goto (pc := 69) (tgt := 5) (dec_at lsk_219 (k := 39) rfl) rfl ?_
          exact u_weak (sbK (sbK (sbK (sbK (sbK (sbD sb0)))))) h
        · have h := ifF e13 h
          refine u_ld (v := .ref 271) (pc := 47) (dec_at lsk_219 (k := 27) rfl) rfl ?_
          refine u_gS (o := 15) (p := 286) (pc := 48) (dec_at lsk_219 (k := 28) rfl) f_12_53 sx_271 rfl rfl ?_
          refine u_ld (v := iV (u.1 277 ((6 * l1) + l4))) (pc := 51) (dec_at lsk_219 (k := 29) rfl) rfl ?_
          refine u_c (x := 100) (pc := 53) (dec_at lsk_219 (k := 30) rfl) rfl (by decide) ?_
          refine u_isub (pc := 55) (dec_at lsk_219 (k := 31) rfl) ?_
          have g14 := h.1
          have h := h.2
          have g15 := h.1
          have h := h.2
          refine u_zald (pc := 56) (dec_at lsk_219 (k := 32) rfl) sx_286 g14 g15 ?_
          have g16 := h.1
          have h := h.2
          refine u_ifT (pc := 57) (tgt := 64) (dec_at lsk_219 (k := 33) rfl) rfl (c0_eq g16) (fun e17 => ?_) (fun e17 => ?_)
          · have h := ifT e17 h
            refine u_ld (v := iV 0) (pc := 64) (dec_at lsk_219 (k := 36) rfl) rfl ?_
            refine u_sto (lv' := [.ref 271, iV l1, iV l2, iV 0, iV l4, iV (u.1 277 ((6 * l1) + l4))]) (pc := 65) (dec_at lsk_219 (k := 37) rfl) rfl ?_
            refine u_inc (lv' := [.ref 271, iV l1, iV l2, iV 0, iV (l4 + 1), iV (u.1 277 ((6 * l1) + l4))]) (pc := 66) (dec_at lsk_219 (k := 38) rfl) rfl (by decide) rfl ?_
            refine u_goto (pc := 69) (tgt := 5) (dec_at lsk_219 (k := 39) rfl) rfl ?_
            exact u_weak (sbK (sbK (sbK (sbK (sbK (sbD sb0)))))) h
          · have h := ifF e17 h
            refine u_ld (v := iV 1) (pc := 60) (dec_at lsk_219 (k := 34) rfl) rfl ?_
            refine u_goto (pc := 61) (tgt := 65) (dec_at lsk_219 (k := 35) rfl) rfl ?_
            refine u_sto (lv' := [.ref 271, iV l1, iV l2, iV 1, iV l4, iV (u.1 277 ((6 * l1) + l4))]) (pc := 65) (dec_at lsk_219 (k := 37) rfl) rfl ?_
            refine u_inc (lv' := [.ref 271, iV l1, iV l2, iV 1, iV (l4 + 1), iV (u.1 277 ((6 * l1) + l4))]) (pc := 66) (dec_at lsk_219 (k := 38) rfl) rfl (by decide) rfl ?_
            refine u_goto (pc := 69) (tgt := 5) (dec_at lsk_219 (k := 39) rfl) rfl ?_
            exact u_weak (sbK (sbK (sbK (sbK (sbK (sbD sb0)))))) h
    · have h := ifF e9 h
      refine u_ld (v := iV 1) (pc := 60) (dec_at lsk_219 (k := 34) rfl) rfl ?_
      refine u_goto (pc := 61) (tgt := 65) (dec_at lsk_219 (k := 35) rfl) rfl ?_
      refine u_sto (lv' := [.ref 271, iV l1, iV l2, iV 1, iV l4, iV (u.1 277 ((6 * l1) + l4))]) (pc := 65) (dec_at lsk_219 (k := 37) rfl) rfl ?_
      refine u_inc (lv' := [.ref 271, iV l1, iV l2, iV 1, iV (l4 + 1), iV (u.1 277 ((6 * l1) + l4))]) (pc := 66) (dec_at lsk_219 (k := 38) rfl) rfl (by decide) rfl ?_
      refine u_goto (pc := 69) (tgt := 5) (dec_at lsk_219 (k := 39) rfl) rfl ?_
      exact u_weak (sbK (sbK (sbK (sbK (sbK (sbD sb0)))))) h
  · have h := ifF e5 h
    refine u_ld (v := iV l3) (pc := 72) (dec_at lsk_219 (k := 40) rfl) rfl ?_
    have g18 := h.1
    have h := h.2
    exact u_rZ (pc := 73) (dec_at lsk_219 (k := 41) rfl) rfl g18 h
/-- method 220 -/
def K_220 (d pc : Nat) (lv : ev_L) (st : List Value) (u : uS) (Q : Int → uS → Prop) : Prop := okU d 12 2 false (some .int) prog_14_method_17_code (qI Q) pc lv st u
theorem e_220 {d : Nat} {Q : Int → uS → Prop} {u : uS} {l1 : Int} (h : (rI l1) ∧ (if l1 = 0 then (Q (u.1 271 5) u) else (if l1 = 1 then (Q (u.1 271 6) u) else (if l1 = 2 then (Q (u.1 271 1) u) else (if l1 = 3 then (Q (u.1 271 3) u) else (Q (-1) u)))))) : cI (d + 1) 220 [.ref 271, iV l1] u Q := by
  refine u_of me_220 (Nat.le_of_ble_eq_true rfl) ?_
  refine u_ld (v := iV l1) (pc := 0) (dec_at lsk_220 (k := 0) rfl) rfl ?_
  have g1 := h.1
  have h := h.2
  refine u_ifF (pc := 1) (tgt := 11) (dec_at lsk_220 (k := 1) rfl) rfl (c0_ne g1) (fun e2 => ?_) (fun e2 => ?_)
  · have h := ifT e2 h
    refine u_ld (v := .ref 271) (pc := 4) (dec_at lsk_220 (k := 2) rfl) rfl ?_
    refine u_gI (z := 5) (pc := 5) (dec_at lsk_220 (k := 3) rfl) f_12_303 sx_271 rfl rfl ?_
    refine u_goto (pc := 8) (tgt := 48) (dec_at lsk_220 (k := 4) rfl) rfl ?_
    exact u_rI (pc := 48) (dec_at lsk_220 (k := 24) rfl) rfl h
  · have h := ifF e2 h
    refine u_ld (v := iV l1) (pc := 11) (dec_at lsk_220 (k := 5) rfl) rfl ?_
    refine u_ld (v := iV 1) (pc := 12) (dec_at lsk_220 (k := 6) rfl) rfl ?_
    refine u_icF (pc := 13) (tgt := 23) (dec_at lsk_220 (k := 7) rfl) rfl (ci_ne g1 (by decide)) (fun e3 => ?_) (fun e3 => ?_)
    · have h := ifT e3 h
      refine u_ld (v := .ref 271) (pc := 16) (dec_at lsk_220 (k := 8) rfl) rfl ?_
      refine u_gI (z := 6) (pc := 17) (dec_at lsk_220 (k := 9) rfl) f_12_306 sx_271 rfl rfl ?_
      refine u_goto (pc := 20) (tgt := 48) (dec_at lsk_220 (k := 10) rfl) rfl ?_
      exact u_rI (pc := 48) (dec_at lsk_220 (k := 24) rfl) rfl h
    · have h := ifF e3 h
      refine u_ld (v := iV l1) (pc := 23) (dec_at lsk_220 (k := 11) rfl) rfl ?_
      refine u_ld (v := iV 2) (pc := 24) (dec_at lsk_220 (k := 12) rfl) rfl ?_
      refine u_icF (pc := 25) (tgt := 35) (dec_at lsk_220 (k := 13) rfl) rfl (ci_ne g1 (by decide)) (fun e4 => ?_) (fun e4 => ?_)
      · have h := ifT e4 h
        refine u_ld (v := .ref 271) (pc := 28) (dec_at lsk_220 (k := 14) rfl) rfl ?_
        refine u_gI (z := 1) (pc := 29) (dec_at lsk_220 (k := 15) rfl) f_12_254 sx_271 rfl rfl ?_
        refine u_goto (pc := 32) (tgt := 48) (dec_at lsk_220 (k := 16) rfl) rfl ?_
        exact u_rI (pc := 48) (dec_at lsk_220 (k := 24) rfl) rfl h
      · have h := ifF e4 h
        refine u_ld (v := iV l1) (pc := 35) (dec_at lsk_220 (k := 17) rfl) rfl ?_
        refine u_ld (v := iV 3) (pc := 36) (dec_at lsk_220 (k := 18) rfl) rfl ?_
        refine u_icF (pc := 37) (tgt := 47) (dec_at lsk_220 (k := 19) rfl) rfl (ci_ne g1 (by decide)) (fun e5 => ?_) (fun e5 => ?_)
        · have h := ifT e5 h
          refine u_ld (v := .ref 271) (pc := 40) (dec_at lsk_220 (k := 20) rfl) rfl ?_
          refine u_gI (z := 3) (pc := 41) (dec_at lsk_220 (k := 21) rfl) f_12_262 sx_271 rfl rfl ?_
          refine u_goto (pc := 44) (tgt := 48) (dec_at lsk_220 (k := 22) rfl) rfl ?_
          exact u_rI (pc := 48) (dec_at lsk_220 (k := 24) rfl) rfl h
        · have h := ifF e5 h
          refine u_ld (v := iV (-1)) (pc := 47) (dec_at lsk_220 (k := 23) rfl) rfl ?_
          exact u_rI (pc := 48) (dec_at lsk_220 (k := 24) rfl) rfl h
/-- method 221 -/
def K_221 (d pc : Nat) (lv : ev_L) (st : List Value) (u : uS) (Q : Int → uS → Prop) : Prop := okU d 12 3 false (some .int) prog_14_method_18_code (qI Q) pc lv st u
theorem e_221 {d : Nat} {Q : Int → uS → Prop} {u : uS} {l1 l2 : Int} (h : (rI l1) ∧ ((rI ((u.1 271 6) - 1)) ∧ (if l1 < 0 then (Q (-1) u) else (if (u.1 271 6) - 1 < l1 then (Q (-1) u) else ((rI l2) ∧ (if l2 < 0 then (Q (-1) u) else ((l1 < 30) ∧ ((rI (2 + (u.1 276 l1))) ∧ (if l2 < 2 + (u.1 276 l1) then (if l2 = 0 then (Q (u.1 275 l1) u) else (if l2 = 1 then (Q (u.1 276 l1) u) else ((0 ≤ ((6 * l1) + l2) - 2) ∧ ((((6 * l1) + l2) - 2 < 180) ∧ (Q (u.1 277 (((6 * l1) + l2) - 2)) u))))) else (Q (-1) u)))))))))) : cI (d + 2) 221 [.ref 271, iV l1, iV l2] u Q := by
  refine u_of me_221 (Nat.le_of_ble_eq_true rfl) ?_
  refine u_ld (v := iV l1) (pc := 0) (dec_at lsk_221 (k := 0) rfl) rfl ?_
  have g1 := h.1
  have h := h.2
  refine u_i2l (pc := 1) (dec_at lsk_221 (k := 1) rfl) g1 ?_
  refine u_cl (x := 0) (pc := 2) (dec_at lsk_221 (k := 2) rfl) rfl (by decide) ?_
  refine u_ld (v := .ref 271) (pc := 3) (dec_at lsk_221 (k := 3) rfl) rfl ?_
  refine u_gI (z := 6) (pc := 4) (dec_at lsk_221 (k := 4) rfl) f_12_306 sx_271 rfl rfl ?_
  refine u_ld (v := iV 1) (pc := 7) (dec_at lsk_221 (k := 5) rfl) rfl ?_
  refine u_isub (pc := 8) (dec_at lsk_221 (k := 6) rfl) ?_
  have g2 := h.1
  have h := h.2
  refine u_i2l (pc := 9) (dec_at lsk_221 (k := 7) rfl) g2 ?_
  refine u_csI (As := [lV l1, lV 0, lV ((u.1 271 6) - 1)]) (st2 := []) (pc := 10) (dec_at lsk_221 (k := 8) rfl) m_12_250 (Or.inl rfl) rfl (Nat.le_of_ble_eq_true rfl) ?_ (fun _ _ h_ => h_)
  refine u_of me_203 (Nat.le_of_ble_eq_true rfl) ?_
  refine u_ld (v := lV l1) (pc := 0) (dec_at lsk_203 (k := 0) rfl) rfl ?_
  refine u_ld (v := lV 0) (pc := 1) (dec_at lsk_203 (k := 1) rfl) rfl ?_
  refine u_st (st' := [.int (lg_cmp (Int64.ofInt l1) (Int64.ofInt 0))]) (pc := 2) (dec_at lsk_203 (k := 2) rfl) rfl ?_
  refine u_ifT (pc := 3) (tgt := 17) (dec_at lsk_203 (k := 3) rfl) rfl (cl_lt (rl_ri g1) (by decide)) (fun e3 => ?_) (fun e3 => ?_)
  · have h := ifT e3 h
    refine u_ld (v := iV 0) (pc := 17) (dec_at lsk_203 (k := 10) rfl) rfl ?_
    refine u_rZ (pc := 18) (dec_at lsk_203 (k := 11) rfl) rfl (by decide) ?_
    refine u_ifT (pc := 13) (tgt := 32) (dec_at lsk_221 (k := 9) rfl) rfl (c0_eq (by decide)) (fun _ => ?_) (fun e => absurd e (by decide))
    refine u_ld (v := iV (-1)) (pc := 32) (dec_at lsk_221 (k := 20) rfl) rfl ?_
    exact u_rI (pc := 33) (dec_at lsk_221 (k := 21) rfl) rfl h
  · have h := ifF e3 h
    refine u_ld (v := lV l1) (pc := 6) (dec_at lsk_203 (k := 4) rfl) rfl ?_
    refine u_ld (v := lV ((u.1 271 6) - 1)) (pc := 7) (dec_at lsk_203 (k := 5) rfl) rfl ?_
    refine u_st (st' := [.int (lg_cmp (Int64.ofInt l1) (Int64.ofInt ((u.1 271 6) - 1)))]) (pc := 9) (dec_at lsk_203 (k := 6) rfl) rfl ?_
    refine u_ifT (pc := 10) (tgt := 17) (dec_at lsk_203 (k := 7) rfl) rfl (cl_gt (rl_ri g1) (rl_ri g2)) (fun e4 => ?_) (fun e4 => ?_)
    · have h := ifT e4 h
      refine u_ld (v := iV 0) (pc := 17) (dec_at lsk_203 (k := 10) rfl) rfl ?_
      refine u_rZ (pc := 18) (dec_at lsk_203 (k := 11) rfl) rfl (by decide) ?_
      refine u_ifT (pc := 13) (tgt := 32) (dec_at lsk_221 (k := 9) rfl) rfl (c0_eq (by decide)) (fun _ => ?_) (fun e => absurd e (by decide))
      refine u_ld (v := iV (-1)) (pc := 32) (dec_at lsk_221 (k := 20) rfl) rfl ?_
      exact u_rI (pc := 33) (dec_at lsk_221 (k := 21) rfl) rfl h
    · have h := ifF e4 h
      refine u_ld (v := iV 1) (pc := 13) (dec_at lsk_203 (k := 8) rfl) rfl ?_
      refine u_goto (pc := 14) (tgt := 18) (dec_at lsk_203 (k := 9) rfl) rfl ?_
      refine u_rZ (pc := 18) (dec_at lsk_203 (k := 11) rfl) rfl (by decide) ?_
      refine u_ifT (pc := 13) (tgt := 32) (dec_at lsk_221 (k := 9) rfl) rfl (c0_eq (by decide)) (fun e => absurd e (by decide)) (fun _ => ?_)
      refine u_ld (v := iV l2) (pc := 16) (dec_at lsk_221 (k := 10) rfl) rfl ?_
      have g5 := h.1
      have h := h.2
      refine u_ifT (pc := 17) (tgt := 32) (dec_at lsk_221 (k := 11) rfl) rfl (c0_lt g5) (fun e6 => ?_) (fun e6 => ?_)
      · have h := ifT e6 h
        refine u_ld (v := iV (-1)) (pc := 32) (dec_at lsk_221 (k := 20) rfl) rfl ?_
        exact u_rI (pc := 33) (dec_at lsk_221 (k := 21) rfl) rfl h
      · have h := ifF e6 h
        refine u_ld (v := iV l2) (pc := 20) (dec_at lsk_221 (k := 12) rfl) rfl ?_
        refine u_ld (v := iV 2) (pc := 21) (dec_at lsk_221 (k := 13) rfl) rfl ?_
        refine u_ld (v := .ref 271) (pc := 22) (dec_at lsk_221 (k := 14) rfl) rfl ?_
        refine u_gS (o := 5) (p := 276) (pc := 23) (dec_at lsk_221 (k := 15) rfl) f_12_22 sx_271 rfl rfl ?_
        refine u_ld (v := iV l1) (pc := 26) (dec_at lsk_221 (k := 16) rfl) rfl ?_
        have g7 := h.1
        have h := h.2
        refine u_iald (pc := 27) (dec_at lsk_221 (k := 17) rfl) sx_276 (Int.not_lt.mp e3) g7 ?_
        refine u_iadd (pc := 28) (dec_at lsk_221 (k := 18) rfl) ?_
        have g8 := h.1
        have h := h.2
        refine u_icT (pc := 29) (tgt := 34) (dec_at lsk_221 (k := 19) rfl) rfl (ci_lt g5 g8) (fun e9 => ?_) (fun e9 => ?_)
        · have h := ifT e9 h
          refine u_ld (v := iV l2) (pc := 34) (dec_at lsk_221 (k := 22) rfl) rfl ?_
          refine u_ifF (pc := 35) (tgt := 47) (dec_at lsk_221 (k := 23) rfl) rfl (c0_ne g5) (fun e10 => ?_) (fun e10 => ?_)
          · have h := ifT e10 h
            refine u_ld (v := .ref 271) (pc := 38) (dec_at lsk_221 (k := 24) rfl) rfl ?_
            refine u_gS (o := 4) (p := 275) (pc := 39) (dec_at lsk_221 (k := 25) rfl) f_12_19 sx_271 rfl rfl ?_
            refine u_ld (v := iV l1) (pc := 42) (dec_at lsk_221 (k := 26) rfl) rfl ?_
            refine u_iald (pc := 43) (dec_at lsk_221 (k := 27) rfl) sx_275 (Int.not_lt.mp e3) g7 ?_
            refine u_goto (pc := 44) (tgt := 74) (dec_at lsk_221 (k := 28) rfl) rfl ?_
            exact u_rI (pc := 74) (dec_at lsk_221 (k := 47) rfl) rfl h
          · have h := ifF e10 h
            refine u_ld (v := iV l2) (pc := 47) (dec_at lsk_221 (k := 29) rfl) rfl ?_
            refine u_ld (v := iV 1) (pc := 48) (dec_at lsk_221 (k := 30) rfl) rfl ?_
            refine u_icF (pc := 49) (tgt := 61) (dec_at lsk_221 (k := 31) rfl) rfl (ci_ne g5 (by decide)) (fun e11 => ?_) (fun e11 => ?_)
            · have h := ifT e11 h
              refine u_ld (v := .ref 271) (pc := 52) (dec_at lsk_221 (k := 32) rfl) rfl ?_
              refine u_gS (o := 5) (p := 276) (pc := 53) (dec_at lsk_221 (k := 33) rfl) f_12_22 sx_271 rfl rfl ?_
              refine u_ld (v := iV l1) (pc := 56) (dec_at lsk_221 (k := 34) rfl) rfl ?_
              refine u_iald (pc := 57) (dec_at lsk_221 (k := 35) rfl) sx_276 (Int.not_lt.mp e3) g7 ?_
              refine u_goto (pc := 58) (tgt := 74) (dec_at lsk_221 (k := 36) rfl) rfl ?_
              exact u_rI (pc := 74) (dec_at lsk_221 (k := 47) rfl) rfl h
            · have h := ifF e11 h
              refine u_ld (v := .ref 271) (pc := 61) (dec_at lsk_221 (k := 37) rfl) rfl ?_
              refine u_gS (o := 6) (p := 277) (pc := 62) (dec_at lsk_221 (k := 38) rfl) f_12_25 sx_271 rfl rfl ?_
              refine u_c (x := 6) (pc := 65) (dec_at lsk_221 (k := 39) rfl) rfl (by decide) ?_
              refine u_ld (v := iV l1) (pc := 67) (dec_at lsk_221 (k := 40) rfl) rfl ?_
              refine u_imul (pc := 68) (dec_at lsk_221 (k := 41) rfl) ?_
              refine u_ld (v := iV l2) (pc := 69) (dec_at lsk_221 (k := 42) rfl) rfl ?_
              refine u_iadd (pc := 70) (dec_at lsk_221 (k := 43) rfl) ?_
              refine u_ld (v := iV 2) (pc := 71) (dec_at lsk_221 (k := 44) rfl) rfl ?_
              refine u_isub (pc := 72) (dec_at lsk_221 (k := 45) rfl) ?_
              have g12 := h.1
              have h := h.2
              have g13 := h.1
              have h := h.2
              refine u_iald (pc := 73) (dec_at lsk_221 (k := 46) rfl) sx_277 g12 g13 ?_
              exact u_rI (pc := 74) (dec_at lsk_221 (k := 47) rfl) rfl h
        · have h := ifF e9 h
          refine u_ld (v := iV (-1)) (pc := 32) (dec_at lsk_221 (k := 20) rfl) rfl ?_
          exact u_rI (pc := 33) (dec_at lsk_221 (k := 21) rfl) rfl h
/-- method 222 -/
def K_222 (d pc : Nat) (lv : ev_L) (st : List Value) (u : uS) (Q : Int → uS → Prop) : Prop := okU d 12 3 false (some .long) prog_14_method_24_code (qL Q) pc lv st u
theorem e_222 {d : Nat} {Q : Int → uS → Prop} {u : uS} {l1 l2 : Int} (h : (rI l1) ∧ ((rI ((u.1 271 5) - 1)) ∧ (if l1 < 0 then (Q (-1) u) else (if (u.1 271 5) - 1 < l1 then (Q (-1) u) else ((rI l2) ∧ (if l2 = 0 then ((l1 < 10) ∧ ((rI (u.1 274 l1)) ∧ (Q (u.1 274 l1) u))) else (if l2 = 1 then ((l1 < 10) ∧ ((rI (u.1 283 l1)) ∧ (if u.1 283 l1 = 0 then (Q 0 u) else (Q 1 u)))) else (if l2 = 2 then ((l1 < 10) ∧ ((rI (u.1 284 l1)) ∧ (if u.1 284 l1 = 0 then (Q 0 u) else (Q 1 u)))) else (if l2 = 3 then ((l1 < 10) ∧ ((rI (u.1 285 l1)) ∧ (if u.1 285 l1 = 0 then (Q 0 u) else (Q 1 u)))) else (if l2 = 4 then ((l1 < 10) ∧ ((rI (u.1 283 l1)) ∧ (if u.1 283 l1 = 0 then (Q (-2) u) else (Q (u.1 288 l1) u)))) else (if l2 = 5 then ((l1 < 10) ∧ ((rI (u.1 283 l1)) ∧ (if u.1 283 l1 = 0 then (Q (-2) u) else (Q (u.1 289 l1) u)))) else (if l2 = 6 then ((l1 < 10) ∧ ((rI (u.1 287 l1)) ∧ (if u.1 287 l1 = 0 then (Q 0 u) else (Q 1 u)))) else (Q (-1) u))))))))))))) : cL (d + 2) 222 [.ref 271, iV l1, iV l2] u Q := by
  refine u_of me_222 (Nat.le_of_ble_eq_true rfl) ?_
  refine u_ld (v := iV l1) (pc := 0) (dec_at lsk_222 (k := 0) rfl) rfl ?_
  have g1 := h.1
  have h := h.2
  refine u_i2l (pc := 1) (dec_at lsk_222 (k := 1) rfl) g1 ?_
  refine u_cl (x := 0) (pc := 2) (dec_at lsk_222 (k := 2) rfl) rfl (by decide) ?_
  refine u_ld (v := .ref 271) (pc := 3) (dec_at lsk_222 (k := 3) rfl) rfl ?_
  refine u_gI (z := 5) (pc := 4) (dec_at lsk_222 (k := 4) rfl) f_12_303 sx_271 rfl rfl ?_
  refine u_ld (v := iV 1) (pc := 7) (dec_at lsk_222 (k := 5) rfl) rfl ?_
  refine u_isub (pc := 8) (dec_at lsk_222 (k := 6) rfl) ?_
  have g2 := h.1
  have h := h.2
  refine u_i2l (pc := 9) (dec_at lsk_222 (k := 7) rfl) g2 ?_
  refine u_csI (As := [lV l1, lV 0, lV ((u.1 271 5) - 1)]) (st2 := []) (pc := 10) (dec_at lsk_222 (k := 8) rfl) m_12_250 (Or.inl rfl) rfl (Nat.le_of_ble_eq_true rfl) ?_ (fun _ _ h_ => h_)
  refine u_of me_203 (Nat.le_of_ble_eq_true rfl) ?_
  refine u_ld (v := lV l1) (pc := 0) (dec_at lsk_203 (k := 0) rfl) rfl ?_
  refine u_ld (v := lV 0) (pc := 1) (dec_at lsk_203 (k := 1) rfl) rfl ?_
  refine u_st (st' := [.int (lg_cmp (Int64.ofInt l1) (Int64.ofInt 0))]) (pc := 2) (dec_at lsk_203 (k := 2) rfl) rfl ?_
  refine u_ifT (pc := 3) (tgt := 17) (dec_at lsk_203 (k := 3) rfl) rfl (cl_lt (rl_ri g1) (by decide)) (fun e3 => ?_) (fun e3 => ?_)
  · have h := ifT e3 h
    refine u_ld (v := iV 0) (pc := 17) (dec_at lsk_203 (k := 10) rfl) rfl ?_
    refine u_rZ (pc := 18) (dec_at lsk_203 (k := 11) rfl) rfl (by decide) ?_
    refine u_ifF (pc := 13) (tgt := 20) (dec_at lsk_222 (k := 9) rfl) rfl (c0_ne (by decide)) (fun _ => ?_) (fun e => absurd e (by decide))
    refine u_ldc2 (x := (-1)) (pc := 16) (dec_at lsk_222 (k := 10) rfl) con_12_331 (by decide) ?_
    exact u_rL (pc := 19) (dec_at lsk_222 (k := 11) rfl) rfl h
  · have h := ifF e3 h
    refine u_ld (v := lV l1) (pc := 6) (dec_at lsk_203 (k := 4) rfl) rfl ?_
    refine u_ld (v := lV ((u.1 271 5) - 1)) (pc := 7) (dec_at lsk_203 (k := 5) rfl) rfl ?_
    refine u_st (st' := [.int (lg_cmp (Int64.ofInt l1) (Int64.ofInt ((u.1 271 5) - 1)))]) (pc := 9) (dec_at lsk_203 (k := 6) rfl) rfl ?_
    refine u_ifT (pc := 10) (tgt := 17) (dec_at lsk_203 (k := 7) rfl) rfl (cl_gt (rl_ri g1) (rl_ri g2)) (fun e4 => ?_) (fun e4 => ?_)
    · have h := ifT e4 h
      refine u_ld (v := iV 0) (pc := 17) (dec_at lsk_203 (k := 10) rfl) rfl ?_
      refine u_rZ (pc := 18) (dec_at lsk_203 (k := 11) rfl) rfl (by decide) ?_
      refine u_ifF (pc := 13) (tgt := 20) (dec_at lsk_222 (k := 9) rfl) rfl (c0_ne (by decide)) (fun _ => ?_) (fun e => absurd e (by decide))
      refine u_ldc2 (x := (-1)) (pc := 16) (dec_at lsk_222 (k := 10) rfl) con_12_331 (by decide) ?_
      exact u_rL (pc := 19) (dec_at lsk_222 (k := 11) rfl) rfl h
    · have h := ifF e4 h
      refine u_ld (v := iV 1) (pc := 13) (dec_at lsk_203 (k := 8) rfl) rfl ?_
      refine u_goto (pc := 14) (tgt := 18) (dec_at lsk_203 (k := 9) rfl) rfl ?_
      refine u_rZ (pc := 18) (dec_at lsk_203 (k := 11) rfl) rfl (by decide) ?_
      refine u_ifF (pc := 13) (tgt := 20) (dec_at lsk_222 (k := 9) rfl) rfl (c0_ne (by decide)) (fun e => absurd e (by decide)) (fun _ => ?_)
      refine u_ld (v := iV l2) (pc := 20) (dec_at lsk_222 (k := 12) rfl) rfl ?_
      have g5 := h.1
      have h := h.2
      by_cases e6 : l2 = 0
      · have h := ifT e6 h
        refine u_ts (pc := 21) (tgt := 64) (o := 43) (dec_at lsk_222 (k := 13) rfl) g5 (by omega) (by rw [e6]; rfl) rfl ?_
        refine u_ld (v := .ref 271) (pc := 64) (dec_at lsk_222 (k := 14) rfl) rfl ?_
        refine u_gS (o := 3) (p := 274) (pc := 65) (dec_at lsk_222 (k := 15) rfl) f_12_16 sx_271 rfl rfl ?_
        refine u_ld (v := iV l1) (pc := 68) (dec_at lsk_222 (k := 16) rfl) rfl ?_
        have g7 := h.1
        have h := h.2
        refine u_iald (pc := 69) (dec_at lsk_222 (k := 17) rfl) sx_274 (Int.not_lt.mp e3) g7 ?_
        have g8 := h.1
        have h := h.2
        refine u_i2l (pc := 70) (dec_at lsk_222 (k := 18) rfl) g8 ?_
        exact u_rL (pc := 71) (dec_at lsk_222 (k := 19) rfl) rfl h
      · have h := ifF e6 h
        by_cases e9 : l2 = 1
        · have h := ifT e9 h
          refine u_ts (pc := 21) (tgt := 72) (o := 51) (dec_at lsk_222 (k := 13) rfl) g5 (by omega) (by rw [e9]; rfl) rfl ?_
          refine u_ld (v := .ref 271) (pc := 72) (dec_at lsk_222 (k := 20) rfl) rfl ?_
          refine u_gS (o := 12) (p := 283) (pc := 73) (dec_at lsk_222 (k := 21) rfl) f_12_43 sx_271 rfl rfl ?_
          refine u_ld (v := iV l1) (pc := 76) (dec_at lsk_222 (k := 22) rfl) rfl ?_
          have g10 := h.1
          have h := h.2
          refine u_zald (pc := 77) (dec_at lsk_222 (k := 23) rfl) sx_283 (Int.not_lt.mp e3) g10 ?_
          have g11 := h.1
          have h := h.2
          refine u_ifT (pc := 78) (tgt := 85) (dec_at lsk_222 (k := 24) rfl) rfl (c0_eq g11) (fun e12 => ?_) (fun e12 => ?_)
          · have h := ifT e12 h
            refine u_cl (x := 0) (pc := 85) (dec_at lsk_222 (k := 27) rfl) rfl (by decide) ?_
            exact u_rL (pc := 86) (dec_at lsk_222 (k := 28) rfl) rfl h
          · have h := ifF e12 h
            refine u_cl (x := 1) (pc := 81) (dec_at lsk_222 (k := 25) rfl) rfl (by decide) ?_
            refine u_goto (pc := 82) (tgt := 86) (dec_at lsk_222 (k := 26) rfl) rfl ?_
            exact u_rL (pc := 86) (dec_at lsk_222 (k := 28) rfl) rfl h
        · have h := ifF e9 h
          by_cases e13 : l2 = 2
          · have h := ifT e13 h
            refine u_ts (pc := 21) (tgt := 87) (o := 66) (dec_at lsk_222 (k := 13) rfl) g5 (by omega) (by rw [e13]; rfl) rfl ?_
            refine u_ld (v := .ref 271) (pc := 87) (dec_at lsk_222 (k := 29) rfl) rfl ?_
            refine u_gS (o := 13) (p := 284) (pc := 88) (dec_at lsk_222 (k := 30) rfl) f_12_47 sx_271 rfl rfl ?_
            refine u_ld (v := iV l1) (pc := 91) (dec_at lsk_222 (k := 31) rfl) rfl ?_
            have g14 := h.1
            have h := h.2
            refine u_zald (pc := 92) (dec_at lsk_222 (k := 32) rfl) sx_284 (Int.not_lt.mp e3) g14 ?_
            have g15 := h.1
            have h := h.2
            refine u_ifT (pc := 93) (tgt := 100) (dec_at lsk_222 (k := 33) rfl) rfl (c0_eq g15) (fun e16 => ?_) (fun e16 => ?_)
            · have h := ifT e16 h
              refine u_cl (x := 0) (pc := 100) (dec_at lsk_222 (k := 36) rfl) rfl (by decide) ?_
              exact u_rL (pc := 101) (dec_at lsk_222 (k := 37) rfl) rfl h
            · have h := ifF e16 h
              refine u_cl (x := 1) (pc := 96) (dec_at lsk_222 (k := 34) rfl) rfl (by decide) ?_
              refine u_goto (pc := 97) (tgt := 101) (dec_at lsk_222 (k := 35) rfl) rfl ?_
              exact u_rL (pc := 101) (dec_at lsk_222 (k := 37) rfl) rfl h
          · have h := ifF e13 h
            by_cases e17 : l2 = 3
            · have h := ifT e17 h
              refine u_ts (pc := 21) (tgt := 102) (o := 81) (dec_at lsk_222 (k := 13) rfl) g5 (by omega) (by rw [e17]; rfl) rfl ?_
              refine u_ld (v := .ref 271) (pc := 102) (dec_at lsk_222 (k := 38) rfl) rfl ?_
              refine u_gS (o := 14) (p := 285) (pc := 103) (dec_at lsk_222 (k := 39) rfl) f_12_50 sx_271 rfl rfl ?_
              refine u_ld (v := iV l1) (pc := 106) (dec_at lsk_222 (k := 40) rfl) rfl ?_
              have g18 := h.1
              have h := h.2
              refine u_zald (pc := 107) (dec_at lsk_222 (k := 41) rfl) sx_285 (Int.not_lt.mp e3) g18 ?_
              have g19 := h.1
              have h := h.2
              refine u_ifT (pc := 108) (tgt := 115) (dec_at lsk_222 (k := 42) rfl) rfl (c0_eq g19) (fun e20 => ?_) (fun e20 => ?_)
              · have h := ifT e20 h
                refine u_cl (x := 0) (pc := 115) (dec_at lsk_222 (k := 45) rfl) rfl (by decide) ?_
                exact u_rL (pc := 116) (dec_at lsk_222 (k := 46) rfl) rfl h
              · have h := ifF e20 h
                refine u_cl (x := 1) (pc := 111) (dec_at lsk_222 (k := 43) rfl) rfl (by decide) ?_
                refine u_goto (pc := 112) (tgt := 116) (dec_at lsk_222 (k := 44) rfl) rfl ?_
                exact u_rL (pc := 116) (dec_at lsk_222 (k := 46) rfl) rfl h
            · have h := ifF e17 h
              by_cases e21 : l2 = 4
              · have h := ifT e21 h
                refine u_ts (pc := 21) (tgt := 117) (o := 96) (dec_at lsk_222 (k := 13) rfl) g5 (by omega) (by rw [e21]; rfl) rfl ?_
                refine u_ld (v := .ref 271) (pc := 117) (dec_at lsk_222 (k := 47) rfl) rfl ?_
                refine u_gS (o := 12) (p := 283) (pc := 118) (dec_at lsk_222 (k := 48) rfl) f_12_43 sx_271 rfl rfl ?_
                refine u_ld (v := iV l1) (pc := 121) (dec_at lsk_222 (k := 49) rfl) rfl ?_
                have g22 := h.1
                have h := h.2
                refine u_zald (pc := 122) (dec_at lsk_222 (k := 50) rfl) sx_283 (Int.not_lt.mp e3) g22 ?_
                have g23 := h.1
                have h := h.2
                refine u_ifT (pc := 123) (tgt := 135) (dec_at lsk_222 (k := 51) rfl) rfl (c0_eq g23) (fun e24 => ?_) (fun e24 => ?_)
                · have h := ifT e24 h
                  refine u_ldc2 (x := (-2)) (pc := 135) (dec_at lsk_222 (k := 57) rfl) con_12_333 (by decide) ?_
                  exact u_rL (pc := 138) (dec_at lsk_222 (k := 58) rfl) rfl h
                · have h := ifF e24 h
                  refine u_ld (v := .ref 271) (pc := 126) (dec_at lsk_222 (k := 52) rfl) rfl ?_
                  refine u_gS (o := 17) (p := 288) (pc := 127) (dec_at lsk_222 (k := 53) rfl) f_12_59 sx_271 rfl rfl ?_
                  refine u_ld (v := iV l1) (pc := 130) (dec_at lsk_222 (k := 54) rfl) rfl ?_
                  refine u_lald (pc := 131) (dec_at lsk_222 (k := 55) rfl) sx_288 (Int.not_lt.mp e3) g22 ?_
                  refine u_goto (pc := 132) (tgt := 138) (dec_at lsk_222 (k := 56) rfl) rfl ?_
                  exact u_rL (pc := 138) (dec_at lsk_222 (k := 58) rfl) rfl h
              · have h := ifF e21 h
                by_cases e25 : l2 = 5
                · have h := ifT e25 h
                  refine u_ts (pc := 21) (tgt := 139) (o := 118) (dec_at lsk_222 (k := 13) rfl) g5 (by omega) (by rw [e25]; rfl) rfl ?_
                  refine u_ld (v := .ref 271) (pc := 139) (dec_at lsk_222 (k := 59) rfl) rfl ?_
                  refine u_gS (o := 12) (p := 283) (pc := 140) (dec_at lsk_222 (k := 60) rfl) f_12_43 sx_271 rfl rfl ?_
                  refine u_ld (v := iV l1) (pc := 143) (dec_at lsk_222 (k := 61) rfl) rfl ?_
                  have g26 := h.1
                  have h := h.2
                  refine u_zald (pc := 144) (dec_at lsk_222 (k := 62) rfl) sx_283 (Int.not_lt.mp e3) g26 ?_
                  have g27 := h.1
                  have h := h.2
                  refine u_ifT (pc := 145) (tgt := 157) (dec_at lsk_222 (k := 63) rfl) rfl (c0_eq g27) (fun e28 => ?_) (fun e28 => ?_)
                  · have h := ifT e28 h
                    refine u_ldc2 (x := (-2)) (pc := 157) (dec_at lsk_222 (k := 69) rfl) con_12_333 (by decide) ?_
                    exact u_rL (pc := 160) (dec_at lsk_222 (k := 70) rfl) rfl h
                  · have h := ifF e28 h
                    refine u_ld (v := .ref 271) (pc := 148) (dec_at lsk_222 (k := 64) rfl) rfl ?_
                    refine u_gS (o := 18) (p := 289) (pc := 149) (dec_at lsk_222 (k := 65) rfl) f_12_63 sx_271 rfl rfl ?_
                    refine u_ld (v := iV l1) (pc := 152) (dec_at lsk_222 (k := 66) rfl) rfl ?_
                    refine u_lald (pc := 153) (dec_at lsk_222 (k := 67) rfl) sx_289 (Int.not_lt.mp e3) g26 ?_
                    refine u_goto (pc := 154) (tgt := 160) (dec_at lsk_222 (k := 68) rfl) rfl ?_
                    exact u_rL (pc := 160) (dec_at lsk_222 (k := 70) rfl) rfl h
                · have h := ifF e25 h
                  by_cases e29 : l2 = 6
                  · have h := ifT e29 h
                    refine u_ts (pc := 21) (tgt := 161) (o := 140) (dec_at lsk_222 (k := 13) rfl) g5 (by omega) (by rw [e29]; rfl) rfl ?_
                    refine u_ld (v := .ref 271) (pc := 161) (dec_at lsk_222 (k := 71) rfl) rfl ?_
                    refine u_gS (o := 16) (p := 287) (pc := 162) (dec_at lsk_222 (k := 72) rfl) f_12_56 sx_271 rfl rfl ?_
                    refine u_ld (v := iV l1) (pc := 165) (dec_at lsk_222 (k := 73) rfl) rfl ?_
                    have g30 := h.1
                    have h := h.2
                    refine u_zald (pc := 166) (dec_at lsk_222 (k := 74) rfl) sx_287 (Int.not_lt.mp e3) g30 ?_
                    have g31 := h.1
                    have h := h.2
                    refine u_ifT (pc := 167) (tgt := 174) (dec_at lsk_222 (k := 75) rfl) rfl (c0_eq g31) (fun e32 => ?_) (fun e32 => ?_)
                    · have h := ifT e32 h
                      refine u_cl (x := 0) (pc := 174) (dec_at lsk_222 (k := 78) rfl) rfl (by decide) ?_
                      exact u_rL (pc := 175) (dec_at lsk_222 (k := 79) rfl) rfl h
                    · have h := ifF e32 h
                      refine u_cl (x := 1) (pc := 170) (dec_at lsk_222 (k := 76) rfl) rfl (by decide) ?_
                      refine u_goto (pc := 171) (tgt := 175) (dec_at lsk_222 (k := 77) rfl) rfl ?_
                      exact u_rL (pc := 175) (dec_at lsk_222 (k := 79) rfl) rfl h
                  · have h := ifF e29 h
                    refine u_td (pc := 21) (tgt := 176) (dec_at lsk_222 (k := 13) rfl) g5 (by omega) rfl ?_
                    refine u_ldc2 (x := (-1)) (pc := 176) (dec_at lsk_222 (k := 80) rfl) con_12_331 (by decide) ?_
                    exact u_rL (pc := 179) (dec_at lsk_222 (k := 81) rfl) rfl h
/-- method 223 -/
def K_223 (d pc : Nat) (lv : ev_L) (st : List Value) (u : uS) (Q : Int → uS → Prop) : Prop := okU d 12 4 false (some .long) prog_14_method_34_code (qL Q) pc lv st u
theorem e_223 {d : Nat} {Q : Int → uS → Prop} {u : uS} {l1 : Int} (h : (rI l1) ∧ ((rI ((u.1 271 5) - 1)) ∧ (if l1 < 0 then (Q (-1) u) else (if (u.1 271 5) - 1 < l1 then (Q (-1) u) else (cV (d + 1) 224 [.ref 271] u (fun u5 => K_223 (d + 1) 26 [.ref 271, iV l1, iV 1, .retAddr 0] [] u5 Q)))))) : cL (d + 2) 223 [.ref 271, iV l1] u Q := by
  refine u_of me_223 (Nat.le_of_ble_eq_true rfl) ?_
  refine u_ld (v := iV l1) (pc := 0) (dec_at lsk_223 (k := 0) rfl) rfl ?_
  have g1 := h.1
  have h := h.2
  refine u_i2l (pc := 1) (dec_at lsk_223 (k := 1) rfl) g1 ?_
  refine u_cl (x := 0) (pc := 2) (dec_at lsk_223 (k := 2) rfl) rfl (by decide) ?_
  refine u_ld (v := .ref 271) (pc := 3) (dec_at lsk_223 (k := 3) rfl) rfl ?_
  refine u_gI (z := 5) (pc := 4) (dec_at lsk_223 (k := 4) rfl) f_12_303 sx_271 rfl rfl ?_
  refine u_ld (v := iV 1) (pc := 7) (dec_at lsk_223 (k := 5) rfl) rfl ?_
  refine u_isub (pc := 8) (dec_at lsk_223 (k := 6) rfl) ?_
  have g2 := h.1
  have h := h.2
  refine u_i2l (pc := 9) (dec_at lsk_223 (k := 7) rfl) g2 ?_
  refine u_csI (As := [lV l1, lV 0, lV ((u.1 271 5) - 1)]) (st2 := []) (pc := 10) (dec_at lsk_223 (k := 8) rfl) m_12_250 (Or.inl rfl) rfl (Nat.le_of_ble_eq_true rfl) ?_ (fun _ _ h_ => h_)
  refine u_of me_203 (Nat.le_of_ble_eq_true rfl) ?_
  refine u_ld (v := lV l1) (pc := 0) (dec_at lsk_203 (k := 0) rfl) rfl ?_
  refine u_ld (v := lV 0) (pc := 1) (dec_at lsk_203 (k := 1) rfl) rfl ?_
  refine u_st (st' := [.int (lg_cmp (Int64.ofInt l1) (Int64.ofInt 0))]) (pc := 2) (dec_at lsk_203 (k := 2) rfl) rfl ?_
  refine u_ifT (pc := 3) (tgt := 17) (dec_at lsk_203 (k := 3) rfl) rfl (cl_lt (rl_ri g1) (by decide)) (fun e3 => ?_) (fun e3 => ?_)
  · have h := ifT e3 h
    refine u_ld (v := iV 0) (pc := 17) (dec_at lsk_203 (k := 10) rfl) rfl ?_
    refine u_rZ (pc := 18) (dec_at lsk_203 (k := 11) rfl) rfl (by decide) ?_
    refine u_ifF (pc := 13) (tgt := 20) (dec_at lsk_223 (k := 9) rfl) rfl (c0_ne (by decide)) (fun _ => ?_) (fun e => absurd e (by decide))
    refine u_ldc2 (x := (-1)) (pc := 16) (dec_at lsk_223 (k := 10) rfl) con_12_331 (by decide) ?_
    exact u_rL (pc := 19) (dec_at lsk_223 (k := 11) rfl) rfl h
  · have h := ifF e3 h
    refine u_ld (v := lV l1) (pc := 6) (dec_at lsk_203 (k := 4) rfl) rfl ?_
    refine u_ld (v := lV ((u.1 271 5) - 1)) (pc := 7) (dec_at lsk_203 (k := 5) rfl) rfl ?_
    refine u_st (st' := [.int (lg_cmp (Int64.ofInt l1) (Int64.ofInt ((u.1 271 5) - 1)))]) (pc := 9) (dec_at lsk_203 (k := 6) rfl) rfl ?_
    refine u_ifT (pc := 10) (tgt := 17) (dec_at lsk_203 (k := 7) rfl) rfl (cl_gt (rl_ri g1) (rl_ri g2)) (fun e4 => ?_) (fun e4 => ?_)
    · have h := ifT e4 h
      refine u_ld (v := iV 0) (pc := 17) (dec_at lsk_203 (k := 10) rfl) rfl ?_
      refine u_rZ (pc := 18) (dec_at lsk_203 (k := 11) rfl) rfl (by decide) ?_
      refine u_ifF (pc := 13) (tgt := 20) (dec_at lsk_223 (k := 9) rfl) rfl (c0_ne (by decide)) (fun _ => ?_) (fun e => absurd e (by decide))
      refine u_ldc2 (x := (-1)) (pc := 16) (dec_at lsk_223 (k := 10) rfl) con_12_331 (by decide) ?_
      exact u_rL (pc := 19) (dec_at lsk_223 (k := 11) rfl) rfl h
    · have h := ifF e4 h
      refine u_ld (v := iV 1) (pc := 13) (dec_at lsk_203 (k := 8) rfl) rfl ?_
      refine u_goto (pc := 14) (tgt := 18) (dec_at lsk_203 (k := 9) rfl) rfl ?_
      refine u_rZ (pc := 18) (dec_at lsk_203 (k := 11) rfl) rfl (by decide) ?_
      refine u_ifF (pc := 13) (tgt := 20) (dec_at lsk_223 (k := 9) rfl) rfl (c0_ne (by decide)) (fun e => absurd e (by decide)) (fun _ => ?_)
      refine u_ld (v := .ref 271) (pc := 20) (dec_at lsk_223 (k := 12) rfl) rfl ?_
      refine u_cvV (As := []) (rb := 271) (st2 := []) (pc := 21) (dec_at lsk_223 (k := 13) rfl) m_12_363 (Or.inl rfl) rfl (Nat.le_of_ble_eq_true rfl) sx_271 me_224 rfl h (fun u5 h => ?_)
      refine u_ld (v := iV 1) (pc := 24) (dec_at lsk_223 (k := 14) rfl) rfl ?_
      refine u_sto (lv' := [.ref 271, iV l1, iV 1, .retAddr 0]) (pc := 25) (dec_at lsk_223 (k := 15) rfl) rfl ?_
      exact h
theorem k_223_26 {d : Nat} {Q : Int → uS → Prop} {u : uS} {l1 l2 : Int} (h : (rI l2) ∧ ((rI (u.1 271 3)) ∧ (if u.1 271 3 < l2 then (if u.1 271 3 = 0 then ((0 ≤ l1) ∧ ((l1 < 10) ∧ ((rL (u.1 292 l1)) ∧ (if u.1 292 l1 = 5000000000000000000 then (Q (-2) u) else (Q (u.1 292 l1) u))))) else ((0 ≤ (((l1 * 41) + 0) * 41) + (u.1 271 3)) ∧ (((((l1 * 41) + 0) * 41) + (u.1 271 3) < 16810) ∧ ((rL (u.1 296 ((((l1 * 41) + 0) * 41) + (u.1 271 3)))) ∧ (if u.1 296 ((((l1 * 41) + 0) * 41) + (u.1 271 3)) = 5000000000000000000 then (Q (-2) u) else (Q (u.1 296 ((((l1 * 41) + 0) * 41) + (u.1 271 3))) u)))))) else (K_223 (d + 1) 36 [.ref 271, iV l1, iV l2, iV 0] [] u Q)))) : K_223 (d + 1) 26 [.ref 271, iV l1, iV l2, .retAddr 0] [] u Q := by
  unfold K_223
  refine u_ld (v := iV l2) (pc := 26) (dec_at lsk_223 (k := 16) rfl) rfl ?_
  refine u_ld (v := .ref 271) (pc := 27) (dec_at lsk_223 (k := 17) rfl) rfl ?_
  refine u_gI (z := 3) (pc := 28) (dec_at lsk_223 (k := 18) rfl) f_12_262 sx_271 rfl rfl ?_
  have g1 := h.1
  have h := h.2
  have g2 := h.1
  have h := h.2
  refine u_icT (pc := 31) (tgt := 67) (dec_at lsk_223 (k := 19) rfl) rfl (ci_gt g1 g2) (fun e3 => ?_) (fun e3 => ?_)
  · have h := ifT e3 h
    refine u_ld (v := .ref 271) (pc := 67) (dec_at lsk_223 (k := 39) rfl) rfl ?_
    refine u_gI (z := 3) (pc := 68) (dec_at lsk_223 (k := 40) rfl) f_12_262 sx_271 rfl rfl ?_
    refine u_ifF (pc := 71) (tgt := 83) (dec_at lsk_223 (k := 41) rfl) rfl (c0_ne g2) (fun e4 => ?_) (fun e4 => ?_)
    · have h := ifT e4 h
      refine u_ld (v := .ref 271) (pc := 74) (dec_at lsk_223 (k := 42) rfl) rfl ?_
      refine u_gS (o := 21) (p := 292) (pc := 75) (dec_at lsk_223 (k := 43) rfl) f_12_72 sx_271 rfl rfl ?_
      refine u_ld (v := iV l1) (pc := 78) (dec_at lsk_223 (k := 44) rfl) rfl ?_
      have g5 := h.1
      have h := h.2
      have g6 := h.1
      have h := h.2
      refine u_lald (pc := 79) (dec_at lsk_223 (k := 45) rfl) sx_292 g5 g6 ?_
      refine u_goto (pc := 80) (tgt := 97) (dec_at lsk_223 (k := 46) rfl) rfl ?_
      refine u_csL (As := [lV (u.1 292 l1)]) (st2 := []) (pc := 97) (dec_at lsk_223 (k := 55) rfl) m_12_369 (Or.inl rfl) rfl (Nat.le_of_ble_eq_true rfl) ?_ (fun _ _ h_ => h_)
      refine u_of me_233 (Nat.le_of_ble_eq_true rfl) ?_
      refine u_ld (v := lV (u.1 292 l1)) (pc := 0) (dec_at lsk_233 (k := 0) rfl) rfl ?_
      refine u_ldc2 (x := 5000000000000000000) (pc := 1) (dec_at lsk_233 (k := 1) rfl) con_12_242 (by decide) ?_
      refine u_st (st' := [.int (lg_cmp (Int64.ofInt (u.1 292 l1)) (Int64.ofInt 5000000000000000000))]) (pc := 4) (dec_at lsk_233 (k := 2) rfl) rfl ?_
      have g7 := h.1
      have h := h.2
      refine u_ifF (pc := 5) (tgt := 14) (dec_at lsk_233 (k := 3) rfl) rfl (cl_ne g7 (by decide)) (fun e8 => ?_) (fun e8 => ?_)
      · have h := ifT e8 h
        refine u_ldc2 (x := (-2)) (pc := 8) (dec_at lsk_233 (k := 4) rfl) con_12_333 (by decide) ?_
        refine u_goto (pc := 11) (tgt := 15) (dec_at lsk_233 (k := 5) rfl) rfl ?_
        refine u_rL (pc := 15) (dec_at lsk_233 (k := 7) rfl) rfl ?_
        exact u_rL (pc := 100) (dec_at lsk_223 (k := 56) rfl) rfl h
      · have h := ifF e8 h
        refine u_ld (v := lV (u.1 292 l1)) (pc := 14) (dec_at lsk_233 (k := 6) rfl) rfl ?_
        refine u_rL (pc := 15) (dec_at lsk_233 (k := 7) rfl) rfl ?_
        exact u_rL (pc := 100) (dec_at lsk_223 (k := 56) rfl) rfl h
    · have h := ifF e4 h
      refine u_ld (v := .ref 271) (pc := 83) (dec_at lsk_223 (k := 47) rfl) rfl ?_
      refine u_gS (o := 25) (p := 296) (pc := 84) (dec_at lsk_223 (k := 48) rfl) f_12_84 sx_271 rfl rfl ?_
      refine u_ld (v := iV l1) (pc := 87) (dec_at lsk_223 (k := 49) rfl) rfl ?_
      refine u_ld (v := iV 0) (pc := 88) (dec_at lsk_223 (k := 50) rfl) rfl ?_
      refine u_ld (v := .ref 271) (pc := 89) (dec_at lsk_223 (k := 51) rfl) rfl ?_
      refine u_gI (z := 3) (pc := 90) (dec_at lsk_223 (k := 52) rfl) f_12_262 sx_271 rfl rfl ?_
      refine u_csI (As := [iV l1, iV 0, iV (u.1 271 3)]) (st2 := [.ref 296]) (pc := 93) (dec_at lsk_223 (k := 53) rfl) m_12_352 (Or.inl rfl) rfl (Nat.le_of_ble_eq_true rfl) ?_ (fun _ _ h_ => h_)
      refine u_of me_231 (Nat.le_of_ble_eq_true rfl) ?_
      refine u_ld (v := iV l1) (pc := 0) (dec_at lsk_231 (k := 0) rfl) rfl ?_
      refine u_c (x := 41) (pc := 1) (dec_at lsk_231 (k := 1) rfl) rfl (by decide) ?_
      refine u_imul (pc := 3) (dec_at lsk_231 (k := 2) rfl) ?_
      refine u_ld (v := iV 0) (pc := 4) (dec_at lsk_231 (k := 3) rfl) rfl ?_
      refine u_iadd (pc := 5) (dec_at lsk_231 (k := 4) rfl) ?_
      refine u_c (x := 41) (pc := 6) (dec_at lsk_231 (k := 5) rfl) rfl (by decide) ?_
      refine u_imul (pc := 8) (dec_at lsk_231 (k := 6) rfl) ?_
      refine u_ld (v := iV (u.1 271 3)) (pc := 9) (dec_at lsk_231 (k := 7) rfl) rfl ?_
      refine u_iadd (pc := 10) (dec_at lsk_231 (k := 8) rfl) ?_
      refine u_rI (pc := 11) (dec_at lsk_231 (k := 9) rfl) rfl ?_
      have g9 := h.1
      have h := h.2
      have g10 := h.1
      have h := h.2
      refine u_lald (pc := 96) (dec_at lsk_223 (k := 54) rfl) sx_296 g9 g10 ?_
      refine u_csL (As := [lV (u.1 296 ((((l1 * 41) + 0) * 41) + (u.1 271 3)))]) (st2 := []) (pc := 97) (dec_at lsk_223 (k := 55) rfl) m_12_369 (Or.inl rfl) rfl (Nat.le_of_ble_eq_true rfl) ?_ (fun _ _ h_ => h_)
      refine u_of me_233 (Nat.le_of_ble_eq_true rfl) ?_
      refine u_ld (v := lV (u.1 296 ((((l1 * 41) + 0) * 41) + (u.1 271 3)))) (pc := 0) (dec_at lsk_233 (k := 0) rfl) rfl ?_
      refine u_ldc2 (x := 5000000000000000000) (pc := 1) (dec_at lsk_233 (k := 1) rfl) con_12_242 (by decide) ?_
      refine u_st (st' := [.int (lg_cmp (Int64.ofInt (u.1 296 ((((l1 * 41) + 0) * 41) + (u.1 271 3)))) (Int64.ofInt 5000000000000000000))]) (pc := 4) (dec_at lsk_233 (k := 2) rfl) rfl ?_
      have g11 := h.1
      have h := h.2
      refine u_ifF (pc := 5) (tgt := 14) (dec_at lsk_233 (k := 3) rfl) rfl (cl_ne g11 (by decide)) (fun e12 => ?_) (fun e12 => ?_)
      · have h := ifT e12 h
        refine u_ldc2 (x := (-2)) (pc := 8) (dec_at lsk_233 (k := 4) rfl) con_12_333 (by decide) ?_
        refine u_goto (pc := 11) (tgt := 15) (dec_at lsk_233 (k := 5) rfl) rfl ?_
        refine u_rL (pc := 15) (dec_at lsk_233 (k := 7) rfl) rfl ?_
        exact u_rL (pc := 100) (dec_at lsk_223 (k := 56) rfl) rfl h
      · have h := ifF e12 h
        refine u_ld (v := lV (u.1 296 ((((l1 * 41) + 0) * 41) + (u.1 271 3)))) (pc := 14) (dec_at lsk_233 (k := 6) rfl) rfl ?_
        refine u_rL (pc := 15) (dec_at lsk_233 (k := 7) rfl) rfl ?_
        exact u_rL (pc := 100) (dec_at lsk_223 (k := 56) rfl) rfl h
  · have h := ifF e3 h
    refine u_ld (v := iV 0) (pc := 34) (dec_at lsk_223 (k := 20) rfl) rfl ?_
    refine u_sto (lv' := [.ref 271, iV l1, iV l2, iV 0]) (pc := 35) (dec_at lsk_223 (k := 21) rfl) rfl ?_
    exact h
theorem k_223_36 {d : Nat} {Q : Int → uS → Prop} {u : uS} {l1 l2 l3 : Int} (h : (rI (l3 + l2)) ∧ ((rI (u.1 271 3)) ∧ (if u.1 271 3 < l3 + l2 then (K_223 (d + 1) 26 [.ref 271, iV l1, iV (l2 + 1), .retAddr 0] [] u Q) else (cV (d + 1) 228 [.ref 271, iV l3, iV (l3 + l2), iV 0] u (fun u4 => K_223 (d + 1) 36 [.ref 271, iV l1, iV l2, iV (l3 + 1)] [] u4 Q))))) : K_223 (d + 1) 36 [.ref 271, iV l1, iV l2, iV l3] [] u Q := by
  unfold K_223
  refine u_ld (v := iV l3) (pc := 36) (dec_at lsk_223 (k := 22) rfl) rfl ?_
  refine u_ld (v := iV l2) (pc := 37) (dec_at lsk_223 (k := 23) rfl) rfl ?_
  refine u_iadd (pc := 38) (dec_at lsk_223 (k := 24) rfl) ?_
  refine u_ld (v := .ref 271) (pc := 39) (dec_at lsk_223 (k := 25) rfl) rfl ?_
  refine u_gI (z := 3) (pc := 40) (dec_at lsk_223 (k := 26) rfl) f_12_262 sx_271 rfl rfl ?_
  have g1 := h.1
  have h := h.2
  have g2 := h.1
  have h := h.2
  refine u_icT (pc := 43) (tgt := 61) (dec_at lsk_223 (k := 27) rfl) rfl (ci_gt g1 g2) (fun e3 => ?_) (fun e3 => ?_)
  · have h := ifT e3 h
    refine u_inc (lv' := [.ref 271, iV l1, iV (l2 + 1), iV l3]) (pc := 61) (dec_at lsk_223 (k := 37) rfl) rfl (by decide) rfl ?_
    refine u_goto (pc := 64) (tgt := 26) (dec_at lsk_223 (k := 38) rfl) rfl ?_
    exact u_weak (sbK (sbK (sbK (sbD sb0)))) h
  · have h := ifF e3 h
    refine u_ld (v := .ref 271) (pc := 46) (dec_at lsk_223 (k := 28) rfl) rfl ?_
    refine u_ld (v := iV l3) (pc := 47) (dec_at lsk_223 (k := 29) rfl) rfl ?_
    refine u_ld (v := iV l3) (pc := 48) (dec_at lsk_223 (k := 30) rfl) rfl ?_
    refine u_ld (v := iV l2) (pc := 49) (dec_at lsk_223 (k := 31) rfl) rfl ?_
    refine u_iadd (pc := 50) (dec_at lsk_223 (k := 32) rfl) ?_
    refine u_ld (v := iV 0) (pc := 51) (dec_at lsk_223 (k := 33) rfl) rfl ?_
    refine u_cvV (As := [iV l3, iV (l3 + l2), iV 0]) (rb := 271) (st2 := []) (pc := 52) (dec_at lsk_223 (k := 34) rfl) m_12_366 (Or.inl rfl) rfl (Nat.le_of_ble_eq_true rfl) sx_271 me_228 rfl h (fun u4 h => ?_)
    refine u_inc (lv' := [.ref 271, iV l1, iV l2, iV (l3 + 1)]) (pc := 55) (dec_at lsk_223 (k := 35) rfl) rfl (by decide) rfl ?_
    refine u_goto (pc := 58) (tgt := 36) (dec_at lsk_223 (k := 36) rfl) rfl ?_
    exact h
/-- method 224 -/
def K_224 (d pc : Nat) (lv : ev_L) (st : List Value) (u : uS) (Q : uS → Prop) : Prop := okU d 12 9 false none prog_14_method_27_code (qV Q) pc lv st u
theorem e_224 {d : Nat} {Q : uS → Prop} {u : uS} (h : K_224 (d + 1) 2 [.ref 271, iV 0, .retAddr 0, .retAddr 0, .retAddr 0, .retAddr 0, .retAddr 0, .retAddr 0, .retAddr 0] [] u Q) : cV (d + 2) 224 [.ref 271] u Q := by
  refine u_of me_224 (Nat.le_of_ble_eq_true rfl) ?_
  refine u_ld (v := iV 0) (pc := 0) (dec_at lsk_224 (k := 0) rfl) rfl ?_
  refine u_sto (lv' := [.ref 271, iV 0, .retAddr 0, .retAddr 0, .retAddr 0, .retAddr 0, .retAddr 0, .retAddr 0, .retAddr 0]) (pc := 1) (dec_at lsk_224 (k := 1) rfl) rfl ?_
  exact h
theorem k_224_2 {d : Nat} {Q : uS → Prop} {u : uS} {l1 : Int} (h : (rI l1) ∧ (if l1 < 100 then ((0 ≤ l1) ∧ (∀ u4 : uS, u4 = wr u 293 l1 0 → (K_224 (d + 1) 2 [.ref 271, iV (l1 + 1), .retAddr 0, .retAddr 0, .retAddr 0, .retAddr 0, .retAddr 0, .retAddr 0, .retAddr 0] [] u4 Q))) else (K_224 (d + 1) 23 [.ref 271, iV 0, .retAddr 0, .retAddr 0, .retAddr 0, .retAddr 0, .retAddr 0, .retAddr 0, .retAddr 0] [] u Q))) : K_224 (d + 1) 2 [.ref 271, iV l1, .retAddr 0, .retAddr 0, .retAddr 0, .retAddr 0, .retAddr 0, .retAddr 0, .retAddr 0] [] u Q := by
  unfold K_224
  refine u_ld (v := iV l1) (pc := 2) (dec_at lsk_224 (k := 2) rfl) rfl ?_
  refine u_c (x := 100) (pc := 3) (dec_at lsk_224 (k := 3) rfl) rfl (by decide) ?_
  have g1 := h.1
  have h := h.2
  refine u_icF (pc := 5) (tgt := 21) (dec_at lsk_224 (k := 4) rfl) rfl (ci_ge g1 (by decide)) (fun e2 => ?_) (fun e2 => ?_)
  · have h := ifT e2 h
    refine u_ld (v := .ref 271) (pc := 8) (dec_at lsk_224 (k := 5) rfl) rfl ?_
    refine u_gS (o := 22) (p := 293) (pc := 9) (dec_at lsk_224 (k := 6) rfl) f_12_75 sx_271 rfl rfl ?_
    refine u_ld (v := iV l1) (pc := 12) (dec_at lsk_224 (k := 7) rfl) rfl ?_
    refine u_ld (v := iV 0) (pc := 13) (dec_at lsk_224 (k := 8) rfl) rfl ?_
    have g3 := h.1
    have h := h.2
    refine u_zast (pc := 14) (dec_at lsk_224 (k := 9) rfl) sx_293 g3 e2 (by decide) (fun u4 e5 => ?_)
    have h := h u4 e5
    refine u_inc (lv' := [.ref 271, iV (l1 + 1), .retAddr 0, .retAddr 0, .retAddr 0, .retAddr 0, .retAddr 0, .retAddr 0, .retAddr 0]) (pc := 15) (dec_at lsk_224 (k := 10) rfl) rfl (by decide) rfl ?_
    refine u_goto (pc := 18) (tgt := 2) (dec_at lsk_224 (k := 11) rfl) rfl ?_
    exact h
  · have h := ifF e2 h
    refine u_ld (v := iV 0) (pc := 21) (dec_at lsk_224 (k := 12) rfl) rfl ?_
    refine u_sto (lv' := [.ref 271, iV 0, .retAddr 0, .retAddr 0, .retAddr 0, .retAddr 0, .retAddr 0, .retAddr 0, .retAddr 0]) (pc := 22) (dec_at lsk_224 (k := 13) rfl) rfl ?_
    exact h
theorem k_224_23 {d : Nat} {Q : uS → Prop} {u : uS} {l1 : Int} (h : (rI l1) ∧ ((rI (u.1 271 6)) ∧ (if l1 < u.1 271 6 then (K_224 (d + 1) 33 [.ref 271, iV l1, iV 0, .retAddr 0, .retAddr 0, .retAddr 0, .retAddr 0, .retAddr 0, .retAddr 0] [] u Q) else (cV (d + 1) 226 [.ref 271, .ref 285] u (fun u4 => K_224 (d + 1) 103 [.ref 271, iV 0, .retAddr 0, .retAddr 0, .retAddr 0, .retAddr 0, .retAddr 0, .retAddr 0, .retAddr 0] [] u4 Q))))) : K_224 (d + 1) 23 [.ref 271, iV l1, .retAddr 0, .retAddr 0, .retAddr 0, .retAddr 0, .retAddr 0, .retAddr 0, .retAddr 0] [] u Q := by
  unfold K_224
  refine u_ld (v := iV l1) (pc := 23) (dec_at lsk_224 (k := 14) rfl) rfl ?_
  refine u_ld (v := .ref 271) (pc := 24) (dec_at lsk_224 (k := 15) rfl) rfl ?_
  refine u_gI (z := 6) (pc := 25) (dec_at lsk_224 (k := 16) rfl) f_12_306 sx_271 rfl rfl ?_
  have g1 := h.1
  have h := h.2
  have g2 := h.1
  have h := h.2
  refine u_icF (pc := 28) (tgt := 93) (dec_at lsk_224 (k := 17) rfl) rfl (ci_ge g1 g2) (fun e3 => ?_) (fun e3 => ?_)
  · have h := ifT e3 h
    refine u_ld (v := iV 0) (pc := 31) (dec_at lsk_224 (k := 18) rfl) rfl ?_
    refine u_sto (lv' := [.ref 271, iV l1, iV 0, .retAddr 0, .retAddr 0, .retAddr 0, .retAddr 0, .retAddr 0, .retAddr 0]) (pc := 32) (dec_at lsk_224 (k := 19) rfl) rfl ?_
    exact h
  · have h := ifF e3 h
    refine u_ld (v := .ref 271) (pc := 93) (dec_at lsk_224 (k := 55) rfl) rfl ?_
    refine u_ld (v := .ref 271) (pc := 94) (dec_at lsk_224 (k := 56) rfl) rfl ?_
    refine u_gS (o := 14) (p := 285) (pc := 95) (dec_at lsk_224 (k := 57) rfl) f_12_50 sx_271 rfl rfl ?_
    refine u_cvV (As := [.ref 285]) (rb := 271) (st2 := []) (pc := 98) (dec_at lsk_224 (k := 58) rfl) m_12_341 (Or.inl rfl) rfl (Nat.le_of_ble_eq_true rfl) sx_271 me_226 rfl h (fun u4 h => ?_)
    refine u_ld (v := iV 0) (pc := 101) (dec_at lsk_224 (k := 59) rfl) rfl ?_
    refine u_sto (lv' := [.ref 271, iV 0, .retAddr 0, .retAddr 0, .retAddr 0, .retAddr 0, .retAddr 0, .retAddr 0, .retAddr 0]) (pc := 102) (dec_at lsk_224 (k := 60) rfl) rfl ?_
    exact h
theorem k_224_33 {d : Nat} {Q : uS → Prop} {u : uS} {l1 l2 : Int} (h : (0 ≤ l1) ∧ ((l1 < 30) ∧ ((rI l2) ∧ ((rI (u.1 276 l1)) ∧ (if l2 < u.1 276 l1 then (cI (d + 1) 225 [.ref 271, iV l1] u (fun r7 u6 => (rI r7) ∧ (if r7 = 0 then (K_224 (d + 1) 23 [.ref 271, iV (l1 + 1), .retAddr 0, .retAddr 0, .retAddr 0, .retAddr 0, .retAddr 0, .retAddr 0, .retAddr 0] [] u6 Q) else ((0 ≤ (6 * l1) + l2) ∧ (((6 * l1) + l2 < 180) ∧ ((0 ≤ ((10 * (u6.1 275 l1)) + (u6.1 277 ((6 * l1) + l2))) - 100) ∧ ((((10 * (u6.1 275 l1)) + (u6.1 277 ((6 * l1) + l2))) - 100 < 100) ∧ (∀ u14 : uS, u14 = wr u6 293 (((10 * (u6.1 275 l1)) + (u6.1 277 ((6 * l1) + l2))) - 100) 1 → (K_224 (d + 1) 33 [.ref 271, iV l1, iV (l2 + 1), .retAddr 0, .retAddr 0, .retAddr 0, .retAddr 0, .retAddr 0, .retAddr 0] [] u14 Q))))))))) else (K_224 (d + 1) 23 [.ref 271, iV (l1 + 1), .retAddr 0, .retAddr 0, .retAddr 0, .retAddr 0, .retAddr 0, .retAddr 0, .retAddr 0] [] u Q)))))) : K_224 (d + 1) 33 [.ref 271, iV l1, iV l2, .retAddr 0, .retAddr 0, .retAddr 0, .retAddr 0, .retAddr 0, .retAddr 0] [] u Q := by
  unfold K_224
  refine u_ld (v := iV l2) (pc := 33) (dec_at lsk_224 (k := 20) rfl) rfl ?_
  refine u_ld (v := .ref 271) (pc := 34) (dec_at lsk_224 (k := 21) rfl) rfl ?_
  refine u_gS (o := 5) (p := 276) (pc := 35) (dec_at lsk_224 (k := 22) rfl) f_12_22 sx_271 rfl rfl ?_
  refine u_ld (v := iV l1) (pc := 38) (dec_at lsk_224 (k := 23) rfl) rfl ?_
  have g1 := h.1
  have h := h.2
  have g2 := h.1
  have h := h.2
  refine u_iald (pc := 39) (dec_at lsk_224 (k := 24) rfl) sx_276 g1 g2 ?_
  have g3 := h.1
  have h := h.2
  have g4 := h.1
  have h := h.2
  refine u_icF (pc := 40) (tgt := 87) (dec_at lsk_224 (k := 25) rfl) rfl (ci_ge g3 g4) (fun e5 => ?_) (fun e5 => ?_)
  · have h := ifT e5 h
    refine u_ld (v := .ref 271) (pc := 43) (dec_at lsk_224 (k := 26) rfl) rfl ?_
    refine u_ld (v := iV l1) (pc := 44) (dec_at lsk_224 (k := 27) rfl) rfl ?_
    refine u_cvI (As := [iV l1]) (rb := 271) (st2 := []) (pc := 45) (dec_at lsk_224 (k := 28) rfl) m_12_338 (Or.inl rfl) rfl (Nat.le_of_ble_eq_true rfl) sx_271 me_225 rfl h (fun r7 u6 h => ?_)
    have g8 := h.1
    have h := h.2
    refine u_ifT (pc := 48) (tgt := 87) (dec_at lsk_224 (k := 29) rfl) rfl (c0_eq g8) (fun e9 => ?_) (fun e9 => ?_)
    · have h := ifT e9 h
      refine u_inc (lv' := [.ref 271, iV (l1 + 1), iV l2, .retAddr 0, .retAddr 0, .retAddr 0, .retAddr 0, .retAddr 0, .retAddr 0]) (pc := 87) (dec_at lsk_224 (k := 53) rfl) rfl (by decide) rfl ?_
      refine u_goto (pc := 90) (tgt := 23) (dec_at lsk_224 (k := 54) rfl) rfl ?_
      exact u_weak (sbK (sbK (sbD (sbK (sbK (sbK (sbK (sbK (sbK sb0))))))))) h
    · have h := ifF e9 h
      refine u_ld (v := .ref 271) (pc := 51) (dec_at lsk_224 (k := 30) rfl) rfl ?_
      refine u_gS (o := 22) (p := 293) (pc := 52) (dec_at lsk_224 (k := 31) rfl) f_12_75 sx_271 rfl rfl ?_
      refine u_c (x := 10) (pc := 55) (dec_at lsk_224 (k := 32) rfl) rfl (by decide) ?_
      refine u_ld (v := .ref 271) (pc := 57) (dec_at lsk_224 (k := 33) rfl) rfl ?_
      refine u_gS (o := 4) (p := 275) (pc := 58) (dec_at lsk_224 (k := 34) rfl) f_12_19 sx_271 rfl rfl ?_
      refine u_ld (v := iV l1) (pc := 61) (dec_at lsk_224 (k := 35) rfl) rfl ?_
      refine u_iald (pc := 62) (dec_at lsk_224 (k := 36) rfl) sx_275 g1 g2 ?_
      refine u_imul (pc := 63) (dec_at lsk_224 (k := 37) rfl) ?_
      refine u_ld (v := .ref 271) (pc := 64) (dec_at lsk_224 (k := 38) rfl) rfl ?_
      refine u_gS (o := 6) (p := 277) (pc := 65) (dec_at lsk_224 (k := 39) rfl) f_12_25 sx_271 rfl rfl ?_
      refine u_c (x := 6) (pc := 68) (dec_at lsk_224 (k := 40) rfl) rfl (by decide) ?_
      refine u_ld (v := iV l1) (pc := 70) (dec_at lsk_224 (k := 41) rfl) rfl ?_
      refine u_imul (pc := 71) (dec_at lsk_224 (k := 42) rfl) ?_
      refine u_ld (v := iV l2) (pc := 72) (dec_at lsk_224 (k := 43) rfl) rfl ?_
      refine u_iadd (pc := 73) (dec_at lsk_224 (k := 44) rfl) ?_
      have g10 := h.1
      have h := h.2
      have g11 := h.1
      have h := h.2
      refine u_iald (pc := 74) (dec_at lsk_224 (k := 45) rfl) sx_277 g10 g11 ?_
      refine u_iadd (pc := 75) (dec_at lsk_224 (k := 46) rfl) ?_
      refine u_c (x := 100) (pc := 76) (dec_at lsk_224 (k := 47) rfl) rfl (by decide) ?_
      refine u_isub (pc := 78) (dec_at lsk_224 (k := 48) rfl) ?_
      refine u_ld (v := iV 1) (pc := 79) (dec_at lsk_224 (k := 49) rfl) rfl ?_
      have g12 := h.1
      have h := h.2
      have g13 := h.1
      have h := h.2
      refine u_zast (pc := 80) (dec_at lsk_224 (k := 50) rfl) sx_293 g12 g13 (by decide) (fun u14 e15 => ?_)
      have h := h u14 e15
      refine u_inc (lv' := [.ref 271, iV l1, iV (l2 + 1), .retAddr 0, .retAddr 0, .retAddr 0, .retAddr 0, .retAddr 0, .retAddr 0]) (pc := 81) (dec_at lsk_224 (k := 51) rfl) rfl (by decide) rfl ?_
      refine u_goto (pc := 84) (tgt := 33) (dec_at lsk_224 (k := 52) rfl) rfl ?_
      exact h
  · have h := ifF e5 h
    refine u_inc (lv' := [.ref 271, iV (l1 + 1), iV l2, .retAddr 0, .retAddr 0, .retAddr 0, .retAddr 0, .retAddr 0, .retAddr 0]) (pc := 87) (dec_at lsk_224 (k := 53) rfl) rfl (by decide) rfl ?_
    refine u_goto (pc := 90) (tgt := 23) (dec_at lsk_224 (k := 54) rfl) rfl ?_
    exact u_weak (sbK (sbK (sbD (sbK (sbK (sbK (sbK (sbK (sbK sb0))))))))) h
theorem k_224_103 {d : Nat} {Q : uS → Prop} {u : uS} {l1 : Int} (h : (rI l1) ∧ (if l1 < 10 then ((rI (u.1 271 5)) ∧ (if l1 < u.1 271 5 then ((0 ≤ l1) ∧ ((rI (u.1 285 l1)) ∧ (if u.1 285 l1 = 0 then (∀ u8 : uS, u8 = wr u 292 l1 0 → (K_224 (d + 1) 103 [.ref 271, iV (l1 + 1), .retAddr 0, .retAddr 0, .retAddr 0, .retAddr 0, .retAddr 0, .retAddr 0, .retAddr 0] [] u8 Q)) else (∀ u10 : uS, u10 = wr u 292 l1 5000000000000000000 → (K_224 (d + 1) 103 [.ref 271, iV (l1 + 1), .retAddr 0, .retAddr 0, .retAddr 0, .retAddr 0, .retAddr 0, .retAddr 0, .retAddr 0] [] u10 Q))))) else ((0 ≤ l1) ∧ (∀ u13 : uS, u13 = wr u 292 l1 0 → (K_224 (d + 1) 103 [.ref 271, iV (l1 + 1), .retAddr 0, .retAddr 0, .retAddr 0, .retAddr 0, .retAddr 0, .retAddr 0, .retAddr 0] [] u13 Q))))) else (K_224 (d + 1) 147 [.ref 271, iV 0, .retAddr 0, .retAddr 0, .retAddr 0, .retAddr 0, .retAddr 0, .retAddr 0, .retAddr 0] [] u Q))) : K_224 (d + 1) 103 [.ref 271, iV l1, .retAddr 0, .retAddr 0, .retAddr 0, .retAddr 0, .retAddr 0, .retAddr 0, .retAddr 0] [] u Q := by
  unfold K_224
  refine u_ld (v := iV l1) (pc := 103) (dec_at lsk_224 (k := 61) rfl) rfl ?_
  refine u_c (x := 10) (pc := 104) (dec_at lsk_224 (k := 62) rfl) rfl (by decide) ?_
  have g1 := h.1
  have h := h.2
  refine u_icF (pc := 106) (tgt := 145) (dec_at lsk_224 (k := 63) rfl) rfl (ci_ge g1 (by decide)) (fun e2 => ?_) (fun e2 => ?_)
  · have h := ifT e2 h
    refine u_ld (v := .ref 271) (pc := 109) (dec_at lsk_224 (k := 64) rfl) rfl ?_
    refine u_gS (o := 21) (p := 292) (pc := 110) (dec_at lsk_224 (k := 65) rfl) f_12_72 sx_271 rfl rfl ?_
    refine u_ld (v := iV l1) (pc := 113) (dec_at lsk_224 (k := 66) rfl) rfl ?_
    refine u_ld (v := iV l1) (pc := 114) (dec_at lsk_224 (k := 67) rfl) rfl ?_
    refine u_ld (v := .ref 271) (pc := 115) (dec_at lsk_224 (k := 68) rfl) rfl ?_
    refine u_gI (z := 5) (pc := 116) (dec_at lsk_224 (k := 69) rfl) f_12_303 sx_271 rfl rfl ?_
    have g3 := h.1
    have h := h.2
    refine u_icF (pc := 119) (tgt := 137) (dec_at lsk_224 (k := 70) rfl) rfl (ci_ge g1 g3) (fun e4 => ?_) (fun e4 => ?_)
    · have h := ifT e4 h
      refine u_ld (v := .ref 271) (pc := 122) (dec_at lsk_224 (k := 71) rfl) rfl ?_
      refine u_gS (o := 14) (p := 285) (pc := 123) (dec_at lsk_224 (k := 72) rfl) f_12_50 sx_271 rfl rfl ?_
      refine u_ld (v := iV l1) (pc := 126) (dec_at lsk_224 (k := 73) rfl) rfl ?_
      have g5 := h.1
      have h := h.2
      refine u_zald (pc := 127) (dec_at lsk_224 (k := 74) rfl) sx_285 g5 e2 ?_
      have g6 := h.1
      have h := h.2
      refine u_ifT (pc := 128) (tgt := 137) (dec_at lsk_224 (k := 75) rfl) rfl (c0_eq g6) (fun e7 => ?_) (fun e7 => ?_)
      · have h := ifT e7 h
        refine u_cl (x := 0) (pc := 137) (dec_at lsk_224 (k := 78) rfl) rfl (by decide) ?_
        refine u_last (pc := 138) (dec_at lsk_224 (k := 79) rfl) sx_292 g5 e2 (fun u8 e9 => ?_)
        have h := h u8 e9
        refine u_inc (lv' := [.ref 271, iV (l1 + 1), .retAddr 0, .retAddr 0, .retAddr 0, .retAddr 0, .retAddr 0, .retAddr 0, .retAddr 0]) (pc := 139) (dec_at lsk_224 (k := 80) rfl) rfl (by decide) rfl ?_
        refine u_goto (pc := 142) (tgt := 103) (dec_at lsk_224 (k := 81) rfl) rfl ?_
        exact h
      · have h := ifF e7 h
        refine u_ldc2 (x := 5000000000000000000) (pc := 131) (dec_at lsk_224 (k := 76) rfl) con_12_242 (by decide) ?_
        refine u_goto (pc := 134) (tgt := 138) (dec_at lsk_224 (k := 77) rfl) rfl ?_
        refine u_last (pc := 138) (dec_at lsk_224 (k := 79) rfl) sx_292 g5 e2 (fun u10 e11 => ?_)
        have h := h u10 e11
        refine u_inc (lv' := [.ref 271, iV (l1 + 1), .retAddr 0, .retAddr 0, .retAddr 0, .retAddr 0, .retAddr 0, .retAddr 0, .retAddr 0]) (pc := 139) (dec_at lsk_224 (k := 80) rfl) rfl (by decide) rfl ?_
        refine u_goto (pc := 142) (tgt := 103) (dec_at lsk_224 (k := 81) rfl) rfl ?_
        exact h
    · have h := ifF e4 h
      refine u_cl (x := 0) (pc := 137) (dec_at lsk_224 (k := 78) rfl) rfl (by decide) ?_
      have g12 := h.1
      have h := h.2
      refine u_last (pc := 138) (dec_at lsk_224 (k := 79) rfl) sx_292 g12 e2 (fun u13 e14 => ?_)
      have h := h u13 e14
      refine u_inc (lv' := [.ref 271, iV (l1 + 1), .retAddr 0, .retAddr 0, .retAddr 0, .retAddr 0, .retAddr 0, .retAddr 0, .retAddr 0]) (pc := 139) (dec_at lsk_224 (k := 80) rfl) rfl (by decide) rfl ?_
      refine u_goto (pc := 142) (tgt := 103) (dec_at lsk_224 (k := 81) rfl) rfl ?_
      exact h
  · have h := ifF e2 h
    refine u_ld (v := iV 0) (pc := 145) (dec_at lsk_224 (k := 82) rfl) rfl ?_
    refine u_sto (lv' := [.ref 271, iV 0, .retAddr 0, .retAddr 0, .retAddr 0, .retAddr 0, .retAddr 0, .retAddr 0, .retAddr 0]) (pc := 146) (dec_at lsk_224 (k := 83) rfl) rfl ?_
    exact h
theorem k_224_147 {d : Nat} {Q : uS → Prop} {u : uS} {l1 : Int} (h : (rI l1) ∧ ((rI (u.1 271 33)) ∧ (if l1 < u.1 271 33 then ((0 ≤ l1) ∧ ((l1 < 10) ∧ (K_224 (d + 1) 167 [.ref 271, iV l1, iV (u.1 295 l1), lV 0, .retAddr 0, iV 0, .retAddr 0, .retAddr 0, .retAddr 0] [] u Q))) else (Q u)))) : K_224 (d + 1) 147 [.ref 271, iV l1, .retAddr 0, .retAddr 0, .retAddr 0, .retAddr 0, .retAddr 0, .retAddr 0, .retAddr 0] [] u Q := by
  unfold K_224
  refine u_ld (v := iV l1) (pc := 147) (dec_at lsk_224 (k := 84) rfl) rfl ?_
  refine u_ld (v := .ref 271) (pc := 148) (dec_at lsk_224 (k := 85) rfl) rfl ?_
  refine u_gI (z := 33) (pc := 149) (dec_at lsk_224 (k := 86) rfl) f_12_335 sx_271 rfl rfl ?_
  have g1 := h.1
  have h := h.2
  have g2 := h.1
  have h := h.2
  refine u_icF (pc := 152) (tgt := 274) (dec_at lsk_224 (k := 87) rfl) rfl (ci_ge g1 g2) (fun e3 => ?_) (fun e3 => ?_)
  · have h := ifT e3 h
    refine u_ld (v := .ref 271) (pc := 155) (dec_at lsk_224 (k := 88) rfl) rfl ?_
    refine u_gS (o := 24) (p := 295) (pc := 156) (dec_at lsk_224 (k := 89) rfl) f_12_81 sx_271 rfl rfl ?_
    refine u_ld (v := iV l1) (pc := 159) (dec_at lsk_224 (k := 90) rfl) rfl ?_
    have g4 := h.1
    have h := h.2
    have g5 := h.1
    have h := h.2
    refine u_iald (pc := 160) (dec_at lsk_224 (k := 91) rfl) sx_295 g4 g5 ?_
    refine u_sto (lv' := [.ref 271, iV l1, iV (u.1 295 l1), .retAddr 0, .retAddr 0, .retAddr 0, .retAddr 0, .retAddr 0, .retAddr 0]) (pc := 161) (dec_at lsk_224 (k := 92) rfl) rfl ?_
    refine u_cl (x := 0) (pc := 162) (dec_at lsk_224 (k := 93) rfl) rfl (by decide) ?_
    refine u_sto (lv' := [.ref 271, iV l1, iV (u.1 295 l1), lV 0, .retAddr 0, .retAddr 0, .retAddr 0, .retAddr 0, .retAddr 0]) (pc := 163) (dec_at lsk_224 (k := 94) rfl) rfl ?_
    refine u_ld (v := iV 0) (pc := 164) (dec_at lsk_224 (k := 95) rfl) rfl ?_
    refine u_sto (lv' := [.ref 271, iV l1, iV (u.1 295 l1), lV 0, .retAddr 0, iV 0, .retAddr 0, .retAddr 0, .retAddr 0]) (pc := 165) (dec_at lsk_224 (k := 96) rfl) rfl ?_
    exact h
  · have h := ifF e3 h
    exact u_rV (pc := 274) (dec_at lsk_224 (k := 152) rfl) rfl h
theorem k_224_167 {d : Nat} {Q : uS → Prop} {u : uS} {l1 l2 l3 l5 : Int} (h : (rI l5) ∧ ((rI (u.1 271 6)) ∧ (if l5 < u.1 271 6 then ((0 ≤ l5) ∧ ((l5 < 30) ∧ ((rI (u.1 275 l5)) ∧ ((rI l2) ∧ (if u.1 275 l5 = l2 then (cI (d + 1) 225 [.ref 271, iV l5] u (fun r10 u9 => (rI r10) ∧ (if r10 = 0 then (K_224 (d + 1) 167 [.ref 271, iV l1, iV l2, lV l3, .retAddr 0, iV (l5 + 1), .retAddr 0, .retAddr 0, .retAddr 0] [] u9 Q) else (K_224 (d + 1) 202 [.ref 271, iV l1, iV l2, lV l3, .retAddr 0, iV l5, lV 1, .retAddr 0, iV 0] [] u9 Q)))) else (K_224 (d + 1) 167 [.ref 271, iV l1, iV l2, lV l3, .retAddr 0, iV (l5 + 1), .retAddr 0, .retAddr 0, .retAddr 0] [] u Q)))))) else ((0 ≤ l2) ∧ ((l2 < 10) ∧ (∀ u15 : uS, u15 = wr u 292 l2 l3 → (K_224 (d + 1) 147 [.ref 271, iV (l1 + 1), .retAddr 0, .retAddr 0, .retAddr 0, .retAddr 0, .retAddr 0, .retAddr 0, .retAddr 0] [] u15 Q))))))) : K_224 (d + 1) 167 [.ref 271, iV l1, iV l2, lV l3, .retAddr 0, iV l5, .retAddr 0, .retAddr 0, .retAddr 0] [] u Q := by
  unfold K_224
  refine u_ld (v := iV l5) (pc := 167) (dec_at lsk_224 (k := 97) rfl) rfl ?_
  refine u_ld (v := .ref 271) (pc := 169) (dec_at lsk_224 (k := 98) rfl) rfl ?_
  refine u_gI (z := 6) (pc := 170) (dec_at lsk_224 (k := 99) rfl) f_12_306 sx_271 rfl rfl ?_
  have g1 := h.1
  have h := h.2
  have g2 := h.1
  have h := h.2
  refine u_icF (pc := 173) (tgt := 261) (dec_at lsk_224 (k := 100) rfl) rfl (ci_ge g1 g2) (fun e3 => ?_) (fun e3 => ?_)
  · have h := ifT e3 h
    refine u_ld (v := .ref 271) (pc := 176) (dec_at lsk_224 (k := 101) rfl) rfl ?_
    refine u_gS (o := 4) (p := 275) (pc := 177) (dec_at lsk_224 (k := 102) rfl) f_12_19 sx_271 rfl rfl ?_
    refine u_ld (v := iV l5) (pc := 180) (dec_at lsk_224 (k := 103) rfl) rfl ?_
    have g4 := h.1
    have h := h.2
    have g5 := h.1
    have h := h.2
    refine u_iald (pc := 182) (dec_at lsk_224 (k := 104) rfl) sx_275 g4 g5 ?_
    refine u_ld (v := iV l2) (pc := 183) (dec_at lsk_224 (k := 105) rfl) rfl ?_
    have g6 := h.1
    have h := h.2
    have g7 := h.1
    have h := h.2
    refine u_icF (pc := 184) (tgt := 255) (dec_at lsk_224 (k := 106) rfl) rfl (ci_ne g6 g7) (fun e8 => ?_) (fun e8 => ?_)
    · have h := ifT e8 h
      refine u_ld (v := .ref 271) (pc := 187) (dec_at lsk_224 (k := 107) rfl) rfl ?_
      refine u_ld (v := iV l5) (pc := 188) (dec_at lsk_224 (k := 108) rfl) rfl ?_
      refine u_cvI (As := [iV l5]) (rb := 271) (st2 := []) (pc := 190) (dec_at lsk_224 (k := 109) rfl) m_12_338 (Or.inl rfl) rfl (Nat.le_of_ble_eq_true rfl) sx_271 me_225 rfl h (fun r10 u9 h => ?_)
      have g11 := h.1
      have h := h.2
      refine u_ifT (pc := 193) (tgt := 255) (dec_at lsk_224 (k := 110) rfl) rfl (c0_eq g11) (fun e12 => ?_) (fun e12 => ?_)
      · have h := ifT e12 h
        refine u_inc (lv' := [.ref 271, iV l1, iV l2, lV l3, .retAddr 0, iV (l5 + 1), .retAddr 0, .retAddr 0, .retAddr 0]) (pc := 255) (dec_at lsk_224 (k := 143) rfl) rfl (by decide) rfl ?_
        refine u_goto (pc := 258) (tgt := 167) (dec_at lsk_224 (k := 144) rfl) rfl ?_
        exact h
      · have h := ifF e12 h
        refine u_cl (x := 1) (pc := 196) (dec_at lsk_224 (k := 111) rfl) rfl (by decide) ?_
        refine u_sto (lv' := [.ref 271, iV l1, iV l2, lV l3, .retAddr 0, iV l5, lV 1, .retAddr 0, .retAddr 0]) (pc := 197) (dec_at lsk_224 (k := 112) rfl) rfl ?_
        refine u_ld (v := iV 0) (pc := 199) (dec_at lsk_224 (k := 113) rfl) rfl ?_
        refine u_sto (lv' := [.ref 271, iV l1, iV l2, lV l3, .retAddr 0, iV l5, lV 1, .retAddr 0, iV 0]) (pc := 200) (dec_at lsk_224 (k := 114) rfl) rfl ?_
        exact h
    · have h := ifF e8 h
      refine u_inc (lv' := [.ref 271, iV l1, iV l2, lV l3, .retAddr 0, iV (l5 + 1), .retAddr 0, .retAddr 0, .retAddr 0]) (pc := 255) (dec_at lsk_224 (k := 143) rfl) rfl (by decide) rfl ?_
      refine u_goto (pc := 258) (tgt := 167) (dec_at lsk_224 (k := 144) rfl) rfl ?_
      exact h
  · have h := ifF e3 h
    refine u_ld (v := .ref 271) (pc := 261) (dec_at lsk_224 (k := 145) rfl) rfl ?_
    refine u_gS (o := 21) (p := 292) (pc := 262) (dec_at lsk_224 (k := 146) rfl) f_12_72 sx_271 rfl rfl ?_
    refine u_ld (v := iV l2) (pc := 265) (dec_at lsk_224 (k := 147) rfl) rfl ?_
    refine u_ld (v := lV l3) (pc := 266) (dec_at lsk_224 (k := 148) rfl) rfl ?_
    have g13 := h.1
    have h := h.2
    have g14 := h.1
    have h := h.2
    refine u_last (pc := 267) (dec_at lsk_224 (k := 149) rfl) sx_292 g13 g14 (fun u15 e16 => ?_)
    have h := h u15 e16
    refine u_inc (lv' := [.ref 271, iV (l1 + 1), iV l2, lV l3, .retAddr 0, iV l5, .retAddr 0, .retAddr 0, .retAddr 0]) (pc := 268) (dec_at lsk_224 (k := 150) rfl) rfl (by decide) rfl ?_
    refine u_goto (pc := 271) (tgt := 147) (dec_at lsk_224 (k := 151) rfl) rfl ?_
    exact u_weak (sbK (sbK (sbD (sbD (sbK (sbD (sbK (sbK (sbK sb0))))))))) h
theorem k_224_202 {d : Nat} {Q : uS → Prop} {u : uS} {l1 l2 l3 l5 l6 l8 : Int} (h : (0 ≤ l5) ∧ ((l5 < 30) ∧ ((rI l8) ∧ ((rI (u.1 276 l5)) ∧ (if l8 < u.1 276 l5 then ((0 ≤ (6 * l5) + l8) ∧ (((6 * l5) + l8 < 180) ∧ ((0 ≤ (u.1 277 ((6 * l5) + l8)) - 100) ∧ (((u.1 277 ((6 * l5) + l8)) - 100 < 10) ∧ ((cn 5000000000000000000 l6) ∧ ((cn 5000000000000000000 (u.1 292 ((u.1 277 ((6 * l5) + l8)) - 100))) ∧ (K_224 (d + 1) 202 [.ref 271, iV l1, iV l2, lV l3, .retAddr 0, iV l5, lV (tm 5000000000000000000 l6 (u.1 292 ((u.1 277 ((6 * l5) + l8)) - 100))), .retAddr 0, iV (l8 + 1)] [] u Q))))))) else ((cn 5000000000000000000 l3) ∧ ((cn 5000000000000000000 l6) ∧ (K_224 (d + 1) 167 [.ref 271, iV l1, iV l2, lV (pl 5000000000000000000 l3 l6), .retAddr 0, iV (l5 + 1), .retAddr 0, .retAddr 0, .retAddr 0] [] u Q)))))))) : K_224 (d + 1) 202 [.ref 271, iV l1, iV l2, lV l3, .retAddr 0, iV l5, lV l6, .retAddr 0, iV l8] [] u Q := by
  unfold K_224
  refine u_ld (v := iV l8) (pc := 202) (dec_at lsk_224 (k := 115) rfl) rfl ?_
  refine u_ld (v := .ref 271) (pc := 204) (dec_at lsk_224 (k := 116) rfl) rfl ?_
  refine u_gS (o := 5) (p := 276) (pc := 205) (dec_at lsk_224 (k := 117) rfl) f_12_22 sx_271 rfl rfl ?_
  refine u_ld (v := iV l5) (pc := 208) (dec_at lsk_224 (k := 118) rfl) rfl ?_
  have g1 := h.1
  have h := h.2
  have g2 := h.1
  have h := h.2
  refine u_iald (pc := 210) (dec_at lsk_224 (k := 119) rfl) sx_276 g1 g2 ?_
  have g3 := h.1
  have h := h.2
  have g4 := h.1
  have h := h.2
  refine u_icF (pc := 211) (tgt := 248) (dec_at lsk_224 (k := 120) rfl) rfl (ci_ge g3 g4) (fun e5 => ?_) (fun e5 => ?_)
  · have h := ifT e5 h
    refine u_ld (v := lV l6) (pc := 214) (dec_at lsk_224 (k := 121) rfl) rfl ?_
    refine u_ld (v := .ref 271) (pc := 216) (dec_at lsk_224 (k := 122) rfl) rfl ?_
    refine u_gS (o := 21) (p := 292) (pc := 217) (dec_at lsk_224 (k := 123) rfl) f_12_72 sx_271 rfl rfl ?_
    refine u_ld (v := .ref 271) (pc := 220) (dec_at lsk_224 (k := 124) rfl) rfl ?_
    refine u_gS (o := 6) (p := 277) (pc := 221) (dec_at lsk_224 (k := 125) rfl) f_12_25 sx_271 rfl rfl ?_
    refine u_c (x := 6) (pc := 224) (dec_at lsk_224 (k := 126) rfl) rfl (by decide) ?_
    refine u_ld (v := iV l5) (pc := 226) (dec_at lsk_224 (k := 127) rfl) rfl ?_
    refine u_imul (pc := 228) (dec_at lsk_224 (k := 128) rfl) ?_
    refine u_ld (v := iV l8) (pc := 229) (dec_at lsk_224 (k := 129) rfl) rfl ?_
    refine u_iadd (pc := 231) (dec_at lsk_224 (k := 130) rfl) ?_
    have g6 := h.1
    have h := h.2
    have g7 := h.1
    have h := h.2
    refine u_iald (pc := 232) (dec_at lsk_224 (k := 131) rfl) sx_277 g6 g7 ?_
    refine u_c (x := 100) (pc := 233) (dec_at lsk_224 (k := 132) rfl) rfl (by decide) ?_
    refine u_isub (pc := 235) (dec_at lsk_224 (k := 133) rfl) ?_
    have g8 := h.1
    have h := h.2
    have g9 := h.1
    have h := h.2
    refine u_lald (pc := 236) (dec_at lsk_224 (k := 134) rfl) sx_292 g8 g9 ?_
    have g10 := h.1
    have h := h.2
    have g11 := h.1
    have h := h.2
    refine u_csL (As := [lV l6, lV (u.1 292 ((u.1 277 ((6 * l5) + l8)) - 100))]) (st2 := []) (pc := 237) (dec_at lsk_224 (k := 135) rfl) m_12_345 (Or.inl rfl) rfl (Nat.le_of_ble_eq_true rfl) (p_227 g10 g11) (fun r_ u_ h_ => ?_)
    rw [h_.1, h_.2]
    refine u_sto (lv' := [.ref 271, iV l1, iV l2, lV l3, .retAddr 0, iV l5, lV (tm 5000000000000000000 l6 (u.1 292 ((u.1 277 ((6 * l5) + l8)) - 100))), .retAddr 0, iV l8]) (pc := 240) (dec_at lsk_224 (k := 136) rfl) rfl ?_
    refine u_inc (lv' := [.ref 271, iV l1, iV l2, lV l3, .retAddr 0, iV l5, lV (tm 5000000000000000000 l6 (u.1 292 ((u.1 277 ((6 * l5) + l8)) - 100))), .retAddr 0, iV (l8 + 1)]) (pc := 242) (dec_at lsk_224 (k := 137) rfl) rfl (by decide) rfl ?_
    refine u_goto (pc := 245) (tgt := 202) (dec_at lsk_224 (k := 138) rfl) rfl ?_
    exact h
  · have h := ifF e5 h
    refine u_ld (v := lV l3) (pc := 248) (dec_at lsk_224 (k := 139) rfl) rfl ?_
    refine u_ld (v := lV l6) (pc := 249) (dec_at lsk_224 (k := 140) rfl) rfl ?_
    have g12 := h.1
    have h := h.2
    have g13 := h.1
    have h := h.2
    refine u_csL (As := [lV l3, lV l6]) (st2 := []) (pc := 251) (dec_at lsk_224 (k := 141) rfl) m_12_323 (Or.inl rfl) rfl (Nat.le_of_ble_eq_true rfl) (p_217 g12 g13) (fun r_ u_ h_ => ?_)
    rw [h_.1, h_.2]
    refine u_sto (lv' := [.ref 271, iV l1, iV l2, lV (pl 5000000000000000000 l3 l6), .retAddr 0, iV l5, lV l6, .retAddr 0, iV l8]) (pc := 254) (dec_at lsk_224 (k := 142) rfl) rfl ?_
    refine u_inc (lv' := [.ref 271, iV l1, iV l2, lV (pl 5000000000000000000 l3 l6), .retAddr 0, iV (l5 + 1), lV l6, .retAddr 0, iV l8]) (pc := 255) (dec_at lsk_224 (k := 143) rfl) rfl (by decide) rfl ?_
    refine u_goto (pc := 258) (tgt := 167) (dec_at lsk_224 (k := 144) rfl) rfl ?_
    exact u_weak (sbK (sbK (sbK (sbK (sbK (sbK (sbD (sbK (sbD sb0))))))))) h
/-- method 225 -/
def K_225 (d pc : Nat) (lv : ev_L) (st : List Value) (u : uS) (Q : Int → uS → Prop) : Prop := okU d 12 5 false (some .boolean) prog_14_method_26_code (qI Q) pc lv st u
theorem e_225 {d : Nat} {Q : Int → uS → Prop} {u : uS} {l1 : Int} (h : K_225 d 4 [.ref 271, iV l1, iV 1, iV 0, .retAddr 0] [] u Q) : cI (d + 1) 225 [.ref 271, iV l1] u Q := by
  refine u_of me_225 (Nat.le_of_ble_eq_true rfl) ?_
  refine u_ld (v := iV 1) (pc := 0) (dec_at lsk_225 (k := 0) rfl) rfl ?_
  refine u_sto (lv' := [.ref 271, iV l1, iV 1, .retAddr 0, .retAddr 0]) (pc := 1) (dec_at lsk_225 (k := 1) rfl) rfl ?_
  refine u_ld (v := iV 0) (pc := 2) (dec_at lsk_225 (k := 2) rfl) rfl ?_
  refine u_sto (lv' := [.ref 271, iV l1, iV 1, iV 0, .retAddr 0]) (pc := 3) (dec_at lsk_225 (k := 3) rfl) rfl ?_
  exact h
theorem k_225_4 {d : Nat} {Q : Int → uS → Prop} {u : uS} {l1 l2 l3 : Int} (h : (0 ≤ l1) ∧ ((l1 < 30) ∧ ((rI l3) ∧ ((rI (u.1 276 l1)) ∧ (if l3 < u.1 276 l1 then ((0 ≤ (6 * l1) + l3) ∧ (((6 * l1) + l3 < 180) ∧ ((rI l2) ∧ (if l2 = 0 then (K_225 d 4 [.ref 271, iV l1, iV 0, iV (l3 + 1), .retAddr 0] [] u Q) else ((rI (u.1 277 ((6 * l1) + l3))) ∧ (if u.1 277 ((6 * l1) + l3) < 100 then (K_225 d 4 [.ref 271, iV l1, iV 0, iV (l3 + 1), .retAddr 0] [] u Q) else ((0 ≤ (u.1 277 ((6 * l1) + l3)) - 100) ∧ (((u.1 277 ((6 * l1) + l3)) - 100 < 10) ∧ ((rI (u.1 285 ((u.1 277 ((6 * l1) + l3)) - 100))) ∧ (if u.1 285 ((u.1 277 ((6 * l1) + l3)) - 100) = 0 then (K_225 d 4 [.ref 271, iV l1, iV 0, iV (l3 + 1), .retAddr 0] [] u Q) else (K_225 d 4 [.ref 271, iV l1, iV 1, iV (l3 + 1), .retAddr 0] [] u Q))))))))))) else ((l2 = 0 ∨ l2 = 1) ∧ (Q l2 u))))))) : K_225 d 4 [.ref 271, iV l1, iV l2, iV l3, .retAddr 0] [] u Q := by
  unfold K_225
  refine u_ld (v := iV l3) (pc := 4) (dec_at lsk_225 (k := 4) rfl) rfl ?_
  refine u_ld (v := .ref 271) (pc := 5) (dec_at lsk_225 (k := 5) rfl) rfl ?_
  refine u_gS (o := 5) (p := 276) (pc := 6) (dec_at lsk_225 (k := 6) rfl) f_12_22 sx_271 rfl rfl ?_
  refine u_ld (v := iV l1) (pc := 9) (dec_at lsk_225 (k := 7) rfl) rfl ?_
  have g1 := h.1
  have h := h.2
  have g2 := h.1
  have h := h.2
  refine u_iald (pc := 10) (dec_at lsk_225 (k := 8) rfl) sx_276 g1 g2 ?_
  have g3 := h.1
  have h := h.2
  have g4 := h.1
  have h := h.2
  refine u_icF (pc := 11) (tgt := 63) (dec_at lsk_225 (k := 9) rfl) rfl (ci_ge g3 g4) (fun e5 => ?_) (fun e5 => ?_)
  · have h := ifT e5 h
    refine u_ld (v := .ref 271) (pc := 14) (dec_at lsk_225 (k := 10) rfl) rfl ?_
    refine u_gS (o := 6) (p := 277) (pc := 15) (dec_at lsk_225 (k := 11) rfl) f_12_25 sx_271 rfl rfl ?_
    refine u_c (x := 6) (pc := 18) (dec_at lsk_225 (k := 12) rfl) rfl (by decide) ?_
    refine u_ld (v := iV l1) (pc := 20) (dec_at lsk_225 (k := 13) rfl) rfl ?_
    refine u_imul (pc := 21) (dec_at lsk_225 (k := 14) rfl) ?_
    refine u_ld (v := iV l3) (pc := 22) (dec_at lsk_225 (k := 15) rfl) rfl ?_
    refine u_iadd (pc := 23) (dec_at lsk_225 (k := 16) rfl) ?_
    have g6 := h.1
    have h := h.2
    have g7 := h.1
    have h := h.2
    refine u_iald (pc := 24) (dec_at lsk_225 (k := 17) rfl) sx_277 g6 g7 ?_
    refine u_sto (lv' := [.ref 271, iV l1, iV l2, iV l3, iV (u.1 277 ((6 * l1) + l3))]) (pc := 25) (dec_at lsk_225 (k := 18) rfl) rfl ?_
    refine u_ld (v := iV l2) (pc := 27) (dec_at lsk_225 (k := 19) rfl) rfl ?_
    have g8 := h.1
    have h := h.2
    refine u_ifT (pc := 28) (tgt := 55) (dec_at lsk_225 (k := 20) rfl) rfl (c0_eq g8) (fun e9 => ?_) (fun e9 => ?_)
    · have h := ifT e9 h
      refine u_ld (v := iV 0) (pc := 55) (dec_at lsk_225 (k := 33) rfl) rfl ?_
      refine u_sto (lv' := [.ref 271, iV l1, iV 0, iV l3, iV (u.1 277 ((6 * l1) + l3))]) (pc := 56) (dec_at lsk_225 (k := 34) rfl) rfl ?_
      refine u_inc (lv' := [.ref 271, iV l1, iV 0, iV (l3 + 1), iV (u.1 277 ((6 * l1) + l3))]) (pc := 57) (dec_at lsk_225 (k := 35) rfl) rfl (by decide) rfl ?_
      refine u_goto (pc := 60) (tgt := 4) (dec_at lsk_225 (k := 36) rfl) rfl ?_
      exact u_weak (sbK (sbK (sbK (sbK (sbD sb0))))) h
    · have h := ifF e9 h
      refine u_ld (v := iV (u.1 277 ((6 * l1) + l3))) (pc := 31) (dec_at lsk_225 (k := 21) rfl) rfl ?_
      refine u_c (x := 100) (pc := 33) (dec_at lsk_225 (k := 22) rfl) rfl (by decide) ?_
      have g10 := h.1
      have h := h.2
      refine u_icT (pc := 35) (tgt := 55) (dec_at lsk_225 (k := 23) rfl) rfl (ci_lt g10 (by decide)) (fun e11 => ?_) (fun e11 => ?_)
      · have h := ifT e11 h
        refine u_ld (v := iV 0) (pc := 55) (dec_at lsk_225 (k := 33) rfl) rfl ?_
        refine u_sto (lv' := [.ref 271, iV l1, iV 0, iV l3, iV (u.1 277 ((6 * l1) + l3))]) (pc := 56) (dec_at lsk_225 (k := 34) rfl) rfl ?_
        refine u_inc (lv' := [.ref 271, iV l1, iV 0, iV (l3 + 1), iV (u.1 277 ((6 * l1) + l3))]) (pc := 57) (dec_at lsk_225 (k := 35) rfl) rfl (by decide) rfl ?_
        refine u_goto (pc := 60) (tgt := 4) (dec_at lsk_225 (k := 36) rfl) rfl ?_
        exact u_weak (sbK (sbK (sbK (sbK (sbD sb0))))) h
      · have h := ifF e11 h
        refine u_ld (v := .ref 271) (pc := 38) (dec_at lsk_225 (k := 24) rfl) rfl ?_
        refine u_gS (o := 14) (p := 285) (pc := 39) (dec_at lsk_225 (k := 25) rfl) f_12_50 sx_271 rfl rfl ?_
        refine u_ld (v := iV (u.1 277 ((6 * l1) + l3))) (pc := 42) (dec_at lsk_225 (k := 26) rfl) rfl ?_
        refine u_c (x := 100) (pc := 44) (dec_at lsk_225 (k := 27) rfl) rfl (by decide) ?_
        refine u_isub (pc := 46) (dec_at lsk_225 (k := 28) rfl) ?_
        have g12 := h.1
        have h := h.2
        have g13 := h.1
        have h := h.2
        refine u_zald (pc := 47) (dec_at lsk_225 (k := 29) rfl) sx_285 g12 g13 ?_
        have g14 := h.1
        have h := h.2
        refine u_ifT (pc := 48) (tgt := 55) (dec_at lsk_225 (k := 30) rfl) rfl (c0_eq g14) (fun e15 => ?_) (fun e15 => ?_)
        · have h := ifT e15 h
          refine u_ld (v := iV 0) (pc := 55) (dec_at lsk_225 (k := 33) rfl) rfl ?_
          refine u_sto (lv' := [.ref 271, iV l1, iV 0, iV l3, iV (u.1 277 ((6 * l1) + l3))]) (pc := 56) (dec_at lsk_225 (k := 34) rfl) rfl ?_
          refine u_inc (lv' := [.ref 271, iV l1, iV 0, iV (l3 + 1), iV (u.1 277 ((6 * l1) + l3))]) (pc := 57) (dec_at lsk_225 (k := 35) rfl) rfl (by decide) rfl ?_
          refine u_goto (pc := 60) (tgt := 4) (dec_at lsk_225 (k := 36) rfl) rfl ?_
          exact u_weak (sbK (sbK (sbK (sbK (sbD sb0))))) h
        · have h := ifF e15 h
          refine u_ld (v := iV 1) (pc := 51) (dec_at lsk_225 (k := 31) rfl) rfl ?_
          refine u_goto (pc := 52) (tgt := 56) (dec_at lsk_225 (k := 32) rfl) rfl ?_
          refine u_sto (lv' := [.ref 271, iV l1, iV 1, iV l3, iV (u.1 277 ((6 * l1) + l3))]) (pc := 56) (dec_at lsk_225 (k := 34) rfl) rfl ?_
          refine u_inc (lv' := [.ref 271, iV l1, iV 1, iV (l3 + 1), iV (u.1 277 ((6 * l1) + l3))]) (pc := 57) (dec_at lsk_225 (k := 35) rfl) rfl (by decide) rfl ?_
          refine u_goto (pc := 60) (tgt := 4) (dec_at lsk_225 (k := 36) rfl) rfl ?_
          exact u_weak (sbK (sbK (sbK (sbK (sbD sb0))))) h
  · have h := ifF e5 h
    refine u_ld (v := iV l2) (pc := 63) (dec_at lsk_225 (k := 37) rfl) rfl ?_
    have g16 := h.1
    have h := h.2
    exact u_rZ (pc := 64) (dec_at lsk_225 (k := 38) rfl) rfl g16 h
/-- method 226 -/
def K_226 (d pc : Nat) (lv : ev_L) (st : List Value) (u : uS) (Q : uS → Prop) : Prop := okU d 12 6 false none prog_14_method_25_code (qV Q) pc lv st u
theorem e_226 {d : Nat} {Q : uS → Prop} {u : uS} {l1 : Nat} {nl1 : Nat} (hAl1 : isA l1 2 nl1) (h : ∀ u1 : uS, u1 = wr u 271 33 0 → (K_226 d 7 [.ref 271, .ref l1, iV 0, .retAddr 0, .retAddr 0, .retAddr 0] [] u1 Q)) : cV (d + 1) 226 [.ref 271, .ref l1] u Q := by
  refine u_of me_226 (Nat.le_of_ble_eq_true rfl) ?_
  refine u_ld (v := .ref 271) (pc := 0) (dec_at lsk_226 (k := 0) rfl) rfl ?_
  refine u_ld (v := iV 0) (pc := 1) (dec_at lsk_226 (k := 1) rfl) rfl ?_
  refine u_pI (z := 33) (pc := 2) (dec_at lsk_226 (k := 2) rfl) f_12_335 sx_271 rfl rfl rfl rfl (fun u1 e2 => ?_)
  have h := h u1 e2
  refine u_ld (v := iV 0) (pc := 5) (dec_at lsk_226 (k := 3) rfl) rfl ?_
  refine u_sto (lv' := [.ref 271, .ref l1, iV 0, .retAddr 0, .retAddr 0, .retAddr 0]) (pc := 6) (dec_at lsk_226 (k := 4) rfl) rfl ?_
  exact h
theorem k_226_7 {d : Nat} {Q : uS → Prop} {u : uS} {l1 : Nat} {l2 : Int} {nl1 : Nat} (hAl1 : isA l1 2 nl1) (h : (rI l2) ∧ ((rI (u.1 271 5)) ∧ (if l2 < u.1 271 5 then ((0 ≤ l2) ∧ ((l2 < (nl1 : Int)) ∧ ((rI (u.1 l1 l2)) ∧ (if u.1 l1 l2 = 0 then ((l2 < 10) ∧ (∀ u9 : uS, u9 = wr u 294 l2 1 → (K_226 d 7 [.ref 271, .ref l1, iV (l2 + 1), .retAddr 0, .retAddr 0, .retAddr 0] [] u9 Q))) else ((l2 < 10) ∧ (∀ u12 : uS, u12 = wr u 294 l2 0 → (K_226 d 7 [.ref 271, .ref l1, iV (l2 + 1), .retAddr 0, .retAddr 0, .retAddr 0] [] u12 Q))))))) else (K_226 d 40 [.ref 271, .retAddr 0, iV 1, .retAddr 0, .retAddr 0, .retAddr 0] [] u Q)))) : K_226 d 7 [.ref 271, .ref l1, iV l2, .retAddr 0, .retAddr 0, .retAddr 0] [] u Q := by
  unfold K_226
  refine u_ld (v := iV l2) (pc := 7) (dec_at lsk_226 (k := 5) rfl) rfl ?_
  refine u_ld (v := .ref 271) (pc := 8) (dec_at lsk_226 (k := 6) rfl) rfl ?_
  refine u_gI (z := 5) (pc := 9) (dec_at lsk_226 (k := 7) rfl) f_12_303 sx_271 rfl rfl ?_
  have g1 := h.1
  have h := h.2
  have g2 := h.1
  have h := h.2
  refine u_icF (pc := 12) (tgt := 38) (dec_at lsk_226 (k := 8) rfl) rfl (ci_ge g1 g2) (fun e3 => ?_) (fun e3 => ?_)
  · have h := ifT e3 h
    refine u_ld (v := .ref 271) (pc := 15) (dec_at lsk_226 (k := 9) rfl) rfl ?_
    refine u_gS (o := 23) (p := 294) (pc := 16) (dec_at lsk_226 (k := 10) rfl) f_12_78 sx_271 rfl rfl ?_
    refine u_ld (v := iV l2) (pc := 19) (dec_at lsk_226 (k := 11) rfl) rfl ?_
    refine u_ld (v := .ref l1) (pc := 20) (dec_at lsk_226 (k := 12) rfl) rfl ?_
    refine u_ld (v := iV l2) (pc := 21) (dec_at lsk_226 (k := 13) rfl) rfl ?_
    have g4 := h.1
    have h := h.2
    have g5 := h.1
    have h := h.2
    refine u_zald (pc := 22) (dec_at lsk_226 (k := 14) rfl) hAl1 g4 g5 ?_
    have g6 := h.1
    have h := h.2
    refine u_ifF (pc := 23) (tgt := 30) (dec_at lsk_226 (k := 15) rfl) rfl (c0_ne g6) (fun e7 => ?_) (fun e7 => ?_)
    · have h := ifT e7 h
      refine u_ld (v := iV 1) (pc := 26) (dec_at lsk_226 (k := 16) rfl) rfl ?_
      refine u_goto (pc := 27) (tgt := 31) (dec_at lsk_226 (k := 17) rfl) rfl ?_
      have g8 := h.1
      have h := h.2
      refine u_zast (pc := 31) (dec_at lsk_226 (k := 19) rfl) sx_294 g4 g8 (by decide) (fun u9 e10 => ?_)
      have h := h u9 e10
      refine u_inc (lv' := [.ref 271, .ref l1, iV (l2 + 1), .retAddr 0, .retAddr 0, .retAddr 0]) (pc := 32) (dec_at lsk_226 (k := 20) rfl) rfl (by decide) rfl ?_
      refine u_goto (pc := 35) (tgt := 7) (dec_at lsk_226 (k := 21) rfl) rfl ?_
      exact h
    · have h := ifF e7 h
      refine u_ld (v := iV 0) (pc := 30) (dec_at lsk_226 (k := 18) rfl) rfl ?_
      have g11 := h.1
      have h := h.2
      refine u_zast (pc := 31) (dec_at lsk_226 (k := 19) rfl) sx_294 g4 g11 (by decide) (fun u12 e13 => ?_)
      have h := h u12 e13
      refine u_inc (lv' := [.ref 271, .ref l1, iV (l2 + 1), .retAddr 0, .retAddr 0, .retAddr 0]) (pc := 32) (dec_at lsk_226 (k := 20) rfl) rfl (by decide) rfl ?_
      refine u_goto (pc := 35) (tgt := 7) (dec_at lsk_226 (k := 21) rfl) rfl ?_
      exact h
  · have h := ifF e3 h
    refine u_ld (v := iV 1) (pc := 38) (dec_at lsk_226 (k := 22) rfl) rfl ?_
    refine u_sto (lv' := [.ref 271, .ref l1, iV 1, .retAddr 0, .retAddr 0, .retAddr 0]) (pc := 39) (dec_at lsk_226 (k := 23) rfl) rfl ?_
    exact u_weak (sbK (sbD (sbK (sbK (sbK (sbK sb0)))))) h
theorem k_226_40 {d : Nat} {Q : uS → Prop} {u : uS} {l2 : Int} (h : (rI l2) ∧ (if l2 = 0 then (Q u) else (K_226 d 48 [.ref 271, .retAddr 0, iV 0, iV 0, .retAddr 0, .retAddr 0] [] u Q))) : K_226 d 40 [.ref 271, .retAddr 0, iV l2, .retAddr 0, .retAddr 0, .retAddr 0] [] u Q := by
  unfold K_226
  refine u_ld (v := iV l2) (pc := 40) (dec_at lsk_226 (k := 24) rfl) rfl ?_
  have g1 := h.1
  have h := h.2
  refine u_ifT (pc := 41) (tgt := 170) (dec_at lsk_226 (k := 25) rfl) rfl (c0_eq g1) (fun e2 => ?_) (fun e2 => ?_)
  · have h := ifT e2 h
    exact u_rV (pc := 170) (dec_at lsk_226 (k := 95) rfl) rfl h
  · have h := ifF e2 h
    refine u_ld (v := iV 0) (pc := 44) (dec_at lsk_226 (k := 26) rfl) rfl ?_
    refine u_sto (lv' := [.ref 271, .retAddr 0, iV 0, .retAddr 0, .retAddr 0, .retAddr 0]) (pc := 45) (dec_at lsk_226 (k := 27) rfl) rfl ?_
    refine u_ld (v := iV 0) (pc := 46) (dec_at lsk_226 (k := 28) rfl) rfl ?_
    refine u_sto (lv' := [.ref 271, .retAddr 0, iV 0, iV 0, .retAddr 0, .retAddr 0]) (pc := 47) (dec_at lsk_226 (k := 29) rfl) rfl ?_
    exact h
theorem k_226_48 {d : Nat} {Q : uS → Prop} {u : uS} {l2 l3 : Int} (h : (rI l3) ∧ ((rI (u.1 271 5)) ∧ (if l3 < u.1 271 5 then ((0 ≤ l3) ∧ ((l3 < 10) ∧ ((rI (u.1 294 l3)) ∧ (if u.1 294 l3 = 0 then (K_226 d 75 [.ref 271, .retAddr 0, iV l2, iV l3, iV 1, iV 0] [] u Q) else (K_226 d 75 [.ref 271, .retAddr 0, iV l2, iV l3, iV 0, iV 0] [] u Q))))) else (K_226 d 40 [.ref 271, .retAddr 0, iV l2, .retAddr 0, .retAddr 0, .retAddr 0] [] u Q)))) : K_226 d 48 [.ref 271, .retAddr 0, iV l2, iV l3, .retAddr 0, .retAddr 0] [] u Q := by
  unfold K_226
  refine u_ld (v := iV l3) (pc := 48) (dec_at lsk_226 (k := 30) rfl) rfl ?_
  refine u_ld (v := .ref 271) (pc := 49) (dec_at lsk_226 (k := 31) rfl) rfl ?_
  refine u_gI (z := 5) (pc := 50) (dec_at lsk_226 (k := 32) rfl) f_12_303 sx_271 rfl rfl ?_
  have g1 := h.1
  have h := h.2
  have g2 := h.1
  have h := h.2
  refine u_icF (pc := 53) (tgt := 167) (dec_at lsk_226 (k := 33) rfl) rfl (ci_ge g1 g2) (fun e3 => ?_) (fun e3 => ?_)
  · have h := ifT e3 h
    refine u_ld (v := .ref 271) (pc := 56) (dec_at lsk_226 (k := 34) rfl) rfl ?_
    refine u_gS (o := 23) (p := 294) (pc := 57) (dec_at lsk_226 (k := 35) rfl) f_12_78 sx_271 rfl rfl ?_
    refine u_ld (v := iV l3) (pc := 60) (dec_at lsk_226 (k := 36) rfl) rfl ?_
    have g4 := h.1
    have h := h.2
    have g5 := h.1
    have h := h.2
    refine u_zald (pc := 61) (dec_at lsk_226 (k := 37) rfl) sx_294 g4 g5 ?_
    have g6 := h.1
    have h := h.2
    refine u_ifF (pc := 62) (tgt := 69) (dec_at lsk_226 (k := 38) rfl) rfl (c0_ne g6) (fun e7 => ?_) (fun e7 => ?_)
    · have h := ifT e7 h
      refine u_ld (v := iV 1) (pc := 65) (dec_at lsk_226 (k := 39) rfl) rfl ?_
      refine u_goto (pc := 66) (tgt := 70) (dec_at lsk_226 (k := 40) rfl) rfl ?_
      refine u_sto (lv' := [.ref 271, .retAddr 0, iV l2, iV l3, iV 1, .retAddr 0]) (pc := 70) (dec_at lsk_226 (k := 42) rfl) rfl ?_
      refine u_ld (v := iV 0) (pc := 72) (dec_at lsk_226 (k := 43) rfl) rfl ?_
      refine u_sto (lv' := [.ref 271, .retAddr 0, iV l2, iV l3, iV 1, iV 0]) (pc := 73) (dec_at lsk_226 (k := 44) rfl) rfl ?_
      exact h
    · have h := ifF e7 h
      refine u_ld (v := iV 0) (pc := 69) (dec_at lsk_226 (k := 41) rfl) rfl ?_
      refine u_sto (lv' := [.ref 271, .retAddr 0, iV l2, iV l3, iV 0, .retAddr 0]) (pc := 70) (dec_at lsk_226 (k := 42) rfl) rfl ?_
      refine u_ld (v := iV 0) (pc := 72) (dec_at lsk_226 (k := 43) rfl) rfl ?_
      refine u_sto (lv' := [.ref 271, .retAddr 0, iV l2, iV l3, iV 0, iV 0]) (pc := 73) (dec_at lsk_226 (k := 44) rfl) rfl ?_
      exact h
  · have h := ifF e3 h
    refine u_goto (pc := 167) (tgt := 40) (dec_at lsk_226 (k := 94) rfl) rfl ?_
    exact u_weak (sbK (sbK (sbK (sbD (sbK (sbK sb0)))))) h
theorem k_226_75 {d : Nat} {Q : uS → Prop} {u : uS} {l2 l3 l4 l5 : Int} (h : (rI l5) ∧ ((rI (u.1 271 5)) ∧ (if l5 < u.1 271 5 then ((rI l4) ∧ (if l4 = 0 then (K_226 d 48 [.ref 271, .retAddr 0, iV l2, iV (l3 + 1), .retAddr 0, .retAddr 0] [] u Q) else ((0 ≤ (10 * l3) + l5) ∧ (((10 * l3) + l5 < 100) ∧ ((rI (u.1 293 ((10 * l3) + l5))) ∧ (if u.1 293 ((10 * l3) + l5) = 0 then (K_226 d 75 [.ref 271, .retAddr 0, iV l2, iV l3, iV 1, iV (l5 + 1)] [] u Q) else ((0 ≤ l5) ∧ ((l5 < 10) ∧ ((rI (u.1 294 l5)) ∧ (if u.1 294 l5 = 0 then (K_226 d 75 [.ref 271, .retAddr 0, iV l2, iV l3, iV 0, iV (l5 + 1)] [] u Q) else (K_226 d 75 [.ref 271, .retAddr 0, iV l2, iV l3, iV 1, iV (l5 + 1)] [] u Q))))))))))) else ((rI l4) ∧ (if l4 = 0 then (K_226 d 48 [.ref 271, .retAddr 0, iV l2, iV (l3 + 1), .retAddr 0, .retAddr 0] [] u Q) else ((0 ≤ l3) ∧ ((l3 < 10) ∧ (∀ u19 : uS, u19 = wr u 294 l3 1 → ((0 ≤ u19.1 271 33) ∧ ((u19.1 271 33 < 10) ∧ (∀ u23 : uS, u23 = wr u19 295 (u19.1 271 33) l3 → (∀ u25 : uS, u25 = wr u23 271 33 ((u23.1 271 33) + 1) → (K_226 d 48 [.ref 271, .retAddr 0, iV 1, iV (l3 + 1), .retAddr 0, .retAddr 0] [] u25 Q))))))))))))) : K_226 d 75 [.ref 271, .retAddr 0, iV l2, iV l3, iV l4, iV l5] [] u Q := by
  unfold K_226
  refine u_ld (v := iV l5) (pc := 75) (dec_at lsk_226 (k := 45) rfl) rfl ?_
  refine u_ld (v := .ref 271) (pc := 77) (dec_at lsk_226 (k := 46) rfl) rfl ?_
  refine u_gI (z := 5) (pc := 78) (dec_at lsk_226 (k := 47) rfl) f_12_303 sx_271 rfl rfl ?_
  have g1 := h.1
  have h := h.2
  have g2 := h.1
  have h := h.2
  refine u_icF (pc := 81) (tgt := 127) (dec_at lsk_226 (k := 48) rfl) rfl (ci_ge g1 g2) (fun e3 => ?_) (fun e3 => ?_)
  · have h := ifT e3 h
    refine u_ld (v := iV l4) (pc := 84) (dec_at lsk_226 (k := 49) rfl) rfl ?_
    have g4 := h.1
    have h := h.2
    refine u_ifT (pc := 86) (tgt := 127) (dec_at lsk_226 (k := 50) rfl) rfl (c0_eq g4) (fun e5 => ?_) (fun e5 => ?_)
    · have h := ifT e5 h
      refine u_ld (v := iV l4) (pc := 127) (dec_at lsk_226 (k := 71) rfl) rfl ?_
      refine u_ifT (pc := 129) (tgt := 161) (dec_at lsk_226 (k := 72) rfl) rfl (c0_eq g4) (fun _ => ?_) (fun e6 => absurd e5 e6)
      refine u_inc (lv' := [.ref 271, .retAddr 0, iV l2, iV (l3 + 1), iV l4, iV l5]) (pc := 161) (dec_at lsk_226 (k := 92) rfl) rfl (by decide) rfl ?_
      refine u_goto (pc := 164) (tgt := 48) (dec_at lsk_226 (k := 93) rfl) rfl ?_
      exact u_weak (sbK (sbK (sbK (sbK (sbD (sbD sb0)))))) h
    · have h := ifF e5 h
      refine u_ld (v := .ref 271) (pc := 89) (dec_at lsk_226 (k := 51) rfl) rfl ?_
      refine u_gS (o := 22) (p := 293) (pc := 90) (dec_at lsk_226 (k := 52) rfl) f_12_75 sx_271 rfl rfl ?_
      refine u_c (x := 10) (pc := 93) (dec_at lsk_226 (k := 53) rfl) rfl (by decide) ?_
      refine u_ld (v := iV l3) (pc := 95) (dec_at lsk_226 (k := 54) rfl) rfl ?_
      refine u_imul (pc := 96) (dec_at lsk_226 (k := 55) rfl) ?_
      refine u_ld (v := iV l5) (pc := 97) (dec_at lsk_226 (k := 56) rfl) rfl ?_
      refine u_iadd (pc := 99) (dec_at lsk_226 (k := 57) rfl) ?_
      have g7 := h.1
      have h := h.2
      have g8 := h.1
      have h := h.2
      refine u_zald (pc := 100) (dec_at lsk_226 (k := 58) rfl) sx_293 g7 g8 ?_
      have g9 := h.1
      have h := h.2
      refine u_ifT (pc := 101) (tgt := 114) (dec_at lsk_226 (k := 59) rfl) rfl (c0_eq g9) (fun e10 => ?_) (fun e10 => ?_)
      · have h := ifT e10 h
        refine u_ld (v := iV 1) (pc := 114) (dec_at lsk_226 (k := 65) rfl) rfl ?_
        refine u_goto (pc := 115) (tgt := 119) (dec_at lsk_226 (k := 66) rfl) rfl ?_
        refine u_sto (lv' := [.ref 271, .retAddr 0, iV l2, iV l3, iV 1, iV l5]) (pc := 119) (dec_at lsk_226 (k := 68) rfl) rfl ?_
        refine u_inc (lv' := [.ref 271, .retAddr 0, iV l2, iV l3, iV 1, iV (l5 + 1)]) (pc := 121) (dec_at lsk_226 (k := 69) rfl) rfl (by decide) rfl ?_
        refine u_goto (pc := 124) (tgt := 75) (dec_at lsk_226 (k := 70) rfl) rfl ?_
        exact h
      · have h := ifF e10 h
        refine u_ld (v := .ref 271) (pc := 104) (dec_at lsk_226 (k := 60) rfl) rfl ?_
        refine u_gS (o := 23) (p := 294) (pc := 105) (dec_at lsk_226 (k := 61) rfl) f_12_78 sx_271 rfl rfl ?_
        refine u_ld (v := iV l5) (pc := 108) (dec_at lsk_226 (k := 62) rfl) rfl ?_
        have g11 := h.1
        have h := h.2
        have g12 := h.1
        have h := h.2
        refine u_zald (pc := 110) (dec_at lsk_226 (k := 63) rfl) sx_294 g11 g12 ?_
        have g13 := h.1
        have h := h.2
        refine u_ifT (pc := 111) (tgt := 118) (dec_at lsk_226 (k := 64) rfl) rfl (c0_eq g13) (fun e14 => ?_) (fun e14 => ?_)
        · have h := ifT e14 h
          refine u_ld (v := iV 0) (pc := 118) (dec_at lsk_226 (k := 67) rfl) rfl ?_
          refine u_sto (lv' := [.ref 271, .retAddr 0, iV l2, iV l3, iV 0, iV l5]) (pc := 119) (dec_at lsk_226 (k := 68) rfl) rfl ?_
          refine u_inc (lv' := [.ref 271, .retAddr 0, iV l2, iV l3, iV 0, iV (l5 + 1)]) (pc := 121) (dec_at lsk_226 (k := 69) rfl) rfl (by decide) rfl ?_
          refine u_goto (pc := 124) (tgt := 75) (dec_at lsk_226 (k := 70) rfl) rfl ?_
          exact h
        · have h := ifF e14 h
          refine u_ld (v := iV 1) (pc := 114) (dec_at lsk_226 (k := 65) rfl) rfl ?_
          refine u_goto (pc := 115) (tgt := 119) (dec_at lsk_226 (k := 66) rfl) rfl ?_
          refine u_sto (lv' := [.ref 271, .retAddr 0, iV l2, iV l3, iV 1, iV l5]) (pc := 119) (dec_at lsk_226 (k := 68) rfl) rfl ?_
          refine u_inc (lv' := [.ref 271, .retAddr 0, iV l2, iV l3, iV 1, iV (l5 + 1)]) (pc := 121) (dec_at lsk_226 (k := 69) rfl) rfl (by decide) rfl ?_
          refine u_goto (pc := 124) (tgt := 75) (dec_at lsk_226 (k := 70) rfl) rfl ?_
          exact h
  · have h := ifF e3 h
    refine u_ld (v := iV l4) (pc := 127) (dec_at lsk_226 (k := 71) rfl) rfl ?_
    have g15 := h.1
    have h := h.2
    refine u_ifT (pc := 129) (tgt := 161) (dec_at lsk_226 (k := 72) rfl) rfl (c0_eq g15) (fun e16 => ?_) (fun e16 => ?_)
    · have h := ifT e16 h
      refine u_inc (lv' := [.ref 271, .retAddr 0, iV l2, iV (l3 + 1), iV l4, iV l5]) (pc := 161) (dec_at lsk_226 (k := 92) rfl) rfl (by decide) rfl ?_
      refine u_goto (pc := 164) (tgt := 48) (dec_at lsk_226 (k := 93) rfl) rfl ?_
      exact u_weak (sbK (sbK (sbK (sbK (sbD (sbD sb0)))))) h
    · have h := ifF e16 h
      refine u_ld (v := .ref 271) (pc := 132) (dec_at lsk_226 (k := 73) rfl) rfl ?_
      refine u_gS (o := 23) (p := 294) (pc := 133) (dec_at lsk_226 (k := 74) rfl) f_12_78 sx_271 rfl rfl ?_
      refine u_ld (v := iV l3) (pc := 136) (dec_at lsk_226 (k := 75) rfl) rfl ?_
      refine u_ld (v := iV 1) (pc := 137) (dec_at lsk_226 (k := 76) rfl) rfl ?_
      have g17 := h.1
      have h := h.2
      have g18 := h.1
      have h := h.2
      refine u_zast (pc := 138) (dec_at lsk_226 (k := 77) rfl) sx_294 g17 g18 (by decide) (fun u19 e20 => ?_)
      have h := h u19 e20
      refine u_ld (v := .ref 271) (pc := 139) (dec_at lsk_226 (k := 78) rfl) rfl ?_
      refine u_gS (o := 24) (p := 295) (pc := 140) (dec_at lsk_226 (k := 79) rfl) f_12_81 sx_271 rfl rfl ?_
      refine u_ld (v := .ref 271) (pc := 143) (dec_at lsk_226 (k := 80) rfl) rfl ?_
      refine u_gI (z := 33) (pc := 144) (dec_at lsk_226 (k := 81) rfl) f_12_335 sx_271 rfl rfl ?_
      refine u_ld (v := iV l3) (pc := 147) (dec_at lsk_226 (k := 82) rfl) rfl ?_
      have g21 := h.1
      have h := h.2
      have g22 := h.1
      have h := h.2
      refine u_iast (pc := 148) (dec_at lsk_226 (k := 83) rfl) sx_295 g21 g22 (fun u23 e24 => ?_)
      have h := h u23 e24
      refine u_ld (v := .ref 271) (pc := 149) (dec_at lsk_226 (k := 84) rfl) rfl ?_
      refine u_ld (v := .ref 271) (pc := 150) (dec_at lsk_226 (k := 85) rfl) rfl ?_
      refine u_gI (z := 33) (pc := 151) (dec_at lsk_226 (k := 86) rfl) f_12_335 sx_271 rfl rfl ?_
      refine u_ld (v := iV 1) (pc := 154) (dec_at lsk_226 (k := 87) rfl) rfl ?_
      refine u_iadd (pc := 155) (dec_at lsk_226 (k := 88) rfl) ?_
      refine u_pI (z := 33) (pc := 156) (dec_at lsk_226 (k := 89) rfl) f_12_335 sx_271 rfl rfl rfl rfl (fun u25 e26 => ?_)
      have h := h u25 e26
      refine u_ld (v := iV 1) (pc := 159) (dec_at lsk_226 (k := 90) rfl) rfl ?_
      refine u_sto (lv' := [.ref 271, .retAddr 0, iV 1, iV l3, iV l4, iV l5]) (pc := 160) (dec_at lsk_226 (k := 91) rfl) rfl ?_
      refine u_inc (lv' := [.ref 271, .retAddr 0, iV 1, iV (l3 + 1), iV l4, iV l5]) (pc := 161) (dec_at lsk_226 (k := 92) rfl) rfl (by decide) rfl ?_
      refine u_goto (pc := 164) (tgt := 48) (dec_at lsk_226 (k := 93) rfl) rfl ?_
      exact u_weak (sbK (sbK (sbK (sbK (sbD (sbD sb0)))))) h
