/-! Conditions (wip/tools/gen_k.py) -/
/-- method 15 -/
def K_15 (d pc : Nat) (lv : ev_L) (st : List Value) (u : uS) (Q : Int → uS → Prop) : Prop := okU d 0 2 false (some .int) prog_1_method_2_code (qI Q) pc lv st u
theorem e_15 {d : Nat} {Q : Int → uS → Prop} {u : uS} {l1 : Int} (h : (rI l1) ∧ (if l1 < 32 then (Q (-1) u) else (if 126 < l1 then (Q (-1) u) else ((rI (u.1 1 4)) ∧ (if u.1 1 4 < 300 then ((0 ≤ u.1 1 4) ∧ (∀ u7 : uS, u7 = wr u 2 (u.1 1 4) l1 → (∀ u9 : uS, u9 = wr u7 1 4 ((u7.1 1 4) + 1) → (Q (u9.1 1 4) u9)))) else (Q (-1) u)))))) : cI (d + 2) 15 [.ref 0, iV l1] u Q := by
  refine u_of me_15 (Nat.le_of_ble_eq_true rfl) ?_
  refine u_ld (v := iV l1) (pc := 0) (dec_at lsk_15 (k := 0) rfl) rfl ?_
  refine u_c (x := 32) (pc := 1) (dec_at lsk_15 (k := 1) rfl) rfl (by decide) ?_
  have g1 := h.1
  have h := h.2
  refine u_icT (pc := 3) (tgt := 12) (dec_at lsk_15 (k := 2) rfl) rfl (ci_lt g1 (by decide)) (fun e2 => ?_) (fun e2 => ?_)
  · have h := ifT e2 h
    refine u_ld (v := iV (-1)) (pc := 12) (dec_at lsk_15 (k := 6) rfl) rfl ?_
    exact u_rI (pc := 13) (dec_at lsk_15 (k := 7) rfl) rfl h
  · have h := ifF e2 h
    refine u_ld (v := iV l1) (pc := 6) (dec_at lsk_15 (k := 3) rfl) rfl ?_
    refine u_c (x := 126) (pc := 7) (dec_at lsk_15 (k := 4) rfl) rfl (by decide) ?_
    refine u_icF (pc := 9) (tgt := 14) (dec_at lsk_15 (k := 5) rfl) rfl (ci_le g1 (by decide)) (fun e3 => ?_) (fun e3 => ?_)
    · have h := ifT e3 h
      refine u_ld (v := iV (-1)) (pc := 12) (dec_at lsk_15 (k := 6) rfl) rfl ?_
      exact u_rI (pc := 13) (dec_at lsk_15 (k := 7) rfl) rfl h
    · have h := ifF e3 h
      refine u_ld (v := .ref 0) (pc := 14) (dec_at lsk_15 (k := 8) rfl) rfl ?_
      refine u_gS (o := 1) (p := 1) (pc := 15) (dec_at lsk_15 (k := 9) rfl) f_0_10 sx_0 rfl rfl ?_
      refine u_ld (v := iV l1) (pc := 18) (dec_at lsk_15 (k := 10) rfl) rfl ?_
      refine u_cvI (As := [iV l1]) (rb := 1) (st2 := []) (pc := 19) (dec_at lsk_15 (k := 11) rfl) m_0_79 (Or.inl rfl) rfl (Nat.le_of_ble_eq_true rfl) sx_1 me_16 rfl ?_ (fun _ _ h_ => h_)
      refine u_of me_16 (Nat.le_of_ble_eq_true rfl) ?_
      refine u_ld (v := .ref 1) (pc := 0) (dec_at lsk_16 (k := 0) rfl) rfl ?_
      refine u_gI (z := 4) (pc := 1) (dec_at lsk_16 (k := 1) rfl) f_1_21 sx_1 rfl rfl ?_
      refine u_c (x := 300) (pc := 4) (dec_at lsk_16 (k := 2) rfl) rfl (by decide) ?_
      have g4 := h.1
      have h := h.2
      refine u_icT (pc := 7) (tgt := 12) (dec_at lsk_16 (k := 3) rfl) rfl (ci_lt g4 (by decide)) (fun e5 => ?_) (fun e5 => ?_)
      · have h := ifT e5 h
        refine u_ld (v := .ref 1) (pc := 12) (dec_at lsk_16 (k := 6) rfl) rfl ?_
        refine u_gS (o := 1) (p := 2) (pc := 13) (dec_at lsk_16 (k := 7) rfl) f_1_9 sx_1 rfl rfl ?_
        refine u_ld (v := .ref 1) (pc := 16) (dec_at lsk_16 (k := 8) rfl) rfl ?_
        refine u_gI (z := 4) (pc := 17) (dec_at lsk_16 (k := 9) rfl) f_1_21 sx_1 rfl rfl ?_
        refine u_ld (v := iV l1) (pc := 20) (dec_at lsk_16 (k := 10) rfl) rfl ?_
        have g6 := h.1
        have h := h.2
        refine u_iast (pc := 21) (dec_at lsk_16 (k := 11) rfl) sx_2 g6 e5 (fun u7 e8 => ?_)
        have h := h u7 e8
        refine u_ld (v := .ref 1) (pc := 22) (dec_at lsk_16 (k := 12) rfl) rfl ?_
        refine u_ld (v := .ref 1) (pc := 23) (dec_at lsk_16 (k := 13) rfl) rfl ?_
        refine u_gI (z := 4) (pc := 24) (dec_at lsk_16 (k := 14) rfl) f_1_21 sx_1 rfl rfl ?_
        refine u_ld (v := iV 1) (pc := 27) (dec_at lsk_16 (k := 15) rfl) rfl ?_
        refine u_iadd (pc := 28) (dec_at lsk_16 (k := 16) rfl) ?_
        refine u_pI (z := 4) (pc := 29) (dec_at lsk_16 (k := 17) rfl) f_1_21 sx_1 rfl rfl rfl rfl (fun u9 e10 => ?_)
        have h := h u9 e10
        refine u_ld (v := .ref 1) (pc := 32) (dec_at lsk_16 (k := 18) rfl) rfl ?_
        refine u_gI (z := 4) (pc := 33) (dec_at lsk_16 (k := 19) rfl) f_1_21 sx_1 rfl rfl ?_
        refine u_rI (pc := 36) (dec_at lsk_16 (k := 20) rfl) rfl ?_
        exact u_rI (pc := 22) (dec_at lsk_15 (k := 12) rfl) rfl h
      · have h := ifF e5 h
        refine u_ld (v := iV (-1)) (pc := 10) (dec_at lsk_16 (k := 4) rfl) rfl ?_
        refine u_rI (pc := 11) (dec_at lsk_16 (k := 5) rfl) rfl ?_
        exact u_rI (pc := 22) (dec_at lsk_15 (k := 12) rfl) rfl h
/-- method 17 -/
def K_17 (d pc : Nat) (lv : ev_L) (st : List Value) (u : uS) (Q : Int → uS → Prop) : Prop := okU d 0 3 false (some .int) prog_1_method_3_code (qI Q) pc lv st u
theorem e_17 {d : Nat} {Q : Int → uS → Prop} {u : uS} (h : cV (d + 2) 18 [.ref 1] u (fun u1 => cI (d + 2) 19 [.ref 0] u1 (fun r3 u2 => (rI r3) ∧ (if r3 = (-1) then (K_17 (d + 2) 24 [.ref 0, .retAddr 0, iV 0] [] u2 Q) else (Q ((-2) - r3) u2))))) : cI (d + 3) 17 [.ref 0] u Q := by
  refine u_of me_17 (Nat.le_of_ble_eq_true rfl) ?_
  refine u_ld (v := .ref 0) (pc := 0) (dec_at lsk_17 (k := 0) rfl) rfl ?_
  refine u_gS (o := 1) (p := 1) (pc := 1) (dec_at lsk_17 (k := 1) rfl) f_0_10 sx_0 rfl rfl ?_
  refine u_cvV (As := []) (rb := 1) (st2 := []) (pc := 4) (dec_at lsk_17 (k := 2) rfl) m_0_83 (Or.inl rfl) rfl (Nat.le_of_ble_eq_true rfl) sx_1 me_18 rfl h (fun u1 h => ?_)
  refine u_ld (v := .ref 0) (pc := 7) (dec_at lsk_17 (k := 3) rfl) rfl ?_
  refine u_cvI (As := []) (rb := 0) (st2 := []) (pc := 8) (dec_at lsk_17 (k := 4) rfl) m_0_86 (Or.inl rfl) rfl (Nat.le_of_ble_eq_true rfl) sx_0 me_19 rfl h (fun r3 u2 h => ?_)
  refine u_sto (lv' := [.ref 0, iV r3, .retAddr 0]) (pc := 11) (dec_at lsk_17 (k := 5) rfl) rfl ?_
  refine u_ld (v := iV r3) (pc := 12) (dec_at lsk_17 (k := 6) rfl) rfl ?_
  refine u_ld (v := iV (-1)) (pc := 13) (dec_at lsk_17 (k := 7) rfl) rfl ?_
  have g4 := h.1
  have h := h.2
  refine u_icT (pc := 14) (tgt := 22) (dec_at lsk_17 (k := 8) rfl) rfl (ci_eq g4 (by decide)) (fun e5 => ?_) (fun e5 => ?_)
  · have h := ifT e5 h
    refine u_ld (v := iV 0) (pc := 22) (dec_at lsk_17 (k := 12) rfl) rfl ?_
    refine u_sto (lv' := [.ref 0, iV r3, iV 0]) (pc := 23) (dec_at lsk_17 (k := 13) rfl) rfl ?_
    exact u_weak (sbK (sbD (sbK sb0))) h
  · have h := ifF e5 h
    refine u_ld (v := iV r3) (pc := 17) (dec_at lsk_17 (k := 9) rfl) rfl ?_
    refine u_csI (As := [iV r3]) (st2 := []) (pc := 18) (dec_at lsk_17 (k := 10) rfl) m_0_90 (Or.inl rfl) rfl (Nat.le_of_ble_eq_true rfl) ?_ (fun _ _ h_ => h_)
    refine u_of me_23 (Nat.le_of_ble_eq_true rfl) ?_
    refine u_c (x := (-2)) (pc := 0) (dec_at lsk_23 (k := 0) rfl) rfl (by decide) ?_
    refine u_ld (v := iV r3) (pc := 2) (dec_at lsk_23 (k := 1) rfl) rfl ?_
    refine u_isub (pc := 3) (dec_at lsk_23 (k := 2) rfl) ?_
    refine u_rI (pc := 4) (dec_at lsk_23 (k := 3) rfl) rfl ?_
    exact u_rI (pc := 21) (dec_at lsk_17 (k := 11) rfl) rfl h
theorem k_17_24 {d : Nat} {Q : Int → uS → Prop} {u : uS} {l2 : Int} (h : (rI l2) ∧ ((rI (u.1 1 5)) ∧ (if l2 < u.1 1 5 then ((0 ≤ l2) ∧ ((l2 < 300) ∧ ((l2 < 40) ∧ (∀ u8 : uS, u8 = wr u 5 l2 ((u.1 3 l2) - 97) → (K_17 (d + 2) 24 [.ref 0, .retAddr 0, iV (l2 + 1)] [] u8 Q))))) else (∀ u10 : uS, u10 = wr u 0 2 (u.1 1 5) → (∀ u12 : uS, u12 = wr u10 36 16 0 → (Q (u.1 1 5) u12)))))) : K_17 (d + 2) 24 [.ref 0, .retAddr 0, iV l2] [] u Q := by
  unfold K_17
  refine u_ld (v := iV l2) (pc := 24) (dec_at lsk_17 (k := 14) rfl) rfl ?_
  refine u_ld (v := .ref 0) (pc := 25) (dec_at lsk_17 (k := 15) rfl) rfl ?_
  refine u_gS (o := 1) (p := 1) (pc := 26) (dec_at lsk_17 (k := 16) rfl) f_0_10 sx_0 rfl rfl ?_
  refine u_gI (z := 5) (pc := 29) (dec_at lsk_17 (k := 17) rfl) f_0_93 sx_1 rfl rfl ?_
  have g1 := h.1
  have h := h.2
  have g2 := h.1
  have h := h.2
  refine u_icF (pc := 32) (tgt := 58) (dec_at lsk_17 (k := 18) rfl) rfl (ci_ge g1 g2) (fun e3 => ?_) (fun e3 => ?_)
  · have h := ifT e3 h
    refine u_ld (v := .ref 0) (pc := 35) (dec_at lsk_17 (k := 19) rfl) rfl ?_
    refine u_gS (o := 5) (p := 5) (pc := 36) (dec_at lsk_17 (k := 20) rfl) f_0_16 sx_0 rfl rfl ?_
    refine u_ld (v := iV l2) (pc := 39) (dec_at lsk_17 (k := 21) rfl) rfl ?_
    refine u_ld (v := .ref 0) (pc := 40) (dec_at lsk_17 (k := 22) rfl) rfl ?_
    refine u_gS (o := 1) (p := 1) (pc := 41) (dec_at lsk_17 (k := 23) rfl) f_0_10 sx_0 rfl rfl ?_
    refine u_ld (v := iV l2) (pc := 44) (dec_at lsk_17 (k := 24) rfl) rfl ?_
    refine u_cvI (As := [iV l2]) (rb := 1) (st2 := [iV l2, .ref 5]) (pc := 45) (dec_at lsk_17 (k := 25) rfl) m_0_97 (Or.inl rfl) rfl (Nat.le_of_ble_eq_true rfl) sx_1 me_20 rfl ?_ (fun _ _ h_ => h_)
    refine u_of me_20 (Nat.le_of_ble_eq_true rfl) ?_
    refine u_ld (v := iV l2) (pc := 0) (dec_at lsk_20 (k := 0) rfl) rfl ?_
    refine u_ld (v := .ref 1) (pc := 1) (dec_at lsk_20 (k := 1) rfl) rfl ?_
    refine u_gI (z := 5) (pc := 2) (dec_at lsk_20 (k := 2) rfl) f_1_25 sx_1 rfl rfl ?_
    refine u_icF (pc := 5) (tgt := 17) (dec_at lsk_20 (k := 3) rfl) rfl (ci_ge g1 g2) (fun _ => ?_) (fun e4 => absurd e3 e4)
    refine u_ld (v := .ref 1) (pc := 8) (dec_at lsk_20 (k := 4) rfl) rfl ?_
    refine u_gS (o := 2) (p := 3) (pc := 9) (dec_at lsk_20 (k := 5) rfl) f_1_15 sx_1 rfl rfl ?_
    refine u_ld (v := iV l2) (pc := 12) (dec_at lsk_20 (k := 6) rfl) rfl ?_
    have g5 := h.1
    have h := h.2
    have g6 := h.1
    have h := h.2
    refine u_iald (pc := 13) (dec_at lsk_20 (k := 7) rfl) sx_3 g5 g6 ?_
    refine u_goto (pc := 14) (tgt := 18) (dec_at lsk_20 (k := 8) rfl) rfl ?_
    refine u_rI (pc := 18) (dec_at lsk_20 (k := 10) rfl) rfl ?_
    refine u_csI (As := [iV (u.1 3 l2)]) (st2 := [iV l2, .ref 5]) (pc := 48) (dec_at lsk_17 (k := 26) rfl) m_0_100 (Or.inl rfl) rfl (Nat.le_of_ble_eq_true rfl) ?_ (fun _ _ h_ => h_)
    refine u_of me_24 (Nat.le_of_ble_eq_true rfl) ?_
    refine u_ld (v := iV (u.1 3 l2)) (pc := 0) (dec_at lsk_24 (k := 0) rfl) rfl ?_
    refine u_c (x := 97) (pc := 1) (dec_at lsk_24 (k := 1) rfl) rfl (by decide) ?_
    refine u_isub (pc := 3) (dec_at lsk_24 (k := 2) rfl) ?_
    refine u_rI (pc := 4) (dec_at lsk_24 (k := 3) rfl) rfl ?_
    have g7 := h.1
    have h := h.2
    refine u_iast (pc := 51) (dec_at lsk_17 (k := 27) rfl) sx_5 g5 g7 (fun u8 e9 => ?_)
    have h := h u8 e9
    refine u_inc (lv' := [.ref 0, .retAddr 0, iV (l2 + 1)]) (pc := 52) (dec_at lsk_17 (k := 28) rfl) rfl (by decide) rfl ?_
    refine u_goto (pc := 55) (tgt := 24) (dec_at lsk_17 (k := 29) rfl) rfl ?_
    exact h
  · have h := ifF e3 h
    refine u_ld (v := .ref 0) (pc := 58) (dec_at lsk_17 (k := 30) rfl) rfl ?_
    refine u_ld (v := .ref 0) (pc := 59) (dec_at lsk_17 (k := 31) rfl) rfl ?_
    refine u_gS (o := 1) (p := 1) (pc := 60) (dec_at lsk_17 (k := 32) rfl) f_0_10 sx_0 rfl rfl ?_
    refine u_gI (z := 5) (pc := 63) (dec_at lsk_17 (k := 33) rfl) f_0_93 sx_1 rfl rfl ?_
    refine u_cvI (As := [iV (u.1 1 5)]) (rb := 0) (st2 := []) (pc := 66) (dec_at lsk_17 (k := 34) rfl) m_0_103 (Or.inl rfl) rfl (Nat.le_of_ble_eq_true rfl) sx_0 me_25 rfl ?_ (fun _ _ h_ => h_)
    refine u_of me_25 (Nat.le_of_ble_eq_true rfl) ?_
    refine u_ld (v := .ref 0) (pc := 0) (dec_at lsk_25 (k := 0) rfl) rfl ?_
    refine u_ld (v := iV (u.1 1 5)) (pc := 1) (dec_at lsk_25 (k := 1) rfl) rfl ?_
    refine u_pI (z := 2) (pc := 2) (dec_at lsk_25 (k := 2) rfl) f_0_154 sx_0 rfl rfl rfl rfl (fun u10 e11 => ?_)
    have h := h u10 e11
    refine u_ld (v := .ref 0) (pc := 5) (dec_at lsk_25 (k := 3) rfl) rfl ?_
    refine u_gS (o := 36) (p := 36) (pc := 6) (dec_at lsk_25 (k := 4) rfl) f_0_40 sx_0 rfl rfl ?_
    refine u_cvV (As := []) (rb := 36) (st2 := []) (pc := 9) (dec_at lsk_25 (k := 5) rfl) m_0_301 (Or.inl rfl) rfl (Nat.le_of_ble_eq_true rfl) sx_36 me_26 rfl ?_ (fun _ h_ => h_)
    refine u_of me_26 (Nat.le_of_ble_eq_true rfl) ?_
    refine u_ld (v := .ref 36) (pc := 0) (dec_at lsk_26 (k := 0) rfl) rfl ?_
    refine u_ld (v := iV 0) (pc := 1) (dec_at lsk_26 (k := 1) rfl) rfl ?_
    refine u_pZ (z := 16) (pc := 2) (dec_at lsk_26 (k := 2) rfl) f_4_56 sx_36 rfl rfl rfl rfl (by decide) (fun u12 e13 => ?_)
    have h := h u12 e13
    refine u_rV (pc := 5) (dec_at lsk_26 (k := 3) rfl) rfl ?_
    refine u_ld (v := iV (u.1 1 5)) (pc := 12) (dec_at lsk_25 (k := 6) rfl) rfl ?_
    refine u_rI (pc := 13) (dec_at lsk_25 (k := 7) rfl) rfl ?_
    exact u_rI (pc := 69) (dec_at lsk_17 (k := 35) rfl) rfl h
/-- method 18 -/
def K_18 (d pc : Nat) (lv : ev_L) (st : List Value) (u : uS) (Q : uS → Prop) : Prop := okU d 1 2 false none prog_10_method_3_code (qV Q) pc lv st u
theorem e_18 {d : Nat} {Q : uS → Prop} {u : uS} (h : ∀ u1 : uS, u1 = wr u 1 5 0 → (K_18 d 7 [.ref 1, iV 0] [] u1 Q)) : cV (d + 1) 18 [.ref 1] u Q := by
  refine u_of me_18 (Nat.le_of_ble_eq_true rfl) ?_
  refine u_ld (v := .ref 1) (pc := 0) (dec_at lsk_18 (k := 0) rfl) rfl ?_
  refine u_ld (v := iV 0) (pc := 1) (dec_at lsk_18 (k := 1) rfl) rfl ?_
  refine u_pI (z := 5) (pc := 2) (dec_at lsk_18 (k := 2) rfl) f_1_25 sx_1 rfl rfl rfl rfl (fun u1 e2 => ?_)
  have h := h u1 e2
  refine u_ld (v := iV 0) (pc := 5) (dec_at lsk_18 (k := 3) rfl) rfl ?_
  refine u_sto (lv' := [.ref 1, iV 0]) (pc := 6) (dec_at lsk_18 (k := 4) rfl) rfl ?_
  exact h
theorem k_18_7 {d : Nat} {Q : uS → Prop} {u : uS} {l1 : Int} (h : (rI l1) ∧ ((rI (u.1 1 4)) ∧ (if l1 < u.1 1 4 then ((0 ≤ l1) ∧ ((l1 < 300) ∧ ((rI (u.1 2 l1)) ∧ (if u.1 2 l1 = 32 then (K_18 d 7 [.ref 1, iV (l1 + 1)] [] u Q) else ((0 ≤ u.1 1 5) ∧ ((u.1 1 5 < 300) ∧ (∀ u10 : uS, u10 = wr u 3 (u.1 1 5) (u.1 2 l1) → ((0 ≤ u10.1 1 5) ∧ ((u10.1 1 5 < 300) ∧ (∀ u14 : uS, u14 = wr u10 4 (u10.1 1 5) l1 → (∀ u16 : uS, u16 = wr u14 1 5 ((u14.1 1 5) + 1) → (K_18 d 7 [.ref 1, iV (l1 + 1)] [] u16 Q)))))))))))) else (∀ u18 : uS, u18 = wr u 1 3 (u.1 1 4) → (∀ u20 : uS, u20 = wr u18 1 4 0 → (Q u20)))))) : K_18 d 7 [.ref 1, iV l1] [] u Q := by
  unfold K_18
  refine u_ld (v := iV l1) (pc := 7) (dec_at lsk_18 (k := 5) rfl) rfl ?_
  refine u_ld (v := .ref 1) (pc := 8) (dec_at lsk_18 (k := 6) rfl) rfl ?_
  refine u_gI (z := 4) (pc := 9) (dec_at lsk_18 (k := 7) rfl) f_1_21 sx_1 rfl rfl ?_
  have g1 := h.1
  have h := h.2
  have g2 := h.1
  have h := h.2
  refine u_icF (pc := 12) (tgt := 67) (dec_at lsk_18 (k := 8) rfl) rfl (ci_ge g1 g2) (fun e3 => ?_) (fun e3 => ?_)
  · have h := ifT e3 h
    refine u_ld (v := .ref 1) (pc := 15) (dec_at lsk_18 (k := 9) rfl) rfl ?_
    refine u_gS (o := 1) (p := 2) (pc := 16) (dec_at lsk_18 (k := 10) rfl) f_1_9 sx_1 rfl rfl ?_
    refine u_ld (v := iV l1) (pc := 19) (dec_at lsk_18 (k := 11) rfl) rfl ?_
    have g4 := h.1
    have h := h.2
    have g5 := h.1
    have h := h.2
    refine u_iald (pc := 20) (dec_at lsk_18 (k := 12) rfl) sx_2 g4 g5 ?_
    refine u_c (x := 32) (pc := 21) (dec_at lsk_18 (k := 13) rfl) rfl (by decide) ?_
    have g6 := h.1
    have h := h.2
    refine u_icT (pc := 23) (tgt := 61) (dec_at lsk_18 (k := 14) rfl) rfl (ci_eq g6 (by decide)) (fun e7 => ?_) (fun e7 => ?_)
    · have h := ifT e7 h
      refine u_inc (lv' := [.ref 1, iV (l1 + 1)]) (pc := 61) (dec_at lsk_18 (k := 36) rfl) rfl (by decide) rfl ?_
      refine u_goto (pc := 64) (tgt := 7) (dec_at lsk_18 (k := 37) rfl) rfl ?_
      exact h
    · have h := ifF e7 h
      refine u_ld (v := .ref 1) (pc := 26) (dec_at lsk_18 (k := 15) rfl) rfl ?_
      refine u_gS (o := 2) (p := 3) (pc := 27) (dec_at lsk_18 (k := 16) rfl) f_1_15 sx_1 rfl rfl ?_
      refine u_ld (v := .ref 1) (pc := 30) (dec_at lsk_18 (k := 17) rfl) rfl ?_
      refine u_gI (z := 5) (pc := 31) (dec_at lsk_18 (k := 18) rfl) f_1_25 sx_1 rfl rfl ?_
      refine u_ld (v := .ref 1) (pc := 34) (dec_at lsk_18 (k := 19) rfl) rfl ?_
      refine u_gS (o := 1) (p := 2) (pc := 35) (dec_at lsk_18 (k := 20) rfl) f_1_9 sx_1 rfl rfl ?_
      refine u_ld (v := iV l1) (pc := 38) (dec_at lsk_18 (k := 21) rfl) rfl ?_
      refine u_iald (pc := 39) (dec_at lsk_18 (k := 22) rfl) sx_2 g4 g5 ?_
      have g8 := h.1
      have h := h.2
      have g9 := h.1
      have h := h.2
      refine u_iast (pc := 40) (dec_at lsk_18 (k := 23) rfl) sx_3 g8 g9 (fun u10 e11 => ?_)
      have h := h u10 e11
      refine u_ld (v := .ref 1) (pc := 41) (dec_at lsk_18 (k := 24) rfl) rfl ?_
      refine u_gS (o := 3) (p := 4) (pc := 42) (dec_at lsk_18 (k := 25) rfl) f_1_18 sx_1 rfl rfl ?_
      refine u_ld (v := .ref 1) (pc := 45) (dec_at lsk_18 (k := 26) rfl) rfl ?_
      refine u_gI (z := 5) (pc := 46) (dec_at lsk_18 (k := 27) rfl) f_1_25 sx_1 rfl rfl ?_
      refine u_ld (v := iV l1) (pc := 49) (dec_at lsk_18 (k := 28) rfl) rfl ?_
      have g12 := h.1
      have h := h.2
      have g13 := h.1
      have h := h.2
      refine u_iast (pc := 50) (dec_at lsk_18 (k := 29) rfl) sx_4 g12 g13 (fun u14 e15 => ?_)
      have h := h u14 e15
      refine u_ld (v := .ref 1) (pc := 51) (dec_at lsk_18 (k := 30) rfl) rfl ?_
      refine u_ld (v := .ref 1) (pc := 52) (dec_at lsk_18 (k := 31) rfl) rfl ?_
      refine u_gI (z := 5) (pc := 53) (dec_at lsk_18 (k := 32) rfl) f_1_25 sx_1 rfl rfl ?_
      refine u_ld (v := iV 1) (pc := 56) (dec_at lsk_18 (k := 33) rfl) rfl ?_
      refine u_iadd (pc := 57) (dec_at lsk_18 (k := 34) rfl) ?_
      refine u_pI (z := 5) (pc := 58) (dec_at lsk_18 (k := 35) rfl) f_1_25 sx_1 rfl rfl rfl rfl (fun u16 e17 => ?_)
      have h := h u16 e17
      refine u_inc (lv' := [.ref 1, iV (l1 + 1)]) (pc := 61) (dec_at lsk_18 (k := 36) rfl) rfl (by decide) rfl ?_
      refine u_goto (pc := 64) (tgt := 7) (dec_at lsk_18 (k := 37) rfl) rfl ?_
      exact h
  · have h := ifF e3 h
    refine u_ld (v := .ref 1) (pc := 67) (dec_at lsk_18 (k := 38) rfl) rfl ?_
    refine u_ld (v := .ref 1) (pc := 68) (dec_at lsk_18 (k := 39) rfl) rfl ?_
    refine u_gI (z := 4) (pc := 69) (dec_at lsk_18 (k := 40) rfl) f_1_21 sx_1 rfl rfl ?_
    refine u_pI (z := 3) (pc := 72) (dec_at lsk_18 (k := 41) rfl) f_1_28 sx_1 rfl rfl rfl rfl (fun u18 e19 => ?_)
    have h := h u18 e19
    refine u_ld (v := .ref 1) (pc := 75) (dec_at lsk_18 (k := 42) rfl) rfl ?_
    refine u_ld (v := iV 0) (pc := 76) (dec_at lsk_18 (k := 43) rfl) rfl ?_
    refine u_pI (z := 4) (pc := 77) (dec_at lsk_18 (k := 44) rfl) f_1_21 sx_1 rfl rfl rfl rfl (fun u20 e21 => ?_)
    have h := h u20 e21
    exact u_rV (pc := 80) (dec_at lsk_18 (k := 45) rfl) rfl h
/-- method 19 -/
def K_19 (d pc : Nat) (lv : ev_L) (st : List Value) (u : uS) (Q : Int → uS → Prop) : Prop := okU d 0 2 false (some .int) prog_1_method_27_code (qI Q) pc lv st u
theorem e_19 {d : Nat} {Q : Int → uS → Prop} {u : uS} (h : K_19 (d + 1) 2 [.ref 0, iV 0] [] u Q) : cI (d + 2) 19 [.ref 0] u Q := by
  refine u_of me_19 (Nat.le_of_ble_eq_true rfl) ?_
  refine u_ld (v := iV 0) (pc := 0) (dec_at lsk_19 (k := 0) rfl) rfl ?_
  refine u_sto (lv' := [.ref 0, iV 0]) (pc := 1) (dec_at lsk_19 (k := 1) rfl) rfl ?_
  exact h
theorem k_19_2 {d : Nat} {Q : Int → uS → Prop} {u : uS} {l1 : Int} (h : (rI l1) ∧ ((rI (u.1 1 5)) ∧ (if l1 < u.1 1 5 then (if l1 = 40 then ((0 ≤ l1) ∧ ((l1 < 300) ∧ (Q (u.1 4 l1) u))) else ((0 ≤ l1) ∧ ((l1 < 300) ∧ ((rI (u.1 3 l1)) ∧ (if u.1 3 l1 < 97 then (Q (u.1 4 l1) u) else (if u.1 3 l1 < 107 then (K_19 (d + 1) 2 [.ref 0, iV (l1 + 1)] [] u Q) else (Q (u.1 4 l1) u))))))) else (Q (-1) u)))) : K_19 (d + 1) 2 [.ref 0, iV l1] [] u Q := by
  unfold K_19
  refine u_ld (v := iV l1) (pc := 2) (dec_at lsk_19 (k := 2) rfl) rfl ?_
  refine u_ld (v := .ref 0) (pc := 3) (dec_at lsk_19 (k := 3) rfl) rfl ?_
  refine u_gS (o := 1) (p := 1) (pc := 4) (dec_at lsk_19 (k := 4) rfl) f_0_10 sx_0 rfl rfl ?_
  refine u_gI (z := 5) (pc := 7) (dec_at lsk_19 (k := 5) rfl) f_0_93 sx_1 rfl rfl ?_
  have g1 := h.1
  have h := h.2
  have g2 := h.1
  have h := h.2
  refine u_icF (pc := 10) (tgt := 48) (dec_at lsk_19 (k := 6) rfl) rfl (ci_ge g1 g2) (fun e3 => ?_) (fun e3 => ?_)
  · have h := ifT e3 h
    refine u_ld (v := iV l1) (pc := 13) (dec_at lsk_19 (k := 7) rfl) rfl ?_
    refine u_c (x := 40) (pc := 14) (dec_at lsk_19 (k := 8) rfl) rfl (by decide) ?_
    refine u_icT (pc := 16) (tgt := 33) (dec_at lsk_19 (k := 9) rfl) rfl (ci_eq g1 (by decide)) (fun e4 => ?_) (fun e4 => ?_)
    · have h := ifT e4 h
      refine u_ld (v := .ref 0) (pc := 33) (dec_at lsk_19 (k := 16) rfl) rfl ?_
      refine u_gS (o := 1) (p := 1) (pc := 34) (dec_at lsk_19 (k := 17) rfl) f_0_10 sx_0 rfl rfl ?_
      refine u_ld (v := iV l1) (pc := 37) (dec_at lsk_19 (k := 18) rfl) rfl ?_
      refine u_cvI (As := [iV l1]) (rb := 1) (st2 := []) (pc := 38) (dec_at lsk_19 (k := 19) rfl) m_0_307 (Or.inl rfl) rfl (Nat.le_of_ble_eq_true rfl) sx_1 me_22 rfl ?_ (fun _ _ h_ => h_)
      refine u_of me_22 (Nat.le_of_ble_eq_true rfl) ?_
      refine u_ld (v := iV l1) (pc := 0) (dec_at lsk_22 (k := 0) rfl) rfl ?_
      refine u_ld (v := .ref 1) (pc := 1) (dec_at lsk_22 (k := 1) rfl) rfl ?_
      refine u_gI (z := 5) (pc := 2) (dec_at lsk_22 (k := 2) rfl) f_1_25 sx_1 rfl rfl ?_
      refine u_icF (pc := 5) (tgt := 17) (dec_at lsk_22 (k := 3) rfl) rfl (ci_ge g1 g2) (fun _ => ?_) (fun e5 => absurd e3 e5)
      refine u_ld (v := .ref 1) (pc := 8) (dec_at lsk_22 (k := 4) rfl) rfl ?_
      refine u_gS (o := 3) (p := 4) (pc := 9) (dec_at lsk_22 (k := 5) rfl) f_1_18 sx_1 rfl rfl ?_
      refine u_ld (v := iV l1) (pc := 12) (dec_at lsk_22 (k := 6) rfl) rfl ?_
      have g6 := h.1
      have h := h.2
      have g7 := h.1
      have h := h.2
      refine u_iald (pc := 13) (dec_at lsk_22 (k := 7) rfl) sx_4 g6 g7 ?_
      refine u_goto (pc := 14) (tgt := 21) (dec_at lsk_22 (k := 8) rfl) rfl ?_
      refine u_rI (pc := 21) (dec_at lsk_22 (k := 11) rfl) rfl ?_
      exact u_rI (pc := 41) (dec_at lsk_19 (k := 20) rfl) rfl h
    · have h := ifF e4 h
      refine u_ld (v := .ref 0) (pc := 19) (dec_at lsk_19 (k := 10) rfl) rfl ?_
      refine u_gS (o := 1) (p := 1) (pc := 20) (dec_at lsk_19 (k := 11) rfl) f_0_10 sx_0 rfl rfl ?_
      refine u_ld (v := iV l1) (pc := 23) (dec_at lsk_19 (k := 12) rfl) rfl ?_
      refine u_cvI (As := [iV l1]) (rb := 1) (st2 := []) (pc := 24) (dec_at lsk_19 (k := 13) rfl) m_0_97 (Or.inl rfl) rfl (Nat.le_of_ble_eq_true rfl) sx_1 me_20 rfl ?_ (fun _ _ h_ => h_)
      refine u_of me_20 (Nat.le_of_ble_eq_true rfl) ?_
      refine u_ld (v := iV l1) (pc := 0) (dec_at lsk_20 (k := 0) rfl) rfl ?_
      refine u_ld (v := .ref 1) (pc := 1) (dec_at lsk_20 (k := 1) rfl) rfl ?_
      refine u_gI (z := 5) (pc := 2) (dec_at lsk_20 (k := 2) rfl) f_1_25 sx_1 rfl rfl ?_
      refine u_icF (pc := 5) (tgt := 17) (dec_at lsk_20 (k := 3) rfl) rfl (ci_ge g1 g2) (fun _ => ?_) (fun e8 => absurd e3 e8)
      refine u_ld (v := .ref 1) (pc := 8) (dec_at lsk_20 (k := 4) rfl) rfl ?_
      refine u_gS (o := 2) (p := 3) (pc := 9) (dec_at lsk_20 (k := 5) rfl) f_1_15 sx_1 rfl rfl ?_
      refine u_ld (v := iV l1) (pc := 12) (dec_at lsk_20 (k := 6) rfl) rfl ?_
      have g9 := h.1
      have h := h.2
      have g10 := h.1
      have h := h.2
      refine u_iald (pc := 13) (dec_at lsk_20 (k := 7) rfl) sx_3 g9 g10 ?_
      refine u_goto (pc := 14) (tgt := 18) (dec_at lsk_20 (k := 8) rfl) rfl ?_
      refine u_rI (pc := 18) (dec_at lsk_20 (k := 10) rfl) rfl ?_
      refine u_csI (As := [iV (u.1 3 l1)]) (st2 := []) (pc := 27) (dec_at lsk_19 (k := 14) rfl) m_0_304 (Or.inl rfl) rfl (Nat.le_of_ble_eq_true rfl) ?_ (fun _ _ h_ => h_)
      refine u_of me_21 (Nat.le_of_ble_eq_true rfl) ?_
      refine u_ld (v := iV (u.1 3 l1)) (pc := 0) (dec_at lsk_21 (k := 0) rfl) rfl ?_
      refine u_c (x := 97) (pc := 1) (dec_at lsk_21 (k := 1) rfl) rfl (by decide) ?_
      have g11 := h.1
      have h := h.2
      refine u_icT (pc := 3) (tgt := 16) (dec_at lsk_21 (k := 2) rfl) rfl (ci_lt g11 (by decide)) (fun e12 => ?_) (fun e12 => ?_)
      · have h := ifT e12 h
        refine u_ld (v := iV 0) (pc := 16) (dec_at lsk_21 (k := 8) rfl) rfl ?_
        refine u_rZ (pc := 17) (dec_at lsk_21 (k := 9) rfl) rfl (by decide) ?_
        refine u_ifF (pc := 30) (tgt := 42) (dec_at lsk_19 (k := 15) rfl) rfl (c0_ne (by decide)) (fun _ => ?_) (fun e => absurd e (by decide))
        refine u_ld (v := .ref 0) (pc := 33) (dec_at lsk_19 (k := 16) rfl) rfl ?_
        refine u_gS (o := 1) (p := 1) (pc := 34) (dec_at lsk_19 (k := 17) rfl) f_0_10 sx_0 rfl rfl ?_
        refine u_ld (v := iV l1) (pc := 37) (dec_at lsk_19 (k := 18) rfl) rfl ?_
        refine u_cvI (As := [iV l1]) (rb := 1) (st2 := []) (pc := 38) (dec_at lsk_19 (k := 19) rfl) m_0_307 (Or.inl rfl) rfl (Nat.le_of_ble_eq_true rfl) sx_1 me_22 rfl ?_ (fun _ _ h_ => h_)
        refine u_of me_22 (Nat.le_of_ble_eq_true rfl) ?_
        refine u_ld (v := iV l1) (pc := 0) (dec_at lsk_22 (k := 0) rfl) rfl ?_
        refine u_ld (v := .ref 1) (pc := 1) (dec_at lsk_22 (k := 1) rfl) rfl ?_
        refine u_gI (z := 5) (pc := 2) (dec_at lsk_22 (k := 2) rfl) f_1_25 sx_1 rfl rfl ?_
        refine u_icF (pc := 5) (tgt := 17) (dec_at lsk_22 (k := 3) rfl) rfl (ci_ge g1 g2) (fun _ => ?_) (fun e13 => absurd e3 e13)
        refine u_ld (v := .ref 1) (pc := 8) (dec_at lsk_22 (k := 4) rfl) rfl ?_
        refine u_gS (o := 3) (p := 4) (pc := 9) (dec_at lsk_22 (k := 5) rfl) f_1_18 sx_1 rfl rfl ?_
        refine u_ld (v := iV l1) (pc := 12) (dec_at lsk_22 (k := 6) rfl) rfl ?_
        refine u_iald (pc := 13) (dec_at lsk_22 (k := 7) rfl) sx_4 g9 g10 ?_
        refine u_goto (pc := 14) (tgt := 21) (dec_at lsk_22 (k := 8) rfl) rfl ?_
        refine u_rI (pc := 21) (dec_at lsk_22 (k := 11) rfl) rfl ?_
        exact u_rI (pc := 41) (dec_at lsk_19 (k := 20) rfl) rfl h
      · have h := ifF e12 h
        refine u_ld (v := iV (u.1 3 l1)) (pc := 6) (dec_at lsk_21 (k := 3) rfl) rfl ?_
        refine u_c (x := 107) (pc := 7) (dec_at lsk_21 (k := 4) rfl) rfl (by decide) ?_
        refine u_icF (pc := 9) (tgt := 16) (dec_at lsk_21 (k := 5) rfl) rfl (ci_ge g11 (by decide)) (fun e14 => ?_) (fun e14 => ?_)
        · have h := ifT e14 h
          refine u_ld (v := iV 1) (pc := 12) (dec_at lsk_21 (k := 6) rfl) rfl ?_
          refine u_goto (pc := 13) (tgt := 17) (dec_at lsk_21 (k := 7) rfl) rfl ?_
          refine u_rZ (pc := 17) (dec_at lsk_21 (k := 9) rfl) rfl (by decide) ?_
          refine u_ifF (pc := 30) (tgt := 42) (dec_at lsk_19 (k := 15) rfl) rfl (c0_ne (by decide)) (fun e => absurd e (by decide)) (fun _ => ?_)
          refine u_inc (lv' := [.ref 0, iV (l1 + 1)]) (pc := 42) (dec_at lsk_19 (k := 21) rfl) rfl (by decide) rfl ?_
          refine u_goto (pc := 45) (tgt := 2) (dec_at lsk_19 (k := 22) rfl) rfl ?_
          exact h
        · have h := ifF e14 h
          refine u_ld (v := iV 0) (pc := 16) (dec_at lsk_21 (k := 8) rfl) rfl ?_
          refine u_rZ (pc := 17) (dec_at lsk_21 (k := 9) rfl) rfl (by decide) ?_
          refine u_ifF (pc := 30) (tgt := 42) (dec_at lsk_19 (k := 15) rfl) rfl (c0_ne (by decide)) (fun _ => ?_) (fun e => absurd e (by decide))
          refine u_ld (v := .ref 0) (pc := 33) (dec_at lsk_19 (k := 16) rfl) rfl ?_
          refine u_gS (o := 1) (p := 1) (pc := 34) (dec_at lsk_19 (k := 17) rfl) f_0_10 sx_0 rfl rfl ?_
          refine u_ld (v := iV l1) (pc := 37) (dec_at lsk_19 (k := 18) rfl) rfl ?_
          refine u_cvI (As := [iV l1]) (rb := 1) (st2 := []) (pc := 38) (dec_at lsk_19 (k := 19) rfl) m_0_307 (Or.inl rfl) rfl (Nat.le_of_ble_eq_true rfl) sx_1 me_22 rfl ?_ (fun _ _ h_ => h_)
          refine u_of me_22 (Nat.le_of_ble_eq_true rfl) ?_
          refine u_ld (v := iV l1) (pc := 0) (dec_at lsk_22 (k := 0) rfl) rfl ?_
          refine u_ld (v := .ref 1) (pc := 1) (dec_at lsk_22 (k := 1) rfl) rfl ?_
          refine u_gI (z := 5) (pc := 2) (dec_at lsk_22 (k := 2) rfl) f_1_25 sx_1 rfl rfl ?_
          refine u_icF (pc := 5) (tgt := 17) (dec_at lsk_22 (k := 3) rfl) rfl (ci_ge g1 g2) (fun _ => ?_) (fun e15 => absurd e3 e15)
          refine u_ld (v := .ref 1) (pc := 8) (dec_at lsk_22 (k := 4) rfl) rfl ?_
          refine u_gS (o := 3) (p := 4) (pc := 9) (dec_at lsk_22 (k := 5) rfl) f_1_18 sx_1 rfl rfl ?_
          refine u_ld (v := iV l1) (pc := 12) (dec_at lsk_22 (k := 6) rfl) rfl ?_
          refine u_iald (pc := 13) (dec_at lsk_22 (k := 7) rfl) sx_4 g9 g10 ?_
          refine u_goto (pc := 14) (tgt := 21) (dec_at lsk_22 (k := 8) rfl) rfl ?_
          refine u_rI (pc := 21) (dec_at lsk_22 (k := 11) rfl) rfl ?_
          exact u_rI (pc := 41) (dec_at lsk_19 (k := 20) rfl) rfl h
  · have h := ifF e3 h
    refine u_ld (v := iV (-1)) (pc := 48) (dec_at lsk_19 (k := 23) rfl) rfl ?_
    exact u_rI (pc := 49) (dec_at lsk_19 (k := 24) rfl) rfl h
/-- method 27 -/
def K_27 (d pc : Nat) (lv : ev_L) (st : List Value) (u : uS) (Q : Int → uS → Prop) : Prop := okU d 0 2 false (some .int) prog_1_method_4_code (qI Q) pc lv st u
theorem e_27 {d : Nat} {Q : Int → uS → Prop} {u : uS} (h : cV (d + 1) 18 [.ref 1] u (fun u1 => cI (d + 1) 28 [.ref 24, .ref 1, .ref 15] u1 (fun r3 u2 => (rI r3) ∧ (if r3 = (-1) then (cV (d + 1) 43 [.ref 6, .ref 15] u2 (fun u6 => cV (d + 1) 44 [.ref 6] u6 (fun u7 => ∀ u8 : uS, u8 = wr u7 36 16 0 → (∀ u10 : uS, u10 = wr u8 36 17 0 → (∀ u12 : uS, u12 = wr u10 193 0 0 → (∀ u14 : uS, u14 = wr u12 212 0 0 → (Q (u14.1 6 1) u14))))))) else (Q ((-2) - r3) u2))))) : cI (d + 2) 27 [.ref 0] u Q := by
  refine u_of me_27 (Nat.le_of_ble_eq_true rfl) ?_
  refine u_ld (v := .ref 0) (pc := 0) (dec_at lsk_27 (k := 0) rfl) rfl ?_
  refine u_gS (o := 1) (p := 1) (pc := 1) (dec_at lsk_27 (k := 1) rfl) f_0_10 sx_0 rfl rfl ?_
  refine u_cvV (As := []) (rb := 1) (st2 := []) (pc := 4) (dec_at lsk_27 (k := 2) rfl) m_0_83 (Or.inl rfl) rfl (Nat.le_of_ble_eq_true rfl) sx_1 me_18 rfl h (fun u1 h => ?_)
  refine u_ld (v := .ref 0) (pc := 7) (dec_at lsk_27 (k := 3) rfl) rfl ?_
  refine u_gS (o := 24) (p := 24) (pc := 8) (dec_at lsk_27 (k := 4) rfl) f_0_33 sx_0 rfl rfl ?_
  refine u_ld (v := .ref 0) (pc := 11) (dec_at lsk_27 (k := 5) rfl) rfl ?_
  refine u_gS (o := 1) (p := 1) (pc := 12) (dec_at lsk_27 (k := 6) rfl) f_0_10 sx_0 rfl rfl ?_
  refine u_ld (v := .ref 0) (pc := 15) (dec_at lsk_27 (k := 7) rfl) rfl ?_
  refine u_gS (o := 15) (p := 15) (pc := 16) (dec_at lsk_27 (k := 8) rfl) f_0_27 sx_0 rfl rfl ?_
  refine u_cvI (As := [.ref 1, .ref 15]) (rb := 24) (st2 := []) (pc := 19) (dec_at lsk_27 (k := 9) rfl) m_0_106 (Or.inl rfl) rfl (Nat.le_of_ble_eq_true rfl) sx_24 me_28 rfl h (fun r3 u2 h => ?_)
  refine u_sto (lv' := [.ref 0, iV r3]) (pc := 22) (dec_at lsk_27 (k := 10) rfl) rfl ?_
  refine u_ld (v := iV r3) (pc := 23) (dec_at lsk_27 (k := 11) rfl) rfl ?_
  refine u_ld (v := iV (-1)) (pc := 24) (dec_at lsk_27 (k := 12) rfl) rfl ?_
  have g4 := h.1
  have h := h.2
  refine u_icT (pc := 25) (tgt := 33) (dec_at lsk_27 (k := 13) rfl) rfl (ci_eq g4 (by decide)) (fun e5 => ?_) (fun e5 => ?_)
  · have h := ifT e5 h
    refine u_ld (v := .ref 0) (pc := 33) (dec_at lsk_27 (k := 17) rfl) rfl ?_
    refine u_gS (o := 6) (p := 6) (pc := 34) (dec_at lsk_27 (k := 18) rfl) f_0_23 sx_0 rfl rfl ?_
    refine u_ld (v := .ref 0) (pc := 37) (dec_at lsk_27 (k := 19) rfl) rfl ?_
    refine u_gS (o := 15) (p := 15) (pc := 38) (dec_at lsk_27 (k := 20) rfl) f_0_27 sx_0 rfl rfl ?_
    refine u_cvV (As := [.ref 15]) (rb := 6) (st2 := []) (pc := 41) (dec_at lsk_27 (k := 21) rfl) m_0_110 (Or.inl rfl) rfl (Nat.le_of_ble_eq_true rfl) sx_6 me_43 rfl h (fun u6 h => ?_)
    refine u_ld (v := .ref 0) (pc := 44) (dec_at lsk_27 (k := 22) rfl) rfl ?_
    refine u_gS (o := 6) (p := 6) (pc := 45) (dec_at lsk_27 (k := 23) rfl) f_0_23 sx_0 rfl rfl ?_
    refine u_cvV (As := []) (rb := 6) (st2 := []) (pc := 48) (dec_at lsk_27 (k := 24) rfl) m_0_114 (Or.inl rfl) rfl (Nat.le_of_ble_eq_true rfl) sx_6 me_44 rfl h (fun u7 h => ?_)
    refine u_ld (v := .ref 0) (pc := 51) (dec_at lsk_27 (k := 25) rfl) rfl ?_
    refine u_gS (o := 36) (p := 36) (pc := 52) (dec_at lsk_27 (k := 26) rfl) f_0_40 sx_0 rfl rfl ?_
    refine u_cvV (As := []) (rb := 36) (st2 := []) (pc := 55) (dec_at lsk_27 (k := 27) rfl) m_0_117 (Or.inl rfl) rfl (Nat.le_of_ble_eq_true rfl) sx_36 me_61 rfl ?_ (fun _ h_ => h_)
    refine u_of me_61 (Nat.le_of_ble_eq_true rfl) ?_
    refine u_ld (v := .ref 36) (pc := 0) (dec_at lsk_61 (k := 0) rfl) rfl ?_
    refine u_ld (v := iV 0) (pc := 1) (dec_at lsk_61 (k := 1) rfl) rfl ?_
    refine u_pZ (z := 16) (pc := 2) (dec_at lsk_61 (k := 2) rfl) f_4_56 sx_36 rfl rfl rfl rfl (by decide) (fun u8 e9 => ?_)
    have h := h u8 e9
    refine u_ld (v := .ref 36) (pc := 5) (dec_at lsk_61 (k := 3) rfl) rfl ?_
    refine u_ld (v := iV 0) (pc := 6) (dec_at lsk_61 (k := 4) rfl) rfl ?_
    refine u_pZ (z := 17) (pc := 7) (dec_at lsk_61 (k := 5) rfl) f_4_60 sx_36 rfl rfl rfl rfl (by decide) (fun u10 e11 => ?_)
    have h := h u10 e11
    refine u_rV (pc := 10) (dec_at lsk_61 (k := 6) rfl) rfl ?_
    refine u_ld (v := .ref 0) (pc := 58) (dec_at lsk_27 (k := 28) rfl) rfl ?_
    refine u_gS (o := 192) (p := 192) (pc := 59) (dec_at lsk_27 (k := 29) rfl) f_0_68 sx_0 rfl rfl ?_
    refine u_ld (v := iV 0) (pc := 62) (dec_at lsk_27 (k := 30) rfl) rfl ?_
    refine u_aald4 (r := 193) (pc := 63) (dec_at lsk_27 (k := 31) rfl) sx_192 (by decide) (by decide) rfl ?_
    refine u_ld (v := iV 0) (pc := 64) (dec_at lsk_27 (k := 32) rfl) rfl ?_
    refine u_pZ (z := 0) (pc := 65) (dec_at lsk_27 (k := 33) rfl) f_0_120 sx_193 rfl rfl rfl rfl (by decide) (fun u12 e13 => ?_)
    have h := h u12 e13
    refine u_ld (v := .ref 0) (pc := 68) (dec_at lsk_27 (k := 34) rfl) rfl ?_
    refine u_gS (o := 192) (p := 192) (pc := 69) (dec_at lsk_27 (k := 35) rfl) f_0_68 sx_0 rfl rfl ?_
    refine u_ld (v := iV 1) (pc := 72) (dec_at lsk_27 (k := 36) rfl) rfl ?_
    refine u_aald4 (r := 212) (pc := 73) (dec_at lsk_27 (k := 37) rfl) sx_192 (by decide) (by decide) rfl ?_
    refine u_ld (v := iV 0) (pc := 74) (dec_at lsk_27 (k := 38) rfl) rfl ?_
    refine u_pZ (z := 0) (pc := 75) (dec_at lsk_27 (k := 39) rfl) f_0_120 sx_212 rfl rfl rfl rfl (by decide) (fun u14 e15 => ?_)
    have h := h u14 e15
    refine u_ld (v := .ref 0) (pc := 78) (dec_at lsk_27 (k := 40) rfl) rfl ?_
    refine u_gS (o := 6) (p := 6) (pc := 79) (dec_at lsk_27 (k := 41) rfl) f_0_23 sx_0 rfl rfl ?_
    refine u_gI (z := 1) (pc := 82) (dec_at lsk_27 (k := 42) rfl) f_0_124 sx_6 rfl rfl ?_
    exact u_rI (pc := 85) (dec_at lsk_27 (k := 43) rfl) rfl h
  · have h := ifF e5 h
    refine u_ld (v := iV r3) (pc := 28) (dec_at lsk_27 (k := 14) rfl) rfl ?_
    refine u_csI (As := [iV r3]) (st2 := []) (pc := 29) (dec_at lsk_27 (k := 15) rfl) m_0_90 (Or.inl rfl) rfl (Nat.le_of_ble_eq_true rfl) ?_ (fun _ _ h_ => h_)
    refine u_of me_23 (Nat.le_of_ble_eq_true rfl) ?_
    refine u_c (x := (-2)) (pc := 0) (dec_at lsk_23 (k := 0) rfl) rfl (by decide) ?_
    refine u_ld (v := iV r3) (pc := 2) (dec_at lsk_23 (k := 1) rfl) rfl ?_
    refine u_isub (pc := 3) (dec_at lsk_23 (k := 2) rfl) ?_
    refine u_rI (pc := 4) (dec_at lsk_23 (k := 3) rfl) rfl ?_
    exact u_rI (pc := 32) (dec_at lsk_27 (k := 16) rfl) rfl h
/-- method 28 -/
def K_28 (d pc : Nat) (lv : ev_L) (st : List Value) (u : uS) (Q : Int → uS → Prop) : Prop := okU d 3 4 false (some .int) prog_4_method_2_code (qI Q) pc lv st u
theorem e_28 {d : Nat} {Q : Int → uS → Prop} {u : uS} {l2 : Nat} (hOl2 : isO l2 2) (h : ∀ u1 : uS, u1 = wq u 24 2 l2 → ((isO (u1.2 24 2) 2) ∧ (∀ u4 : uS, u4 = wr u1 (u1.2 24 2) 0 0 → (∀ u6 : uS, u6 = wr u4 (u1.2 24 2) 1 0 → (∀ u8 : uS, u8 = wr u6 24 3 0 → (∀ u10 : uS, u10 = wr u8 24 4 0 → (∀ u12 : uS, u12 = fil u10 25 0 26 (-1) → (∀ u14 : uS, u14 = fil u12 26 0 26 (-1) → (K_28 (d + 1) 40 [.ref 24, .ref 1, .retAddr 0, iV 0] [] u14 Q))))))))) : cI (d + 2) 28 [.ref 24, .ref 1, .ref l2] u Q := by
  refine u_of me_28 (Nat.le_of_ble_eq_true rfl) ?_
  refine u_ld (v := .ref 24) (pc := 0) (dec_at lsk_28 (k := 0) rfl) rfl ?_
  refine u_ld (v := .ref l2) (pc := 1) (dec_at lsk_28 (k := 1) rfl) rfl ?_
  refine u_pR (z := 2) (pc := 2) (dec_at lsk_28 (k := 2) rfl) f_3_21 sx_24 rfl rfl rfl rfl rfl (fun u1 e2 => ?_)
  have h := h u1 e2
  refine u_ld (v := .ref 24) (pc := 5) (dec_at lsk_28 (k := 3) rfl) rfl ?_
  refine u_gR (z := 2) (pc := 6) (dec_at lsk_28 (k := 4) rfl) f_3_21 sx_24 rfl rfl ?_
  have g3 := h.1
  have h := h.2
  refine u_cvV (As := []) (rb := u1.2 24 2) (st2 := []) (pc := 9) (dec_at lsk_28 (k := 5) rfl) m_3_25 (Or.inl rfl) rfl (Nat.le_of_ble_eq_true rfl) g3 me_29 rfl ?_ (fun _ h_ => h_)
  refine u_of me_29 (Nat.le_of_ble_eq_true rfl) ?_
  refine u_ld (v := .ref (u1.2 24 2)) (pc := 0) (dec_at lsk_29 (k := 0) rfl) rfl ?_
  refine u_ld (v := iV 0) (pc := 1) (dec_at lsk_29 (k := 1) rfl) rfl ?_
  refine u_pI (z := 0) (pc := 2) (dec_at lsk_29 (k := 2) rfl) f_2_37 g3 rfl rfl rfl rfl (fun u4 e5 => ?_)
  have h := h u4 e5
  refine u_ld (v := .ref (u1.2 24 2)) (pc := 5) (dec_at lsk_29 (k := 3) rfl) rfl ?_
  refine u_ld (v := iV 0) (pc := 6) (dec_at lsk_29 (k := 4) rfl) rfl ?_
  refine u_pI (z := 1) (pc := 7) (dec_at lsk_29 (k := 5) rfl) f_2_41 g3 rfl rfl rfl rfl (fun u6 e7 => ?_)
  have h := h u6 e7
  refine u_rV (pc := 10) (dec_at lsk_29 (k := 6) rfl) rfl ?_
  refine u_ld (v := .ref 24) (pc := 12) (dec_at lsk_28 (k := 6) rfl) rfl ?_
  refine u_ld (v := iV 0) (pc := 13) (dec_at lsk_28 (k := 7) rfl) rfl ?_
  refine u_pI (z := 3) (pc := 14) (dec_at lsk_28 (k := 8) rfl) f_3_28 sx_24 rfl rfl rfl rfl (fun u8 e9 => ?_)
  have h := h u8 e9
  refine u_ld (v := .ref 24) (pc := 17) (dec_at lsk_28 (k := 9) rfl) rfl ?_
  refine u_ld (v := iV 0) (pc := 18) (dec_at lsk_28 (k := 10) rfl) rfl ?_
  refine u_pZ (z := 4) (pc := 19) (dec_at lsk_28 (k := 11) rfl) f_3_32 sx_24 rfl rfl rfl rfl (by decide) (fun u10 e11 => ?_)
  have h := h u10 e11
  refine u_ld (v := .ref 24) (pc := 22) (dec_at lsk_28 (k := 12) rfl) rfl ?_
  refine u_gS (o := 1) (p := 25) (pc := 23) (dec_at lsk_28 (k := 13) rfl) f_3_9 sx_24 rfl rfl ?_
  refine u_ld (v := iV (-1)) (pc := 26) (dec_at lsk_28 (k := 14) rfl) rfl ?_
  refine u_csV (As := [.ref 25, iV (-1)]) (st2 := []) (pc := 27) (dec_at lsk_28 (k := 15) rfl) m_3_36 (Or.inl rfl) rfl (Nat.le_of_ble_eq_true rfl) (q_30 sx_25) (fun u12 e13 => ?_)
  have h := h u12 e13
  refine u_ld (v := .ref 24) (pc := 30) (dec_at lsk_28 (k := 16) rfl) rfl ?_
  refine u_gS (o := 2) (p := 26) (pc := 31) (dec_at lsk_28 (k := 17) rfl) f_3_15 sx_24 rfl rfl ?_
  refine u_ld (v := iV (-1)) (pc := 34) (dec_at lsk_28 (k := 18) rfl) rfl ?_
  refine u_csV (As := [.ref 26, iV (-1)]) (st2 := []) (pc := 35) (dec_at lsk_28 (k := 19) rfl) m_3_36 (Or.inl rfl) rfl (Nat.le_of_ble_eq_true rfl) (q_30 sx_26) (fun u14 e15 => ?_)
  have h := h u14 e15
  refine u_ld (v := iV 0) (pc := 38) (dec_at lsk_28 (k := 20) rfl) rfl ?_
  refine u_sto (lv' := [.ref 24, .ref 1, .ref l2, iV 0]) (pc := 39) (dec_at lsk_28 (k := 21) rfl) rfl ?_
  exact u_weak (sbK (sbK (sbD (sbK sb0)))) h
theorem k_28_40 {d : Nat} {Q : Int → uS → Prop} {u : uS} {l3 : Int} (h : (rI l3) ∧ ((rI (u.1 1 5)) ∧ (if l3 < u.1 1 5 then ((0 ≤ l3) ∧ ((l3 < 300) ∧ (cI (d + 1) 31 [.ref 24, iV (u.1 3 l3), iV (u.1 4 l3)] u (fun r9 u8 => (rI r9) ∧ (if r9 = 0 then ((rI (u8.1 1 5)) ∧ (if l3 < u8.1 1 5 then (Q (u8.1 4 l3) u8) else (Q (u8.1 1 3) u8))) else (K_28 (d + 1) 40 [.ref 24, .ref 1, .retAddr 0, iV (l3 + 1)] [] u8 Q)))))) else ((rI (u.1 24 3)) ∧ (if u.1 24 3 = 0 then ((isO (u.2 24 2) 2) ∧ ((rI (u.1 (u.2 24 2) 0)) ∧ (if u.1 (u.2 24 2) 0 = 0 then (if u.1 1 5 < u.1 1 5 then ((0 ≤ u.1 1 5) ∧ ((u.1 1 5 < 300) ∧ (Q (u.1 4 (u.1 1 5)) u))) else (Q (u.1 1 3) u)) else (cI (d + 1) 40 [.ref 24] u (fun r23 u22 => (rI r23) ∧ (if r23 = (-1) then (cV (d + 1) 41 [.ref 24] u22 (fun u26 => Q r23 u26)) else (Q r23 u22))))))) else (if u.1 1 5 < u.1 1 5 then ((0 ≤ u.1 1 5) ∧ ((u.1 1 5 < 300) ∧ (Q (u.1 4 (u.1 1 5)) u))) else (Q (u.1 1 3) u))))))) : K_28 (d + 1) 40 [.ref 24, .ref 1, .retAddr 0, iV l3] [] u Q := by
  unfold K_28
  refine u_ld (v := iV l3) (pc := 40) (dec_at lsk_28 (k := 22) rfl) rfl ?_
  refine u_ld (v := .ref 1) (pc := 41) (dec_at lsk_28 (k := 23) rfl) rfl ?_
  refine u_gI (z := 5) (pc := 42) (dec_at lsk_28 (k := 24) rfl) f_3_42 sx_1 rfl rfl ?_
  have g1 := h.1
  have h := h.2
  have g2 := h.1
  have h := h.2
  refine u_icF (pc := 45) (tgt := 77) (dec_at lsk_28 (k := 25) rfl) rfl (ci_ge g1 g2) (fun e3 => ?_) (fun e3 => ?_)
  · have h := ifT e3 h
    refine u_ld (v := .ref 24) (pc := 48) (dec_at lsk_28 (k := 26) rfl) rfl ?_
    refine u_ld (v := .ref 1) (pc := 49) (dec_at lsk_28 (k := 27) rfl) rfl ?_
    refine u_ld (v := iV l3) (pc := 50) (dec_at lsk_28 (k := 28) rfl) rfl ?_
    refine u_cvI (As := [iV l3]) (rb := 1) (st2 := [.ref 24]) (pc := 51) (dec_at lsk_28 (k := 29) rfl) m_3_47 (Or.inl rfl) rfl (Nat.le_of_ble_eq_true rfl) sx_1 me_20 rfl ?_ (fun _ _ h_ => h_)
    refine u_of me_20 (Nat.le_of_ble_eq_true rfl) ?_
    refine u_ld (v := iV l3) (pc := 0) (dec_at lsk_20 (k := 0) rfl) rfl ?_
    refine u_ld (v := .ref 1) (pc := 1) (dec_at lsk_20 (k := 1) rfl) rfl ?_
    refine u_gI (z := 5) (pc := 2) (dec_at lsk_20 (k := 2) rfl) f_1_25 sx_1 rfl rfl ?_
    refine u_icF (pc := 5) (tgt := 17) (dec_at lsk_20 (k := 3) rfl) rfl (ci_ge g1 g2) (fun _ => ?_) (fun e4 => absurd e3 e4)
    refine u_ld (v := .ref 1) (pc := 8) (dec_at lsk_20 (k := 4) rfl) rfl ?_
    refine u_gS (o := 2) (p := 3) (pc := 9) (dec_at lsk_20 (k := 5) rfl) f_1_15 sx_1 rfl rfl ?_
    refine u_ld (v := iV l3) (pc := 12) (dec_at lsk_20 (k := 6) rfl) rfl ?_
    have g5 := h.1
    have h := h.2
    have g6 := h.1
    have h := h.2
    refine u_iald (pc := 13) (dec_at lsk_20 (k := 7) rfl) sx_3 g5 g6 ?_
    refine u_goto (pc := 14) (tgt := 18) (dec_at lsk_20 (k := 8) rfl) rfl ?_
    refine u_rI (pc := 18) (dec_at lsk_20 (k := 10) rfl) rfl ?_
    refine u_ld (v := .ref 1) (pc := 54) (dec_at lsk_28 (k := 30) rfl) rfl ?_
    refine u_ld (v := iV l3) (pc := 55) (dec_at lsk_28 (k := 31) rfl) rfl ?_
    refine u_cvI (As := [iV l3]) (rb := 1) (st2 := [iV (u.1 3 l3), .ref 24]) (pc := 56) (dec_at lsk_28 (k := 32) rfl) m_3_51 (Or.inl rfl) rfl (Nat.le_of_ble_eq_true rfl) sx_1 me_22 rfl ?_ (fun _ _ h_ => h_)
    refine u_of me_22 (Nat.le_of_ble_eq_true rfl) ?_
    refine u_ld (v := iV l3) (pc := 0) (dec_at lsk_22 (k := 0) rfl) rfl ?_
    refine u_ld (v := .ref 1) (pc := 1) (dec_at lsk_22 (k := 1) rfl) rfl ?_
    refine u_gI (z := 5) (pc := 2) (dec_at lsk_22 (k := 2) rfl) f_1_25 sx_1 rfl rfl ?_
    refine u_icF (pc := 5) (tgt := 17) (dec_at lsk_22 (k := 3) rfl) rfl (ci_ge g1 g2) (fun _ => ?_) (fun e7 => absurd e3 e7)
    refine u_ld (v := .ref 1) (pc := 8) (dec_at lsk_22 (k := 4) rfl) rfl ?_
    refine u_gS (o := 3) (p := 4) (pc := 9) (dec_at lsk_22 (k := 5) rfl) f_1_18 sx_1 rfl rfl ?_
    refine u_ld (v := iV l3) (pc := 12) (dec_at lsk_22 (k := 6) rfl) rfl ?_
    refine u_iald (pc := 13) (dec_at lsk_22 (k := 7) rfl) sx_4 g5 g6 ?_
    refine u_goto (pc := 14) (tgt := 21) (dec_at lsk_22 (k := 8) rfl) rfl ?_
    refine u_rI (pc := 21) (dec_at lsk_22 (k := 11) rfl) rfl ?_
    refine u_cvI (As := [iV (u.1 3 l3), iV (u.1 4 l3)]) (rb := 24) (st2 := []) (pc := 59) (dec_at lsk_28 (k := 33) rfl) m_3_54 (Or.inl rfl) rfl (Nat.le_of_ble_eq_true rfl) sx_24 me_31 rfl h (fun r9 u8 h => ?_)
    have g10 := h.1
    have h := h.2
    refine u_ifF (pc := 62) (tgt := 71) (dec_at lsk_28 (k := 34) rfl) rfl (c0_ne g10) (fun e11 => ?_) (fun e11 => ?_)
    · have h := ifT e11 h
      refine u_ld (v := .ref 1) (pc := 65) (dec_at lsk_28 (k := 35) rfl) rfl ?_
      refine u_ld (v := iV l3) (pc := 66) (dec_at lsk_28 (k := 36) rfl) rfl ?_
      refine u_cvI (As := [iV l3]) (rb := 1) (st2 := []) (pc := 67) (dec_at lsk_28 (k := 37) rfl) m_3_51 (Or.inl rfl) rfl (Nat.le_of_ble_eq_true rfl) sx_1 me_22 rfl ?_ (fun _ _ h_ => h_)
      refine u_of me_22 (Nat.le_of_ble_eq_true rfl) ?_
      refine u_ld (v := iV l3) (pc := 0) (dec_at lsk_22 (k := 0) rfl) rfl ?_
      refine u_ld (v := .ref 1) (pc := 1) (dec_at lsk_22 (k := 1) rfl) rfl ?_
      refine u_gI (z := 5) (pc := 2) (dec_at lsk_22 (k := 2) rfl) f_1_25 sx_1 rfl rfl ?_
      have g12 := h.1
      have h := h.2
      refine u_icF (pc := 5) (tgt := 17) (dec_at lsk_22 (k := 3) rfl) rfl (ci_ge g1 g12) (fun e13 => ?_) (fun e13 => ?_)
      · have h := ifT e13 h
        refine u_ld (v := .ref 1) (pc := 8) (dec_at lsk_22 (k := 4) rfl) rfl ?_
        refine u_gS (o := 3) (p := 4) (pc := 9) (dec_at lsk_22 (k := 5) rfl) f_1_18 sx_1 rfl rfl ?_
        refine u_ld (v := iV l3) (pc := 12) (dec_at lsk_22 (k := 6) rfl) rfl ?_
        refine u_iald (pc := 13) (dec_at lsk_22 (k := 7) rfl) sx_4 g5 g6 ?_
        refine u_goto (pc := 14) (tgt := 21) (dec_at lsk_22 (k := 8) rfl) rfl ?_
        refine u_rI (pc := 21) (dec_at lsk_22 (k := 11) rfl) rfl ?_
        exact u_rI (pc := 70) (dec_at lsk_28 (k := 38) rfl) rfl h
      · have h := ifF e13 h
        refine u_ld (v := .ref 1) (pc := 17) (dec_at lsk_22 (k := 9) rfl) rfl ?_
        refine u_gI (z := 3) (pc := 18) (dec_at lsk_22 (k := 10) rfl) f_1_28 sx_1 rfl rfl ?_
        refine u_rI (pc := 21) (dec_at lsk_22 (k := 11) rfl) rfl ?_
        exact u_rI (pc := 70) (dec_at lsk_28 (k := 38) rfl) rfl h
    · have h := ifF e11 h
      refine u_inc (lv' := [.ref 24, .ref 1, .retAddr 0, iV (l3 + 1)]) (pc := 71) (dec_at lsk_28 (k := 39) rfl) rfl (by decide) rfl ?_
      refine u_goto (pc := 74) (tgt := 40) (dec_at lsk_28 (k := 40) rfl) rfl ?_
      exact h
  · have h := ifF e3 h
    refine u_ld (v := .ref 24) (pc := 77) (dec_at lsk_28 (k := 41) rfl) rfl ?_
    refine u_gI (z := 3) (pc := 78) (dec_at lsk_28 (k := 42) rfl) f_3_28 sx_24 rfl rfl ?_
    have g14 := h.1
    have h := h.2
    refine u_ifF (pc := 81) (tgt := 94) (dec_at lsk_28 (k := 43) rfl) rfl (c0_ne g14) (fun e15 => ?_) (fun e15 => ?_)
    · have h := ifT e15 h
      refine u_ld (v := .ref 24) (pc := 84) (dec_at lsk_28 (k := 44) rfl) rfl ?_
      refine u_gR (z := 2) (pc := 85) (dec_at lsk_28 (k := 45) rfl) f_3_21 sx_24 rfl rfl ?_
      have g16 := h.1
      have h := h.2
      refine u_gI (z := 0) (pc := 88) (dec_at lsk_28 (k := 46) rfl) f_3_58 g16 rfl rfl ?_
      have g17 := h.1
      have h := h.2
      refine u_ifF (pc := 91) (tgt := 103) (dec_at lsk_28 (k := 47) rfl) rfl (c0_ne g17) (fun e18 => ?_) (fun e18 => ?_)
      · have h := ifT e18 h
        refine u_ld (v := .ref 1) (pc := 94) (dec_at lsk_28 (k := 48) rfl) rfl ?_
        refine u_ld (v := .ref 1) (pc := 95) (dec_at lsk_28 (k := 49) rfl) rfl ?_
        refine u_gI (z := 5) (pc := 96) (dec_at lsk_28 (k := 50) rfl) f_3_42 sx_1 rfl rfl ?_
        refine u_cvI (As := [iV (u.1 1 5)]) (rb := 1) (st2 := []) (pc := 99) (dec_at lsk_28 (k := 51) rfl) m_3_51 (Or.inl rfl) rfl (Nat.le_of_ble_eq_true rfl) sx_1 me_22 rfl ?_ (fun _ _ h_ => h_)
        refine u_of me_22 (Nat.le_of_ble_eq_true rfl) ?_
        refine u_ld (v := iV (u.1 1 5)) (pc := 0) (dec_at lsk_22 (k := 0) rfl) rfl ?_
        refine u_ld (v := .ref 1) (pc := 1) (dec_at lsk_22 (k := 1) rfl) rfl ?_
        refine u_gI (z := 5) (pc := 2) (dec_at lsk_22 (k := 2) rfl) f_1_25 sx_1 rfl rfl ?_
        refine u_icF (pc := 5) (tgt := 17) (dec_at lsk_22 (k := 3) rfl) rfl (ci_ge g2 g2) (fun e19 => ?_) (fun e19 => ?_)
        · have h := ifT e19 h
          refine u_ld (v := .ref 1) (pc := 8) (dec_at lsk_22 (k := 4) rfl) rfl ?_
          refine u_gS (o := 3) (p := 4) (pc := 9) (dec_at lsk_22 (k := 5) rfl) f_1_18 sx_1 rfl rfl ?_
          refine u_ld (v := iV (u.1 1 5)) (pc := 12) (dec_at lsk_22 (k := 6) rfl) rfl ?_
          have g20 := h.1
          have h := h.2
          have g21 := h.1
          have h := h.2
          refine u_iald (pc := 13) (dec_at lsk_22 (k := 7) rfl) sx_4 g20 g21 ?_
          refine u_goto (pc := 14) (tgt := 21) (dec_at lsk_22 (k := 8) rfl) rfl ?_
          refine u_rI (pc := 21) (dec_at lsk_22 (k := 11) rfl) rfl ?_
          exact u_rI (pc := 102) (dec_at lsk_28 (k := 52) rfl) rfl h
        · have h := ifF e19 h
          refine u_ld (v := .ref 1) (pc := 17) (dec_at lsk_22 (k := 9) rfl) rfl ?_
          refine u_gI (z := 3) (pc := 18) (dec_at lsk_22 (k := 10) rfl) f_1_28 sx_1 rfl rfl ?_
          refine u_rI (pc := 21) (dec_at lsk_22 (k := 11) rfl) rfl ?_
          exact u_rI (pc := 102) (dec_at lsk_28 (k := 52) rfl) rfl h
      · have h := ifF e18 h
        refine u_ld (v := .ref 24) (pc := 103) (dec_at lsk_28 (k := 53) rfl) rfl ?_
        refine u_cvI (As := []) (rb := 24) (st2 := []) (pc := 104) (dec_at lsk_28 (k := 54) rfl) m_3_61 (Or.inl rfl) rfl (Nat.le_of_ble_eq_true rfl) sx_24 me_40 rfl h (fun r23 u22 h => ?_)
        refine u_sto (lv' := [.ref 24, .ref 1, .retAddr 0, iV r23]) (pc := 107) (dec_at lsk_28 (k := 55) rfl) rfl ?_
        refine u_ld (v := iV r23) (pc := 108) (dec_at lsk_28 (k := 56) rfl) rfl ?_
        refine u_ld (v := iV (-1)) (pc := 109) (dec_at lsk_28 (k := 57) rfl) rfl ?_
        have g24 := h.1
        have h := h.2
        refine u_icF (pc := 110) (tgt := 117) (dec_at lsk_28 (k := 58) rfl) rfl (ci_ne g24 (by decide)) (fun e25 => ?_) (fun e25 => ?_)
        · have h := ifT e25 h
          refine u_ld (v := .ref 24) (pc := 113) (dec_at lsk_28 (k := 59) rfl) rfl ?_
          refine u_cvV (As := []) (rb := 24) (st2 := []) (pc := 114) (dec_at lsk_28 (k := 60) rfl) m_3_65 (Or.inl rfl) rfl (Nat.le_of_ble_eq_true rfl) sx_24 me_41 rfl h (fun u26 h => ?_)
          refine u_ld (v := iV r23) (pc := 117) (dec_at lsk_28 (k := 61) rfl) rfl ?_
          exact u_rI (pc := 118) (dec_at lsk_28 (k := 62) rfl) rfl h
        · have h := ifF e25 h
          refine u_ld (v := iV r23) (pc := 117) (dec_at lsk_28 (k := 61) rfl) rfl ?_
          exact u_rI (pc := 118) (dec_at lsk_28 (k := 62) rfl) rfl h
    · have h := ifF e15 h
      refine u_ld (v := .ref 1) (pc := 94) (dec_at lsk_28 (k := 48) rfl) rfl ?_
      refine u_ld (v := .ref 1) (pc := 95) (dec_at lsk_28 (k := 49) rfl) rfl ?_
      refine u_gI (z := 5) (pc := 96) (dec_at lsk_28 (k := 50) rfl) f_3_42 sx_1 rfl rfl ?_
      refine u_cvI (As := [iV (u.1 1 5)]) (rb := 1) (st2 := []) (pc := 99) (dec_at lsk_28 (k := 51) rfl) m_3_51 (Or.inl rfl) rfl (Nat.le_of_ble_eq_true rfl) sx_1 me_22 rfl ?_ (fun _ _ h_ => h_)
      refine u_of me_22 (Nat.le_of_ble_eq_true rfl) ?_
      refine u_ld (v := iV (u.1 1 5)) (pc := 0) (dec_at lsk_22 (k := 0) rfl) rfl ?_
      refine u_ld (v := .ref 1) (pc := 1) (dec_at lsk_22 (k := 1) rfl) rfl ?_
      refine u_gI (z := 5) (pc := 2) (dec_at lsk_22 (k := 2) rfl) f_1_25 sx_1 rfl rfl ?_
      refine u_icF (pc := 5) (tgt := 17) (dec_at lsk_22 (k := 3) rfl) rfl (ci_ge g2 g2) (fun e27 => ?_) (fun e27 => ?_)
      · have h := ifT e27 h
        refine u_ld (v := .ref 1) (pc := 8) (dec_at lsk_22 (k := 4) rfl) rfl ?_
        refine u_gS (o := 3) (p := 4) (pc := 9) (dec_at lsk_22 (k := 5) rfl) f_1_18 sx_1 rfl rfl ?_
        refine u_ld (v := iV (u.1 1 5)) (pc := 12) (dec_at lsk_22 (k := 6) rfl) rfl ?_
        have g28 := h.1
        have h := h.2
        have g29 := h.1
        have h := h.2
        refine u_iald (pc := 13) (dec_at lsk_22 (k := 7) rfl) sx_4 g28 g29 ?_
        refine u_goto (pc := 14) (tgt := 21) (dec_at lsk_22 (k := 8) rfl) rfl ?_
        refine u_rI (pc := 21) (dec_at lsk_22 (k := 11) rfl) rfl ?_
        exact u_rI (pc := 102) (dec_at lsk_28 (k := 52) rfl) rfl h
      · have h := ifF e27 h
        refine u_ld (v := .ref 1) (pc := 17) (dec_at lsk_22 (k := 9) rfl) rfl ?_
        refine u_gI (z := 3) (pc := 18) (dec_at lsk_22 (k := 10) rfl) f_1_28 sx_1 rfl rfl ?_
        refine u_rI (pc := 21) (dec_at lsk_22 (k := 11) rfl) rfl ?_
        exact u_rI (pc := 102) (dec_at lsk_28 (k := 52) rfl) rfl h
/-- method 31 -/
def K_31 (d pc : Nat) (lv : ev_L) (st : List Value) (u : uS) (Q : Int → uS → Prop) : Prop := okU d 3 3 false (some .boolean) prog_4_method_3_code (qI Q) pc lv st u
theorem e_31 {d : Nat} {Q : Int → uS → Prop} {u : uS} {l1 l2 : Int} (h : (rI (u.1 24 3)) ∧ (if u.1 24 3 = 0 then (cI d 32 [.ref 24, iV l1] u (fun r4 u3 => (r4 = 0 ∨ r4 = 1) ∧ (Q r4 u3))) else (if u.1 24 3 = 1 then (∀ u7 : uS, u7 = wr u 24 3 2 → (∀ u9 : uS, u9 = wr u7 24 4 0 → ((rI l1) ∧ (if l1 = 61 then (Q 1 u9) else (Q 0 u9))))) else (cI d 35 [.ref 24, iV l1, iV l2] u (fun r14 u13 => (r14 = 0 ∨ r14 = 1) ∧ (Q r14 u13)))))) : cI (d + 1) 31 [.ref 24, iV l1, iV l2] u Q := by
  refine u_of me_31 (Nat.le_of_ble_eq_true rfl) ?_
  refine u_ld (v := .ref 24) (pc := 0) (dec_at lsk_31 (k := 0) rfl) rfl ?_
  refine u_gI (z := 3) (pc := 1) (dec_at lsk_31 (k := 1) rfl) f_3_28 sx_24 rfl rfl ?_
  have g1 := h.1
  have h := h.2
  by_cases e2 : u.1 24 3 = 0
  · have h := ifT e2 h
    refine u_lsw (pc := 4) (tgt := 32) (o := 28) (dec_at lsk_31 (k := 2) rfl) rfl rfl g1 (by rw [lo_eq e2]) rfl ?_
    refine u_ld (v := .ref 24) (pc := 32) (dec_at lsk_31 (k := 3) rfl) rfl ?_
    refine u_ld (v := iV l1) (pc := 33) (dec_at lsk_31 (k := 4) rfl) rfl ?_
    refine u_cvI (As := [iV l1]) (rb := 24) (st2 := []) (pc := 34) (dec_at lsk_31 (k := 5) rfl) m_3_68 (Or.inl rfl) rfl (Nat.le_of_ble_eq_true rfl) sx_24 me_32 rfl h (fun r4 u3 h => ?_)
    have g5 := h.1
    have h := h.2
    exact u_rZ (pc := 37) (dec_at lsk_31 (k := 6) rfl) rfl g5 h
  · have h := ifF e2 h
    by_cases e6 : u.1 24 3 = 1
    · have h := ifT e6 h
      refine u_lsw (pc := 4) (tgt := 38) (o := 34) (dec_at lsk_31 (k := 2) rfl) rfl rfl g1 (by rw [lo_ne e2, lo_eq e6]) rfl ?_
      refine u_ld (v := .ref 24) (pc := 38) (dec_at lsk_31 (k := 7) rfl) rfl ?_
      refine u_ld (v := iV 2) (pc := 39) (dec_at lsk_31 (k := 8) rfl) rfl ?_
      refine u_pI (z := 3) (pc := 40) (dec_at lsk_31 (k := 9) rfl) f_3_28 sx_24 rfl rfl rfl rfl (fun u7 e8 => ?_)
      have h := h u7 e8
      refine u_ld (v := .ref 24) (pc := 43) (dec_at lsk_31 (k := 10) rfl) rfl ?_
      refine u_ld (v := iV 0) (pc := 44) (dec_at lsk_31 (k := 11) rfl) rfl ?_
      refine u_pZ (z := 4) (pc := 45) (dec_at lsk_31 (k := 12) rfl) f_3_32 sx_24 rfl rfl rfl rfl (by decide) (fun u9 e10 => ?_)
      have h := h u9 e10
      refine u_ld (v := iV l1) (pc := 48) (dec_at lsk_31 (k := 13) rfl) rfl ?_
      refine u_c (x := 61) (pc := 49) (dec_at lsk_31 (k := 14) rfl) rfl (by decide) ?_
      have g11 := h.1
      have h := h.2
      refine u_icF (pc := 51) (tgt := 58) (dec_at lsk_31 (k := 15) rfl) rfl (ci_ne g11 (by decide)) (fun e12 => ?_) (fun e12 => ?_)
      · have h := ifT e12 h
        refine u_ld (v := iV 1) (pc := 54) (dec_at lsk_31 (k := 16) rfl) rfl ?_
        refine u_goto (pc := 55) (tgt := 59) (dec_at lsk_31 (k := 17) rfl) rfl ?_
        exact u_rZ (pc := 59) (dec_at lsk_31 (k := 19) rfl) rfl (by decide) h
      · have h := ifF e12 h
        refine u_ld (v := iV 0) (pc := 58) (dec_at lsk_31 (k := 18) rfl) rfl ?_
        exact u_rZ (pc := 59) (dec_at lsk_31 (k := 19) rfl) rfl (by decide) h
    · have h := ifF e6 h
      refine u_lsw (pc := 4) (tgt := 60) (o := 56) (dec_at lsk_31 (k := 2) rfl) rfl rfl g1 (by rw [lo_ne e2, lo_ne e6]; rfl) rfl ?_
      refine u_ld (v := .ref 24) (pc := 60) (dec_at lsk_31 (k := 20) rfl) rfl ?_
      refine u_ld (v := iV l1) (pc := 61) (dec_at lsk_31 (k := 21) rfl) rfl ?_
      refine u_ld (v := iV l2) (pc := 62) (dec_at lsk_31 (k := 22) rfl) rfl ?_
      refine u_cvI (As := [iV l1, iV l2]) (rb := 24) (st2 := []) (pc := 63) (dec_at lsk_31 (k := 23) rfl) m_3_72 (Or.inl rfl) rfl (Nat.le_of_ble_eq_true rfl) sx_24 me_35 rfl h (fun r14 u13 h => ?_)
      have g15 := h.1
      have h := h.2
      exact u_rZ (pc := 66) (dec_at lsk_31 (k := 24) rfl) rfl g15 h
/-- method 32 -/
def K_32 (d pc : Nat) (lv : ev_L) (st : List Value) (u : uS) (Q : Int → uS → Prop) : Prop := okU d 3 2 false (some .boolean) prog_4_method_4_code (qI Q) pc lv st u
theorem e_32 {d : Nat} {Q : Int → uS → Prop} {u : uS} {l1 : Int} (h : (rI l1) ∧ (if l1 < 65 then (Q 0 u) else (if 90 < l1 then (Q 0 u) else ((0 ≤ l1 - 65) ∧ ((l1 - 65 < 26) ∧ ((rI (u.1 25 (l1 - 65))) ∧ (if u.1 25 (l1 - 65) = (-1) then ((isO (u.2 24 2) 2) ∧ ((rI (u.1 (u.2 24 2) 0)) ∧ (if u.1 (u.2 24 2) 0 < 10 then (∀ u11 : uS, u11 = wr u 25 (l1 - 65) (u.1 (u.2 24 2) 0) → ((isO (u11.2 24 2) 2) ∧ ((0 ≤ u11.1 (u11.2 24 2) 0) ∧ ((u11.1 (u11.2 24 2) 0 < 10) ∧ (∀ u16 : uS, u16 = wr u11 ((u11.2 24 2) + 1) (u11.1 (u11.2 24 2) 0) l1 → (∀ u18 : uS, u18 = wr u16 (u11.2 24 2) 0 ((u16.1 (u11.2 24 2) 0) + 1) → (∀ u20 : uS, u20 = wr u18 24 3 1 → (Q 1 u20)))))))) else (Q 0 u)))) else (Q 0 u)))))))) : cI (d + 2) 32 [.ref 24, iV l1] u Q := by
  refine u_of me_32 (Nat.le_of_ble_eq_true rfl) ?_
  refine u_ld (v := iV l1) (pc := 0) (dec_at lsk_32 (k := 0) rfl) rfl ?_
  refine u_csI (As := [iV l1]) (st2 := []) (pc := 1) (dec_at lsk_32 (k := 1) rfl) m_3_75 (Or.inr rfl) rfl (Nat.le_of_ble_eq_true rfl) ?_ (fun _ _ h_ => h_)
  refine u_of me_33 (Nat.le_of_ble_eq_true rfl) ?_
  refine u_ld (v := iV l1) (pc := 0) (dec_at lsk_33 (k := 0) rfl) rfl ?_
  refine u_c (x := 65) (pc := 1) (dec_at lsk_33 (k := 1) rfl) rfl (by decide) ?_
  have g1 := h.1
  have h := h.2
  refine u_icT (pc := 3) (tgt := 16) (dec_at lsk_33 (k := 2) rfl) rfl (ci_lt g1 (by decide)) (fun e2 => ?_) (fun e2 => ?_)
  · have h := ifT e2 h
    refine u_ld (v := iV 0) (pc := 16) (dec_at lsk_33 (k := 8) rfl) rfl ?_
    refine u_rZ (pc := 17) (dec_at lsk_33 (k := 9) rfl) rfl (by decide) ?_
    refine u_ifT (pc := 4) (tgt := 32) (dec_at lsk_32 (k := 2) rfl) rfl (c0_eq (by decide)) (fun _ => ?_) (fun e => absurd e (by decide))
    refine u_ld (v := iV 0) (pc := 32) (dec_at lsk_32 (k := 16) rfl) rfl ?_
    exact u_rZ (pc := 33) (dec_at lsk_32 (k := 17) rfl) rfl (by decide) h
  · have h := ifF e2 h
    refine u_ld (v := iV l1) (pc := 6) (dec_at lsk_33 (k := 3) rfl) rfl ?_
    refine u_c (x := 90) (pc := 7) (dec_at lsk_33 (k := 4) rfl) rfl (by decide) ?_
    refine u_icT (pc := 9) (tgt := 16) (dec_at lsk_33 (k := 5) rfl) rfl (ci_gt g1 (by decide)) (fun e3 => ?_) (fun e3 => ?_)
    · have h := ifT e3 h
      refine u_ld (v := iV 0) (pc := 16) (dec_at lsk_33 (k := 8) rfl) rfl ?_
      refine u_rZ (pc := 17) (dec_at lsk_33 (k := 9) rfl) rfl (by decide) ?_
      refine u_ifT (pc := 4) (tgt := 32) (dec_at lsk_32 (k := 2) rfl) rfl (c0_eq (by decide)) (fun _ => ?_) (fun e => absurd e (by decide))
      refine u_ld (v := iV 0) (pc := 32) (dec_at lsk_32 (k := 16) rfl) rfl ?_
      exact u_rZ (pc := 33) (dec_at lsk_32 (k := 17) rfl) rfl (by decide) h
    · have h := ifF e3 h
      refine u_ld (v := iV 1) (pc := 12) (dec_at lsk_33 (k := 6) rfl) rfl ?_
      refine u_goto (pc := 13) (tgt := 17) (dec_at lsk_33 (k := 7) rfl) rfl ?_
      refine u_rZ (pc := 17) (dec_at lsk_33 (k := 9) rfl) rfl (by decide) ?_
      refine u_ifT (pc := 4) (tgt := 32) (dec_at lsk_32 (k := 2) rfl) rfl (c0_eq (by decide)) (fun e => absurd e (by decide)) (fun _ => ?_)
      refine u_ld (v := .ref 24) (pc := 7) (dec_at lsk_32 (k := 3) rfl) rfl ?_
      refine u_gS (o := 1) (p := 25) (pc := 8) (dec_at lsk_32 (k := 4) rfl) f_3_9 sx_24 rfl rfl ?_
      refine u_ld (v := iV l1) (pc := 11) (dec_at lsk_32 (k := 5) rfl) rfl ?_
      refine u_c (x := 65) (pc := 12) (dec_at lsk_32 (k := 6) rfl) rfl (by decide) ?_
      refine u_isub (pc := 14) (dec_at lsk_32 (k := 7) rfl) ?_
      have g4 := h.1
      have h := h.2
      have g5 := h.1
      have h := h.2
      refine u_iald (pc := 15) (dec_at lsk_32 (k := 8) rfl) sx_25 g4 g5 ?_
      refine u_ld (v := iV (-1)) (pc := 16) (dec_at lsk_32 (k := 9) rfl) rfl ?_
      have g6 := h.1
      have h := h.2
      refine u_icF (pc := 17) (tgt := 32) (dec_at lsk_32 (k := 10) rfl) rfl (ci_ne g6 (by decide)) (fun e7 => ?_) (fun e7 => ?_)
      · have h := ifT e7 h
        refine u_ld (v := .ref 24) (pc := 20) (dec_at lsk_32 (k := 11) rfl) rfl ?_
        refine u_gR (z := 2) (pc := 21) (dec_at lsk_32 (k := 12) rfl) f_3_21 sx_24 rfl rfl ?_
        have g8 := h.1
        have h := h.2
        refine u_gI (z := 0) (pc := 24) (dec_at lsk_32 (k := 13) rfl) f_3_58 g8 rfl rfl ?_
        refine u_c (x := 10) (pc := 27) (dec_at lsk_32 (k := 14) rfl) rfl (by decide) ?_
        have g9 := h.1
        have h := h.2
        refine u_icT (pc := 29) (tgt := 34) (dec_at lsk_32 (k := 15) rfl) rfl (ci_lt g9 (by decide)) (fun e10 => ?_) (fun e10 => ?_)
        · have h := ifT e10 h
          refine u_ld (v := .ref 24) (pc := 34) (dec_at lsk_32 (k := 18) rfl) rfl ?_
          refine u_gS (o := 1) (p := 25) (pc := 35) (dec_at lsk_32 (k := 19) rfl) f_3_9 sx_24 rfl rfl ?_
          refine u_ld (v := iV l1) (pc := 38) (dec_at lsk_32 (k := 20) rfl) rfl ?_
          refine u_c (x := 65) (pc := 39) (dec_at lsk_32 (k := 21) rfl) rfl (by decide) ?_
          refine u_isub (pc := 41) (dec_at lsk_32 (k := 22) rfl) ?_
          refine u_ld (v := .ref 24) (pc := 42) (dec_at lsk_32 (k := 23) rfl) rfl ?_
          refine u_gR (z := 2) (pc := 43) (dec_at lsk_32 (k := 24) rfl) f_3_21 sx_24 rfl rfl ?_
          refine u_gI (z := 0) (pc := 46) (dec_at lsk_32 (k := 25) rfl) f_3_58 g8 rfl rfl ?_
          refine u_iast (pc := 49) (dec_at lsk_32 (k := 26) rfl) sx_25 g4 g5 (fun u11 e12 => ?_)
          have h := h u11 e12
          refine u_ld (v := .ref 24) (pc := 50) (dec_at lsk_32 (k := 27) rfl) rfl ?_
          refine u_gR (z := 2) (pc := 51) (dec_at lsk_32 (k := 28) rfl) f_3_21 sx_24 rfl rfl ?_
          refine u_ld (v := iV l1) (pc := 54) (dec_at lsk_32 (k := 29) rfl) rfl ?_
          have g13 := h.1
          have h := h.2
          refine u_cvV (As := [iV l1]) (rb := u11.2 24 2) (st2 := []) (pc := 55) (dec_at lsk_32 (k := 30) rfl) m_3_78 (Or.inl rfl) rfl (Nat.le_of_ble_eq_true rfl) g13 me_34 rfl ?_ (fun _ h_ => h_)
          refine u_of me_34 (Nat.le_of_ble_eq_true rfl) ?_
          refine u_ld (v := .ref (u11.2 24 2)) (pc := 0) (dec_at lsk_34 (k := 0) rfl) rfl ?_
          refine u_gS (o := 1) (p := (u11.2 24 2) + 1) (pc := 1) (dec_at lsk_34 (k := 1) rfl) f_2_9 g13 rfl rfl ?_
          refine u_ld (v := .ref (u11.2 24 2)) (pc := 4) (dec_at lsk_34 (k := 2) rfl) rfl ?_
          refine u_gI (z := 0) (pc := 5) (dec_at lsk_34 (k := 3) rfl) f_2_37 g13 rfl rfl ?_
          refine u_ld (v := iV l1) (pc := 8) (dec_at lsk_34 (k := 4) rfl) rfl ?_
          have g14 := h.1
          have h := h.2
          have g15 := h.1
          have h := h.2
          refine u_iast (pc := 9) (dec_at lsk_34 (k := 5) rfl) (sa_2_2 g13) g14 g15 (fun u16 e17 => ?_)
          have h := h u16 e17
          refine u_ld (v := .ref (u11.2 24 2)) (pc := 10) (dec_at lsk_34 (k := 6) rfl) rfl ?_
          refine u_ld (v := .ref (u11.2 24 2)) (pc := 11) (dec_at lsk_34 (k := 7) rfl) rfl ?_
          refine u_gI (z := 0) (pc := 12) (dec_at lsk_34 (k := 8) rfl) f_2_37 g13 rfl rfl ?_
          refine u_ld (v := iV 1) (pc := 15) (dec_at lsk_34 (k := 9) rfl) rfl ?_
          refine u_iadd (pc := 16) (dec_at lsk_34 (k := 10) rfl) ?_
          refine u_pI (z := 0) (pc := 17) (dec_at lsk_34 (k := 11) rfl) f_2_37 g13 rfl rfl rfl rfl (fun u18 e19 => ?_)
          have h := h u18 e19
          refine u_rV (pc := 20) (dec_at lsk_34 (k := 12) rfl) rfl ?_
          refine u_ld (v := .ref 24) (pc := 58) (dec_at lsk_32 (k := 31) rfl) rfl ?_
          refine u_ld (v := iV 1) (pc := 59) (dec_at lsk_32 (k := 32) rfl) rfl ?_
          refine u_pI (z := 3) (pc := 60) (dec_at lsk_32 (k := 33) rfl) f_3_28 sx_24 rfl rfl rfl rfl (fun u20 e21 => ?_)
          have h := h u20 e21
          refine u_ld (v := iV 1) (pc := 63) (dec_at lsk_32 (k := 34) rfl) rfl ?_
          exact u_rZ (pc := 64) (dec_at lsk_32 (k := 35) rfl) rfl (by decide) h
        · have h := ifF e10 h
          refine u_ld (v := iV 0) (pc := 32) (dec_at lsk_32 (k := 16) rfl) rfl ?_
          exact u_rZ (pc := 33) (dec_at lsk_32 (k := 17) rfl) rfl (by decide) h
      · have h := ifF e7 h
        refine u_ld (v := iV 0) (pc := 32) (dec_at lsk_32 (k := 16) rfl) rfl ?_
        exact u_rZ (pc := 33) (dec_at lsk_32 (k := 17) rfl) rfl (by decide) h
/-- method 35 -/
def K_35 (d pc : Nat) (lv : ev_L) (st : List Value) (u : uS) (Q : Int → uS → Prop) : Prop := okU d 3 3 false (some .boolean) prog_4_method_5_code (qI Q) pc lv st u
theorem e_35 {d : Nat} {Q : Int → uS → Prop} {u : uS} {l1 l2 : Int} (h : (rI (u.1 24 4)) ∧ (if u.1 24 4 = 0 then ((isO (u.2 24 2) 2) ∧ ((rI (u.1 (u.2 24 2) 1)) ∧ (if u.1 (u.2 24 2) 1 < 30 then ((0 ≤ u.1 (u.2 24 2) 1) ∧ (∀ u7 : uS, u7 = wr u ((u.2 24 2) + 2) (u.1 (u.2 24 2) 1) ((u.1 (u.2 24 2) 0) - 1) → ((0 ≤ u7.1 (u.2 24 2) 1) ∧ ((u7.1 (u.2 24 2) 1 < 30) ∧ (∀ u11 : uS, u11 = wr u7 ((u.2 24 2) + 3) (u7.1 (u.2 24 2) 1) 0 → (∀ u13 : uS, u13 = wr u11 (u.2 24 2) 1 ((u11.1 (u.2 24 2) 1) + 1) → (∀ u15 : uS, u15 = wr u13 24 4 1 → ((rI l1) ∧ (if l1 = 124 then (∀ u19 : uS, u19 = wr u15 24 4 0 → (Q 1 u19)) else (if l1 = 59 then (∀ u22 : uS, u22 = wr u15 24 3 0 → (Q 1 u22)) else (cI (d + 1) 37 [.ref 24, iV l1, iV l2] u15 (fun r25 u24 => (r25 = 0 ∨ r25 = 1) ∧ (Q r25 u24))))))))))))) else (Q 0 u)))) else ((rI l1) ∧ (if l1 = 124 then (∀ u29 : uS, u29 = wr u 24 4 0 → (Q 1 u29)) else (if l1 = 59 then (∀ u32 : uS, u32 = wr u 24 3 0 → (Q 1 u32)) else (cI (d + 1) 37 [.ref 24, iV l1, iV l2] u (fun r35 u34 => (r35 = 0 ∨ r35 = 1) ∧ (Q r35 u34)))))))) : cI (d + 2) 35 [.ref 24, iV l1, iV l2] u Q := by
  refine u_of me_35 (Nat.le_of_ble_eq_true rfl) ?_
  refine u_ld (v := .ref 24) (pc := 0) (dec_at lsk_35 (k := 0) rfl) rfl ?_
  refine u_gZ (z := 4) (pc := 1) (dec_at lsk_35 (k := 1) rfl) f_3_32 sx_24 rfl rfl ?_
  have g1 := h.1
  have h := h.2
  refine u_ifF (pc := 4) (tgt := 33) (dec_at lsk_35 (k := 2) rfl) rfl (c0_ne g1) (fun e2 => ?_) (fun e2 => ?_)
  · have h := ifT e2 h
    refine u_ld (v := .ref 24) (pc := 7) (dec_at lsk_35 (k := 3) rfl) rfl ?_
    refine u_gR (z := 2) (pc := 8) (dec_at lsk_35 (k := 4) rfl) f_3_21 sx_24 rfl rfl ?_
    have g3 := h.1
    have h := h.2
    refine u_gI (z := 1) (pc := 11) (dec_at lsk_35 (k := 5) rfl) f_3_82 g3 rfl rfl ?_
    refine u_c (x := 30) (pc := 14) (dec_at lsk_35 (k := 6) rfl) rfl (by decide) ?_
    have g4 := h.1
    have h := h.2
    refine u_icT (pc := 16) (tgt := 21) (dec_at lsk_35 (k := 7) rfl) rfl (ci_lt g4 (by decide)) (fun e5 => ?_) (fun e5 => ?_)
    · have h := ifT e5 h
      refine u_ld (v := .ref 24) (pc := 21) (dec_at lsk_35 (k := 10) rfl) rfl ?_
      refine u_gR (z := 2) (pc := 22) (dec_at lsk_35 (k := 11) rfl) f_3_21 sx_24 rfl rfl ?_
      refine u_cvV (As := []) (rb := u.2 24 2) (st2 := []) (pc := 25) (dec_at lsk_35 (k := 12) rfl) m_3_85 (Or.inl rfl) rfl (Nat.le_of_ble_eq_true rfl) g3 me_36 rfl ?_ (fun _ h_ => h_)
      refine u_of me_36 (Nat.le_of_ble_eq_true rfl) ?_
      refine u_ld (v := .ref (u.2 24 2)) (pc := 0) (dec_at lsk_36 (k := 0) rfl) rfl ?_
      refine u_gS (o := 2) (p := (u.2 24 2) + 2) (pc := 1) (dec_at lsk_36 (k := 1) rfl) f_2_15 g3 rfl rfl ?_
      refine u_ld (v := .ref (u.2 24 2)) (pc := 4) (dec_at lsk_36 (k := 2) rfl) rfl ?_
      refine u_gI (z := 1) (pc := 5) (dec_at lsk_36 (k := 3) rfl) f_2_41 g3 rfl rfl ?_
      refine u_ld (v := .ref (u.2 24 2)) (pc := 8) (dec_at lsk_36 (k := 4) rfl) rfl ?_
      refine u_gI (z := 0) (pc := 9) (dec_at lsk_36 (k := 5) rfl) f_2_37 g3 rfl rfl ?_
      refine u_ld (v := iV 1) (pc := 12) (dec_at lsk_36 (k := 6) rfl) rfl ?_
      refine u_isub (pc := 13) (dec_at lsk_36 (k := 7) rfl) ?_
      have g6 := h.1
      have h := h.2
      refine u_iast (pc := 14) (dec_at lsk_36 (k := 8) rfl) (sa_2_3 g3) g6 e5 (fun u7 e8 => ?_)
      have h := h u7 e8
      refine u_ld (v := .ref (u.2 24 2)) (pc := 15) (dec_at lsk_36 (k := 9) rfl) rfl ?_
      refine u_gS (o := 3) (p := (u.2 24 2) + 3) (pc := 16) (dec_at lsk_36 (k := 10) rfl) f_2_18 g3 rfl rfl ?_
      refine u_ld (v := .ref (u.2 24 2)) (pc := 19) (dec_at lsk_36 (k := 11) rfl) rfl ?_
      refine u_gI (z := 1) (pc := 20) (dec_at lsk_36 (k := 12) rfl) f_2_41 g3 rfl rfl ?_
      refine u_ld (v := iV 0) (pc := 23) (dec_at lsk_36 (k := 13) rfl) rfl ?_
      have g9 := h.1
      have h := h.2
      have g10 := h.1
      have h := h.2
      refine u_iast (pc := 24) (dec_at lsk_36 (k := 14) rfl) (sa_2_4 g3) g9 g10 (fun u11 e12 => ?_)
      have h := h u11 e12
      refine u_ld (v := .ref (u.2 24 2)) (pc := 25) (dec_at lsk_36 (k := 15) rfl) rfl ?_
      refine u_ld (v := .ref (u.2 24 2)) (pc := 26) (dec_at lsk_36 (k := 16) rfl) rfl ?_
      refine u_gI (z := 1) (pc := 27) (dec_at lsk_36 (k := 17) rfl) f_2_41 g3 rfl rfl ?_
      refine u_ld (v := iV 1) (pc := 30) (dec_at lsk_36 (k := 18) rfl) rfl ?_
      refine u_iadd (pc := 31) (dec_at lsk_36 (k := 19) rfl) ?_
      refine u_pI (z := 1) (pc := 32) (dec_at lsk_36 (k := 20) rfl) f_2_41 g3 rfl rfl rfl rfl (fun u13 e14 => ?_)
      have h := h u13 e14
      refine u_rV (pc := 35) (dec_at lsk_36 (k := 21) rfl) rfl ?_
      refine u_ld (v := .ref 24) (pc := 28) (dec_at lsk_35 (k := 13) rfl) rfl ?_
      refine u_ld (v := iV 1) (pc := 29) (dec_at lsk_35 (k := 14) rfl) rfl ?_
      refine u_pZ (z := 4) (pc := 30) (dec_at lsk_35 (k := 15) rfl) f_3_32 sx_24 rfl rfl rfl rfl (by decide) (fun u15 e16 => ?_)
      have h := h u15 e16
      refine u_ld (v := iV l1) (pc := 33) (dec_at lsk_35 (k := 16) rfl) rfl ?_
      refine u_c (x := 124) (pc := 34) (dec_at lsk_35 (k := 17) rfl) rfl (by decide) ?_
      have g17 := h.1
      have h := h.2
      refine u_icF (pc := 36) (tgt := 46) (dec_at lsk_35 (k := 18) rfl) rfl (ci_ne g17 (by decide)) (fun e18 => ?_) (fun e18 => ?_)
      · have h := ifT e18 h
        refine u_ld (v := .ref 24) (pc := 39) (dec_at lsk_35 (k := 19) rfl) rfl ?_
        refine u_ld (v := iV 0) (pc := 40) (dec_at lsk_35 (k := 20) rfl) rfl ?_
        refine u_pZ (z := 4) (pc := 41) (dec_at lsk_35 (k := 21) rfl) f_3_32 sx_24 rfl rfl rfl rfl (by decide) (fun u19 e20 => ?_)
        have h := h u19 e20
        refine u_ld (v := iV 1) (pc := 44) (dec_at lsk_35 (k := 22) rfl) rfl ?_
        exact u_rZ (pc := 45) (dec_at lsk_35 (k := 23) rfl) rfl (by decide) h
      · have h := ifF e18 h
        refine u_ld (v := iV l1) (pc := 46) (dec_at lsk_35 (k := 24) rfl) rfl ?_
        refine u_c (x := 59) (pc := 47) (dec_at lsk_35 (k := 25) rfl) rfl (by decide) ?_
        refine u_icF (pc := 49) (tgt := 59) (dec_at lsk_35 (k := 26) rfl) rfl (ci_ne g17 (by decide)) (fun e21 => ?_) (fun e21 => ?_)
        · have h := ifT e21 h
          refine u_ld (v := .ref 24) (pc := 52) (dec_at lsk_35 (k := 27) rfl) rfl ?_
          refine u_ld (v := iV 0) (pc := 53) (dec_at lsk_35 (k := 28) rfl) rfl ?_
          refine u_pI (z := 3) (pc := 54) (dec_at lsk_35 (k := 29) rfl) f_3_28 sx_24 rfl rfl rfl rfl (fun u22 e23 => ?_)
          have h := h u22 e23
          refine u_ld (v := iV 1) (pc := 57) (dec_at lsk_35 (k := 30) rfl) rfl ?_
          exact u_rZ (pc := 58) (dec_at lsk_35 (k := 31) rfl) rfl (by decide) h
        · have h := ifF e21 h
          refine u_ld (v := .ref 24) (pc := 59) (dec_at lsk_35 (k := 32) rfl) rfl ?_
          refine u_ld (v := iV l1) (pc := 60) (dec_at lsk_35 (k := 33) rfl) rfl ?_
          refine u_ld (v := iV l2) (pc := 61) (dec_at lsk_35 (k := 34) rfl) rfl ?_
          refine u_cvI (As := [iV l1, iV l2]) (rb := 24) (st2 := []) (pc := 62) (dec_at lsk_35 (k := 35) rfl) m_3_88 (Or.inl rfl) rfl (Nat.le_of_ble_eq_true rfl) sx_24 me_37 rfl h (fun r25 u24 h => ?_)
          have g26 := h.1
          have h := h.2
          exact u_rZ (pc := 65) (dec_at lsk_35 (k := 36) rfl) rfl g26 h
    · have h := ifF e5 h
      refine u_ld (v := iV 0) (pc := 19) (dec_at lsk_35 (k := 8) rfl) rfl ?_
      exact u_rZ (pc := 20) (dec_at lsk_35 (k := 9) rfl) rfl (by decide) h
  · have h := ifF e2 h
    refine u_ld (v := iV l1) (pc := 33) (dec_at lsk_35 (k := 16) rfl) rfl ?_
    refine u_c (x := 124) (pc := 34) (dec_at lsk_35 (k := 17) rfl) rfl (by decide) ?_
    have g27 := h.1
    have h := h.2
    refine u_icF (pc := 36) (tgt := 46) (dec_at lsk_35 (k := 18) rfl) rfl (ci_ne g27 (by decide)) (fun e28 => ?_) (fun e28 => ?_)
    · have h := ifT e28 h
      refine u_ld (v := .ref 24) (pc := 39) (dec_at lsk_35 (k := 19) rfl) rfl ?_
      refine u_ld (v := iV 0) (pc := 40) (dec_at lsk_35 (k := 20) rfl) rfl ?_
      refine u_pZ (z := 4) (pc := 41) (dec_at lsk_35 (k := 21) rfl) f_3_32 sx_24 rfl rfl rfl rfl (by decide) (fun u29 e30 => ?_)
      have h := h u29 e30
      refine u_ld (v := iV 1) (pc := 44) (dec_at lsk_35 (k := 22) rfl) rfl ?_
      exact u_rZ (pc := 45) (dec_at lsk_35 (k := 23) rfl) rfl (by decide) h
    · have h := ifF e28 h
      refine u_ld (v := iV l1) (pc := 46) (dec_at lsk_35 (k := 24) rfl) rfl ?_
      refine u_c (x := 59) (pc := 47) (dec_at lsk_35 (k := 25) rfl) rfl (by decide) ?_
      refine u_icF (pc := 49) (tgt := 59) (dec_at lsk_35 (k := 26) rfl) rfl (ci_ne g27 (by decide)) (fun e31 => ?_) (fun e31 => ?_)
      · have h := ifT e31 h
        refine u_ld (v := .ref 24) (pc := 52) (dec_at lsk_35 (k := 27) rfl) rfl ?_
        refine u_ld (v := iV 0) (pc := 53) (dec_at lsk_35 (k := 28) rfl) rfl ?_
        refine u_pI (z := 3) (pc := 54) (dec_at lsk_35 (k := 29) rfl) f_3_28 sx_24 rfl rfl rfl rfl (fun u32 e33 => ?_)
        have h := h u32 e33
        refine u_ld (v := iV 1) (pc := 57) (dec_at lsk_35 (k := 30) rfl) rfl ?_
        exact u_rZ (pc := 58) (dec_at lsk_35 (k := 31) rfl) rfl (by decide) h
      · have h := ifF e31 h
        refine u_ld (v := .ref 24) (pc := 59) (dec_at lsk_35 (k := 32) rfl) rfl ?_
        refine u_ld (v := iV l1) (pc := 60) (dec_at lsk_35 (k := 33) rfl) rfl ?_
        refine u_ld (v := iV l2) (pc := 61) (dec_at lsk_35 (k := 34) rfl) rfl ?_
        refine u_cvI (As := [iV l1, iV l2]) (rb := 24) (st2 := []) (pc := 62) (dec_at lsk_35 (k := 35) rfl) m_3_88 (Or.inl rfl) rfl (Nat.le_of_ble_eq_true rfl) sx_24 me_37 rfl h (fun r35 u34 h => ?_)
        have g36 := h.1
        have h := h.2
        exact u_rZ (pc := 65) (dec_at lsk_35 (k := 36) rfl) rfl g36 h
/-- method 37 -/
def K_37 (d pc : Nat) (lv : ev_L) (st : List Value) (u : uS) (Q : Int → uS → Prop) : Prop := okU d 3 4 false (some .boolean) prog_4_method_6_code (qI Q) pc lv st u
theorem e_37 {d : Nat} {Q : Int → uS → Prop} {u : uS} {l1 l2 : Int} (h : (rI l1) ∧ (if l1 < 65 then (if l1 < 97 then (Q 0 u) else (if l1 < 107 then (K_37 (d + 2) 16 [.ref 24, iV l1, iV l2, iV 0] [] u Q) else (Q 0 u))) else (if 90 < l1 then (if l1 < 97 then (Q 0 u) else (if l1 < 107 then (K_37 (d + 2) 16 [.ref 24, iV l1, iV l2, iV 0] [] u Q) else (Q 0 u))) else (K_37 (d + 2) 16 [.ref 24, iV l1, iV l2, iV 1] [] u Q)))) : cI (d + 3) 37 [.ref 24, iV l1, iV l2] u Q := by
  refine u_of me_37 (Nat.le_of_ble_eq_true rfl) ?_
  refine u_ld (v := iV l1) (pc := 0) (dec_at lsk_37 (k := 0) rfl) rfl ?_
  refine u_csI (As := [iV l1]) (st2 := []) (pc := 1) (dec_at lsk_37 (k := 1) rfl) m_3_75 (Or.inr rfl) rfl (Nat.le_of_ble_eq_true rfl) ?_ (fun _ _ h_ => h_)
  refine u_of me_33 (Nat.le_of_ble_eq_true rfl) ?_
  refine u_ld (v := iV l1) (pc := 0) (dec_at lsk_33 (k := 0) rfl) rfl ?_
  refine u_c (x := 65) (pc := 1) (dec_at lsk_33 (k := 1) rfl) rfl (by decide) ?_
  have g1 := h.1
  have h := h.2
  refine u_icT (pc := 3) (tgt := 16) (dec_at lsk_33 (k := 2) rfl) rfl (ci_lt g1 (by decide)) (fun e2 => ?_) (fun e2 => ?_)
  · have h := ifT e2 h
    refine u_ld (v := iV 0) (pc := 16) (dec_at lsk_33 (k := 8) rfl) rfl ?_
    refine u_rZ (pc := 17) (dec_at lsk_33 (k := 9) rfl) rfl (by decide) ?_
    refine u_sto (lv' := [.ref 24, iV l1, iV l2, iV 0]) (pc := 4) (dec_at lsk_37 (k := 2) rfl) rfl ?_
    refine u_ld (v := iV 0) (pc := 5) (dec_at lsk_37 (k := 3) rfl) rfl ?_
    refine u_ifF (pc := 6) (tgt := 16) (dec_at lsk_37 (k := 4) rfl) rfl (c0_ne (by decide)) (fun _ => ?_) (fun e => absurd e (by decide))
    refine u_ld (v := iV l1) (pc := 9) (dec_at lsk_37 (k := 5) rfl) rfl ?_
    refine u_csI (As := [iV l1]) (st2 := []) (pc := 10) (dec_at lsk_37 (k := 6) rfl) m_3_91 (Or.inr rfl) rfl (Nat.le_of_ble_eq_true rfl) ?_ (fun _ _ h_ => h_)
    refine u_of me_21 (Nat.le_of_ble_eq_true rfl) ?_
    refine u_ld (v := iV l1) (pc := 0) (dec_at lsk_21 (k := 0) rfl) rfl ?_
    refine u_c (x := 97) (pc := 1) (dec_at lsk_21 (k := 1) rfl) rfl (by decide) ?_
    refine u_icT (pc := 3) (tgt := 16) (dec_at lsk_21 (k := 2) rfl) rfl (ci_lt g1 (by decide)) (fun e3 => ?_) (fun e3 => ?_)
    · have h := ifT e3 h
      refine u_ld (v := iV 0) (pc := 16) (dec_at lsk_21 (k := 8) rfl) rfl ?_
      refine u_rZ (pc := 17) (dec_at lsk_21 (k := 9) rfl) rfl (by decide) ?_
      refine u_ifT (pc := 13) (tgt := 38) (dec_at lsk_37 (k := 7) rfl) rfl (c0_eq (by decide)) (fun _ => ?_) (fun e => absurd e (by decide))
      refine u_ld (v := iV 0) (pc := 38) (dec_at lsk_37 (k := 19) rfl) rfl ?_
      exact u_rZ (pc := 39) (dec_at lsk_37 (k := 20) rfl) rfl (by decide) h
    · have h := ifF e3 h
      refine u_ld (v := iV l1) (pc := 6) (dec_at lsk_21 (k := 3) rfl) rfl ?_
      refine u_c (x := 107) (pc := 7) (dec_at lsk_21 (k := 4) rfl) rfl (by decide) ?_
      refine u_icF (pc := 9) (tgt := 16) (dec_at lsk_21 (k := 5) rfl) rfl (ci_ge g1 (by decide)) (fun e4 => ?_) (fun e4 => ?_)
      · have h := ifT e4 h
        refine u_ld (v := iV 1) (pc := 12) (dec_at lsk_21 (k := 6) rfl) rfl ?_
        refine u_goto (pc := 13) (tgt := 17) (dec_at lsk_21 (k := 7) rfl) rfl ?_
        refine u_rZ (pc := 17) (dec_at lsk_21 (k := 9) rfl) rfl (by decide) ?_
        refine u_ifT (pc := 13) (tgt := 38) (dec_at lsk_37 (k := 7) rfl) rfl (c0_eq (by decide)) (fun e => absurd e (by decide)) (fun _ => ?_)
        exact h
      · have h := ifF e4 h
        refine u_ld (v := iV 0) (pc := 16) (dec_at lsk_21 (k := 8) rfl) rfl ?_
        refine u_rZ (pc := 17) (dec_at lsk_21 (k := 9) rfl) rfl (by decide) ?_
        refine u_ifT (pc := 13) (tgt := 38) (dec_at lsk_37 (k := 7) rfl) rfl (c0_eq (by decide)) (fun _ => ?_) (fun e => absurd e (by decide))
        refine u_ld (v := iV 0) (pc := 38) (dec_at lsk_37 (k := 19) rfl) rfl ?_
        exact u_rZ (pc := 39) (dec_at lsk_37 (k := 20) rfl) rfl (by decide) h
  · have h := ifF e2 h
    refine u_ld (v := iV l1) (pc := 6) (dec_at lsk_33 (k := 3) rfl) rfl ?_
    refine u_c (x := 90) (pc := 7) (dec_at lsk_33 (k := 4) rfl) rfl (by decide) ?_
    refine u_icT (pc := 9) (tgt := 16) (dec_at lsk_33 (k := 5) rfl) rfl (ci_gt g1 (by decide)) (fun e5 => ?_) (fun e5 => ?_)
    · have h := ifT e5 h
      refine u_ld (v := iV 0) (pc := 16) (dec_at lsk_33 (k := 8) rfl) rfl ?_
      refine u_rZ (pc := 17) (dec_at lsk_33 (k := 9) rfl) rfl (by decide) ?_
      refine u_sto (lv' := [.ref 24, iV l1, iV l2, iV 0]) (pc := 4) (dec_at lsk_37 (k := 2) rfl) rfl ?_
      refine u_ld (v := iV 0) (pc := 5) (dec_at lsk_37 (k := 3) rfl) rfl ?_
      refine u_ifF (pc := 6) (tgt := 16) (dec_at lsk_37 (k := 4) rfl) rfl (c0_ne (by decide)) (fun _ => ?_) (fun e => absurd e (by decide))
      refine u_ld (v := iV l1) (pc := 9) (dec_at lsk_37 (k := 5) rfl) rfl ?_
      refine u_csI (As := [iV l1]) (st2 := []) (pc := 10) (dec_at lsk_37 (k := 6) rfl) m_3_91 (Or.inr rfl) rfl (Nat.le_of_ble_eq_true rfl) ?_ (fun _ _ h_ => h_)
      refine u_of me_21 (Nat.le_of_ble_eq_true rfl) ?_
      refine u_ld (v := iV l1) (pc := 0) (dec_at lsk_21 (k := 0) rfl) rfl ?_
      refine u_c (x := 97) (pc := 1) (dec_at lsk_21 (k := 1) rfl) rfl (by decide) ?_
      refine u_icT (pc := 3) (tgt := 16) (dec_at lsk_21 (k := 2) rfl) rfl (ci_lt g1 (by decide)) (fun e6 => ?_) (fun e6 => ?_)
      · have h := ifT e6 h
        refine u_ld (v := iV 0) (pc := 16) (dec_at lsk_21 (k := 8) rfl) rfl ?_
        refine u_rZ (pc := 17) (dec_at lsk_21 (k := 9) rfl) rfl (by decide) ?_
        refine u_ifT (pc := 13) (tgt := 38) (dec_at lsk_37 (k := 7) rfl) rfl (c0_eq (by decide)) (fun _ => ?_) (fun e => absurd e (by decide))
        refine u_ld (v := iV 0) (pc := 38) (dec_at lsk_37 (k := 19) rfl) rfl ?_
        exact u_rZ (pc := 39) (dec_at lsk_37 (k := 20) rfl) rfl (by decide) h
      · have h := ifF e6 h
        refine u_ld (v := iV l1) (pc := 6) (dec_at lsk_21 (k := 3) rfl) rfl ?_
        refine u_c (x := 107) (pc := 7) (dec_at lsk_21 (k := 4) rfl) rfl (by decide) ?_
        refine u_icF (pc := 9) (tgt := 16) (dec_at lsk_21 (k := 5) rfl) rfl (ci_ge g1 (by decide)) (fun e7 => ?_) (fun e7 => ?_)
        · have h := ifT e7 h
          refine u_ld (v := iV 1) (pc := 12) (dec_at lsk_21 (k := 6) rfl) rfl ?_
          refine u_goto (pc := 13) (tgt := 17) (dec_at lsk_21 (k := 7) rfl) rfl ?_
          refine u_rZ (pc := 17) (dec_at lsk_21 (k := 9) rfl) rfl (by decide) ?_
          refine u_ifT (pc := 13) (tgt := 38) (dec_at lsk_37 (k := 7) rfl) rfl (c0_eq (by decide)) (fun e => absurd e (by decide)) (fun _ => ?_)
          exact h
        · have h := ifF e7 h
          refine u_ld (v := iV 0) (pc := 16) (dec_at lsk_21 (k := 8) rfl) rfl ?_
          refine u_rZ (pc := 17) (dec_at lsk_21 (k := 9) rfl) rfl (by decide) ?_
          refine u_ifT (pc := 13) (tgt := 38) (dec_at lsk_37 (k := 7) rfl) rfl (c0_eq (by decide)) (fun _ => ?_) (fun e => absurd e (by decide))
          refine u_ld (v := iV 0) (pc := 38) (dec_at lsk_37 (k := 19) rfl) rfl ?_
          exact u_rZ (pc := 39) (dec_at lsk_37 (k := 20) rfl) rfl (by decide) h
    · have h := ifF e5 h
      refine u_ld (v := iV 1) (pc := 12) (dec_at lsk_33 (k := 6) rfl) rfl ?_
      refine u_goto (pc := 13) (tgt := 17) (dec_at lsk_33 (k := 7) rfl) rfl ?_
      refine u_rZ (pc := 17) (dec_at lsk_33 (k := 9) rfl) rfl (by decide) ?_
      refine u_sto (lv' := [.ref 24, iV l1, iV l2, iV 1]) (pc := 4) (dec_at lsk_37 (k := 2) rfl) rfl ?_
      refine u_ld (v := iV 1) (pc := 5) (dec_at lsk_37 (k := 3) rfl) rfl ?_
      refine u_ifF (pc := 6) (tgt := 16) (dec_at lsk_37 (k := 4) rfl) rfl (c0_ne (by decide)) (fun e => absurd e (by decide)) (fun _ => ?_)
      exact h
theorem k_37_16 {d : Nat} {Q : Int → uS → Prop} {u : uS} {l1 l2 l3 : Int} (h : (isO (u.2 24 2) 2) ∧ ((0 ≤ (u.1 (u.2 24 2) 1) - 1) ∧ (((u.1 (u.2 24 2) 1) - 1 < 30) ∧ ((rI (u.1 ((u.2 24 2) + 3) ((u.1 (u.2 24 2) 1) - 1))) ∧ (if u.1 ((u.2 24 2) + 3) ((u.1 (u.2 24 2) 1) - 1) < 6 then ((rI l3) ∧ (if l3 = 0 then ((0 ≤ (((u.1 (u.2 24 2) 1) - 1) * 6) + (u.1 ((u.2 24 2) + 3) ((u.1 (u.2 24 2) 1) - 1))) ∧ (((((u.1 (u.2 24 2) 1) - 1) * 6) + (u.1 ((u.2 24 2) + 3) ((u.1 (u.2 24 2) 1) - 1)) < 180) ∧ (∀ u11 : uS, u11 = wr u ((u.2 24 2) + 4) ((((u.1 (u.2 24 2) 1) - 1) * 6) + (u.1 ((u.2 24 2) + 3) ((u.1 (u.2 24 2) 1) - 1))) (l1 - 97) → (∀ u13 : uS, u13 = wr u11 ((u.2 24 2) + 3) ((u.1 (u.2 24 2) 1) - 1) ((u11.1 ((u.2 24 2) + 3) ((u.1 (u.2 24 2) 1) - 1)) + 1) → (Q 1 u13))))) else ((0 ≤ l1 - 65) ∧ ((l1 - 65 < 26) ∧ ((rI (u.1 26 (l1 - 65))) ∧ (if u.1 26 (l1 - 65) = (-1) then (∀ u19 : uS, u19 = wr u 26 (l1 - 65) l2 → ((isO (u19.2 24 2) 2) ∧ ((0 ≤ (u19.1 (u19.2 24 2) 1) - 1) ∧ (((u19.1 (u19.2 24 2) 1) - 1 < 30) ∧ ((0 ≤ (((u19.1 (u19.2 24 2) 1) - 1) * 6) + (u19.1 ((u19.2 24 2) + 3) ((u19.1 (u19.2 24 2) 1) - 1))) ∧ (((((u19.1 (u19.2 24 2) 1) - 1) * 6) + (u19.1 ((u19.2 24 2) + 3) ((u19.1 (u19.2 24 2) 1) - 1)) < 180) ∧ (∀ u27 : uS, u27 = wr u19 ((u19.2 24 2) + 4) ((((u19.1 (u19.2 24 2) 1) - 1) * 6) + (u19.1 ((u19.2 24 2) + 3) ((u19.1 (u19.2 24 2) 1) - 1))) ((100 + l1) - 65) → (∀ u29 : uS, u29 = wr u27 ((u19.2 24 2) + 3) ((u19.1 (u19.2 24 2) 1) - 1) ((u27.1 ((u19.2 24 2) + 3) ((u19.1 (u19.2 24 2) 1) - 1)) + 1) → (Q 1 u29))))))))) else ((0 ≤ (((u.1 (u.2 24 2) 1) - 1) * 6) + (u.1 ((u.2 24 2) + 3) ((u.1 (u.2 24 2) 1) - 1))) ∧ (((((u.1 (u.2 24 2) 1) - 1) * 6) + (u.1 ((u.2 24 2) + 3) ((u.1 (u.2 24 2) 1) - 1)) < 180) ∧ (∀ u34 : uS, u34 = wr u ((u.2 24 2) + 4) ((((u.1 (u.2 24 2) 1) - 1) * 6) + (u.1 ((u.2 24 2) + 3) ((u.1 (u.2 24 2) 1) - 1))) ((100 + l1) - 65) → (∀ u36 : uS, u36 = wr u34 ((u.2 24 2) + 3) ((u.1 (u.2 24 2) 1) - 1) ((u34.1 ((u.2 24 2) + 3) ((u.1 (u.2 24 2) 1) - 1)) + 1) → (Q 1 u36))))))))))) else (Q 0 u)))))) : K_37 (d + 2) 16 [.ref 24, iV l1, iV l2, iV l3] [] u Q := by
  unfold K_37
  refine u_ld (v := .ref 24) (pc := 16) (dec_at lsk_37 (k := 8) rfl) rfl ?_
  refine u_gR (z := 2) (pc := 17) (dec_at lsk_37 (k := 9) rfl) f_3_21 sx_24 rfl rfl ?_
  have g1 := h.1
  have h := h.2
  refine u_gS (o := 3) (p := (u.2 24 2) + 3) (pc := 20) (dec_at lsk_37 (k := 10) rfl) f_3_94 g1 rfl rfl ?_
  refine u_ld (v := .ref 24) (pc := 23) (dec_at lsk_37 (k := 11) rfl) rfl ?_
  refine u_gR (z := 2) (pc := 24) (dec_at lsk_37 (k := 12) rfl) f_3_21 sx_24 rfl rfl ?_
  refine u_gI (z := 1) (pc := 27) (dec_at lsk_37 (k := 13) rfl) f_3_82 g1 rfl rfl ?_
  refine u_ld (v := iV 1) (pc := 30) (dec_at lsk_37 (k := 14) rfl) rfl ?_
  refine u_isub (pc := 31) (dec_at lsk_37 (k := 15) rfl) ?_
  have g2 := h.1
  have h := h.2
  have g3 := h.1
  have h := h.2
  refine u_iald (pc := 32) (dec_at lsk_37 (k := 16) rfl) (sa_2_4 g1) g2 g3 ?_
  refine u_c (x := 6) (pc := 33) (dec_at lsk_37 (k := 17) rfl) rfl (by decide) ?_
  have g4 := h.1
  have h := h.2
  refine u_icT (pc := 35) (tgt := 40) (dec_at lsk_37 (k := 18) rfl) rfl (ci_lt g4 (by decide)) (fun e5 => ?_) (fun e5 => ?_)
  · have h := ifT e5 h
    refine u_ld (v := iV l3) (pc := 40) (dec_at lsk_37 (k := 21) rfl) rfl ?_
    have g6 := h.1
    have h := h.2
    refine u_ifT (pc := 41) (tgt := 67) (dec_at lsk_37 (k := 22) rfl) rfl (c0_eq g6) (fun e7 => ?_) (fun e7 => ?_)
    · have h := ifT e7 h
      refine u_ld (v := .ref 24) (pc := 67) (dec_at lsk_37 (k := 38) rfl) rfl ?_
      refine u_gR (z := 2) (pc := 68) (dec_at lsk_37 (k := 39) rfl) f_3_21 sx_24 rfl rfl ?_
      refine u_ld (v := iV l3) (pc := 71) (dec_at lsk_37 (k := 40) rfl) rfl ?_
      refine u_ifT (pc := 72) (tgt := 85) (dec_at lsk_37 (k := 41) rfl) rfl (c0_eq g6) (fun _ => ?_) (fun e8 => absurd e7 e8)
      refine u_ld (v := iV l1) (pc := 85) (dec_at lsk_37 (k := 48) rfl) rfl ?_
      refine u_csI (As := [iV l1]) (st2 := [.ref (u.2 24 2)]) (pc := 86) (dec_at lsk_37 (k := 49) rfl) m_3_97 (Or.inr rfl) rfl (Nat.le_of_ble_eq_true rfl) ?_ (fun _ _ h_ => h_)
      refine u_of me_24 (Nat.le_of_ble_eq_true rfl) ?_
      refine u_ld (v := iV l1) (pc := 0) (dec_at lsk_24 (k := 0) rfl) rfl ?_
      refine u_c (x := 97) (pc := 1) (dec_at lsk_24 (k := 1) rfl) rfl (by decide) ?_
      refine u_isub (pc := 3) (dec_at lsk_24 (k := 2) rfl) ?_
      refine u_rI (pc := 4) (dec_at lsk_24 (k := 3) rfl) rfl ?_
      refine u_cvV (As := [iV (l1 - 97)]) (rb := u.2 24 2) (st2 := []) (pc := 89) (dec_at lsk_37 (k := 50) rfl) m_3_100 (Or.inl rfl) rfl (Nat.le_of_ble_eq_true rfl) g1 me_38 rfl ?_ (fun _ h_ => h_)
      refine u_of me_38 (Nat.le_of_ble_eq_true rfl) ?_
      refine u_ld (v := .ref (u.2 24 2)) (pc := 0) (dec_at lsk_38 (k := 0) rfl) rfl ?_
      refine u_gI (z := 1) (pc := 1) (dec_at lsk_38 (k := 1) rfl) f_2_41 g1 rfl rfl ?_
      refine u_ld (v := iV 1) (pc := 4) (dec_at lsk_38 (k := 2) rfl) rfl ?_
      refine u_isub (pc := 5) (dec_at lsk_38 (k := 3) rfl) ?_
      refine u_sto (lv' := [.ref (u.2 24 2), iV (l1 - 97), iV ((u.1 (u.2 24 2) 1) - 1)]) (pc := 6) (dec_at lsk_38 (k := 4) rfl) rfl ?_
      refine u_ld (v := .ref (u.2 24 2)) (pc := 7) (dec_at lsk_38 (k := 5) rfl) rfl ?_
      refine u_ld (v := iV ((u.1 (u.2 24 2) 1) - 1)) (pc := 8) (dec_at lsk_38 (k := 6) rfl) rfl ?_
      refine u_ld (v := .ref (u.2 24 2)) (pc := 9) (dec_at lsk_38 (k := 7) rfl) rfl ?_
      refine u_gS (o := 3) (p := (u.2 24 2) + 3) (pc := 10) (dec_at lsk_38 (k := 8) rfl) f_2_18 g1 rfl rfl ?_
      refine u_ld (v := iV ((u.1 (u.2 24 2) 1) - 1)) (pc := 13) (dec_at lsk_38 (k := 9) rfl) rfl ?_
      refine u_iald (pc := 14) (dec_at lsk_38 (k := 10) rfl) (sa_2_4 g1) g2 g3 ?_
      refine u_ld (v := iV (l1 - 97)) (pc := 15) (dec_at lsk_38 (k := 11) rfl) rfl ?_
      refine u_cvV (As := [iV ((u.1 (u.2 24 2) 1) - 1), iV (u.1 ((u.2 24 2) + 3) ((u.1 (u.2 24 2) 1) - 1)), iV (l1 - 97)]) (rb := u.2 24 2) (st2 := []) (pc := 16) (dec_at lsk_38 (k := 12) rfl) m_2_44 (Or.inl rfl) rfl (Nat.le_of_ble_eq_true rfl) g1 me_39 rfl ?_ (fun _ h_ => h_)
      refine u_of me_39 (Nat.le_of_ble_eq_true rfl) ?_
      refine u_ld (v := .ref (u.2 24 2)) (pc := 0) (dec_at lsk_39 (k := 0) rfl) rfl ?_
      refine u_gS (o := 4) (p := (u.2 24 2) + 4) (pc := 1) (dec_at lsk_39 (k := 1) rfl) f_2_21 g1 rfl rfl ?_
      refine u_ld (v := iV ((u.1 (u.2 24 2) 1) - 1)) (pc := 4) (dec_at lsk_39 (k := 2) rfl) rfl ?_
      refine u_c (x := 6) (pc := 5) (dec_at lsk_39 (k := 3) rfl) rfl (by decide) ?_
      refine u_imul (pc := 7) (dec_at lsk_39 (k := 4) rfl) ?_
      refine u_ld (v := iV (u.1 ((u.2 24 2) + 3) ((u.1 (u.2 24 2) 1) - 1))) (pc := 8) (dec_at lsk_39 (k := 5) rfl) rfl ?_
      refine u_iadd (pc := 9) (dec_at lsk_39 (k := 6) rfl) ?_
      refine u_ld (v := iV (l1 - 97)) (pc := 10) (dec_at lsk_39 (k := 7) rfl) rfl ?_
      have g9 := h.1
      have h := h.2
      have g10 := h.1
      have h := h.2
      refine u_iast (pc := 11) (dec_at lsk_39 (k := 8) rfl) (sa_2_5 g1) g9 g10 (fun u11 e12 => ?_)
      have h := h u11 e12
      refine u_rV (pc := 12) (dec_at lsk_39 (k := 9) rfl) rfl ?_
      refine u_ld (v := .ref (u.2 24 2)) (pc := 19) (dec_at lsk_38 (k := 13) rfl) rfl ?_
      refine u_gS (o := 3) (p := (u.2 24 2) + 3) (pc := 20) (dec_at lsk_38 (k := 14) rfl) f_2_18 g1 rfl rfl ?_
      refine u_ld (v := iV ((u.1 (u.2 24 2) 1) - 1)) (pc := 23) (dec_at lsk_38 (k := 15) rfl) rfl ?_
      refine u_st (st' := [iV ((u.1 (u.2 24 2) 1) - 1), .ref ((u.2 24 2) + 3), iV ((u.1 (u.2 24 2) 1) - 1), .ref ((u.2 24 2) + 3)]) (pc := 24) (dec_at lsk_38 (k := 16) rfl) rfl ?_
      refine u_iald (pc := 25) (dec_at lsk_38 (k := 17) rfl) (sa_2_4 g1) g2 g3 ?_
      refine u_ld (v := iV 1) (pc := 26) (dec_at lsk_38 (k := 18) rfl) rfl ?_
      refine u_iadd (pc := 27) (dec_at lsk_38 (k := 19) rfl) ?_
      refine u_iast (pc := 28) (dec_at lsk_38 (k := 20) rfl) (sa_2_4 g1) g2 g3 (fun u13 e14 => ?_)
      have h := h u13 e14
      refine u_rV (pc := 29) (dec_at lsk_38 (k := 21) rfl) rfl ?_
      refine u_ld (v := iV 1) (pc := 92) (dec_at lsk_37 (k := 51) rfl) rfl ?_
      exact u_rZ (pc := 93) (dec_at lsk_37 (k := 52) rfl) rfl (by decide) h
    · have h := ifF e7 h
      refine u_ld (v := .ref 24) (pc := 44) (dec_at lsk_37 (k := 23) rfl) rfl ?_
      refine u_gS (o := 2) (p := 26) (pc := 45) (dec_at lsk_37 (k := 24) rfl) f_3_15 sx_24 rfl rfl ?_
      refine u_ld (v := iV l1) (pc := 48) (dec_at lsk_37 (k := 25) rfl) rfl ?_
      refine u_c (x := 65) (pc := 49) (dec_at lsk_37 (k := 26) rfl) rfl (by decide) ?_
      refine u_isub (pc := 51) (dec_at lsk_37 (k := 27) rfl) ?_
      have g15 := h.1
      have h := h.2
      have g16 := h.1
      have h := h.2
      refine u_iald (pc := 52) (dec_at lsk_37 (k := 28) rfl) sx_26 g15 g16 ?_
      refine u_ld (v := iV (-1)) (pc := 53) (dec_at lsk_37 (k := 29) rfl) rfl ?_
      have g17 := h.1
      have h := h.2
      refine u_icF (pc := 54) (tgt := 67) (dec_at lsk_37 (k := 30) rfl) rfl (ci_ne g17 (by decide)) (fun e18 => ?_) (fun e18 => ?_)
      · have h := ifT e18 h
        refine u_ld (v := .ref 24) (pc := 57) (dec_at lsk_37 (k := 31) rfl) rfl ?_
        refine u_gS (o := 2) (p := 26) (pc := 58) (dec_at lsk_37 (k := 32) rfl) f_3_15 sx_24 rfl rfl ?_
        refine u_ld (v := iV l1) (pc := 61) (dec_at lsk_37 (k := 33) rfl) rfl ?_
        refine u_c (x := 65) (pc := 62) (dec_at lsk_37 (k := 34) rfl) rfl (by decide) ?_
        refine u_isub (pc := 64) (dec_at lsk_37 (k := 35) rfl) ?_
        refine u_ld (v := iV l2) (pc := 65) (dec_at lsk_37 (k := 36) rfl) rfl ?_
        refine u_iast (pc := 66) (dec_at lsk_37 (k := 37) rfl) sx_26 g15 g16 (fun u19 e20 => ?_)
        have h := h u19 e20
        refine u_ld (v := .ref 24) (pc := 67) (dec_at lsk_37 (k := 38) rfl) rfl ?_
        refine u_gR (z := 2) (pc := 68) (dec_at lsk_37 (k := 39) rfl) f_3_21 sx_24 rfl rfl ?_
        refine u_ld (v := iV l3) (pc := 71) (dec_at lsk_37 (k := 40) rfl) rfl ?_
        refine u_ifT (pc := 72) (tgt := 85) (dec_at lsk_37 (k := 41) rfl) rfl (c0_eq g6) (fun e21 => absurd e21 e7) (fun _ => ?_)
        refine u_c (x := 100) (pc := 75) (dec_at lsk_37 (k := 42) rfl) rfl (by decide) ?_
        refine u_ld (v := iV l1) (pc := 77) (dec_at lsk_37 (k := 43) rfl) rfl ?_
        refine u_iadd (pc := 78) (dec_at lsk_37 (k := 44) rfl) ?_
        refine u_c (x := 65) (pc := 79) (dec_at lsk_37 (k := 45) rfl) rfl (by decide) ?_
        refine u_isub (pc := 81) (dec_at lsk_37 (k := 46) rfl) ?_
        refine u_goto (pc := 82) (tgt := 89) (dec_at lsk_37 (k := 47) rfl) rfl ?_
        have g22 := h.1
        have h := h.2
        refine u_cvV (As := [iV ((100 + l1) - 65)]) (rb := u19.2 24 2) (st2 := []) (pc := 89) (dec_at lsk_37 (k := 50) rfl) m_3_100 (Or.inl rfl) rfl (Nat.le_of_ble_eq_true rfl) g22 me_38 rfl ?_ (fun _ h_ => h_)
        refine u_of me_38 (Nat.le_of_ble_eq_true rfl) ?_
        refine u_ld (v := .ref (u19.2 24 2)) (pc := 0) (dec_at lsk_38 (k := 0) rfl) rfl ?_
        refine u_gI (z := 1) (pc := 1) (dec_at lsk_38 (k := 1) rfl) f_2_41 g22 rfl rfl ?_
        refine u_ld (v := iV 1) (pc := 4) (dec_at lsk_38 (k := 2) rfl) rfl ?_
        refine u_isub (pc := 5) (dec_at lsk_38 (k := 3) rfl) ?_
        refine u_sto (lv' := [.ref (u19.2 24 2), iV ((100 + l1) - 65), iV ((u19.1 (u19.2 24 2) 1) - 1)]) (pc := 6) (dec_at lsk_38 (k := 4) rfl) rfl ?_
        refine u_ld (v := .ref (u19.2 24 2)) (pc := 7) (dec_at lsk_38 (k := 5) rfl) rfl ?_
        refine u_ld (v := iV ((u19.1 (u19.2 24 2) 1) - 1)) (pc := 8) (dec_at lsk_38 (k := 6) rfl) rfl ?_
        refine u_ld (v := .ref (u19.2 24 2)) (pc := 9) (dec_at lsk_38 (k := 7) rfl) rfl ?_
        refine u_gS (o := 3) (p := (u19.2 24 2) + 3) (pc := 10) (dec_at lsk_38 (k := 8) rfl) f_2_18 g22 rfl rfl ?_
        refine u_ld (v := iV ((u19.1 (u19.2 24 2) 1) - 1)) (pc := 13) (dec_at lsk_38 (k := 9) rfl) rfl ?_
        have g23 := h.1
        have h := h.2
        have g24 := h.1
        have h := h.2
        refine u_iald (pc := 14) (dec_at lsk_38 (k := 10) rfl) (sa_2_4 g22) g23 g24 ?_
        refine u_ld (v := iV ((100 + l1) - 65)) (pc := 15) (dec_at lsk_38 (k := 11) rfl) rfl ?_
        refine u_cvV (As := [iV ((u19.1 (u19.2 24 2) 1) - 1), iV (u19.1 ((u19.2 24 2) + 3) ((u19.1 (u19.2 24 2) 1) - 1)), iV ((100 + l1) - 65)]) (rb := u19.2 24 2) (st2 := []) (pc := 16) (dec_at lsk_38 (k := 12) rfl) m_2_44 (Or.inl rfl) rfl (Nat.le_of_ble_eq_true rfl) g22 me_39 rfl ?_ (fun _ h_ => h_)
        refine u_of me_39 (Nat.le_of_ble_eq_true rfl) ?_
        refine u_ld (v := .ref (u19.2 24 2)) (pc := 0) (dec_at lsk_39 (k := 0) rfl) rfl ?_
        refine u_gS (o := 4) (p := (u19.2 24 2) + 4) (pc := 1) (dec_at lsk_39 (k := 1) rfl) f_2_21 g22 rfl rfl ?_
        refine u_ld (v := iV ((u19.1 (u19.2 24 2) 1) - 1)) (pc := 4) (dec_at lsk_39 (k := 2) rfl) rfl ?_
        refine u_c (x := 6) (pc := 5) (dec_at lsk_39 (k := 3) rfl) rfl (by decide) ?_
        refine u_imul (pc := 7) (dec_at lsk_39 (k := 4) rfl) ?_
        refine u_ld (v := iV (u19.1 ((u19.2 24 2) + 3) ((u19.1 (u19.2 24 2) 1) - 1))) (pc := 8) (dec_at lsk_39 (k := 5) rfl) rfl ?_
        refine u_iadd (pc := 9) (dec_at lsk_39 (k := 6) rfl) ?_
        refine u_ld (v := iV ((100 + l1) - 65)) (pc := 10) (dec_at lsk_39 (k := 7) rfl) rfl ?_
        have g25 := h.1
        have h := h.2
        have g26 := h.1
        have h := h.2
        refine u_iast (pc := 11) (dec_at lsk_39 (k := 8) rfl) (sa_2_5 g22) g25 g26 (fun u27 e28 => ?_)
        have h := h u27 e28
        refine u_rV (pc := 12) (dec_at lsk_39 (k := 9) rfl) rfl ?_
        refine u_ld (v := .ref (u19.2 24 2)) (pc := 19) (dec_at lsk_38 (k := 13) rfl) rfl ?_
        refine u_gS (o := 3) (p := (u19.2 24 2) + 3) (pc := 20) (dec_at lsk_38 (k := 14) rfl) f_2_18 g22 rfl rfl ?_
        refine u_ld (v := iV ((u19.1 (u19.2 24 2) 1) - 1)) (pc := 23) (dec_at lsk_38 (k := 15) rfl) rfl ?_
        refine u_st (st' := [iV ((u19.1 (u19.2 24 2) 1) - 1), .ref ((u19.2 24 2) + 3), iV ((u19.1 (u19.2 24 2) 1) - 1), .ref ((u19.2 24 2) + 3)]) (pc := 24) (dec_at lsk_38 (k := 16) rfl) rfl ?_
        refine u_iald (pc := 25) (dec_at lsk_38 (k := 17) rfl) (sa_2_4 g22) g23 g24 ?_
        refine u_ld (v := iV 1) (pc := 26) (dec_at lsk_38 (k := 18) rfl) rfl ?_
        refine u_iadd (pc := 27) (dec_at lsk_38 (k := 19) rfl) ?_
        refine u_iast (pc := 28) (dec_at lsk_38 (k := 20) rfl) (sa_2_4 g22) g23 g24 (fun u29 e30 => ?_)
        have h := h u29 e30
        refine u_rV (pc := 29) (dec_at lsk_38 (k := 21) rfl) rfl ?_
        refine u_ld (v := iV 1) (pc := 92) (dec_at lsk_37 (k := 51) rfl) rfl ?_
        exact u_rZ (pc := 93) (dec_at lsk_37 (k := 52) rfl) rfl (by decide) h
      · have h := ifF e18 h
        refine u_ld (v := .ref 24) (pc := 67) (dec_at lsk_37 (k := 38) rfl) rfl ?_
        refine u_gR (z := 2) (pc := 68) (dec_at lsk_37 (k := 39) rfl) f_3_21 sx_24 rfl rfl ?_
        refine u_ld (v := iV l3) (pc := 71) (dec_at lsk_37 (k := 40) rfl) rfl ?_
        refine u_ifT (pc := 72) (tgt := 85) (dec_at lsk_37 (k := 41) rfl) rfl (c0_eq g6) (fun e31 => absurd e31 e7) (fun _ => ?_)
        refine u_c (x := 100) (pc := 75) (dec_at lsk_37 (k := 42) rfl) rfl (by decide) ?_
        refine u_ld (v := iV l1) (pc := 77) (dec_at lsk_37 (k := 43) rfl) rfl ?_
        refine u_iadd (pc := 78) (dec_at lsk_37 (k := 44) rfl) ?_
        refine u_c (x := 65) (pc := 79) (dec_at lsk_37 (k := 45) rfl) rfl (by decide) ?_
        refine u_isub (pc := 81) (dec_at lsk_37 (k := 46) rfl) ?_
        refine u_goto (pc := 82) (tgt := 89) (dec_at lsk_37 (k := 47) rfl) rfl ?_
        refine u_cvV (As := [iV ((100 + l1) - 65)]) (rb := u.2 24 2) (st2 := []) (pc := 89) (dec_at lsk_37 (k := 50) rfl) m_3_100 (Or.inl rfl) rfl (Nat.le_of_ble_eq_true rfl) g1 me_38 rfl ?_ (fun _ h_ => h_)
        refine u_of me_38 (Nat.le_of_ble_eq_true rfl) ?_
        refine u_ld (v := .ref (u.2 24 2)) (pc := 0) (dec_at lsk_38 (k := 0) rfl) rfl ?_
        refine u_gI (z := 1) (pc := 1) (dec_at lsk_38 (k := 1) rfl) f_2_41 g1 rfl rfl ?_
        refine u_ld (v := iV 1) (pc := 4) (dec_at lsk_38 (k := 2) rfl) rfl ?_
        refine u_isub (pc := 5) (dec_at lsk_38 (k := 3) rfl) ?_
        refine u_sto (lv' := [.ref (u.2 24 2), iV ((100 + l1) - 65), iV ((u.1 (u.2 24 2) 1) - 1)]) (pc := 6) (dec_at lsk_38 (k := 4) rfl) rfl ?_
        refine u_ld (v := .ref (u.2 24 2)) (pc := 7) (dec_at lsk_38 (k := 5) rfl) rfl ?_
        refine u_ld (v := iV ((u.1 (u.2 24 2) 1) - 1)) (pc := 8) (dec_at lsk_38 (k := 6) rfl) rfl ?_
        refine u_ld (v := .ref (u.2 24 2)) (pc := 9) (dec_at lsk_38 (k := 7) rfl) rfl ?_
        refine u_gS (o := 3) (p := (u.2 24 2) + 3) (pc := 10) (dec_at lsk_38 (k := 8) rfl) f_2_18 g1 rfl rfl ?_
        refine u_ld (v := iV ((u.1 (u.2 24 2) 1) - 1)) (pc := 13) (dec_at lsk_38 (k := 9) rfl) rfl ?_
        refine u_iald (pc := 14) (dec_at lsk_38 (k := 10) rfl) (sa_2_4 g1) g2 g3 ?_
        refine u_ld (v := iV ((100 + l1) - 65)) (pc := 15) (dec_at lsk_38 (k := 11) rfl) rfl ?_
        refine u_cvV (As := [iV ((u.1 (u.2 24 2) 1) - 1), iV (u.1 ((u.2 24 2) + 3) ((u.1 (u.2 24 2) 1) - 1)), iV ((100 + l1) - 65)]) (rb := u.2 24 2) (st2 := []) (pc := 16) (dec_at lsk_38 (k := 12) rfl) m_2_44 (Or.inl rfl) rfl (Nat.le_of_ble_eq_true rfl) g1 me_39 rfl ?_ (fun _ h_ => h_)
        refine u_of me_39 (Nat.le_of_ble_eq_true rfl) ?_
        refine u_ld (v := .ref (u.2 24 2)) (pc := 0) (dec_at lsk_39 (k := 0) rfl) rfl ?_
        refine u_gS (o := 4) (p := (u.2 24 2) + 4) (pc := 1) (dec_at lsk_39 (k := 1) rfl) f_2_21 g1 rfl rfl ?_
        refine u_ld (v := iV ((u.1 (u.2 24 2) 1) - 1)) (pc := 4) (dec_at lsk_39 (k := 2) rfl) rfl ?_
        refine u_c (x := 6) (pc := 5) (dec_at lsk_39 (k := 3) rfl) rfl (by decide) ?_
        refine u_imul (pc := 7) (dec_at lsk_39 (k := 4) rfl) ?_
        refine u_ld (v := iV (u.1 ((u.2 24 2) + 3) ((u.1 (u.2 24 2) 1) - 1))) (pc := 8) (dec_at lsk_39 (k := 5) rfl) rfl ?_
        refine u_iadd (pc := 9) (dec_at lsk_39 (k := 6) rfl) ?_
        refine u_ld (v := iV ((100 + l1) - 65)) (pc := 10) (dec_at lsk_39 (k := 7) rfl) rfl ?_
        have g32 := h.1
        have h := h.2
        have g33 := h.1
        have h := h.2
        refine u_iast (pc := 11) (dec_at lsk_39 (k := 8) rfl) (sa_2_5 g1) g32 g33 (fun u34 e35 => ?_)
        have h := h u34 e35
        refine u_rV (pc := 12) (dec_at lsk_39 (k := 9) rfl) rfl ?_
        refine u_ld (v := .ref (u.2 24 2)) (pc := 19) (dec_at lsk_38 (k := 13) rfl) rfl ?_
        refine u_gS (o := 3) (p := (u.2 24 2) + 3) (pc := 20) (dec_at lsk_38 (k := 14) rfl) f_2_18 g1 rfl rfl ?_
        refine u_ld (v := iV ((u.1 (u.2 24 2) 1) - 1)) (pc := 23) (dec_at lsk_38 (k := 15) rfl) rfl ?_
        refine u_st (st' := [iV ((u.1 (u.2 24 2) 1) - 1), .ref ((u.2 24 2) + 3), iV ((u.1 (u.2 24 2) 1) - 1), .ref ((u.2 24 2) + 3)]) (pc := 24) (dec_at lsk_38 (k := 16) rfl) rfl ?_
        refine u_iald (pc := 25) (dec_at lsk_38 (k := 17) rfl) (sa_2_4 g1) g2 g3 ?_
        refine u_ld (v := iV 1) (pc := 26) (dec_at lsk_38 (k := 18) rfl) rfl ?_
        refine u_iadd (pc := 27) (dec_at lsk_38 (k := 19) rfl) ?_
        refine u_iast (pc := 28) (dec_at lsk_38 (k := 20) rfl) (sa_2_4 g1) g2 g3 (fun u36 e37 => ?_)
        have h := h u36 e37
        refine u_rV (pc := 29) (dec_at lsk_38 (k := 21) rfl) rfl ?_
        refine u_ld (v := iV 1) (pc := 92) (dec_at lsk_37 (k := 51) rfl) rfl ?_
        exact u_rZ (pc := 93) (dec_at lsk_37 (k := 52) rfl) rfl (by decide) h
  · have h := ifF e5 h
    refine u_ld (v := iV 0) (pc := 38) (dec_at lsk_37 (k := 19) rfl) rfl ?_
    exact u_rZ (pc := 39) (dec_at lsk_37 (k := 20) rfl) rfl (by decide) h
/-- method 40 -/
def K_40 (d pc : Nat) (lv : ev_L) (st : List Value) (u : uS) (Q : Int → uS → Prop) : Prop := okU d 3 4 false (some .int) prog_4_method_7_code (qI Q) pc lv st u
theorem e_40 {d : Nat} {Q : Int → uS → Prop} {u : uS} (h : K_40 d 4 [.ref 24, iV (-1), iV 0, .retAddr 0] [] u Q) : cI (d + 1) 40 [.ref 24] u Q := by
  refine u_of me_40 (Nat.le_of_ble_eq_true rfl) ?_
  refine u_ld (v := iV (-1)) (pc := 0) (dec_at lsk_40 (k := 0) rfl) rfl ?_
  refine u_sto (lv' := [.ref 24, iV (-1), .retAddr 0, .retAddr 0]) (pc := 1) (dec_at lsk_40 (k := 1) rfl) rfl ?_
  refine u_ld (v := iV 0) (pc := 2) (dec_at lsk_40 (k := 2) rfl) rfl ?_
  refine u_sto (lv' := [.ref 24, iV (-1), iV 0, .retAddr 0]) (pc := 3) (dec_at lsk_40 (k := 3) rfl) rfl ?_
  exact h
theorem k_40_4 {d : Nat} {Q : Int → uS → Prop} {u : uS} {l1 l2 : Int} (h : (rI l2) ∧ (if l2 < 26 then ((0 ≤ l2) ∧ ((rI (u.1 26 l2)) ∧ (if u.1 26 l2 = (-1) then (K_40 d 4 [.ref 24, iV l1, iV (l2 + 1), .retAddr 0] [] u Q) else ((rI (u.1 25 l2)) ∧ (if u.1 25 l2 = (-1) then ((rI l1) ∧ (if l1 = (-1) then (K_40 d 4 [.ref 24, iV (u.1 26 l2), iV (l2 + 1), .retAddr 0] [] u Q) else (if u.1 26 l2 < l1 then (K_40 d 4 [.ref 24, iV (u.1 26 l2), iV (l2 + 1), .retAddr 0] [] u Q) else (K_40 d 4 [.ref 24, iV l1, iV (l2 + 1), .retAddr 0] [] u Q)))) else (K_40 d 4 [.ref 24, iV l1, iV (l2 + 1), .retAddr 0] [] u Q)))))) else (Q l1 u))) : K_40 d 4 [.ref 24, iV l1, iV l2, .retAddr 0] [] u Q := by
  unfold K_40
  refine u_ld (v := iV l2) (pc := 4) (dec_at lsk_40 (k := 4) rfl) rfl ?_
  refine u_c (x := 26) (pc := 5) (dec_at lsk_40 (k := 5) rfl) rfl (by decide) ?_
  have g1 := h.1
  have h := h.2
  refine u_icF (pc := 7) (tgt := 50) (dec_at lsk_40 (k := 6) rfl) rfl (ci_ge g1 (by decide)) (fun e2 => ?_) (fun e2 => ?_)
  · have h := ifT e2 h
    refine u_ld (v := .ref 24) (pc := 10) (dec_at lsk_40 (k := 7) rfl) rfl ?_
    refine u_gS (o := 2) (p := 26) (pc := 11) (dec_at lsk_40 (k := 8) rfl) f_3_15 sx_24 rfl rfl ?_
    refine u_ld (v := iV l2) (pc := 14) (dec_at lsk_40 (k := 9) rfl) rfl ?_
    have g3 := h.1
    have h := h.2
    refine u_iald (pc := 15) (dec_at lsk_40 (k := 10) rfl) sx_26 g3 e2 ?_
    refine u_sto (lv' := [.ref 24, iV l1, iV l2, iV (u.1 26 l2)]) (pc := 16) (dec_at lsk_40 (k := 11) rfl) rfl ?_
    refine u_ld (v := iV (u.1 26 l2)) (pc := 17) (dec_at lsk_40 (k := 12) rfl) rfl ?_
    refine u_ld (v := iV (-1)) (pc := 18) (dec_at lsk_40 (k := 13) rfl) rfl ?_
    have g4 := h.1
    have h := h.2
    refine u_icT (pc := 19) (tgt := 44) (dec_at lsk_40 (k := 14) rfl) rfl (ci_eq g4 (by decide)) (fun e5 => ?_) (fun e5 => ?_)
    · have h := ifT e5 h
      refine u_inc (lv' := [.ref 24, iV l1, iV (l2 + 1), iV (u.1 26 l2)]) (pc := 44) (dec_at lsk_40 (k := 29) rfl) rfl (by decide) rfl ?_
      refine u_goto (pc := 47) (tgt := 4) (dec_at lsk_40 (k := 30) rfl) rfl ?_
      exact u_weak (sbK (sbK (sbK (sbD sb0)))) h
    · have h := ifF e5 h
      refine u_ld (v := .ref 24) (pc := 22) (dec_at lsk_40 (k := 15) rfl) rfl ?_
      refine u_gS (o := 1) (p := 25) (pc := 23) (dec_at lsk_40 (k := 16) rfl) f_3_9 sx_24 rfl rfl ?_
      refine u_ld (v := iV l2) (pc := 26) (dec_at lsk_40 (k := 17) rfl) rfl ?_
      refine u_iald (pc := 27) (dec_at lsk_40 (k := 18) rfl) sx_25 g3 e2 ?_
      refine u_ld (v := iV (-1)) (pc := 28) (dec_at lsk_40 (k := 19) rfl) rfl ?_
      have g6 := h.1
      have h := h.2
      refine u_icF (pc := 29) (tgt := 44) (dec_at lsk_40 (k := 20) rfl) rfl (ci_ne g6 (by decide)) (fun e7 => ?_) (fun e7 => ?_)
      · have h := ifT e7 h
        refine u_ld (v := iV l1) (pc := 32) (dec_at lsk_40 (k := 21) rfl) rfl ?_
        refine u_ld (v := iV (-1)) (pc := 33) (dec_at lsk_40 (k := 22) rfl) rfl ?_
        have g8 := h.1
        have h := h.2
        refine u_icT (pc := 34) (tgt := 42) (dec_at lsk_40 (k := 23) rfl) rfl (ci_eq g8 (by decide)) (fun e9 => ?_) (fun e9 => ?_)
        · have h := ifT e9 h
          refine u_ld (v := iV (u.1 26 l2)) (pc := 42) (dec_at lsk_40 (k := 27) rfl) rfl ?_
          refine u_sto (lv' := [.ref 24, iV (u.1 26 l2), iV l2, iV (u.1 26 l2)]) (pc := 43) (dec_at lsk_40 (k := 28) rfl) rfl ?_
          refine u_inc (lv' := [.ref 24, iV (u.1 26 l2), iV (l2 + 1), iV (u.1 26 l2)]) (pc := 44) (dec_at lsk_40 (k := 29) rfl) rfl (by decide) rfl ?_
          refine u_goto (pc := 47) (tgt := 4) (dec_at lsk_40 (k := 30) rfl) rfl ?_
          exact u_weak (sbK (sbK (sbK (sbD sb0)))) h
        · have h := ifF e9 h
          refine u_ld (v := iV (u.1 26 l2)) (pc := 37) (dec_at lsk_40 (k := 24) rfl) rfl ?_
          refine u_ld (v := iV l1) (pc := 38) (dec_at lsk_40 (k := 25) rfl) rfl ?_
          refine u_icF (pc := 39) (tgt := 44) (dec_at lsk_40 (k := 26) rfl) rfl (ci_ge g4 g8) (fun e10 => ?_) (fun e10 => ?_)
          · have h := ifT e10 h
            refine u_ld (v := iV (u.1 26 l2)) (pc := 42) (dec_at lsk_40 (k := 27) rfl) rfl ?_
            refine u_sto (lv' := [.ref 24, iV (u.1 26 l2), iV l2, iV (u.1 26 l2)]) (pc := 43) (dec_at lsk_40 (k := 28) rfl) rfl ?_
            refine u_inc (lv' := [.ref 24, iV (u.1 26 l2), iV (l2 + 1), iV (u.1 26 l2)]) (pc := 44) (dec_at lsk_40 (k := 29) rfl) rfl (by decide) rfl ?_
            refine u_goto (pc := 47) (tgt := 4) (dec_at lsk_40 (k := 30) rfl) rfl ?_
            exact u_weak (sbK (sbK (sbK (sbD sb0)))) h
          · have h := ifF e10 h
            refine u_inc (lv' := [.ref 24, iV l1, iV (l2 + 1), iV (u.1 26 l2)]) (pc := 44) (dec_at lsk_40 (k := 29) rfl) rfl (by decide) rfl ?_
            refine u_goto (pc := 47) (tgt := 4) (dec_at lsk_40 (k := 30) rfl) rfl ?_
            exact u_weak (sbK (sbK (sbK (sbD sb0)))) h
      · have h := ifF e7 h
        refine u_inc (lv' := [.ref 24, iV l1, iV (l2 + 1), iV (u.1 26 l2)]) (pc := 44) (dec_at lsk_40 (k := 29) rfl) rfl (by decide) rfl ?_
        refine u_goto (pc := 47) (tgt := 4) (dec_at lsk_40 (k := 30) rfl) rfl ?_
        exact u_weak (sbK (sbK (sbK (sbD sb0)))) h
  · have h := ifF e2 h
    refine u_ld (v := iV l1) (pc := 50) (dec_at lsk_40 (k := 31) rfl) rfl ?_
    exact u_rI (pc := 51) (dec_at lsk_40 (k := 32) rfl) rfl h
/-- method 41 -/
def K_41 (d pc : Nat) (lv : ev_L) (st : List Value) (u : uS) (Q : uS → Prop) : Prop := okU d 3 4 false none prog_4_method_8_code (qV Q) pc lv st u
theorem e_41 {d : Nat} {Q : uS → Prop} {u : uS} (h : K_41 (d + 1) 2 [.ref 24, iV 0, .retAddr 0, .retAddr 0] [] u Q) : cV (d + 2) 41 [.ref 24] u Q := by
  refine u_of me_41 (Nat.le_of_ble_eq_true rfl) ?_
  refine u_ld (v := iV 0) (pc := 0) (dec_at lsk_41 (k := 0) rfl) rfl ?_
  refine u_sto (lv' := [.ref 24, iV 0, .retAddr 0, .retAddr 0]) (pc := 1) (dec_at lsk_41 (k := 1) rfl) rfl ?_
  exact h
theorem k_41_2 {d : Nat} {Q : uS → Prop} {u : uS} {l1 : Int} (h : (isO (u.2 24 2) 2) ∧ ((rI l1) ∧ ((rI (u.1 (u.2 24 2) 1)) ∧ (if l1 < u.1 (u.2 24 2) 1 then (K_41 (d + 1) 15 [.ref 24, iV l1, iV 0, .retAddr 0] [] u Q) else (Q u))))) : K_41 (d + 1) 2 [.ref 24, iV l1, .retAddr 0, .retAddr 0] [] u Q := by
  unfold K_41
  refine u_ld (v := iV l1) (pc := 2) (dec_at lsk_41 (k := 2) rfl) rfl ?_
  refine u_ld (v := .ref 24) (pc := 3) (dec_at lsk_41 (k := 3) rfl) rfl ?_
  refine u_gR (z := 2) (pc := 4) (dec_at lsk_41 (k := 4) rfl) f_3_21 sx_24 rfl rfl ?_
  have g1 := h.1
  have h := h.2
  refine u_gI (z := 1) (pc := 7) (dec_at lsk_41 (k := 5) rfl) f_3_82 g1 rfl rfl ?_
  have g2 := h.1
  have h := h.2
  have g3 := h.1
  have h := h.2
  refine u_icF (pc := 10) (tgt := 77) (dec_at lsk_41 (k := 6) rfl) rfl (ci_ge g2 g3) (fun e4 => ?_) (fun e4 => ?_)
  · have h := ifT e4 h
    refine u_ld (v := iV 0) (pc := 13) (dec_at lsk_41 (k := 7) rfl) rfl ?_
    refine u_sto (lv' := [.ref 24, iV l1, iV 0, .retAddr 0]) (pc := 14) (dec_at lsk_41 (k := 8) rfl) rfl ?_
    exact h
  · have h := ifF e4 h
    exact u_rV (pc := 77) (dec_at lsk_41 (k := 42) rfl) rfl h
theorem k_41_15 {d : Nat} {Q : uS → Prop} {u : uS} {l1 l2 : Int} (h : (isO (u.2 24 2) 2) ∧ ((0 ≤ l1) ∧ ((l1 < 30) ∧ ((rI l2) ∧ ((rI (u.1 ((u.2 24 2) + 3) l1)) ∧ (if l2 < u.1 ((u.2 24 2) + 3) l1 then ((0 ≤ (l1 * 6) + l2) ∧ (((l1 * 6) + l2 < 180) ∧ ((rI (u.1 ((u.2 24 2) + 4) ((l1 * 6) + l2))) ∧ (if u.1 ((u.2 24 2) + 4) ((l1 * 6) + l2) < 100 then (K_41 (d + 1) 15 [.ref 24, iV l1, iV (l2 + 1), .retAddr 0] [] u Q) else ((0 ≤ (u.1 ((u.2 24 2) + 4) ((l1 * 6) + l2)) - 100) ∧ (((u.1 ((u.2 24 2) + 4) ((l1 * 6) + l2)) - 100 < 26) ∧ (∀ u13 : uS, u13 = wr u ((u.2 24 2) + 4) ((l1 * 6) + l2) (100 + (u.1 25 ((u.1 ((u.2 24 2) + 4) ((l1 * 6) + l2)) - 100))) → (K_41 (d + 1) 15 [.ref 24, iV l1, iV (l2 + 1), .retAddr 0] [] u13 Q)))))))) else (K_41 (d + 1) 2 [.ref 24, iV (l1 + 1), .retAddr 0, .retAddr 0] [] u Q))))))) : K_41 (d + 1) 15 [.ref 24, iV l1, iV l2, .retAddr 0] [] u Q := by
  unfold K_41
  refine u_ld (v := iV l2) (pc := 15) (dec_at lsk_41 (k := 9) rfl) rfl ?_
  refine u_ld (v := .ref 24) (pc := 16) (dec_at lsk_41 (k := 10) rfl) rfl ?_
  refine u_gR (z := 2) (pc := 17) (dec_at lsk_41 (k := 11) rfl) f_3_21 sx_24 rfl rfl ?_
  have g1 := h.1
  have h := h.2
  refine u_gS (o := 3) (p := (u.2 24 2) + 3) (pc := 20) (dec_at lsk_41 (k := 12) rfl) f_3_94 g1 rfl rfl ?_
  refine u_ld (v := iV l1) (pc := 23) (dec_at lsk_41 (k := 13) rfl) rfl ?_
  have g2 := h.1
  have h := h.2
  have g3 := h.1
  have h := h.2
  refine u_iald (pc := 24) (dec_at lsk_41 (k := 14) rfl) (sa_2_4 g1) g2 g3 ?_
  have g4 := h.1
  have h := h.2
  have g5 := h.1
  have h := h.2
  refine u_icF (pc := 25) (tgt := 71) (dec_at lsk_41 (k := 15) rfl) rfl (ci_ge g4 g5) (fun e6 => ?_) (fun e6 => ?_)
  · have h := ifT e6 h
    refine u_ld (v := .ref 24) (pc := 28) (dec_at lsk_41 (k := 16) rfl) rfl ?_
    refine u_gR (z := 2) (pc := 29) (dec_at lsk_41 (k := 17) rfl) f_3_21 sx_24 rfl rfl ?_
    refine u_ld (v := iV l1) (pc := 32) (dec_at lsk_41 (k := 18) rfl) rfl ?_
    refine u_ld (v := iV l2) (pc := 33) (dec_at lsk_41 (k := 19) rfl) rfl ?_
    refine u_cvI (As := [iV l1, iV l2]) (rb := u.2 24 2) (st2 := []) (pc := 34) (dec_at lsk_41 (k := 20) rfl) m_3_103 (Or.inl rfl) rfl (Nat.le_of_ble_eq_true rfl) g1 me_42 rfl ?_ (fun _ _ h_ => h_)
    refine u_of me_42 (Nat.le_of_ble_eq_true rfl) ?_
    refine u_ld (v := .ref (u.2 24 2)) (pc := 0) (dec_at lsk_42 (k := 0) rfl) rfl ?_
    refine u_gS (o := 4) (p := (u.2 24 2) + 4) (pc := 1) (dec_at lsk_42 (k := 1) rfl) f_2_21 g1 rfl rfl ?_
    refine u_ld (v := iV l1) (pc := 4) (dec_at lsk_42 (k := 2) rfl) rfl ?_
    refine u_c (x := 6) (pc := 5) (dec_at lsk_42 (k := 3) rfl) rfl (by decide) ?_
    refine u_imul (pc := 7) (dec_at lsk_42 (k := 4) rfl) ?_
    refine u_ld (v := iV l2) (pc := 8) (dec_at lsk_42 (k := 5) rfl) rfl ?_
    refine u_iadd (pc := 9) (dec_at lsk_42 (k := 6) rfl) ?_
    have g7 := h.1
    have h := h.2
    have g8 := h.1
    have h := h.2
    refine u_iald (pc := 10) (dec_at lsk_42 (k := 7) rfl) (sa_2_5 g1) g7 g8 ?_
    refine u_rI (pc := 11) (dec_at lsk_42 (k := 8) rfl) rfl ?_
    refine u_sto (lv' := [.ref 24, iV l1, iV l2, iV (u.1 ((u.2 24 2) + 4) ((l1 * 6) + l2))]) (pc := 37) (dec_at lsk_41 (k := 21) rfl) rfl ?_
    refine u_ld (v := iV (u.1 ((u.2 24 2) + 4) ((l1 * 6) + l2))) (pc := 38) (dec_at lsk_41 (k := 22) rfl) rfl ?_
    refine u_c (x := 100) (pc := 39) (dec_at lsk_41 (k := 23) rfl) rfl (by decide) ?_
    have g9 := h.1
    have h := h.2
    refine u_icT (pc := 41) (tgt := 65) (dec_at lsk_41 (k := 24) rfl) rfl (ci_lt g9 (by decide)) (fun e10 => ?_) (fun e10 => ?_)
    · have h := ifT e10 h
      refine u_inc (lv' := [.ref 24, iV l1, iV (l2 + 1), iV (u.1 ((u.2 24 2) + 4) ((l1 * 6) + l2))]) (pc := 65) (dec_at lsk_41 (k := 38) rfl) rfl (by decide) rfl ?_
      refine u_goto (pc := 68) (tgt := 15) (dec_at lsk_41 (k := 39) rfl) rfl ?_
      exact u_weak (sbK (sbK (sbK (sbD sb0)))) h
    · have h := ifF e10 h
      refine u_ld (v := .ref 24) (pc := 44) (dec_at lsk_41 (k := 25) rfl) rfl ?_
      refine u_gR (z := 2) (pc := 45) (dec_at lsk_41 (k := 26) rfl) f_3_21 sx_24 rfl rfl ?_
      refine u_ld (v := iV l1) (pc := 48) (dec_at lsk_41 (k := 27) rfl) rfl ?_
      refine u_ld (v := iV l2) (pc := 49) (dec_at lsk_41 (k := 28) rfl) rfl ?_
      refine u_c (x := 100) (pc := 50) (dec_at lsk_41 (k := 29) rfl) rfl (by decide) ?_
      refine u_ld (v := .ref 24) (pc := 52) (dec_at lsk_41 (k := 30) rfl) rfl ?_
      refine u_gS (o := 1) (p := 25) (pc := 53) (dec_at lsk_41 (k := 31) rfl) f_3_9 sx_24 rfl rfl ?_
      refine u_ld (v := iV (u.1 ((u.2 24 2) + 4) ((l1 * 6) + l2))) (pc := 56) (dec_at lsk_41 (k := 32) rfl) rfl ?_
      refine u_c (x := 100) (pc := 57) (dec_at lsk_41 (k := 33) rfl) rfl (by decide) ?_
      refine u_isub (pc := 59) (dec_at lsk_41 (k := 34) rfl) ?_
      have g11 := h.1
      have h := h.2
      have g12 := h.1
      have h := h.2
      refine u_iald (pc := 60) (dec_at lsk_41 (k := 35) rfl) sx_25 g11 g12 ?_
      refine u_iadd (pc := 61) (dec_at lsk_41 (k := 36) rfl) ?_
      refine u_cvV (As := [iV l1, iV l2, iV (100 + (u.1 25 ((u.1 ((u.2 24 2) + 4) ((l1 * 6) + l2)) - 100)))]) (rb := u.2 24 2) (st2 := []) (pc := 62) (dec_at lsk_41 (k := 37) rfl) m_3_107 (Or.inl rfl) rfl (Nat.le_of_ble_eq_true rfl) g1 me_39 rfl ?_ (fun _ h_ => h_)
      refine u_of me_39 (Nat.le_of_ble_eq_true rfl) ?_
      refine u_ld (v := .ref (u.2 24 2)) (pc := 0) (dec_at lsk_39 (k := 0) rfl) rfl ?_
      refine u_gS (o := 4) (p := (u.2 24 2) + 4) (pc := 1) (dec_at lsk_39 (k := 1) rfl) f_2_21 g1 rfl rfl ?_
      refine u_ld (v := iV l1) (pc := 4) (dec_at lsk_39 (k := 2) rfl) rfl ?_
      refine u_c (x := 6) (pc := 5) (dec_at lsk_39 (k := 3) rfl) rfl (by decide) ?_
      refine u_imul (pc := 7) (dec_at lsk_39 (k := 4) rfl) ?_
      refine u_ld (v := iV l2) (pc := 8) (dec_at lsk_39 (k := 5) rfl) rfl ?_
      refine u_iadd (pc := 9) (dec_at lsk_39 (k := 6) rfl) ?_
      refine u_ld (v := iV (100 + (u.1 25 ((u.1 ((u.2 24 2) + 4) ((l1 * 6) + l2)) - 100)))) (pc := 10) (dec_at lsk_39 (k := 7) rfl) rfl ?_
      refine u_iast (pc := 11) (dec_at lsk_39 (k := 8) rfl) (sa_2_5 g1) g7 g8 (fun u13 e14 => ?_)
      have h := h u13 e14
      refine u_rV (pc := 12) (dec_at lsk_39 (k := 9) rfl) rfl ?_
      refine u_inc (lv' := [.ref 24, iV l1, iV (l2 + 1), iV (u.1 ((u.2 24 2) + 4) ((l1 * 6) + l2))]) (pc := 65) (dec_at lsk_41 (k := 38) rfl) rfl (by decide) rfl ?_
      refine u_goto (pc := 68) (tgt := 15) (dec_at lsk_41 (k := 39) rfl) rfl ?_
      exact u_weak (sbK (sbK (sbK (sbD sb0)))) h
  · have h := ifF e6 h
    refine u_inc (lv' := [.ref 24, iV (l1 + 1), iV l2, .retAddr 0]) (pc := 71) (dec_at lsk_41 (k := 40) rfl) rfl (by decide) rfl ?_
    refine u_goto (pc := 74) (tgt := 2) (dec_at lsk_41 (k := 41) rfl) rfl ?_
    exact u_weak (sbK (sbK (sbD (sbK sb0)))) h
/-- method 43 -/
def K_43 (d pc : Nat) (lv : ev_L) (st : List Value) (u : uS) (Q : uS → Prop) : Prop := okU d 2 2 false none prog_3_method_8_code (qV Q) pc lv st u
theorem e_43 {d : Nat} {Q : uS → Prop} {u : uS} {a l1 : Nat} (hOa : isO a 2) (hOl1 : isO l1 2) (h : ∀ u1 : uS, u1 = wr u a 0 (u.1 l1 0) → (∀ u3 : uS, u3 = wr u1 a 1 (u1.1 l1 1) → ((0 ≤ u3.1 a 0) ∧ ((0 + (u3.1 a 0) ≤ 10) ∧ (∀ u7 : uS, u7 = cpy u3 (l1 + 1) 0 (a + 1) 0 (u3.1 a 0) → ((0 ≤ u7.1 a 1) ∧ ((0 + (u7.1 a 1) ≤ 30) ∧ (∀ u11 : uS, u11 = cpy u7 (l1 + 2) 0 (a + 2) 0 (u7.1 a 1) → ((0 ≤ u11.1 a 1) ∧ ((0 + (u11.1 a 1) ≤ 30) ∧ (∀ u15 : uS, u15 = cpy u11 (l1 + 3) 0 (a + 3) 0 (u11.1 a 1) → ((0 ≤ (u15.1 a 1) * 6) ∧ ((0 + ((u15.1 a 1) * 6) ≤ 180) ∧ (∀ u19 : uS, u19 = cpy u15 (l1 + 4) 0 (a + 4) 0 ((u15.1 a 1) * 6) → (Q u19))))))))))))))) : cV (d + 1) 43 [.ref a, .ref l1] u Q := by
  refine u_of me_43 (Nat.le_of_ble_eq_true rfl) ?_
  refine u_ld (v := .ref a) (pc := 0) (dec_at lsk_43 (k := 0) rfl) rfl ?_
  refine u_ld (v := .ref l1) (pc := 1) (dec_at lsk_43 (k := 1) rfl) rfl ?_
  refine u_gI (z := 0) (pc := 2) (dec_at lsk_43 (k := 2) rfl) f_2_37 hOl1 rfl rfl ?_
  refine u_pI (z := 0) (pc := 5) (dec_at lsk_43 (k := 3) rfl) f_2_37 hOa rfl rfl rfl rfl (fun u1 e2 => ?_)
  have h := h u1 e2
  refine u_ld (v := .ref a) (pc := 8) (dec_at lsk_43 (k := 4) rfl) rfl ?_
  refine u_ld (v := .ref l1) (pc := 9) (dec_at lsk_43 (k := 5) rfl) rfl ?_
  refine u_gI (z := 1) (pc := 10) (dec_at lsk_43 (k := 6) rfl) f_2_41 hOl1 rfl rfl ?_
  refine u_pI (z := 1) (pc := 13) (dec_at lsk_43 (k := 7) rfl) f_2_41 hOa rfl rfl rfl rfl (fun u3 e4 => ?_)
  have h := h u3 e4
  refine u_ld (v := .ref l1) (pc := 16) (dec_at lsk_43 (k := 8) rfl) rfl ?_
  refine u_gS (o := 1) (p := l1 + 1) (pc := 17) (dec_at lsk_43 (k := 9) rfl) f_2_9 hOl1 rfl rfl ?_
  refine u_ld (v := iV 0) (pc := 20) (dec_at lsk_43 (k := 10) rfl) rfl ?_
  refine u_ld (v := .ref a) (pc := 21) (dec_at lsk_43 (k := 11) rfl) rfl ?_
  refine u_gS (o := 1) (p := a + 1) (pc := 22) (dec_at lsk_43 (k := 12) rfl) f_2_9 hOa rfl rfl ?_
  refine u_ld (v := iV 0) (pc := 25) (dec_at lsk_43 (k := 13) rfl) rfl ?_
  refine u_ld (v := .ref a) (pc := 26) (dec_at lsk_43 (k := 14) rfl) rfl ?_
  refine u_gI (z := 0) (pc := 27) (dec_at lsk_43 (k := 15) rfl) f_2_37 hOa rfl rfl ?_
  have g5 := h.1
  have h := h.2
  have g6 := h.1
  have h := h.2
  refine u_cpyI (pc := 30) (dec_at lsk_43 (k := 16) rfl) m_2_48 (sa_2_2 hOl1) (sa_2_2 hOa) (by decide) (by decide) g5 g6 g6 (Nat.le_of_ble_eq_true rfl) (fun u7 e8 => ?_)
  have h := h u7 e8
  refine u_ld (v := .ref l1) (pc := 33) (dec_at lsk_43 (k := 17) rfl) rfl ?_
  refine u_gS (o := 2) (p := l1 + 2) (pc := 34) (dec_at lsk_43 (k := 18) rfl) f_2_15 hOl1 rfl rfl ?_
  refine u_ld (v := iV 0) (pc := 37) (dec_at lsk_43 (k := 19) rfl) rfl ?_
  refine u_ld (v := .ref a) (pc := 38) (dec_at lsk_43 (k := 20) rfl) rfl ?_
  refine u_gS (o := 2) (p := a + 2) (pc := 39) (dec_at lsk_43 (k := 21) rfl) f_2_15 hOa rfl rfl ?_
  refine u_ld (v := iV 0) (pc := 42) (dec_at lsk_43 (k := 22) rfl) rfl ?_
  refine u_ld (v := .ref a) (pc := 43) (dec_at lsk_43 (k := 23) rfl) rfl ?_
  refine u_gI (z := 1) (pc := 44) (dec_at lsk_43 (k := 24) rfl) f_2_41 hOa rfl rfl ?_
  have g9 := h.1
  have h := h.2
  have g10 := h.1
  have h := h.2
  refine u_cpyI (pc := 47) (dec_at lsk_43 (k := 25) rfl) m_2_48 (sa_2_3 hOl1) (sa_2_3 hOa) (by decide) (by decide) g9 g10 g10 (Nat.le_of_ble_eq_true rfl) (fun u11 e12 => ?_)
  have h := h u11 e12
  refine u_ld (v := .ref l1) (pc := 50) (dec_at lsk_43 (k := 26) rfl) rfl ?_
  refine u_gS (o := 3) (p := l1 + 3) (pc := 51) (dec_at lsk_43 (k := 27) rfl) f_2_18 hOl1 rfl rfl ?_
  refine u_ld (v := iV 0) (pc := 54) (dec_at lsk_43 (k := 28) rfl) rfl ?_
  refine u_ld (v := .ref a) (pc := 55) (dec_at lsk_43 (k := 29) rfl) rfl ?_
  refine u_gS (o := 3) (p := a + 3) (pc := 56) (dec_at lsk_43 (k := 30) rfl) f_2_18 hOa rfl rfl ?_
  refine u_ld (v := iV 0) (pc := 59) (dec_at lsk_43 (k := 31) rfl) rfl ?_
  refine u_ld (v := .ref a) (pc := 60) (dec_at lsk_43 (k := 32) rfl) rfl ?_
  refine u_gI (z := 1) (pc := 61) (dec_at lsk_43 (k := 33) rfl) f_2_41 hOa rfl rfl ?_
  have g13 := h.1
  have h := h.2
  have g14 := h.1
  have h := h.2
  refine u_cpyI (pc := 64) (dec_at lsk_43 (k := 34) rfl) m_2_48 (sa_2_4 hOl1) (sa_2_4 hOa) (by decide) (by decide) g13 g14 g14 (Nat.le_of_ble_eq_true rfl) (fun u15 e16 => ?_)
  have h := h u15 e16
  refine u_ld (v := .ref l1) (pc := 67) (dec_at lsk_43 (k := 35) rfl) rfl ?_
  refine u_gS (o := 4) (p := l1 + 4) (pc := 68) (dec_at lsk_43 (k := 36) rfl) f_2_21 hOl1 rfl rfl ?_
  refine u_ld (v := iV 0) (pc := 71) (dec_at lsk_43 (k := 37) rfl) rfl ?_
  refine u_ld (v := .ref a) (pc := 72) (dec_at lsk_43 (k := 38) rfl) rfl ?_
  refine u_gS (o := 4) (p := a + 4) (pc := 73) (dec_at lsk_43 (k := 39) rfl) f_2_21 hOa rfl rfl ?_
  refine u_ld (v := iV 0) (pc := 76) (dec_at lsk_43 (k := 40) rfl) rfl ?_
  refine u_ld (v := .ref a) (pc := 77) (dec_at lsk_43 (k := 41) rfl) rfl ?_
  refine u_gI (z := 1) (pc := 78) (dec_at lsk_43 (k := 42) rfl) f_2_41 hOa rfl rfl ?_
  refine u_c (x := 6) (pc := 81) (dec_at lsk_43 (k := 43) rfl) rfl (by decide) ?_
  refine u_imul (pc := 83) (dec_at lsk_43 (k := 44) rfl) ?_
  have g17 := h.1
  have h := h.2
  have g18 := h.1
  have h := h.2
  refine u_cpyI (pc := 84) (dec_at lsk_43 (k := 45) rfl) m_2_48 (sa_2_5 hOl1) (sa_2_5 hOa) (by decide) (by decide) g17 g18 g18 (Nat.le_of_ble_eq_true rfl) (fun u19 e20 => ?_)
  have h := h u19 e20
  exact u_rV (pc := 87) (dec_at lsk_43 (k := 46) rfl) rfl h
/-- method 44 -/
def K_44 (d pc : Nat) (lv : ev_L) (st : List Value) (u : uS) (Q : uS → Prop) : Prop := okU d 2 1 false none prog_3_method_9_code (qV Q) pc lv st u
theorem e_44 {d : Nat} {Q : uS → Prop} {u : uS} {a : Nat} (hOa : isO a 2) (h : cV d 45 [.ref a] u (fun u1 => cV d 48 [.ref a] u1 (fun u2 => cV d 53 [.ref a] u2 (fun u3 => cV d 55 [.ref a] u3 (fun u4 => Q u4))))) : cV (d + 1) 44 [.ref a] u Q := by
  refine u_of me_44 (Nat.le_of_ble_eq_true rfl) ?_
  refine u_ld (v := .ref a) (pc := 0) (dec_at lsk_44 (k := 0) rfl) rfl ?_
  refine u_cvV (As := []) (rb := a) (st2 := []) (pc := 1) (dec_at lsk_44 (k := 1) rfl) m_2_54 (Or.inl rfl) rfl (Nat.le_of_ble_eq_true rfl) hOa me_45 rfl h (fun u1 h => ?_)
  refine u_ld (v := .ref a) (pc := 4) (dec_at lsk_44 (k := 2) rfl) rfl ?_
  refine u_cvV (As := []) (rb := a) (st2 := []) (pc := 5) (dec_at lsk_44 (k := 3) rfl) m_2_57 (Or.inl rfl) rfl (Nat.le_of_ble_eq_true rfl) hOa me_48 rfl h (fun u2 h => ?_)
  refine u_ld (v := .ref a) (pc := 8) (dec_at lsk_44 (k := 4) rfl) rfl ?_
  refine u_cvV (As := []) (rb := a) (st2 := []) (pc := 9) (dec_at lsk_44 (k := 5) rfl) m_2_60 (Or.inl rfl) rfl (Nat.le_of_ble_eq_true rfl) hOa me_53 rfl h (fun u3 h => ?_)
  refine u_ld (v := .ref a) (pc := 12) (dec_at lsk_44 (k := 6) rfl) rfl ?_
  refine u_cvV (As := []) (rb := a) (st2 := []) (pc := 13) (dec_at lsk_44 (k := 7) rfl) m_2_63 (Or.inl rfl) rfl (Nat.le_of_ble_eq_true rfl) hOa me_55 rfl h (fun u4 h => ?_)
  exact u_rV (pc := 16) (dec_at lsk_44 (k := 8) rfl) rfl h
/-- method 45 -/
def K_45 (d pc : Nat) (lv : ev_L) (st : List Value) (u : uS) (Q : uS → Prop) : Prop := okU d 2 4 false none prog_3_method_10_code (qV Q) pc lv st u
theorem e_45 {d : Nat} {Q : uS → Prop} {u : uS} {a : Nat} (hOa : isO a 2) (h : ∀ u1 : uS, u1 = wr u a 6 0 → (∀ u3 : uS, u3 = fil u1 (a + 6) 0 10 0 → (K_45 (d + 1) 15 [.ref a, iV 1, .retAddr 0, .retAddr 0] [] u3 Q))) : cV (d + 2) 45 [.ref a] u Q := by
  refine u_of me_45 (Nat.le_of_ble_eq_true rfl) ?_
  refine u_ld (v := .ref a) (pc := 0) (dec_at lsk_45 (k := 0) rfl) rfl ?_
  refine u_ld (v := iV 0) (pc := 1) (dec_at lsk_45 (k := 1) rfl) rfl ?_
  refine u_pI (z := 6) (pc := 2) (dec_at lsk_45 (k := 2) rfl) f_2_66 hOa rfl rfl rfl rfl (fun u1 e2 => ?_)
  have h := h u1 e2
  refine u_ld (v := .ref a) (pc := 5) (dec_at lsk_45 (k := 3) rfl) rfl ?_
  refine u_gS (o := 6) (p := a + 6) (pc := 6) (dec_at lsk_45 (k := 4) rfl) f_2_28 hOa rfl rfl ?_
  refine u_ld (v := iV 0) (pc := 9) (dec_at lsk_45 (k := 5) rfl) rfl ?_
  refine u_csV (As := [.ref (a + 6), iV 0]) (st2 := []) (pc := 10) (dec_at lsk_45 (k := 6) rfl) m_2_69 (Or.inl rfl) rfl (Nat.le_of_ble_eq_true rfl) (q_30 (sa_2_10 hOa)) (fun u3 e4 => ?_)
  have h := h u3 e4
  refine u_ld (v := iV 1) (pc := 13) (dec_at lsk_45 (k := 7) rfl) rfl ?_
  refine u_sto (lv' := [.ref a, iV 1, .retAddr 0, .retAddr 0]) (pc := 14) (dec_at lsk_45 (k := 8) rfl) rfl ?_
  exact h
theorem k_45_15 {d : Nat} {Q : uS → Prop} {u : uS} {a : Nat} {l1 : Int} (hOa : isO a 2) (h : (rI l1) ∧ ((rI (u.1 a 0)) ∧ (if u.1 a 0 < l1 then (Q u) else (K_45 (d + 1) 30 [.ref a, iV l1, iV (u.1 a 6), iV 0] [] u Q)))) : K_45 (d + 1) 15 [.ref a, iV l1, .retAddr 0, .retAddr 0] [] u Q := by
  unfold K_45
  refine u_ld (v := iV l1) (pc := 15) (dec_at lsk_45 (k := 9) rfl) rfl ?_
  refine u_ld (v := .ref a) (pc := 16) (dec_at lsk_45 (k := 10) rfl) rfl ?_
  refine u_gI (z := 0) (pc := 17) (dec_at lsk_45 (k := 11) rfl) f_2_37 hOa rfl rfl ?_
  have g1 := h.1
  have h := h.2
  have g2 := h.1
  have h := h.2
  refine u_icT (pc := 20) (tgt := 102) (dec_at lsk_45 (k := 12) rfl) rfl (ci_gt g1 g2) (fun e3 => ?_) (fun e3 => ?_)
  · have h := ifT e3 h
    exact u_rV (pc := 102) (dec_at lsk_45 (k := 58) rfl) rfl h
  · have h := ifF e3 h
    refine u_ld (v := .ref a) (pc := 23) (dec_at lsk_45 (k := 13) rfl) rfl ?_
    refine u_gI (z := 6) (pc := 24) (dec_at lsk_45 (k := 14) rfl) f_2_66 hOa rfl rfl ?_
    refine u_sto (lv' := [.ref a, iV l1, iV (u.1 a 6), .retAddr 0]) (pc := 27) (dec_at lsk_45 (k := 15) rfl) rfl ?_
    refine u_ld (v := iV 0) (pc := 28) (dec_at lsk_45 (k := 16) rfl) rfl ?_
    refine u_sto (lv' := [.ref a, iV l1, iV (u.1 a 6), iV 0]) (pc := 29) (dec_at lsk_45 (k := 17) rfl) rfl ?_
    exact h
theorem k_45_30 {d : Nat} {Q : uS → Prop} {u : uS} {a : Nat} {l1 l2 l3 : Int} (hOa : isO a 2) (h : (rI l3) ∧ ((rI (u.1 a 1)) ∧ (if l3 < u.1 a 1 then ((0 ≤ l3) ∧ ((l3 < 30) ∧ ((0 ≤ u.1 (a + 2) l3) ∧ ((u.1 (a + 2) l3 < 10) ∧ ((rI (u.1 (a + 6) (u.1 (a + 2) l3))) ∧ (if u.1 (a + 6) (u.1 (a + 2) l3) = 0 then (cI (d + 1) 46 [.ref a, iV l3, iV l2] u (fun r11 u10 => (rI r11) ∧ (if r11 = 0 then (K_45 (d + 1) 30 [.ref a, iV l1, iV l2, iV (l3 + 1)] [] u10 Q) else ((0 ≤ u10.1 (a + 2) l3) ∧ ((u10.1 (a + 2) l3 < 10) ∧ (∀ u16 : uS, u16 = wr u10 (a + 6) (u10.1 (a + 2) l3) l1 → (∀ u18 : uS, u18 = wr u16 a 6 (ior (u16.1 a 6) (ishl 1 (u16.1 (a + 2) l3))) → (K_45 (d + 1) 30 [.ref a, iV l1, iV l2, iV (l3 + 1)] [] u18 Q)))))))) else (K_45 (d + 1) 30 [.ref a, iV l1, iV l2, iV (l3 + 1)] [] u Q))))))) else (K_45 (d + 1) 15 [.ref a, iV (l1 + 1), .retAddr 0, .retAddr 0] [] u Q)))) : K_45 (d + 1) 30 [.ref a, iV l1, iV l2, iV l3] [] u Q := by
  unfold K_45
  refine u_ld (v := iV l3) (pc := 30) (dec_at lsk_45 (k := 18) rfl) rfl ?_
  refine u_ld (v := .ref a) (pc := 31) (dec_at lsk_45 (k := 19) rfl) rfl ?_
  refine u_gI (z := 1) (pc := 32) (dec_at lsk_45 (k := 20) rfl) f_2_41 hOa rfl rfl ?_
  have g1 := h.1
  have h := h.2
  have g2 := h.1
  have h := h.2
  refine u_icF (pc := 35) (tgt := 96) (dec_at lsk_45 (k := 21) rfl) rfl (ci_ge g1 g2) (fun e3 => ?_) (fun e3 => ?_)
  · have h := ifT e3 h
    refine u_ld (v := .ref a) (pc := 38) (dec_at lsk_45 (k := 22) rfl) rfl ?_
    refine u_gS (o := 6) (p := a + 6) (pc := 39) (dec_at lsk_45 (k := 23) rfl) f_2_28 hOa rfl rfl ?_
    refine u_ld (v := .ref a) (pc := 42) (dec_at lsk_45 (k := 24) rfl) rfl ?_
    refine u_gS (o := 2) (p := a + 2) (pc := 43) (dec_at lsk_45 (k := 25) rfl) f_2_15 hOa rfl rfl ?_
    refine u_ld (v := iV l3) (pc := 46) (dec_at lsk_45 (k := 26) rfl) rfl ?_
    have g4 := h.1
    have h := h.2
    have g5 := h.1
    have h := h.2
    refine u_iald (pc := 47) (dec_at lsk_45 (k := 27) rfl) (sa_2_3 hOa) g4 g5 ?_
    have g6 := h.1
    have h := h.2
    have g7 := h.1
    have h := h.2
    refine u_iald (pc := 48) (dec_at lsk_45 (k := 28) rfl) (sa_2_10 hOa) g6 g7 ?_
    have g8 := h.1
    have h := h.2
    refine u_ifF (pc := 49) (tgt := 90) (dec_at lsk_45 (k := 29) rfl) rfl (c0_ne g8) (fun e9 => ?_) (fun e9 => ?_)
    · have h := ifT e9 h
      refine u_ld (v := .ref a) (pc := 52) (dec_at lsk_45 (k := 30) rfl) rfl ?_
      refine u_ld (v := iV l3) (pc := 53) (dec_at lsk_45 (k := 31) rfl) rfl ?_
      refine u_ld (v := iV l2) (pc := 54) (dec_at lsk_45 (k := 32) rfl) rfl ?_
      refine u_cvI (As := [iV l3, iV l2]) (rb := a) (st2 := []) (pc := 55) (dec_at lsk_45 (k := 33) rfl) m_2_75 (Or.inl rfl) rfl (Nat.le_of_ble_eq_true rfl) hOa me_46 rfl h (fun r11 u10 h => ?_)
      have g12 := h.1
      have h := h.2
      refine u_ifT (pc := 58) (tgt := 90) (dec_at lsk_45 (k := 34) rfl) rfl (c0_eq g12) (fun e13 => ?_) (fun e13 => ?_)
      · have h := ifT e13 h
        refine u_inc (lv' := [.ref a, iV l1, iV l2, iV (l3 + 1)]) (pc := 90) (dec_at lsk_45 (k := 54) rfl) rfl (by decide) rfl ?_
        refine u_goto (pc := 93) (tgt := 30) (dec_at lsk_45 (k := 55) rfl) rfl ?_
        exact h
      · have h := ifF e13 h
        refine u_ld (v := .ref a) (pc := 61) (dec_at lsk_45 (k := 35) rfl) rfl ?_
        refine u_gS (o := 6) (p := a + 6) (pc := 62) (dec_at lsk_45 (k := 36) rfl) f_2_28 hOa rfl rfl ?_
        refine u_ld (v := .ref a) (pc := 65) (dec_at lsk_45 (k := 37) rfl) rfl ?_
        refine u_gS (o := 2) (p := a + 2) (pc := 66) (dec_at lsk_45 (k := 38) rfl) f_2_15 hOa rfl rfl ?_
        refine u_ld (v := iV l3) (pc := 69) (dec_at lsk_45 (k := 39) rfl) rfl ?_
        refine u_iald (pc := 70) (dec_at lsk_45 (k := 40) rfl) (sa_2_3 hOa) g4 g5 ?_
        refine u_ld (v := iV l1) (pc := 71) (dec_at lsk_45 (k := 41) rfl) rfl ?_
        have g14 := h.1
        have h := h.2
        have g15 := h.1
        have h := h.2
        refine u_iast (pc := 72) (dec_at lsk_45 (k := 42) rfl) (sa_2_10 hOa) g14 g15 (fun u16 e17 => ?_)
        have h := h u16 e17
        refine u_ld (v := .ref a) (pc := 73) (dec_at lsk_45 (k := 43) rfl) rfl ?_
        refine u_ld (v := .ref a) (pc := 74) (dec_at lsk_45 (k := 44) rfl) rfl ?_
        refine u_gI (z := 6) (pc := 75) (dec_at lsk_45 (k := 45) rfl) f_2_66 hOa rfl rfl ?_
        refine u_ld (v := iV 1) (pc := 78) (dec_at lsk_45 (k := 46) rfl) rfl ?_
        refine u_ld (v := .ref a) (pc := 79) (dec_at lsk_45 (k := 47) rfl) rfl ?_
        refine u_gS (o := 2) (p := a + 2) (pc := 80) (dec_at lsk_45 (k := 48) rfl) f_2_15 hOa rfl rfl ?_
        refine u_ld (v := iV l3) (pc := 83) (dec_at lsk_45 (k := 49) rfl) rfl ?_
        refine u_iald (pc := 84) (dec_at lsk_45 (k := 50) rfl) (sa_2_3 hOa) g4 g5 ?_
        refine u_ishl (pc := 85) (dec_at lsk_45 (k := 51) rfl) ?_
        refine u_ior (pc := 86) (dec_at lsk_45 (k := 52) rfl) ?_
        refine u_pI (z := 6) (pc := 87) (dec_at lsk_45 (k := 53) rfl) f_2_66 hOa rfl rfl rfl rfl (fun u18 e19 => ?_)
        have h := h u18 e19
        refine u_inc (lv' := [.ref a, iV l1, iV l2, iV (l3 + 1)]) (pc := 90) (dec_at lsk_45 (k := 54) rfl) rfl (by decide) rfl ?_
        refine u_goto (pc := 93) (tgt := 30) (dec_at lsk_45 (k := 55) rfl) rfl ?_
        exact h
    · have h := ifF e9 h
      refine u_inc (lv' := [.ref a, iV l1, iV l2, iV (l3 + 1)]) (pc := 90) (dec_at lsk_45 (k := 54) rfl) rfl (by decide) rfl ?_
      refine u_goto (pc := 93) (tgt := 30) (dec_at lsk_45 (k := 55) rfl) rfl ?_
      exact h
  · have h := ifF e3 h
    refine u_inc (lv' := [.ref a, iV (l1 + 1), iV l2, iV l3]) (pc := 96) (dec_at lsk_45 (k := 56) rfl) rfl (by decide) rfl ?_
    refine u_goto (pc := 99) (tgt := 15) (dec_at lsk_45 (k := 57) rfl) rfl ?_
    exact u_weak (sbK (sbK (sbD (sbD sb0)))) h
/-- method 46 -/
def K_46 (d pc : Nat) (lv : ev_L) (st : List Value) (u : uS) (Q : Int → uS → Prop) : Prop := okU d 2 5 false (some .boolean) prog_3_method_11_code (qI Q) pc lv st u
theorem e_46 {d : Nat} {Q : Int → uS → Prop} {u : uS} {a : Nat} {l1 l2 : Int} (hOa : isO a 2) (h : K_46 (d + 1) 2 [.ref a, iV l1, iV l2, iV 0, .retAddr 0] [] u Q) : cI (d + 2) 46 [.ref a, iV l1, iV l2] u Q := by
  refine u_of me_46 (Nat.le_of_ble_eq_true rfl) ?_
  refine u_ld (v := iV 0) (pc := 0) (dec_at lsk_46 (k := 0) rfl) rfl ?_
  refine u_sto (lv' := [.ref a, iV l1, iV l2, iV 0, .retAddr 0]) (pc := 1) (dec_at lsk_46 (k := 1) rfl) rfl ?_
  exact h
theorem k_46_2 {d : Nat} {Q : Int → uS → Prop} {u : uS} {a : Nat} {l1 l2 l3 : Int} (hOa : isO a 2) (h : (0 ≤ l1) ∧ ((l1 < 30) ∧ ((rI l3) ∧ ((rI (u.1 (a + 3) l1)) ∧ (if l3 < u.1 (a + 3) l1 then ((0 ≤ (l1 * 6) + l3) ∧ (((l1 * 6) + l3 < 180) ∧ ((rI (u.1 (a + 4) ((l1 * 6) + l3))) ∧ (if u.1 (a + 4) ((l1 * 6) + l3) < 100 then (K_46 (d + 1) 2 [.ref a, iV l1, iV l2, iV (l3 + 1), .retAddr 0] [] u Q) else (if iand (iushr l2 ((u.1 (a + 4) ((l1 * 6) + l3)) - 100)) 1 = 0 then (Q 0 u) else (K_46 (d + 1) 2 [.ref a, iV l1, iV l2, iV (l3 + 1), .retAddr 0] [] u Q)))))) else (Q 1 u)))))) : K_46 (d + 1) 2 [.ref a, iV l1, iV l2, iV l3, .retAddr 0] [] u Q := by
  unfold K_46
  refine u_ld (v := iV l3) (pc := 2) (dec_at lsk_46 (k := 2) rfl) rfl ?_
  refine u_ld (v := .ref a) (pc := 3) (dec_at lsk_46 (k := 3) rfl) rfl ?_
  refine u_gS (o := 3) (p := a + 3) (pc := 4) (dec_at lsk_46 (k := 4) rfl) f_2_18 hOa rfl rfl ?_
  refine u_ld (v := iV l1) (pc := 7) (dec_at lsk_46 (k := 5) rfl) rfl ?_
  have g1 := h.1
  have h := h.2
  have g2 := h.1
  have h := h.2
  refine u_iald (pc := 8) (dec_at lsk_46 (k := 6) rfl) (sa_2_4 hOa) g1 g2 ?_
  have g3 := h.1
  have h := h.2
  have g4 := h.1
  have h := h.2
  refine u_icF (pc := 9) (tgt := 47) (dec_at lsk_46 (k := 7) rfl) rfl (ci_ge g3 g4) (fun e5 => ?_) (fun e5 => ?_)
  · have h := ifT e5 h
    refine u_ld (v := .ref a) (pc := 12) (dec_at lsk_46 (k := 8) rfl) rfl ?_
    refine u_ld (v := iV l1) (pc := 13) (dec_at lsk_46 (k := 9) rfl) rfl ?_
    refine u_ld (v := iV l3) (pc := 14) (dec_at lsk_46 (k := 10) rfl) rfl ?_
    refine u_cvI (As := [iV l1, iV l3]) (rb := a) (st2 := []) (pc := 15) (dec_at lsk_46 (k := 11) rfl) m_2_79 (Or.inl rfl) rfl (Nat.le_of_ble_eq_true rfl) hOa me_42 rfl ?_ (fun _ _ h_ => h_)
    refine u_of me_42 (Nat.le_of_ble_eq_true rfl) ?_
    refine u_ld (v := .ref a) (pc := 0) (dec_at lsk_42 (k := 0) rfl) rfl ?_
    refine u_gS (o := 4) (p := a + 4) (pc := 1) (dec_at lsk_42 (k := 1) rfl) f_2_21 hOa rfl rfl ?_
    refine u_ld (v := iV l1) (pc := 4) (dec_at lsk_42 (k := 2) rfl) rfl ?_
    refine u_c (x := 6) (pc := 5) (dec_at lsk_42 (k := 3) rfl) rfl (by decide) ?_
    refine u_imul (pc := 7) (dec_at lsk_42 (k := 4) rfl) ?_
    refine u_ld (v := iV l3) (pc := 8) (dec_at lsk_42 (k := 5) rfl) rfl ?_
    refine u_iadd (pc := 9) (dec_at lsk_42 (k := 6) rfl) ?_
    have g6 := h.1
    have h := h.2
    have g7 := h.1
    have h := h.2
    refine u_iald (pc := 10) (dec_at lsk_42 (k := 7) rfl) (sa_2_5 hOa) g6 g7 ?_
    refine u_rI (pc := 11) (dec_at lsk_42 (k := 8) rfl) rfl ?_
    refine u_sto (lv' := [.ref a, iV l1, iV l2, iV l3, iV (u.1 (a + 4) ((l1 * 6) + l3))]) (pc := 18) (dec_at lsk_46 (k := 12) rfl) rfl ?_
    refine u_ld (v := iV (u.1 (a + 4) ((l1 * 6) + l3))) (pc := 20) (dec_at lsk_46 (k := 13) rfl) rfl ?_
    refine u_c (x := 100) (pc := 22) (dec_at lsk_46 (k := 14) rfl) rfl (by decide) ?_
    have g8 := h.1
    have h := h.2
    refine u_icT (pc := 24) (tgt := 41) (dec_at lsk_46 (k := 15) rfl) rfl (ci_lt g8 (by decide)) (fun e9 => ?_) (fun e9 => ?_)
    · have h := ifT e9 h
      refine u_inc (lv' := [.ref a, iV l1, iV l2, iV (l3 + 1), iV (u.1 (a + 4) ((l1 * 6) + l3))]) (pc := 41) (dec_at lsk_46 (k := 24) rfl) rfl (by decide) rfl ?_
      refine u_goto (pc := 44) (tgt := 2) (dec_at lsk_46 (k := 25) rfl) rfl ?_
      exact u_weak (sbK (sbK (sbK (sbK (sbD sb0))))) h
    · have h := ifF e9 h
      refine u_ld (v := iV l2) (pc := 27) (dec_at lsk_46 (k := 16) rfl) rfl ?_
      refine u_ld (v := iV (u.1 (a + 4) ((l1 * 6) + l3))) (pc := 28) (dec_at lsk_46 (k := 17) rfl) rfl ?_
      refine u_c (x := 100) (pc := 30) (dec_at lsk_46 (k := 18) rfl) rfl (by decide) ?_
      refine u_isub (pc := 32) (dec_at lsk_46 (k := 19) rfl) ?_
      refine u_csI (As := [iV l2, iV ((u.1 (a + 4) ((l1 * 6) + l3)) - 100)]) (st2 := []) (pc := 33) (dec_at lsk_46 (k := 20) rfl) m_2_83 (Or.inr rfl) rfl (Nat.le_of_ble_eq_true rfl) ?_ (fun _ _ h_ => h_)
      refine u_of me_47 (Nat.le_of_ble_eq_true rfl) ?_
      refine u_ld (v := iV l2) (pc := 0) (dec_at lsk_47 (k := 0) rfl) rfl ?_
      refine u_ld (v := iV ((u.1 (a + 4) ((l1 * 6) + l3)) - 100)) (pc := 1) (dec_at lsk_47 (k := 1) rfl) rfl ?_
      refine u_iushr (pc := 2) (dec_at lsk_47 (k := 2) rfl) ?_
      refine u_ld (v := iV 1) (pc := 3) (dec_at lsk_47 (k := 3) rfl) rfl ?_
      refine u_iand (pc := 4) (dec_at lsk_47 (k := 4) rfl) ?_
      refine u_rI (pc := 5) (dec_at lsk_47 (k := 5) rfl) rfl ?_
      refine u_ifF (pc := 36) (tgt := 41) (dec_at lsk_46 (k := 21) rfl) rfl (c0_ne (ri_toInt _)) (fun e10 => ?_) (fun e10 => ?_)
      · have h := ifT e10 h
        refine u_ld (v := iV 0) (pc := 39) (dec_at lsk_46 (k := 22) rfl) rfl ?_
        exact u_rZ (pc := 40) (dec_at lsk_46 (k := 23) rfl) rfl (by decide) h
      · have h := ifF e10 h
        refine u_inc (lv' := [.ref a, iV l1, iV l2, iV (l3 + 1), iV (u.1 (a + 4) ((l1 * 6) + l3))]) (pc := 41) (dec_at lsk_46 (k := 24) rfl) rfl (by decide) rfl ?_
        refine u_goto (pc := 44) (tgt := 2) (dec_at lsk_46 (k := 25) rfl) rfl ?_
        exact u_weak (sbK (sbK (sbK (sbK (sbD sb0))))) h
  · have h := ifF e5 h
    refine u_ld (v := iV 1) (pc := 47) (dec_at lsk_46 (k := 26) rfl) rfl ?_
    exact u_rZ (pc := 48) (dec_at lsk_46 (k := 27) rfl) rfl (by decide) h
/-- method 48 -/
def K_48 (d pc : Nat) (lv : ev_L) (st : List Value) (u : uS) (Q : uS → Prop) : Prop := okU d 2 3 false none prog_3_method_12_code (qV Q) pc lv st u
theorem e_48 {d : Nat} {Q : uS → Prop} {u : uS} {a : Nat} (hOa : isO a 2) (h : ∀ u1 : uS, u1 = fil u (a + 5) 0 10 9000000000000000000 → (K_48 (d + 1) 12 [.ref a, iV 0, .retAddr 0] [] u1 Q)) : cV (d + 2) 48 [.ref a] u Q := by
  refine u_of me_48 (Nat.le_of_ble_eq_true rfl) ?_
  refine u_ld (v := .ref a) (pc := 0) (dec_at lsk_48 (k := 0) rfl) rfl ?_
  refine u_gS (o := 5) (p := a + 5) (pc := 1) (dec_at lsk_48 (k := 1) rfl) f_2_24 hOa rfl rfl ?_
  refine u_ldc2 (x := 9000000000000000000) (pc := 4) (dec_at lsk_48 (k := 2) rfl) con_2_86 (by decide) ?_
  refine u_csV (As := [.ref (a + 5), lV 9000000000000000000]) (st2 := []) (pc := 7) (dec_at lsk_48 (k := 3) rfl) m_2_88 (Or.inl rfl) rfl (Nat.le_of_ble_eq_true rfl) (q_49 (sa_2_9 hOa)) (fun u1 e2 => ?_)
  have h := h u1 e2
  refine u_ld (v := iV 0) (pc := 10) (dec_at lsk_48 (k := 4) rfl) rfl ?_
  refine u_sto (lv' := [.ref a, iV 0, .retAddr 0]) (pc := 11) (dec_at lsk_48 (k := 5) rfl) rfl ?_
  exact h
theorem k_48_12 {d : Nat} {Q : uS → Prop} {u : uS} {a : Nat} {l1 : Int} (hOa : isO a 2) (h : (rI l1) ∧ ((rI (u.1 a 0)) ∧ (if l1 < u.1 a 0 then (K_48 (d + 1) 22 [.ref a, iV l1, iV 0] [] u Q) else (Q u)))) : K_48 (d + 1) 12 [.ref a, iV l1, .retAddr 0] [] u Q := by
  unfold K_48
  refine u_ld (v := iV l1) (pc := 12) (dec_at lsk_48 (k := 6) rfl) rfl ?_
  refine u_ld (v := .ref a) (pc := 13) (dec_at lsk_48 (k := 7) rfl) rfl ?_
  refine u_gI (z := 0) (pc := 14) (dec_at lsk_48 (k := 8) rfl) f_2_37 hOa rfl rfl ?_
  have g1 := h.1
  have h := h.2
  have g2 := h.1
  have h := h.2
  refine u_icF (pc := 17) (tgt := 72) (dec_at lsk_48 (k := 9) rfl) rfl (ci_ge g1 g2) (fun e3 => ?_) (fun e3 => ?_)
  · have h := ifT e3 h
    refine u_ld (v := iV 0) (pc := 20) (dec_at lsk_48 (k := 10) rfl) rfl ?_
    refine u_sto (lv' := [.ref a, iV l1, iV 0]) (pc := 21) (dec_at lsk_48 (k := 11) rfl) rfl ?_
    exact h
  · have h := ifF e3 h
    exact u_rV (pc := 72) (dec_at lsk_48 (k := 38) rfl) rfl h
theorem k_48_22 {d : Nat} {Q : uS → Prop} {u : uS} {a : Nat} {l1 l2 : Int} (hOa : isO a 2) (h : (rI l2) ∧ ((rI (u.1 a 1)) ∧ (if l2 < u.1 a 1 then ((0 ≤ l2) ∧ ((l2 < 30) ∧ ((0 ≤ u.1 (a + 2) l2) ∧ ((u.1 (a + 2) l2 < 10) ∧ (cL (d + 1) 50 [.ref a, iV l2] u (fun r9 u8 => (rL (u.1 (a + 5) (u.1 (a + 2) l2))) ∧ ((rL r9) ∧ (∀ u12 : uS, u12 = wr u8 (a + 5) (u.1 (a + 2) l2) (min (u.1 (a + 5) (u.1 (a + 2) l2)) r9) → (K_48 (d + 1) 22 [.ref a, iV l1, iV (l2 + 1)] [] u12 Q))))))))) else (K_48 (d + 1) 12 [.ref a, iV (l1 + 1), .retAddr 0] [] u Q)))) : K_48 (d + 1) 22 [.ref a, iV l1, iV l2] [] u Q := by
  unfold K_48
  refine u_ld (v := iV l2) (pc := 22) (dec_at lsk_48 (k := 12) rfl) rfl ?_
  refine u_ld (v := .ref a) (pc := 23) (dec_at lsk_48 (k := 13) rfl) rfl ?_
  refine u_gI (z := 1) (pc := 24) (dec_at lsk_48 (k := 14) rfl) f_2_41 hOa rfl rfl ?_
  have g1 := h.1
  have h := h.2
  have g2 := h.1
  have h := h.2
  refine u_icF (pc := 27) (tgt := 66) (dec_at lsk_48 (k := 15) rfl) rfl (ci_ge g1 g2) (fun e3 => ?_) (fun e3 => ?_)
  · have h := ifT e3 h
    refine u_ld (v := .ref a) (pc := 30) (dec_at lsk_48 (k := 16) rfl) rfl ?_
    refine u_gS (o := 5) (p := a + 5) (pc := 31) (dec_at lsk_48 (k := 17) rfl) f_2_24 hOa rfl rfl ?_
    refine u_ld (v := .ref a) (pc := 34) (dec_at lsk_48 (k := 18) rfl) rfl ?_
    refine u_gS (o := 2) (p := a + 2) (pc := 35) (dec_at lsk_48 (k := 19) rfl) f_2_15 hOa rfl rfl ?_
    refine u_ld (v := iV l2) (pc := 38) (dec_at lsk_48 (k := 20) rfl) rfl ?_
    have g4 := h.1
    have h := h.2
    have g5 := h.1
    have h := h.2
    refine u_iald (pc := 39) (dec_at lsk_48 (k := 21) rfl) (sa_2_3 hOa) g4 g5 ?_
    refine u_ld (v := .ref a) (pc := 40) (dec_at lsk_48 (k := 22) rfl) rfl ?_
    refine u_gS (o := 5) (p := a + 5) (pc := 41) (dec_at lsk_48 (k := 23) rfl) f_2_24 hOa rfl rfl ?_
    refine u_ld (v := .ref a) (pc := 44) (dec_at lsk_48 (k := 24) rfl) rfl ?_
    refine u_gS (o := 2) (p := a + 2) (pc := 45) (dec_at lsk_48 (k := 25) rfl) f_2_15 hOa rfl rfl ?_
    refine u_ld (v := iV l2) (pc := 48) (dec_at lsk_48 (k := 26) rfl) rfl ?_
    refine u_iald (pc := 49) (dec_at lsk_48 (k := 27) rfl) (sa_2_3 hOa) g4 g5 ?_
    have g6 := h.1
    have h := h.2
    have g7 := h.1
    have h := h.2
    refine u_lald (pc := 50) (dec_at lsk_48 (k := 28) rfl) (sa_2_9 hOa) g6 g7 ?_
    refine u_ld (v := .ref a) (pc := 51) (dec_at lsk_48 (k := 29) rfl) rfl ?_
    refine u_ld (v := iV l2) (pc := 52) (dec_at lsk_48 (k := 30) rfl) rfl ?_
    refine u_cvL (As := [iV l2]) (rb := a) (st2 := [lV (u.1 (a + 5) (u.1 (a + 2) l2)), iV (u.1 (a + 2) l2), .ref (a + 5)]) (pc := 53) (dec_at lsk_48 (k := 31) rfl) m_2_91 (Or.inl rfl) rfl (Nat.le_of_ble_eq_true rfl) hOa me_50 rfl h (fun r9 u8 h => ?_)
    have g10 := h.1
    have h := h.2
    have g11 := h.1
    have h := h.2
    refine u_minL (pc := 56) (dec_at lsk_48 (k := 32) rfl) m_2_95 g10 g11 (Nat.le_of_ble_eq_true rfl) ?_
    refine u_last (pc := 59) (dec_at lsk_48 (k := 33) rfl) (sa_2_9 hOa) g6 g7 (fun u12 e13 => ?_)
    have h := h u12 e13
    refine u_inc (lv' := [.ref a, iV l1, iV (l2 + 1)]) (pc := 60) (dec_at lsk_48 (k := 34) rfl) rfl (by decide) rfl ?_
    refine u_goto (pc := 63) (tgt := 22) (dec_at lsk_48 (k := 35) rfl) rfl ?_
    exact h
  · have h := ifF e3 h
    refine u_inc (lv' := [.ref a, iV (l1 + 1), iV l2]) (pc := 66) (dec_at lsk_48 (k := 36) rfl) rfl (by decide) rfl ?_
    refine u_goto (pc := 69) (tgt := 12) (dec_at lsk_48 (k := 37) rfl) rfl ?_
    exact u_weak (sbK (sbK (sbD sb0))) h
/-- method 50 -/
def K_50 (d pc : Nat) (lv : ev_L) (st : List Value) (u : uS) (Q : Int → uS → Prop) : Prop := okU d 2 6 false (some .long) prog_3_method_13_code (qL Q) pc lv st u
theorem e_50 {d : Nat} {Q : Int → uS → Prop} {u : uS} {a : Nat} {l1 : Int} (hOa : isO a 2) (h : K_50 (d + 1) 5 [.ref a, iV l1, lV 0, .retAddr 0, iV 0, .retAddr 0] [] u Q) : cL (d + 2) 50 [.ref a, iV l1] u Q := by
  refine u_of me_50 (Nat.le_of_ble_eq_true rfl) ?_
  refine u_cl (x := 0) (pc := 0) (dec_at lsk_50 (k := 0) rfl) rfl (by decide) ?_
  refine u_sto (lv' := [.ref a, iV l1, lV 0, .retAddr 0, .retAddr 0, .retAddr 0]) (pc := 1) (dec_at lsk_50 (k := 1) rfl) rfl ?_
  refine u_ld (v := iV 0) (pc := 2) (dec_at lsk_50 (k := 2) rfl) rfl ?_
  refine u_sto (lv' := [.ref a, iV l1, lV 0, .retAddr 0, iV 0, .retAddr 0]) (pc := 3) (dec_at lsk_50 (k := 3) rfl) rfl ?_
  exact h
theorem k_50_5 {d : Nat} {Q : Int → uS → Prop} {u : uS} {a : Nat} {l1 l2 l4 : Int} (hOa : isO a 2) (h : (0 ≤ l1) ∧ ((l1 < 30) ∧ ((rI l4) ∧ ((rI (u.1 (a + 3) l1)) ∧ (if l4 < u.1 (a + 3) l1 then ((0 ≤ (l1 * 6) + l4) ∧ (((l1 * 6) + l4 < 180) ∧ ((rI (u.1 (a + 4) ((l1 * 6) + l4))) ∧ (if u.1 (a + 4) ((l1 * 6) + l4) < 100 then ((cn 9000000000000000000 l2) ∧ ((cn 9000000000000000000 1) ∧ (K_50 (d + 1) 5 [.ref a, iV l1, lV (pl 9000000000000000000 l2 1), .retAddr 0, iV (l4 + 1), .retAddr 0] [] u Q))) else ((0 ≤ (u.1 (a + 4) ((l1 * 6) + l4)) - 100) ∧ (((u.1 (a + 4) ((l1 * 6) + l4)) - 100 < 10) ∧ ((cn 9000000000000000000 l2) ∧ ((cn 9000000000000000000 (u.1 (a + 5) ((u.1 (a + 4) ((l1 * 6) + l4)) - 100))) ∧ (K_50 (d + 1) 5 [.ref a, iV l1, lV (pl 9000000000000000000 l2 (u.1 (a + 5) ((u.1 (a + 4) ((l1 * 6) + l4)) - 100))), .retAddr 0, iV (l4 + 1), .retAddr 0] [] u Q))))))))) else (Q l2 u)))))) : K_50 (d + 1) 5 [.ref a, iV l1, lV l2, .retAddr 0, iV l4, .retAddr 0] [] u Q := by
  unfold K_50
  refine u_ld (v := iV l4) (pc := 5) (dec_at lsk_50 (k := 4) rfl) rfl ?_
  refine u_ld (v := .ref a) (pc := 7) (dec_at lsk_50 (k := 5) rfl) rfl ?_
  refine u_gS (o := 3) (p := a + 3) (pc := 8) (dec_at lsk_50 (k := 6) rfl) f_2_18 hOa rfl rfl ?_
  refine u_ld (v := iV l1) (pc := 11) (dec_at lsk_50 (k := 7) rfl) rfl ?_
  have g1 := h.1
  have h := h.2
  have g2 := h.1
  have h := h.2
  refine u_iald (pc := 12) (dec_at lsk_50 (k := 8) rfl) (sa_2_4 hOa) g1 g2 ?_
  have g3 := h.1
  have h := h.2
  have g4 := h.1
  have h := h.2
  refine u_icF (pc := 13) (tgt := 57) (dec_at lsk_50 (k := 9) rfl) rfl (ci_ge g3 g4) (fun e5 => ?_) (fun e5 => ?_)
  · have h := ifT e5 h
    refine u_ld (v := .ref a) (pc := 16) (dec_at lsk_50 (k := 10) rfl) rfl ?_
    refine u_ld (v := iV l1) (pc := 17) (dec_at lsk_50 (k := 11) rfl) rfl ?_
    refine u_ld (v := iV l4) (pc := 18) (dec_at lsk_50 (k := 12) rfl) rfl ?_
    refine u_cvI (As := [iV l1, iV l4]) (rb := a) (st2 := []) (pc := 20) (dec_at lsk_50 (k := 13) rfl) m_2_79 (Or.inl rfl) rfl (Nat.le_of_ble_eq_true rfl) hOa me_42 rfl ?_ (fun _ _ h_ => h_)
    refine u_of me_42 (Nat.le_of_ble_eq_true rfl) ?_
    refine u_ld (v := .ref a) (pc := 0) (dec_at lsk_42 (k := 0) rfl) rfl ?_
    refine u_gS (o := 4) (p := a + 4) (pc := 1) (dec_at lsk_42 (k := 1) rfl) f_2_21 hOa rfl rfl ?_
    refine u_ld (v := iV l1) (pc := 4) (dec_at lsk_42 (k := 2) rfl) rfl ?_
    refine u_c (x := 6) (pc := 5) (dec_at lsk_42 (k := 3) rfl) rfl (by decide) ?_
    refine u_imul (pc := 7) (dec_at lsk_42 (k := 4) rfl) ?_
    refine u_ld (v := iV l4) (pc := 8) (dec_at lsk_42 (k := 5) rfl) rfl ?_
    refine u_iadd (pc := 9) (dec_at lsk_42 (k := 6) rfl) ?_
    have g6 := h.1
    have h := h.2
    have g7 := h.1
    have h := h.2
    refine u_iald (pc := 10) (dec_at lsk_42 (k := 7) rfl) (sa_2_5 hOa) g6 g7 ?_
    refine u_rI (pc := 11) (dec_at lsk_42 (k := 8) rfl) rfl ?_
    refine u_sto (lv' := [.ref a, iV l1, lV l2, .retAddr 0, iV l4, iV (u.1 (a + 4) ((l1 * 6) + l4))]) (pc := 23) (dec_at lsk_50 (k := 14) rfl) rfl ?_
    refine u_ld (v := lV l2) (pc := 25) (dec_at lsk_50 (k := 15) rfl) rfl ?_
    refine u_ld (v := iV (u.1 (a + 4) ((l1 * 6) + l4))) (pc := 26) (dec_at lsk_50 (k := 16) rfl) rfl ?_
    refine u_c (x := 100) (pc := 28) (dec_at lsk_50 (k := 17) rfl) rfl (by decide) ?_
    have g8 := h.1
    have h := h.2
    refine u_icF (pc := 30) (tgt := 37) (dec_at lsk_50 (k := 18) rfl) rfl (ci_ge g8 (by decide)) (fun e9 => ?_) (fun e9 => ?_)
    · have h := ifT e9 h
      refine u_cl (x := 1) (pc := 33) (dec_at lsk_50 (k := 19) rfl) rfl (by decide) ?_
      refine u_goto (pc := 34) (tgt := 47) (dec_at lsk_50 (k := 20) rfl) rfl ?_
      have g10 := h.1
      have h := h.2
      have g11 := h.1
      have h := h.2
      refine u_csL (As := [lV l2, lV 1]) (st2 := []) (pc := 47) (dec_at lsk_50 (k := 27) rfl) m_2_101 (Or.inr rfl) rfl (Nat.le_of_ble_eq_true rfl) (p_51 g10 g11) (fun r_ u_ h_ => ?_)
      rw [h_.1, h_.2]
      refine u_sto (lv' := [.ref a, iV l1, lV (pl 9000000000000000000 l2 1), .retAddr 0, iV l4, iV (u.1 (a + 4) ((l1 * 6) + l4))]) (pc := 50) (dec_at lsk_50 (k := 28) rfl) rfl ?_
      refine u_inc (lv' := [.ref a, iV l1, lV (pl 9000000000000000000 l2 1), .retAddr 0, iV (l4 + 1), iV (u.1 (a + 4) ((l1 * 6) + l4))]) (pc := 51) (dec_at lsk_50 (k := 29) rfl) rfl (by decide) rfl ?_
      refine u_goto (pc := 54) (tgt := 5) (dec_at lsk_50 (k := 30) rfl) rfl ?_
      exact u_weak (sbK (sbK (sbK (sbK (sbK (sbD sb0)))))) h
    · have h := ifF e9 h
      refine u_ld (v := .ref a) (pc := 37) (dec_at lsk_50 (k := 21) rfl) rfl ?_
      refine u_gS (o := 5) (p := a + 5) (pc := 38) (dec_at lsk_50 (k := 22) rfl) f_2_24 hOa rfl rfl ?_
      refine u_ld (v := iV (u.1 (a + 4) ((l1 * 6) + l4))) (pc := 41) (dec_at lsk_50 (k := 23) rfl) rfl ?_
      refine u_c (x := 100) (pc := 43) (dec_at lsk_50 (k := 24) rfl) rfl (by decide) ?_
      refine u_isub (pc := 45) (dec_at lsk_50 (k := 25) rfl) ?_
      have g12 := h.1
      have h := h.2
      have g13 := h.1
      have h := h.2
      refine u_lald (pc := 46) (dec_at lsk_50 (k := 26) rfl) (sa_2_9 hOa) g12 g13 ?_
      have g14 := h.1
      have h := h.2
      have g15 := h.1
      have h := h.2
      refine u_csL (As := [lV l2, lV (u.1 (a + 5) ((u.1 (a + 4) ((l1 * 6) + l4)) - 100))]) (st2 := []) (pc := 47) (dec_at lsk_50 (k := 27) rfl) m_2_101 (Or.inr rfl) rfl (Nat.le_of_ble_eq_true rfl) (p_51 g14 g15) (fun r_ u_ h_ => ?_)
      rw [h_.1, h_.2]
      refine u_sto (lv' := [.ref a, iV l1, lV (pl 9000000000000000000 l2 (u.1 (a + 5) ((u.1 (a + 4) ((l1 * 6) + l4)) - 100))), .retAddr 0, iV l4, iV (u.1 (a + 4) ((l1 * 6) + l4))]) (pc := 50) (dec_at lsk_50 (k := 28) rfl) rfl ?_
      refine u_inc (lv' := [.ref a, iV l1, lV (pl 9000000000000000000 l2 (u.1 (a + 5) ((u.1 (a + 4) ((l1 * 6) + l4)) - 100))), .retAddr 0, iV (l4 + 1), iV (u.1 (a + 4) ((l1 * 6) + l4))]) (pc := 51) (dec_at lsk_50 (k := 29) rfl) rfl (by decide) rfl ?_
      refine u_goto (pc := 54) (tgt := 5) (dec_at lsk_50 (k := 30) rfl) rfl ?_
      exact u_weak (sbK (sbK (sbK (sbK (sbK (sbD sb0)))))) h
  · have h := ifF e5 h
    refine u_ld (v := lV l2) (pc := 57) (dec_at lsk_50 (k := 31) rfl) rfl ?_
    exact u_rL (pc := 58) (dec_at lsk_50 (k := 32) rfl) rfl h
/-- method 53 -/
def K_53 (d pc : Nat) (lv : ev_L) (st : List Value) (u : uS) (Q : uS → Prop) : Prop := okU d 2 3 false none prog_3_method_14_code (qV Q) pc lv st u
theorem e_53 {d : Nat} {Q : uS → Prop} {u : uS} {a : Nat} (hOa : isO a 2) (h : ∀ u1 : uS, u1 = wr u a 7 (iand (u.1 a 6) 1) → (K_53 (d + 1) 12 [.ref a, iV 0, .retAddr 0] [] u1 Q)) : cV (d + 2) 53 [.ref a] u Q := by
  refine u_of me_53 (Nat.le_of_ble_eq_true rfl) ?_
  refine u_ld (v := .ref a) (pc := 0) (dec_at lsk_53 (k := 0) rfl) rfl ?_
  refine u_ld (v := .ref a) (pc := 1) (dec_at lsk_53 (k := 1) rfl) rfl ?_
  refine u_gI (z := 6) (pc := 2) (dec_at lsk_53 (k := 2) rfl) f_2_66 hOa rfl rfl ?_
  refine u_ld (v := iV 1) (pc := 5) (dec_at lsk_53 (k := 3) rfl) rfl ?_
  refine u_iand (pc := 6) (dec_at lsk_53 (k := 4) rfl) ?_
  refine u_pI (z := 7) (pc := 7) (dec_at lsk_53 (k := 5) rfl) f_2_104 hOa rfl rfl rfl rfl (fun u1 e2 => ?_)
  have h := h u1 e2
  refine u_ld (v := iV 0) (pc := 10) (dec_at lsk_53 (k := 6) rfl) rfl ?_
  refine u_sto (lv' := [.ref a, iV 0, .retAddr 0]) (pc := 11) (dec_at lsk_53 (k := 7) rfl) rfl ?_
  exact h
theorem k_53_12 {d : Nat} {Q : uS → Prop} {u : uS} {a : Nat} {l1 : Int} (hOa : isO a 2) (h : (rI l1) ∧ ((rI (u.1 a 0)) ∧ (if l1 < u.1 a 0 then (K_53 (d + 1) 22 [.ref a, iV l1, iV 0] [] u Q) else (Q u)))) : K_53 (d + 1) 12 [.ref a, iV l1, .retAddr 0] [] u Q := by
  unfold K_53
  refine u_ld (v := iV l1) (pc := 12) (dec_at lsk_53 (k := 8) rfl) rfl ?_
  refine u_ld (v := .ref a) (pc := 13) (dec_at lsk_53 (k := 9) rfl) rfl ?_
  refine u_gI (z := 0) (pc := 14) (dec_at lsk_53 (k := 10) rfl) f_2_37 hOa rfl rfl ?_
  have g1 := h.1
  have h := h.2
  have g2 := h.1
  have h := h.2
  refine u_icF (pc := 17) (tgt := 85) (dec_at lsk_53 (k := 11) rfl) rfl (ci_ge g1 g2) (fun e3 => ?_) (fun e3 => ?_)
  · have h := ifT e3 h
    refine u_ld (v := iV 0) (pc := 20) (dec_at lsk_53 (k := 12) rfl) rfl ?_
    refine u_sto (lv' := [.ref a, iV l1, iV 0]) (pc := 21) (dec_at lsk_53 (k := 13) rfl) rfl ?_
    exact h
  · have h := ifF e3 h
    exact u_rV (pc := 85) (dec_at lsk_53 (k := 45) rfl) rfl h
theorem k_53_22 {d : Nat} {Q : uS → Prop} {u : uS} {a : Nat} {l1 l2 : Int} (hOa : isO a 2) (h : (rI l2) ∧ ((rI (u.1 a 1)) ∧ (if l2 < u.1 a 1 then ((0 ≤ l2) ∧ ((l2 < 30) ∧ (if iand (iushr (u.1 a 7) (u.1 (a + 2) l2)) 1 = 1 then (cI (d + 1) 46 [.ref a, iV l2, iV (u.1 a 6)] u (fun r8 u7 => (rI r8) ∧ (if r8 = 0 then (K_53 (d + 1) 22 [.ref a, iV l1, iV (l2 + 1)] [] u7 Q) else (cI (d + 1) 54 [.ref a, iV l2] u7 (fun r12 u11 => ∀ u13 : uS, u13 = wr u11 a 7 (ior (u7.1 a 7) r12) → (K_53 (d + 1) 22 [.ref a, iV l1, iV (l2 + 1)] [] u13 Q)))))) else (K_53 (d + 1) 22 [.ref a, iV l1, iV (l2 + 1)] [] u Q)))) else (K_53 (d + 1) 12 [.ref a, iV (l1 + 1), .retAddr 0] [] u Q)))) : K_53 (d + 1) 22 [.ref a, iV l1, iV l2] [] u Q := by
  unfold K_53
  refine u_ld (v := iV l2) (pc := 22) (dec_at lsk_53 (k := 14) rfl) rfl ?_
  refine u_ld (v := .ref a) (pc := 23) (dec_at lsk_53 (k := 15) rfl) rfl ?_
  refine u_gI (z := 1) (pc := 24) (dec_at lsk_53 (k := 16) rfl) f_2_41 hOa rfl rfl ?_
  have g1 := h.1
  have h := h.2
  have g2 := h.1
  have h := h.2
  refine u_icF (pc := 27) (tgt := 79) (dec_at lsk_53 (k := 17) rfl) rfl (ci_ge g1 g2) (fun e3 => ?_) (fun e3 => ?_)
  · have h := ifT e3 h
    refine u_ld (v := .ref a) (pc := 30) (dec_at lsk_53 (k := 18) rfl) rfl ?_
    refine u_gI (z := 7) (pc := 31) (dec_at lsk_53 (k := 19) rfl) f_2_104 hOa rfl rfl ?_
    refine u_ld (v := .ref a) (pc := 34) (dec_at lsk_53 (k := 20) rfl) rfl ?_
    refine u_gS (o := 2) (p := a + 2) (pc := 35) (dec_at lsk_53 (k := 21) rfl) f_2_15 hOa rfl rfl ?_
    refine u_ld (v := iV l2) (pc := 38) (dec_at lsk_53 (k := 22) rfl) rfl ?_
    have g4 := h.1
    have h := h.2
    have g5 := h.1
    have h := h.2
    refine u_iald (pc := 39) (dec_at lsk_53 (k := 23) rfl) (sa_2_3 hOa) g4 g5 ?_
    refine u_csI (As := [iV (u.1 a 7), iV (u.1 (a + 2) l2)]) (st2 := []) (pc := 40) (dec_at lsk_53 (k := 24) rfl) m_2_83 (Or.inr rfl) rfl (Nat.le_of_ble_eq_true rfl) ?_ (fun _ _ h_ => h_)
    refine u_of me_47 (Nat.le_of_ble_eq_true rfl) ?_
    refine u_ld (v := iV (u.1 a 7)) (pc := 0) (dec_at lsk_47 (k := 0) rfl) rfl ?_
    refine u_ld (v := iV (u.1 (a + 2) l2)) (pc := 1) (dec_at lsk_47 (k := 1) rfl) rfl ?_
    refine u_iushr (pc := 2) (dec_at lsk_47 (k := 2) rfl) ?_
    refine u_ld (v := iV 1) (pc := 3) (dec_at lsk_47 (k := 3) rfl) rfl ?_
    refine u_iand (pc := 4) (dec_at lsk_47 (k := 4) rfl) ?_
    refine u_rI (pc := 5) (dec_at lsk_47 (k := 5) rfl) rfl ?_
    refine u_ld (v := iV 1) (pc := 43) (dec_at lsk_53 (k := 25) rfl) rfl ?_
    refine u_icF (pc := 44) (tgt := 73) (dec_at lsk_53 (k := 26) rfl) rfl (ci_ne (ri_toInt _) (by decide)) (fun e6 => ?_) (fun e6 => ?_)
    · have h := ifT e6 h
      refine u_ld (v := .ref a) (pc := 47) (dec_at lsk_53 (k := 27) rfl) rfl ?_
      refine u_ld (v := iV l2) (pc := 48) (dec_at lsk_53 (k := 28) rfl) rfl ?_
      refine u_ld (v := .ref a) (pc := 49) (dec_at lsk_53 (k := 29) rfl) rfl ?_
      refine u_gI (z := 6) (pc := 50) (dec_at lsk_53 (k := 30) rfl) f_2_66 hOa rfl rfl ?_
      refine u_cvI (As := [iV l2, iV (u.1 a 6)]) (rb := a) (st2 := []) (pc := 53) (dec_at lsk_53 (k := 31) rfl) m_2_75 (Or.inl rfl) rfl (Nat.le_of_ble_eq_true rfl) hOa me_46 rfl h (fun r8 u7 h => ?_)
      have g9 := h.1
      have h := h.2
      refine u_ifT (pc := 56) (tgt := 73) (dec_at lsk_53 (k := 32) rfl) rfl (c0_eq g9) (fun e10 => ?_) (fun e10 => ?_)
      · have h := ifT e10 h
        refine u_inc (lv' := [.ref a, iV l1, iV (l2 + 1)]) (pc := 73) (dec_at lsk_53 (k := 41) rfl) rfl (by decide) rfl ?_
        refine u_goto (pc := 76) (tgt := 22) (dec_at lsk_53 (k := 42) rfl) rfl ?_
        exact h
      · have h := ifF e10 h
        refine u_ld (v := .ref a) (pc := 59) (dec_at lsk_53 (k := 33) rfl) rfl ?_
        refine u_ld (v := .ref a) (pc := 60) (dec_at lsk_53 (k := 34) rfl) rfl ?_
        refine u_gI (z := 7) (pc := 61) (dec_at lsk_53 (k := 35) rfl) f_2_104 hOa rfl rfl ?_
        refine u_ld (v := .ref a) (pc := 64) (dec_at lsk_53 (k := 36) rfl) rfl ?_
        refine u_ld (v := iV l2) (pc := 65) (dec_at lsk_53 (k := 37) rfl) rfl ?_
        refine u_cvI (As := [iV l2]) (rb := a) (st2 := [iV (u7.1 a 7), .ref a]) (pc := 66) (dec_at lsk_53 (k := 38) rfl) m_2_107 (Or.inl rfl) rfl (Nat.le_of_ble_eq_true rfl) hOa me_54 rfl h (fun r12 u11 h => ?_)
        refine u_ior (pc := 69) (dec_at lsk_53 (k := 39) rfl) ?_
        refine u_pI (z := 7) (pc := 70) (dec_at lsk_53 (k := 40) rfl) f_2_104 hOa rfl rfl rfl rfl (fun u13 e14 => ?_)
        have h := h u13 e14
        refine u_inc (lv' := [.ref a, iV l1, iV (l2 + 1)]) (pc := 73) (dec_at lsk_53 (k := 41) rfl) rfl (by decide) rfl ?_
        refine u_goto (pc := 76) (tgt := 22) (dec_at lsk_53 (k := 42) rfl) rfl ?_
        exact h
    · have h := ifF e6 h
      refine u_inc (lv' := [.ref a, iV l1, iV (l2 + 1)]) (pc := 73) (dec_at lsk_53 (k := 41) rfl) rfl (by decide) rfl ?_
      refine u_goto (pc := 76) (tgt := 22) (dec_at lsk_53 (k := 42) rfl) rfl ?_
      exact h
  · have h := ifF e3 h
    refine u_inc (lv' := [.ref a, iV (l1 + 1), iV l2]) (pc := 79) (dec_at lsk_53 (k := 43) rfl) rfl (by decide) rfl ?_
    refine u_goto (pc := 82) (tgt := 12) (dec_at lsk_53 (k := 44) rfl) rfl ?_
    exact u_weak (sbK (sbK (sbD sb0))) h
/-- method 54 -/
def K_54 (d pc : Nat) (lv : ev_L) (st : List Value) (u : uS) (Q : Int → uS → Prop) : Prop := okU d 2 5 false (some .int) prog_3_method_15_code (qI Q) pc lv st u
theorem e_54 {d : Nat} {Q : Int → uS → Prop} {u : uS} {a : Nat} {l1 : Int} (hOa : isO a 2) (h : K_54 (d + 1) 4 [.ref a, iV l1, iV 0, iV 0, .retAddr 0] [] u Q) : cI (d + 2) 54 [.ref a, iV l1] u Q := by
  refine u_of me_54 (Nat.le_of_ble_eq_true rfl) ?_
  refine u_ld (v := iV 0) (pc := 0) (dec_at lsk_54 (k := 0) rfl) rfl ?_
  refine u_sto (lv' := [.ref a, iV l1, iV 0, .retAddr 0, .retAddr 0]) (pc := 1) (dec_at lsk_54 (k := 1) rfl) rfl ?_
  refine u_ld (v := iV 0) (pc := 2) (dec_at lsk_54 (k := 2) rfl) rfl ?_
  refine u_sto (lv' := [.ref a, iV l1, iV 0, iV 0, .retAddr 0]) (pc := 3) (dec_at lsk_54 (k := 3) rfl) rfl ?_
  exact h
theorem k_54_4 {d : Nat} {Q : Int → uS → Prop} {u : uS} {a : Nat} {l1 l2 l3 : Int} (hOa : isO a 2) (h : (0 ≤ l1) ∧ ((l1 < 30) ∧ ((rI l3) ∧ ((rI (u.1 (a + 3) l1)) ∧ (if l3 < u.1 (a + 3) l1 then ((0 ≤ (l1 * 6) + l3) ∧ (((l1 * 6) + l3 < 180) ∧ ((rI (u.1 (a + 4) ((l1 * 6) + l3))) ∧ (if u.1 (a + 4) ((l1 * 6) + l3) < 100 then (K_54 (d + 1) 4 [.ref a, iV l1, iV l2, iV (l3 + 1), .retAddr 0] [] u Q) else (K_54 (d + 1) 4 [.ref a, iV l1, iV (ior l2 (ishl 1 ((u.1 (a + 4) ((l1 * 6) + l3)) - 100))), iV (l3 + 1), .retAddr 0] [] u Q))))) else (Q l2 u)))))) : K_54 (d + 1) 4 [.ref a, iV l1, iV l2, iV l3, .retAddr 0] [] u Q := by
  unfold K_54
  refine u_ld (v := iV l3) (pc := 4) (dec_at lsk_54 (k := 4) rfl) rfl ?_
  refine u_ld (v := .ref a) (pc := 5) (dec_at lsk_54 (k := 5) rfl) rfl ?_
  refine u_gS (o := 3) (p := a + 3) (pc := 6) (dec_at lsk_54 (k := 6) rfl) f_2_18 hOa rfl rfl ?_
  refine u_ld (v := iV l1) (pc := 9) (dec_at lsk_54 (k := 7) rfl) rfl ?_
  have g1 := h.1
  have h := h.2
  have g2 := h.1
  have h := h.2
  refine u_iald (pc := 10) (dec_at lsk_54 (k := 8) rfl) (sa_2_4 hOa) g1 g2 ?_
  have g3 := h.1
  have h := h.2
  have g4 := h.1
  have h := h.2
  refine u_icF (pc := 11) (tgt := 45) (dec_at lsk_54 (k := 9) rfl) rfl (ci_ge g3 g4) (fun e5 => ?_) (fun e5 => ?_)
  · have h := ifT e5 h
    refine u_ld (v := .ref a) (pc := 14) (dec_at lsk_54 (k := 10) rfl) rfl ?_
    refine u_ld (v := iV l1) (pc := 15) (dec_at lsk_54 (k := 11) rfl) rfl ?_
    refine u_ld (v := iV l3) (pc := 16) (dec_at lsk_54 (k := 12) rfl) rfl ?_
    refine u_cvI (As := [iV l1, iV l3]) (rb := a) (st2 := []) (pc := 17) (dec_at lsk_54 (k := 13) rfl) m_2_79 (Or.inl rfl) rfl (Nat.le_of_ble_eq_true rfl) hOa me_42 rfl ?_ (fun _ _ h_ => h_)
    refine u_of me_42 (Nat.le_of_ble_eq_true rfl) ?_
    refine u_ld (v := .ref a) (pc := 0) (dec_at lsk_42 (k := 0) rfl) rfl ?_
    refine u_gS (o := 4) (p := a + 4) (pc := 1) (dec_at lsk_42 (k := 1) rfl) f_2_21 hOa rfl rfl ?_
    refine u_ld (v := iV l1) (pc := 4) (dec_at lsk_42 (k := 2) rfl) rfl ?_
    refine u_c (x := 6) (pc := 5) (dec_at lsk_42 (k := 3) rfl) rfl (by decide) ?_
    refine u_imul (pc := 7) (dec_at lsk_42 (k := 4) rfl) ?_
    refine u_ld (v := iV l3) (pc := 8) (dec_at lsk_42 (k := 5) rfl) rfl ?_
    refine u_iadd (pc := 9) (dec_at lsk_42 (k := 6) rfl) ?_
    have g6 := h.1
    have h := h.2
    have g7 := h.1
    have h := h.2
    refine u_iald (pc := 10) (dec_at lsk_42 (k := 7) rfl) (sa_2_5 hOa) g6 g7 ?_
    refine u_rI (pc := 11) (dec_at lsk_42 (k := 8) rfl) rfl ?_
    refine u_sto (lv' := [.ref a, iV l1, iV l2, iV l3, iV (u.1 (a + 4) ((l1 * 6) + l3))]) (pc := 20) (dec_at lsk_54 (k := 14) rfl) rfl ?_
    refine u_ld (v := iV (u.1 (a + 4) ((l1 * 6) + l3))) (pc := 22) (dec_at lsk_54 (k := 15) rfl) rfl ?_
    refine u_c (x := 100) (pc := 24) (dec_at lsk_54 (k := 16) rfl) rfl (by decide) ?_
    have g8 := h.1
    have h := h.2
    refine u_icT (pc := 26) (tgt := 39) (dec_at lsk_54 (k := 17) rfl) rfl (ci_lt g8 (by decide)) (fun e9 => ?_) (fun e9 => ?_)
    · have h := ifT e9 h
      refine u_inc (lv' := [.ref a, iV l1, iV l2, iV (l3 + 1), iV (u.1 (a + 4) ((l1 * 6) + l3))]) (pc := 39) (dec_at lsk_54 (k := 26) rfl) rfl (by decide) rfl ?_
      refine u_goto (pc := 42) (tgt := 4) (dec_at lsk_54 (k := 27) rfl) rfl ?_
      exact u_weak (sbK (sbK (sbK (sbK (sbD sb0))))) h
    · have h := ifF e9 h
      refine u_ld (v := iV l2) (pc := 29) (dec_at lsk_54 (k := 18) rfl) rfl ?_
      refine u_ld (v := iV 1) (pc := 30) (dec_at lsk_54 (k := 19) rfl) rfl ?_
      refine u_ld (v := iV (u.1 (a + 4) ((l1 * 6) + l3))) (pc := 31) (dec_at lsk_54 (k := 20) rfl) rfl ?_
      refine u_c (x := 100) (pc := 33) (dec_at lsk_54 (k := 21) rfl) rfl (by decide) ?_
      refine u_isub (pc := 35) (dec_at lsk_54 (k := 22) rfl) ?_
      refine u_ishl (pc := 36) (dec_at lsk_54 (k := 23) rfl) ?_
      refine u_ior (pc := 37) (dec_at lsk_54 (k := 24) rfl) ?_
      refine u_sto (lv' := [.ref a, iV l1, iV (ior l2 (ishl 1 ((u.1 (a + 4) ((l1 * 6) + l3)) - 100))), iV l3, iV (u.1 (a + 4) ((l1 * 6) + l3))]) (pc := 38) (dec_at lsk_54 (k := 25) rfl) rfl ?_
      refine u_inc (lv' := [.ref a, iV l1, iV (ior l2 (ishl 1 ((u.1 (a + 4) ((l1 * 6) + l3)) - 100))), iV (l3 + 1), iV (u.1 (a + 4) ((l1 * 6) + l3))]) (pc := 39) (dec_at lsk_54 (k := 26) rfl) rfl (by decide) rfl ?_
      refine u_goto (pc := 42) (tgt := 4) (dec_at lsk_54 (k := 27) rfl) rfl ?_
      exact u_weak (sbK (sbK (sbK (sbK (sbD sb0))))) h
  · have h := ifF e5 h
    refine u_ld (v := iV l2) (pc := 45) (dec_at lsk_54 (k := 28) rfl) rfl ?_
    exact u_rI (pc := 46) (dec_at lsk_54 (k := 29) rfl) rfl h
/-- method 55 -/
def K_55 (d pc : Nat) (lv : ev_L) (st : List Value) (u : uS) (Q : uS → Prop) : Prop := okU d 2 5 false none prog_3_method_16_code (qV Q) pc lv st u
theorem e_55 {d : Nat} {Q : uS → Prop} {u : uS} {a : Nat} (hOa : isO a 2) (h : cI (d + 1) 56 [.ref a] u (fun r2 u1 => ∀ u3 : uS, u3 = fil u1 (a + 7) 0 10 0 → (∀ u5 : uS, u5 = fil u3 (a + 8) 0 10 0 → (K_55 (d + 1) 23 [.ref a, iV r2, iV 0, .retAddr 0, .retAddr 0] [] u5 Q)))) : cV (d + 2) 55 [.ref a] u Q := by
  refine u_of me_55 (Nat.le_of_ble_eq_true rfl) ?_
  refine u_ld (v := .ref a) (pc := 0) (dec_at lsk_55 (k := 0) rfl) rfl ?_
  refine u_cvI (As := []) (rb := a) (st2 := []) (pc := 1) (dec_at lsk_55 (k := 1) rfl) m_2_111 (Or.inl rfl) rfl (Nat.le_of_ble_eq_true rfl) hOa me_56 rfl h (fun r2 u1 h => ?_)
  refine u_sto (lv' := [.ref a, iV r2, .retAddr 0, .retAddr 0, .retAddr 0]) (pc := 4) (dec_at lsk_55 (k := 2) rfl) rfl ?_
  refine u_ld (v := .ref a) (pc := 5) (dec_at lsk_55 (k := 3) rfl) rfl ?_
  refine u_gS (o := 7) (p := a + 7) (pc := 6) (dec_at lsk_55 (k := 4) rfl) f_2_31 hOa rfl rfl ?_
  refine u_ld (v := iV 0) (pc := 9) (dec_at lsk_55 (k := 5) rfl) rfl ?_
  refine u_csV (As := [.ref (a + 7), iV 0]) (st2 := []) (pc := 10) (dec_at lsk_55 (k := 6) rfl) m_2_69 (Or.inl rfl) rfl (Nat.le_of_ble_eq_true rfl) (q_30 (sa_2_11 hOa)) (fun u3 e4 => ?_)
  have h := h u3 e4
  refine u_ld (v := .ref a) (pc := 13) (dec_at lsk_55 (k := 7) rfl) rfl ?_
  refine u_gS (o := 8) (p := a + 8) (pc := 14) (dec_at lsk_55 (k := 8) rfl) f_2_34 hOa rfl rfl ?_
  refine u_ld (v := iV 0) (pc := 17) (dec_at lsk_55 (k := 9) rfl) rfl ?_
  refine u_csV (As := [.ref (a + 8), iV 0]) (st2 := []) (pc := 18) (dec_at lsk_55 (k := 10) rfl) m_2_69 (Or.inl rfl) rfl (Nat.le_of_ble_eq_true rfl) (q_30 (sa_2_12 hOa)) (fun u5 e6 => ?_)
  have h := h u5 e6
  refine u_ld (v := iV 0) (pc := 21) (dec_at lsk_55 (k := 11) rfl) rfl ?_
  refine u_sto (lv' := [.ref a, iV r2, iV 0, .retAddr 0, .retAddr 0]) (pc := 22) (dec_at lsk_55 (k := 12) rfl) rfl ?_
  exact h
theorem k_55_23 {d : Nat} {Q : uS → Prop} {u : uS} {a : Nat} {l1 l2 : Int} (hOa : isO a 2) (h : (rI l2) ∧ ((rI (u.1 a 1)) ∧ (if l2 < u.1 a 1 then (cI (d + 1) 46 [.ref a, iV l2, iV (u.1 a 6)] u (fun r5 u4 => (rI r5) ∧ (if r5 = 0 then (K_55 (d + 1) 23 [.ref a, iV l1, iV (l2 + 1), .retAddr 0, .retAddr 0] [] u4 Q) else ((0 ≤ l2) ∧ ((l2 < 30) ∧ ((0 ≤ u4.1 (a + 2) l2) ∧ ((u4.1 (a + 2) l2 < 10) ∧ (cI (d + 1) 54 [.ref a, iV l2] u4 (fun r13 u12 => ∀ u14 : uS, u14 = wr u12 (a + 7) (u4.1 (a + 2) l2) (ior (u4.1 (a + 7) (u4.1 (a + 2) l2)) r13) → ((0 ≤ u14.1 (a + 2) l2) ∧ ((u14.1 (a + 2) l2 < 10) ∧ (cI (d + 1) 59 [.ref a, iV l2, iV l1] u14 (fun r19 u18 => ∀ u20 : uS, u20 = wr u18 (a + 8) (u14.1 (a + 2) l2) (ior (u14.1 (a + 8) (u14.1 (a + 2) l2)) r19) → (K_55 (d + 1) 23 [.ref a, iV l1, iV (l2 + 1), .retAddr 0, .retAddr 0] [] u20 Q)))))))))))))) else (cV (d + 1) 60 [.ref (a + 7), iV (u.1 a 0)] u (fun u22 => K_55 (d + 1) 103 [.ref a, .retAddr 0, iV 0, iV 0, .retAddr 0] [] u22 Q))))) : K_55 (d + 1) 23 [.ref a, iV l1, iV l2, .retAddr 0, .retAddr 0] [] u Q := by
  unfold K_55
  refine u_ld (v := iV l2) (pc := 23) (dec_at lsk_55 (k := 13) rfl) rfl ?_
  refine u_ld (v := .ref a) (pc := 24) (dec_at lsk_55 (k := 14) rfl) rfl ?_
  refine u_gI (z := 1) (pc := 25) (dec_at lsk_55 (k := 15) rfl) f_2_41 hOa rfl rfl ?_
  have g1 := h.1
  have h := h.2
  have g2 := h.1
  have h := h.2
  refine u_icF (pc := 28) (tgt := 88) (dec_at lsk_55 (k := 16) rfl) rfl (ci_ge g1 g2) (fun e3 => ?_) (fun e3 => ?_)
  · have h := ifT e3 h
    refine u_ld (v := .ref a) (pc := 31) (dec_at lsk_55 (k := 17) rfl) rfl ?_
    refine u_ld (v := iV l2) (pc := 32) (dec_at lsk_55 (k := 18) rfl) rfl ?_
    refine u_ld (v := .ref a) (pc := 33) (dec_at lsk_55 (k := 19) rfl) rfl ?_
    refine u_gI (z := 6) (pc := 34) (dec_at lsk_55 (k := 20) rfl) f_2_66 hOa rfl rfl ?_
    refine u_cvI (As := [iV l2, iV (u.1 a 6)]) (rb := a) (st2 := []) (pc := 37) (dec_at lsk_55 (k := 21) rfl) m_2_75 (Or.inl rfl) rfl (Nat.le_of_ble_eq_true rfl) hOa me_46 rfl h (fun r5 u4 h => ?_)
    have g6 := h.1
    have h := h.2
    refine u_ifT (pc := 40) (tgt := 82) (dec_at lsk_55 (k := 22) rfl) rfl (c0_eq g6) (fun e7 => ?_) (fun e7 => ?_)
    · have h := ifT e7 h
      refine u_inc (lv' := [.ref a, iV l1, iV (l2 + 1), .retAddr 0, .retAddr 0]) (pc := 82) (dec_at lsk_55 (k := 50) rfl) rfl (by decide) rfl ?_
      refine u_goto (pc := 85) (tgt := 23) (dec_at lsk_55 (k := 51) rfl) rfl ?_
      exact h
    · have h := ifF e7 h
      refine u_ld (v := .ref a) (pc := 43) (dec_at lsk_55 (k := 23) rfl) rfl ?_
      refine u_gS (o := 7) (p := a + 7) (pc := 44) (dec_at lsk_55 (k := 24) rfl) f_2_31 hOa rfl rfl ?_
      refine u_ld (v := .ref a) (pc := 47) (dec_at lsk_55 (k := 25) rfl) rfl ?_
      refine u_gS (o := 2) (p := a + 2) (pc := 48) (dec_at lsk_55 (k := 26) rfl) f_2_15 hOa rfl rfl ?_
      refine u_ld (v := iV l2) (pc := 51) (dec_at lsk_55 (k := 27) rfl) rfl ?_
      have g8 := h.1
      have h := h.2
      have g9 := h.1
      have h := h.2
      refine u_iald (pc := 52) (dec_at lsk_55 (k := 28) rfl) (sa_2_3 hOa) g8 g9 ?_
      refine u_st (st' := [iV (u4.1 (a + 2) l2), .ref (a + 7), iV (u4.1 (a + 2) l2), .ref (a + 7)]) (pc := 53) (dec_at lsk_55 (k := 29) rfl) rfl ?_
      have g10 := h.1
      have h := h.2
      have g11 := h.1
      have h := h.2
      refine u_iald (pc := 54) (dec_at lsk_55 (k := 30) rfl) (sa_2_11 hOa) g10 g11 ?_
      refine u_ld (v := .ref a) (pc := 55) (dec_at lsk_55 (k := 31) rfl) rfl ?_
      refine u_ld (v := iV l2) (pc := 56) (dec_at lsk_55 (k := 32) rfl) rfl ?_
      refine u_cvI (As := [iV l2]) (rb := a) (st2 := [iV (u4.1 (a + 7) (u4.1 (a + 2) l2)), iV (u4.1 (a + 2) l2), .ref (a + 7)]) (pc := 57) (dec_at lsk_55 (k := 33) rfl) m_2_107 (Or.inl rfl) rfl (Nat.le_of_ble_eq_true rfl) hOa me_54 rfl h (fun r13 u12 h => ?_)
      refine u_ior (pc := 60) (dec_at lsk_55 (k := 34) rfl) ?_
      refine u_iast (pc := 61) (dec_at lsk_55 (k := 35) rfl) (sa_2_11 hOa) g10 g11 (fun u14 e15 => ?_)
      have h := h u14 e15
      refine u_ld (v := .ref a) (pc := 62) (dec_at lsk_55 (k := 36) rfl) rfl ?_
      refine u_gS (o := 8) (p := a + 8) (pc := 63) (dec_at lsk_55 (k := 37) rfl) f_2_34 hOa rfl rfl ?_
      refine u_ld (v := .ref a) (pc := 66) (dec_at lsk_55 (k := 38) rfl) rfl ?_
      refine u_gS (o := 2) (p := a + 2) (pc := 67) (dec_at lsk_55 (k := 39) rfl) f_2_15 hOa rfl rfl ?_
      refine u_ld (v := iV l2) (pc := 70) (dec_at lsk_55 (k := 40) rfl) rfl ?_
      refine u_iald (pc := 71) (dec_at lsk_55 (k := 41) rfl) (sa_2_3 hOa) g8 g9 ?_
      refine u_st (st' := [iV (u14.1 (a + 2) l2), .ref (a + 8), iV (u14.1 (a + 2) l2), .ref (a + 8)]) (pc := 72) (dec_at lsk_55 (k := 42) rfl) rfl ?_
      have g16 := h.1
      have h := h.2
      have g17 := h.1
      have h := h.2
      refine u_iald (pc := 73) (dec_at lsk_55 (k := 43) rfl) (sa_2_12 hOa) g16 g17 ?_
      refine u_ld (v := .ref a) (pc := 74) (dec_at lsk_55 (k := 44) rfl) rfl ?_
      refine u_ld (v := iV l2) (pc := 75) (dec_at lsk_55 (k := 45) rfl) rfl ?_
      refine u_ld (v := iV l1) (pc := 76) (dec_at lsk_55 (k := 46) rfl) rfl ?_
      refine u_cvI (As := [iV l2, iV l1]) (rb := a) (st2 := [iV (u14.1 (a + 8) (u14.1 (a + 2) l2)), iV (u14.1 (a + 2) l2), .ref (a + 8)]) (pc := 77) (dec_at lsk_55 (k := 47) rfl) m_2_115 (Or.inl rfl) rfl (Nat.le_of_ble_eq_true rfl) hOa me_59 rfl h (fun r19 u18 h => ?_)
      refine u_ior (pc := 80) (dec_at lsk_55 (k := 48) rfl) ?_
      refine u_iast (pc := 81) (dec_at lsk_55 (k := 49) rfl) (sa_2_12 hOa) g16 g17 (fun u20 e21 => ?_)
      have h := h u20 e21
      refine u_inc (lv' := [.ref a, iV l1, iV (l2 + 1), .retAddr 0, .retAddr 0]) (pc := 82) (dec_at lsk_55 (k := 50) rfl) rfl (by decide) rfl ?_
      refine u_goto (pc := 85) (tgt := 23) (dec_at lsk_55 (k := 51) rfl) rfl ?_
      exact h
  · have h := ifF e3 h
    refine u_ld (v := .ref a) (pc := 88) (dec_at lsk_55 (k := 52) rfl) rfl ?_
    refine u_gS (o := 7) (p := a + 7) (pc := 89) (dec_at lsk_55 (k := 53) rfl) f_2_31 hOa rfl rfl ?_
    refine u_ld (v := .ref a) (pc := 92) (dec_at lsk_55 (k := 54) rfl) rfl ?_
    refine u_gI (z := 0) (pc := 93) (dec_at lsk_55 (k := 55) rfl) f_2_37 hOa rfl rfl ?_
    refine u_csV (As := [.ref (a + 7), iV (u.1 a 0)]) (st2 := []) (pc := 96) (dec_at lsk_55 (k := 56) rfl) m_2_118 (Or.inr rfl) rfl (Nat.le_of_ble_eq_true rfl) h (fun u22 h => ?_)
    refine u_ld (v := iV 0) (pc := 99) (dec_at lsk_55 (k := 57) rfl) rfl ?_
    refine u_sto (lv' := [.ref a, iV l1, iV 0, .retAddr 0, .retAddr 0]) (pc := 100) (dec_at lsk_55 (k := 58) rfl) rfl ?_
    refine u_ld (v := iV 0) (pc := 101) (dec_at lsk_55 (k := 59) rfl) rfl ?_
    refine u_sto (lv' := [.ref a, iV l1, iV 0, iV 0, .retAddr 0]) (pc := 102) (dec_at lsk_55 (k := 60) rfl) rfl ?_
    exact u_weak (sbK (sbD (sbK (sbK (sbK sb0))))) h
theorem k_55_103 {d : Nat} {Q : uS → Prop} {u : uS} {a : Nat} {l2 l3 : Int} (hOa : isO a 2) (h : (rI l3) ∧ ((rI (u.1 a 0)) ∧ (if l3 < u.1 a 0 then (K_55 (d + 1) 114 [.ref a, .retAddr 0, iV l2, iV l3, iV 0] [] u Q) else (∀ u4 : uS, u4 = wr u a 8 0 → (K_55 (d + 1) 184 [.ref a, .retAddr 0, iV l2, iV 0, .retAddr 0] [] u4 Q))))) : K_55 (d + 1) 103 [.ref a, .retAddr 0, iV l2, iV l3, .retAddr 0] [] u Q := by
  unfold K_55
  refine u_ld (v := iV l3) (pc := 103) (dec_at lsk_55 (k := 61) rfl) rfl ?_
  refine u_ld (v := .ref a) (pc := 104) (dec_at lsk_55 (k := 62) rfl) rfl ?_
  refine u_gI (z := 0) (pc := 105) (dec_at lsk_55 (k := 63) rfl) f_2_37 hOa rfl rfl ?_
  have g1 := h.1
  have h := h.2
  have g2 := h.1
  have h := h.2
  refine u_icF (pc := 108) (tgt := 177) (dec_at lsk_55 (k := 64) rfl) rfl (ci_ge g1 g2) (fun e3 => ?_) (fun e3 => ?_)
  · have h := ifT e3 h
    refine u_ld (v := iV 0) (pc := 111) (dec_at lsk_55 (k := 65) rfl) rfl ?_
    refine u_sto (lv' := [.ref a, .retAddr 0, iV l2, iV l3, iV 0]) (pc := 112) (dec_at lsk_55 (k := 66) rfl) rfl ?_
    exact h
  · have h := ifF e3 h
    refine u_ld (v := .ref a) (pc := 177) (dec_at lsk_55 (k := 100) rfl) rfl ?_
    refine u_ld (v := iV 0) (pc := 178) (dec_at lsk_55 (k := 101) rfl) rfl ?_
    refine u_pI (z := 8) (pc := 179) (dec_at lsk_55 (k := 102) rfl) f_2_121 hOa rfl rfl rfl rfl (fun u4 e5 => ?_)
    have h := h u4 e5
    refine u_ld (v := iV 0) (pc := 182) (dec_at lsk_55 (k := 103) rfl) rfl ?_
    refine u_sto (lv' := [.ref a, .retAddr 0, iV l2, iV 0, .retAddr 0]) (pc := 183) (dec_at lsk_55 (k := 104) rfl) rfl ?_
    exact h
theorem k_55_114 {d : Nat} {Q : uS → Prop} {u : uS} {a : Nat} {l2 l3 l4 : Int} (hOa : isO a 2) (h : (rI l4) ∧ ((rI (u.1 a 0)) ∧ (if l4 < u.1 a 0 then ((0 ≤ l3) ∧ ((l3 < 10) ∧ (if iand (iushr (u.1 (a + 8) l3) l4) 1 = 1 then ((rI l3) ∧ (if l3 = l4 then (K_55 (d + 1) 114 [.ref a, .retAddr 0, iV (ior l2 (ishl 1 l3)), iV l3, iV (l4 + 1)] [] u Q) else ((0 ≤ l4) ∧ ((l4 < 10) ∧ (if iand (iushr (u.1 (a + 7) l4) l3) 1 = 1 then (K_55 (d + 1) 114 [.ref a, .retAddr 0, iV (ior l2 (ishl 1 l3)), iV l3, iV (l4 + 1)] [] u Q) else (K_55 (d + 1) 114 [.ref a, .retAddr 0, iV l2, iV l3, iV (l4 + 1)] [] u Q)))))) else (K_55 (d + 1) 114 [.ref a, .retAddr 0, iV l2, iV l3, iV (l4 + 1)] [] u Q)))) else (K_55 (d + 1) 103 [.ref a, .retAddr 0, iV l2, iV (l3 + 1), .retAddr 0] [] u Q)))) : K_55 (d + 1) 114 [.ref a, .retAddr 0, iV l2, iV l3, iV l4] [] u Q := by
  unfold K_55
  refine u_ld (v := iV l4) (pc := 114) (dec_at lsk_55 (k := 67) rfl) rfl ?_
  refine u_ld (v := .ref a) (pc := 116) (dec_at lsk_55 (k := 68) rfl) rfl ?_
  refine u_gI (z := 0) (pc := 117) (dec_at lsk_55 (k := 69) rfl) f_2_37 hOa rfl rfl ?_
  have g1 := h.1
  have h := h.2
  have g2 := h.1
  have h := h.2
  refine u_icF (pc := 120) (tgt := 171) (dec_at lsk_55 (k := 70) rfl) rfl (ci_ge g1 g2) (fun e3 => ?_) (fun e3 => ?_)
  · have h := ifT e3 h
    refine u_ld (v := .ref a) (pc := 123) (dec_at lsk_55 (k := 71) rfl) rfl ?_
    refine u_gS (o := 8) (p := a + 8) (pc := 124) (dec_at lsk_55 (k := 72) rfl) f_2_34 hOa rfl rfl ?_
    refine u_ld (v := iV l3) (pc := 127) (dec_at lsk_55 (k := 73) rfl) rfl ?_
    have g4 := h.1
    have h := h.2
    have g5 := h.1
    have h := h.2
    refine u_iald (pc := 128) (dec_at lsk_55 (k := 74) rfl) (sa_2_12 hOa) g4 g5 ?_
    refine u_ld (v := iV l4) (pc := 129) (dec_at lsk_55 (k := 75) rfl) rfl ?_
    refine u_csI (As := [iV (u.1 (a + 8) l3), iV l4]) (st2 := []) (pc := 131) (dec_at lsk_55 (k := 76) rfl) m_2_83 (Or.inr rfl) rfl (Nat.le_of_ble_eq_true rfl) ?_ (fun _ _ h_ => h_)
    refine u_of me_47 (Nat.le_of_ble_eq_true rfl) ?_
    refine u_ld (v := iV (u.1 (a + 8) l3)) (pc := 0) (dec_at lsk_47 (k := 0) rfl) rfl ?_
    refine u_ld (v := iV l4) (pc := 1) (dec_at lsk_47 (k := 1) rfl) rfl ?_
    refine u_iushr (pc := 2) (dec_at lsk_47 (k := 2) rfl) ?_
    refine u_ld (v := iV 1) (pc := 3) (dec_at lsk_47 (k := 3) rfl) rfl ?_
    refine u_iand (pc := 4) (dec_at lsk_47 (k := 4) rfl) ?_
    refine u_rI (pc := 5) (dec_at lsk_47 (k := 5) rfl) rfl ?_
    refine u_ld (v := iV 1) (pc := 134) (dec_at lsk_55 (k := 77) rfl) rfl ?_
    refine u_icF (pc := 135) (tgt := 165) (dec_at lsk_55 (k := 78) rfl) rfl (ci_ne (ri_toInt _) (by decide)) (fun e6 => ?_) (fun e6 => ?_)
    · have h := ifT e6 h
      refine u_ld (v := iV l3) (pc := 138) (dec_at lsk_55 (k := 79) rfl) rfl ?_
      refine u_ld (v := iV l4) (pc := 139) (dec_at lsk_55 (k := 80) rfl) rfl ?_
      have g7 := h.1
      have h := h.2
      refine u_icT (pc := 141) (tgt := 159) (dec_at lsk_55 (k := 81) rfl) rfl (ci_eq g7 g1) (fun e8 => ?_) (fun e8 => ?_)
      · have h := ifT e8 h
        refine u_ld (v := iV l2) (pc := 159) (dec_at lsk_55 (k := 90) rfl) rfl ?_
        refine u_ld (v := iV 1) (pc := 160) (dec_at lsk_55 (k := 91) rfl) rfl ?_
        refine u_ld (v := iV l3) (pc := 161) (dec_at lsk_55 (k := 92) rfl) rfl ?_
        refine u_ishl (pc := 162) (dec_at lsk_55 (k := 93) rfl) ?_
        refine u_ior (pc := 163) (dec_at lsk_55 (k := 94) rfl) ?_
        refine u_sto (lv' := [.ref a, .retAddr 0, iV (ior l2 (ishl 1 l3)), iV l3, iV l4]) (pc := 164) (dec_at lsk_55 (k := 95) rfl) rfl ?_
        refine u_inc (lv' := [.ref a, .retAddr 0, iV (ior l2 (ishl 1 l3)), iV l3, iV (l4 + 1)]) (pc := 165) (dec_at lsk_55 (k := 96) rfl) rfl (by decide) rfl ?_
        refine u_goto (pc := 168) (tgt := 114) (dec_at lsk_55 (k := 97) rfl) rfl ?_
        exact h
      · have h := ifF e8 h
        refine u_ld (v := .ref a) (pc := 144) (dec_at lsk_55 (k := 82) rfl) rfl ?_
        refine u_gS (o := 7) (p := a + 7) (pc := 145) (dec_at lsk_55 (k := 83) rfl) f_2_31 hOa rfl rfl ?_
        refine u_ld (v := iV l4) (pc := 148) (dec_at lsk_55 (k := 84) rfl) rfl ?_
        have g9 := h.1
        have h := h.2
        have g10 := h.1
        have h := h.2
        refine u_iald (pc := 150) (dec_at lsk_55 (k := 85) rfl) (sa_2_11 hOa) g9 g10 ?_
        refine u_ld (v := iV l3) (pc := 151) (dec_at lsk_55 (k := 86) rfl) rfl ?_
        refine u_csI (As := [iV (u.1 (a + 7) l4), iV l3]) (st2 := []) (pc := 152) (dec_at lsk_55 (k := 87) rfl) m_2_83 (Or.inr rfl) rfl (Nat.le_of_ble_eq_true rfl) ?_ (fun _ _ h_ => h_)
        refine u_of me_47 (Nat.le_of_ble_eq_true rfl) ?_
        refine u_ld (v := iV (u.1 (a + 7) l4)) (pc := 0) (dec_at lsk_47 (k := 0) rfl) rfl ?_
        refine u_ld (v := iV l3) (pc := 1) (dec_at lsk_47 (k := 1) rfl) rfl ?_
        refine u_iushr (pc := 2) (dec_at lsk_47 (k := 2) rfl) ?_
        refine u_ld (v := iV 1) (pc := 3) (dec_at lsk_47 (k := 3) rfl) rfl ?_
        refine u_iand (pc := 4) (dec_at lsk_47 (k := 4) rfl) ?_
        refine u_rI (pc := 5) (dec_at lsk_47 (k := 5) rfl) rfl ?_
        refine u_ld (v := iV 1) (pc := 155) (dec_at lsk_55 (k := 88) rfl) rfl ?_
        refine u_icF (pc := 156) (tgt := 165) (dec_at lsk_55 (k := 89) rfl) rfl (ci_ne (ri_toInt _) (by decide)) (fun e11 => ?_) (fun e11 => ?_)
        · have h := ifT e11 h
          refine u_ld (v := iV l2) (pc := 159) (dec_at lsk_55 (k := 90) rfl) rfl ?_
          refine u_ld (v := iV 1) (pc := 160) (dec_at lsk_55 (k := 91) rfl) rfl ?_
          refine u_ld (v := iV l3) (pc := 161) (dec_at lsk_55 (k := 92) rfl) rfl ?_
          refine u_ishl (pc := 162) (dec_at lsk_55 (k := 93) rfl) ?_
          refine u_ior (pc := 163) (dec_at lsk_55 (k := 94) rfl) ?_
          refine u_sto (lv' := [.ref a, .retAddr 0, iV (ior l2 (ishl 1 l3)), iV l3, iV l4]) (pc := 164) (dec_at lsk_55 (k := 95) rfl) rfl ?_
          refine u_inc (lv' := [.ref a, .retAddr 0, iV (ior l2 (ishl 1 l3)), iV l3, iV (l4 + 1)]) (pc := 165) (dec_at lsk_55 (k := 96) rfl) rfl (by decide) rfl ?_
          refine u_goto (pc := 168) (tgt := 114) (dec_at lsk_55 (k := 97) rfl) rfl ?_
          exact h
        · have h := ifF e11 h
          refine u_inc (lv' := [.ref a, .retAddr 0, iV l2, iV l3, iV (l4 + 1)]) (pc := 165) (dec_at lsk_55 (k := 96) rfl) rfl (by decide) rfl ?_
          refine u_goto (pc := 168) (tgt := 114) (dec_at lsk_55 (k := 97) rfl) rfl ?_
          exact h
    · have h := ifF e6 h
      refine u_inc (lv' := [.ref a, .retAddr 0, iV l2, iV l3, iV (l4 + 1)]) (pc := 165) (dec_at lsk_55 (k := 96) rfl) rfl (by decide) rfl ?_
      refine u_goto (pc := 168) (tgt := 114) (dec_at lsk_55 (k := 97) rfl) rfl ?_
      exact h
  · have h := ifF e3 h
    refine u_inc (lv' := [.ref a, .retAddr 0, iV l2, iV (l3 + 1), iV l4]) (pc := 171) (dec_at lsk_55 (k := 98) rfl) rfl (by decide) rfl ?_
    refine u_goto (pc := 174) (tgt := 103) (dec_at lsk_55 (k := 99) rfl) rfl ?_
    exact u_weak (sbK (sbK (sbK (sbK (sbD sb0))))) h
theorem k_55_184 {d : Nat} {Q : uS → Prop} {u : uS} {a : Nat} {l2 l3 : Int} (hOa : isO a 2) (h : (rI l3) ∧ ((rI (u.1 a 0)) ∧ (if l3 < u.1 a 0 then ((0 ≤ l3) ∧ ((l3 < 10) ∧ (if iand (ior (u.1 (a + 7) l3) (ishl 1 l3)) l2 = 0 then (K_55 (d + 1) 184 [.ref a, .retAddr 0, iV l2, iV (l3 + 1), .retAddr 0] [] u Q) else (∀ u7 : uS, u7 = wr u a 8 (ior (u.1 a 8) (ishl 1 l3)) → (K_55 (d + 1) 184 [.ref a, .retAddr 0, iV l2, iV (l3 + 1), .retAddr 0] [] u7 Q))))) else (Q u)))) : K_55 (d + 1) 184 [.ref a, .retAddr 0, iV l2, iV l3, .retAddr 0] [] u Q := by
  unfold K_55
  refine u_ld (v := iV l3) (pc := 184) (dec_at lsk_55 (k := 105) rfl) rfl ?_
  refine u_ld (v := .ref a) (pc := 185) (dec_at lsk_55 (k := 106) rfl) rfl ?_
  refine u_gI (z := 0) (pc := 186) (dec_at lsk_55 (k := 107) rfl) f_2_37 hOa rfl rfl ?_
  have g1 := h.1
  have h := h.2
  have g2 := h.1
  have h := h.2
  refine u_icF (pc := 189) (tgt := 225) (dec_at lsk_55 (k := 108) rfl) rfl (ci_ge g1 g2) (fun e3 => ?_) (fun e3 => ?_)
  · have h := ifT e3 h
    refine u_ld (v := .ref a) (pc := 192) (dec_at lsk_55 (k := 109) rfl) rfl ?_
    refine u_gS (o := 7) (p := a + 7) (pc := 193) (dec_at lsk_55 (k := 110) rfl) f_2_31 hOa rfl rfl ?_
    refine u_ld (v := iV l3) (pc := 196) (dec_at lsk_55 (k := 111) rfl) rfl ?_
    have g4 := h.1
    have h := h.2
    have g5 := h.1
    have h := h.2
    refine u_iald (pc := 197) (dec_at lsk_55 (k := 112) rfl) (sa_2_11 hOa) g4 g5 ?_
    refine u_ld (v := iV 1) (pc := 198) (dec_at lsk_55 (k := 113) rfl) rfl ?_
    refine u_ld (v := iV l3) (pc := 199) (dec_at lsk_55 (k := 114) rfl) rfl ?_
    refine u_ishl (pc := 200) (dec_at lsk_55 (k := 115) rfl) ?_
    refine u_ior (pc := 201) (dec_at lsk_55 (k := 116) rfl) ?_
    refine u_ld (v := iV l2) (pc := 202) (dec_at lsk_55 (k := 117) rfl) rfl ?_
    refine u_iand (pc := 203) (dec_at lsk_55 (k := 118) rfl) ?_
    refine u_ifT (pc := 204) (tgt := 219) (dec_at lsk_55 (k := 119) rfl) rfl (c0_eq (ri_toInt _)) (fun e6 => ?_) (fun e6 => ?_)
    · have h := ifT e6 h
      refine u_inc (lv' := [.ref a, .retAddr 0, iV l2, iV (l3 + 1), .retAddr 0]) (pc := 219) (dec_at lsk_55 (k := 128) rfl) rfl (by decide) rfl ?_
      refine u_goto (pc := 222) (tgt := 184) (dec_at lsk_55 (k := 129) rfl) rfl ?_
      exact h
    · have h := ifF e6 h
      refine u_ld (v := .ref a) (pc := 207) (dec_at lsk_55 (k := 120) rfl) rfl ?_
      refine u_ld (v := .ref a) (pc := 208) (dec_at lsk_55 (k := 121) rfl) rfl ?_
      refine u_gI (z := 8) (pc := 209) (dec_at lsk_55 (k := 122) rfl) f_2_121 hOa rfl rfl ?_
      refine u_ld (v := iV 1) (pc := 212) (dec_at lsk_55 (k := 123) rfl) rfl ?_
      refine u_ld (v := iV l3) (pc := 213) (dec_at lsk_55 (k := 124) rfl) rfl ?_
      refine u_ishl (pc := 214) (dec_at lsk_55 (k := 125) rfl) ?_
      refine u_ior (pc := 215) (dec_at lsk_55 (k := 126) rfl) ?_
      refine u_pI (z := 8) (pc := 216) (dec_at lsk_55 (k := 127) rfl) f_2_121 hOa rfl rfl rfl rfl (fun u7 e8 => ?_)
      have h := h u7 e8
      refine u_inc (lv' := [.ref a, .retAddr 0, iV l2, iV (l3 + 1), .retAddr 0]) (pc := 219) (dec_at lsk_55 (k := 128) rfl) rfl (by decide) rfl ?_
      refine u_goto (pc := 222) (tgt := 184) (dec_at lsk_55 (k := 129) rfl) rfl ?_
      exact h
  · have h := ifF e3 h
    exact u_rV (pc := 225) (dec_at lsk_55 (k := 130) rfl) rfl h
/-- method 56 -/
def K_56 (d pc : Nat) (lv : ev_L) (st : List Value) (u : uS) (Q : Int → uS → Prop) : Prop := okU d 2 4 false (some .int) prog_3_method_17_code (qI Q) pc lv st u
theorem e_56 {d : Nat} {Q : Int → uS → Prop} {u : uS} {a : Nat} (hOa : isO a 2) (h : K_56 d 4 [.ref a, iV 0, iV 0, .retAddr 0] [] u Q) : cI (d + 1) 56 [.ref a] u Q := by
  refine u_of me_56 (Nat.le_of_ble_eq_true rfl) ?_
  refine u_ld (v := iV 0) (pc := 0) (dec_at lsk_56 (k := 0) rfl) rfl ?_
  refine u_sto (lv' := [.ref a, iV 0, .retAddr 0, .retAddr 0]) (pc := 1) (dec_at lsk_56 (k := 1) rfl) rfl ?_
  refine u_ld (v := iV 0) (pc := 2) (dec_at lsk_56 (k := 2) rfl) rfl ?_
  refine u_sto (lv' := [.ref a, iV 0, iV 0, .retAddr 0]) (pc := 3) (dec_at lsk_56 (k := 3) rfl) rfl ?_
  exact h
theorem k_56_4 {d : Nat} {Q : Int → uS → Prop} {u : uS} {a : Nat} {l1 l2 : Int} (hOa : isO a 2) (h : (rI l2) ∧ ((rI (u.1 a 0)) ∧ (if l2 < u.1 a 0 then (K_56 d 14 [.ref a, iV l1, iV l2, iV 0] [] u Q) else (Q l1 u)))) : K_56 d 4 [.ref a, iV l1, iV l2, .retAddr 0] [] u Q := by
  unfold K_56
  refine u_ld (v := iV l2) (pc := 4) (dec_at lsk_56 (k := 4) rfl) rfl ?_
  refine u_ld (v := .ref a) (pc := 5) (dec_at lsk_56 (k := 5) rfl) rfl ?_
  refine u_gI (z := 0) (pc := 6) (dec_at lsk_56 (k := 6) rfl) f_2_37 hOa rfl rfl ?_
  have g1 := h.1
  have h := h.2
  have g2 := h.1
  have h := h.2
  refine u_icF (pc := 9) (tgt := 66) (dec_at lsk_56 (k := 7) rfl) rfl (ci_ge g1 g2) (fun e3 => ?_) (fun e3 => ?_)
  · have h := ifT e3 h
    refine u_ld (v := iV 0) (pc := 12) (dec_at lsk_56 (k := 8) rfl) rfl ?_
    refine u_sto (lv' := [.ref a, iV l1, iV l2, iV 0]) (pc := 13) (dec_at lsk_56 (k := 9) rfl) rfl ?_
    exact h
  · have h := ifF e3 h
    refine u_ld (v := iV l1) (pc := 66) (dec_at lsk_56 (k := 38) rfl) rfl ?_
    exact u_rI (pc := 67) (dec_at lsk_56 (k := 39) rfl) rfl h
theorem k_56_14 {d : Nat} {Q : Int → uS → Prop} {u : uS} {a : Nat} {l1 l2 l3 : Int} (hOa : isO a 2) (h : (rI l3) ∧ ((rI (u.1 a 1)) ∧ (if l3 < u.1 a 1 then (cI d 46 [.ref a, iV l3, iV (u.1 a 6)] u (fun r5 u4 => (rI r5) ∧ (if r5 = 0 then (K_56 d 14 [.ref a, iV l1, iV l2, iV (l3 + 1)] [] u4 Q) else (cI d 57 [.ref a, iV l3, iV l1] u4 (fun r9 u8 => (rI r9) ∧ (if 0 < r9 then ((0 ≤ l3) ∧ ((l3 < 30) ∧ (K_56 d 14 [.ref a, iV (ior l1 (ishl 1 (u8.1 (a + 2) l3))), iV l2, iV (l3 + 1)] [] u8 Q))) else (K_56 d 14 [.ref a, iV l1, iV l2, iV (l3 + 1)] [] u8 Q))))))) else (K_56 d 4 [.ref a, iV l1, iV (l2 + 1), .retAddr 0] [] u Q)))) : K_56 d 14 [.ref a, iV l1, iV l2, iV l3] [] u Q := by
  unfold K_56
  refine u_ld (v := iV l3) (pc := 14) (dec_at lsk_56 (k := 10) rfl) rfl ?_
  refine u_ld (v := .ref a) (pc := 15) (dec_at lsk_56 (k := 11) rfl) rfl ?_
  refine u_gI (z := 1) (pc := 16) (dec_at lsk_56 (k := 12) rfl) f_2_41 hOa rfl rfl ?_
  have g1 := h.1
  have h := h.2
  have g2 := h.1
  have h := h.2
  refine u_icF (pc := 19) (tgt := 60) (dec_at lsk_56 (k := 13) rfl) rfl (ci_ge g1 g2) (fun e3 => ?_) (fun e3 => ?_)
  · have h := ifT e3 h
    refine u_ld (v := .ref a) (pc := 22) (dec_at lsk_56 (k := 14) rfl) rfl ?_
    refine u_ld (v := iV l3) (pc := 23) (dec_at lsk_56 (k := 15) rfl) rfl ?_
    refine u_ld (v := .ref a) (pc := 24) (dec_at lsk_56 (k := 16) rfl) rfl ?_
    refine u_gI (z := 6) (pc := 25) (dec_at lsk_56 (k := 17) rfl) f_2_66 hOa rfl rfl ?_
    refine u_cvI (As := [iV l3, iV (u.1 a 6)]) (rb := a) (st2 := []) (pc := 28) (dec_at lsk_56 (k := 18) rfl) m_2_75 (Or.inl rfl) rfl (Nat.le_of_ble_eq_true rfl) hOa me_46 rfl h (fun r5 u4 h => ?_)
    have g6 := h.1
    have h := h.2
    refine u_ifT (pc := 31) (tgt := 54) (dec_at lsk_56 (k := 19) rfl) rfl (c0_eq g6) (fun e7 => ?_) (fun e7 => ?_)
    · have h := ifT e7 h
      refine u_inc (lv' := [.ref a, iV l1, iV l2, iV (l3 + 1)]) (pc := 54) (dec_at lsk_56 (k := 34) rfl) rfl (by decide) rfl ?_
      refine u_goto (pc := 57) (tgt := 14) (dec_at lsk_56 (k := 35) rfl) rfl ?_
      exact h
    · have h := ifF e7 h
      refine u_ld (v := .ref a) (pc := 34) (dec_at lsk_56 (k := 20) rfl) rfl ?_
      refine u_ld (v := iV l3) (pc := 35) (dec_at lsk_56 (k := 21) rfl) rfl ?_
      refine u_ld (v := iV l1) (pc := 36) (dec_at lsk_56 (k := 22) rfl) rfl ?_
      refine u_cvI (As := [iV l3, iV l1]) (rb := a) (st2 := []) (pc := 37) (dec_at lsk_56 (k := 23) rfl) m_2_124 (Or.inl rfl) rfl (Nat.le_of_ble_eq_true rfl) hOa me_57 rfl h (fun r9 u8 h => ?_)
      have g10 := h.1
      have h := h.2
      refine u_ifF (pc := 40) (tgt := 54) (dec_at lsk_56 (k := 24) rfl) rfl (c0_le g10) (fun e11 => ?_) (fun e11 => ?_)
      · have h := ifT e11 h
        refine u_ld (v := iV l1) (pc := 43) (dec_at lsk_56 (k := 25) rfl) rfl ?_
        refine u_ld (v := iV 1) (pc := 44) (dec_at lsk_56 (k := 26) rfl) rfl ?_
        refine u_ld (v := .ref a) (pc := 45) (dec_at lsk_56 (k := 27) rfl) rfl ?_
        refine u_gS (o := 2) (p := a + 2) (pc := 46) (dec_at lsk_56 (k := 28) rfl) f_2_15 hOa rfl rfl ?_
        refine u_ld (v := iV l3) (pc := 49) (dec_at lsk_56 (k := 29) rfl) rfl ?_
        have g12 := h.1
        have h := h.2
        have g13 := h.1
        have h := h.2
        refine u_iald (pc := 50) (dec_at lsk_56 (k := 30) rfl) (sa_2_3 hOa) g12 g13 ?_
        refine u_ishl (pc := 51) (dec_at lsk_56 (k := 31) rfl) ?_
        refine u_ior (pc := 52) (dec_at lsk_56 (k := 32) rfl) ?_
        refine u_sto (lv' := [.ref a, iV (ior l1 (ishl 1 (u8.1 (a + 2) l3))), iV l2, iV l3]) (pc := 53) (dec_at lsk_56 (k := 33) rfl) rfl ?_
        refine u_inc (lv' := [.ref a, iV (ior l1 (ishl 1 (u8.1 (a + 2) l3))), iV l2, iV (l3 + 1)]) (pc := 54) (dec_at lsk_56 (k := 34) rfl) rfl (by decide) rfl ?_
        refine u_goto (pc := 57) (tgt := 14) (dec_at lsk_56 (k := 35) rfl) rfl ?_
        exact h
      · have h := ifF e11 h
        refine u_inc (lv' := [.ref a, iV l1, iV l2, iV (l3 + 1)]) (pc := 54) (dec_at lsk_56 (k := 34) rfl) rfl (by decide) rfl ?_
        refine u_goto (pc := 57) (tgt := 14) (dec_at lsk_56 (k := 35) rfl) rfl ?_
        exact h
  · have h := ifF e3 h
    refine u_inc (lv' := [.ref a, iV l1, iV (l2 + 1), iV l3]) (pc := 60) (dec_at lsk_56 (k := 36) rfl) rfl (by decide) rfl ?_
    refine u_goto (pc := 63) (tgt := 4) (dec_at lsk_56 (k := 37) rfl) rfl ?_
    exact u_weak (sbK (sbK (sbK (sbD sb0)))) h
/-- method 57 -/
def K_57 (d pc : Nat) (lv : ev_L) (st : List Value) (u : uS) (Q : Int → uS → Prop) : Prop := okU d 2 5 false (some .int) prog_3_method_18_code (qI Q) pc lv st u
theorem e_57 {d : Nat} {Q : Int → uS → Prop} {u : uS} {a : Nat} {l1 l2 : Int} (hOa : isO a 2) (h : K_57 (d + 2) 5 [.ref a, iV l1, iV l2, iV 0, iV 0] [] u Q) : cI (d + 3) 57 [.ref a, iV l1, iV l2] u Q := by
  refine u_of me_57 (Nat.le_of_ble_eq_true rfl) ?_
  refine u_ld (v := iV 0) (pc := 0) (dec_at lsk_57 (k := 0) rfl) rfl ?_
  refine u_sto (lv' := [.ref a, iV l1, iV l2, iV 0, .retAddr 0]) (pc := 1) (dec_at lsk_57 (k := 1) rfl) rfl ?_
  refine u_ld (v := iV 0) (pc := 2) (dec_at lsk_57 (k := 2) rfl) rfl ?_
  refine u_sto (lv' := [.ref a, iV l1, iV l2, iV 0, iV 0]) (pc := 3) (dec_at lsk_57 (k := 3) rfl) rfl ?_
  exact h
theorem k_57_5 {d : Nat} {Q : Int → uS → Prop} {u : uS} {a : Nat} {l1 l2 l3 l4 : Int} (hOa : isO a 2) (h : (0 ≤ l1) ∧ ((l1 < 30) ∧ ((rI l4) ∧ ((rI (u.1 (a + 3) l1)) ∧ (if l4 < u.1 (a + 3) l1 then ((0 ≤ (l1 * 6) + l4) ∧ (((l1 * 6) + l4 < 180) ∧ ((rI (u.1 (a + 4) ((l1 * 6) + l4))) ∧ (if u.1 (a + 4) ((l1 * 6) + l4) < 100 then (K_57 (d + 2) 5 [.ref a, iV l1, iV l2, iV (l3 + 1), iV (l4 + 1)] [] u Q) else (if iand (iushr l2 ((u.1 (a + 4) ((l1 * 6) + l4)) - 100)) 1 = 1 then (K_57 (d + 2) 5 [.ref a, iV l1, iV l2, iV (l3 + 1), iV (l4 + 1)] [] u Q) else (K_57 (d + 2) 5 [.ref a, iV l1, iV l2, iV l3, iV (l4 + 1)] [] u Q)))))) else (Q l3 u)))))) : K_57 (d + 2) 5 [.ref a, iV l1, iV l2, iV l3, iV l4] [] u Q := by
  unfold K_57
  refine u_ld (v := iV l4) (pc := 5) (dec_at lsk_57 (k := 4) rfl) rfl ?_
  refine u_ld (v := .ref a) (pc := 7) (dec_at lsk_57 (k := 5) rfl) rfl ?_
  refine u_gS (o := 3) (p := a + 3) (pc := 8) (dec_at lsk_57 (k := 6) rfl) f_2_18 hOa rfl rfl ?_
  refine u_ld (v := iV l1) (pc := 11) (dec_at lsk_57 (k := 7) rfl) rfl ?_
  have g1 := h.1
  have h := h.2
  have g2 := h.1
  have h := h.2
  refine u_iald (pc := 12) (dec_at lsk_57 (k := 8) rfl) (sa_2_4 hOa) g1 g2 ?_
  have g3 := h.1
  have h := h.2
  have g4 := h.1
  have h := h.2
  refine u_icF (pc := 13) (tgt := 39) (dec_at lsk_57 (k := 9) rfl) rfl (ci_ge g3 g4) (fun e5 => ?_) (fun e5 => ?_)
  · have h := ifT e5 h
    refine u_ld (v := .ref a) (pc := 16) (dec_at lsk_57 (k := 10) rfl) rfl ?_
    refine u_ld (v := iV l1) (pc := 17) (dec_at lsk_57 (k := 11) rfl) rfl ?_
    refine u_ld (v := iV l4) (pc := 18) (dec_at lsk_57 (k := 12) rfl) rfl ?_
    refine u_cvI (As := [iV l1, iV l4]) (rb := a) (st2 := []) (pc := 20) (dec_at lsk_57 (k := 13) rfl) m_2_79 (Or.inl rfl) rfl (Nat.le_of_ble_eq_true rfl) hOa me_42 rfl ?_ (fun _ _ h_ => h_)
    refine u_of me_42 (Nat.le_of_ble_eq_true rfl) ?_
    refine u_ld (v := .ref a) (pc := 0) (dec_at lsk_42 (k := 0) rfl) rfl ?_
    refine u_gS (o := 4) (p := a + 4) (pc := 1) (dec_at lsk_42 (k := 1) rfl) f_2_21 hOa rfl rfl ?_
    refine u_ld (v := iV l1) (pc := 4) (dec_at lsk_42 (k := 2) rfl) rfl ?_
    refine u_c (x := 6) (pc := 5) (dec_at lsk_42 (k := 3) rfl) rfl (by decide) ?_
    refine u_imul (pc := 7) (dec_at lsk_42 (k := 4) rfl) ?_
    refine u_ld (v := iV l4) (pc := 8) (dec_at lsk_42 (k := 5) rfl) rfl ?_
    refine u_iadd (pc := 9) (dec_at lsk_42 (k := 6) rfl) ?_
    have g6 := h.1
    have h := h.2
    have g7 := h.1
    have h := h.2
    refine u_iald (pc := 10) (dec_at lsk_42 (k := 7) rfl) (sa_2_5 hOa) g6 g7 ?_
    refine u_rI (pc := 11) (dec_at lsk_42 (k := 8) rfl) rfl ?_
    refine u_ld (v := iV l2) (pc := 23) (dec_at lsk_57 (k := 14) rfl) rfl ?_
    refine u_csI (As := [iV (u.1 (a + 4) ((l1 * 6) + l4)), iV l2]) (st2 := []) (pc := 24) (dec_at lsk_57 (k := 15) rfl) m_2_127 (Or.inl rfl) rfl (Nat.le_of_ble_eq_true rfl) ?_ (fun _ _ h_ => h_)
    refine u_of me_58 (Nat.le_of_ble_eq_true rfl) ?_
    refine u_ld (v := iV (u.1 (a + 4) ((l1 * 6) + l4))) (pc := 0) (dec_at lsk_58 (k := 0) rfl) rfl ?_
    refine u_c (x := 100) (pc := 1) (dec_at lsk_58 (k := 1) rfl) rfl (by decide) ?_
    have g8 := h.1
    have h := h.2
    refine u_icT (pc := 3) (tgt := 18) (dec_at lsk_58 (k := 2) rfl) rfl (ci_lt g8 (by decide)) (fun e9 => ?_) (fun e9 => ?_)
    · have h := ifT e9 h
      refine u_ld (v := iV 1) (pc := 18) (dec_at lsk_58 (k := 10) rfl) rfl ?_
      refine u_goto (pc := 19) (tgt := 23) (dec_at lsk_58 (k := 11) rfl) rfl ?_
      refine u_rZ (pc := 23) (dec_at lsk_58 (k := 13) rfl) rfl (by decide) ?_
      refine u_ifT (pc := 27) (tgt := 33) (dec_at lsk_57 (k := 16) rfl) rfl (c0_eq (by decide)) (fun e => absurd e (by decide)) (fun _ => ?_)
      refine u_inc (lv' := [.ref a, iV l1, iV l2, iV (l3 + 1), iV l4]) (pc := 30) (dec_at lsk_57 (k := 17) rfl) rfl (by decide) rfl ?_
      refine u_inc (lv' := [.ref a, iV l1, iV l2, iV (l3 + 1), iV (l4 + 1)]) (pc := 33) (dec_at lsk_57 (k := 18) rfl) rfl (by decide) rfl ?_
      refine u_goto (pc := 36) (tgt := 5) (dec_at lsk_57 (k := 19) rfl) rfl ?_
      exact h
    · have h := ifF e9 h
      refine u_ld (v := iV l2) (pc := 6) (dec_at lsk_58 (k := 3) rfl) rfl ?_
      refine u_ld (v := iV (u.1 (a + 4) ((l1 * 6) + l4))) (pc := 7) (dec_at lsk_58 (k := 4) rfl) rfl ?_
      refine u_c (x := 100) (pc := 8) (dec_at lsk_58 (k := 5) rfl) rfl (by decide) ?_
      refine u_isub (pc := 10) (dec_at lsk_58 (k := 6) rfl) ?_
      refine u_csI (As := [iV l2, iV ((u.1 (a + 4) ((l1 * 6) + l4)) - 100)]) (st2 := []) (pc := 11) (dec_at lsk_58 (k := 7) rfl) m_2_83 (Or.inr rfl) rfl (Nat.le_of_ble_eq_true rfl) ?_ (fun _ _ h_ => h_)
      refine u_of me_47 (Nat.le_of_ble_eq_true rfl) ?_
      refine u_ld (v := iV l2) (pc := 0) (dec_at lsk_47 (k := 0) rfl) rfl ?_
      refine u_ld (v := iV ((u.1 (a + 4) ((l1 * 6) + l4)) - 100)) (pc := 1) (dec_at lsk_47 (k := 1) rfl) rfl ?_
      refine u_iushr (pc := 2) (dec_at lsk_47 (k := 2) rfl) ?_
      refine u_ld (v := iV 1) (pc := 3) (dec_at lsk_47 (k := 3) rfl) rfl ?_
      refine u_iand (pc := 4) (dec_at lsk_47 (k := 4) rfl) ?_
      refine u_rI (pc := 5) (dec_at lsk_47 (k := 5) rfl) rfl ?_
      refine u_ld (v := iV 1) (pc := 14) (dec_at lsk_58 (k := 8) rfl) rfl ?_
      refine u_icF (pc := 15) (tgt := 22) (dec_at lsk_58 (k := 9) rfl) rfl (ci_ne (ri_toInt _) (by decide)) (fun e10 => ?_) (fun e10 => ?_)
      · have h := ifT e10 h
        refine u_ld (v := iV 1) (pc := 18) (dec_at lsk_58 (k := 10) rfl) rfl ?_
        refine u_goto (pc := 19) (tgt := 23) (dec_at lsk_58 (k := 11) rfl) rfl ?_
        refine u_rZ (pc := 23) (dec_at lsk_58 (k := 13) rfl) rfl (by decide) ?_
        refine u_ifT (pc := 27) (tgt := 33) (dec_at lsk_57 (k := 16) rfl) rfl (c0_eq (by decide)) (fun e => absurd e (by decide)) (fun _ => ?_)
        refine u_inc (lv' := [.ref a, iV l1, iV l2, iV (l3 + 1), iV l4]) (pc := 30) (dec_at lsk_57 (k := 17) rfl) rfl (by decide) rfl ?_
        refine u_inc (lv' := [.ref a, iV l1, iV l2, iV (l3 + 1), iV (l4 + 1)]) (pc := 33) (dec_at lsk_57 (k := 18) rfl) rfl (by decide) rfl ?_
        refine u_goto (pc := 36) (tgt := 5) (dec_at lsk_57 (k := 19) rfl) rfl ?_
        exact h
      · have h := ifF e10 h
        refine u_ld (v := iV 0) (pc := 22) (dec_at lsk_58 (k := 12) rfl) rfl ?_
        refine u_rZ (pc := 23) (dec_at lsk_58 (k := 13) rfl) rfl (by decide) ?_
        refine u_ifT (pc := 27) (tgt := 33) (dec_at lsk_57 (k := 16) rfl) rfl (c0_eq (by decide)) (fun _ => ?_) (fun e => absurd e (by decide))
        refine u_inc (lv' := [.ref a, iV l1, iV l2, iV l3, iV (l4 + 1)]) (pc := 33) (dec_at lsk_57 (k := 18) rfl) rfl (by decide) rfl ?_
        refine u_goto (pc := 36) (tgt := 5) (dec_at lsk_57 (k := 19) rfl) rfl ?_
        exact h
  · have h := ifF e5 h
    refine u_ld (v := iV l3) (pc := 39) (dec_at lsk_57 (k := 20) rfl) rfl ?_
    exact u_rI (pc := 40) (dec_at lsk_57 (k := 21) rfl) rfl h
/-- method 59 -/
def K_59 (d pc : Nat) (lv : ev_L) (st : List Value) (u : uS) (Q : Int → uS → Prop) : Prop := okU d 2 8 false (some .int) prog_3_method_20_code (qI Q) pc lv st u
theorem e_59 {d : Nat} {Q : Int → uS → Prop} {u : uS} {a : Nat} {l1 l2 : Int} (hOa : isO a 2) (h : cI (d + 2) 57 [.ref a, iV l1, iV l2] u (fun r2 u1 => K_59 (d + 2) 13 [.ref a, iV l1, iV l2, iV r2, iV 0, iV 0, .retAddr 0, .retAddr 0] [] u1 Q)) : cI (d + 3) 59 [.ref a, iV l1, iV l2] u Q := by
  refine u_of me_59 (Nat.le_of_ble_eq_true rfl) ?_
  refine u_ld (v := .ref a) (pc := 0) (dec_at lsk_59 (k := 0) rfl) rfl ?_
  refine u_ld (v := iV l1) (pc := 1) (dec_at lsk_59 (k := 1) rfl) rfl ?_
  refine u_ld (v := iV l2) (pc := 2) (dec_at lsk_59 (k := 2) rfl) rfl ?_
  refine u_cvI (As := [iV l1, iV l2]) (rb := a) (st2 := []) (pc := 3) (dec_at lsk_59 (k := 3) rfl) m_2_124 (Or.inl rfl) rfl (Nat.le_of_ble_eq_true rfl) hOa me_57 rfl h (fun r2 u1 h => ?_)
  refine u_sto (lv' := [.ref a, iV l1, iV l2, iV r2, .retAddr 0, .retAddr 0, .retAddr 0, .retAddr 0]) (pc := 6) (dec_at lsk_59 (k := 4) rfl) rfl ?_
  refine u_ld (v := iV 0) (pc := 7) (dec_at lsk_59 (k := 5) rfl) rfl ?_
  refine u_sto (lv' := [.ref a, iV l1, iV l2, iV r2, iV 0, .retAddr 0, .retAddr 0, .retAddr 0]) (pc := 8) (dec_at lsk_59 (k := 6) rfl) rfl ?_
  refine u_ld (v := iV 0) (pc := 10) (dec_at lsk_59 (k := 7) rfl) rfl ?_
  refine u_sto (lv' := [.ref a, iV l1, iV l2, iV r2, iV 0, iV 0, .retAddr 0, .retAddr 0]) (pc := 11) (dec_at lsk_59 (k := 8) rfl) rfl ?_
  exact h
theorem k_59_13 {d : Nat} {Q : Int → uS → Prop} {u : uS} {a : Nat} {l1 l2 l3 l4 l5 : Int} (hOa : isO a 2) (h : (0 ≤ l1) ∧ ((l1 < 30) ∧ ((rI l5) ∧ ((rI (u.1 (a + 3) l1)) ∧ (if l5 < u.1 (a + 3) l1 then ((0 ≤ (l1 * 6) + l5) ∧ (((l1 * 6) + l5 < 180) ∧ ((rI (u.1 (a + 4) ((l1 * 6) + l5))) ∧ (if u.1 (a + 4) ((l1 * 6) + l5) < 100 then (K_59 (d + 2) 13 [.ref a, iV l1, iV l2, iV l3, iV l4, iV (l5 + 1), .retAddr 0, .retAddr 0] [] u Q) else (if iand (iushr l2 ((u.1 (a + 4) ((l1 * 6) + l5)) - 100)) 1 = 1 then ((rI (l3 - 1)) ∧ (if 0 < l3 - 1 then (K_59 (d + 2) 13 [.ref a, iV l1, iV l2, iV l3, iV (ior l4 (ishl 1 ((u.1 (a + 4) ((l1 * 6) + l5)) - 100))), iV (l5 + 1), .retAddr 0, .retAddr 0] [] u Q) else (K_59 (d + 2) 13 [.ref a, iV l1, iV l2, iV l3, iV l4, iV (l5 + 1), .retAddr 0, .retAddr 0] [] u Q))) else ((rI l3) ∧ (if 0 < l3 then (K_59 (d + 2) 13 [.ref a, iV l1, iV l2, iV l3, iV (ior l4 (ishl 1 ((u.1 (a + 4) ((l1 * 6) + l5)) - 100))), iV (l5 + 1), .retAddr 0, .retAddr 0] [] u Q) else (K_59 (d + 2) 13 [.ref a, iV l1, iV l2, iV l3, iV l4, iV (l5 + 1), .retAddr 0, .retAddr 0] [] u Q)))))))) else (Q l4 u)))))) : K_59 (d + 2) 13 [.ref a, iV l1, iV l2, iV l3, iV l4, iV l5, .retAddr 0, .retAddr 0] [] u Q := by
  unfold K_59
  refine u_ld (v := iV l5) (pc := 13) (dec_at lsk_59 (k := 9) rfl) rfl ?_
  refine u_ld (v := .ref a) (pc := 15) (dec_at lsk_59 (k := 10) rfl) rfl ?_
  refine u_gS (o := 3) (p := a + 3) (pc := 16) (dec_at lsk_59 (k := 11) rfl) f_2_18 hOa rfl rfl ?_
  refine u_ld (v := iV l1) (pc := 19) (dec_at lsk_59 (k := 12) rfl) rfl ?_
  have g1 := h.1
  have h := h.2
  have g2 := h.1
  have h := h.2
  refine u_iald (pc := 20) (dec_at lsk_59 (k := 13) rfl) (sa_2_4 hOa) g1 g2 ?_
  have g3 := h.1
  have h := h.2
  have g4 := h.1
  have h := h.2
  refine u_icF (pc := 21) (tgt := 81) (dec_at lsk_59 (k := 14) rfl) rfl (ci_ge g3 g4) (fun e5 => ?_) (fun e5 => ?_)
  · have h := ifT e5 h
    refine u_ld (v := .ref a) (pc := 24) (dec_at lsk_59 (k := 15) rfl) rfl ?_
    refine u_ld (v := iV l1) (pc := 25) (dec_at lsk_59 (k := 16) rfl) rfl ?_
    refine u_ld (v := iV l5) (pc := 26) (dec_at lsk_59 (k := 17) rfl) rfl ?_
    refine u_cvI (As := [iV l1, iV l5]) (rb := a) (st2 := []) (pc := 28) (dec_at lsk_59 (k := 18) rfl) m_2_79 (Or.inl rfl) rfl (Nat.le_of_ble_eq_true rfl) hOa me_42 rfl ?_ (fun _ _ h_ => h_)
    refine u_of me_42 (Nat.le_of_ble_eq_true rfl) ?_
    refine u_ld (v := .ref a) (pc := 0) (dec_at lsk_42 (k := 0) rfl) rfl ?_
    refine u_gS (o := 4) (p := a + 4) (pc := 1) (dec_at lsk_42 (k := 1) rfl) f_2_21 hOa rfl rfl ?_
    refine u_ld (v := iV l1) (pc := 4) (dec_at lsk_42 (k := 2) rfl) rfl ?_
    refine u_c (x := 6) (pc := 5) (dec_at lsk_42 (k := 3) rfl) rfl (by decide) ?_
    refine u_imul (pc := 7) (dec_at lsk_42 (k := 4) rfl) ?_
    refine u_ld (v := iV l5) (pc := 8) (dec_at lsk_42 (k := 5) rfl) rfl ?_
    refine u_iadd (pc := 9) (dec_at lsk_42 (k := 6) rfl) ?_
    have g6 := h.1
    have h := h.2
    have g7 := h.1
    have h := h.2
    refine u_iald (pc := 10) (dec_at lsk_42 (k := 7) rfl) (sa_2_5 hOa) g6 g7 ?_
    refine u_rI (pc := 11) (dec_at lsk_42 (k := 8) rfl) rfl ?_
    refine u_sto (lv' := [.ref a, iV l1, iV l2, iV l3, iV l4, iV l5, iV (u.1 (a + 4) ((l1 * 6) + l5)), .retAddr 0]) (pc := 31) (dec_at lsk_59 (k := 19) rfl) rfl ?_
    refine u_ld (v := iV (u.1 (a + 4) ((l1 * 6) + l5))) (pc := 33) (dec_at lsk_59 (k := 20) rfl) rfl ?_
    refine u_ld (v := iV l2) (pc := 35) (dec_at lsk_59 (k := 21) rfl) rfl ?_
    refine u_csI (As := [iV (u.1 (a + 4) ((l1 * 6) + l5)), iV l2]) (st2 := []) (pc := 36) (dec_at lsk_59 (k := 22) rfl) m_2_127 (Or.inl rfl) rfl (Nat.le_of_ble_eq_true rfl) ?_ (fun _ _ h_ => h_)
    refine u_of me_58 (Nat.le_of_ble_eq_true rfl) ?_
    refine u_ld (v := iV (u.1 (a + 4) ((l1 * 6) + l5))) (pc := 0) (dec_at lsk_58 (k := 0) rfl) rfl ?_
    refine u_c (x := 100) (pc := 1) (dec_at lsk_58 (k := 1) rfl) rfl (by decide) ?_
    have g8 := h.1
    have h := h.2
    refine u_icT (pc := 3) (tgt := 18) (dec_at lsk_58 (k := 2) rfl) rfl (ci_lt g8 (by decide)) (fun e9 => ?_) (fun e9 => ?_)
    · have h := ifT e9 h
      refine u_ld (v := iV 1) (pc := 18) (dec_at lsk_58 (k := 10) rfl) rfl ?_
      refine u_goto (pc := 19) (tgt := 23) (dec_at lsk_58 (k := 11) rfl) rfl ?_
      refine u_rZ (pc := 23) (dec_at lsk_58 (k := 13) rfl) rfl (by decide) ?_
      refine u_ifT (pc := 39) (tgt := 48) (dec_at lsk_59 (k := 23) rfl) rfl (c0_eq (by decide)) (fun e => absurd e (by decide)) (fun _ => ?_)
      refine u_ld (v := iV l3) (pc := 42) (dec_at lsk_59 (k := 24) rfl) rfl ?_
      refine u_ld (v := iV 1) (pc := 43) (dec_at lsk_59 (k := 25) rfl) rfl ?_
      refine u_isub (pc := 44) (dec_at lsk_59 (k := 26) rfl) ?_
      refine u_goto (pc := 45) (tgt := 49) (dec_at lsk_59 (k := 27) rfl) rfl ?_
      refine u_sto (lv' := [.ref a, iV l1, iV l2, iV l3, iV l4, iV l5, iV (u.1 (a + 4) ((l1 * 6) + l5)), iV (l3 - 1)]) (pc := 49) (dec_at lsk_59 (k := 29) rfl) rfl ?_
      refine u_ld (v := iV (u.1 (a + 4) ((l1 * 6) + l5))) (pc := 51) (dec_at lsk_59 (k := 30) rfl) rfl ?_
      refine u_c (x := 100) (pc := 53) (dec_at lsk_59 (k := 31) rfl) rfl (by decide) ?_
      refine u_icT (pc := 55) (tgt := 75) (dec_at lsk_59 (k := 32) rfl) rfl (ci_lt g8 (by decide)) (fun _ => ?_) (fun e10 => absurd e9 e10)
      refine u_inc (lv' := [.ref a, iV l1, iV l2, iV l3, iV l4, iV (l5 + 1), iV (u.1 (a + 4) ((l1 * 6) + l5)), iV (l3 - 1)]) (pc := 75) (dec_at lsk_59 (k := 43) rfl) rfl (by decide) rfl ?_
      refine u_goto (pc := 78) (tgt := 13) (dec_at lsk_59 (k := 44) rfl) rfl ?_
      exact u_weak (sbK (sbK (sbK (sbK (sbK (sbK (sbD (sbD sb0)))))))) h
    · have h := ifF e9 h
      refine u_ld (v := iV l2) (pc := 6) (dec_at lsk_58 (k := 3) rfl) rfl ?_
      refine u_ld (v := iV (u.1 (a + 4) ((l1 * 6) + l5))) (pc := 7) (dec_at lsk_58 (k := 4) rfl) rfl ?_
      refine u_c (x := 100) (pc := 8) (dec_at lsk_58 (k := 5) rfl) rfl (by decide) ?_
      refine u_isub (pc := 10) (dec_at lsk_58 (k := 6) rfl) ?_
      refine u_csI (As := [iV l2, iV ((u.1 (a + 4) ((l1 * 6) + l5)) - 100)]) (st2 := []) (pc := 11) (dec_at lsk_58 (k := 7) rfl) m_2_83 (Or.inr rfl) rfl (Nat.le_of_ble_eq_true rfl) ?_ (fun _ _ h_ => h_)
      refine u_of me_47 (Nat.le_of_ble_eq_true rfl) ?_
      refine u_ld (v := iV l2) (pc := 0) (dec_at lsk_47 (k := 0) rfl) rfl ?_
      refine u_ld (v := iV ((u.1 (a + 4) ((l1 * 6) + l5)) - 100)) (pc := 1) (dec_at lsk_47 (k := 1) rfl) rfl ?_
      refine u_iushr (pc := 2) (dec_at lsk_47 (k := 2) rfl) ?_
      refine u_ld (v := iV 1) (pc := 3) (dec_at lsk_47 (k := 3) rfl) rfl ?_
      refine u_iand (pc := 4) (dec_at lsk_47 (k := 4) rfl) ?_
      refine u_rI (pc := 5) (dec_at lsk_47 (k := 5) rfl) rfl ?_
      refine u_ld (v := iV 1) (pc := 14) (dec_at lsk_58 (k := 8) rfl) rfl ?_
      refine u_icF (pc := 15) (tgt := 22) (dec_at lsk_58 (k := 9) rfl) rfl (ci_ne (ri_toInt _) (by decide)) (fun e11 => ?_) (fun e11 => ?_)
      · have h := ifT e11 h
        refine u_ld (v := iV 1) (pc := 18) (dec_at lsk_58 (k := 10) rfl) rfl ?_
        refine u_goto (pc := 19) (tgt := 23) (dec_at lsk_58 (k := 11) rfl) rfl ?_
        refine u_rZ (pc := 23) (dec_at lsk_58 (k := 13) rfl) rfl (by decide) ?_
        refine u_ifT (pc := 39) (tgt := 48) (dec_at lsk_59 (k := 23) rfl) rfl (c0_eq (by decide)) (fun e => absurd e (by decide)) (fun _ => ?_)
        refine u_ld (v := iV l3) (pc := 42) (dec_at lsk_59 (k := 24) rfl) rfl ?_
        refine u_ld (v := iV 1) (pc := 43) (dec_at lsk_59 (k := 25) rfl) rfl ?_
        refine u_isub (pc := 44) (dec_at lsk_59 (k := 26) rfl) ?_
        refine u_goto (pc := 45) (tgt := 49) (dec_at lsk_59 (k := 27) rfl) rfl ?_
        refine u_sto (lv' := [.ref a, iV l1, iV l2, iV l3, iV l4, iV l5, iV (u.1 (a + 4) ((l1 * 6) + l5)), iV (l3 - 1)]) (pc := 49) (dec_at lsk_59 (k := 29) rfl) rfl ?_
        refine u_ld (v := iV (u.1 (a + 4) ((l1 * 6) + l5))) (pc := 51) (dec_at lsk_59 (k := 30) rfl) rfl ?_
        refine u_c (x := 100) (pc := 53) (dec_at lsk_59 (k := 31) rfl) rfl (by decide) ?_
        refine u_icT (pc := 55) (tgt := 75) (dec_at lsk_59 (k := 32) rfl) rfl (ci_lt g8 (by decide)) (fun e12 => absurd e12 e9) (fun _ => ?_)
        refine u_ld (v := iV (l3 - 1)) (pc := 58) (dec_at lsk_59 (k := 33) rfl) rfl ?_
        have g13 := h.1
        have h := h.2
        refine u_ifF (pc := 60) (tgt := 75) (dec_at lsk_59 (k := 34) rfl) rfl (c0_le g13) (fun e14 => ?_) (fun e14 => ?_)
        · have h := ifT e14 h
          refine u_ld (v := iV l4) (pc := 63) (dec_at lsk_59 (k := 35) rfl) rfl ?_
          refine u_ld (v := iV 1) (pc := 65) (dec_at lsk_59 (k := 36) rfl) rfl ?_
          refine u_ld (v := iV (u.1 (a + 4) ((l1 * 6) + l5))) (pc := 66) (dec_at lsk_59 (k := 37) rfl) rfl ?_
          refine u_c (x := 100) (pc := 68) (dec_at lsk_59 (k := 38) rfl) rfl (by decide) ?_
          refine u_isub (pc := 70) (dec_at lsk_59 (k := 39) rfl) ?_
          refine u_ishl (pc := 71) (dec_at lsk_59 (k := 40) rfl) ?_
          refine u_ior (pc := 72) (dec_at lsk_59 (k := 41) rfl) ?_
          refine u_sto (lv' := [.ref a, iV l1, iV l2, iV l3, iV (ior l4 (ishl 1 ((u.1 (a + 4) ((l1 * 6) + l5)) - 100))), iV l5, iV (u.1 (a + 4) ((l1 * 6) + l5)), iV (l3 - 1)]) (pc := 73) (dec_at lsk_59 (k := 42) rfl) rfl ?_
          refine u_inc (lv' := [.ref a, iV l1, iV l2, iV l3, iV (ior l4 (ishl 1 ((u.1 (a + 4) ((l1 * 6) + l5)) - 100))), iV (l5 + 1), iV (u.1 (a + 4) ((l1 * 6) + l5)), iV (l3 - 1)]) (pc := 75) (dec_at lsk_59 (k := 43) rfl) rfl (by decide) rfl ?_
          refine u_goto (pc := 78) (tgt := 13) (dec_at lsk_59 (k := 44) rfl) rfl ?_
          exact u_weak (sbK (sbK (sbK (sbK (sbK (sbK (sbD (sbD sb0)))))))) h
        · have h := ifF e14 h
          refine u_inc (lv' := [.ref a, iV l1, iV l2, iV l3, iV l4, iV (l5 + 1), iV (u.1 (a + 4) ((l1 * 6) + l5)), iV (l3 - 1)]) (pc := 75) (dec_at lsk_59 (k := 43) rfl) rfl (by decide) rfl ?_
          refine u_goto (pc := 78) (tgt := 13) (dec_at lsk_59 (k := 44) rfl) rfl ?_
          exact u_weak (sbK (sbK (sbK (sbK (sbK (sbK (sbD (sbD sb0)))))))) h
      · have h := ifF e11 h
        refine u_ld (v := iV 0) (pc := 22) (dec_at lsk_58 (k := 12) rfl) rfl ?_
        refine u_rZ (pc := 23) (dec_at lsk_58 (k := 13) rfl) rfl (by decide) ?_
        refine u_ifT (pc := 39) (tgt := 48) (dec_at lsk_59 (k := 23) rfl) rfl (c0_eq (by decide)) (fun _ => ?_) (fun e => absurd e (by decide))
        refine u_ld (v := iV l3) (pc := 48) (dec_at lsk_59 (k := 28) rfl) rfl ?_
        refine u_sto (lv' := [.ref a, iV l1, iV l2, iV l3, iV l4, iV l5, iV (u.1 (a + 4) ((l1 * 6) + l5)), iV l3]) (pc := 49) (dec_at lsk_59 (k := 29) rfl) rfl ?_
        refine u_ld (v := iV (u.1 (a + 4) ((l1 * 6) + l5))) (pc := 51) (dec_at lsk_59 (k := 30) rfl) rfl ?_
        refine u_c (x := 100) (pc := 53) (dec_at lsk_59 (k := 31) rfl) rfl (by decide) ?_
        refine u_icT (pc := 55) (tgt := 75) (dec_at lsk_59 (k := 32) rfl) rfl (ci_lt g8 (by decide)) (fun e15 => absurd e15 e9) (fun _ => ?_)
        refine u_ld (v := iV l3) (pc := 58) (dec_at lsk_59 (k := 33) rfl) rfl ?_
        have g16 := h.1
        have h := h.2
        refine u_ifF (pc := 60) (tgt := 75) (dec_at lsk_59 (k := 34) rfl) rfl (c0_le g16) (fun e17 => ?_) (fun e17 => ?_)
        · have h := ifT e17 h
          refine u_ld (v := iV l4) (pc := 63) (dec_at lsk_59 (k := 35) rfl) rfl ?_
          refine u_ld (v := iV 1) (pc := 65) (dec_at lsk_59 (k := 36) rfl) rfl ?_
          refine u_ld (v := iV (u.1 (a + 4) ((l1 * 6) + l5))) (pc := 66) (dec_at lsk_59 (k := 37) rfl) rfl ?_
          refine u_c (x := 100) (pc := 68) (dec_at lsk_59 (k := 38) rfl) rfl (by decide) ?_
          refine u_isub (pc := 70) (dec_at lsk_59 (k := 39) rfl) ?_
          refine u_ishl (pc := 71) (dec_at lsk_59 (k := 40) rfl) ?_
          refine u_ior (pc := 72) (dec_at lsk_59 (k := 41) rfl) ?_
          refine u_sto (lv' := [.ref a, iV l1, iV l2, iV l3, iV (ior l4 (ishl 1 ((u.1 (a + 4) ((l1 * 6) + l5)) - 100))), iV l5, iV (u.1 (a + 4) ((l1 * 6) + l5)), iV l3]) (pc := 73) (dec_at lsk_59 (k := 42) rfl) rfl ?_
          refine u_inc (lv' := [.ref a, iV l1, iV l2, iV l3, iV (ior l4 (ishl 1 ((u.1 (a + 4) ((l1 * 6) + l5)) - 100))), iV (l5 + 1), iV (u.1 (a + 4) ((l1 * 6) + l5)), iV l3]) (pc := 75) (dec_at lsk_59 (k := 43) rfl) rfl (by decide) rfl ?_
          refine u_goto (pc := 78) (tgt := 13) (dec_at lsk_59 (k := 44) rfl) rfl ?_
          exact u_weak (sbK (sbK (sbK (sbK (sbK (sbK (sbD (sbD sb0)))))))) h
        · have h := ifF e17 h
          refine u_inc (lv' := [.ref a, iV l1, iV l2, iV l3, iV l4, iV (l5 + 1), iV (u.1 (a + 4) ((l1 * 6) + l5)), iV l3]) (pc := 75) (dec_at lsk_59 (k := 43) rfl) rfl (by decide) rfl ?_
          refine u_goto (pc := 78) (tgt := 13) (dec_at lsk_59 (k := 44) rfl) rfl ?_
          exact u_weak (sbK (sbK (sbK (sbK (sbK (sbK (sbD (sbD sb0)))))))) h
  · have h := ifF e5 h
    refine u_ld (v := iV l4) (pc := 81) (dec_at lsk_59 (k := 45) rfl) rfl ?_
    exact u_rI (pc := 83) (dec_at lsk_59 (k := 46) rfl) rfl h
/-- method 60 -/
def K_60 (d pc : Nat) (lv : ev_L) (st : List Value) (u : uS) (Q : uS → Prop) : Prop := okU d 0 4 false none prog_1_method_36_code (qV Q) pc lv st u
theorem e_60 {d : Nat} {Q : uS → Prop} {u : uS} {l0 : Nat} {l1 : Int} {nl0 : Nat} (hAl0 : isA l0 0 nl0) (h : K_60 (d + 1) 2 [.ref l0, iV l1, iV 0, .retAddr 0] [] u Q) : cV (d + 2) 60 [.ref l0, iV l1] u Q := by
  refine u_of me_60 (Nat.le_of_ble_eq_true rfl) ?_
  refine u_ld (v := iV 0) (pc := 0) (dec_at lsk_60 (k := 0) rfl) rfl ?_
  refine u_sto (lv' := [.ref l0, iV l1, iV 0, .retAddr 0]) (pc := 1) (dec_at lsk_60 (k := 1) rfl) rfl ?_
  exact h
theorem k_60_2 {d : Nat} {Q : uS → Prop} {u : uS} {l0 : Nat} {l1 l2 : Int} {nl0 : Nat} (hAl0 : isA l0 0 nl0) (h : (rI l2) ∧ ((rI l1) ∧ (if l2 < l1 then (K_60 (d + 1) 9 [.ref l0, iV l1, iV l2, iV 0] [] u Q) else (Q u)))) : K_60 (d + 1) 2 [.ref l0, iV l1, iV l2, .retAddr 0] [] u Q := by
  unfold K_60
  refine u_ld (v := iV l2) (pc := 2) (dec_at lsk_60 (k := 2) rfl) rfl ?_
  refine u_ld (v := iV l1) (pc := 3) (dec_at lsk_60 (k := 3) rfl) rfl ?_
  have g1 := h.1
  have h := h.2
  have g2 := h.1
  have h := h.2
  refine u_icF (pc := 4) (tgt := 46) (dec_at lsk_60 (k := 4) rfl) rfl (ci_ge g1 g2) (fun e3 => ?_) (fun e3 => ?_)
  · have h := ifT e3 h
    refine u_ld (v := iV 0) (pc := 7) (dec_at lsk_60 (k := 5) rfl) rfl ?_
    refine u_sto (lv' := [.ref l0, iV l1, iV l2, iV 0]) (pc := 8) (dec_at lsk_60 (k := 6) rfl) rfl ?_
    exact h
  · have h := ifF e3 h
    exact u_rV (pc := 46) (dec_at lsk_60 (k := 30) rfl) rfl h
theorem k_60_9 {d : Nat} {Q : uS → Prop} {u : uS} {l0 : Nat} {l1 l2 l3 : Int} {nl0 : Nat} (hAl0 : isA l0 0 nl0) (h : (rI l3) ∧ ((rI l1) ∧ (if l3 < l1 then ((0 ≤ l3) ∧ ((l3 < (nl0 : Int)) ∧ (if iand (iushr (u.1 l0 l3) l2) 1 = 1 then ((0 ≤ l2) ∧ ((l2 < (nl0 : Int)) ∧ (∀ u9 : uS, u9 = wr u l0 l3 (ior (u.1 l0 l3) (u.1 l0 l2)) → (K_60 (d + 1) 9 [.ref l0, iV l1, iV l2, iV (l3 + 1)] [] u9 Q)))) else (K_60 (d + 1) 9 [.ref l0, iV l1, iV l2, iV (l3 + 1)] [] u Q)))) else (K_60 (d + 1) 2 [.ref l0, iV l1, iV (l2 + 1), .retAddr 0] [] u Q)))) : K_60 (d + 1) 9 [.ref l0, iV l1, iV l2, iV l3] [] u Q := by
  unfold K_60
  refine u_ld (v := iV l3) (pc := 9) (dec_at lsk_60 (k := 7) rfl) rfl ?_
  refine u_ld (v := iV l1) (pc := 10) (dec_at lsk_60 (k := 8) rfl) rfl ?_
  have g1 := h.1
  have h := h.2
  have g2 := h.1
  have h := h.2
  refine u_icF (pc := 11) (tgt := 40) (dec_at lsk_60 (k := 9) rfl) rfl (ci_ge g1 g2) (fun e3 => ?_) (fun e3 => ?_)
  · have h := ifT e3 h
    refine u_ld (v := .ref l0) (pc := 14) (dec_at lsk_60 (k := 10) rfl) rfl ?_
    refine u_ld (v := iV l3) (pc := 15) (dec_at lsk_60 (k := 11) rfl) rfl ?_
    have g4 := h.1
    have h := h.2
    have g5 := h.1
    have h := h.2
    refine u_iald (pc := 16) (dec_at lsk_60 (k := 12) rfl) hAl0 g4 g5 ?_
    refine u_ld (v := iV l2) (pc := 17) (dec_at lsk_60 (k := 13) rfl) rfl ?_
    refine u_csI (As := [iV (u.1 l0 l3), iV l2]) (st2 := []) (pc := 18) (dec_at lsk_60 (k := 14) rfl) m_0_178 (Or.inl rfl) rfl (Nat.le_of_ble_eq_true rfl) ?_ (fun _ _ h_ => h_)
    refine u_of me_47 (Nat.le_of_ble_eq_true rfl) ?_
    refine u_ld (v := iV (u.1 l0 l3)) (pc := 0) (dec_at lsk_47 (k := 0) rfl) rfl ?_
    refine u_ld (v := iV l2) (pc := 1) (dec_at lsk_47 (k := 1) rfl) rfl ?_
    refine u_iushr (pc := 2) (dec_at lsk_47 (k := 2) rfl) ?_
    refine u_ld (v := iV 1) (pc := 3) (dec_at lsk_47 (k := 3) rfl) rfl ?_
    refine u_iand (pc := 4) (dec_at lsk_47 (k := 4) rfl) ?_
    refine u_rI (pc := 5) (dec_at lsk_47 (k := 5) rfl) rfl ?_
    refine u_ld (v := iV 1) (pc := 21) (dec_at lsk_60 (k := 15) rfl) rfl ?_
    refine u_icF (pc := 22) (tgt := 34) (dec_at lsk_60 (k := 16) rfl) rfl (ci_ne (ri_toInt _) (by decide)) (fun e6 => ?_) (fun e6 => ?_)
    · have h := ifT e6 h
      refine u_ld (v := .ref l0) (pc := 25) (dec_at lsk_60 (k := 17) rfl) rfl ?_
      refine u_ld (v := iV l3) (pc := 26) (dec_at lsk_60 (k := 18) rfl) rfl ?_
      refine u_st (st' := [iV l3, .ref l0, iV l3, .ref l0]) (pc := 27) (dec_at lsk_60 (k := 19) rfl) rfl ?_
      refine u_iald (pc := 28) (dec_at lsk_60 (k := 20) rfl) hAl0 g4 g5 ?_
      refine u_ld (v := .ref l0) (pc := 29) (dec_at lsk_60 (k := 21) rfl) rfl ?_
      refine u_ld (v := iV l2) (pc := 30) (dec_at lsk_60 (k := 22) rfl) rfl ?_
      have g7 := h.1
      have h := h.2
      have g8 := h.1
      have h := h.2
      refine u_iald (pc := 31) (dec_at lsk_60 (k := 23) rfl) hAl0 g7 g8 ?_
      refine u_ior (pc := 32) (dec_at lsk_60 (k := 24) rfl) ?_
      refine u_iast (pc := 33) (dec_at lsk_60 (k := 25) rfl) hAl0 g4 g5 (fun u9 e10 => ?_)
      have h := h u9 e10
      refine u_inc (lv' := [.ref l0, iV l1, iV l2, iV (l3 + 1)]) (pc := 34) (dec_at lsk_60 (k := 26) rfl) rfl (by decide) rfl ?_
      refine u_goto (pc := 37) (tgt := 9) (dec_at lsk_60 (k := 27) rfl) rfl ?_
      exact h
    · have h := ifF e6 h
      refine u_inc (lv' := [.ref l0, iV l1, iV l2, iV (l3 + 1)]) (pc := 34) (dec_at lsk_60 (k := 26) rfl) rfl (by decide) rfl ?_
      refine u_goto (pc := 37) (tgt := 9) (dec_at lsk_60 (k := 27) rfl) rfl ?_
      exact h
  · have h := ifF e3 h
    refine u_inc (lv' := [.ref l0, iV l1, iV (l2 + 1), iV l3]) (pc := 40) (dec_at lsk_60 (k := 28) rfl) rfl (by decide) rfl ?_
    refine u_goto (pc := 43) (tgt := 2) (dec_at lsk_60 (k := 29) rfl) rfl ?_
    exact u_weak (sbK (sbK (sbK (sbD sb0)))) h
/-- method 62 -/
def K_62 (d pc : Nat) (lv : ev_L) (st : List Value) (u : uS) (Q : Int → uS → Prop) : Prop := okU d 0 3 false (some .int) prog_1_method_5_code (qI Q) pc lv st u
theorem e_62 {d : Nat} {Q : Int → uS → Prop} {u : uS} {l1 : Int} (h : (rI l1) ∧ (if l1 < 0 then (Q (-1) u) else (if l1 < 2 then (cV (d + 1) 18 [.ref 1] u (fun u4 => cI (d + 1) 64 [.ref 63, .ref 1] u4 (fun r6 u5 => (rI r6) ∧ (if r6 = (-1) then (cI (d + 1) 67 [.ref 63, .ref 1] u5 (fun r10 u9 => (rI r10) ∧ (if r10 = 0 then (Q (-1000) u9) else (∀ u13 : uS, u13 = wr u9 (59 + 2 * l1.toNat) 0 (u9.1 89 0) → (∀ u15 : uS, u15 = wr u13 (59 + 2 * l1.toNat) 1 (u13.1 89 1) → ((0 ≤ (u15.1 (59 + 2 * l1.toNat) 0) * 10) ∧ ((0 + ((u15.1 (59 + 2 * l1.toNat) 0) * 10) ≤ 400) ∧ (∀ u19 : uS, u19 = cpy u15 90 0 ((59 + 2 * l1.toNat) + 1) 0 ((u15.1 (59 + 2 * l1.toNat) 0) * 10) → (∀ u21 : uS, u21 = wr u19 (193 + 19 * l1.toNat) 0 0 → (Q (u21.1 (59 + 2 * l1.toNat) 0) u21)))))))))) else (Q ((-2) - r6) u5))))) else (Q (-1) u)))) : cI (d + 2) 62 [.ref 0, iV l1] u Q := by
  refine u_of me_62 (Nat.le_of_ble_eq_true rfl) ?_
  refine u_ld (v := iV l1) (pc := 0) (dec_at lsk_62 (k := 0) rfl) rfl ?_
  refine u_csI (As := [iV l1]) (st2 := []) (pc := 1) (dec_at lsk_62 (k := 1) rfl) m_0_126 (Or.inl rfl) rfl (Nat.le_of_ble_eq_true rfl) ?_ (fun _ _ h_ => h_)
  refine u_of me_63 (Nat.le_of_ble_eq_true rfl) ?_
  refine u_ld (v := iV l1) (pc := 0) (dec_at lsk_63 (k := 0) rfl) rfl ?_
  have g1 := h.1
  have h := h.2
  refine u_ifT (pc := 1) (tgt := 13) (dec_at lsk_63 (k := 1) rfl) rfl (c0_lt g1) (fun e2 => ?_) (fun e2 => ?_)
  · have h := ifT e2 h
    refine u_ld (v := iV 0) (pc := 13) (dec_at lsk_63 (k := 7) rfl) rfl ?_
    refine u_rZ (pc := 14) (dec_at lsk_63 (k := 8) rfl) rfl (by decide) ?_
    refine u_ifF (pc := 4) (tgt := 9) (dec_at lsk_62 (k := 2) rfl) rfl (c0_ne (by decide)) (fun _ => ?_) (fun e => absurd e (by decide))
    refine u_ld (v := iV (-1)) (pc := 7) (dec_at lsk_62 (k := 3) rfl) rfl ?_
    exact u_rI (pc := 8) (dec_at lsk_62 (k := 4) rfl) rfl h
  · have h := ifF e2 h
    refine u_ld (v := iV l1) (pc := 4) (dec_at lsk_63 (k := 2) rfl) rfl ?_
    refine u_ld (v := iV 2) (pc := 5) (dec_at lsk_63 (k := 3) rfl) rfl ?_
    refine u_icF (pc := 6) (tgt := 13) (dec_at lsk_63 (k := 4) rfl) rfl (ci_ge g1 (by decide)) (fun e3 => ?_) (fun e3 => ?_)
    · have h := ifT e3 h
      refine u_ld (v := iV 1) (pc := 9) (dec_at lsk_63 (k := 5) rfl) rfl ?_
      refine u_goto (pc := 10) (tgt := 14) (dec_at lsk_63 (k := 6) rfl) rfl ?_
      refine u_rZ (pc := 14) (dec_at lsk_63 (k := 8) rfl) rfl (by decide) ?_
      refine u_ifF (pc := 4) (tgt := 9) (dec_at lsk_62 (k := 2) rfl) rfl (c0_ne (by decide)) (fun e => absurd e (by decide)) (fun _ => ?_)
      refine u_ld (v := .ref 0) (pc := 9) (dec_at lsk_62 (k := 5) rfl) rfl ?_
      refine u_gS (o := 1) (p := 1) (pc := 10) (dec_at lsk_62 (k := 6) rfl) f_0_10 sx_0 rfl rfl ?_
      refine u_cvV (As := []) (rb := 1) (st2 := []) (pc := 13) (dec_at lsk_62 (k := 7) rfl) m_0_83 (Or.inl rfl) rfl (Nat.le_of_ble_eq_true rfl) sx_1 me_18 rfl h (fun u4 h => ?_)
      refine u_ld (v := .ref 0) (pc := 16) (dec_at lsk_62 (k := 8) rfl) rfl ?_
      refine u_gS (o := 63) (p := 63) (pc := 17) (dec_at lsk_62 (k := 9) rfl) f_0_54 sx_0 rfl rfl ?_
      refine u_ld (v := .ref 0) (pc := 20) (dec_at lsk_62 (k := 10) rfl) rfl ?_
      refine u_gS (o := 1) (p := 1) (pc := 21) (dec_at lsk_62 (k := 11) rfl) f_0_10 sx_0 rfl rfl ?_
      refine u_cvI (As := [.ref 1]) (rb := 63) (st2 := []) (pc := 24) (dec_at lsk_62 (k := 12) rfl) m_0_130 (Or.inl rfl) rfl (Nat.le_of_ble_eq_true rfl) sx_63 me_64 rfl h (fun r6 u5 h => ?_)
      refine u_sto (lv' := [.ref 0, iV l1, iV r6]) (pc := 27) (dec_at lsk_62 (k := 13) rfl) rfl ?_
      refine u_ld (v := iV r6) (pc := 28) (dec_at lsk_62 (k := 14) rfl) rfl ?_
      refine u_ld (v := iV (-1)) (pc := 29) (dec_at lsk_62 (k := 15) rfl) rfl ?_
      have g7 := h.1
      have h := h.2
      refine u_icT (pc := 30) (tgt := 38) (dec_at lsk_62 (k := 16) rfl) rfl (ci_eq g7 (by decide)) (fun e8 => ?_) (fun e8 => ?_)
      · have h := ifT e8 h
        refine u_ld (v := .ref 0) (pc := 38) (dec_at lsk_62 (k := 20) rfl) rfl ?_
        refine u_gS (o := 63) (p := 63) (pc := 39) (dec_at lsk_62 (k := 21) rfl) f_0_54 sx_0 rfl rfl ?_
        refine u_ld (v := .ref 0) (pc := 42) (dec_at lsk_62 (k := 22) rfl) rfl ?_
        refine u_gS (o := 1) (p := 1) (pc := 43) (dec_at lsk_62 (k := 23) rfl) f_0_10 sx_0 rfl rfl ?_
        refine u_cvI (As := [.ref 1]) (rb := 63) (st2 := []) (pc := 46) (dec_at lsk_62 (k := 24) rfl) m_0_134 (Or.inl rfl) rfl (Nat.le_of_ble_eq_true rfl) sx_63 me_67 rfl h (fun r10 u9 h => ?_)
        have g11 := h.1
        have h := h.2
        refine u_ifF (pc := 49) (tgt := 56) (dec_at lsk_62 (k := 25) rfl) rfl (c0_ne g11) (fun e12 => ?_) (fun e12 => ?_)
        · have h := ifT e12 h
          refine u_c (x := (-1000)) (pc := 52) (dec_at lsk_62 (k := 26) rfl) rfl (by decide) ?_
          exact u_rI (pc := 55) (dec_at lsk_62 (k := 27) rfl) rfl h
        · have h := ifF e12 h
          refine u_ld (v := .ref 0) (pc := 56) (dec_at lsk_62 (k := 28) rfl) rfl ?_
          refine u_gS (o := 58) (p := 58) (pc := 57) (dec_at lsk_62 (k := 29) rfl) f_0_47 sx_0 rfl rfl ?_
          refine u_ld (v := iV l1) (pc := 60) (dec_at lsk_62 (k := 30) rfl) rfl ?_
          refine u_aald3 (r := 59 + 2 * l1.toNat) (pc := 61) (dec_at lsk_62 (k := 31) rfl) sx_58 (Int.not_lt.mp e2) e3 rfl ?_
          refine u_ld (v := .ref 0) (pc := 62) (dec_at lsk_62 (k := 32) rfl) rfl ?_
          refine u_gS (o := 63) (p := 63) (pc := 63) (dec_at lsk_62 (k := 33) rfl) f_0_54 sx_0 rfl rfl ?_
          refine u_cvR (As := []) (rb := 63) (st2 := [.ref (59 + 2 * l1.toNat)]) (pc := 66) (dec_at lsk_62 (k := 34) rfl) m_0_138 (Or.inl rfl) rfl (Nat.le_of_ble_eq_true rfl) sx_63 me_97 rfl ?_ (fun _ _ h_ => h_)
          refine u_of me_97 (Nat.le_of_ble_eq_true rfl) ?_
          refine u_ld (v := .ref 63) (pc := 0) (dec_at lsk_97 (k := 0) rfl) rfl ?_
          refine u_gS (o := 19) (p := 82) (pc := 1) (dec_at lsk_97 (k := 1) rfl) f_6_28 sx_63 rfl rfl ?_
          refine u_ld (v := iV 0) (pc := 4) (dec_at lsk_97 (k := 2) rfl) rfl ?_
          refine u_aald3 (r := 89) (pc := 5) (dec_at lsk_97 (k := 3) rfl) sx_82 (by decide) (by decide) rfl ?_
          refine u_rR (pc := 6) (dec_at lsk_97 (k := 4) rfl) rfl ?_
          refine u_cvV (As := [.ref 89]) (rb := 59 + 2 * l1.toNat) (st2 := []) (pc := 69) (dec_at lsk_62 (k := 35) rfl) m_0_142 (Or.inl rfl) rfl (Nat.le_of_ble_eq_true rfl) (sr_58 (Int.not_lt.mp e2) e3) me_88 rfl ?_ (fun _ h_ => h_)
          refine u_of me_88 (Nat.le_of_ble_eq_true rfl) ?_
          refine u_ld (v := .ref (59 + 2 * l1.toNat)) (pc := 0) (dec_at lsk_88 (k := 0) rfl) rfl ?_
          refine u_ld (v := .ref 89) (pc := 1) (dec_at lsk_88 (k := 1) rfl) rfl ?_
          refine u_gI (z := 0) (pc := 2) (dec_at lsk_88 (k := 2) rfl) f_5_9 sx_89 rfl rfl ?_
          refine u_pI (z := 0) (pc := 5) (dec_at lsk_88 (k := 3) rfl) f_5_9 (sr_58 (Int.not_lt.mp e2) e3) rfl rfl rfl rfl (fun u13 e14 => ?_)
          have h := h u13 e14
          refine u_ld (v := .ref (59 + 2 * l1.toNat)) (pc := 8) (dec_at lsk_88 (k := 4) rfl) rfl ?_
          refine u_ld (v := .ref 89) (pc := 9) (dec_at lsk_88 (k := 5) rfl) rfl ?_
          refine u_gL (z := 1) (pc := 10) (dec_at lsk_88 (k := 6) rfl) f_5_19 sx_89 rfl rfl ?_
          refine u_pL (z := 1) (pc := 13) (dec_at lsk_88 (k := 7) rfl) f_5_19 (sr_58 (Int.not_lt.mp e2) e3) rfl rfl rfl rfl (fun u15 e16 => ?_)
          have h := h u15 e16
          refine u_ld (v := .ref 89) (pc := 16) (dec_at lsk_88 (k := 8) rfl) rfl ?_
          refine u_gS (o := 1) (p := 90) (pc := 17) (dec_at lsk_88 (k := 9) rfl) f_5_15 sx_89 rfl rfl ?_
          refine u_ld (v := iV 0) (pc := 20) (dec_at lsk_88 (k := 10) rfl) rfl ?_
          refine u_ld (v := .ref (59 + 2 * l1.toNat)) (pc := 21) (dec_at lsk_88 (k := 11) rfl) rfl ?_
          refine u_gS (o := 1) (p := (59 + 2 * l1.toNat) + 1) (pc := 22) (dec_at lsk_88 (k := 12) rfl) f_5_15 (sr_58 (Int.not_lt.mp e2) e3) rfl rfl ?_
          refine u_ld (v := iV 0) (pc := 25) (dec_at lsk_88 (k := 13) rfl) rfl ?_
          refine u_ld (v := .ref (59 + 2 * l1.toNat)) (pc := 26) (dec_at lsk_88 (k := 14) rfl) rfl ?_
          refine u_gI (z := 0) (pc := 27) (dec_at lsk_88 (k := 15) rfl) f_5_9 (sr_58 (Int.not_lt.mp e2) e3) rfl rfl ?_
          refine u_c (x := 10) (pc := 30) (dec_at lsk_88 (k := 16) rfl) rfl (by decide) ?_
          refine u_imul (pc := 32) (dec_at lsk_88 (k := 17) rfl) ?_
          have g17 := h.1
          have h := h.2
          have g18 := h.1
          have h := h.2
          refine u_cpyI (pc := 33) (dec_at lsk_88 (k := 18) rfl) m_5_23 sx_90 (sa_5_2 (sr_58 (Int.not_lt.mp e2) e3)) (by decide) (by decide) g17 g18 g18 (Nat.le_of_ble_eq_true rfl) (fun u19 e20 => ?_)
          have h := h u19 e20
          refine u_rV (pc := 36) (dec_at lsk_88 (k := 19) rfl) rfl ?_
          refine u_ld (v := .ref 0) (pc := 72) (dec_at lsk_62 (k := 36) rfl) rfl ?_
          refine u_gS (o := 192) (p := 192) (pc := 73) (dec_at lsk_62 (k := 37) rfl) f_0_68 sx_0 rfl rfl ?_
          refine u_ld (v := iV l1) (pc := 76) (dec_at lsk_62 (k := 38) rfl) rfl ?_
          refine u_aald4 (r := 193 + 19 * l1.toNat) (pc := 77) (dec_at lsk_62 (k := 39) rfl) sx_192 (Int.not_lt.mp e2) e3 rfl ?_
          refine u_ld (v := iV 0) (pc := 78) (dec_at lsk_62 (k := 40) rfl) rfl ?_
          refine u_pZ (z := 0) (pc := 79) (dec_at lsk_62 (k := 41) rfl) f_0_120 (sr_192 (Int.not_lt.mp e2) e3) rfl rfl rfl rfl (by decide) (fun u21 e22 => ?_)
          have h := h u21 e22
          refine u_ld (v := .ref 0) (pc := 82) (dec_at lsk_62 (k := 42) rfl) rfl ?_
          refine u_gS (o := 58) (p := 58) (pc := 83) (dec_at lsk_62 (k := 43) rfl) f_0_47 sx_0 rfl rfl ?_
          refine u_ld (v := iV l1) (pc := 86) (dec_at lsk_62 (k := 44) rfl) rfl ?_
          refine u_aald3 (r := 59 + 2 * l1.toNat) (pc := 87) (dec_at lsk_62 (k := 45) rfl) sx_58 (Int.not_lt.mp e2) e3 rfl ?_
          refine u_gI (z := 0) (pc := 88) (dec_at lsk_62 (k := 46) rfl) f_0_145 (sr_58 (Int.not_lt.mp e2) e3) rfl rfl ?_
          exact u_rI (pc := 91) (dec_at lsk_62 (k := 47) rfl) rfl h
      · have h := ifF e8 h
        refine u_ld (v := iV r6) (pc := 33) (dec_at lsk_62 (k := 17) rfl) rfl ?_
        refine u_csI (As := [iV r6]) (st2 := []) (pc := 34) (dec_at lsk_62 (k := 18) rfl) m_0_90 (Or.inl rfl) rfl (Nat.le_of_ble_eq_true rfl) ?_ (fun _ _ h_ => h_)
        refine u_of me_23 (Nat.le_of_ble_eq_true rfl) ?_
        refine u_c (x := (-2)) (pc := 0) (dec_at lsk_23 (k := 0) rfl) rfl (by decide) ?_
        refine u_ld (v := iV r6) (pc := 2) (dec_at lsk_23 (k := 1) rfl) rfl ?_
        refine u_isub (pc := 3) (dec_at lsk_23 (k := 2) rfl) ?_
        refine u_rI (pc := 4) (dec_at lsk_23 (k := 3) rfl) rfl ?_
        exact u_rI (pc := 37) (dec_at lsk_62 (k := 19) rfl) rfl h
    · have h := ifF e3 h
      refine u_ld (v := iV 0) (pc := 13) (dec_at lsk_63 (k := 7) rfl) rfl ?_
      refine u_rZ (pc := 14) (dec_at lsk_63 (k := 8) rfl) rfl (by decide) ?_
      refine u_ifF (pc := 4) (tgt := 9) (dec_at lsk_62 (k := 2) rfl) rfl (c0_ne (by decide)) (fun _ => ?_) (fun e => absurd e (by decide))
      refine u_ld (v := iV (-1)) (pc := 7) (dec_at lsk_62 (k := 3) rfl) rfl ?_
      exact u_rI (pc := 8) (dec_at lsk_62 (k := 4) rfl) rfl h
/-- method 76 -/
def K_76 (d pc : Nat) (lv : ev_L) (st : List Value) (u : uS) (Q : Int → uS → Prop) : Prop := okU d 0 8 false (some .long) prog_1_method_37_code (qL Q) pc lv st u
theorem e_76 {d : Nat} {Q : Int → uS → Prop} {u : uS} {l0 : Nat} {l1 l3 : Int} (hOl0 : isO l0 5) (h : K_76 (d + 2) 6 [.ref l0, .retAddr 0, .retAddr 0, iV l3, lV 0, .retAddr 0, lV l1, .retAddr 0] [] u Q) : cL (d + 3) 76 [.ref l0, lV l1, iV l3] u Q := by
  refine u_of me_76 (Nat.le_of_ble_eq_true rfl) ?_
  refine u_cl (x := 0) (pc := 0) (dec_at lsk_76 (k := 0) rfl) rfl (by decide) ?_
  refine u_sto (lv' := [.ref l0, lV l1, .retAddr 0, iV l3, lV 0, .retAddr 0, .retAddr 0, .retAddr 0]) (pc := 1) (dec_at lsk_76 (k := 1) rfl) rfl ?_
  refine u_ld (v := lV l1) (pc := 3) (dec_at lsk_76 (k := 2) rfl) rfl ?_
  refine u_sto (lv' := [.ref l0, lV l1, .retAddr 0, iV l3, lV 0, .retAddr 0, lV l1, .retAddr 0]) (pc := 4) (dec_at lsk_76 (k := 3) rfl) rfl ?_
  exact u_weak (sbK (sbD (sbK (sbK (sbK (sbK (sbK (sbK sb0)))))))) h
theorem k_76_6 {d : Nat} {Q : Int → uS → Prop} {u : uS} {l0 : Nat} {l3 l4 l6 : Int} (hOl0 : isO l0 5) (h : (rL l6) ∧ (if l6 = 0 then (Q l4 u) else ((0 ≤ ((ntz l6) * 10) + l3) ∧ ((((ntz l6) * 10) + l3 < 400) ∧ (K_76 (d + 2) 6 [.ref l0, .retAddr 0, .retAddr 0, iV l3, lV (lor l4 (lshl 1 (u.1 (l0 + 1) (((ntz l6) * 10) + l3)))), .retAddr 0, lV (land l6 (l6 - 1)), .retAddr 0] [] u Q))))) : K_76 (d + 2) 6 [.ref l0, .retAddr 0, .retAddr 0, iV l3, lV l4, .retAddr 0, lV l6, .retAddr 0] [] u Q := by
  unfold K_76
  refine u_ld (v := lV l6) (pc := 6) (dec_at lsk_76 (k := 4) rfl) rfl ?_
  refine u_cl (x := 0) (pc := 8) (dec_at lsk_76 (k := 5) rfl) rfl (by decide) ?_
  refine u_st (st' := [.int (lg_cmp (Int64.ofInt l6) (Int64.ofInt 0))]) (pc := 9) (dec_at lsk_76 (k := 6) rfl) rfl ?_
  have g1 := h.1
  have h := h.2
  refine u_ifT (pc := 10) (tgt := 42) (dec_at lsk_76 (k := 7) rfl) rfl (cl_eq g1 (by decide)) (fun e2 => ?_) (fun e2 => ?_)
  · have h := ifT e2 h
    refine u_ld (v := lV l4) (pc := 42) (dec_at lsk_76 (k := 25) rfl) rfl ?_
    exact u_rL (pc := 44) (dec_at lsk_76 (k := 26) rfl) rfl h
  · have h := ifF e2 h
    refine u_ld (v := lV l4) (pc := 13) (dec_at lsk_76 (k := 8) rfl) rfl ?_
    refine u_cl (x := 1) (pc := 15) (dec_at lsk_76 (k := 9) rfl) rfl (by decide) ?_
    refine u_ld (v := .ref l0) (pc := 16) (dec_at lsk_76 (k := 10) rfl) rfl ?_
    refine u_ld (v := lV l6) (pc := 17) (dec_at lsk_76 (k := 11) rfl) rfl ?_
    refine u_csI (As := [lV l6]) (st2 := [.ref l0, lV 1, lV l4]) (pc := 19) (dec_at lsk_76 (k := 12) rfl) m_0_312 (Or.inl rfl) rfl (Nat.le_of_ble_eq_true rfl) (p_77 ) (fun r_ u_ h_ => ?_)
    rw [h_.1, h_.2]
    refine u_ld (v := iV l3) (pc := 22) (dec_at lsk_76 (k := 13) rfl) rfl ?_
    refine u_cvI (As := [iV (ntz l6), iV l3]) (rb := l0) (st2 := [lV 1, lV l4]) (pc := 23) (dec_at lsk_76 (k := 14) rfl) m_0_217 (Or.inl rfl) rfl (Nat.le_of_ble_eq_true rfl) hOl0 me_75 rfl ?_ (fun _ _ h_ => h_)
    refine u_of me_75 (Nat.le_of_ble_eq_true rfl) ?_
    refine u_ld (v := .ref l0) (pc := 0) (dec_at lsk_75 (k := 0) rfl) rfl ?_
    refine u_gS (o := 1) (p := l0 + 1) (pc := 1) (dec_at lsk_75 (k := 1) rfl) f_5_15 hOl0 rfl rfl ?_
    refine u_ld (v := iV (ntz l6)) (pc := 4) (dec_at lsk_75 (k := 2) rfl) rfl ?_
    refine u_c (x := 10) (pc := 5) (dec_at lsk_75 (k := 3) rfl) rfl (by decide) ?_
    refine u_imul (pc := 7) (dec_at lsk_75 (k := 4) rfl) ?_
    refine u_ld (v := iV l3) (pc := 8) (dec_at lsk_75 (k := 5) rfl) rfl ?_
    refine u_iadd (pc := 9) (dec_at lsk_75 (k := 6) rfl) ?_
    have g3 := h.1
    have h := h.2
    have g4 := h.1
    have h := h.2
    refine u_iald (pc := 10) (dec_at lsk_75 (k := 7) rfl) (sa_5_2 hOl0) g3 g4 ?_
    refine u_rI (pc := 11) (dec_at lsk_75 (k := 8) rfl) rfl ?_
    refine u_lshl (pc := 26) (dec_at lsk_76 (k := 15) rfl) ?_
    refine u_lor (pc := 27) (dec_at lsk_76 (k := 16) rfl) ?_
    refine u_sto (lv' := [.ref l0, .retAddr 0, .retAddr 0, iV l3, lV (lor l4 (lshl 1 (u.1 (l0 + 1) (((ntz l6) * 10) + l3)))), .retAddr 0, lV l6, .retAddr 0]) (pc := 28) (dec_at lsk_76 (k := 17) rfl) rfl ?_
    refine u_ld (v := lV l6) (pc := 30) (dec_at lsk_76 (k := 18) rfl) rfl ?_
    refine u_ld (v := lV l6) (pc := 32) (dec_at lsk_76 (k := 19) rfl) rfl ?_
    refine u_cl (x := 1) (pc := 34) (dec_at lsk_76 (k := 20) rfl) rfl (by decide) ?_
    refine u_lsub (pc := 35) (dec_at lsk_76 (k := 21) rfl) ?_
    refine u_land (pc := 36) (dec_at lsk_76 (k := 22) rfl) ?_
    refine u_sto (lv' := [.ref l0, .retAddr 0, .retAddr 0, iV l3, lV (lor l4 (lshl 1 (u.1 (l0 + 1) (((ntz l6) * 10) + l3)))), .retAddr 0, lV (land l6 (l6 - 1)), .retAddr 0]) (pc := 37) (dec_at lsk_76 (k := 23) rfl) rfl ?_
    refine u_goto (pc := 39) (tgt := 6) (dec_at lsk_76 (k := 24) rfl) rfl ?_
    exact h
/-- method 87 -/
def K_87 (d pc : Nat) (lv : ev_L) (st : List Value) (u : uS) (Q : uS → Prop) : Prop := okU d 5 1 false none prog_5_method_11_code (qV Q) pc lv st u
theorem e_87 {d : Nat} {Q : uS → Prop} {u : uS} {a : Nat} (hOa : isO a 5) (h : ∀ u1 : uS, u1 = wr u a 1 (land (lxor (u.1 a 1) (-1)) ((lshl 1 (u.1 a 0)) - 1)) → (Q u1)) : cV (d + 1) 87 [.ref a] u Q := by
  refine u_of me_87 (Nat.le_of_ble_eq_true rfl) ?_
  refine u_ld (v := .ref a) (pc := 0) (dec_at lsk_87 (k := 0) rfl) rfl ?_
  refine u_ld (v := .ref a) (pc := 1) (dec_at lsk_87 (k := 1) rfl) rfl ?_
  refine u_gL (z := 1) (pc := 2) (dec_at lsk_87 (k := 2) rfl) f_5_19 hOa rfl rfl ?_
  refine u_ldc2 (x := (-1)) (pc := 5) (dec_at lsk_87 (k := 3) rfl) con_5_39 (by decide) ?_
  refine u_lxor (pc := 8) (dec_at lsk_87 (k := 4) rfl) ?_
  refine u_cl (x := 1) (pc := 9) (dec_at lsk_87 (k := 5) rfl) rfl (by decide) ?_
  refine u_ld (v := .ref a) (pc := 10) (dec_at lsk_87 (k := 6) rfl) rfl ?_
  refine u_gI (z := 0) (pc := 11) (dec_at lsk_87 (k := 7) rfl) f_5_9 hOa rfl rfl ?_
  refine u_lshl (pc := 14) (dec_at lsk_87 (k := 8) rfl) ?_
  refine u_cl (x := 1) (pc := 15) (dec_at lsk_87 (k := 9) rfl) rfl (by decide) ?_
  refine u_lsub (pc := 16) (dec_at lsk_87 (k := 10) rfl) ?_
  refine u_land (pc := 17) (dec_at lsk_87 (k := 11) rfl) ?_
  refine u_pL (z := 1) (pc := 18) (dec_at lsk_87 (k := 12) rfl) f_5_19 hOa rfl rfl rfl rfl (fun u1 e2 => ?_)
  have h := h u1 e2
  exact u_rV (pc := 21) (dec_at lsk_87 (k := 13) rfl) rfl h
/-- method 88 -/
def K_88 (d pc : Nat) (lv : ev_L) (st : List Value) (u : uS) (Q : uS → Prop) : Prop := okU d 5 2 false none prog_5_method_6_code (qV Q) pc lv st u
theorem e_88 {d : Nat} {Q : uS → Prop} {u : uS} {a l1 : Nat} (hOa : isO a 5) (hOl1 : isO l1 5) (h : ∀ u1 : uS, u1 = wr u a 0 (u.1 l1 0) → (∀ u3 : uS, u3 = wr u1 a 1 (u1.1 l1 1) → ((0 ≤ (u3.1 a 0) * 10) ∧ ((0 + ((u3.1 a 0) * 10) ≤ 400) ∧ (∀ u7 : uS, u7 = cpy u3 (l1 + 1) 0 (a + 1) 0 ((u3.1 a 0) * 10) → (Q u7)))))) : cV (d + 1) 88 [.ref a, .ref l1] u Q := by
  refine u_of me_88 (Nat.le_of_ble_eq_true rfl) ?_
  refine u_ld (v := .ref a) (pc := 0) (dec_at lsk_88 (k := 0) rfl) rfl ?_
  refine u_ld (v := .ref l1) (pc := 1) (dec_at lsk_88 (k := 1) rfl) rfl ?_
  refine u_gI (z := 0) (pc := 2) (dec_at lsk_88 (k := 2) rfl) f_5_9 hOl1 rfl rfl ?_
  refine u_pI (z := 0) (pc := 5) (dec_at lsk_88 (k := 3) rfl) f_5_9 hOa rfl rfl rfl rfl (fun u1 e2 => ?_)
  have h := h u1 e2
  refine u_ld (v := .ref a) (pc := 8) (dec_at lsk_88 (k := 4) rfl) rfl ?_
  refine u_ld (v := .ref l1) (pc := 9) (dec_at lsk_88 (k := 5) rfl) rfl ?_
  refine u_gL (z := 1) (pc := 10) (dec_at lsk_88 (k := 6) rfl) f_5_19 hOl1 rfl rfl ?_
  refine u_pL (z := 1) (pc := 13) (dec_at lsk_88 (k := 7) rfl) f_5_19 hOa rfl rfl rfl rfl (fun u3 e4 => ?_)
  have h := h u3 e4
  refine u_ld (v := .ref l1) (pc := 16) (dec_at lsk_88 (k := 8) rfl) rfl ?_
  refine u_gS (o := 1) (p := l1 + 1) (pc := 17) (dec_at lsk_88 (k := 9) rfl) f_5_15 hOl1 rfl rfl ?_
  refine u_ld (v := iV 0) (pc := 20) (dec_at lsk_88 (k := 10) rfl) rfl ?_
  refine u_ld (v := .ref a) (pc := 21) (dec_at lsk_88 (k := 11) rfl) rfl ?_
  refine u_gS (o := 1) (p := a + 1) (pc := 22) (dec_at lsk_88 (k := 12) rfl) f_5_15 hOa rfl rfl ?_
  refine u_ld (v := iV 0) (pc := 25) (dec_at lsk_88 (k := 13) rfl) rfl ?_
  refine u_ld (v := .ref a) (pc := 26) (dec_at lsk_88 (k := 14) rfl) rfl ?_
  refine u_gI (z := 0) (pc := 27) (dec_at lsk_88 (k := 15) rfl) f_5_9 hOa rfl rfl ?_
  refine u_c (x := 10) (pc := 30) (dec_at lsk_88 (k := 16) rfl) rfl (by decide) ?_
  refine u_imul (pc := 32) (dec_at lsk_88 (k := 17) rfl) ?_
  have g5 := h.1
  have h := h.2
  have g6 := h.1
  have h := h.2
  refine u_cpyI (pc := 33) (dec_at lsk_88 (k := 18) rfl) m_5_23 (sa_5_2 hOl1) (sa_5_2 hOa) (by decide) (by decide) g5 g6 g6 (Nat.le_of_ble_eq_true rfl) (fun u7 e8 => ?_)
  have h := h u7 e8
  exact u_rV (pc := 36) (dec_at lsk_88 (k := 19) rfl) rfl h
/-- method 94 -/
def K_94 (d pc : Nat) (lv : ev_L) (st : List Value) (u : uS) (Q : uS → Prop) : Prop := okU d 5 1 false none prog_5_method_9_code (qV Q) pc lv st u
theorem e_94 {d : Nat} {Q : uS → Prop} {u : uS} {a : Nat} (hOa : isO a 5) (h : ∀ u1 : uS, u1 = wr u a 0 3 → (∀ u3 : uS, u3 = wr u1 a 1 2 → (cV d 9 [.ref a, iV 0, iV 1] u3 (fun u5 => cV d 9 [.ref a, iV 1, iV 2] u5 (fun u6 => cV d 9 [.ref a, iV 2, iV 2] u6 (fun u7 => Q u7)))))) : cV (d + 1) 94 [.ref a] u Q := by
  refine u_of me_94 (Nat.le_of_ble_eq_true rfl) ?_
  refine u_ld (v := .ref a) (pc := 0) (dec_at lsk_94 (k := 0) rfl) rfl ?_
  refine u_ld (v := iV 3) (pc := 1) (dec_at lsk_94 (k := 1) rfl) rfl ?_
  refine u_pI (z := 0) (pc := 2) (dec_at lsk_94 (k := 2) rfl) f_5_9 hOa rfl rfl rfl rfl (fun u1 e2 => ?_)
  have h := h u1 e2
  refine u_ld (v := .ref a) (pc := 5) (dec_at lsk_94 (k := 3) rfl) rfl ?_
  refine u_ldc2 (x := 2) (pc := 6) (dec_at lsk_94 (k := 4) rfl) con_5_33 (by decide) ?_
  refine u_pL (z := 1) (pc := 9) (dec_at lsk_94 (k := 5) rfl) f_5_19 hOa rfl rfl rfl rfl (fun u3 e4 => ?_)
  have h := h u3 e4
  refine u_ld (v := .ref a) (pc := 12) (dec_at lsk_94 (k := 6) rfl) rfl ?_
  refine u_ld (v := iV 0) (pc := 13) (dec_at lsk_94 (k := 7) rfl) rfl ?_
  refine u_ld (v := iV 1) (pc := 14) (dec_at lsk_94 (k := 8) rfl) rfl ?_
  refine u_cvV (As := [iV 0, iV 1]) (rb := a) (st2 := []) (pc := 15) (dec_at lsk_94 (k := 9) rfl) m_5_29 (Or.inl rfl) rfl (Nat.le_of_ble_eq_true rfl) hOa me_9 rfl h (fun u5 h => ?_)
  refine u_ld (v := .ref a) (pc := 18) (dec_at lsk_94 (k := 10) rfl) rfl ?_
  refine u_ld (v := iV 1) (pc := 19) (dec_at lsk_94 (k := 11) rfl) rfl ?_
  refine u_ld (v := iV 2) (pc := 20) (dec_at lsk_94 (k := 12) rfl) rfl ?_
  refine u_cvV (As := [iV 1, iV 2]) (rb := a) (st2 := []) (pc := 21) (dec_at lsk_94 (k := 13) rfl) m_5_29 (Or.inl rfl) rfl (Nat.le_of_ble_eq_true rfl) hOa me_9 rfl h (fun u6 h => ?_)
  refine u_ld (v := .ref a) (pc := 24) (dec_at lsk_94 (k := 14) rfl) rfl ?_
  refine u_ld (v := iV 2) (pc := 25) (dec_at lsk_94 (k := 15) rfl) rfl ?_
  refine u_ld (v := iV 2) (pc := 26) (dec_at lsk_94 (k := 16) rfl) rfl ?_
  refine u_cvV (As := [iV 2, iV 2]) (rb := a) (st2 := []) (pc := 27) (dec_at lsk_94 (k := 17) rfl) m_5_29 (Or.inl rfl) rfl (Nat.le_of_ble_eq_true rfl) hOa me_9 rfl h (fun u7 h => ?_)
  exact u_rV (pc := 30) (dec_at lsk_94 (k := 18) rfl) rfl h
/-- method 95 -/
def K_95 (d pc : Nat) (lv : ev_L) (st : List Value) (u : uS) (Q : uS → Prop) : Prop := okU d 5 1 false none prog_5_method_7_code (qV Q) pc lv st u
theorem e_95 {d : Nat} {Q : uS → Prop} {u : uS} {a : Nat} (hOa : isO a 5) (h : ∀ u1 : uS, u1 = wr u a 0 1 → (∀ u3 : uS, u3 = wr u1 a 1 0 → (cV d 9 [.ref a, iV 0, iV 0] u3 (fun u5 => Q u5)))) : cV (d + 1) 95 [.ref a] u Q := by
  refine u_of me_95 (Nat.le_of_ble_eq_true rfl) ?_
  refine u_ld (v := .ref a) (pc := 0) (dec_at lsk_95 (k := 0) rfl) rfl ?_
  refine u_ld (v := iV 1) (pc := 1) (dec_at lsk_95 (k := 1) rfl) rfl ?_
  refine u_pI (z := 0) (pc := 2) (dec_at lsk_95 (k := 2) rfl) f_5_9 hOa rfl rfl rfl rfl (fun u1 e2 => ?_)
  have h := h u1 e2
  refine u_ld (v := .ref a) (pc := 5) (dec_at lsk_95 (k := 3) rfl) rfl ?_
  refine u_cl (x := 0) (pc := 6) (dec_at lsk_95 (k := 4) rfl) rfl (by decide) ?_
  refine u_pL (z := 1) (pc := 7) (dec_at lsk_95 (k := 5) rfl) f_5_19 hOa rfl rfl rfl rfl (fun u3 e4 => ?_)
  have h := h u3 e4
  refine u_ld (v := .ref a) (pc := 10) (dec_at lsk_95 (k := 6) rfl) rfl ?_
  refine u_ld (v := iV 0) (pc := 11) (dec_at lsk_95 (k := 7) rfl) rfl ?_
  refine u_ld (v := iV 0) (pc := 12) (dec_at lsk_95 (k := 8) rfl) rfl ?_
  refine u_cvV (As := [iV 0, iV 0]) (rb := a) (st2 := []) (pc := 13) (dec_at lsk_95 (k := 9) rfl) m_5_29 (Or.inl rfl) rfl (Nat.le_of_ble_eq_true rfl) hOa me_9 rfl h (fun u5 h => ?_)
  exact u_rV (pc := 16) (dec_at lsk_95 (k := 10) rfl) rfl h
/-- method 96 -/
def K_96 (d pc : Nat) (lv : ev_L) (st : List Value) (u : uS) (Q : uS → Prop) : Prop := okU d 5 4 false none prog_5_method_10_code (qV Q) pc lv st u
theorem e_96 {d : Nat} {Q : uS → Prop} {u : uS} {a : Nat} {l1 : Int} (hOa : isO a 5) (h : (rI l1) ∧ (if l1 = 0 then (∀ u3 : uS, u3 = wr u a 0 3 → (∀ u5 : uS, u5 = wr u3 a 1 (lshl 1 1) → (cV (d + 1) 9 [.ref a, iV 0, iV (3 - 1)] u5 (fun u7 => cV (d + 1) 9 [.ref a, iV 1, iV (3 - 1)] u7 (fun u8 => cV (d + 1) 9 [.ref a, iV 2, iV (3 - 1)] u8 (fun u9 => (0 ≤ (0 * 10) + l1) ∧ (((0 * 10) + l1 < 400) ∧ (∀ u12 : uS, u12 = wr u9 (a + 1) ((0 * 10) + l1) 1 → (Q u12))))))))) else (∀ u14 : uS, u14 = wr u a 0 3 → (∀ u16 : uS, u16 = wr u14 a 1 (lshl 1 2) → (cV (d + 1) 9 [.ref a, iV 0, iV (3 - 2)] u16 (fun u18 => cV (d + 1) 9 [.ref a, iV 1, iV (3 - 2)] u18 (fun u19 => cV (d + 1) 9 [.ref a, iV 2, iV (3 - 2)] u19 (fun u20 => (0 ≤ (0 * 10) + l1) ∧ (((0 * 10) + l1 < 400) ∧ (∀ u23 : uS, u23 = wr u20 (a + 1) ((0 * 10) + l1) 2 → (Q u23))))))))))) : cV (d + 2) 96 [.ref a, iV l1] u Q := by
  refine u_of me_96 (Nat.le_of_ble_eq_true rfl) ?_
  refine u_ld (v := iV l1) (pc := 0) (dec_at lsk_96 (k := 0) rfl) rfl ?_
  have g1 := h.1
  have h := h.2
  refine u_ifF (pc := 1) (tgt := 8) (dec_at lsk_96 (k := 1) rfl) rfl (c0_ne g1) (fun e2 => ?_) (fun e2 => ?_)
  · have h := ifT e2 h
    refine u_ld (v := iV 1) (pc := 4) (dec_at lsk_96 (k := 2) rfl) rfl ?_
    refine u_goto (pc := 5) (tgt := 9) (dec_at lsk_96 (k := 3) rfl) rfl ?_
    refine u_sto (lv' := [.ref a, iV l1, iV 1, .retAddr 0]) (pc := 9) (dec_at lsk_96 (k := 5) rfl) rfl ?_
    refine u_ld (v := iV 3) (pc := 10) (dec_at lsk_96 (k := 6) rfl) rfl ?_
    refine u_ld (v := iV 1) (pc := 11) (dec_at lsk_96 (k := 7) rfl) rfl ?_
    refine u_isub (pc := 12) (dec_at lsk_96 (k := 8) rfl) ?_
    refine u_sto (lv' := [.ref a, iV l1, iV 1, iV (3 - 1)]) (pc := 13) (dec_at lsk_96 (k := 9) rfl) rfl ?_
    refine u_ld (v := .ref a) (pc := 14) (dec_at lsk_96 (k := 10) rfl) rfl ?_
    refine u_ld (v := iV 3) (pc := 15) (dec_at lsk_96 (k := 11) rfl) rfl ?_
    refine u_pI (z := 0) (pc := 16) (dec_at lsk_96 (k := 12) rfl) f_5_9 hOa rfl rfl rfl rfl (fun u3 e4 => ?_)
    have h := h u3 e4
    refine u_ld (v := .ref a) (pc := 19) (dec_at lsk_96 (k := 13) rfl) rfl ?_
    refine u_cl (x := 1) (pc := 20) (dec_at lsk_96 (k := 14) rfl) rfl (by decide) ?_
    refine u_ld (v := iV 1) (pc := 21) (dec_at lsk_96 (k := 15) rfl) rfl ?_
    refine u_lshl (pc := 22) (dec_at lsk_96 (k := 16) rfl) ?_
    refine u_pL (z := 1) (pc := 23) (dec_at lsk_96 (k := 17) rfl) f_5_19 hOa rfl rfl rfl rfl (fun u5 e6 => ?_)
    have h := h u5 e6
    refine u_ld (v := .ref a) (pc := 26) (dec_at lsk_96 (k := 18) rfl) rfl ?_
    refine u_ld (v := iV 0) (pc := 27) (dec_at lsk_96 (k := 19) rfl) rfl ?_
    refine u_ld (v := iV (3 - 1)) (pc := 28) (dec_at lsk_96 (k := 20) rfl) rfl ?_
    refine u_cvV (As := [iV 0, iV (3 - 1)]) (rb := a) (st2 := []) (pc := 29) (dec_at lsk_96 (k := 21) rfl) m_5_29 (Or.inl rfl) rfl (Nat.le_of_ble_eq_true rfl) hOa me_9 rfl h (fun u7 h => ?_)
    refine u_ld (v := .ref a) (pc := 32) (dec_at lsk_96 (k := 22) rfl) rfl ?_
    refine u_ld (v := iV 1) (pc := 33) (dec_at lsk_96 (k := 23) rfl) rfl ?_
    refine u_ld (v := iV (3 - 1)) (pc := 34) (dec_at lsk_96 (k := 24) rfl) rfl ?_
    refine u_cvV (As := [iV 1, iV (3 - 1)]) (rb := a) (st2 := []) (pc := 35) (dec_at lsk_96 (k := 25) rfl) m_5_29 (Or.inl rfl) rfl (Nat.le_of_ble_eq_true rfl) hOa me_9 rfl h (fun u8 h => ?_)
    refine u_ld (v := .ref a) (pc := 38) (dec_at lsk_96 (k := 26) rfl) rfl ?_
    refine u_ld (v := iV 2) (pc := 39) (dec_at lsk_96 (k := 27) rfl) rfl ?_
    refine u_ld (v := iV (3 - 1)) (pc := 40) (dec_at lsk_96 (k := 28) rfl) rfl ?_
    refine u_cvV (As := [iV 2, iV (3 - 1)]) (rb := a) (st2 := []) (pc := 41) (dec_at lsk_96 (k := 29) rfl) m_5_29 (Or.inl rfl) rfl (Nat.le_of_ble_eq_true rfl) hOa me_9 rfl h (fun u9 h => ?_)
    refine u_ld (v := .ref a) (pc := 44) (dec_at lsk_96 (k := 30) rfl) rfl ?_
    refine u_ld (v := iV 0) (pc := 45) (dec_at lsk_96 (k := 31) rfl) rfl ?_
    refine u_ld (v := iV l1) (pc := 46) (dec_at lsk_96 (k := 32) rfl) rfl ?_
    refine u_ld (v := iV 1) (pc := 47) (dec_at lsk_96 (k := 33) rfl) rfl ?_
    refine u_cvV (As := [iV 0, iV l1, iV 1]) (rb := a) (st2 := []) (pc := 48) (dec_at lsk_96 (k := 34) rfl) m_5_35 (Or.inl rfl) rfl (Nat.le_of_ble_eq_true rfl) hOa me_10 rfl ?_ (fun _ h_ => h_)
    refine u_of me_10 (Nat.le_of_ble_eq_true rfl) ?_
    refine u_ld (v := .ref a) (pc := 0) (dec_at lsk_10 (k := 0) rfl) rfl ?_
    refine u_gS (o := 1) (p := a + 1) (pc := 1) (dec_at lsk_10 (k := 1) rfl) f_5_15 hOa rfl rfl ?_
    refine u_ld (v := iV 0) (pc := 4) (dec_at lsk_10 (k := 2) rfl) rfl ?_
    refine u_c (x := 10) (pc := 5) (dec_at lsk_10 (k := 3) rfl) rfl (by decide) ?_
    refine u_imul (pc := 7) (dec_at lsk_10 (k := 4) rfl) ?_
    refine u_ld (v := iV l1) (pc := 8) (dec_at lsk_10 (k := 5) rfl) rfl ?_
    refine u_iadd (pc := 9) (dec_at lsk_10 (k := 6) rfl) ?_
    refine u_ld (v := iV 1) (pc := 10) (dec_at lsk_10 (k := 7) rfl) rfl ?_
    have g10 := h.1
    have h := h.2
    have g11 := h.1
    have h := h.2
    refine u_iast (pc := 11) (dec_at lsk_10 (k := 8) rfl) (sa_5_2 hOa) g10 g11 (fun u12 e13 => ?_)
    have h := h u12 e13
    refine u_rV (pc := 12) (dec_at lsk_10 (k := 9) rfl) rfl ?_
    exact u_rV (pc := 51) (dec_at lsk_96 (k := 35) rfl) rfl h
  · have h := ifF e2 h
    refine u_ld (v := iV 2) (pc := 8) (dec_at lsk_96 (k := 4) rfl) rfl ?_
    refine u_sto (lv' := [.ref a, iV l1, iV 2, .retAddr 0]) (pc := 9) (dec_at lsk_96 (k := 5) rfl) rfl ?_
    refine u_ld (v := iV 3) (pc := 10) (dec_at lsk_96 (k := 6) rfl) rfl ?_
    refine u_ld (v := iV 2) (pc := 11) (dec_at lsk_96 (k := 7) rfl) rfl ?_
    refine u_isub (pc := 12) (dec_at lsk_96 (k := 8) rfl) ?_
    refine u_sto (lv' := [.ref a, iV l1, iV 2, iV (3 - 2)]) (pc := 13) (dec_at lsk_96 (k := 9) rfl) rfl ?_
    refine u_ld (v := .ref a) (pc := 14) (dec_at lsk_96 (k := 10) rfl) rfl ?_
    refine u_ld (v := iV 3) (pc := 15) (dec_at lsk_96 (k := 11) rfl) rfl ?_
    refine u_pI (z := 0) (pc := 16) (dec_at lsk_96 (k := 12) rfl) f_5_9 hOa rfl rfl rfl rfl (fun u14 e15 => ?_)
    have h := h u14 e15
    refine u_ld (v := .ref a) (pc := 19) (dec_at lsk_96 (k := 13) rfl) rfl ?_
    refine u_cl (x := 1) (pc := 20) (dec_at lsk_96 (k := 14) rfl) rfl (by decide) ?_
    refine u_ld (v := iV 2) (pc := 21) (dec_at lsk_96 (k := 15) rfl) rfl ?_
    refine u_lshl (pc := 22) (dec_at lsk_96 (k := 16) rfl) ?_
    refine u_pL (z := 1) (pc := 23) (dec_at lsk_96 (k := 17) rfl) f_5_19 hOa rfl rfl rfl rfl (fun u16 e17 => ?_)
    have h := h u16 e17
    refine u_ld (v := .ref a) (pc := 26) (dec_at lsk_96 (k := 18) rfl) rfl ?_
    refine u_ld (v := iV 0) (pc := 27) (dec_at lsk_96 (k := 19) rfl) rfl ?_
    refine u_ld (v := iV (3 - 2)) (pc := 28) (dec_at lsk_96 (k := 20) rfl) rfl ?_
    refine u_cvV (As := [iV 0, iV (3 - 2)]) (rb := a) (st2 := []) (pc := 29) (dec_at lsk_96 (k := 21) rfl) m_5_29 (Or.inl rfl) rfl (Nat.le_of_ble_eq_true rfl) hOa me_9 rfl h (fun u18 h => ?_)
    refine u_ld (v := .ref a) (pc := 32) (dec_at lsk_96 (k := 22) rfl) rfl ?_
    refine u_ld (v := iV 1) (pc := 33) (dec_at lsk_96 (k := 23) rfl) rfl ?_
    refine u_ld (v := iV (3 - 2)) (pc := 34) (dec_at lsk_96 (k := 24) rfl) rfl ?_
    refine u_cvV (As := [iV 1, iV (3 - 2)]) (rb := a) (st2 := []) (pc := 35) (dec_at lsk_96 (k := 25) rfl) m_5_29 (Or.inl rfl) rfl (Nat.le_of_ble_eq_true rfl) hOa me_9 rfl h (fun u19 h => ?_)
    refine u_ld (v := .ref a) (pc := 38) (dec_at lsk_96 (k := 26) rfl) rfl ?_
    refine u_ld (v := iV 2) (pc := 39) (dec_at lsk_96 (k := 27) rfl) rfl ?_
    refine u_ld (v := iV (3 - 2)) (pc := 40) (dec_at lsk_96 (k := 28) rfl) rfl ?_
    refine u_cvV (As := [iV 2, iV (3 - 2)]) (rb := a) (st2 := []) (pc := 41) (dec_at lsk_96 (k := 29) rfl) m_5_29 (Or.inl rfl) rfl (Nat.le_of_ble_eq_true rfl) hOa me_9 rfl h (fun u20 h => ?_)
    refine u_ld (v := .ref a) (pc := 44) (dec_at lsk_96 (k := 30) rfl) rfl ?_
    refine u_ld (v := iV 0) (pc := 45) (dec_at lsk_96 (k := 31) rfl) rfl ?_
    refine u_ld (v := iV l1) (pc := 46) (dec_at lsk_96 (k := 32) rfl) rfl ?_
    refine u_ld (v := iV 2) (pc := 47) (dec_at lsk_96 (k := 33) rfl) rfl ?_
    refine u_cvV (As := [iV 0, iV l1, iV 2]) (rb := a) (st2 := []) (pc := 48) (dec_at lsk_96 (k := 34) rfl) m_5_35 (Or.inl rfl) rfl (Nat.le_of_ble_eq_true rfl) hOa me_10 rfl ?_ (fun _ h_ => h_)
    refine u_of me_10 (Nat.le_of_ble_eq_true rfl) ?_
    refine u_ld (v := .ref a) (pc := 0) (dec_at lsk_10 (k := 0) rfl) rfl ?_
    refine u_gS (o := 1) (p := a + 1) (pc := 1) (dec_at lsk_10 (k := 1) rfl) f_5_15 hOa rfl rfl ?_
    refine u_ld (v := iV 0) (pc := 4) (dec_at lsk_10 (k := 2) rfl) rfl ?_
    refine u_c (x := 10) (pc := 5) (dec_at lsk_10 (k := 3) rfl) rfl (by decide) ?_
    refine u_imul (pc := 7) (dec_at lsk_10 (k := 4) rfl) ?_
    refine u_ld (v := iV l1) (pc := 8) (dec_at lsk_10 (k := 5) rfl) rfl ?_
    refine u_iadd (pc := 9) (dec_at lsk_10 (k := 6) rfl) ?_
    refine u_ld (v := iV 2) (pc := 10) (dec_at lsk_10 (k := 7) rfl) rfl ?_
    have g21 := h.1
    have h := h.2
    have g22 := h.1
    have h := h.2
    refine u_iast (pc := 11) (dec_at lsk_10 (k := 8) rfl) (sa_5_2 hOa) g21 g22 (fun u23 e24 => ?_)
    have h := h u23 e24
    refine u_rV (pc := 12) (dec_at lsk_10 (k := 9) rfl) rfl ?_
    exact u_rV (pc := 51) (dec_at lsk_96 (k := 35) rfl) rfl h
/-- method 98 -/
def K_98 (d pc : Nat) (lv : ev_L) (st : List Value) (u : uS) (Q : Int → uS → Prop) : Prop := okU d 0 2 false (some .int) prog_1_method_6_code (qI Q) pc lv st u
theorem e_98 {d : Nat} {Q : Int → uS → Prop} {u : uS} {l1 : Int} (h : (rI l1) ∧ (if l1 = 0 then (Q (u.1 6 0) u) else (if l1 = 1 then (Q (u.1 6 1) u) else (if l1 = 2 then (Q (u.1 1 4) u) else (if l1 = 3 then (Q (u.1 0 2) u) else (Q (-1) u)))))) : cI (d + 1) 98 [.ref 0, iV l1] u Q := by
  refine u_of me_98 (Nat.le_of_ble_eq_true rfl) ?_
  refine u_ld (v := iV l1) (pc := 0) (dec_at lsk_98 (k := 0) rfl) rfl ?_
  have g1 := h.1
  have h := h.2
  by_cases e2 : l1 = 0
  · have h := ifT e2 h
    refine u_ts (pc := 1) (tgt := 32) (o := 31) (dec_at lsk_98 (k := 1) rfl) g1 (by omega) (by rw [e2]; rfl) rfl ?_
    refine u_ld (v := .ref 0) (pc := 32) (dec_at lsk_98 (k := 2) rfl) rfl ?_
    refine u_gS (o := 6) (p := 6) (pc := 33) (dec_at lsk_98 (k := 3) rfl) f_0_23 sx_0 rfl rfl ?_
    refine u_gI (z := 0) (pc := 36) (dec_at lsk_98 (k := 4) rfl) f_0_148 sx_6 rfl rfl ?_
    exact u_rI (pc := 39) (dec_at lsk_98 (k := 5) rfl) rfl h
  · have h := ifF e2 h
    by_cases e3 : l1 = 1
    · have h := ifT e3 h
      refine u_ts (pc := 1) (tgt := 40) (o := 39) (dec_at lsk_98 (k := 1) rfl) g1 (by omega) (by rw [e3]; rfl) rfl ?_
      refine u_ld (v := .ref 0) (pc := 40) (dec_at lsk_98 (k := 6) rfl) rfl ?_
      refine u_gS (o := 6) (p := 6) (pc := 41) (dec_at lsk_98 (k := 7) rfl) f_0_23 sx_0 rfl rfl ?_
      refine u_gI (z := 1) (pc := 44) (dec_at lsk_98 (k := 8) rfl) f_0_124 sx_6 rfl rfl ?_
      exact u_rI (pc := 47) (dec_at lsk_98 (k := 9) rfl) rfl h
    · have h := ifF e3 h
      by_cases e4 : l1 = 2
      · have h := ifT e4 h
        refine u_ts (pc := 1) (tgt := 48) (o := 47) (dec_at lsk_98 (k := 1) rfl) g1 (by omega) (by rw [e4]; rfl) rfl ?_
        refine u_ld (v := .ref 0) (pc := 48) (dec_at lsk_98 (k := 10) rfl) rfl ?_
        refine u_gS (o := 1) (p := 1) (pc := 49) (dec_at lsk_98 (k := 11) rfl) f_0_10 sx_0 rfl rfl ?_
        refine u_gI (z := 4) (pc := 52) (dec_at lsk_98 (k := 12) rfl) f_0_151 sx_1 rfl rfl ?_
        exact u_rI (pc := 55) (dec_at lsk_98 (k := 13) rfl) rfl h
      · have h := ifF e4 h
        by_cases e5 : l1 = 3
        · have h := ifT e5 h
          refine u_ts (pc := 1) (tgt := 56) (o := 55) (dec_at lsk_98 (k := 1) rfl) g1 (by omega) (by rw [e5]; rfl) rfl ?_
          refine u_ld (v := .ref 0) (pc := 56) (dec_at lsk_98 (k := 14) rfl) rfl ?_
          refine u_gI (z := 2) (pc := 57) (dec_at lsk_98 (k := 15) rfl) f_0_154 sx_0 rfl rfl ?_
          exact u_rI (pc := 60) (dec_at lsk_98 (k := 16) rfl) rfl h
        · have h := ifF e5 h
          refine u_td (pc := 1) (tgt := 61) (dec_at lsk_98 (k := 1) rfl) g1 (by omega) rfl ?_
          refine u_ld (v := iV (-1)) (pc := 61) (dec_at lsk_98 (k := 17) rfl) rfl ?_
          exact u_rI (pc := 62) (dec_at lsk_98 (k := 18) rfl) rfl h
/-- method 99 -/
def K_99 (d pc : Nat) (lv : ev_L) (st : List Value) (u : uS) (Q : Int → uS → Prop) : Prop := okU d 0 4 false (some .int) prog_1_method_7_code (qI Q) pc lv st u
theorem e_99 {d : Nat} {Q : Int → uS → Prop} {u : uS} {l1 l2 : Int} (h : (rI l1) ∧ (if l1 < 0 then (Q (-1) u) else ((rI (u.1 6 1)) ∧ (if l1 < u.1 6 1 then ((rI l2) ∧ (if l2 < 0 then (Q (-1) u) else (if l2 = 0 then ((l1 < 30) ∧ (Q (u.1 8 l1) u)) else (if l2 = 1 then ((l1 < 30) ∧ (Q (u.1 9 l1) u)) else ((l1 < 30) ∧ ((rI (l2 - 2)) ∧ ((rI (u.1 9 l1)) ∧ (if l2 - 2 < u.1 9 l1 then ((0 ≤ (l1 * 6) + (l2 - 2)) ∧ (((l1 * 6) + (l2 - 2) < 180) ∧ (Q (u.1 10 ((l1 * 6) + (l2 - 2))) u))) else (Q (-1) u))))))))) else (Q (-1) u))))) : cI (d + 2) 99 [.ref 0, iV l1, iV l2] u Q := by
  refine u_of me_99 (Nat.le_of_ble_eq_true rfl) ?_
  refine u_ld (v := iV l1) (pc := 0) (dec_at lsk_99 (k := 0) rfl) rfl ?_
  have g1 := h.1
  have h := h.2
  refine u_ifT (pc := 1) (tgt := 19) (dec_at lsk_99 (k := 1) rfl) rfl (c0_lt g1) (fun e2 => ?_) (fun e2 => ?_)
  · have h := ifT e2 h
    refine u_ld (v := iV (-1)) (pc := 19) (dec_at lsk_99 (k := 9) rfl) rfl ?_
    exact u_rI (pc := 20) (dec_at lsk_99 (k := 10) rfl) rfl h
  · have h := ifF e2 h
    refine u_ld (v := iV l1) (pc := 4) (dec_at lsk_99 (k := 2) rfl) rfl ?_
    refine u_ld (v := .ref 0) (pc := 5) (dec_at lsk_99 (k := 3) rfl) rfl ?_
    refine u_gS (o := 6) (p := 6) (pc := 6) (dec_at lsk_99 (k := 4) rfl) f_0_23 sx_0 rfl rfl ?_
    refine u_gI (z := 1) (pc := 9) (dec_at lsk_99 (k := 5) rfl) f_0_124 sx_6 rfl rfl ?_
    have g3 := h.1
    have h := h.2
    refine u_icF (pc := 12) (tgt := 19) (dec_at lsk_99 (k := 6) rfl) rfl (ci_ge g1 g3) (fun e4 => ?_) (fun e4 => ?_)
    · have h := ifT e4 h
      refine u_ld (v := iV l2) (pc := 15) (dec_at lsk_99 (k := 7) rfl) rfl ?_
      have g5 := h.1
      have h := h.2
      refine u_ifF (pc := 16) (tgt := 21) (dec_at lsk_99 (k := 8) rfl) rfl (c0_ge g5) (fun e6 => ?_) (fun e6 => ?_)
      · have h := ifT e6 h
        refine u_ld (v := iV (-1)) (pc := 19) (dec_at lsk_99 (k := 9) rfl) rfl ?_
        exact u_rI (pc := 20) (dec_at lsk_99 (k := 10) rfl) rfl h
      · have h := ifF e6 h
        refine u_ld (v := iV l2) (pc := 21) (dec_at lsk_99 (k := 11) rfl) rfl ?_
        refine u_ifF (pc := 22) (tgt := 35) (dec_at lsk_99 (k := 12) rfl) rfl (c0_ne g5) (fun e7 => ?_) (fun e7 => ?_)
        · have h := ifT e7 h
          refine u_ld (v := .ref 0) (pc := 25) (dec_at lsk_99 (k := 13) rfl) rfl ?_
          refine u_gS (o := 6) (p := 6) (pc := 26) (dec_at lsk_99 (k := 14) rfl) f_0_23 sx_0 rfl rfl ?_
          refine u_gS (o := 2) (p := 8) (pc := 29) (dec_at lsk_99 (k := 15) rfl) f_0_157 sx_6 rfl rfl ?_
          refine u_ld (v := iV l1) (pc := 32) (dec_at lsk_99 (k := 16) rfl) rfl ?_
          have g8 := h.1
          have h := h.2
          refine u_iald (pc := 33) (dec_at lsk_99 (k := 17) rfl) sx_8 (Int.not_lt.mp e2) g8 ?_
          exact u_rI (pc := 34) (dec_at lsk_99 (k := 18) rfl) rfl h
        · have h := ifF e7 h
          refine u_ld (v := iV l2) (pc := 35) (dec_at lsk_99 (k := 19) rfl) rfl ?_
          refine u_ld (v := iV 1) (pc := 36) (dec_at lsk_99 (k := 20) rfl) rfl ?_
          refine u_icF (pc := 37) (tgt := 50) (dec_at lsk_99 (k := 21) rfl) rfl (ci_ne g5 (by decide)) (fun e9 => ?_) (fun e9 => ?_)
          · have h := ifT e9 h
            refine u_ld (v := .ref 0) (pc := 40) (dec_at lsk_99 (k := 22) rfl) rfl ?_
            refine u_gS (o := 6) (p := 6) (pc := 41) (dec_at lsk_99 (k := 23) rfl) f_0_23 sx_0 rfl rfl ?_
            refine u_gS (o := 3) (p := 9) (pc := 44) (dec_at lsk_99 (k := 24) rfl) f_0_160 sx_6 rfl rfl ?_
            refine u_ld (v := iV l1) (pc := 47) (dec_at lsk_99 (k := 25) rfl) rfl ?_
            have g10 := h.1
            have h := h.2
            refine u_iald (pc := 48) (dec_at lsk_99 (k := 26) rfl) sx_9 (Int.not_lt.mp e2) g10 ?_
            exact u_rI (pc := 49) (dec_at lsk_99 (k := 27) rfl) rfl h
          · have h := ifF e9 h
            refine u_ld (v := iV l2) (pc := 50) (dec_at lsk_99 (k := 28) rfl) rfl ?_
            refine u_ld (v := iV 2) (pc := 51) (dec_at lsk_99 (k := 29) rfl) rfl ?_
            refine u_isub (pc := 52) (dec_at lsk_99 (k := 30) rfl) ?_
            refine u_sto (lv' := [.ref 0, iV l1, iV l2, iV (l2 - 2)]) (pc := 53) (dec_at lsk_99 (k := 31) rfl) rfl ?_
            refine u_ld (v := iV (l2 - 2)) (pc := 54) (dec_at lsk_99 (k := 32) rfl) rfl ?_
            refine u_ld (v := .ref 0) (pc := 55) (dec_at lsk_99 (k := 33) rfl) rfl ?_
            refine u_gS (o := 6) (p := 6) (pc := 56) (dec_at lsk_99 (k := 34) rfl) f_0_23 sx_0 rfl rfl ?_
            refine u_gS (o := 3) (p := 9) (pc := 59) (dec_at lsk_99 (k := 35) rfl) f_0_160 sx_6 rfl rfl ?_
            refine u_ld (v := iV l1) (pc := 62) (dec_at lsk_99 (k := 36) rfl) rfl ?_
            have g11 := h.1
            have h := h.2
            refine u_iald (pc := 63) (dec_at lsk_99 (k := 37) rfl) sx_9 (Int.not_lt.mp e2) g11 ?_
            have g12 := h.1
            have h := h.2
            have g13 := h.1
            have h := h.2
            refine u_icF (pc := 64) (tgt := 79) (dec_at lsk_99 (k := 38) rfl) rfl (ci_ge g12 g13) (fun e14 => ?_) (fun e14 => ?_)
            · have h := ifT e14 h
              refine u_ld (v := .ref 0) (pc := 67) (dec_at lsk_99 (k := 39) rfl) rfl ?_
              refine u_gS (o := 6) (p := 6) (pc := 68) (dec_at lsk_99 (k := 40) rfl) f_0_23 sx_0 rfl rfl ?_
              refine u_ld (v := iV l1) (pc := 71) (dec_at lsk_99 (k := 41) rfl) rfl ?_
              refine u_ld (v := iV (l2 - 2)) (pc := 72) (dec_at lsk_99 (k := 42) rfl) rfl ?_
              refine u_cvI (As := [iV l1, iV (l2 - 2)]) (rb := 6) (st2 := []) (pc := 73) (dec_at lsk_99 (k := 43) rfl) m_0_163 (Or.inl rfl) rfl (Nat.le_of_ble_eq_true rfl) sx_6 me_42 rfl ?_ (fun _ _ h_ => h_)
              refine u_of me_42 (Nat.le_of_ble_eq_true rfl) ?_
              refine u_ld (v := .ref 6) (pc := 0) (dec_at lsk_42 (k := 0) rfl) rfl ?_
              refine u_gS (o := 4) (p := 10) (pc := 1) (dec_at lsk_42 (k := 1) rfl) f_2_21 sx_6 rfl rfl ?_
              refine u_ld (v := iV l1) (pc := 4) (dec_at lsk_42 (k := 2) rfl) rfl ?_
              refine u_c (x := 6) (pc := 5) (dec_at lsk_42 (k := 3) rfl) rfl (by decide) ?_
              refine u_imul (pc := 7) (dec_at lsk_42 (k := 4) rfl) ?_
              refine u_ld (v := iV (l2 - 2)) (pc := 8) (dec_at lsk_42 (k := 5) rfl) rfl ?_
              refine u_iadd (pc := 9) (dec_at lsk_42 (k := 6) rfl) ?_
              have g15 := h.1
              have h := h.2
              have g16 := h.1
              have h := h.2
              refine u_iald (pc := 10) (dec_at lsk_42 (k := 7) rfl) sx_10 g15 g16 ?_
              refine u_rI (pc := 11) (dec_at lsk_42 (k := 8) rfl) rfl ?_
              refine u_goto (pc := 76) (tgt := 80) (dec_at lsk_99 (k := 44) rfl) rfl ?_
              exact u_rI (pc := 80) (dec_at lsk_99 (k := 46) rfl) rfl h
            · have h := ifF e14 h
              refine u_ld (v := iV (-1)) (pc := 79) (dec_at lsk_99 (k := 45) rfl) rfl ?_
              exact u_rI (pc := 80) (dec_at lsk_99 (k := 46) rfl) rfl h
    · have h := ifF e4 h
      refine u_ld (v := iV (-1)) (pc := 19) (dec_at lsk_99 (k := 9) rfl) rfl ?_
      exact u_rI (pc := 20) (dec_at lsk_99 (k := 10) rfl) rfl h
/-- method 100 -/
def K_100 (d pc : Nat) (lv : ev_L) (st : List Value) (u : uS) (Q : Int → uS → Prop) : Prop := okU d 0 3 false (some .long) prog_1_method_8_code (qL Q) pc lv st u
theorem e_100 {d : Nat} {Q : Int → uS → Prop} {u : uS} {l1 l2 : Int} (h : (rI l1) ∧ (if l1 < 0 then (Q (-1) u) else ((rI (u.1 6 0)) ∧ (if l1 < u.1 6 0 then ((rI l2) ∧ (if l2 = 0 then ((l1 < 10) ∧ ((rI (u.1 7 l1)) ∧ (Q (u.1 7 l1) u))) else (if l2 = 1 then (Q (iand (iushr (u.1 6 6) l1) 1) u) else (if l2 = 2 then (Q (iand (iushr (u.1 6 7) l1) 1) u) else (if l2 = 3 then ((l1 < 10) ∧ ((rL (u.1 11 l1)) ∧ (if u.1 11 l1 = 0 then (Q 1 u) else (Q 0 u)))) else (if l2 = 4 then ((l1 < 10) ∧ ((rL (u.1 11 l1)) ∧ (if u.1 11 l1 = 9000000000000000000 then (Q (-2) u) else (Q (u.1 11 l1) u)))) else (if l2 = 5 then ((l1 < 10) ∧ ((rI (u.1 12 l1)) ∧ (if u.1 12 l1 = 0 then (Q (-2) u) else (Q (u.1 12 l1) u)))) else (if l2 = 6 then (Q (iand (iushr (u.1 6 8) l1) 1) u) else (Q (-1) u))))))))) else (Q (-1) u))))) : cL (d + 2) 100 [.ref 0, iV l1, iV l2] u Q := by
  refine u_of me_100 (Nat.le_of_ble_eq_true rfl) ?_
  refine u_ld (v := .ref 0) (pc := 0) (dec_at lsk_100 (k := 0) rfl) rfl ?_
  refine u_ld (v := iV l1) (pc := 1) (dec_at lsk_100 (k := 1) rfl) rfl ?_
  refine u_cvI (As := [iV l1]) (rb := 0) (st2 := []) (pc := 2) (dec_at lsk_100 (k := 2) rfl) m_0_167 (Or.inl rfl) rfl (Nat.le_of_ble_eq_true rfl) sx_0 me_101 rfl ?_ (fun _ _ h_ => h_)
  refine u_of me_101 (Nat.le_of_ble_eq_true rfl) ?_
  refine u_ld (v := iV l1) (pc := 0) (dec_at lsk_101 (k := 0) rfl) rfl ?_
  have g1 := h.1
  have h := h.2
  refine u_ifT (pc := 1) (tgt := 19) (dec_at lsk_101 (k := 1) rfl) rfl (c0_lt g1) (fun e2 => ?_) (fun e2 => ?_)
  · have h := ifT e2 h
    refine u_ld (v := iV 0) (pc := 19) (dec_at lsk_101 (k := 9) rfl) rfl ?_
    refine u_rZ (pc := 20) (dec_at lsk_101 (k := 10) rfl) rfl (by decide) ?_
    refine u_ifF (pc := 5) (tgt := 12) (dec_at lsk_100 (k := 3) rfl) rfl (c0_ne (by decide)) (fun _ => ?_) (fun e => absurd e (by decide))
    refine u_ldc2 (x := (-1)) (pc := 8) (dec_at lsk_100 (k := 4) rfl) con_0_170 (by decide) ?_
    exact u_rL (pc := 11) (dec_at lsk_100 (k := 5) rfl) rfl h
  · have h := ifF e2 h
    refine u_ld (v := iV l1) (pc := 4) (dec_at lsk_101 (k := 2) rfl) rfl ?_
    refine u_ld (v := .ref 0) (pc := 5) (dec_at lsk_101 (k := 3) rfl) rfl ?_
    refine u_gS (o := 6) (p := 6) (pc := 6) (dec_at lsk_101 (k := 4) rfl) f_0_23 sx_0 rfl rfl ?_
    refine u_gI (z := 0) (pc := 9) (dec_at lsk_101 (k := 5) rfl) f_0_148 sx_6 rfl rfl ?_
    have g3 := h.1
    have h := h.2
    refine u_icF (pc := 12) (tgt := 19) (dec_at lsk_101 (k := 6) rfl) rfl (ci_ge g1 g3) (fun e4 => ?_) (fun e4 => ?_)
    · have h := ifT e4 h
      refine u_ld (v := iV 1) (pc := 15) (dec_at lsk_101 (k := 7) rfl) rfl ?_
      refine u_goto (pc := 16) (tgt := 20) (dec_at lsk_101 (k := 8) rfl) rfl ?_
      refine u_rZ (pc := 20) (dec_at lsk_101 (k := 10) rfl) rfl (by decide) ?_
      refine u_ifF (pc := 5) (tgt := 12) (dec_at lsk_100 (k := 3) rfl) rfl (c0_ne (by decide)) (fun e => absurd e (by decide)) (fun _ => ?_)
      refine u_ld (v := iV l2) (pc := 12) (dec_at lsk_100 (k := 6) rfl) rfl ?_
      have g5 := h.1
      have h := h.2
      by_cases e6 : l2 = 0
      · have h := ifT e6 h
        refine u_ts (pc := 13) (tgt := 56) (o := 43) (dec_at lsk_100 (k := 7) rfl) g5 (by omega) (by rw [e6]; rfl) rfl ?_
        refine u_ld (v := .ref 0) (pc := 56) (dec_at lsk_100 (k := 8) rfl) rfl ?_
        refine u_gS (o := 6) (p := 6) (pc := 57) (dec_at lsk_100 (k := 9) rfl) f_0_23 sx_0 rfl rfl ?_
        refine u_gS (o := 1) (p := 7) (pc := 60) (dec_at lsk_100 (k := 10) rfl) f_0_172 sx_6 rfl rfl ?_
        refine u_ld (v := iV l1) (pc := 63) (dec_at lsk_100 (k := 11) rfl) rfl ?_
        have g7 := h.1
        have h := h.2
        refine u_iald (pc := 64) (dec_at lsk_100 (k := 12) rfl) sx_7 (Int.not_lt.mp e2) g7 ?_
        have g8 := h.1
        have h := h.2
        refine u_i2l (pc := 65) (dec_at lsk_100 (k := 13) rfl) g8 ?_
        exact u_rL (pc := 66) (dec_at lsk_100 (k := 14) rfl) rfl h
      · have h := ifF e6 h
        by_cases e9 : l2 = 1
        · have h := ifT e9 h
          refine u_ts (pc := 13) (tgt := 67) (o := 54) (dec_at lsk_100 (k := 7) rfl) g5 (by omega) (by rw [e9]; rfl) rfl ?_
          refine u_ld (v := .ref 0) (pc := 67) (dec_at lsk_100 (k := 15) rfl) rfl ?_
          refine u_gS (o := 6) (p := 6) (pc := 68) (dec_at lsk_100 (k := 16) rfl) f_0_23 sx_0 rfl rfl ?_
          refine u_gI (z := 6) (pc := 71) (dec_at lsk_100 (k := 17) rfl) f_0_175 sx_6 rfl rfl ?_
          refine u_ld (v := iV l1) (pc := 74) (dec_at lsk_100 (k := 18) rfl) rfl ?_
          refine u_csI (As := [iV (u.1 6 6), iV l1]) (st2 := []) (pc := 75) (dec_at lsk_100 (k := 19) rfl) m_0_178 (Or.inl rfl) rfl (Nat.le_of_ble_eq_true rfl) ?_ (fun _ _ h_ => h_)
          refine u_of me_47 (Nat.le_of_ble_eq_true rfl) ?_
          refine u_ld (v := iV (u.1 6 6)) (pc := 0) (dec_at lsk_47 (k := 0) rfl) rfl ?_
          refine u_ld (v := iV l1) (pc := 1) (dec_at lsk_47 (k := 1) rfl) rfl ?_
          refine u_iushr (pc := 2) (dec_at lsk_47 (k := 2) rfl) ?_
          refine u_ld (v := iV 1) (pc := 3) (dec_at lsk_47 (k := 3) rfl) rfl ?_
          refine u_iand (pc := 4) (dec_at lsk_47 (k := 4) rfl) ?_
          refine u_rI (pc := 5) (dec_at lsk_47 (k := 5) rfl) rfl ?_
          refine u_i2l (pc := 78) (dec_at lsk_100 (k := 20) rfl) (ri_toInt _) ?_
          exact u_rL (pc := 79) (dec_at lsk_100 (k := 21) rfl) rfl h
        · have h := ifF e9 h
          by_cases e10 : l2 = 2
          · have h := ifT e10 h
            refine u_ts (pc := 13) (tgt := 80) (o := 67) (dec_at lsk_100 (k := 7) rfl) g5 (by omega) (by rw [e10]; rfl) rfl ?_
            refine u_ld (v := .ref 0) (pc := 80) (dec_at lsk_100 (k := 22) rfl) rfl ?_
            refine u_gS (o := 6) (p := 6) (pc := 81) (dec_at lsk_100 (k := 23) rfl) f_0_23 sx_0 rfl rfl ?_
            refine u_gI (z := 7) (pc := 84) (dec_at lsk_100 (k := 24) rfl) f_0_181 sx_6 rfl rfl ?_
            refine u_ld (v := iV l1) (pc := 87) (dec_at lsk_100 (k := 25) rfl) rfl ?_
            refine u_csI (As := [iV (u.1 6 7), iV l1]) (st2 := []) (pc := 88) (dec_at lsk_100 (k := 26) rfl) m_0_178 (Or.inl rfl) rfl (Nat.le_of_ble_eq_true rfl) ?_ (fun _ _ h_ => h_)
            refine u_of me_47 (Nat.le_of_ble_eq_true rfl) ?_
            refine u_ld (v := iV (u.1 6 7)) (pc := 0) (dec_at lsk_47 (k := 0) rfl) rfl ?_
            refine u_ld (v := iV l1) (pc := 1) (dec_at lsk_47 (k := 1) rfl) rfl ?_
            refine u_iushr (pc := 2) (dec_at lsk_47 (k := 2) rfl) ?_
            refine u_ld (v := iV 1) (pc := 3) (dec_at lsk_47 (k := 3) rfl) rfl ?_
            refine u_iand (pc := 4) (dec_at lsk_47 (k := 4) rfl) ?_
            refine u_rI (pc := 5) (dec_at lsk_47 (k := 5) rfl) rfl ?_
            refine u_i2l (pc := 91) (dec_at lsk_100 (k := 27) rfl) (ri_toInt _) ?_
            exact u_rL (pc := 92) (dec_at lsk_100 (k := 28) rfl) rfl h
          · have h := ifF e10 h
            by_cases e11 : l2 = 3
            · have h := ifT e11 h
              refine u_ts (pc := 13) (tgt := 93) (o := 80) (dec_at lsk_100 (k := 7) rfl) g5 (by omega) (by rw [e11]; rfl) rfl ?_
              refine u_ld (v := .ref 0) (pc := 93) (dec_at lsk_100 (k := 29) rfl) rfl ?_
              refine u_gS (o := 6) (p := 6) (pc := 94) (dec_at lsk_100 (k := 30) rfl) f_0_23 sx_0 rfl rfl ?_
              refine u_gS (o := 5) (p := 11) (pc := 97) (dec_at lsk_100 (k := 31) rfl) f_0_184 sx_6 rfl rfl ?_
              refine u_ld (v := iV l1) (pc := 100) (dec_at lsk_100 (k := 32) rfl) rfl ?_
              have g12 := h.1
              have h := h.2
              refine u_lald (pc := 101) (dec_at lsk_100 (k := 33) rfl) sx_11 (Int.not_lt.mp e2) g12 ?_
              refine u_cl (x := 0) (pc := 102) (dec_at lsk_100 (k := 34) rfl) rfl (by decide) ?_
              refine u_st (st' := [.int (lg_cmp (Int64.ofInt (u.1 11 l1)) (Int64.ofInt 0))]) (pc := 103) (dec_at lsk_100 (k := 35) rfl) rfl ?_
              have g13 := h.1
              have h := h.2
              refine u_ifF (pc := 104) (tgt := 111) (dec_at lsk_100 (k := 36) rfl) rfl (cl_ne g13 (by decide)) (fun e14 => ?_) (fun e14 => ?_)
              · have h := ifT e14 h
                refine u_cl (x := 1) (pc := 107) (dec_at lsk_100 (k := 37) rfl) rfl (by decide) ?_
                refine u_goto (pc := 108) (tgt := 112) (dec_at lsk_100 (k := 38) rfl) rfl ?_
                exact u_rL (pc := 112) (dec_at lsk_100 (k := 40) rfl) rfl h
              · have h := ifF e14 h
                refine u_cl (x := 0) (pc := 111) (dec_at lsk_100 (k := 39) rfl) rfl (by decide) ?_
                exact u_rL (pc := 112) (dec_at lsk_100 (k := 40) rfl) rfl h
            · have h := ifF e11 h
              by_cases e15 : l2 = 4
              · have h := ifT e15 h
                refine u_ts (pc := 13) (tgt := 113) (o := 100) (dec_at lsk_100 (k := 7) rfl) g5 (by omega) (by rw [e15]; rfl) rfl ?_
                refine u_ld (v := .ref 0) (pc := 113) (dec_at lsk_100 (k := 41) rfl) rfl ?_
                refine u_gS (o := 6) (p := 6) (pc := 114) (dec_at lsk_100 (k := 42) rfl) f_0_23 sx_0 rfl rfl ?_
                refine u_gS (o := 5) (p := 11) (pc := 117) (dec_at lsk_100 (k := 43) rfl) f_0_184 sx_6 rfl rfl ?_
                refine u_ld (v := iV l1) (pc := 120) (dec_at lsk_100 (k := 44) rfl) rfl ?_
                have g16 := h.1
                have h := h.2
                refine u_lald (pc := 121) (dec_at lsk_100 (k := 45) rfl) sx_11 (Int.not_lt.mp e2) g16 ?_
                refine u_ldc2 (x := 9000000000000000000) (pc := 122) (dec_at lsk_100 (k := 46) rfl) con_0_188 (by decide) ?_
                refine u_st (st' := [.int (lg_cmp (Int64.ofInt (u.1 11 l1)) (Int64.ofInt 9000000000000000000))]) (pc := 125) (dec_at lsk_100 (k := 47) rfl) rfl ?_
                have g17 := h.1
                have h := h.2
                refine u_ifF (pc := 126) (tgt := 135) (dec_at lsk_100 (k := 48) rfl) rfl (cl_ne g17 (by decide)) (fun e18 => ?_) (fun e18 => ?_)
                · have h := ifT e18 h
                  refine u_ldc2 (x := (-2)) (pc := 129) (dec_at lsk_100 (k := 49) rfl) con_0_190 (by decide) ?_
                  refine u_goto (pc := 132) (tgt := 144) (dec_at lsk_100 (k := 50) rfl) rfl ?_
                  exact u_rL (pc := 144) (dec_at lsk_100 (k := 56) rfl) rfl h
                · have h := ifF e18 h
                  refine u_ld (v := .ref 0) (pc := 135) (dec_at lsk_100 (k := 51) rfl) rfl ?_
                  refine u_gS (o := 6) (p := 6) (pc := 136) (dec_at lsk_100 (k := 52) rfl) f_0_23 sx_0 rfl rfl ?_
                  refine u_gS (o := 5) (p := 11) (pc := 139) (dec_at lsk_100 (k := 53) rfl) f_0_184 sx_6 rfl rfl ?_
                  refine u_ld (v := iV l1) (pc := 142) (dec_at lsk_100 (k := 54) rfl) rfl ?_
                  refine u_lald (pc := 143) (dec_at lsk_100 (k := 55) rfl) sx_11 (Int.not_lt.mp e2) g16 ?_
                  exact u_rL (pc := 144) (dec_at lsk_100 (k := 56) rfl) rfl h
              · have h := ifF e15 h
                by_cases e19 : l2 = 5
                · have h := ifT e19 h
                  refine u_ts (pc := 13) (tgt := 145) (o := 132) (dec_at lsk_100 (k := 7) rfl) g5 (by omega) (by rw [e19]; rfl) rfl ?_
                  refine u_ld (v := .ref 0) (pc := 145) (dec_at lsk_100 (k := 57) rfl) rfl ?_
                  refine u_gS (o := 6) (p := 6) (pc := 146) (dec_at lsk_100 (k := 58) rfl) f_0_23 sx_0 rfl rfl ?_
                  refine u_gS (o := 6) (p := 12) (pc := 149) (dec_at lsk_100 (k := 59) rfl) f_0_192 sx_6 rfl rfl ?_
                  refine u_ld (v := iV l1) (pc := 152) (dec_at lsk_100 (k := 60) rfl) rfl ?_
                  have g20 := h.1
                  have h := h.2
                  refine u_iald (pc := 153) (dec_at lsk_100 (k := 61) rfl) sx_12 (Int.not_lt.mp e2) g20 ?_
                  have g21 := h.1
                  have h := h.2
                  refine u_ifF (pc := 154) (tgt := 163) (dec_at lsk_100 (k := 62) rfl) rfl (c0_ne g21) (fun e22 => ?_) (fun e22 => ?_)
                  · have h := ifT e22 h
                    refine u_ldc2 (x := (-2)) (pc := 157) (dec_at lsk_100 (k := 63) rfl) con_0_190 (by decide) ?_
                    refine u_goto (pc := 160) (tgt := 173) (dec_at lsk_100 (k := 64) rfl) rfl ?_
                    exact u_rL (pc := 173) (dec_at lsk_100 (k := 71) rfl) rfl h
                  · have h := ifF e22 h
                    refine u_ld (v := .ref 0) (pc := 163) (dec_at lsk_100 (k := 65) rfl) rfl ?_
                    refine u_gS (o := 6) (p := 6) (pc := 164) (dec_at lsk_100 (k := 66) rfl) f_0_23 sx_0 rfl rfl ?_
                    refine u_gS (o := 6) (p := 12) (pc := 167) (dec_at lsk_100 (k := 67) rfl) f_0_192 sx_6 rfl rfl ?_
                    refine u_ld (v := iV l1) (pc := 170) (dec_at lsk_100 (k := 68) rfl) rfl ?_
                    refine u_iald (pc := 171) (dec_at lsk_100 (k := 69) rfl) sx_12 (Int.not_lt.mp e2) g20 ?_
                    refine u_i2l (pc := 172) (dec_at lsk_100 (k := 70) rfl) g21 ?_
                    exact u_rL (pc := 173) (dec_at lsk_100 (k := 71) rfl) rfl h
                · have h := ifF e19 h
                  by_cases e23 : l2 = 6
                  · have h := ifT e23 h
                    refine u_ts (pc := 13) (tgt := 174) (o := 161) (dec_at lsk_100 (k := 7) rfl) g5 (by omega) (by rw [e23]; rfl) rfl ?_
                    refine u_ld (v := .ref 0) (pc := 174) (dec_at lsk_100 (k := 72) rfl) rfl ?_
                    refine u_gS (o := 6) (p := 6) (pc := 175) (dec_at lsk_100 (k := 73) rfl) f_0_23 sx_0 rfl rfl ?_
                    refine u_gI (z := 8) (pc := 178) (dec_at lsk_100 (k := 74) rfl) f_0_195 sx_6 rfl rfl ?_
                    refine u_ld (v := iV l1) (pc := 181) (dec_at lsk_100 (k := 75) rfl) rfl ?_
                    refine u_csI (As := [iV (u.1 6 8), iV l1]) (st2 := []) (pc := 182) (dec_at lsk_100 (k := 76) rfl) m_0_178 (Or.inl rfl) rfl (Nat.le_of_ble_eq_true rfl) ?_ (fun _ _ h_ => h_)
                    refine u_of me_47 (Nat.le_of_ble_eq_true rfl) ?_
                    refine u_ld (v := iV (u.1 6 8)) (pc := 0) (dec_at lsk_47 (k := 0) rfl) rfl ?_
                    refine u_ld (v := iV l1) (pc := 1) (dec_at lsk_47 (k := 1) rfl) rfl ?_
                    refine u_iushr (pc := 2) (dec_at lsk_47 (k := 2) rfl) ?_
                    refine u_ld (v := iV 1) (pc := 3) (dec_at lsk_47 (k := 3) rfl) rfl ?_
                    refine u_iand (pc := 4) (dec_at lsk_47 (k := 4) rfl) ?_
                    refine u_rI (pc := 5) (dec_at lsk_47 (k := 5) rfl) rfl ?_
                    refine u_i2l (pc := 185) (dec_at lsk_100 (k := 77) rfl) (ri_toInt _) ?_
                    exact u_rL (pc := 186) (dec_at lsk_100 (k := 78) rfl) rfl h
                  · have h := ifF e23 h
                    refine u_td (pc := 13) (tgt := 187) (dec_at lsk_100 (k := 7) rfl) g5 (by omega) rfl ?_
                    refine u_ldc2 (x := (-1)) (pc := 187) (dec_at lsk_100 (k := 79) rfl) con_0_170 (by decide) ?_
                    exact u_rL (pc := 190) (dec_at lsk_100 (k := 80) rfl) rfl h
    · have h := ifF e4 h
      refine u_ld (v := iV 0) (pc := 19) (dec_at lsk_101 (k := 9) rfl) rfl ?_
      refine u_rZ (pc := 20) (dec_at lsk_101 (k := 10) rfl) rfl (by decide) ?_
      refine u_ifF (pc := 5) (tgt := 12) (dec_at lsk_100 (k := 3) rfl) rfl (c0_ne (by decide)) (fun _ => ?_) (fun e => absurd e (by decide))
      refine u_ldc2 (x := (-1)) (pc := 8) (dec_at lsk_100 (k := 4) rfl) con_0_170 (by decide) ?_
      exact u_rL (pc := 11) (dec_at lsk_100 (k := 5) rfl) rfl h
/-- method 101 -/
def K_101 (d pc : Nat) (lv : ev_L) (st : List Value) (u : uS) (Q : Int → uS → Prop) : Prop := okU d 0 2 false (some .boolean) prog_1_method_23_code (qI Q) pc lv st u
theorem e_101 {d : Nat} {Q : Int → uS → Prop} {u : uS} {l1 : Int} (h : (rI l1) ∧ (if l1 < 0 then (Q 0 u) else ((rI (u.1 6 0)) ∧ (if l1 < u.1 6 0 then (Q 1 u) else (Q 0 u))))) : cI (d + 1) 101 [.ref 0, iV l1] u Q := by
  refine u_of me_101 (Nat.le_of_ble_eq_true rfl) ?_
  refine u_ld (v := iV l1) (pc := 0) (dec_at lsk_101 (k := 0) rfl) rfl ?_
  have g1 := h.1
  have h := h.2
  refine u_ifT (pc := 1) (tgt := 19) (dec_at lsk_101 (k := 1) rfl) rfl (c0_lt g1) (fun e2 => ?_) (fun e2 => ?_)
  · have h := ifT e2 h
    refine u_ld (v := iV 0) (pc := 19) (dec_at lsk_101 (k := 9) rfl) rfl ?_
    exact u_rZ (pc := 20) (dec_at lsk_101 (k := 10) rfl) rfl (by decide) h
  · have h := ifF e2 h
    refine u_ld (v := iV l1) (pc := 4) (dec_at lsk_101 (k := 2) rfl) rfl ?_
    refine u_ld (v := .ref 0) (pc := 5) (dec_at lsk_101 (k := 3) rfl) rfl ?_
    refine u_gS (o := 6) (p := 6) (pc := 6) (dec_at lsk_101 (k := 4) rfl) f_0_23 sx_0 rfl rfl ?_
    refine u_gI (z := 0) (pc := 9) (dec_at lsk_101 (k := 5) rfl) f_0_148 sx_6 rfl rfl ?_
    have g3 := h.1
    have h := h.2
    refine u_icF (pc := 12) (tgt := 19) (dec_at lsk_101 (k := 6) rfl) rfl (ci_ge g1 g3) (fun e4 => ?_) (fun e4 => ?_)
    · have h := ifT e4 h
      refine u_ld (v := iV 1) (pc := 15) (dec_at lsk_101 (k := 7) rfl) rfl ?_
      refine u_goto (pc := 16) (tgt := 20) (dec_at lsk_101 (k := 8) rfl) rfl ?_
      exact u_rZ (pc := 20) (dec_at lsk_101 (k := 10) rfl) rfl (by decide) h
    · have h := ifF e4 h
      refine u_ld (v := iV 0) (pc := 19) (dec_at lsk_101 (k := 9) rfl) rfl ?_
      exact u_rZ (pc := 20) (dec_at lsk_101 (k := 10) rfl) rfl (by decide) h
/-- method 102 -/
def K_102 (d pc : Nat) (lv : ev_L) (st : List Value) (u : uS) (Q : Int → uS → Prop) : Prop := okU d 0 2 false (some .long) prog_1_method_9_code (qL Q) pc lv st u
theorem e_102 {d : Nat} {Q : Int → uS → Prop} {u : uS} {l1 : Int} (h : (rI l1) ∧ (if l1 < 0 then (Q (-1) u) else ((rI (u.1 6 0)) ∧ (if l1 < u.1 6 0 then (cL (d + 1) 103 [.ref 36, .ref 6, .ref 5, iV (u.1 0 2), iV l1] u (fun r6 u5 => (rL r6) ∧ (if r6 = 9000000000000000000 then (Q (-2) u5) else (Q r6 u5)))) else (Q (-1) u))))) : cL (d + 2) 102 [.ref 0, iV l1] u Q := by
  refine u_of me_102 (Nat.le_of_ble_eq_true rfl) ?_
  refine u_ld (v := .ref 0) (pc := 0) (dec_at lsk_102 (k := 0) rfl) rfl ?_
  refine u_ld (v := iV l1) (pc := 1) (dec_at lsk_102 (k := 1) rfl) rfl ?_
  refine u_cvI (As := [iV l1]) (rb := 0) (st2 := []) (pc := 2) (dec_at lsk_102 (k := 2) rfl) m_0_167 (Or.inl rfl) rfl (Nat.le_of_ble_eq_true rfl) sx_0 me_101 rfl ?_ (fun _ _ h_ => h_)
  refine u_of me_101 (Nat.le_of_ble_eq_true rfl) ?_
  refine u_ld (v := iV l1) (pc := 0) (dec_at lsk_101 (k := 0) rfl) rfl ?_
  have g1 := h.1
  have h := h.2
  refine u_ifT (pc := 1) (tgt := 19) (dec_at lsk_101 (k := 1) rfl) rfl (c0_lt g1) (fun e2 => ?_) (fun e2 => ?_)
  · have h := ifT e2 h
    refine u_ld (v := iV 0) (pc := 19) (dec_at lsk_101 (k := 9) rfl) rfl ?_
    refine u_rZ (pc := 20) (dec_at lsk_101 (k := 10) rfl) rfl (by decide) ?_
    refine u_ifF (pc := 5) (tgt := 12) (dec_at lsk_102 (k := 3) rfl) rfl (c0_ne (by decide)) (fun _ => ?_) (fun e => absurd e (by decide))
    refine u_ldc2 (x := (-1)) (pc := 8) (dec_at lsk_102 (k := 4) rfl) con_0_170 (by decide) ?_
    exact u_rL (pc := 11) (dec_at lsk_102 (k := 5) rfl) rfl h
  · have h := ifF e2 h
    refine u_ld (v := iV l1) (pc := 4) (dec_at lsk_101 (k := 2) rfl) rfl ?_
    refine u_ld (v := .ref 0) (pc := 5) (dec_at lsk_101 (k := 3) rfl) rfl ?_
    refine u_gS (o := 6) (p := 6) (pc := 6) (dec_at lsk_101 (k := 4) rfl) f_0_23 sx_0 rfl rfl ?_
    refine u_gI (z := 0) (pc := 9) (dec_at lsk_101 (k := 5) rfl) f_0_148 sx_6 rfl rfl ?_
    have g3 := h.1
    have h := h.2
    refine u_icF (pc := 12) (tgt := 19) (dec_at lsk_101 (k := 6) rfl) rfl (ci_ge g1 g3) (fun e4 => ?_) (fun e4 => ?_)
    · have h := ifT e4 h
      refine u_ld (v := iV 1) (pc := 15) (dec_at lsk_101 (k := 7) rfl) rfl ?_
      refine u_goto (pc := 16) (tgt := 20) (dec_at lsk_101 (k := 8) rfl) rfl ?_
      refine u_rZ (pc := 20) (dec_at lsk_101 (k := 10) rfl) rfl (by decide) ?_
      refine u_ifF (pc := 5) (tgt := 12) (dec_at lsk_102 (k := 3) rfl) rfl (c0_ne (by decide)) (fun e => absurd e (by decide)) (fun _ => ?_)
      refine u_ld (v := .ref 0) (pc := 12) (dec_at lsk_102 (k := 6) rfl) rfl ?_
      refine u_gS (o := 36) (p := 36) (pc := 13) (dec_at lsk_102 (k := 7) rfl) f_0_40 sx_0 rfl rfl ?_
      refine u_ld (v := .ref 0) (pc := 16) (dec_at lsk_102 (k := 8) rfl) rfl ?_
      refine u_gS (o := 6) (p := 6) (pc := 17) (dec_at lsk_102 (k := 9) rfl) f_0_23 sx_0 rfl rfl ?_
      refine u_ld (v := .ref 0) (pc := 20) (dec_at lsk_102 (k := 10) rfl) rfl ?_
      refine u_gS (o := 5) (p := 5) (pc := 21) (dec_at lsk_102 (k := 11) rfl) f_0_16 sx_0 rfl rfl ?_
      refine u_ld (v := .ref 0) (pc := 24) (dec_at lsk_102 (k := 12) rfl) rfl ?_
      refine u_gI (z := 2) (pc := 25) (dec_at lsk_102 (k := 13) rfl) f_0_154 sx_0 rfl rfl ?_
      refine u_ld (v := iV l1) (pc := 28) (dec_at lsk_102 (k := 14) rfl) rfl ?_
      refine u_cvL (As := [.ref 6, .ref 5, iV (u.1 0 2), iV l1]) (rb := 36) (st2 := []) (pc := 29) (dec_at lsk_102 (k := 15) rfl) m_0_198 (Or.inl rfl) rfl (Nat.le_of_ble_eq_true rfl) sx_36 me_103 rfl h (fun r6 u5 h => ?_)
      refine u_csL (As := [lV r6]) (st2 := []) (pc := 32) (dec_at lsk_102 (k := 16) rfl) m_0_202 (Or.inl rfl) rfl (Nat.le_of_ble_eq_true rfl) ?_ (fun _ _ h_ => h_)
      refine u_of me_123 (Nat.le_of_ble_eq_true rfl) ?_
      refine u_ld (v := lV r6) (pc := 0) (dec_at lsk_123 (k := 0) rfl) rfl ?_
      refine u_ldc2 (x := 9000000000000000000) (pc := 1) (dec_at lsk_123 (k := 1) rfl) con_0_188 (by decide) ?_
      refine u_st (st' := [.int (lg_cmp (Int64.ofInt r6) (Int64.ofInt 9000000000000000000))]) (pc := 4) (dec_at lsk_123 (k := 2) rfl) rfl ?_
      have g7 := h.1
      have h := h.2
      refine u_ifF (pc := 5) (tgt := 14) (dec_at lsk_123 (k := 3) rfl) rfl (cl_ne g7 (by decide)) (fun e8 => ?_) (fun e8 => ?_)
      · have h := ifT e8 h
        refine u_ldc2 (x := (-2)) (pc := 8) (dec_at lsk_123 (k := 4) rfl) con_0_190 (by decide) ?_
        refine u_goto (pc := 11) (tgt := 15) (dec_at lsk_123 (k := 5) rfl) rfl ?_
        refine u_rL (pc := 15) (dec_at lsk_123 (k := 7) rfl) rfl ?_
        exact u_rL (pc := 35) (dec_at lsk_102 (k := 17) rfl) rfl h
      · have h := ifF e8 h
        refine u_ld (v := lV r6) (pc := 14) (dec_at lsk_123 (k := 6) rfl) rfl ?_
        refine u_rL (pc := 15) (dec_at lsk_123 (k := 7) rfl) rfl ?_
        exact u_rL (pc := 35) (dec_at lsk_102 (k := 17) rfl) rfl h
    · have h := ifF e4 h
      refine u_ld (v := iV 0) (pc := 19) (dec_at lsk_101 (k := 9) rfl) rfl ?_
      refine u_rZ (pc := 20) (dec_at lsk_101 (k := 10) rfl) rfl (by decide) ?_
      refine u_ifF (pc := 5) (tgt := 12) (dec_at lsk_102 (k := 3) rfl) rfl (c0_ne (by decide)) (fun _ => ?_) (fun e => absurd e (by decide))
      refine u_ldc2 (x := (-1)) (pc := 8) (dec_at lsk_102 (k := 4) rfl) con_0_170 (by decide) ?_
      exact u_rL (pc := 11) (dec_at lsk_102 (k := 5) rfl) rfl h
/-- method 124 -/
def K_124 (d pc : Nat) (lv : ev_L) (st : List Value) (u : uS) (Q : Int → uS → Prop) : Prop := okU d 0 2 false (some .long) prog_1_method_10_code (qL Q) pc lv st u
theorem e_124 {d : Nat} {Q : Int → uS → Prop} {u : uS} {l1 : Int} (h : (rI (u.1 6 1)) ∧ (if 0 < u.1 6 1 then ((rI l1) ∧ (if l1 < 0 then (Q (-1) u) else (if 40 < l1 then (Q (-1) u) else (cL (d + 1) 126 [.ref 36, .ref 6, iV l1] u (fun r7 u6 => (rL r7) ∧ (if r7 = 9000000000000000000 then (Q (-2) u6) else (Q r7 u6))))))) else (Q (-1) u))) : cL (d + 2) 124 [.ref 0, iV l1] u Q := by
  refine u_of me_124 (Nat.le_of_ble_eq_true rfl) ?_
  refine u_ld (v := .ref 0) (pc := 0) (dec_at lsk_124 (k := 0) rfl) rfl ?_
  refine u_cvI (As := []) (rb := 0) (st2 := []) (pc := 1) (dec_at lsk_124 (k := 1) rfl) m_0_206 (Or.inl rfl) rfl (Nat.le_of_ble_eq_true rfl) sx_0 me_125 rfl ?_ (fun _ _ h_ => h_)
  refine u_of me_125 (Nat.le_of_ble_eq_true rfl) ?_
  refine u_ld (v := .ref 0) (pc := 0) (dec_at lsk_125 (k := 0) rfl) rfl ?_
  refine u_gS (o := 6) (p := 6) (pc := 1) (dec_at lsk_125 (k := 1) rfl) f_0_23 sx_0 rfl rfl ?_
  refine u_gI (z := 1) (pc := 4) (dec_at lsk_125 (k := 2) rfl) f_0_124 sx_6 rfl rfl ?_
  have g1 := h.1
  have h := h.2
  refine u_ifF (pc := 7) (tgt := 14) (dec_at lsk_125 (k := 3) rfl) rfl (c0_le g1) (fun e2 => ?_) (fun e2 => ?_)
  · have h := ifT e2 h
    refine u_ld (v := iV 1) (pc := 10) (dec_at lsk_125 (k := 4) rfl) rfl ?_
    refine u_goto (pc := 11) (tgt := 15) (dec_at lsk_125 (k := 5) rfl) rfl ?_
    refine u_rZ (pc := 15) (dec_at lsk_125 (k := 7) rfl) rfl (by decide) ?_
    refine u_ifT (pc := 4) (tgt := 17) (dec_at lsk_124 (k := 2) rfl) rfl (c0_eq (by decide)) (fun e => absurd e (by decide)) (fun _ => ?_)
    refine u_ld (v := iV l1) (pc := 7) (dec_at lsk_124 (k := 3) rfl) rfl ?_
    have g3 := h.1
    have h := h.2
    refine u_ifT (pc := 8) (tgt := 17) (dec_at lsk_124 (k := 4) rfl) rfl (c0_lt g3) (fun e4 => ?_) (fun e4 => ?_)
    · have h := ifT e4 h
      refine u_ldc2 (x := (-1)) (pc := 17) (dec_at lsk_124 (k := 8) rfl) con_0_170 (by decide) ?_
      exact u_rL (pc := 20) (dec_at lsk_124 (k := 9) rfl) rfl h
    · have h := ifF e4 h
      refine u_ld (v := iV l1) (pc := 11) (dec_at lsk_124 (k := 5) rfl) rfl ?_
      refine u_c (x := 40) (pc := 12) (dec_at lsk_124 (k := 6) rfl) rfl (by decide) ?_
      refine u_icF (pc := 14) (tgt := 21) (dec_at lsk_124 (k := 7) rfl) rfl (ci_le g3 (by decide)) (fun e5 => ?_) (fun e5 => ?_)
      · have h := ifT e5 h
        refine u_ldc2 (x := (-1)) (pc := 17) (dec_at lsk_124 (k := 8) rfl) con_0_170 (by decide) ?_
        exact u_rL (pc := 20) (dec_at lsk_124 (k := 9) rfl) rfl h
      · have h := ifF e5 h
        refine u_ld (v := .ref 0) (pc := 21) (dec_at lsk_124 (k := 10) rfl) rfl ?_
        refine u_gS (o := 36) (p := 36) (pc := 22) (dec_at lsk_124 (k := 11) rfl) f_0_40 sx_0 rfl rfl ?_
        refine u_ld (v := .ref 0) (pc := 25) (dec_at lsk_124 (k := 12) rfl) rfl ?_
        refine u_gS (o := 6) (p := 6) (pc := 26) (dec_at lsk_124 (k := 13) rfl) f_0_23 sx_0 rfl rfl ?_
        refine u_ld (v := iV l1) (pc := 29) (dec_at lsk_124 (k := 14) rfl) rfl ?_
        refine u_cvL (As := [.ref 6, iV l1]) (rb := 36) (st2 := []) (pc := 30) (dec_at lsk_124 (k := 15) rfl) m_0_210 (Or.inl rfl) rfl (Nat.le_of_ble_eq_true rfl) sx_36 me_126 rfl h (fun r7 u6 h => ?_)
        refine u_csL (As := [lV r7]) (st2 := []) (pc := 33) (dec_at lsk_124 (k := 16) rfl) m_0_202 (Or.inl rfl) rfl (Nat.le_of_ble_eq_true rfl) ?_ (fun _ _ h_ => h_)
        refine u_of me_123 (Nat.le_of_ble_eq_true rfl) ?_
        refine u_ld (v := lV r7) (pc := 0) (dec_at lsk_123 (k := 0) rfl) rfl ?_
        refine u_ldc2 (x := 9000000000000000000) (pc := 1) (dec_at lsk_123 (k := 1) rfl) con_0_188 (by decide) ?_
        refine u_st (st' := [.int (lg_cmp (Int64.ofInt r7) (Int64.ofInt 9000000000000000000))]) (pc := 4) (dec_at lsk_123 (k := 2) rfl) rfl ?_
        have g8 := h.1
        have h := h.2
        refine u_ifF (pc := 5) (tgt := 14) (dec_at lsk_123 (k := 3) rfl) rfl (cl_ne g8 (by decide)) (fun e9 => ?_) (fun e9 => ?_)
        · have h := ifT e9 h
          refine u_ldc2 (x := (-2)) (pc := 8) (dec_at lsk_123 (k := 4) rfl) con_0_190 (by decide) ?_
          refine u_goto (pc := 11) (tgt := 15) (dec_at lsk_123 (k := 5) rfl) rfl ?_
          refine u_rL (pc := 15) (dec_at lsk_123 (k := 7) rfl) rfl ?_
          exact u_rL (pc := 36) (dec_at lsk_124 (k := 17) rfl) rfl h
        · have h := ifF e9 h
          refine u_ld (v := lV r7) (pc := 14) (dec_at lsk_123 (k := 6) rfl) rfl ?_
          refine u_rL (pc := 15) (dec_at lsk_123 (k := 7) rfl) rfl ?_
          exact u_rL (pc := 36) (dec_at lsk_124 (k := 17) rfl) rfl h
  · have h := ifF e2 h
    refine u_ld (v := iV 0) (pc := 14) (dec_at lsk_125 (k := 6) rfl) rfl ?_
    refine u_rZ (pc := 15) (dec_at lsk_125 (k := 7) rfl) rfl (by decide) ?_
    refine u_ifT (pc := 4) (tgt := 17) (dec_at lsk_124 (k := 2) rfl) rfl (c0_eq (by decide)) (fun _ => ?_) (fun e => absurd e (by decide))
    refine u_ldc2 (x := (-1)) (pc := 17) (dec_at lsk_124 (k := 8) rfl) con_0_170 (by decide) ?_
    exact u_rL (pc := 20) (dec_at lsk_124 (k := 9) rfl) rfl h
/-- method 127 -/
def K_127 (d pc : Nat) (lv : ev_L) (st : List Value) (u : uS) (Q : Int → uS → Prop) : Prop := okU d 0 5 false (some .int) prog_1_method_11_code (qI Q) pc lv st u
theorem e_127 {d : Nat} {Q : Int → uS → Prop} {u : uS} {l1 l2 l3 : Int} (h : (rI l1) ∧ (if l1 < 0 then (Q (-1) u) else (if l1 < 2 then ((rI l3) ∧ (if l3 < 0 then (Q (-1) u) else (if l3 < 10 then ((rI l2) ∧ (if l2 < 0 then (Q (-1) u) else ((rI (u.1 (59 + 2 * l1.toNat) 0)) ∧ (if l2 < u.1 (59 + 2 * l1.toNat) 0 then ((0 ≤ (l2 * 10) + l3) ∧ (((l2 * 10) + l3 < 400) ∧ (Q (u.1 ((59 + 2 * l1.toNat) + 1) ((l2 * 10) + l3)) u))) else (Q (-1) u))))) else (Q (-1) u)))) else (Q (-1) u)))) : cI (d + 2) 127 [.ref 0, iV l1, iV l2, iV l3] u Q := by
  refine u_of me_127 (Nat.le_of_ble_eq_true rfl) ?_
  refine u_ld (v := iV l1) (pc := 0) (dec_at lsk_127 (k := 0) rfl) rfl ?_
  refine u_csI (As := [iV l1]) (st2 := []) (pc := 1) (dec_at lsk_127 (k := 1) rfl) m_0_126 (Or.inl rfl) rfl (Nat.le_of_ble_eq_true rfl) ?_ (fun _ _ h_ => h_)
  refine u_of me_63 (Nat.le_of_ble_eq_true rfl) ?_
  refine u_ld (v := iV l1) (pc := 0) (dec_at lsk_63 (k := 0) rfl) rfl ?_
  have g1 := h.1
  have h := h.2
  refine u_ifT (pc := 1) (tgt := 13) (dec_at lsk_63 (k := 1) rfl) rfl (c0_lt g1) (fun e2 => ?_) (fun e2 => ?_)
  · have h := ifT e2 h
    refine u_ld (v := iV 0) (pc := 13) (dec_at lsk_63 (k := 7) rfl) rfl ?_
    refine u_rZ (pc := 14) (dec_at lsk_63 (k := 8) rfl) rfl (by decide) ?_
    refine u_ifT (pc := 4) (tgt := 17) (dec_at lsk_127 (k := 2) rfl) rfl (c0_eq (by decide)) (fun _ => ?_) (fun e => absurd e (by decide))
    refine u_ld (v := iV (-1)) (pc := 17) (dec_at lsk_127 (k := 8) rfl) rfl ?_
    exact u_rI (pc := 18) (dec_at lsk_127 (k := 9) rfl) rfl h
  · have h := ifF e2 h
    refine u_ld (v := iV l1) (pc := 4) (dec_at lsk_63 (k := 2) rfl) rfl ?_
    refine u_ld (v := iV 2) (pc := 5) (dec_at lsk_63 (k := 3) rfl) rfl ?_
    refine u_icF (pc := 6) (tgt := 13) (dec_at lsk_63 (k := 4) rfl) rfl (ci_ge g1 (by decide)) (fun e3 => ?_) (fun e3 => ?_)
    · have h := ifT e3 h
      refine u_ld (v := iV 1) (pc := 9) (dec_at lsk_63 (k := 5) rfl) rfl ?_
      refine u_goto (pc := 10) (tgt := 14) (dec_at lsk_63 (k := 6) rfl) rfl ?_
      refine u_rZ (pc := 14) (dec_at lsk_63 (k := 8) rfl) rfl (by decide) ?_
      refine u_ifT (pc := 4) (tgt := 17) (dec_at lsk_127 (k := 2) rfl) rfl (c0_eq (by decide)) (fun e => absurd e (by decide)) (fun _ => ?_)
      refine u_ld (v := iV l3) (pc := 7) (dec_at lsk_127 (k := 3) rfl) rfl ?_
      have g4 := h.1
      have h := h.2
      refine u_ifT (pc := 8) (tgt := 17) (dec_at lsk_127 (k := 4) rfl) rfl (c0_lt g4) (fun e5 => ?_) (fun e5 => ?_)
      · have h := ifT e5 h
        refine u_ld (v := iV (-1)) (pc := 17) (dec_at lsk_127 (k := 8) rfl) rfl ?_
        exact u_rI (pc := 18) (dec_at lsk_127 (k := 9) rfl) rfl h
      · have h := ifF e5 h
        refine u_ld (v := iV l3) (pc := 11) (dec_at lsk_127 (k := 5) rfl) rfl ?_
        refine u_c (x := 10) (pc := 12) (dec_at lsk_127 (k := 6) rfl) rfl (by decide) ?_
        refine u_icT (pc := 14) (tgt := 19) (dec_at lsk_127 (k := 7) rfl) rfl (ci_lt g4 (by decide)) (fun e6 => ?_) (fun e6 => ?_)
        · have h := ifT e6 h
          refine u_ld (v := .ref 0) (pc := 19) (dec_at lsk_127 (k := 10) rfl) rfl ?_
          refine u_gS (o := 58) (p := 58) (pc := 20) (dec_at lsk_127 (k := 11) rfl) f_0_47 sx_0 rfl rfl ?_
          refine u_ld (v := iV l1) (pc := 23) (dec_at lsk_127 (k := 12) rfl) rfl ?_
          refine u_aald3 (r := 59 + 2 * l1.toNat) (pc := 24) (dec_at lsk_127 (k := 13) rfl) sx_58 (Int.not_lt.mp e2) e3 rfl ?_
          refine u_sto (lv' := [.ref 0, iV l1, iV l2, iV l3, .ref (59 + 2 * l1.toNat)]) (pc := 25) (dec_at lsk_127 (k := 14) rfl) rfl ?_
          refine u_ld (v := .ref (59 + 2 * l1.toNat)) (pc := 27) (dec_at lsk_127 (k := 15) rfl) rfl ?_
          refine u_ld (v := iV l2) (pc := 29) (dec_at lsk_127 (k := 16) rfl) rfl ?_
          refine u_cvI (As := [iV l2]) (rb := 59 + 2 * l1.toNat) (st2 := []) (pc := 30) (dec_at lsk_127 (k := 17) rfl) m_0_214 (Or.inl rfl) rfl (Nat.le_of_ble_eq_true rfl) (sr_58 (Int.not_lt.mp e2) e3) me_128 rfl ?_ (fun _ _ h_ => h_)
          refine u_of me_128 (Nat.le_of_ble_eq_true rfl) ?_
          refine u_ld (v := iV l2) (pc := 0) (dec_at lsk_128 (k := 0) rfl) rfl ?_
          have g7 := h.1
          have h := h.2
          refine u_ifT (pc := 1) (tgt := 16) (dec_at lsk_128 (k := 1) rfl) rfl (c0_lt g7) (fun e8 => ?_) (fun e8 => ?_)
          · have h := ifT e8 h
            refine u_ld (v := iV 0) (pc := 16) (dec_at lsk_128 (k := 8) rfl) rfl ?_
            refine u_rZ (pc := 17) (dec_at lsk_128 (k := 9) rfl) rfl (by decide) ?_
            refine u_ifT (pc := 33) (tgt := 46) (dec_at lsk_127 (k := 18) rfl) rfl (c0_eq (by decide)) (fun _ => ?_) (fun e => absurd e (by decide))
            refine u_ld (v := iV (-1)) (pc := 46) (dec_at lsk_127 (k := 24) rfl) rfl ?_
            exact u_rI (pc := 47) (dec_at lsk_127 (k := 25) rfl) rfl h
          · have h := ifF e8 h
            refine u_ld (v := iV l2) (pc := 4) (dec_at lsk_128 (k := 2) rfl) rfl ?_
            refine u_ld (v := .ref (59 + 2 * l1.toNat)) (pc := 5) (dec_at lsk_128 (k := 3) rfl) rfl ?_
            refine u_gI (z := 0) (pc := 6) (dec_at lsk_128 (k := 4) rfl) f_5_9 (sr_58 (Int.not_lt.mp e2) e3) rfl rfl ?_
            have g9 := h.1
            have h := h.2
            refine u_icF (pc := 9) (tgt := 16) (dec_at lsk_128 (k := 5) rfl) rfl (ci_ge g7 g9) (fun e10 => ?_) (fun e10 => ?_)
            · have h := ifT e10 h
              refine u_ld (v := iV 1) (pc := 12) (dec_at lsk_128 (k := 6) rfl) rfl ?_
              refine u_goto (pc := 13) (tgt := 17) (dec_at lsk_128 (k := 7) rfl) rfl ?_
              refine u_rZ (pc := 17) (dec_at lsk_128 (k := 9) rfl) rfl (by decide) ?_
              refine u_ifT (pc := 33) (tgt := 46) (dec_at lsk_127 (k := 18) rfl) rfl (c0_eq (by decide)) (fun e => absurd e (by decide)) (fun _ => ?_)
              refine u_ld (v := .ref (59 + 2 * l1.toNat)) (pc := 36) (dec_at lsk_127 (k := 19) rfl) rfl ?_
              refine u_ld (v := iV l2) (pc := 38) (dec_at lsk_127 (k := 20) rfl) rfl ?_
              refine u_ld (v := iV l3) (pc := 39) (dec_at lsk_127 (k := 21) rfl) rfl ?_
              refine u_cvI (As := [iV l2, iV l3]) (rb := 59 + 2 * l1.toNat) (st2 := []) (pc := 40) (dec_at lsk_127 (k := 22) rfl) m_0_217 (Or.inl rfl) rfl (Nat.le_of_ble_eq_true rfl) (sr_58 (Int.not_lt.mp e2) e3) me_75 rfl ?_ (fun _ _ h_ => h_)
              refine u_of me_75 (Nat.le_of_ble_eq_true rfl) ?_
              refine u_ld (v := .ref (59 + 2 * l1.toNat)) (pc := 0) (dec_at lsk_75 (k := 0) rfl) rfl ?_
              refine u_gS (o := 1) (p := (59 + 2 * l1.toNat) + 1) (pc := 1) (dec_at lsk_75 (k := 1) rfl) f_5_15 (sr_58 (Int.not_lt.mp e2) e3) rfl rfl ?_
              refine u_ld (v := iV l2) (pc := 4) (dec_at lsk_75 (k := 2) rfl) rfl ?_
              refine u_c (x := 10) (pc := 5) (dec_at lsk_75 (k := 3) rfl) rfl (by decide) ?_
              refine u_imul (pc := 7) (dec_at lsk_75 (k := 4) rfl) ?_
              refine u_ld (v := iV l3) (pc := 8) (dec_at lsk_75 (k := 5) rfl) rfl ?_
              refine u_iadd (pc := 9) (dec_at lsk_75 (k := 6) rfl) ?_
              have g11 := h.1
              have h := h.2
              have g12 := h.1
              have h := h.2
              refine u_iald (pc := 10) (dec_at lsk_75 (k := 7) rfl) (sa_5_2 (sr_58 (Int.not_lt.mp e2) e3)) g11 g12 ?_
              refine u_rI (pc := 11) (dec_at lsk_75 (k := 8) rfl) rfl ?_
              refine u_goto (pc := 43) (tgt := 47) (dec_at lsk_127 (k := 23) rfl) rfl ?_
              exact u_rI (pc := 47) (dec_at lsk_127 (k := 25) rfl) rfl h
            · have h := ifF e10 h
              refine u_ld (v := iV 0) (pc := 16) (dec_at lsk_128 (k := 8) rfl) rfl ?_
              refine u_rZ (pc := 17) (dec_at lsk_128 (k := 9) rfl) rfl (by decide) ?_
              refine u_ifT (pc := 33) (tgt := 46) (dec_at lsk_127 (k := 18) rfl) rfl (c0_eq (by decide)) (fun _ => ?_) (fun e => absurd e (by decide))
              refine u_ld (v := iV (-1)) (pc := 46) (dec_at lsk_127 (k := 24) rfl) rfl ?_
              exact u_rI (pc := 47) (dec_at lsk_127 (k := 25) rfl) rfl h
        · have h := ifF e6 h
          refine u_ld (v := iV (-1)) (pc := 17) (dec_at lsk_127 (k := 8) rfl) rfl ?_
          exact u_rI (pc := 18) (dec_at lsk_127 (k := 9) rfl) rfl h
    · have h := ifF e3 h
      refine u_ld (v := iV 0) (pc := 13) (dec_at lsk_63 (k := 7) rfl) rfl ?_
      refine u_rZ (pc := 14) (dec_at lsk_63 (k := 8) rfl) rfl (by decide) ?_
      refine u_ifT (pc := 4) (tgt := 17) (dec_at lsk_127 (k := 2) rfl) rfl (c0_eq (by decide)) (fun _ => ?_) (fun e => absurd e (by decide))
      refine u_ld (v := iV (-1)) (pc := 17) (dec_at lsk_127 (k := 8) rfl) rfl ?_
      exact u_rI (pc := 18) (dec_at lsk_127 (k := 9) rfl) rfl h
/-- method 129 -/
def K_129 (d pc : Nat) (lv : ev_L) (st : List Value) (u : uS) (Q : Int → uS → Prop) : Prop := okU d 0 4 false (some .int) prog_1_method_12_code (qI Q) pc lv st u
theorem e_129 {d : Nat} {Q : Int → uS → Prop} {u : uS} {l1 l2 : Int} (h : (rI l1) ∧ (if l1 < 0 then (Q (-1) u) else (if l1 < 2 then ((rI l2) ∧ (if l2 = (-1) then (Q (u.1 (59 + 2 * l1.toNat) 0) u) else (if l2 < 0 then (Q (-1) u) else ((rI (u.1 (59 + 2 * l1.toNat) 0)) ∧ (if l2 < u.1 (59 + 2 * l1.toNat) 0 then (if land (lushr (u.1 (59 + 2 * l1.toNat) 1) l2) 1 = 0 then (Q 0 u) else (Q 1 u)) else (Q (-1) u)))))) else (Q (-1) u)))) : cI (d + 2) 129 [.ref 0, iV l1, iV l2] u Q := by
  refine u_of me_129 (Nat.le_of_ble_eq_true rfl) ?_
  refine u_ld (v := iV l1) (pc := 0) (dec_at lsk_129 (k := 0) rfl) rfl ?_
  refine u_csI (As := [iV l1]) (st2 := []) (pc := 1) (dec_at lsk_129 (k := 1) rfl) m_0_126 (Or.inl rfl) rfl (Nat.le_of_ble_eq_true rfl) ?_ (fun _ _ h_ => h_)
  refine u_of me_63 (Nat.le_of_ble_eq_true rfl) ?_
  refine u_ld (v := iV l1) (pc := 0) (dec_at lsk_63 (k := 0) rfl) rfl ?_
  have g1 := h.1
  have h := h.2
  refine u_ifT (pc := 1) (tgt := 13) (dec_at lsk_63 (k := 1) rfl) rfl (c0_lt g1) (fun e2 => ?_) (fun e2 => ?_)
  · have h := ifT e2 h
    refine u_ld (v := iV 0) (pc := 13) (dec_at lsk_63 (k := 7) rfl) rfl ?_
    refine u_rZ (pc := 14) (dec_at lsk_63 (k := 8) rfl) rfl (by decide) ?_
    refine u_ifF (pc := 4) (tgt := 9) (dec_at lsk_129 (k := 2) rfl) rfl (c0_ne (by decide)) (fun _ => ?_) (fun e => absurd e (by decide))
    refine u_ld (v := iV (-1)) (pc := 7) (dec_at lsk_129 (k := 3) rfl) rfl ?_
    exact u_rI (pc := 8) (dec_at lsk_129 (k := 4) rfl) rfl h
  · have h := ifF e2 h
    refine u_ld (v := iV l1) (pc := 4) (dec_at lsk_63 (k := 2) rfl) rfl ?_
    refine u_ld (v := iV 2) (pc := 5) (dec_at lsk_63 (k := 3) rfl) rfl ?_
    refine u_icF (pc := 6) (tgt := 13) (dec_at lsk_63 (k := 4) rfl) rfl (ci_ge g1 (by decide)) (fun e3 => ?_) (fun e3 => ?_)
    · have h := ifT e3 h
      refine u_ld (v := iV 1) (pc := 9) (dec_at lsk_63 (k := 5) rfl) rfl ?_
      refine u_goto (pc := 10) (tgt := 14) (dec_at lsk_63 (k := 6) rfl) rfl ?_
      refine u_rZ (pc := 14) (dec_at lsk_63 (k := 8) rfl) rfl (by decide) ?_
      refine u_ifF (pc := 4) (tgt := 9) (dec_at lsk_129 (k := 2) rfl) rfl (c0_ne (by decide)) (fun e => absurd e (by decide)) (fun _ => ?_)
      refine u_ld (v := .ref 0) (pc := 9) (dec_at lsk_129 (k := 5) rfl) rfl ?_
      refine u_gS (o := 58) (p := 58) (pc := 10) (dec_at lsk_129 (k := 6) rfl) f_0_47 sx_0 rfl rfl ?_
      refine u_ld (v := iV l1) (pc := 13) (dec_at lsk_129 (k := 7) rfl) rfl ?_
      refine u_aald3 (r := 59 + 2 * l1.toNat) (pc := 14) (dec_at lsk_129 (k := 8) rfl) sx_58 (Int.not_lt.mp e2) e3 rfl ?_
      refine u_sto (lv' := [.ref 0, iV l1, iV l2, .ref (59 + 2 * l1.toNat)]) (pc := 15) (dec_at lsk_129 (k := 9) rfl) rfl ?_
      refine u_ld (v := iV l2) (pc := 16) (dec_at lsk_129 (k := 10) rfl) rfl ?_
      refine u_ld (v := iV (-1)) (pc := 17) (dec_at lsk_129 (k := 11) rfl) rfl ?_
      have g4 := h.1
      have h := h.2
      refine u_icF (pc := 18) (tgt := 26) (dec_at lsk_129 (k := 12) rfl) rfl (ci_ne g4 (by decide)) (fun e5 => ?_) (fun e5 => ?_)
      · have h := ifT e5 h
        refine u_ld (v := .ref (59 + 2 * l1.toNat)) (pc := 21) (dec_at lsk_129 (k := 13) rfl) rfl ?_
        refine u_gI (z := 0) (pc := 22) (dec_at lsk_129 (k := 14) rfl) f_0_145 (sr_58 (Int.not_lt.mp e2) e3) rfl rfl ?_
        exact u_rI (pc := 25) (dec_at lsk_129 (k := 15) rfl) rfl h
      · have h := ifF e5 h
        refine u_ld (v := .ref (59 + 2 * l1.toNat)) (pc := 26) (dec_at lsk_129 (k := 16) rfl) rfl ?_
        refine u_ld (v := iV l2) (pc := 27) (dec_at lsk_129 (k := 17) rfl) rfl ?_
        refine u_cvI (As := [iV l2]) (rb := 59 + 2 * l1.toNat) (st2 := []) (pc := 28) (dec_at lsk_129 (k := 18) rfl) m_0_214 (Or.inl rfl) rfl (Nat.le_of_ble_eq_true rfl) (sr_58 (Int.not_lt.mp e2) e3) me_128 rfl ?_ (fun _ _ h_ => h_)
        refine u_of me_128 (Nat.le_of_ble_eq_true rfl) ?_
        refine u_ld (v := iV l2) (pc := 0) (dec_at lsk_128 (k := 0) rfl) rfl ?_
        refine u_ifT (pc := 1) (tgt := 16) (dec_at lsk_128 (k := 1) rfl) rfl (c0_lt g4) (fun e6 => ?_) (fun e6 => ?_)
        · have h := ifT e6 h
          refine u_ld (v := iV 0) (pc := 16) (dec_at lsk_128 (k := 8) rfl) rfl ?_
          refine u_rZ (pc := 17) (dec_at lsk_128 (k := 9) rfl) rfl (by decide) ?_
          refine u_ifF (pc := 31) (tgt := 36) (dec_at lsk_129 (k := 19) rfl) rfl (c0_ne (by decide)) (fun _ => ?_) (fun e => absurd e (by decide))
          refine u_ld (v := iV (-1)) (pc := 34) (dec_at lsk_129 (k := 20) rfl) rfl ?_
          exact u_rI (pc := 35) (dec_at lsk_129 (k := 21) rfl) rfl h
        · have h := ifF e6 h
          refine u_ld (v := iV l2) (pc := 4) (dec_at lsk_128 (k := 2) rfl) rfl ?_
          refine u_ld (v := .ref (59 + 2 * l1.toNat)) (pc := 5) (dec_at lsk_128 (k := 3) rfl) rfl ?_
          refine u_gI (z := 0) (pc := 6) (dec_at lsk_128 (k := 4) rfl) f_5_9 (sr_58 (Int.not_lt.mp e2) e3) rfl rfl ?_
          have g7 := h.1
          have h := h.2
          refine u_icF (pc := 9) (tgt := 16) (dec_at lsk_128 (k := 5) rfl) rfl (ci_ge g4 g7) (fun e8 => ?_) (fun e8 => ?_)
          · have h := ifT e8 h
            refine u_ld (v := iV 1) (pc := 12) (dec_at lsk_128 (k := 6) rfl) rfl ?_
            refine u_goto (pc := 13) (tgt := 17) (dec_at lsk_128 (k := 7) rfl) rfl ?_
            refine u_rZ (pc := 17) (dec_at lsk_128 (k := 9) rfl) rfl (by decide) ?_
            refine u_ifF (pc := 31) (tgt := 36) (dec_at lsk_129 (k := 19) rfl) rfl (c0_ne (by decide)) (fun e => absurd e (by decide)) (fun _ => ?_)
            refine u_ld (v := .ref (59 + 2 * l1.toNat)) (pc := 36) (dec_at lsk_129 (k := 22) rfl) rfl ?_
            refine u_ld (v := iV l2) (pc := 37) (dec_at lsk_129 (k := 23) rfl) rfl ?_
            refine u_cvI (As := [iV l2]) (rb := 59 + 2 * l1.toNat) (st2 := []) (pc := 38) (dec_at lsk_129 (k := 24) rfl) m_0_220 (Or.inl rfl) rfl (Nat.le_of_ble_eq_true rfl) (sr_58 (Int.not_lt.mp e2) e3) me_71 rfl ?_ (fun _ _ h_ => h_)
            refine u_of me_71 (Nat.le_of_ble_eq_true rfl) ?_
            refine u_ld (v := .ref (59 + 2 * l1.toNat)) (pc := 0) (dec_at lsk_71 (k := 0) rfl) rfl ?_
            refine u_gL (z := 1) (pc := 1) (dec_at lsk_71 (k := 1) rfl) f_5_19 (sr_58 (Int.not_lt.mp e2) e3) rfl rfl ?_
            refine u_ld (v := iV l2) (pc := 4) (dec_at lsk_71 (k := 2) rfl) rfl ?_
            refine u_lushr (pc := 5) (dec_at lsk_71 (k := 3) rfl) ?_
            refine u_cl (x := 1) (pc := 6) (dec_at lsk_71 (k := 4) rfl) rfl (by decide) ?_
            refine u_land (pc := 7) (dec_at lsk_71 (k := 5) rfl) ?_
            refine u_cl (x := 0) (pc := 8) (dec_at lsk_71 (k := 6) rfl) rfl (by decide) ?_
            refine u_st (st' := [.int (lg_cmp (Int64.ofInt (land (lushr (u.1 (59 + 2 * l1.toNat) 1) l2) 1)) (Int64.ofInt 0))]) (pc := 9) (dec_at lsk_71 (k := 7) rfl) rfl ?_
            refine u_ifT (pc := 10) (tgt := 17) (dec_at lsk_71 (k := 8) rfl) rfl (cl_eq (rl_toInt _) (by decide)) (fun e9 => ?_) (fun e9 => ?_)
            · have h := ifT e9 h
              refine u_ld (v := iV 0) (pc := 17) (dec_at lsk_71 (k := 11) rfl) rfl ?_
              refine u_rZ (pc := 18) (dec_at lsk_71 (k := 12) rfl) rfl (by decide) ?_
              refine u_ifT (pc := 41) (tgt := 48) (dec_at lsk_129 (k := 25) rfl) rfl (c0_eq (by decide)) (fun _ => ?_) (fun e => absurd e (by decide))
              refine u_ld (v := iV 0) (pc := 48) (dec_at lsk_129 (k := 28) rfl) rfl ?_
              exact u_rI (pc := 49) (dec_at lsk_129 (k := 29) rfl) rfl h
            · have h := ifF e9 h
              refine u_ld (v := iV 1) (pc := 13) (dec_at lsk_71 (k := 9) rfl) rfl ?_
              refine u_goto (pc := 14) (tgt := 18) (dec_at lsk_71 (k := 10) rfl) rfl ?_
              refine u_rZ (pc := 18) (dec_at lsk_71 (k := 12) rfl) rfl (by decide) ?_
              refine u_ifT (pc := 41) (tgt := 48) (dec_at lsk_129 (k := 25) rfl) rfl (c0_eq (by decide)) (fun e => absurd e (by decide)) (fun _ => ?_)
              refine u_ld (v := iV 1) (pc := 44) (dec_at lsk_129 (k := 26) rfl) rfl ?_
              refine u_goto (pc := 45) (tgt := 49) (dec_at lsk_129 (k := 27) rfl) rfl ?_
              exact u_rI (pc := 49) (dec_at lsk_129 (k := 29) rfl) rfl h
          · have h := ifF e8 h
            refine u_ld (v := iV 0) (pc := 16) (dec_at lsk_128 (k := 8) rfl) rfl ?_
            refine u_rZ (pc := 17) (dec_at lsk_128 (k := 9) rfl) rfl (by decide) ?_
            refine u_ifF (pc := 31) (tgt := 36) (dec_at lsk_129 (k := 19) rfl) rfl (c0_ne (by decide)) (fun _ => ?_) (fun e => absurd e (by decide))
            refine u_ld (v := iV (-1)) (pc := 34) (dec_at lsk_129 (k := 20) rfl) rfl ?_
            exact u_rI (pc := 35) (dec_at lsk_129 (k := 21) rfl) rfl h
    · have h := ifF e3 h
      refine u_ld (v := iV 0) (pc := 13) (dec_at lsk_63 (k := 7) rfl) rfl ?_
      refine u_rZ (pc := 14) (dec_at lsk_63 (k := 8) rfl) rfl (by decide) ?_
      refine u_ifF (pc := 4) (tgt := 9) (dec_at lsk_129 (k := 2) rfl) rfl (c0_ne (by decide)) (fun _ => ?_) (fun e => absurd e (by decide))
      refine u_ld (v := iV (-1)) (pc := 7) (dec_at lsk_129 (k := 3) rfl) rfl ?_
      exact u_rI (pc := 8) (dec_at lsk_129 (k := 4) rfl) rfl h
/-- method 130 -/
def K_130 (d pc : Nat) (lv : ev_L) (st : List Value) (u : uS) (Q : Int → uS → Prop) : Prop := okU d 0 5 false (some .int) prog_1_method_13_code (qI Q) pc lv st u
theorem e_130 {d : Nat} {Q : Int → uS → Prop} {u : uS} {l1 : Int} (h : (rI l1) ∧ (if l1 < 0 then (Q (-1) u) else (if l1 < 2 then (K_130 (d + 1) 21 [.ref 0, .retAddr 0, .ref (59 + 2 * l1.toNat), iV 0, iV 0] [] u Q) else (Q (-1) u)))) : cI (d + 2) 130 [.ref 0, iV l1] u Q := by
  refine u_of me_130 (Nat.le_of_ble_eq_true rfl) ?_
  refine u_ld (v := iV l1) (pc := 0) (dec_at lsk_130 (k := 0) rfl) rfl ?_
  refine u_csI (As := [iV l1]) (st2 := []) (pc := 1) (dec_at lsk_130 (k := 1) rfl) m_0_126 (Or.inl rfl) rfl (Nat.le_of_ble_eq_true rfl) ?_ (fun _ _ h_ => h_)
  refine u_of me_63 (Nat.le_of_ble_eq_true rfl) ?_
  refine u_ld (v := iV l1) (pc := 0) (dec_at lsk_63 (k := 0) rfl) rfl ?_
  have g1 := h.1
  have h := h.2
  refine u_ifT (pc := 1) (tgt := 13) (dec_at lsk_63 (k := 1) rfl) rfl (c0_lt g1) (fun e2 => ?_) (fun e2 => ?_)
  · have h := ifT e2 h
    refine u_ld (v := iV 0) (pc := 13) (dec_at lsk_63 (k := 7) rfl) rfl ?_
    refine u_rZ (pc := 14) (dec_at lsk_63 (k := 8) rfl) rfl (by decide) ?_
    refine u_ifF (pc := 4) (tgt := 9) (dec_at lsk_130 (k := 2) rfl) rfl (c0_ne (by decide)) (fun _ => ?_) (fun e => absurd e (by decide))
    refine u_ld (v := iV (-1)) (pc := 7) (dec_at lsk_130 (k := 3) rfl) rfl ?_
    exact u_rI (pc := 8) (dec_at lsk_130 (k := 4) rfl) rfl h
  · have h := ifF e2 h
    refine u_ld (v := iV l1) (pc := 4) (dec_at lsk_63 (k := 2) rfl) rfl ?_
    refine u_ld (v := iV 2) (pc := 5) (dec_at lsk_63 (k := 3) rfl) rfl ?_
    refine u_icF (pc := 6) (tgt := 13) (dec_at lsk_63 (k := 4) rfl) rfl (ci_ge g1 (by decide)) (fun e3 => ?_) (fun e3 => ?_)
    · have h := ifT e3 h
      refine u_ld (v := iV 1) (pc := 9) (dec_at lsk_63 (k := 5) rfl) rfl ?_
      refine u_goto (pc := 10) (tgt := 14) (dec_at lsk_63 (k := 6) rfl) rfl ?_
      refine u_rZ (pc := 14) (dec_at lsk_63 (k := 8) rfl) rfl (by decide) ?_
      refine u_ifF (pc := 4) (tgt := 9) (dec_at lsk_130 (k := 2) rfl) rfl (c0_ne (by decide)) (fun e => absurd e (by decide)) (fun _ => ?_)
      refine u_ld (v := .ref 0) (pc := 9) (dec_at lsk_130 (k := 5) rfl) rfl ?_
      refine u_gS (o := 58) (p := 58) (pc := 10) (dec_at lsk_130 (k := 6) rfl) f_0_47 sx_0 rfl rfl ?_
      refine u_ld (v := iV l1) (pc := 13) (dec_at lsk_130 (k := 7) rfl) rfl ?_
      refine u_aald3 (r := 59 + 2 * l1.toNat) (pc := 14) (dec_at lsk_130 (k := 8) rfl) sx_58 (Int.not_lt.mp e2) e3 rfl ?_
      refine u_sto (lv' := [.ref 0, iV l1, .ref (59 + 2 * l1.toNat), .retAddr 0, .retAddr 0]) (pc := 15) (dec_at lsk_130 (k := 9) rfl) rfl ?_
      refine u_ld (v := iV 0) (pc := 16) (dec_at lsk_130 (k := 10) rfl) rfl ?_
      refine u_sto (lv' := [.ref 0, iV l1, .ref (59 + 2 * l1.toNat), iV 0, .retAddr 0]) (pc := 17) (dec_at lsk_130 (k := 11) rfl) rfl ?_
      refine u_ld (v := iV 0) (pc := 18) (dec_at lsk_130 (k := 12) rfl) rfl ?_
      refine u_sto (lv' := [.ref 0, iV l1, .ref (59 + 2 * l1.toNat), iV 0, iV 0]) (pc := 19) (dec_at lsk_130 (k := 13) rfl) rfl ?_
      exact u_weak (sbK (sbD (sbK (sbK (sbK sb0))))) h
    · have h := ifF e3 h
      refine u_ld (v := iV 0) (pc := 13) (dec_at lsk_63 (k := 7) rfl) rfl ?_
      refine u_rZ (pc := 14) (dec_at lsk_63 (k := 8) rfl) rfl (by decide) ?_
      refine u_ifF (pc := 4) (tgt := 9) (dec_at lsk_130 (k := 2) rfl) rfl (c0_ne (by decide)) (fun _ => ?_) (fun e => absurd e (by decide))
      refine u_ld (v := iV (-1)) (pc := 7) (dec_at lsk_130 (k := 3) rfl) rfl ?_
      exact u_rI (pc := 8) (dec_at lsk_130 (k := 4) rfl) rfl h
theorem k_130_21 {d : Nat} {Q : Int → uS → Prop} {u : uS} {l2 : Nat} {l3 l4 : Int} (hOl2 : isO l2 5) (h : (rI l4) ∧ ((rI (u.1 0 2)) ∧ (if l4 < u.1 0 2 then ((0 ≤ l4) ∧ ((l4 < 40) ∧ ((0 ≤ (l3 * 10) + (u.1 5 l4)) ∧ (((l3 * 10) + (u.1 5 l4) < 400) ∧ (K_130 (d + 1) 21 [.ref 0, .retAddr 0, .ref l2, iV (u.1 (l2 + 1) ((l3 * 10) + (u.1 5 l4))), iV (l4 + 1)] [] u Q))))) else (if land (lushr (u.1 l2 1) l3) 1 = 0 then (Q 0 u) else (Q 1 u))))) : K_130 (d + 1) 21 [.ref 0, .retAddr 0, .ref l2, iV l3, iV l4] [] u Q := by
  unfold K_130
  refine u_ld (v := iV l4) (pc := 21) (dec_at lsk_130 (k := 14) rfl) rfl ?_
  refine u_ld (v := .ref 0) (pc := 23) (dec_at lsk_130 (k := 15) rfl) rfl ?_
  refine u_gI (z := 2) (pc := 24) (dec_at lsk_130 (k := 16) rfl) f_0_154 sx_0 rfl rfl ?_
  have g1 := h.1
  have h := h.2
  have g2 := h.1
  have h := h.2
  refine u_icF (pc := 27) (tgt := 49) (dec_at lsk_130 (k := 17) rfl) rfl (ci_ge g1 g2) (fun e3 => ?_) (fun e3 => ?_)
  · have h := ifT e3 h
    refine u_ld (v := .ref l2) (pc := 30) (dec_at lsk_130 (k := 18) rfl) rfl ?_
    refine u_ld (v := iV l3) (pc := 31) (dec_at lsk_130 (k := 19) rfl) rfl ?_
    refine u_ld (v := .ref 0) (pc := 32) (dec_at lsk_130 (k := 20) rfl) rfl ?_
    refine u_gS (o := 5) (p := 5) (pc := 33) (dec_at lsk_130 (k := 21) rfl) f_0_16 sx_0 rfl rfl ?_
    refine u_ld (v := iV l4) (pc := 36) (dec_at lsk_130 (k := 22) rfl) rfl ?_
    have g4 := h.1
    have h := h.2
    have g5 := h.1
    have h := h.2
    refine u_iald (pc := 38) (dec_at lsk_130 (k := 23) rfl) sx_5 g4 g5 ?_
    refine u_cvI (As := [iV l3, iV (u.1 5 l4)]) (rb := l2) (st2 := []) (pc := 39) (dec_at lsk_130 (k := 24) rfl) m_0_217 (Or.inl rfl) rfl (Nat.le_of_ble_eq_true rfl) hOl2 me_75 rfl ?_ (fun _ _ h_ => h_)
    refine u_of me_75 (Nat.le_of_ble_eq_true rfl) ?_
    refine u_ld (v := .ref l2) (pc := 0) (dec_at lsk_75 (k := 0) rfl) rfl ?_
    refine u_gS (o := 1) (p := l2 + 1) (pc := 1) (dec_at lsk_75 (k := 1) rfl) f_5_15 hOl2 rfl rfl ?_
    refine u_ld (v := iV l3) (pc := 4) (dec_at lsk_75 (k := 2) rfl) rfl ?_
    refine u_c (x := 10) (pc := 5) (dec_at lsk_75 (k := 3) rfl) rfl (by decide) ?_
    refine u_imul (pc := 7) (dec_at lsk_75 (k := 4) rfl) ?_
    refine u_ld (v := iV (u.1 5 l4)) (pc := 8) (dec_at lsk_75 (k := 5) rfl) rfl ?_
    refine u_iadd (pc := 9) (dec_at lsk_75 (k := 6) rfl) ?_
    have g6 := h.1
    have h := h.2
    have g7 := h.1
    have h := h.2
    refine u_iald (pc := 10) (dec_at lsk_75 (k := 7) rfl) (sa_5_2 hOl2) g6 g7 ?_
    refine u_rI (pc := 11) (dec_at lsk_75 (k := 8) rfl) rfl ?_
    refine u_sto (lv' := [.ref 0, .retAddr 0, .ref l2, iV (u.1 (l2 + 1) ((l3 * 10) + (u.1 5 l4))), iV l4]) (pc := 42) (dec_at lsk_130 (k := 25) rfl) rfl ?_
    refine u_inc (lv' := [.ref 0, .retAddr 0, .ref l2, iV (u.1 (l2 + 1) ((l3 * 10) + (u.1 5 l4))), iV (l4 + 1)]) (pc := 43) (dec_at lsk_130 (k := 26) rfl) rfl (by decide) rfl ?_
    refine u_goto (pc := 46) (tgt := 21) (dec_at lsk_130 (k := 27) rfl) rfl ?_
    exact h
  · have h := ifF e3 h
    refine u_ld (v := .ref l2) (pc := 49) (dec_at lsk_130 (k := 28) rfl) rfl ?_
    refine u_ld (v := iV l3) (pc := 50) (dec_at lsk_130 (k := 29) rfl) rfl ?_
    refine u_cvI (As := [iV l3]) (rb := l2) (st2 := []) (pc := 51) (dec_at lsk_130 (k := 30) rfl) m_0_220 (Or.inl rfl) rfl (Nat.le_of_ble_eq_true rfl) hOl2 me_71 rfl ?_ (fun _ _ h_ => h_)
    refine u_of me_71 (Nat.le_of_ble_eq_true rfl) ?_
    refine u_ld (v := .ref l2) (pc := 0) (dec_at lsk_71 (k := 0) rfl) rfl ?_
    refine u_gL (z := 1) (pc := 1) (dec_at lsk_71 (k := 1) rfl) f_5_19 hOl2 rfl rfl ?_
    refine u_ld (v := iV l3) (pc := 4) (dec_at lsk_71 (k := 2) rfl) rfl ?_
    refine u_lushr (pc := 5) (dec_at lsk_71 (k := 3) rfl) ?_
    refine u_cl (x := 1) (pc := 6) (dec_at lsk_71 (k := 4) rfl) rfl (by decide) ?_
    refine u_land (pc := 7) (dec_at lsk_71 (k := 5) rfl) ?_
    refine u_cl (x := 0) (pc := 8) (dec_at lsk_71 (k := 6) rfl) rfl (by decide) ?_
    refine u_st (st' := [.int (lg_cmp (Int64.ofInt (land (lushr (u.1 l2 1) l3) 1)) (Int64.ofInt 0))]) (pc := 9) (dec_at lsk_71 (k := 7) rfl) rfl ?_
    refine u_ifT (pc := 10) (tgt := 17) (dec_at lsk_71 (k := 8) rfl) rfl (cl_eq (rl_toInt _) (by decide)) (fun e8 => ?_) (fun e8 => ?_)
    · have h := ifT e8 h
      refine u_ld (v := iV 0) (pc := 17) (dec_at lsk_71 (k := 11) rfl) rfl ?_
      refine u_rZ (pc := 18) (dec_at lsk_71 (k := 12) rfl) rfl (by decide) ?_
      refine u_ifT (pc := 54) (tgt := 61) (dec_at lsk_130 (k := 31) rfl) rfl (c0_eq (by decide)) (fun _ => ?_) (fun e => absurd e (by decide))
      refine u_ld (v := iV 0) (pc := 61) (dec_at lsk_130 (k := 34) rfl) rfl ?_
      exact u_rI (pc := 62) (dec_at lsk_130 (k := 35) rfl) rfl h
    · have h := ifF e8 h
      refine u_ld (v := iV 1) (pc := 13) (dec_at lsk_71 (k := 9) rfl) rfl ?_
      refine u_goto (pc := 14) (tgt := 18) (dec_at lsk_71 (k := 10) rfl) rfl ?_
      refine u_rZ (pc := 18) (dec_at lsk_71 (k := 12) rfl) rfl (by decide) ?_
      refine u_ifT (pc := 54) (tgt := 61) (dec_at lsk_130 (k := 31) rfl) rfl (c0_eq (by decide)) (fun e => absurd e (by decide)) (fun _ => ?_)
      refine u_ld (v := iV 1) (pc := 57) (dec_at lsk_130 (k := 32) rfl) rfl ?_
      refine u_goto (pc := 58) (tgt := 62) (dec_at lsk_130 (k := 33) rfl) rfl ?_
      exact u_rI (pc := 62) (dec_at lsk_130 (k := 35) rfl) rfl h
/-- method 131 -/
def K_131 (d pc : Nat) (lv : ev_L) (st : List Value) (u : uS) (Q : Int → uS → Prop) : Prop := okU d 0 3 false (some .int) prog_1_method_14_code (qI Q) pc lv st u
theorem e_131 {d : Nat} {Q : Int → uS → Prop} {u : uS} {l1 : Int} (h : (rI l1) ∧ (if l1 < 0 then (Q (-1) u) else (if 3 < l1 then (Q (-1) u) else (cI (d + 2) 132 [.ref 185, .ref 59, .ref 61, iV l1] u (fun r5 u4 => (rI r5) ∧ (if r5 = 0 then (Q (-2) u4) else (cI (d + 2) 135 [.ref 185] u4 (fun r9 u8 => (rI r9) ∧ (if 40 < r9 then (Q (-3) u8) else (cV (d + 2) 136 [.ref 185, .ref 5, iV r9] u8 (fun u12 => ∀ u13 : uS, u13 = wr u12 0 2 r9 → (∀ u15 : uS, u15 = wr u13 36 16 0 → (Q r9 u15))))))))))))) : cI (d + 3) 131 [.ref 0, iV l1] u Q := by
  refine u_of me_131 (Nat.le_of_ble_eq_true rfl) ?_
  refine u_ld (v := iV l1) (pc := 0) (dec_at lsk_131 (k := 0) rfl) rfl ?_
  have g1 := h.1
  have h := h.2
  refine u_ifT (pc := 1) (tgt := 9) (dec_at lsk_131 (k := 1) rfl) rfl (c0_lt g1) (fun e2 => ?_) (fun e2 => ?_)
  · have h := ifT e2 h
    refine u_ld (v := iV (-1)) (pc := 9) (dec_at lsk_131 (k := 5) rfl) rfl ?_
    exact u_rI (pc := 10) (dec_at lsk_131 (k := 6) rfl) rfl h
  · have h := ifF e2 h
    refine u_ld (v := iV l1) (pc := 4) (dec_at lsk_131 (k := 2) rfl) rfl ?_
    refine u_ld (v := iV 3) (pc := 5) (dec_at lsk_131 (k := 3) rfl) rfl ?_
    refine u_icF (pc := 6) (tgt := 11) (dec_at lsk_131 (k := 4) rfl) rfl (ci_le g1 (by decide)) (fun e3 => ?_) (fun e3 => ?_)
    · have h := ifT e3 h
      refine u_ld (v := iV (-1)) (pc := 9) (dec_at lsk_131 (k := 5) rfl) rfl ?_
      exact u_rI (pc := 10) (dec_at lsk_131 (k := 6) rfl) rfl h
    · have h := ifF e3 h
      refine u_ld (v := .ref 0) (pc := 11) (dec_at lsk_131 (k := 7) rfl) rfl ?_
      refine u_gS (o := 185) (p := 185) (pc := 12) (dec_at lsk_131 (k := 8) rfl) f_0_61 sx_0 rfl rfl ?_
      refine u_ld (v := .ref 0) (pc := 15) (dec_at lsk_131 (k := 9) rfl) rfl ?_
      refine u_gS (o := 58) (p := 58) (pc := 16) (dec_at lsk_131 (k := 10) rfl) f_0_47 sx_0 rfl rfl ?_
      refine u_ld (v := iV 0) (pc := 19) (dec_at lsk_131 (k := 11) rfl) rfl ?_
      refine u_aald3 (r := 59) (pc := 20) (dec_at lsk_131 (k := 12) rfl) sx_58 (by decide) (by decide) rfl ?_
      refine u_ld (v := .ref 0) (pc := 21) (dec_at lsk_131 (k := 13) rfl) rfl ?_
      refine u_gS (o := 58) (p := 58) (pc := 22) (dec_at lsk_131 (k := 14) rfl) f_0_47 sx_0 rfl rfl ?_
      refine u_ld (v := iV 1) (pc := 25) (dec_at lsk_131 (k := 15) rfl) rfl ?_
      refine u_aald3 (r := 61) (pc := 26) (dec_at lsk_131 (k := 16) rfl) sx_58 (by decide) (by decide) rfl ?_
      refine u_ld (v := iV l1) (pc := 27) (dec_at lsk_131 (k := 17) rfl) rfl ?_
      refine u_cvI (As := [.ref 59, .ref 61, iV l1]) (rb := 185) (st2 := []) (pc := 28) (dec_at lsk_131 (k := 18) rfl) m_0_223 (Or.inl rfl) rfl (Nat.le_of_ble_eq_true rfl) sx_185 me_132 rfl h (fun r5 u4 h => ?_)
      have g6 := h.1
      have h := h.2
      refine u_ifF (pc := 31) (tgt := 37) (dec_at lsk_131 (k := 19) rfl) rfl (c0_ne g6) (fun e7 => ?_) (fun e7 => ?_)
      · have h := ifT e7 h
        refine u_c (x := (-2)) (pc := 34) (dec_at lsk_131 (k := 20) rfl) rfl (by decide) ?_
        exact u_rI (pc := 36) (dec_at lsk_131 (k := 21) rfl) rfl h
      · have h := ifF e7 h
        refine u_ld (v := .ref 0) (pc := 37) (dec_at lsk_131 (k := 22) rfl) rfl ?_
        refine u_gS (o := 185) (p := 185) (pc := 38) (dec_at lsk_131 (k := 23) rfl) f_0_61 sx_0 rfl rfl ?_
        refine u_cvI (As := []) (rb := 185) (st2 := []) (pc := 41) (dec_at lsk_131 (k := 24) rfl) m_0_227 (Or.inl rfl) rfl (Nat.le_of_ble_eq_true rfl) sx_185 me_135 rfl h (fun r9 u8 h => ?_)
        refine u_sto (lv' := [.ref 0, iV l1, iV r9]) (pc := 44) (dec_at lsk_131 (k := 25) rfl) rfl ?_
        refine u_ld (v := iV r9) (pc := 45) (dec_at lsk_131 (k := 26) rfl) rfl ?_
        refine u_c (x := 40) (pc := 46) (dec_at lsk_131 (k := 27) rfl) rfl (by decide) ?_
        have g10 := h.1
        have h := h.2
        refine u_icF (pc := 48) (tgt := 54) (dec_at lsk_131 (k := 28) rfl) rfl (ci_le g10 (by decide)) (fun e11 => ?_) (fun e11 => ?_)
        · have h := ifT e11 h
          refine u_c (x := (-3)) (pc := 51) (dec_at lsk_131 (k := 29) rfl) rfl (by decide) ?_
          exact u_rI (pc := 53) (dec_at lsk_131 (k := 30) rfl) rfl h
        · have h := ifF e11 h
          refine u_ld (v := .ref 0) (pc := 54) (dec_at lsk_131 (k := 31) rfl) rfl ?_
          refine u_gS (o := 185) (p := 185) (pc := 55) (dec_at lsk_131 (k := 32) rfl) f_0_61 sx_0 rfl rfl ?_
          refine u_ld (v := .ref 0) (pc := 58) (dec_at lsk_131 (k := 33) rfl) rfl ?_
          refine u_gS (o := 5) (p := 5) (pc := 59) (dec_at lsk_131 (k := 34) rfl) f_0_16 sx_0 rfl rfl ?_
          refine u_ld (v := iV r9) (pc := 62) (dec_at lsk_131 (k := 35) rfl) rfl ?_
          refine u_cvV (As := [.ref 5, iV r9]) (rb := 185) (st2 := []) (pc := 63) (dec_at lsk_131 (k := 36) rfl) m_0_229 (Or.inl rfl) rfl (Nat.le_of_ble_eq_true rfl) sx_185 me_136 rfl h (fun u12 h => ?_)
          refine u_ld (v := .ref 0) (pc := 66) (dec_at lsk_131 (k := 37) rfl) rfl ?_
          refine u_ld (v := iV r9) (pc := 67) (dec_at lsk_131 (k := 38) rfl) rfl ?_
          refine u_cvI (As := [iV r9]) (rb := 0) (st2 := []) (pc := 68) (dec_at lsk_131 (k := 39) rfl) m_0_103 (Or.inl rfl) rfl (Nat.le_of_ble_eq_true rfl) sx_0 me_25 rfl ?_ (fun _ _ h_ => h_)
          refine u_of me_25 (Nat.le_of_ble_eq_true rfl) ?_
          refine u_ld (v := .ref 0) (pc := 0) (dec_at lsk_25 (k := 0) rfl) rfl ?_
          refine u_ld (v := iV r9) (pc := 1) (dec_at lsk_25 (k := 1) rfl) rfl ?_
          refine u_pI (z := 2) (pc := 2) (dec_at lsk_25 (k := 2) rfl) f_0_154 sx_0 rfl rfl rfl rfl (fun u13 e14 => ?_)
          have h := h u13 e14
          refine u_ld (v := .ref 0) (pc := 5) (dec_at lsk_25 (k := 3) rfl) rfl ?_
          refine u_gS (o := 36) (p := 36) (pc := 6) (dec_at lsk_25 (k := 4) rfl) f_0_40 sx_0 rfl rfl ?_
          refine u_cvV (As := []) (rb := 36) (st2 := []) (pc := 9) (dec_at lsk_25 (k := 5) rfl) m_0_301 (Or.inl rfl) rfl (Nat.le_of_ble_eq_true rfl) sx_36 me_26 rfl ?_ (fun _ h_ => h_)
          refine u_of me_26 (Nat.le_of_ble_eq_true rfl) ?_
          refine u_ld (v := .ref 36) (pc := 0) (dec_at lsk_26 (k := 0) rfl) rfl ?_
          refine u_ld (v := iV 0) (pc := 1) (dec_at lsk_26 (k := 1) rfl) rfl ?_
          refine u_pZ (z := 16) (pc := 2) (dec_at lsk_26 (k := 2) rfl) f_4_56 sx_36 rfl rfl rfl rfl (by decide) (fun u15 e16 => ?_)
          have h := h u15 e16
          refine u_rV (pc := 5) (dec_at lsk_26 (k := 3) rfl) rfl ?_
          refine u_ld (v := iV r9) (pc := 12) (dec_at lsk_25 (k := 6) rfl) rfl ?_
          refine u_rI (pc := 13) (dec_at lsk_25 (k := 7) rfl) rfl ?_
          exact u_rI (pc := 71) (dec_at lsk_131 (k := 40) rfl) rfl h
/-- method 137 -/
def K_137 (d pc : Nat) (lv : ev_L) (st : List Value) (u : uS) (Q : Int → uS → Prop) : Prop := okU d 0 3 false (some .int) prog_1_method_15_code (qI Q) pc lv st u
theorem e_137 {d : Nat} {Q : Int → uS → Prop} {u : uS} {l1 : Int} (h : (rI (u.1 6 1)) ∧ (if 0 < u.1 6 1 then ((rI l1) ∧ (if l1 < 0 then (Q (-1) u) else (if l1 < 2 then (∀ u6 : uS, u6 = wr u 231 0 0 → (cL (d + 1) 138 [.ref 0, iV l1] u6 (fun r9 u8 => if land r9 (lxor (u8.1 (59 + 2 * l1.toNat) 1) (-1)) = 0 then (Q 1 u8) else (cI (d + 1) 143 [.ref 232, .ref 6, .ref (59 + 2 * l1.toNat)] u8 (fun r12 u11 => (rI r12) ∧ (if r12 = 0 then (Q 0 u11) else (cV (d + 1) 165 [.ref 231, .ref 6, .ref (59 + 2 * l1.toNat)] u11 (fun u15 => Q 0 u15)))))))) else (Q (-1) u)))) else (Q (-1) u))) : cI (d + 2) 137 [.ref 0, iV l1] u Q := by
  refine u_of me_137 (Nat.le_of_ble_eq_true rfl) ?_
  refine u_ld (v := .ref 0) (pc := 0) (dec_at lsk_137 (k := 0) rfl) rfl ?_
  refine u_cvI (As := []) (rb := 0) (st2 := []) (pc := 1) (dec_at lsk_137 (k := 1) rfl) m_0_206 (Or.inl rfl) rfl (Nat.le_of_ble_eq_true rfl) sx_0 me_125 rfl ?_ (fun _ _ h_ => h_)
  refine u_of me_125 (Nat.le_of_ble_eq_true rfl) ?_
  refine u_ld (v := .ref 0) (pc := 0) (dec_at lsk_125 (k := 0) rfl) rfl ?_
  refine u_gS (o := 6) (p := 6) (pc := 1) (dec_at lsk_125 (k := 1) rfl) f_0_23 sx_0 rfl rfl ?_
  refine u_gI (z := 1) (pc := 4) (dec_at lsk_125 (k := 2) rfl) f_0_124 sx_6 rfl rfl ?_
  have g1 := h.1
  have h := h.2
  refine u_ifF (pc := 7) (tgt := 14) (dec_at lsk_125 (k := 3) rfl) rfl (c0_le g1) (fun e2 => ?_) (fun e2 => ?_)
  · have h := ifT e2 h
    refine u_ld (v := iV 1) (pc := 10) (dec_at lsk_125 (k := 4) rfl) rfl ?_
    refine u_goto (pc := 11) (tgt := 15) (dec_at lsk_125 (k := 5) rfl) rfl ?_
    refine u_rZ (pc := 15) (dec_at lsk_125 (k := 7) rfl) rfl (by decide) ?_
    refine u_ifT (pc := 4) (tgt := 14) (dec_at lsk_137 (k := 2) rfl) rfl (c0_eq (by decide)) (fun e => absurd e (by decide)) (fun _ => ?_)
    refine u_ld (v := iV l1) (pc := 7) (dec_at lsk_137 (k := 3) rfl) rfl ?_
    refine u_csI (As := [iV l1]) (st2 := []) (pc := 8) (dec_at lsk_137 (k := 4) rfl) m_0_126 (Or.inl rfl) rfl (Nat.le_of_ble_eq_true rfl) ?_ (fun _ _ h_ => h_)
    refine u_of me_63 (Nat.le_of_ble_eq_true rfl) ?_
    refine u_ld (v := iV l1) (pc := 0) (dec_at lsk_63 (k := 0) rfl) rfl ?_
    have g3 := h.1
    have h := h.2
    refine u_ifT (pc := 1) (tgt := 13) (dec_at lsk_63 (k := 1) rfl) rfl (c0_lt g3) (fun e4 => ?_) (fun e4 => ?_)
    · have h := ifT e4 h
      refine u_ld (v := iV 0) (pc := 13) (dec_at lsk_63 (k := 7) rfl) rfl ?_
      refine u_rZ (pc := 14) (dec_at lsk_63 (k := 8) rfl) rfl (by decide) ?_
      refine u_ifF (pc := 11) (tgt := 16) (dec_at lsk_137 (k := 5) rfl) rfl (c0_ne (by decide)) (fun _ => ?_) (fun e => absurd e (by decide))
      refine u_ld (v := iV (-1)) (pc := 14) (dec_at lsk_137 (k := 6) rfl) rfl ?_
      exact u_rI (pc := 15) (dec_at lsk_137 (k := 7) rfl) rfl h
    · have h := ifF e4 h
      refine u_ld (v := iV l1) (pc := 4) (dec_at lsk_63 (k := 2) rfl) rfl ?_
      refine u_ld (v := iV 2) (pc := 5) (dec_at lsk_63 (k := 3) rfl) rfl ?_
      refine u_icF (pc := 6) (tgt := 13) (dec_at lsk_63 (k := 4) rfl) rfl (ci_ge g3 (by decide)) (fun e5 => ?_) (fun e5 => ?_)
      · have h := ifT e5 h
        refine u_ld (v := iV 1) (pc := 9) (dec_at lsk_63 (k := 5) rfl) rfl ?_
        refine u_goto (pc := 10) (tgt := 14) (dec_at lsk_63 (k := 6) rfl) rfl ?_
        refine u_rZ (pc := 14) (dec_at lsk_63 (k := 8) rfl) rfl (by decide) ?_
        refine u_ifF (pc := 11) (tgt := 16) (dec_at lsk_137 (k := 5) rfl) rfl (c0_ne (by decide)) (fun e => absurd e (by decide)) (fun _ => ?_)
        refine u_ld (v := .ref 0) (pc := 16) (dec_at lsk_137 (k := 8) rfl) rfl ?_
        refine u_gS (o := 231) (p := 231) (pc := 17) (dec_at lsk_137 (k := 9) rfl) f_0_75 sx_0 rfl rfl ?_
        refine u_ld (v := iV 0) (pc := 20) (dec_at lsk_137 (k := 10) rfl) rfl ?_
        refine u_pZ (z := 0) (pc := 21) (dec_at lsk_137 (k := 11) rfl) f_0_233 sx_231 rfl rfl rfl rfl (by decide) (fun u6 e7 => ?_)
        have h := h u6 e7
        refine u_ld (v := .ref 0) (pc := 24) (dec_at lsk_137 (k := 12) rfl) rfl ?_
        refine u_gS (o := 58) (p := 58) (pc := 25) (dec_at lsk_137 (k := 13) rfl) f_0_47 sx_0 rfl rfl ?_
        refine u_ld (v := iV l1) (pc := 28) (dec_at lsk_137 (k := 14) rfl) rfl ?_
        refine u_aald3 (r := 59 + 2 * l1.toNat) (pc := 29) (dec_at lsk_137 (k := 15) rfl) sx_58 (Int.not_lt.mp e4) e5 rfl ?_
        refine u_sto (lv' := [.ref 0, iV l1, .ref (59 + 2 * l1.toNat)]) (pc := 30) (dec_at lsk_137 (k := 16) rfl) rfl ?_
        refine u_ld (v := .ref 0) (pc := 31) (dec_at lsk_137 (k := 17) rfl) rfl ?_
        refine u_ld (v := iV l1) (pc := 32) (dec_at lsk_137 (k := 18) rfl) rfl ?_
        refine u_cvL (As := [iV l1]) (rb := 0) (st2 := []) (pc := 33) (dec_at lsk_137 (k := 19) rfl) m_0_236 (Or.inl rfl) rfl (Nat.le_of_ble_eq_true rfl) sx_0 me_138 rfl h (fun r9 u8 h => ?_)
        refine u_ld (v := .ref (59 + 2 * l1.toNat)) (pc := 36) (dec_at lsk_137 (k := 20) rfl) rfl ?_
        refine u_gL (z := 1) (pc := 37) (dec_at lsk_137 (k := 21) rfl) f_0_240 (sr_58 (Int.not_lt.mp e4) e5) rfl rfl ?_
        refine u_ldc2 (x := (-1)) (pc := 40) (dec_at lsk_137 (k := 22) rfl) con_0_170 (by decide) ?_
        refine u_lxor (pc := 43) (dec_at lsk_137 (k := 23) rfl) ?_
        refine u_land (pc := 44) (dec_at lsk_137 (k := 24) rfl) ?_
        refine u_cl (x := 0) (pc := 45) (dec_at lsk_137 (k := 25) rfl) rfl (by decide) ?_
        refine u_st (st' := [.int (lg_cmp (Int64.ofInt (land r9 (lxor (u8.1 (59 + 2 * l1.toNat) 1) (-1)))) (Int64.ofInt 0))]) (pc := 46) (dec_at lsk_137 (k := 26) rfl) rfl ?_
        refine u_ifF (pc := 47) (tgt := 52) (dec_at lsk_137 (k := 27) rfl) rfl (cl_ne (rl_toInt _) (by decide)) (fun e10 => ?_) (fun e10 => ?_)
        · have h := ifT e10 h
          refine u_ld (v := iV 1) (pc := 50) (dec_at lsk_137 (k := 28) rfl) rfl ?_
          exact u_rI (pc := 51) (dec_at lsk_137 (k := 29) rfl) rfl h
        · have h := ifF e10 h
          refine u_ld (v := .ref 0) (pc := 52) (dec_at lsk_137 (k := 30) rfl) rfl ?_
          refine u_gS (o := 231) (p := 231) (pc := 53) (dec_at lsk_137 (k := 31) rfl) f_0_75 sx_0 rfl rfl ?_
          refine u_gS (o := 1) (p := 232) (pc := 56) (dec_at lsk_137 (k := 32) rfl) f_0_244 sx_231 rfl rfl ?_
          refine u_ld (v := .ref 0) (pc := 59) (dec_at lsk_137 (k := 33) rfl) rfl ?_
          refine u_gS (o := 6) (p := 6) (pc := 60) (dec_at lsk_137 (k := 34) rfl) f_0_23 sx_0 rfl rfl ?_
          refine u_ld (v := .ref (59 + 2 * l1.toNat)) (pc := 63) (dec_at lsk_137 (k := 35) rfl) rfl ?_
          refine u_cvI (As := [.ref 6, .ref (59 + 2 * l1.toNat)]) (rb := 232) (st2 := []) (pc := 64) (dec_at lsk_137 (k := 36) rfl) m_0_248 (Or.inl rfl) rfl (Nat.le_of_ble_eq_true rfl) sx_232 me_143 rfl h (fun r12 u11 h => ?_)
          have g13 := h.1
          have h := h.2
          refine u_ifT (pc := 67) (tgt := 82) (dec_at lsk_137 (k := 37) rfl) rfl (c0_eq g13) (fun e14 => ?_) (fun e14 => ?_)
          · have h := ifT e14 h
            refine u_ld (v := iV 0) (pc := 82) (dec_at lsk_137 (k := 44) rfl) rfl ?_
            exact u_rI (pc := 83) (dec_at lsk_137 (k := 45) rfl) rfl h
          · have h := ifF e14 h
            refine u_ld (v := .ref 0) (pc := 70) (dec_at lsk_137 (k := 38) rfl) rfl ?_
            refine u_gS (o := 231) (p := 231) (pc := 71) (dec_at lsk_137 (k := 39) rfl) f_0_75 sx_0 rfl rfl ?_
            refine u_ld (v := .ref 0) (pc := 74) (dec_at lsk_137 (k := 40) rfl) rfl ?_
            refine u_gS (o := 6) (p := 6) (pc := 75) (dec_at lsk_137 (k := 41) rfl) f_0_23 sx_0 rfl rfl ?_
            refine u_ld (v := .ref (59 + 2 * l1.toNat)) (pc := 78) (dec_at lsk_137 (k := 42) rfl) rfl ?_
            refine u_cvV (As := [.ref 6, .ref (59 + 2 * l1.toNat)]) (rb := 231) (st2 := []) (pc := 79) (dec_at lsk_137 (k := 43) rfl) m_0_253 (Or.inl rfl) rfl (Nat.le_of_ble_eq_true rfl) sx_231 me_165 rfl h (fun u15 h => ?_)
            refine u_ld (v := iV 0) (pc := 82) (dec_at lsk_137 (k := 44) rfl) rfl ?_
            exact u_rI (pc := 83) (dec_at lsk_137 (k := 45) rfl) rfl h
      · have h := ifF e5 h
        refine u_ld (v := iV 0) (pc := 13) (dec_at lsk_63 (k := 7) rfl) rfl ?_
        refine u_rZ (pc := 14) (dec_at lsk_63 (k := 8) rfl) rfl (by decide) ?_
        refine u_ifF (pc := 11) (tgt := 16) (dec_at lsk_137 (k := 5) rfl) rfl (c0_ne (by decide)) (fun _ => ?_) (fun e => absurd e (by decide))
        refine u_ld (v := iV (-1)) (pc := 14) (dec_at lsk_137 (k := 6) rfl) rfl ?_
        exact u_rI (pc := 15) (dec_at lsk_137 (k := 7) rfl) rfl h
  · have h := ifF e2 h
    refine u_ld (v := iV 0) (pc := 14) (dec_at lsk_125 (k := 6) rfl) rfl ?_
    refine u_rZ (pc := 15) (dec_at lsk_125 (k := 7) rfl) rfl (by decide) ?_
    refine u_ifT (pc := 4) (tgt := 14) (dec_at lsk_137 (k := 2) rfl) rfl (c0_eq (by decide)) (fun _ => ?_) (fun e => absurd e (by decide))
    refine u_ld (v := iV (-1)) (pc := 14) (dec_at lsk_137 (k := 6) rfl) rfl ?_
    exact u_rI (pc := 15) (dec_at lsk_137 (k := 7) rfl) rfl h
/-- method 138 -/
def K_138 (d pc : Nat) (lv : ev_L) (st : List Value) (u : uS) (Q : Int → uS → Prop) : Prop := okU d 0 2 false (some .long) prog_1_method_25_code (qL Q) pc lv st u
theorem e_138 {d : Nat} {Q : Int → uS → Prop} {u : uS} {l1 : Int} (h : (0 ≤ l1) ∧ ((l1 < 2) ∧ (cV d 139 [.ref (193 + 19 * l1.toNat), .ref 6, .ref (59 + 2 * l1.toNat)] u (fun u3 => Q (u3.1 ((193 + 19 * l1.toNat) + 1) 0) u3)))) : cL (d + 1) 138 [.ref 0, iV l1] u Q := by
  refine u_of me_138 (Nat.le_of_ble_eq_true rfl) ?_
  refine u_ld (v := .ref 0) (pc := 0) (dec_at lsk_138 (k := 0) rfl) rfl ?_
  refine u_gS (o := 192) (p := 192) (pc := 1) (dec_at lsk_138 (k := 1) rfl) f_0_68 sx_0 rfl rfl ?_
  refine u_ld (v := iV l1) (pc := 4) (dec_at lsk_138 (k := 2) rfl) rfl ?_
  have g1 := h.1
  have h := h.2
  have g2 := h.1
  have h := h.2
  refine u_aald4 (r := 193 + 19 * l1.toNat) (pc := 5) (dec_at lsk_138 (k := 3) rfl) sx_192 g1 g2 rfl ?_
  refine u_ld (v := .ref 0) (pc := 6) (dec_at lsk_138 (k := 4) rfl) rfl ?_
  refine u_gS (o := 6) (p := 6) (pc := 7) (dec_at lsk_138 (k := 5) rfl) f_0_23 sx_0 rfl rfl ?_
  refine u_ld (v := .ref 0) (pc := 10) (dec_at lsk_138 (k := 6) rfl) rfl ?_
  refine u_gS (o := 58) (p := 58) (pc := 11) (dec_at lsk_138 (k := 7) rfl) f_0_47 sx_0 rfl rfl ?_
  refine u_ld (v := iV l1) (pc := 14) (dec_at lsk_138 (k := 8) rfl) rfl ?_
  refine u_aald3 (r := 59 + 2 * l1.toNat) (pc := 15) (dec_at lsk_138 (k := 9) rfl) sx_58 g1 g2 rfl ?_
  refine u_cvV (As := [.ref 6, .ref (59 + 2 * l1.toNat)]) (rb := 193 + 19 * l1.toNat) (st2 := []) (pc := 16) (dec_at lsk_138 (k := 10) rfl) m_0_286 (Or.inl rfl) rfl (Nat.le_of_ble_eq_true rfl) (sr_192 g1 g2) me_139 rfl h (fun u3 h => ?_)
  refine u_ld (v := .ref 0) (pc := 19) (dec_at lsk_138 (k := 11) rfl) rfl ?_
  refine u_gS (o := 192) (p := 192) (pc := 20) (dec_at lsk_138 (k := 12) rfl) f_0_68 sx_0 rfl rfl ?_
  refine u_ld (v := iV l1) (pc := 23) (dec_at lsk_138 (k := 13) rfl) rfl ?_
  refine u_aald4 (r := 193 + 19 * l1.toNat) (pc := 24) (dec_at lsk_138 (k := 14) rfl) sx_192 g1 g2 rfl ?_
  refine u_gS (o := 1) (p := (193 + 19 * l1.toNat) + 1) (pc := 25) (dec_at lsk_138 (k := 15) rfl) f_0_298 (sr_192 g1 g2) rfl rfl ?_
  refine u_ld (v := iV 0) (pc := 28) (dec_at lsk_138 (k := 16) rfl) rfl ?_
  refine u_lald (pc := 29) (dec_at lsk_138 (k := 17) rfl) (sa_9_1 (sr_192 g1 g2)) (by decide) (by decide) ?_
  exact u_rL (pc := 30) (dec_at lsk_138 (k := 18) rfl) rfl h
/-- method 142 -/
def K_142 (d pc : Nat) (lv : ev_L) (st : List Value) (u : uS) (Q : uS → Prop) : Prop := okU d 0 14 false none prog_1_method_39_code (qV Q) pc lv st u
theorem e_142 {d : Nat} {Q : uS → Prop} {u : uS} {l0 l1 l2 l5 : Nat} {l3 l4 : Int} (hOl0 : isO l0 2) (hOl1 : isO l1 5) {nl2 : Nat} (hAl2 : isA l2 1 nl2) {nl5 : Nat} (hAl5 : isA l5 1 nl5) (h : (0 < (nl5 : Int)) ∧ (∀ u2 : uS, u2 = wr u l5 0 (lshl 1 l4) → (K_142 (d + 2) 15 [.ref l0, .ref l1, .ref l2, iV l3, .retAddr 0, .ref l5, lV (lshl 1 l4), .retAddr 0, iV 0, .retAddr 0, .retAddr 0, .retAddr 0, .retAddr 0, .retAddr 0] [] u2 Q))) : cV (d + 3) 142 [.ref l0, .ref l1, .ref l2, iV l3, iV l4, .ref l5] u Q := by
  refine u_of me_142 (Nat.le_of_ble_eq_true rfl) ?_
  refine u_cl (x := 1) (pc := 0) (dec_at lsk_142 (k := 0) rfl) rfl (by decide) ?_
  refine u_ld (v := iV l4) (pc := 1) (dec_at lsk_142 (k := 1) rfl) rfl ?_
  refine u_lshl (pc := 3) (dec_at lsk_142 (k := 2) rfl) ?_
  refine u_sto (lv' := [.ref l0, .ref l1, .ref l2, iV l3, iV l4, .ref l5, lV (lshl 1 l4), .retAddr 0, .retAddr 0, .retAddr 0, .retAddr 0, .retAddr 0, .retAddr 0, .retAddr 0]) (pc := 4) (dec_at lsk_142 (k := 3) rfl) rfl ?_
  refine u_ld (v := .ref l5) (pc := 6) (dec_at lsk_142 (k := 4) rfl) rfl ?_
  refine u_ld (v := iV 0) (pc := 8) (dec_at lsk_142 (k := 5) rfl) rfl ?_
  refine u_ld (v := lV (lshl 1 l4)) (pc := 9) (dec_at lsk_142 (k := 6) rfl) rfl ?_
  have g1 := h.1
  have h := h.2
  refine u_last (pc := 11) (dec_at lsk_142 (k := 7) rfl) hAl5 (by decide) g1 (fun u2 e3 => ?_)
  have h := h u2 e3
  refine u_ld (v := iV 0) (pc := 12) (dec_at lsk_142 (k := 8) rfl) rfl ?_
  refine u_sto (lv' := [.ref l0, .ref l1, .ref l2, iV l3, iV l4, .ref l5, lV (lshl 1 l4), .retAddr 0, iV 0, .retAddr 0, .retAddr 0, .retAddr 0, .retAddr 0, .retAddr 0]) (pc := 13) (dec_at lsk_142 (k := 9) rfl) rfl ?_
  exact u_weak (sbK (sbK (sbK (sbK (sbD (sbK (sbK (sbK (sbK (sbK (sbK (sbK (sbK (sbK sb0)))))))))))))) h
theorem k_142_15 {d : Nat} {Q : uS → Prop} {u : uS} {l0 l1 l2 l5 : Nat} {l3 l6 l8 : Int} (hOl0 : isO l0 2) (hOl1 : isO l1 5) {nl2 : Nat} (hAl2 : isA l2 1 nl2) {nl5 : Nat} (hAl5 : isA l5 1 nl5) (h : (0 ≤ l3) ∧ ((l3 < 30) ∧ ((rI l8) ∧ ((rI (u.1 (l0 + 3) l3)) ∧ (if l8 < u.1 (l0 + 3) l3 then ((0 ≤ (l3 * 6) + l8) ∧ (((l3 * 6) + l8 < 180) ∧ ((rI (u.1 (l0 + 4) ((l3 * 6) + l8))) ∧ (if u.1 (l0 + 4) ((l3 * 6) + l8) < 100 then (cL (d + 2) 76 [.ref l1, lV l6, iV (u.1 (l0 + 4) ((l3 * 6) + l8))] u (fun r11 u10 => (0 ≤ l8 + 1) ∧ ((l8 + 1 < (nl5 : Int)) ∧ (∀ u14 : uS, u14 = wr u10 l5 (l8 + 1) r11 → (K_142 (d + 2) 15 [.ref l0, .ref l1, .ref l2, iV l3, .retAddr 0, .ref l5, lV r11, .retAddr 0, iV (l8 + 1), .retAddr 0, .retAddr 0, .retAddr 0, .retAddr 0, .retAddr 0] [] u14 Q))))) else (K_142 (d + 2) 62 [.ref l0, .ref l1, .ref l2, iV l3, .retAddr 0, .ref l5, .retAddr 0, .retAddr 0, iV l8, iV (u.1 (l0 + 4) ((l3 * 6) + l8)), lV 0, .retAddr 0, lV l6, .retAddr 0] [] u Q))))) else (Q u)))))) : K_142 (d + 2) 15 [.ref l0, .ref l1, .ref l2, iV l3, .retAddr 0, .ref l5, lV l6, .retAddr 0, iV l8, .retAddr 0, .retAddr 0, .retAddr 0, .retAddr 0, .retAddr 0] [] u Q := by
  unfold K_142
  refine u_ld (v := iV l8) (pc := 15) (dec_at lsk_142 (k := 10) rfl) rfl ?_
  refine u_ld (v := .ref l0) (pc := 17) (dec_at lsk_142 (k := 11) rfl) rfl ?_
  refine u_gS (o := 3) (p := l0 + 3) (pc := 18) (dec_at lsk_142 (k := 12) rfl) f_0_160 hOl0 rfl rfl ?_
  refine u_ld (v := iV l3) (pc := 21) (dec_at lsk_142 (k := 13) rfl) rfl ?_
  have g1 := h.1
  have h := h.2
  have g2 := h.1
  have h := h.2
  refine u_iald (pc := 22) (dec_at lsk_142 (k := 14) rfl) (sa_2_4 hOl0) g1 g2 ?_
  have g3 := h.1
  have h := h.2
  have g4 := h.1
  have h := h.2
  refine u_icF (pc := 23) (tgt := 120) (dec_at lsk_142 (k := 15) rfl) rfl (ci_ge g3 g4) (fun e5 => ?_) (fun e5 => ?_)
  · have h := ifT e5 h
    refine u_ld (v := .ref l0) (pc := 26) (dec_at lsk_142 (k := 16) rfl) rfl ?_
    refine u_ld (v := iV l3) (pc := 27) (dec_at lsk_142 (k := 17) rfl) rfl ?_
    refine u_ld (v := iV l8) (pc := 28) (dec_at lsk_142 (k := 18) rfl) rfl ?_
    refine u_cvI (As := [iV l3, iV l8]) (rb := l0) (st2 := []) (pc := 30) (dec_at lsk_142 (k := 19) rfl) m_0_163 (Or.inl rfl) rfl (Nat.le_of_ble_eq_true rfl) hOl0 me_42 rfl ?_ (fun _ _ h_ => h_)
    refine u_of me_42 (Nat.le_of_ble_eq_true rfl) ?_
    refine u_ld (v := .ref l0) (pc := 0) (dec_at lsk_42 (k := 0) rfl) rfl ?_
    refine u_gS (o := 4) (p := l0 + 4) (pc := 1) (dec_at lsk_42 (k := 1) rfl) f_2_21 hOl0 rfl rfl ?_
    refine u_ld (v := iV l3) (pc := 4) (dec_at lsk_42 (k := 2) rfl) rfl ?_
    refine u_c (x := 6) (pc := 5) (dec_at lsk_42 (k := 3) rfl) rfl (by decide) ?_
    refine u_imul (pc := 7) (dec_at lsk_42 (k := 4) rfl) ?_
    refine u_ld (v := iV l8) (pc := 8) (dec_at lsk_42 (k := 5) rfl) rfl ?_
    refine u_iadd (pc := 9) (dec_at lsk_42 (k := 6) rfl) ?_
    have g6 := h.1
    have h := h.2
    have g7 := h.1
    have h := h.2
    refine u_iald (pc := 10) (dec_at lsk_42 (k := 7) rfl) (sa_2_5 hOl0) g6 g7 ?_
    refine u_rI (pc := 11) (dec_at lsk_42 (k := 8) rfl) rfl ?_
    refine u_sto (lv' := [.ref l0, .ref l1, .ref l2, iV l3, .retAddr 0, .ref l5, lV l6, .retAddr 0, iV l8, iV (u.1 (l0 + 4) ((l3 * 6) + l8)), .retAddr 0, .retAddr 0, .retAddr 0, .retAddr 0]) (pc := 33) (dec_at lsk_142 (k := 20) rfl) rfl ?_
    refine u_ld (v := iV (u.1 (l0 + 4) ((l3 * 6) + l8))) (pc := 35) (dec_at lsk_142 (k := 21) rfl) rfl ?_
    refine u_c (x := 100) (pc := 37) (dec_at lsk_142 (k := 22) rfl) rfl (by decide) ?_
    have g8 := h.1
    have h := h.2
    refine u_icF (pc := 39) (tgt := 55) (dec_at lsk_142 (k := 23) rfl) rfl (ci_ge g8 (by decide)) (fun e9 => ?_) (fun e9 => ?_)
    · have h := ifT e9 h
      refine u_ld (v := .ref l1) (pc := 42) (dec_at lsk_142 (k := 24) rfl) rfl ?_
      refine u_ld (v := lV l6) (pc := 43) (dec_at lsk_142 (k := 25) rfl) rfl ?_
      refine u_ld (v := iV (u.1 (l0 + 4) ((l3 * 6) + l8))) (pc := 45) (dec_at lsk_142 (k := 26) rfl) rfl ?_
      refine u_csL (As := [.ref l1, lV l6, iV (u.1 (l0 + 4) ((l3 * 6) + l8))]) (st2 := []) (pc := 47) (dec_at lsk_142 (k := 27) rfl) m_0_317 (Or.inl rfl) rfl (Nat.le_of_ble_eq_true rfl) h (fun r11 u10 h => ?_)
      refine u_sto (lv' := [.ref l0, .ref l1, .ref l2, iV l3, .retAddr 0, .ref l5, lV r11, .retAddr 0, iV l8, iV (u.1 (l0 + 4) ((l3 * 6) + l8)), .retAddr 0, .retAddr 0, .retAddr 0, .retAddr 0]) (pc := 50) (dec_at lsk_142 (k := 28) rfl) rfl ?_
      refine u_goto (pc := 52) (tgt := 105) (dec_at lsk_142 (k := 29) rfl) rfl ?_
      refine u_ld (v := .ref l5) (pc := 105) (dec_at lsk_142 (k := 58) rfl) rfl ?_
      refine u_ld (v := iV l8) (pc := 107) (dec_at lsk_142 (k := 59) rfl) rfl ?_
      refine u_ld (v := iV 1) (pc := 109) (dec_at lsk_142 (k := 60) rfl) rfl ?_
      refine u_iadd (pc := 110) (dec_at lsk_142 (k := 61) rfl) ?_
      refine u_ld (v := lV r11) (pc := 111) (dec_at lsk_142 (k := 62) rfl) rfl ?_
      have g12 := h.1
      have h := h.2
      have g13 := h.1
      have h := h.2
      refine u_last (pc := 113) (dec_at lsk_142 (k := 63) rfl) hAl5 g12 g13 (fun u14 e15 => ?_)
      have h := h u14 e15
      refine u_inc (lv' := [.ref l0, .ref l1, .ref l2, iV l3, .retAddr 0, .ref l5, lV r11, .retAddr 0, iV (l8 + 1), iV (u.1 (l0 + 4) ((l3 * 6) + l8)), .retAddr 0, .retAddr 0, .retAddr 0, .retAddr 0]) (pc := 114) (dec_at lsk_142 (k := 64) rfl) rfl (by decide) rfl ?_
      refine u_goto (pc := 117) (tgt := 15) (dec_at lsk_142 (k := 65) rfl) rfl ?_
      exact u_weak (sbK (sbK (sbK (sbK (sbK (sbK (sbK (sbK (sbK (sbD (sbK (sbK (sbK (sbK sb0)))))))))))))) h
    · have h := ifF e9 h
      refine u_cl (x := 0) (pc := 55) (dec_at lsk_142 (k := 30) rfl) rfl (by decide) ?_
      refine u_sto (lv' := [.ref l0, .ref l1, .ref l2, iV l3, .retAddr 0, .ref l5, lV l6, .retAddr 0, iV l8, iV (u.1 (l0 + 4) ((l3 * 6) + l8)), lV 0, .retAddr 0, .retAddr 0, .retAddr 0]) (pc := 56) (dec_at lsk_142 (k := 31) rfl) rfl ?_
      refine u_ld (v := lV l6) (pc := 58) (dec_at lsk_142 (k := 32) rfl) rfl ?_
      refine u_sto (lv' := [.ref l0, .ref l1, .ref l2, iV l3, .retAddr 0, .ref l5, lV l6, .retAddr 0, iV l8, iV (u.1 (l0 + 4) ((l3 * 6) + l8)), lV 0, .retAddr 0, lV l6, .retAddr 0]) (pc := 60) (dec_at lsk_142 (k := 33) rfl) rfl ?_
      exact u_weak (sbK (sbK (sbK (sbK (sbK (sbK (sbD (sbK (sbK (sbK (sbK (sbK (sbK (sbK sb0)))))))))))))) h
  · have h := ifF e5 h
    exact u_rV (pc := 120) (dec_at lsk_142 (k := 66) rfl) rfl h
theorem k_142_62 {d : Nat} {Q : uS → Prop} {u : uS} {l0 l1 l2 l5 : Nat} {l3 l8 l9 l10 l12 : Int} (hOl0 : isO l0 2) (hOl1 : isO l1 5) {nl2 : Nat} (hAl2 : isA l2 1 nl2) {nl5 : Nat} (hAl5 : isA l5 1 nl5) (h : (rL l12) ∧ (if l12 = 0 then ((0 ≤ l8 + 1) ∧ ((l8 + 1 < (nl5 : Int)) ∧ (∀ u5 : uS, u5 = wr u l5 (l8 + 1) l10 → (K_142 (d + 2) 15 [.ref l0, .ref l1, .ref l2, iV l3, .retAddr 0, .ref l5, lV l10, .retAddr 0, iV (l8 + 1), .retAddr 0, .retAddr 0, .retAddr 0, .retAddr 0, .retAddr 0] [] u5 Q)))) else ((0 ≤ ((l9 - 100) * 40) + (ntz l12)) ∧ ((((l9 - 100) * 40) + (ntz l12) < (nl2 : Int)) ∧ (K_142 (d + 2) 62 [.ref l0, .ref l1, .ref l2, iV l3, .retAddr 0, .ref l5, .retAddr 0, .retAddr 0, iV l8, iV l9, lV (lor l10 (u.1 l2 (((l9 - 100) * 40) + (ntz l12)))), .retAddr 0, lV (land l12 (l12 - 1)), .retAddr 0] [] u Q))))) : K_142 (d + 2) 62 [.ref l0, .ref l1, .ref l2, iV l3, .retAddr 0, .ref l5, .retAddr 0, .retAddr 0, iV l8, iV l9, lV l10, .retAddr 0, lV l12, .retAddr 0] [] u Q := by
  unfold K_142
  refine u_ld (v := lV l12) (pc := 62) (dec_at lsk_142 (k := 34) rfl) rfl ?_
  refine u_cl (x := 0) (pc := 64) (dec_at lsk_142 (k := 35) rfl) rfl (by decide) ?_
  refine u_st (st' := [.int (lg_cmp (Int64.ofInt l12) (Int64.ofInt 0))]) (pc := 65) (dec_at lsk_142 (k := 36) rfl) rfl ?_
  have g1 := h.1
  have h := h.2
  refine u_ifT (pc := 66) (tgt := 101) (dec_at lsk_142 (k := 37) rfl) rfl (cl_eq g1 (by decide)) (fun e2 => ?_) (fun e2 => ?_)
  · have h := ifT e2 h
    refine u_ld (v := lV l10) (pc := 101) (dec_at lsk_142 (k := 56) rfl) rfl ?_
    refine u_sto (lv' := [.ref l0, .ref l1, .ref l2, iV l3, .retAddr 0, .ref l5, lV l10, .retAddr 0, iV l8, iV l9, lV l10, .retAddr 0, lV l12, .retAddr 0]) (pc := 103) (dec_at lsk_142 (k := 57) rfl) rfl ?_
    refine u_ld (v := .ref l5) (pc := 105) (dec_at lsk_142 (k := 58) rfl) rfl ?_
    refine u_ld (v := iV l8) (pc := 107) (dec_at lsk_142 (k := 59) rfl) rfl ?_
    refine u_ld (v := iV 1) (pc := 109) (dec_at lsk_142 (k := 60) rfl) rfl ?_
    refine u_iadd (pc := 110) (dec_at lsk_142 (k := 61) rfl) ?_
    refine u_ld (v := lV l10) (pc := 111) (dec_at lsk_142 (k := 62) rfl) rfl ?_
    have g3 := h.1
    have h := h.2
    have g4 := h.1
    have h := h.2
    refine u_last (pc := 113) (dec_at lsk_142 (k := 63) rfl) hAl5 g3 g4 (fun u5 e6 => ?_)
    have h := h u5 e6
    refine u_inc (lv' := [.ref l0, .ref l1, .ref l2, iV l3, .retAddr 0, .ref l5, lV l10, .retAddr 0, iV (l8 + 1), iV l9, lV l10, .retAddr 0, lV l12, .retAddr 0]) (pc := 114) (dec_at lsk_142 (k := 64) rfl) rfl (by decide) rfl ?_
    refine u_goto (pc := 117) (tgt := 15) (dec_at lsk_142 (k := 65) rfl) rfl ?_
    exact u_weak (sbK (sbK (sbK (sbK (sbK (sbK (sbK (sbK (sbK (sbD (sbD (sbK (sbD (sbK sb0)))))))))))))) h
  · have h := ifF e2 h
    refine u_ld (v := lV l10) (pc := 69) (dec_at lsk_142 (k := 38) rfl) rfl ?_
    refine u_ld (v := .ref l2) (pc := 71) (dec_at lsk_142 (k := 39) rfl) rfl ?_
    refine u_ld (v := iV l9) (pc := 72) (dec_at lsk_142 (k := 40) rfl) rfl ?_
    refine u_c (x := 100) (pc := 74) (dec_at lsk_142 (k := 41) rfl) rfl (by decide) ?_
    refine u_isub (pc := 76) (dec_at lsk_142 (k := 42) rfl) ?_
    refine u_ld (v := lV l12) (pc := 77) (dec_at lsk_142 (k := 43) rfl) rfl ?_
    refine u_csI (As := [lV l12]) (st2 := [iV (l9 - 100), .ref l2, lV l10]) (pc := 79) (dec_at lsk_142 (k := 44) rfl) m_0_312 (Or.inl rfl) rfl (Nat.le_of_ble_eq_true rfl) (p_77 ) (fun r_ u_ h_ => ?_)
    rw [h_.1, h_.2]
    refine u_csI (As := [iV (l9 - 100), iV (ntz l12)]) (st2 := [.ref l2, lV l10]) (pc := 82) (dec_at lsk_142 (k := 45) rfl) m_0_321 (Or.inl rfl) rfl (Nat.le_of_ble_eq_true rfl) ?_ (fun _ _ h_ => h_)
    refine u_of me_141 (Nat.le_of_ble_eq_true rfl) ?_
    refine u_ld (v := iV (l9 - 100)) (pc := 0) (dec_at lsk_141 (k := 0) rfl) rfl ?_
    refine u_c (x := 40) (pc := 1) (dec_at lsk_141 (k := 1) rfl) rfl (by decide) ?_
    refine u_imul (pc := 3) (dec_at lsk_141 (k := 2) rfl) ?_
    refine u_ld (v := iV (ntz l12)) (pc := 4) (dec_at lsk_141 (k := 3) rfl) rfl ?_
    refine u_iadd (pc := 5) (dec_at lsk_141 (k := 4) rfl) ?_
    refine u_rI (pc := 6) (dec_at lsk_141 (k := 5) rfl) rfl ?_
    have g7 := h.1
    have h := h.2
    have g8 := h.1
    have h := h.2
    refine u_lald (pc := 85) (dec_at lsk_142 (k := 46) rfl) hAl2 g7 g8 ?_
    refine u_lor (pc := 86) (dec_at lsk_142 (k := 47) rfl) ?_
    refine u_sto (lv' := [.ref l0, .ref l1, .ref l2, iV l3, .retAddr 0, .ref l5, .retAddr 0, .retAddr 0, iV l8, iV l9, lV (lor l10 (u.1 l2 (((l9 - 100) * 40) + (ntz l12)))), .retAddr 0, lV l12, .retAddr 0]) (pc := 87) (dec_at lsk_142 (k := 48) rfl) rfl ?_
    refine u_ld (v := lV l12) (pc := 89) (dec_at lsk_142 (k := 49) rfl) rfl ?_
    refine u_ld (v := lV l12) (pc := 91) (dec_at lsk_142 (k := 50) rfl) rfl ?_
    refine u_cl (x := 1) (pc := 93) (dec_at lsk_142 (k := 51) rfl) rfl (by decide) ?_
    refine u_lsub (pc := 94) (dec_at lsk_142 (k := 52) rfl) ?_
    refine u_land (pc := 95) (dec_at lsk_142 (k := 53) rfl) ?_
    refine u_sto (lv' := [.ref l0, .ref l1, .ref l2, iV l3, .retAddr 0, .ref l5, .retAddr 0, .retAddr 0, iV l8, iV l9, lV (lor l10 (u.1 l2 (((l9 - 100) * 40) + (ntz l12)))), .retAddr 0, lV (land l12 (l12 - 1)), .retAddr 0]) (pc := 96) (dec_at lsk_142 (k := 54) rfl) rfl ?_
    refine u_goto (pc := 98) (tgt := 62) (dec_at lsk_142 (k := 55) rfl) rfl ?_
    exact h
/-- method 175 -/
def K_175 (d pc : Nat) (lv : ev_L) (st : List Value) (u : uS) (Q : Int → uS → Prop) : Prop := okU d 0 2 false (some .long) prog_1_method_16_code (qL Q) pc lv st u
theorem e_175 {d : Nat} {Q : Int → uS → Prop} {u : uS} {l1 : Int} (h : (rI (u.1 231 0)) ∧ (if u.1 231 0 = 0 then (Q (-2) u) else ((rI l1) ∧ (if l1 = 0 then ((0 ≤ u.1 232 3) ∧ ((u.1 232 3 < 16000) ∧ (Q (u.1 244 (u.1 232 3)) u))) else (if l1 = 1 then ((0 ≤ u.1 232 3) ∧ ((u.1 232 3 < 16000) ∧ ((rI (u.1 245 (u.1 232 3))) ∧ (Q (u.1 245 (u.1 232 3)) u)))) else (if l1 = 2 then ((0 ≤ u.1 232 3) ∧ ((u.1 232 3 < 16000) ∧ (Q (u.1 268 (u.1 232 3)) u))) else (if l1 = 3 then ((rI (u.1 232 3)) ∧ ((rI (u.1 232 2)) ∧ (((u.1 232 2) ≠ 0) ∧ ((rI ((u.1 232 3).tmod (u.1 232 2))) ∧ (Q ((u.1 232 3).tmod (u.1 232 2)) u))))) else (Q (-1) u)))))))) : cL (d + 3) 175 [.ref 0, iV l1] u Q := by
  refine u_of me_175 (Nat.le_of_ble_eq_true rfl) ?_
  refine u_ld (v := .ref 0) (pc := 0) (dec_at lsk_175 (k := 0) rfl) rfl ?_
  refine u_gS (o := 231) (p := 231) (pc := 1) (dec_at lsk_175 (k := 1) rfl) f_0_75 sx_0 rfl rfl ?_
  refine u_gZ (z := 0) (pc := 4) (dec_at lsk_175 (k := 2) rfl) f_0_233 sx_231 rfl rfl ?_
  have g1 := h.1
  have h := h.2
  refine u_ifF (pc := 7) (tgt := 14) (dec_at lsk_175 (k := 3) rfl) rfl (c0_ne g1) (fun e2 => ?_) (fun e2 => ?_)
  · have h := ifT e2 h
    refine u_ldc2 (x := (-2)) (pc := 10) (dec_at lsk_175 (k := 4) rfl) con_0_190 (by decide) ?_
    exact u_rL (pc := 13) (dec_at lsk_175 (k := 5) rfl) rfl h
  · have h := ifF e2 h
    refine u_ld (v := iV l1) (pc := 14) (dec_at lsk_175 (k := 6) rfl) rfl ?_
    have g3 := h.1
    have h := h.2
    by_cases e4 : l1 = 0
    · have h := ifT e4 h
      refine u_ts (pc := 15) (tgt := 44) (o := 29) (dec_at lsk_175 (k := 7) rfl) g3 (by omega) (by rw [e4]; rfl) rfl ?_
      refine u_ld (v := .ref 0) (pc := 44) (dec_at lsk_175 (k := 8) rfl) rfl ?_
      refine u_gS (o := 231) (p := 231) (pc := 45) (dec_at lsk_175 (k := 9) rfl) f_0_75 sx_0 rfl rfl ?_
      refine u_cvL (As := []) (rb := 231) (st2 := []) (pc := 48) (dec_at lsk_175 (k := 10) rfl) m_0_257 (Or.inl rfl) rfl (Nat.le_of_ble_eq_true rfl) sx_231 me_176 rfl ?_ (fun _ _ h_ => h_)
      refine u_of me_176 (Nat.le_of_ble_eq_true rfl) ?_
      refine u_ld (v := .ref 231) (pc := 0) (dec_at lsk_176 (k := 0) rfl) rfl ?_
      refine u_gS (o := 1) (p := 232) (pc := 1) (dec_at lsk_176 (k := 1) rfl) f_10_12 sx_231 rfl rfl ?_
      refine u_gS (o := 12) (p := 244) (pc := 4) (dec_at lsk_176 (k := 2) rfl) f_10_49 sx_232 rfl rfl ?_
      refine u_ld (v := .ref 231) (pc := 7) (dec_at lsk_176 (k := 3) rfl) rfl ?_
      refine u_gS (o := 1) (p := 232) (pc := 8) (dec_at lsk_176 (k := 4) rfl) f_10_12 sx_231 rfl rfl ?_
      refine u_gI (z := 3) (pc := 11) (dec_at lsk_176 (k := 5) rfl) f_10_52 sx_232 rfl rfl ?_
      have g5 := h.1
      have h := h.2
      have g6 := h.1
      have h := h.2
      refine u_lald (pc := 14) (dec_at lsk_176 (k := 6) rfl) sx_244 g5 g6 ?_
      refine u_rL (pc := 15) (dec_at lsk_176 (k := 7) rfl) rfl ?_
      exact u_rL (pc := 51) (dec_at lsk_175 (k := 11) rfl) rfl h
    · have h := ifF e4 h
      by_cases e7 : l1 = 1
      · have h := ifT e7 h
        refine u_ts (pc := 15) (tgt := 52) (o := 37) (dec_at lsk_175 (k := 7) rfl) g3 (by omega) (by rw [e7]; rfl) rfl ?_
        refine u_ld (v := .ref 0) (pc := 52) (dec_at lsk_175 (k := 12) rfl) rfl ?_
        refine u_gS (o := 231) (p := 231) (pc := 53) (dec_at lsk_175 (k := 13) rfl) f_0_75 sx_0 rfl rfl ?_
        refine u_cvL (As := []) (rb := 231) (st2 := []) (pc := 56) (dec_at lsk_175 (k := 14) rfl) m_0_261 (Or.inl rfl) rfl (Nat.le_of_ble_eq_true rfl) sx_231 me_177 rfl ?_ (fun _ _ h_ => h_)
        refine u_of me_177 (Nat.le_of_ble_eq_true rfl) ?_
        refine u_ld (v := .ref 231) (pc := 0) (dec_at lsk_177 (k := 0) rfl) rfl ?_
        refine u_gS (o := 1) (p := 232) (pc := 1) (dec_at lsk_177 (k := 1) rfl) f_10_12 sx_231 rfl rfl ?_
        refine u_gS (o := 13) (p := 245) (pc := 4) (dec_at lsk_177 (k := 2) rfl) f_10_56 sx_232 rfl rfl ?_
        refine u_ld (v := .ref 231) (pc := 7) (dec_at lsk_177 (k := 3) rfl) rfl ?_
        refine u_gS (o := 1) (p := 232) (pc := 8) (dec_at lsk_177 (k := 4) rfl) f_10_12 sx_231 rfl rfl ?_
        refine u_gI (z := 3) (pc := 11) (dec_at lsk_177 (k := 5) rfl) f_10_52 sx_232 rfl rfl ?_
        have g8 := h.1
        have h := h.2
        have g9 := h.1
        have h := h.2
        refine u_iald (pc := 14) (dec_at lsk_177 (k := 6) rfl) sx_245 g8 g9 ?_
        have g10 := h.1
        have h := h.2
        refine u_i2l (pc := 15) (dec_at lsk_177 (k := 7) rfl) g10 ?_
        refine u_rL (pc := 16) (dec_at lsk_177 (k := 8) rfl) rfl ?_
        exact u_rL (pc := 59) (dec_at lsk_175 (k := 15) rfl) rfl h
      · have h := ifF e7 h
        by_cases e11 : l1 = 2
        · have h := ifT e11 h
          refine u_ts (pc := 15) (tgt := 60) (o := 45) (dec_at lsk_175 (k := 7) rfl) g3 (by omega) (by rw [e11]; rfl) rfl ?_
          refine u_ld (v := .ref 0) (pc := 60) (dec_at lsk_175 (k := 16) rfl) rfl ?_
          refine u_gS (o := 231) (p := 231) (pc := 61) (dec_at lsk_175 (k := 17) rfl) f_0_75 sx_0 rfl rfl ?_
          refine u_cvL (As := []) (rb := 231) (st2 := []) (pc := 64) (dec_at lsk_175 (k := 18) rfl) m_0_264 (Or.inl rfl) rfl (Nat.le_of_ble_eq_true rfl) sx_231 me_178 rfl ?_ (fun _ _ h_ => h_)
          refine u_of me_178 (Nat.le_of_ble_eq_true rfl) ?_
          refine u_ld (v := .ref 231) (pc := 0) (dec_at lsk_178 (k := 0) rfl) rfl ?_
          refine u_gS (o := 37) (p := 268) (pc := 1) (dec_at lsk_178 (k := 1) rfl) f_10_39 sx_231 rfl rfl ?_
          refine u_ld (v := .ref 231) (pc := 4) (dec_at lsk_178 (k := 2) rfl) rfl ?_
          refine u_gS (o := 1) (p := 232) (pc := 5) (dec_at lsk_178 (k := 3) rfl) f_10_12 sx_231 rfl rfl ?_
          refine u_gI (z := 3) (pc := 8) (dec_at lsk_178 (k := 4) rfl) f_10_52 sx_232 rfl rfl ?_
          have g12 := h.1
          have h := h.2
          have g13 := h.1
          have h := h.2
          refine u_lald (pc := 11) (dec_at lsk_178 (k := 5) rfl) sx_268 g12 g13 ?_
          refine u_rL (pc := 12) (dec_at lsk_178 (k := 6) rfl) rfl ?_
          exact u_rL (pc := 67) (dec_at lsk_175 (k := 19) rfl) rfl h
        · have h := ifF e11 h
          by_cases e14 : l1 = 3
          · have h := ifT e14 h
            refine u_ts (pc := 15) (tgt := 68) (o := 53) (dec_at lsk_175 (k := 7) rfl) g3 (by omega) (by rw [e14]; rfl) rfl ?_
            refine u_ld (v := .ref 0) (pc := 68) (dec_at lsk_175 (k := 20) rfl) rfl ?_
            refine u_gS (o := 231) (p := 231) (pc := 69) (dec_at lsk_175 (k := 21) rfl) f_0_75 sx_0 rfl rfl ?_
            refine u_cvL (As := []) (rb := 231) (st2 := []) (pc := 72) (dec_at lsk_175 (k := 22) rfl) m_0_267 (Or.inl rfl) rfl (Nat.le_of_ble_eq_true rfl) sx_231 me_179 rfl ?_ (fun _ _ h_ => h_)
            refine u_of me_179 (Nat.le_of_ble_eq_true rfl) ?_
            refine u_ld (v := .ref 231) (pc := 0) (dec_at lsk_179 (k := 0) rfl) rfl ?_
            refine u_gS (o := 1) (p := 232) (pc := 1) (dec_at lsk_179 (k := 1) rfl) f_10_12 sx_231 rfl rfl ?_
            refine u_ld (v := .ref 231) (pc := 4) (dec_at lsk_179 (k := 2) rfl) rfl ?_
            refine u_gS (o := 1) (p := 232) (pc := 5) (dec_at lsk_179 (k := 3) rfl) f_10_12 sx_231 rfl rfl ?_
            refine u_gI (z := 3) (pc := 8) (dec_at lsk_179 (k := 4) rfl) f_10_52 sx_232 rfl rfl ?_
            refine u_cvI (As := [iV (u.1 232 3)]) (rb := 232) (st2 := []) (pc := 11) (dec_at lsk_179 (k := 5) rfl) m_10_59 (Or.inl rfl) rfl (Nat.le_of_ble_eq_true rfl) sx_232 me_151 rfl ?_ (fun _ _ h_ => h_)
            refine u_of me_151 (Nat.le_of_ble_eq_true rfl) ?_
            refine u_ld (v := iV (u.1 232 3)) (pc := 0) (dec_at lsk_151 (k := 0) rfl) rfl ?_
            refine u_ld (v := .ref 232) (pc := 1) (dec_at lsk_151 (k := 1) rfl) rfl ?_
            refine u_gI (z := 2) (pc := 2) (dec_at lsk_151 (k := 2) rfl) f_11_25 sx_232 rfl rfl ?_
            have g15 := h.1
            have h := h.2
            have g16 := h.1
            have h := h.2
            have g17 := h.1
            have h := h.2
            refine u_irem (pc := 5) (dec_at lsk_151 (k := 3) rfl) g15 g16 g17 ?_
            refine u_rI (pc := 6) (dec_at lsk_151 (k := 4) rfl) rfl ?_
            have g18 := h.1
            have h := h.2
            refine u_i2l (pc := 14) (dec_at lsk_179 (k := 6) rfl) g18 ?_
            refine u_rL (pc := 15) (dec_at lsk_179 (k := 7) rfl) rfl ?_
            exact u_rL (pc := 75) (dec_at lsk_175 (k := 23) rfl) rfl h
          · have h := ifF e14 h
            refine u_td (pc := 15) (tgt := 76) (dec_at lsk_175 (k := 7) rfl) g3 (by omega) rfl ?_
            refine u_ldc2 (x := (-1)) (pc := 76) (dec_at lsk_175 (k := 24) rfl) con_0_170 (by decide) ?_
            exact u_rL (pc := 79) (dec_at lsk_175 (k := 25) rfl) rfl h
/-- method 180 -/
def K_180 (d pc : Nat) (lv : ev_L) (st : List Value) (u : uS) (Q : Int → uS → Prop) : Prop := okU d 0 3 false (some .int) prog_1_method_17_code (qI Q) pc lv st u
theorem e_180 {d : Nat} {Q : Int → uS → Prop} {u : uS} {l1 : Int} (h : (rI (u.1 231 0)) ∧ (if u.1 231 0 = 0 then (Q (-2) u) else (cI d 181 [.ref 231, lV l1] u (fun r4 u3 => Q r4 u3)))) : cI (d + 1) 180 [.ref 0, lV l1] u Q := by
  refine u_of me_180 (Nat.le_of_ble_eq_true rfl) ?_
  refine u_ld (v := .ref 0) (pc := 0) (dec_at lsk_180 (k := 0) rfl) rfl ?_
  refine u_gS (o := 231) (p := 231) (pc := 1) (dec_at lsk_180 (k := 1) rfl) f_0_75 sx_0 rfl rfl ?_
  refine u_gZ (z := 0) (pc := 4) (dec_at lsk_180 (k := 2) rfl) f_0_233 sx_231 rfl rfl ?_
  have g1 := h.1
  have h := h.2
  refine u_ifT (pc := 7) (tgt := 21) (dec_at lsk_180 (k := 3) rfl) rfl (c0_eq g1) (fun e2 => ?_) (fun e2 => ?_)
  · have h := ifT e2 h
    refine u_c (x := (-2)) (pc := 21) (dec_at lsk_180 (k := 9) rfl) rfl (by decide) ?_
    exact u_rI (pc := 23) (dec_at lsk_180 (k := 10) rfl) rfl h
  · have h := ifF e2 h
    refine u_ld (v := .ref 0) (pc := 10) (dec_at lsk_180 (k := 4) rfl) rfl ?_
    refine u_gS (o := 231) (p := 231) (pc := 11) (dec_at lsk_180 (k := 5) rfl) f_0_75 sx_0 rfl rfl ?_
    refine u_ld (v := lV l1) (pc := 14) (dec_at lsk_180 (k := 6) rfl) rfl ?_
    refine u_cvI (As := [lV l1]) (rb := 231) (st2 := []) (pc := 15) (dec_at lsk_180 (k := 7) rfl) m_0_270 (Or.inl rfl) rfl (Nat.le_of_ble_eq_true rfl) sx_231 me_181 rfl h (fun r4 u3 h => ?_)
    refine u_goto (pc := 18) (tgt := 23) (dec_at lsk_180 (k := 8) rfl) rfl ?_
    exact u_rI (pc := 23) (dec_at lsk_180 (k := 10) rfl) rfl h
/-- method 183 -/
def K_183 (d pc : Nat) (lv : ev_L) (st : List Value) (u : uS) (Q : Int → uS → Prop) : Prop := okU d 0 4 false (some .long) prog_1_method_18_code (qL Q) pc lv st u
theorem e_183 {d : Nat} {Q : Int → uS → Prop} {u : uS} {l1 l3 : Int} (h : (rI (u.1 231 0)) ∧ (if u.1 231 0 = 0 then (Q (-2) u) else (cL d 184 [.ref 231, lV l1, iV l3] u (fun r4 u3 => Q r4 u3)))) : cL (d + 1) 183 [.ref 0, lV l1, iV l3] u Q := by
  refine u_of me_183 (Nat.le_of_ble_eq_true rfl) ?_
  refine u_ld (v := .ref 0) (pc := 0) (dec_at lsk_183 (k := 0) rfl) rfl ?_
  refine u_gS (o := 231) (p := 231) (pc := 1) (dec_at lsk_183 (k := 1) rfl) f_0_75 sx_0 rfl rfl ?_
  refine u_gZ (z := 0) (pc := 4) (dec_at lsk_183 (k := 2) rfl) f_0_233 sx_231 rfl rfl ?_
  have g1 := h.1
  have h := h.2
  refine u_ifT (pc := 7) (tgt := 22) (dec_at lsk_183 (k := 3) rfl) rfl (c0_eq g1) (fun e2 => ?_) (fun e2 => ?_)
  · have h := ifT e2 h
    refine u_ldc2 (x := (-2)) (pc := 22) (dec_at lsk_183 (k := 10) rfl) con_0_190 (by decide) ?_
    exact u_rL (pc := 25) (dec_at lsk_183 (k := 11) rfl) rfl h
  · have h := ifF e2 h
    refine u_ld (v := .ref 0) (pc := 10) (dec_at lsk_183 (k := 4) rfl) rfl ?_
    refine u_gS (o := 231) (p := 231) (pc := 11) (dec_at lsk_183 (k := 5) rfl) f_0_75 sx_0 rfl rfl ?_
    refine u_ld (v := lV l1) (pc := 14) (dec_at lsk_183 (k := 6) rfl) rfl ?_
    refine u_ld (v := iV l3) (pc := 15) (dec_at lsk_183 (k := 7) rfl) rfl ?_
    refine u_cvL (As := [lV l1, iV l3]) (rb := 231) (st2 := []) (pc := 16) (dec_at lsk_183 (k := 8) rfl) m_0_274 (Or.inl rfl) rfl (Nat.le_of_ble_eq_true rfl) sx_231 me_184 rfl h (fun r4 u3 h => ?_)
    refine u_goto (pc := 19) (tgt := 25) (dec_at lsk_183 (k := 9) rfl) rfl ?_
    exact u_rL (pc := 25) (dec_at lsk_183 (k := 11) rfl) rfl h
/-- method 187 -/
def K_187 (d pc : Nat) (lv : ev_L) (st : List Value) (u : uS) (Q : Int → uS → Prop) : Prop := okU d 0 3 false (some .int) prog_1_method_19_code (qI Q) pc lv st u
theorem e_187 {d : Nat} {Q : Int → uS → Prop} {u : uS} (h : (rI (u.1 231 0)) ∧ (if u.1 231 0 = 0 then (Q (-2) u) else ((0 ≤ u.1 232 3) ∧ ((u.1 232 3 < 16000) ∧ ((rL (u.1 244 (u.1 232 3))) ∧ (K_187 (d + 2) 30 [.ref 0, iV (wI (min 40 (u.1 244 (u.1 232 3)))), iV 0] [] u Q)))))) : cI (d + 3) 187 [.ref 0] u Q := by
  refine u_of me_187 (Nat.le_of_ble_eq_true rfl) ?_
  refine u_ld (v := .ref 0) (pc := 0) (dec_at lsk_187 (k := 0) rfl) rfl ?_
  refine u_gS (o := 231) (p := 231) (pc := 1) (dec_at lsk_187 (k := 1) rfl) f_0_75 sx_0 rfl rfl ?_
  refine u_gZ (z := 0) (pc := 4) (dec_at lsk_187 (k := 2) rfl) f_0_233 sx_231 rfl rfl ?_
  have g1 := h.1
  have h := h.2
  refine u_ifF (pc := 7) (tgt := 13) (dec_at lsk_187 (k := 3) rfl) rfl (c0_ne g1) (fun e2 => ?_) (fun e2 => ?_)
  · have h := ifT e2 h
    refine u_c (x := (-2)) (pc := 10) (dec_at lsk_187 (k := 4) rfl) rfl (by decide) ?_
    exact u_rI (pc := 12) (dec_at lsk_187 (k := 5) rfl) rfl h
  · have h := ifF e2 h
    refine u_ldc2 (x := 40) (pc := 13) (dec_at lsk_187 (k := 6) rfl) con_0_278 (by decide) ?_
    refine u_ld (v := .ref 0) (pc := 16) (dec_at lsk_187 (k := 7) rfl) rfl ?_
    refine u_gS (o := 231) (p := 231) (pc := 17) (dec_at lsk_187 (k := 8) rfl) f_0_75 sx_0 rfl rfl ?_
    refine u_cvL (As := []) (rb := 231) (st2 := [lV 40]) (pc := 20) (dec_at lsk_187 (k := 9) rfl) m_0_257 (Or.inl rfl) rfl (Nat.le_of_ble_eq_true rfl) sx_231 me_176 rfl ?_ (fun _ _ h_ => h_)
    refine u_of me_176 (Nat.le_of_ble_eq_true rfl) ?_
    refine u_ld (v := .ref 231) (pc := 0) (dec_at lsk_176 (k := 0) rfl) rfl ?_
    refine u_gS (o := 1) (p := 232) (pc := 1) (dec_at lsk_176 (k := 1) rfl) f_10_12 sx_231 rfl rfl ?_
    refine u_gS (o := 12) (p := 244) (pc := 4) (dec_at lsk_176 (k := 2) rfl) f_10_49 sx_232 rfl rfl ?_
    refine u_ld (v := .ref 231) (pc := 7) (dec_at lsk_176 (k := 3) rfl) rfl ?_
    refine u_gS (o := 1) (p := 232) (pc := 8) (dec_at lsk_176 (k := 4) rfl) f_10_12 sx_231 rfl rfl ?_
    refine u_gI (z := 3) (pc := 11) (dec_at lsk_176 (k := 5) rfl) f_10_52 sx_232 rfl rfl ?_
    have g3 := h.1
    have h := h.2
    have g4 := h.1
    have h := h.2
    refine u_lald (pc := 14) (dec_at lsk_176 (k := 6) rfl) sx_244 g3 g4 ?_
    refine u_rL (pc := 15) (dec_at lsk_176 (k := 7) rfl) rfl ?_
    have g5 := h.1
    have h := h.2
    refine u_minL (pc := 23) (dec_at lsk_187 (k := 10) rfl) m_0_280 (by decide) g5 (Nat.le_of_ble_eq_true rfl) ?_
    refine u_l2w (pc := 26) (dec_at lsk_187 (k := 11) rfl) ?_
    refine u_sto (lv' := [.ref 0, iV (wI (min 40 (u.1 244 (u.1 232 3)))), .retAddr 0]) (pc := 27) (dec_at lsk_187 (k := 12) rfl) rfl ?_
    refine u_ld (v := iV 0) (pc := 28) (dec_at lsk_187 (k := 13) rfl) rfl ?_
    refine u_sto (lv' := [.ref 0, iV (wI (min 40 (u.1 244 (u.1 232 3)))), iV 0]) (pc := 29) (dec_at lsk_187 (k := 14) rfl) rfl ?_
    exact h
theorem k_187_30 {d : Nat} {Q : Int → uS → Prop} {u : uS} {l1 l2 : Int} (h : (rI l2) ∧ ((rI l1) ∧ (if l2 < l1 then (cI (d + 2) 181 [.ref 231, lV l2] u (fun r5 u4 => (0 ≤ l2) ∧ ((l2 < 40) ∧ (∀ u8 : uS, u8 = wr u4 5 l2 r5 → (K_187 (d + 2) 30 [.ref 0, iV l1, iV (l2 + 1)] [] u8 Q))))) else (∀ u10 : uS, u10 = wr u 0 2 l1 → (∀ u12 : uS, u12 = wr u10 36 16 0 → (Q l1 u12)))))) : K_187 (d + 2) 30 [.ref 0, iV l1, iV l2] [] u Q := by
  unfold K_187
  refine u_ld (v := iV l2) (pc := 30) (dec_at lsk_187 (k := 15) rfl) rfl ?_
  refine u_ld (v := iV l1) (pc := 31) (dec_at lsk_187 (k := 16) rfl) rfl ?_
  have g1 := h.1
  have h := h.2
  have g2 := h.1
  have h := h.2
  refine u_icF (pc := 32) (tgt := 56) (dec_at lsk_187 (k := 17) rfl) rfl (ci_ge g1 g2) (fun e3 => ?_) (fun e3 => ?_)
  · have h := ifT e3 h
    refine u_ld (v := .ref 0) (pc := 35) (dec_at lsk_187 (k := 18) rfl) rfl ?_
    refine u_gS (o := 5) (p := 5) (pc := 36) (dec_at lsk_187 (k := 19) rfl) f_0_16 sx_0 rfl rfl ?_
    refine u_ld (v := iV l2) (pc := 39) (dec_at lsk_187 (k := 20) rfl) rfl ?_
    refine u_ld (v := .ref 0) (pc := 40) (dec_at lsk_187 (k := 21) rfl) rfl ?_
    refine u_gS (o := 231) (p := 231) (pc := 41) (dec_at lsk_187 (k := 22) rfl) f_0_75 sx_0 rfl rfl ?_
    refine u_ld (v := iV l2) (pc := 44) (dec_at lsk_187 (k := 23) rfl) rfl ?_
    refine u_i2l (pc := 45) (dec_at lsk_187 (k := 24) rfl) g1 ?_
    refine u_cvI (As := [lV l2]) (rb := 231) (st2 := [iV l2, .ref 5]) (pc := 46) (dec_at lsk_187 (k := 25) rfl) m_0_270 (Or.inl rfl) rfl (Nat.le_of_ble_eq_true rfl) sx_231 me_181 rfl h (fun r5 u4 h => ?_)
    have g6 := h.1
    have h := h.2
    have g7 := h.1
    have h := h.2
    refine u_iast (pc := 49) (dec_at lsk_187 (k := 26) rfl) sx_5 g6 g7 (fun u8 e9 => ?_)
    have h := h u8 e9
    refine u_inc (lv' := [.ref 0, iV l1, iV (l2 + 1)]) (pc := 50) (dec_at lsk_187 (k := 27) rfl) rfl (by decide) rfl ?_
    refine u_goto (pc := 53) (tgt := 30) (dec_at lsk_187 (k := 28) rfl) rfl ?_
    exact h
  · have h := ifF e3 h
    refine u_ld (v := .ref 0) (pc := 56) (dec_at lsk_187 (k := 29) rfl) rfl ?_
    refine u_ld (v := iV l1) (pc := 57) (dec_at lsk_187 (k := 30) rfl) rfl ?_
    refine u_cvI (As := [iV l1]) (rb := 0) (st2 := []) (pc := 58) (dec_at lsk_187 (k := 31) rfl) m_0_103 (Or.inl rfl) rfl (Nat.le_of_ble_eq_true rfl) sx_0 me_25 rfl ?_ (fun _ _ h_ => h_)
    refine u_of me_25 (Nat.le_of_ble_eq_true rfl) ?_
    refine u_ld (v := .ref 0) (pc := 0) (dec_at lsk_25 (k := 0) rfl) rfl ?_
    refine u_ld (v := iV l1) (pc := 1) (dec_at lsk_25 (k := 1) rfl) rfl ?_
    refine u_pI (z := 2) (pc := 2) (dec_at lsk_25 (k := 2) rfl) f_0_154 sx_0 rfl rfl rfl rfl (fun u10 e11 => ?_)
    have h := h u10 e11
    refine u_ld (v := .ref 0) (pc := 5) (dec_at lsk_25 (k := 3) rfl) rfl ?_
    refine u_gS (o := 36) (p := 36) (pc := 6) (dec_at lsk_25 (k := 4) rfl) f_0_40 sx_0 rfl rfl ?_
    refine u_cvV (As := []) (rb := 36) (st2 := []) (pc := 9) (dec_at lsk_25 (k := 5) rfl) m_0_301 (Or.inl rfl) rfl (Nat.le_of_ble_eq_true rfl) sx_36 me_26 rfl ?_ (fun _ h_ => h_)
    refine u_of me_26 (Nat.le_of_ble_eq_true rfl) ?_
    refine u_ld (v := .ref 36) (pc := 0) (dec_at lsk_26 (k := 0) rfl) rfl ?_
    refine u_ld (v := iV 0) (pc := 1) (dec_at lsk_26 (k := 1) rfl) rfl ?_
    refine u_pZ (z := 16) (pc := 2) (dec_at lsk_26 (k := 2) rfl) f_4_56 sx_36 rfl rfl rfl rfl (by decide) (fun u12 e13 => ?_)
    have h := h u12 e13
    refine u_rV (pc := 5) (dec_at lsk_26 (k := 3) rfl) rfl ?_
    refine u_ld (v := iV l1) (pc := 12) (dec_at lsk_25 (k := 6) rfl) rfl ?_
    refine u_rI (pc := 13) (dec_at lsk_25 (k := 7) rfl) rfl ?_
    exact u_rI (pc := 61) (dec_at lsk_187 (k := 32) rfl) rfl h
/-- method 188 -/
def K_188 (d pc : Nat) (lv : ev_L) (st : List Value) (u : uS) (Q : Int → uS → Prop) : Prop := okU d 0 4 false (some .long) prog_1_method_20_code (qL Q) pc lv st u
theorem e_188 {d : Nat} {Q : Int → uS → Prop} {u : uS} {l1 l2 : Int} (h : (rI (u.1 6 1)) ∧ (if 0 < u.1 6 1 then ((rI l1) ∧ (if l1 < 0 then (Q (-1) u) else (if l1 < 2 then (cV (d + 1) 139 [.ref (193 + 19 * l1.toNat), .ref 6, .ref (59 + 2 * l1.toNat)] u (fun u6 => (rI l2) ∧ (if l2 = 0 then (cL (d + 1) 189 [.ref (193 + 19 * l1.toNat)] u6 (fun r10 u9 => Q r10 u9)) else (if l2 = 1 then (cL (d + 1) 192 [.ref (193 + 19 * l1.toNat)] u6 (fun r13 u12 => Q r13 u12)) else (if l2 = 2 then (cL (d + 1) 196 [.ref (193 + 19 * l1.toNat)] u6 (fun r16 u15 => Q r16 u15)) else (Q (-1) u6)))))) else (Q (-1) u)))) else (Q (-1) u))) : cL (d + 2) 188 [.ref 0, iV l1, iV l2] u Q := by
  refine u_of me_188 (Nat.le_of_ble_eq_true rfl) ?_
  refine u_ld (v := .ref 0) (pc := 0) (dec_at lsk_188 (k := 0) rfl) rfl ?_
  refine u_cvI (As := []) (rb := 0) (st2 := []) (pc := 1) (dec_at lsk_188 (k := 1) rfl) m_0_206 (Or.inl rfl) rfl (Nat.le_of_ble_eq_true rfl) sx_0 me_125 rfl ?_ (fun _ _ h_ => h_)
  refine u_of me_125 (Nat.le_of_ble_eq_true rfl) ?_
  refine u_ld (v := .ref 0) (pc := 0) (dec_at lsk_125 (k := 0) rfl) rfl ?_
  refine u_gS (o := 6) (p := 6) (pc := 1) (dec_at lsk_125 (k := 1) rfl) f_0_23 sx_0 rfl rfl ?_
  refine u_gI (z := 1) (pc := 4) (dec_at lsk_125 (k := 2) rfl) f_0_124 sx_6 rfl rfl ?_
  have g1 := h.1
  have h := h.2
  refine u_ifF (pc := 7) (tgt := 14) (dec_at lsk_125 (k := 3) rfl) rfl (c0_le g1) (fun e2 => ?_) (fun e2 => ?_)
  · have h := ifT e2 h
    refine u_ld (v := iV 1) (pc := 10) (dec_at lsk_125 (k := 4) rfl) rfl ?_
    refine u_goto (pc := 11) (tgt := 15) (dec_at lsk_125 (k := 5) rfl) rfl ?_
    refine u_rZ (pc := 15) (dec_at lsk_125 (k := 7) rfl) rfl (by decide) ?_
    refine u_ifT (pc := 4) (tgt := 14) (dec_at lsk_188 (k := 2) rfl) rfl (c0_eq (by decide)) (fun e => absurd e (by decide)) (fun _ => ?_)
    refine u_ld (v := iV l1) (pc := 7) (dec_at lsk_188 (k := 3) rfl) rfl ?_
    refine u_csI (As := [iV l1]) (st2 := []) (pc := 8) (dec_at lsk_188 (k := 4) rfl) m_0_126 (Or.inl rfl) rfl (Nat.le_of_ble_eq_true rfl) ?_ (fun _ _ h_ => h_)
    refine u_of me_63 (Nat.le_of_ble_eq_true rfl) ?_
    refine u_ld (v := iV l1) (pc := 0) (dec_at lsk_63 (k := 0) rfl) rfl ?_
    have g3 := h.1
    have h := h.2
    refine u_ifT (pc := 1) (tgt := 13) (dec_at lsk_63 (k := 1) rfl) rfl (c0_lt g3) (fun e4 => ?_) (fun e4 => ?_)
    · have h := ifT e4 h
      refine u_ld (v := iV 0) (pc := 13) (dec_at lsk_63 (k := 7) rfl) rfl ?_
      refine u_rZ (pc := 14) (dec_at lsk_63 (k := 8) rfl) rfl (by decide) ?_
      refine u_ifF (pc := 11) (tgt := 18) (dec_at lsk_188 (k := 5) rfl) rfl (c0_ne (by decide)) (fun _ => ?_) (fun e => absurd e (by decide))
      refine u_ldc2 (x := (-1)) (pc := 14) (dec_at lsk_188 (k := 6) rfl) con_0_170 (by decide) ?_
      exact u_rL (pc := 17) (dec_at lsk_188 (k := 7) rfl) rfl h
    · have h := ifF e4 h
      refine u_ld (v := iV l1) (pc := 4) (dec_at lsk_63 (k := 2) rfl) rfl ?_
      refine u_ld (v := iV 2) (pc := 5) (dec_at lsk_63 (k := 3) rfl) rfl ?_
      refine u_icF (pc := 6) (tgt := 13) (dec_at lsk_63 (k := 4) rfl) rfl (ci_ge g3 (by decide)) (fun e5 => ?_) (fun e5 => ?_)
      · have h := ifT e5 h
        refine u_ld (v := iV 1) (pc := 9) (dec_at lsk_63 (k := 5) rfl) rfl ?_
        refine u_goto (pc := 10) (tgt := 14) (dec_at lsk_63 (k := 6) rfl) rfl ?_
        refine u_rZ (pc := 14) (dec_at lsk_63 (k := 8) rfl) rfl (by decide) ?_
        refine u_ifF (pc := 11) (tgt := 18) (dec_at lsk_188 (k := 5) rfl) rfl (c0_ne (by decide)) (fun e => absurd e (by decide)) (fun _ => ?_)
        refine u_ld (v := .ref 0) (pc := 18) (dec_at lsk_188 (k := 8) rfl) rfl ?_
        refine u_gS (o := 192) (p := 192) (pc := 19) (dec_at lsk_188 (k := 9) rfl) f_0_68 sx_0 rfl rfl ?_
        refine u_ld (v := iV l1) (pc := 22) (dec_at lsk_188 (k := 10) rfl) rfl ?_
        refine u_aald4 (r := 193 + 19 * l1.toNat) (pc := 23) (dec_at lsk_188 (k := 11) rfl) sx_192 (Int.not_lt.mp e4) e5 rfl ?_
        refine u_sto (lv' := [.ref 0, iV l1, iV l2, .ref (193 + 19 * l1.toNat)]) (pc := 24) (dec_at lsk_188 (k := 12) rfl) rfl ?_
        refine u_ld (v := .ref (193 + 19 * l1.toNat)) (pc := 25) (dec_at lsk_188 (k := 13) rfl) rfl ?_
        refine u_ld (v := .ref 0) (pc := 26) (dec_at lsk_188 (k := 14) rfl) rfl ?_
        refine u_gS (o := 6) (p := 6) (pc := 27) (dec_at lsk_188 (k := 15) rfl) f_0_23 sx_0 rfl rfl ?_
        refine u_ld (v := .ref 0) (pc := 30) (dec_at lsk_188 (k := 16) rfl) rfl ?_
        refine u_gS (o := 58) (p := 58) (pc := 31) (dec_at lsk_188 (k := 17) rfl) f_0_47 sx_0 rfl rfl ?_
        refine u_ld (v := iV l1) (pc := 34) (dec_at lsk_188 (k := 18) rfl) rfl ?_
        refine u_aald3 (r := 59 + 2 * l1.toNat) (pc := 35) (dec_at lsk_188 (k := 19) rfl) sx_58 (Int.not_lt.mp e4) e5 rfl ?_
        refine u_cvV (As := [.ref 6, .ref (59 + 2 * l1.toNat)]) (rb := 193 + 19 * l1.toNat) (st2 := []) (pc := 36) (dec_at lsk_188 (k := 20) rfl) m_0_286 (Or.inl rfl) rfl (Nat.le_of_ble_eq_true rfl) (sr_192 (Int.not_lt.mp e4) e5) me_139 rfl h (fun u6 h => ?_)
        refine u_ld (v := iV l2) (pc := 39) (dec_at lsk_188 (k := 21) rfl) rfl ?_
        have g7 := h.1
        have h := h.2
        by_cases e8 : l2 = 0
        · have h := ifT e8 h
          refine u_ts (pc := 40) (tgt := 68) (o := 28) (dec_at lsk_188 (k := 22) rfl) g7 (by omega) (by rw [e8]; rfl) rfl ?_
          refine u_ld (v := .ref (193 + 19 * l1.toNat)) (pc := 68) (dec_at lsk_188 (k := 23) rfl) rfl ?_
          refine u_cvL (As := []) (rb := 193 + 19 * l1.toNat) (st2 := []) (pc := 69) (dec_at lsk_188 (k := 24) rfl) m_0_289 (Or.inl rfl) rfl (Nat.le_of_ble_eq_true rfl) (sr_192 (Int.not_lt.mp e4) e5) me_189 rfl h (fun r10 u9 h => ?_)
          exact u_rL (pc := 72) (dec_at lsk_188 (k := 25) rfl) rfl h
        · have h := ifF e8 h
          by_cases e11 : l2 = 1
          · have h := ifT e11 h
            refine u_ts (pc := 40) (tgt := 73) (o := 33) (dec_at lsk_188 (k := 22) rfl) g7 (by omega) (by rw [e11]; rfl) rfl ?_
            refine u_ld (v := .ref (193 + 19 * l1.toNat)) (pc := 73) (dec_at lsk_188 (k := 26) rfl) rfl ?_
            refine u_cvL (As := []) (rb := 193 + 19 * l1.toNat) (st2 := []) (pc := 74) (dec_at lsk_188 (k := 27) rfl) m_0_292 (Or.inl rfl) rfl (Nat.le_of_ble_eq_true rfl) (sr_192 (Int.not_lt.mp e4) e5) me_192 rfl h (fun r13 u12 h => ?_)
            exact u_rL (pc := 77) (dec_at lsk_188 (k := 28) rfl) rfl h
          · have h := ifF e11 h
            by_cases e14 : l2 = 2
            · have h := ifT e14 h
              refine u_ts (pc := 40) (tgt := 78) (o := 38) (dec_at lsk_188 (k := 22) rfl) g7 (by omega) (by rw [e14]; rfl) rfl ?_
              refine u_ld (v := .ref (193 + 19 * l1.toNat)) (pc := 78) (dec_at lsk_188 (k := 29) rfl) rfl ?_
              refine u_cvL (As := []) (rb := 193 + 19 * l1.toNat) (st2 := []) (pc := 79) (dec_at lsk_188 (k := 30) rfl) m_0_295 (Or.inl rfl) rfl (Nat.le_of_ble_eq_true rfl) (sr_192 (Int.not_lt.mp e4) e5) me_196 rfl h (fun r16 u15 h => ?_)
              exact u_rL (pc := 82) (dec_at lsk_188 (k := 31) rfl) rfl h
            · have h := ifF e14 h
              refine u_td (pc := 40) (tgt := 83) (dec_at lsk_188 (k := 22) rfl) g7 (by omega) rfl ?_
              refine u_ldc2 (x := (-1)) (pc := 83) (dec_at lsk_188 (k := 32) rfl) con_0_170 (by decide) ?_
              exact u_rL (pc := 86) (dec_at lsk_188 (k := 33) rfl) rfl h
      · have h := ifF e5 h
        refine u_ld (v := iV 0) (pc := 13) (dec_at lsk_63 (k := 7) rfl) rfl ?_
        refine u_rZ (pc := 14) (dec_at lsk_63 (k := 8) rfl) rfl (by decide) ?_
        refine u_ifF (pc := 11) (tgt := 18) (dec_at lsk_188 (k := 5) rfl) rfl (c0_ne (by decide)) (fun _ => ?_) (fun e => absurd e (by decide))
        refine u_ldc2 (x := (-1)) (pc := 14) (dec_at lsk_188 (k := 6) rfl) con_0_170 (by decide) ?_
        exact u_rL (pc := 17) (dec_at lsk_188 (k := 7) rfl) rfl h
  · have h := ifF e2 h
    refine u_ld (v := iV 0) (pc := 14) (dec_at lsk_125 (k := 6) rfl) rfl ?_
    refine u_rZ (pc := 15) (dec_at lsk_125 (k := 7) rfl) rfl (by decide) ?_
    refine u_ifT (pc := 4) (tgt := 14) (dec_at lsk_188 (k := 2) rfl) rfl (c0_eq (by decide)) (fun _ => ?_) (fun e => absurd e (by decide))
    refine u_ldc2 (x := (-1)) (pc := 14) (dec_at lsk_188 (k := 6) rfl) con_0_170 (by decide) ?_
    exact u_rL (pc := 17) (dec_at lsk_188 (k := 7) rfl) rfl h
/-- method 199 -/
def K_199 (d pc : Nat) (lv : ev_L) (st : List Value) (u : uS) (Q : Int → uS → Prop) : Prop := okU d 0 7 false (some .int) prog_1_method_21_code (qI Q) pc lv st u
theorem e_199 {d : Nat} {Q : Int → uS → Prop} {u : uS} {l1 l2 : Int} (h : (rI (u.1 6 1)) ∧ (if 0 < u.1 6 1 then ((rI l1) ∧ (if l1 < 0 then (Q (-1) u) else (if l1 < 2 then ((rI l2) ∧ (if l2 < 0 then (Q (-1) u) else (if 1 < l2 then (Q (-1) u) else (if l2 = 0 then (cL (d + 1) 138 [.ref 0, iV l1] u (fun r11 u10 => if land r11 (u.1 (59 + 2 * l1.toNat) 1) = 0 then (Q 0 u10) else (Q 1 u10))) else (cL (d + 1) 138 [.ref 0, iV l1] u (fun r14 u13 => if land r14 (lxor (u.1 (59 + 2 * l1.toNat) 1) (-1)) = 0 then (Q 0 u13) else (Q 1 u13))))))) else (Q (-1) u)))) else (Q (-1) u))) : cI (d + 2) 199 [.ref 0, iV l1, iV l2] u Q := by
  refine u_of me_199 (Nat.le_of_ble_eq_true rfl) ?_
  refine u_ld (v := .ref 0) (pc := 0) (dec_at lsk_199 (k := 0) rfl) rfl ?_
  refine u_cvI (As := []) (rb := 0) (st2 := []) (pc := 1) (dec_at lsk_199 (k := 1) rfl) m_0_206 (Or.inl rfl) rfl (Nat.le_of_ble_eq_true rfl) sx_0 me_125 rfl ?_ (fun _ _ h_ => h_)
  refine u_of me_125 (Nat.le_of_ble_eq_true rfl) ?_
  refine u_ld (v := .ref 0) (pc := 0) (dec_at lsk_125 (k := 0) rfl) rfl ?_
  refine u_gS (o := 6) (p := 6) (pc := 1) (dec_at lsk_125 (k := 1) rfl) f_0_23 sx_0 rfl rfl ?_
  refine u_gI (z := 1) (pc := 4) (dec_at lsk_125 (k := 2) rfl) f_0_124 sx_6 rfl rfl ?_
  have g1 := h.1
  have h := h.2
  refine u_ifF (pc := 7) (tgt := 14) (dec_at lsk_125 (k := 3) rfl) rfl (c0_le g1) (fun e2 => ?_) (fun e2 => ?_)
  · have h := ifT e2 h
    refine u_ld (v := iV 1) (pc := 10) (dec_at lsk_125 (k := 4) rfl) rfl ?_
    refine u_goto (pc := 11) (tgt := 15) (dec_at lsk_125 (k := 5) rfl) rfl ?_
    refine u_rZ (pc := 15) (dec_at lsk_125 (k := 7) rfl) rfl (by decide) ?_
    refine u_ifT (pc := 4) (tgt := 23) (dec_at lsk_199 (k := 2) rfl) rfl (c0_eq (by decide)) (fun e => absurd e (by decide)) (fun _ => ?_)
    refine u_ld (v := iV l1) (pc := 7) (dec_at lsk_199 (k := 3) rfl) rfl ?_
    refine u_csI (As := [iV l1]) (st2 := []) (pc := 8) (dec_at lsk_199 (k := 4) rfl) m_0_126 (Or.inl rfl) rfl (Nat.le_of_ble_eq_true rfl) ?_ (fun _ _ h_ => h_)
    refine u_of me_63 (Nat.le_of_ble_eq_true rfl) ?_
    refine u_ld (v := iV l1) (pc := 0) (dec_at lsk_63 (k := 0) rfl) rfl ?_
    have g3 := h.1
    have h := h.2
    refine u_ifT (pc := 1) (tgt := 13) (dec_at lsk_63 (k := 1) rfl) rfl (c0_lt g3) (fun e4 => ?_) (fun e4 => ?_)
    · have h := ifT e4 h
      refine u_ld (v := iV 0) (pc := 13) (dec_at lsk_63 (k := 7) rfl) rfl ?_
      refine u_rZ (pc := 14) (dec_at lsk_63 (k := 8) rfl) rfl (by decide) ?_
      refine u_ifT (pc := 11) (tgt := 23) (dec_at lsk_199 (k := 5) rfl) rfl (c0_eq (by decide)) (fun _ => ?_) (fun e => absurd e (by decide))
      refine u_ld (v := iV (-1)) (pc := 23) (dec_at lsk_199 (k := 11) rfl) rfl ?_
      exact u_rI (pc := 24) (dec_at lsk_199 (k := 12) rfl) rfl h
    · have h := ifF e4 h
      refine u_ld (v := iV l1) (pc := 4) (dec_at lsk_63 (k := 2) rfl) rfl ?_
      refine u_ld (v := iV 2) (pc := 5) (dec_at lsk_63 (k := 3) rfl) rfl ?_
      refine u_icF (pc := 6) (tgt := 13) (dec_at lsk_63 (k := 4) rfl) rfl (ci_ge g3 (by decide)) (fun e5 => ?_) (fun e5 => ?_)
      · have h := ifT e5 h
        refine u_ld (v := iV 1) (pc := 9) (dec_at lsk_63 (k := 5) rfl) rfl ?_
        refine u_goto (pc := 10) (tgt := 14) (dec_at lsk_63 (k := 6) rfl) rfl ?_
        refine u_rZ (pc := 14) (dec_at lsk_63 (k := 8) rfl) rfl (by decide) ?_
        refine u_ifT (pc := 11) (tgt := 23) (dec_at lsk_199 (k := 5) rfl) rfl (c0_eq (by decide)) (fun e => absurd e (by decide)) (fun _ => ?_)
        refine u_ld (v := iV l2) (pc := 14) (dec_at lsk_199 (k := 6) rfl) rfl ?_
        have g6 := h.1
        have h := h.2
        refine u_ifT (pc := 15) (tgt := 23) (dec_at lsk_199 (k := 7) rfl) rfl (c0_lt g6) (fun e7 => ?_) (fun e7 => ?_)
        · have h := ifT e7 h
          refine u_ld (v := iV (-1)) (pc := 23) (dec_at lsk_199 (k := 11) rfl) rfl ?_
          exact u_rI (pc := 24) (dec_at lsk_199 (k := 12) rfl) rfl h
        · have h := ifF e7 h
          refine u_ld (v := iV l2) (pc := 18) (dec_at lsk_199 (k := 8) rfl) rfl ?_
          refine u_ld (v := iV 1) (pc := 19) (dec_at lsk_199 (k := 9) rfl) rfl ?_
          refine u_icF (pc := 20) (tgt := 25) (dec_at lsk_199 (k := 10) rfl) rfl (ci_le g6 (by decide)) (fun e8 => ?_) (fun e8 => ?_)
          · have h := ifT e8 h
            refine u_ld (v := iV (-1)) (pc := 23) (dec_at lsk_199 (k := 11) rfl) rfl ?_
            exact u_rI (pc := 24) (dec_at lsk_199 (k := 12) rfl) rfl h
          · have h := ifF e8 h
            refine u_ld (v := .ref 0) (pc := 25) (dec_at lsk_199 (k := 13) rfl) rfl ?_
            refine u_gS (o := 58) (p := 58) (pc := 26) (dec_at lsk_199 (k := 14) rfl) f_0_47 sx_0 rfl rfl ?_
            refine u_ld (v := iV l1) (pc := 29) (dec_at lsk_199 (k := 15) rfl) rfl ?_
            refine u_aald3 (r := 59 + 2 * l1.toNat) (pc := 30) (dec_at lsk_199 (k := 16) rfl) sx_58 (Int.not_lt.mp e4) e5 rfl ?_
            refine u_gL (z := 1) (pc := 31) (dec_at lsk_199 (k := 17) rfl) f_0_240 (sr_58 (Int.not_lt.mp e4) e5) rfl rfl ?_
            refine u_sto (lv' := [.ref 0, iV l1, iV l2, lV (u.1 (59 + 2 * l1.toNat) 1), .retAddr 0, .retAddr 0, .retAddr 0]) (pc := 34) (dec_at lsk_199 (k := 18) rfl) rfl ?_
            refine u_ld (v := iV l2) (pc := 35) (dec_at lsk_199 (k := 19) rfl) rfl ?_
            refine u_ifF (pc := 36) (tgt := 43) (dec_at lsk_199 (k := 20) rfl) rfl (c0_ne g6) (fun e9 => ?_) (fun e9 => ?_)
            · have h := ifT e9 h
              refine u_ld (v := lV (u.1 (59 + 2 * l1.toNat) 1)) (pc := 39) (dec_at lsk_199 (k := 21) rfl) rfl ?_
              refine u_goto (pc := 40) (tgt := 48) (dec_at lsk_199 (k := 22) rfl) rfl ?_
              refine u_sto (lv' := [.ref 0, iV l1, iV l2, lV (u.1 (59 + 2 * l1.toNat) 1), .retAddr 0, lV (u.1 (59 + 2 * l1.toNat) 1), .retAddr 0]) (pc := 48) (dec_at lsk_199 (k := 26) rfl) rfl ?_
              refine u_ld (v := .ref 0) (pc := 50) (dec_at lsk_199 (k := 27) rfl) rfl ?_
              refine u_ld (v := iV l1) (pc := 51) (dec_at lsk_199 (k := 28) rfl) rfl ?_
              refine u_cvL (As := [iV l1]) (rb := 0) (st2 := []) (pc := 52) (dec_at lsk_199 (k := 29) rfl) m_0_236 (Or.inl rfl) rfl (Nat.le_of_ble_eq_true rfl) sx_0 me_138 rfl h (fun r11 u10 h => ?_)
              refine u_ld (v := lV (u.1 (59 + 2 * l1.toNat) 1)) (pc := 55) (dec_at lsk_199 (k := 30) rfl) rfl ?_
              refine u_land (pc := 57) (dec_at lsk_199 (k := 31) rfl) ?_
              refine u_cl (x := 0) (pc := 58) (dec_at lsk_199 (k := 32) rfl) rfl (by decide) ?_
              refine u_st (st' := [.int (lg_cmp (Int64.ofInt (land r11 (u.1 (59 + 2 * l1.toNat) 1))) (Int64.ofInt 0))]) (pc := 59) (dec_at lsk_199 (k := 33) rfl) rfl ?_
              refine u_ifT (pc := 60) (tgt := 67) (dec_at lsk_199 (k := 34) rfl) rfl (cl_eq (rl_toInt _) (by decide)) (fun e12 => ?_) (fun e12 => ?_)
              · have h := ifT e12 h
                refine u_ld (v := iV 0) (pc := 67) (dec_at lsk_199 (k := 37) rfl) rfl ?_
                exact u_rI (pc := 68) (dec_at lsk_199 (k := 38) rfl) rfl h
              · have h := ifF e12 h
                refine u_ld (v := iV 1) (pc := 63) (dec_at lsk_199 (k := 35) rfl) rfl ?_
                refine u_goto (pc := 64) (tgt := 68) (dec_at lsk_199 (k := 36) rfl) rfl ?_
                exact u_rI (pc := 68) (dec_at lsk_199 (k := 38) rfl) rfl h
            · have h := ifF e9 h
              refine u_ld (v := lV (u.1 (59 + 2 * l1.toNat) 1)) (pc := 43) (dec_at lsk_199 (k := 23) rfl) rfl ?_
              refine u_ldc2 (x := (-1)) (pc := 44) (dec_at lsk_199 (k := 24) rfl) con_0_170 (by decide) ?_
              refine u_lxor (pc := 47) (dec_at lsk_199 (k := 25) rfl) ?_
              refine u_sto (lv' := [.ref 0, iV l1, iV l2, lV (u.1 (59 + 2 * l1.toNat) 1), .retAddr 0, lV (lxor (u.1 (59 + 2 * l1.toNat) 1) (-1)), .retAddr 0]) (pc := 48) (dec_at lsk_199 (k := 26) rfl) rfl ?_
              refine u_ld (v := .ref 0) (pc := 50) (dec_at lsk_199 (k := 27) rfl) rfl ?_
              refine u_ld (v := iV l1) (pc := 51) (dec_at lsk_199 (k := 28) rfl) rfl ?_
              refine u_cvL (As := [iV l1]) (rb := 0) (st2 := []) (pc := 52) (dec_at lsk_199 (k := 29) rfl) m_0_236 (Or.inl rfl) rfl (Nat.le_of_ble_eq_true rfl) sx_0 me_138 rfl h (fun r14 u13 h => ?_)
              refine u_ld (v := lV (lxor (u.1 (59 + 2 * l1.toNat) 1) (-1))) (pc := 55) (dec_at lsk_199 (k := 30) rfl) rfl ?_
              refine u_land (pc := 57) (dec_at lsk_199 (k := 31) rfl) ?_
              refine u_cl (x := 0) (pc := 58) (dec_at lsk_199 (k := 32) rfl) rfl (by decide) ?_
              refine u_st (st' := [.int (lg_cmp (Int64.ofInt (land r14 (lxor (u.1 (59 + 2 * l1.toNat) 1) (-1)))) (Int64.ofInt 0))]) (pc := 59) (dec_at lsk_199 (k := 33) rfl) rfl ?_
              refine u_ifT (pc := 60) (tgt := 67) (dec_at lsk_199 (k := 34) rfl) rfl (cl_eq (rl_toInt _) (by decide)) (fun e15 => ?_) (fun e15 => ?_)
              · have h := ifT e15 h
                refine u_ld (v := iV 0) (pc := 67) (dec_at lsk_199 (k := 37) rfl) rfl ?_
                exact u_rI (pc := 68) (dec_at lsk_199 (k := 38) rfl) rfl h
              · have h := ifF e15 h
                refine u_ld (v := iV 1) (pc := 63) (dec_at lsk_199 (k := 35) rfl) rfl ?_
                refine u_goto (pc := 64) (tgt := 68) (dec_at lsk_199 (k := 36) rfl) rfl ?_
                exact u_rI (pc := 68) (dec_at lsk_199 (k := 38) rfl) rfl h
      · have h := ifF e5 h
        refine u_ld (v := iV 0) (pc := 13) (dec_at lsk_63 (k := 7) rfl) rfl ?_
        refine u_rZ (pc := 14) (dec_at lsk_63 (k := 8) rfl) rfl (by decide) ?_
        refine u_ifT (pc := 11) (tgt := 23) (dec_at lsk_199 (k := 5) rfl) rfl (c0_eq (by decide)) (fun _ => ?_) (fun e => absurd e (by decide))
        refine u_ld (v := iV (-1)) (pc := 23) (dec_at lsk_199 (k := 11) rfl) rfl ?_
        exact u_rI (pc := 24) (dec_at lsk_199 (k := 12) rfl) rfl h
  · have h := ifF e2 h
    refine u_ld (v := iV 0) (pc := 14) (dec_at lsk_125 (k := 6) rfl) rfl ?_
    refine u_rZ (pc := 15) (dec_at lsk_125 (k := 7) rfl) rfl (by decide) ?_
    refine u_ifT (pc := 4) (tgt := 23) (dec_at lsk_199 (k := 2) rfl) rfl (c0_eq (by decide)) (fun _ => ?_) (fun e => absurd e (by decide))
    refine u_ld (v := iV (-1)) (pc := 23) (dec_at lsk_199 (k := 11) rfl) rfl ?_
    exact u_rI (pc := 24) (dec_at lsk_199 (k := 12) rfl) rfl h
